/-! BLOCKS, by program. -/
-- 201 AfterTheLastModel.leaves (I)V
theorem b201_0 {d : Nat} {P : sM → sG → Prop} {M : sM} {G : sG} {a0 : Nat} {x1 : Int} (h1 : sI (5 * x1)) (h2 : sI (136 + (5 * x1))) (h3 : 0 ≤ 136 + (5 * x1) ∧ 136 + (5 * x1) < 274) (h4 : sI (5 * x1)) (h5 : sI (136 + (5 * x1))) (h6 : sI ((136 + (5 * x1)) + 1)) (h7 : 0 ≤ (136 + (5 * x1)) + 1 ∧ (136 + (5 * x1)) + 1 < 274) (h8 : sI (5 * x1)) (h9 : sI (136 + (5 * x1))) (h10 : sI ((136 + (5 * x1)) + 2)) (h11 : 0 ≤ (136 + (5 * x1)) + 2 ∧ (136 + (5 * x1)) + 2 < 274) (kk : P (sUpd (sUpd (sUpd M (a0 + 11) (136 + (5 * x1)).toNat (-1)) (a0 + 11) ((136 + (5 * x1)) + 1).toNat (-1)) (a0 + 11) ((136 + (5 * x1)) + 2).toNat 0) G) : sW (sC d) 201 (QV P) 0 [vO 12 a0, vI x1] [] M G 0 0 := by
  refine q_aload_n 1 rfl (show sCode 201 0 = some (.aload_n 0, 1) by decide +kernel) rfl (Nat.le_of_ble_eq_true rfl) ?_
  refine q_getR (vA 0 (a0 + 11) 274) 4 rfl (show sCode 201 1 = some (.getfield 42, 3) by decide +kernel) (show sFR (sKo 201).1 42 = some (12, 23) by decide +kernel) (by decide +kernel) (Or.inl (Or.inl rfl)) rfl ?_
  refine q_sipush 7 rfl (show sCode 201 4 = some (.sipush 136, 3) by decide +kernel) ⟨by decide, by decide⟩ (by decide +kernel) ?_
  refine q_iconst 8 rfl (show sCode 201 7 = some (.iconst 5, 1) by decide +kernel) ⟨by decide, by decide⟩ ?_
  refine q_iload_n 9 rfl (show sCode 201 8 = some (.iload_n 1, 1) by decide +kernel) rfl ?_
  refine q_imul 10 rfl (show sCode 201 9 = some (.imul, 1) by decide +kernel) h1 ?_
  refine q_iadd 11 rfl (show sCode 201 10 = some (.iadd, 1) by decide +kernel) h2 ?_
  refine q_iconst 12 rfl (show sCode 201 11 = some (.iconst (-1), 1) by decide +kernel) ⟨by decide, by decide⟩ ?_
  refine q_iast 13 rfl (show sCode 201 12 = some (.iastore, 1) by decide +kernel) h3 ?_
  refine q_aload_n 14 rfl (show sCode 201 13 = some (.aload_n 0, 1) by decide +kernel) rfl (Nat.le_of_ble_eq_true rfl) ?_
  refine q_getR (vA 0 (a0 + 11) 274) 17 rfl (show sCode 201 14 = some (.getfield 42, 3) by decide +kernel) (show sFR (sKo 201).1 42 = some (12, 23) by decide +kernel) (by decide +kernel) (Or.inl (Or.inl rfl)) rfl ?_
  refine q_sipush 20 rfl (show sCode 201 17 = some (.sipush 136, 3) by decide +kernel) ⟨by decide, by decide⟩ (by decide +kernel) ?_
  refine q_iconst 21 rfl (show sCode 201 20 = some (.iconst 5, 1) by decide +kernel) ⟨by decide, by decide⟩ ?_
  refine q_iload_n 22 rfl (show sCode 201 21 = some (.iload_n 1, 1) by decide +kernel) rfl ?_
  refine q_imul 23 rfl (show sCode 201 22 = some (.imul, 1) by decide +kernel) h4 ?_
  refine q_iadd 24 rfl (show sCode 201 23 = some (.iadd, 1) by decide +kernel) h5 ?_
  refine q_iconst 25 rfl (show sCode 201 24 = some (.iconst 1, 1) by decide +kernel) ⟨by decide, by decide⟩ ?_
  refine q_iadd 26 rfl (show sCode 201 25 = some (.iadd, 1) by decide +kernel) h6 ?_
  refine q_iconst 27 rfl (show sCode 201 26 = some (.iconst (-1), 1) by decide +kernel) ⟨by decide, by decide⟩ ?_
  refine q_iast 28 rfl (show sCode 201 27 = some (.iastore, 1) by decide +kernel) h7 ?_
  refine q_aload_n 29 rfl (show sCode 201 28 = some (.aload_n 0, 1) by decide +kernel) rfl (Nat.le_of_ble_eq_true rfl) ?_
  refine q_getR (vA 0 (a0 + 11) 274) 32 rfl (show sCode 201 29 = some (.getfield 42, 3) by decide +kernel) (show sFR (sKo 201).1 42 = some (12, 23) by decide +kernel) (by decide +kernel) (Or.inl (Or.inl rfl)) rfl ?_
  refine q_sipush 35 rfl (show sCode 201 32 = some (.sipush 136, 3) by decide +kernel) ⟨by decide, by decide⟩ (by decide +kernel) ?_
  refine q_iconst 36 rfl (show sCode 201 35 = some (.iconst 5, 1) by decide +kernel) ⟨by decide, by decide⟩ ?_
  refine q_iload_n 37 rfl (show sCode 201 36 = some (.iload_n 1, 1) by decide +kernel) rfl ?_
  refine q_imul 38 rfl (show sCode 201 37 = some (.imul, 1) by decide +kernel) h8 ?_
  refine q_iadd 39 rfl (show sCode 201 38 = some (.iadd, 1) by decide +kernel) h9 ?_
  refine q_iconst 40 rfl (show sCode 201 39 = some (.iconst 2, 1) by decide +kernel) ⟨by decide, by decide⟩ ?_
  refine q_iadd 41 rfl (show sCode 201 40 = some (.iadd, 1) by decide +kernel) h10 ?_
  refine q_iconst 42 rfl (show sCode 201 41 = some (.iconst 0, 1) by decide +kernel) ⟨by decide, by decide⟩ ?_
  refine q_iast 43 rfl (show sCode 201 42 = some (.iastore, 1) by decide +kernel) h11 ?_
  exact q_vret (show sCode 201 43 = some (.return_, 1) by decide +kernel) (by decide +kernel) (by decide +kernel) kk
-- 202 AfterTheLastModel.house (II)I
theorem b202_0 {d : Nat} {Q : Option sV → sM → sG → Prop} {M : sM} {G : sG} {a0 : Nat} {x1 : Int} {x2 : Int}  (kk : sC d 203 [vO 12 a0, vI x1] M G (QI (fun r M1 G1 => sW (sC d) 202 Q 5 [vO 12 a0, vI x1, vI x2, vN, vN] (vI r :: []) M1 G1 0 0))) : sW (sC d) 202 Q 0 [vO 12 a0, vI x1, vI x2, vN, vN] [] M G 0 0 := by
  refine q_aload_n 1 rfl (show sCode 202 0 = some (.aload_n 0, 1) by decide +kernel) rfl (Nat.le_of_ble_eq_true rfl) ?_
  refine q_iload_n 2 rfl (show sCode 202 1 = some (.iload_n 1, 1) by decide +kernel) rfl ?_
  exact q_virtI [vI x1] 5 rfl (show sCode 202 2 = some (.invokevirtual 291, 3) by decide +kernel) (show sMR (sKo 202).1 291 = some 203 by decide +kernel) (show 203 < 1000 ∧ sStat 203 = false ∧ sIni 203 = false ∧ sKo 203 = (12, 1, 2, 0, 0) by decide +kernel) rfl (Or.inl rfl) rfl (Nat.le_of_ble_eq_true rfl) rfl rfl rfl (by decide +kernel) kk
theorem b202_5 {d : Nat} {Q : Option sV → sM → sG → Prop} {M : sM} {G : sG} {a0 : Nat} {x1 : Int} {x2 : Int} {s0 : Int}  (k1 : s0 = 0 → sW (sC d) 202 Q 20 [vN, vN, vN, vN, vN] [] M G 0 0) (k2 : s0 ≠ 0 → sW (sC d) 202 Q 8 [vO 12 a0, vI x1, vI x2, vN, vN] [] M G 0 0) : sW (sC d) 202 Q 5 [vO 12 a0, vI x1, vI x2, vN, vN] [vI s0] M G 0 0 := by
  refine q_ifeq 20 8 rfl (by decide) (show sCode 202 5 = some (.ifCond .eq 15, 3) by decide +kernel) ?_ ?_
  · intro q; refine q_forget (L' := [vN, vI x1, vI x2, vN, vN]) 0 rfl ?_; refine q_forget (L' := [vN, vN, vI x2, vN, vN]) 1 rfl ?_; refine q_forget (L' := [vN, vN, vN, vN, vN]) 2 rfl ?_; exact k1 q
  · intro q; exact k2 q
theorem b202_8 {d : Nat} {Q : Option sV → sM → sG → Prop} {M : sM} {G : sG} {a0 : Nat} {x1 : Int} {x2 : Int}  (kk : sC d 183 [vL x2, vL 0, vL 5] M G (QI (fun r M1 G1 => sW (sC d) 202 Q 17 [vO 12 a0, vI x1, vI x2, vN, vN] (vI r :: []) M1 G1 0 0))) : sW (sC d) 202 Q 8 [vO 12 a0, vI x1, vI x2, vN, vN] [] M G 0 0 := by
  refine q_iload_n 9 rfl (show sCode 202 8 = some (.iload_n 2, 1) by decide +kernel) rfl ?_
  refine q_i2l 10 rfl (show sCode 202 9 = some (.i2l, 1) by decide +kernel) ?_
  refine q_lconst 11 rfl (show sCode 202 10 = some (.lconst 0, 1) by decide +kernel) ?_
  refine q_ldc2_w 14 rfl (show sCode 202 11 = some (.ldc2_w 294, 3) by decide +kernel) (show sLR (sKo 202).1 294 = some 5 by decide +kernel) ⟨by decide, by decide⟩ ?_
  exact q_statI [vL x2, vL 0, vL 5] 17 rfl (show sCode 202 14 = some (.invokestatic 127, 3) by decide +kernel) (show sMR (sKo 202).1 127 = some 183 by decide +kernel) (show 183 < 1000 ∧ sStat 183 = true ∧ sKo 183 = (12, 3, 2, 0, 0) by decide +kernel) rfl rfl (Nat.le_of_ble_eq_true rfl) rfl rfl rfl (by decide +kernel) kk
theorem b202_17 {d : Nat} {Q : Option sV → sM → sG → Prop} {M : sM} {G : sG} {a0 : Nat} {x1 : Int} {x2 : Int} {s0 : Int}  (k1 : s0 ≠ 0 → sW (sC d) 202 Q 22 [vO 12 a0, vI x1, vI x2, vN, vN] [] M G 0 0) (k2 : s0 = 0 → sW (sC d) 202 Q 20 [vN, vN, vN, vN, vN] [] M G 0 0) : sW (sC d) 202 Q 17 [vO 12 a0, vI x1, vI x2, vN, vN] [vI s0] M G 0 0 := by
  refine q_ifne 22 20 rfl (by decide) (show sCode 202 17 = some (.ifCond .ne 5, 3) by decide +kernel) ?_ ?_
  · intro q; exact k1 q
  · intro q; refine q_forget (L' := [vN, vI x1, vI x2, vN, vN]) 0 rfl ?_; refine q_forget (L' := [vN, vN, vI x2, vN, vN]) 1 rfl ?_; refine q_forget (L' := [vN, vN, vN, vN, vN]) 2 rfl ?_; exact k2 q
theorem b202_20 {d : Nat} {P : Int → sM → sG → Prop} {M : sM} {G : sG}   (kk : P (-1) M G) : sW (sC d) 202 (QI P) 20 [vN, vN, vN, vN, vN] [] M G 0 0 := by
  refine q_iconst 21 rfl (show sCode 202 20 = some (.iconst (-1), 1) by decide +kernel) ⟨by decide, by decide⟩ ?_
  exact q_iret (show sCode 202 21 = some (.ireturn, 1) by decide +kernel) (by decide +kernel) (by decide +kernel) kk
theorem b202_22 {d : Nat} {Q : Option sV → sM → sG → Prop} {M : sM} {G : sG} {a0 : Nat} {x1 : Int} {x2 : Int}  (k1 : 3 ≤ x2 → sW (sC d) 202 Q 34 [vO 12 a0, vI x1, vI x2, vN, vN] [] M G 0 0) (k2 : x2 < 3 → sW (sC d) 202 Q 27 [vO 12 a0, vI x1, vI x2, vN, vN] [] M G 0 0) : sW (sC d) 202 Q 22 [vO 12 a0, vI x1, vI x2, vN, vN] [] M G 0 0 := by
  refine q_iload_n 23 rfl (show sCode 202 22 = some (.iload_n 2, 1) by decide +kernel) rfl ?_
  refine q_iconst 24 rfl (show sCode 202 23 = some (.iconst 3, 1) by decide +kernel) ⟨by decide, by decide⟩ ?_
  refine q_icmpge 34 27 rfl (by decide) (show sCode 202 24 = some (.if_icmp .ge 10, 3) by decide +kernel) ?_ ?_
  · intro q; exact k1 q
  · intro q; exact k2 q
theorem b202_27 {d : Nat} {Q : Option sV → sM → sG → Prop} {M : sM} {G : sG} {a0 : Nat} {x1 : Int} {x2 : Int}  (kk : sC d 204 [vO 12 a0, vI x1, vI x2] M G (QI (fun r M1 G1 => sW (sC d) 202 Q 33 [vN, vN, vN, vN, vN] (vI r :: []) M1 G1 0 0))) : sW (sC d) 202 Q 27 [vO 12 a0, vI x1, vI x2, vN, vN] [] M G 0 0 := by
  refine q_aload_n 28 rfl (show sCode 202 27 = some (.aload_n 0, 1) by decide +kernel) rfl (Nat.le_of_ble_eq_true rfl) ?_
  refine q_iload_n 29 rfl (show sCode 202 28 = some (.iload_n 1, 1) by decide +kernel) rfl ?_
  refine q_iload_n 30 rfl (show sCode 202 29 = some (.iload_n 2, 1) by decide +kernel) rfl ?_
  refine q_forget (L' := [vN, vI x1, vI x2, vN, vN]) 0 rfl ?_
  refine q_forget (L' := [vN, vN, vI x2, vN, vN]) 1 rfl ?_
  refine q_forget (L' := [vN, vN, vN, vN, vN]) 2 rfl ?_
  exact q_virtI [vI x1, vI x2] 33 rfl (show sCode 202 30 = some (.invokevirtual 284, 3) by decide +kernel) (show sMR (sKo 202).1 284 = some 204 by decide +kernel) (show 204 < 1000 ∧ sStat 204 = false ∧ sIni 204 = false ∧ sKo 204 = (12, 2, 1, 0, 0) by decide +kernel) rfl (Or.inl rfl) rfl (Nat.le_of_ble_eq_true rfl) rfl rfl rfl (by decide +kernel) kk
theorem b202_33 {d : Nat} {P : Int → sM → sG → Prop} {M : sM} {G : sG} {s0 : Int}  (kk : P s0 M G) : sW (sC d) 202 (QI P) 33 [vN, vN, vN, vN, vN] [vI s0] M G 0 0 := by
  exact q_iret (show sCode 202 33 = some (.ireturn, 1) by decide +kernel) (by decide +kernel) (by decide +kernel) kk
theorem b202_34 {d : Nat} {Q : Option sV → sM → sG → Prop} {M : sM} {G : sG} {a0 : Nat} {x1 : Int} {x2 : Int}  (k1 : x2 ≠ 3 → sW (sC d) 202 Q 45 [vO 12 a0, vI x1, vI x2, vN, vN] [] M G 0 0) (k2 : x2 = 3 → sW (sC d) 202 Q 39 [vO 12 a0, vI x1, vN, vN, vN] [] M G 0 0) : sW (sC d) 202 Q 34 [vO 12 a0, vI x1, vI x2, vN, vN] [] M G 0 0 := by
  refine q_iload_n 35 rfl (show sCode 202 34 = some (.iload_n 2, 1) by decide +kernel) rfl ?_
  refine q_iconst 36 rfl (show sCode 202 35 = some (.iconst 3, 1) by decide +kernel) ⟨by decide, by decide⟩ ?_
  refine q_icmpne 45 39 rfl (by decide) (show sCode 202 36 = some (.if_icmp .ne 9, 3) by decide +kernel) ?_ ?_
  · intro q; exact k1 q
  · intro q; refine q_forget (L' := [vO 12 a0, vI x1, vN, vN, vN]) 2 rfl ?_; exact k2 q
theorem b202_39 {d : Nat} {Q : Option sV → sM → sG → Prop} {M : sM} {G : sG} {a0 : Nat} {x1 : Int}  (kk : sC d 205 [vO 12 a0, vI x1] M G (QI (fun r M1 G1 => sW (sC d) 202 Q 44 [vN, vN, vN, vN, vN] (vI r :: []) M1 G1 0 0))) : sW (sC d) 202 Q 39 [vO 12 a0, vI x1, vN, vN, vN] [] M G 0 0 := by
  refine q_aload_n 40 rfl (show sCode 202 39 = some (.aload_n 0, 1) by decide +kernel) rfl (Nat.le_of_ble_eq_true rfl) ?_
  refine q_iload_n 41 rfl (show sCode 202 40 = some (.iload_n 1, 1) by decide +kernel) rfl ?_
  refine q_forget (L' := [vN, vI x1, vN, vN, vN]) 0 rfl ?_
  refine q_forget (L' := [vN, vN, vN, vN, vN]) 1 rfl ?_
  exact q_virtI [vI x1] 44 rfl (show sCode 202 41 = some (.invokevirtual 296, 3) by decide +kernel) (show sMR (sKo 202).1 296 = some 205 by decide +kernel) (show 205 < 1000 ∧ sStat 205 = false ∧ sIni 205 = false ∧ sKo 205 = (12, 1, 1, 0, 0) by decide +kernel) rfl (Or.inl rfl) rfl (Nat.le_of_ble_eq_true rfl) rfl rfl rfl (by decide +kernel) kk
theorem b202_44 {d : Nat} {P : Int → sM → sG → Prop} {M : sM} {G : sG} {s0 : Int}  (kk : P s0 M G) : sW (sC d) 202 (QI P) 44 [vN, vN, vN, vN, vN] [vI s0] M G 0 0 := by
  exact q_iret (show sCode 202 44 = some (.ireturn, 1) by decide +kernel) (by decide +kernel) (by decide +kernel) kk
theorem b202_45 {d : Nat} {Q : Option sV → sM → sG → Prop} {M : sM} {G : sG} {a0 : Nat} {x1 : Int} {x2 : Int}  (kk : sW (sC d) 202 Q 50 [vO 12 a0, vI x1, vI x2, vI (-1), vI 0] [] M G 0 0) : sW (sC d) 202 Q 45 [vO 12 a0, vI x1, vI x2, vN, vN] [] M G 0 0 := by
  refine q_iconst 46 rfl (show sCode 202 45 = some (.iconst (-1), 1) by decide +kernel) ⟨by decide, by decide⟩ ?_
  refine q_istore_n [vO 12 a0, vI x1, vI x2, vI (-1), vN] 47 rfl (show sCode 202 46 = some (.istore_n 3, 1) by decide +kernel) (Nat.lt_of_lt_of_le (Nat.lt_succ_self _) (Nat.le_of_ble_eq_true rfl)) rfl rfl ?_
  refine q_iconst 48 rfl (show sCode 202 47 = some (.iconst 0, 1) by decide +kernel) ⟨by decide, by decide⟩ ?_
  refine q_istore [vO 12 a0, vI x1, vI x2, vI (-1), vI 0] 50 rfl (show sCode 202 48 = some (.istore 4, 2) by decide +kernel) (Nat.lt_of_lt_of_le (Nat.lt_succ_self _) (Nat.le_of_ble_eq_true rfl)) rfl rfl ?_
  exact kk
theorem b202_50 {d : Nat} {Q : Option sV → sM → sG → Prop} {M : sM} {G : sG} {a0 : Nat} {x1 : Int} {x2 : Int} {x3 : Int} {x4 : Int}  (k1 : 12 ≤ x4 → sW (sC d) 202 Q 115 [vN, vN, vN, vI x3, vN] [] M G 0 0) (k2 : x4 < 12 → sW (sC d) 202 Q 57 [vO 12 a0, vI x1, vI x2, vI x3, vI x4] [] M G 0 0) : sW (sC d) 202 Q 50 [vO 12 a0, vI x1, vI x2, vI x3, vI x4] [] M G 0 0 := by
  refine q_iload 52 rfl (show sCode 202 50 = some (.iload 4, 2) by decide +kernel) rfl ?_
  refine q_bipush 54 rfl (show sCode 202 52 = some (.bipush 12, 2) by decide +kernel) ⟨by decide, by decide⟩ (by decide +kernel) ?_
  refine q_icmpge 115 57 rfl (by decide) (show sCode 202 54 = some (.if_icmp .ge 61, 3) by decide +kernel) ?_ ?_
  · intro q; refine q_forget (L' := [vN, vI x1, vI x2, vI x3, vI x4]) 0 rfl ?_; refine q_forget (L' := [vN, vN, vI x2, vI x3, vI x4]) 1 rfl ?_; refine q_forget (L' := [vN, vN, vN, vI x3, vI x4]) 2 rfl ?_; refine q_forget (L' := [vN, vN, vN, vI x3, vN]) 4 rfl ?_; exact k1 q
  · intro q; exact k2 q
theorem b202_57 {d : Nat} {Q : Option sV → sM → sG → Prop} {M : sM} {G : sG} {a0 : Nat} {x1 : Int} {x2 : Int} {x3 : Int} {x4 : Int}  (kk : sC d 206 [vO 12 a0, vI x4, vI 0] M G (QI (fun r M1 G1 => sW (sC d) 202 Q 64 [vO 12 a0, vI x1, vI x2, vI x3, vI x4] (vI r :: []) M1 G1 0 0))) : sW (sC d) 202 Q 57 [vO 12 a0, vI x1, vI x2, vI x3, vI x4] [] M G 0 0 := by
  refine q_aload_n 58 rfl (show sCode 202 57 = some (.aload_n 0, 1) by decide +kernel) rfl (Nat.le_of_ble_eq_true rfl) ?_
  refine q_iload 60 rfl (show sCode 202 58 = some (.iload 4, 2) by decide +kernel) rfl ?_
  refine q_iconst 61 rfl (show sCode 202 60 = some (.iconst 0, 1) by decide +kernel) ⟨by decide, by decide⟩ ?_
  exact q_virtI [vI x4, vI 0] 64 rfl (show sCode 202 61 = some (.invokevirtual 280, 3) by decide +kernel) (show sMR (sKo 202).1 280 = some 206 by decide +kernel) (show 206 < 1000 ∧ sStat 206 = false ∧ sIni 206 = false ∧ sKo 206 = (12, 2, 1, 0, 0) by decide +kernel) rfl (Or.inl rfl) rfl (Nat.le_of_ble_eq_true rfl) rfl rfl rfl (by decide +kernel) kk
theorem b202_64 {d : Nat} {Q : Option sV → sM → sG → Prop} {M : sM} {G : sG} {a0 : Nat} {x1 : Int} {x2 : Int} {x3 : Int} {x4 : Int} {s0 : Int}  (k1 : s0 ≠ x1 → sW (sC d) 202 Q 109 [vO 12 a0, vI x1, vI x2, vI x3, vI x4] [] M G 0 0) (k2 : s0 = x1 → sW (sC d) 202 Q 68 [vO 12 a0, vI x1, vI x2, vI x3, vI x4] [] M G 0 0) : sW (sC d) 202 Q 64 [vO 12 a0, vI x1, vI x2, vI x3, vI x4] [vI s0] M G 0 0 := by
  refine q_iload_n 65 rfl (show sCode 202 64 = some (.iload_n 1, 1) by decide +kernel) rfl ?_
  refine q_icmpne 109 68 rfl (by decide) (show sCode 202 65 = some (.if_icmp .ne 44, 3) by decide +kernel) ?_ ?_
  · intro q; exact k1 q
  · intro q; exact k2 q
theorem b202_68 {d : Nat} {Q : Option sV → sM → sG → Prop} {M : sM} {G : sG} {a0 : Nat} {x1 : Int} {x2 : Int} {x3 : Int} {x4 : Int}  (k1 : x3 < 0 → sW (sC d) 202 Q 106 [vO 12 a0, vI x1, vI x2, vN, vI x4] [] M G 0 0) (k2 : 0 ≤ x3 → sW (sC d) 202 Q 72 [vO 12 a0, vI x1, vI x2, vI x3, vI x4] [] M G 0 0) : sW (sC d) 202 Q 68 [vO 12 a0, vI x1, vI x2, vI x3, vI x4] [] M G 0 0 := by
  refine q_iload_n 69 rfl (show sCode 202 68 = some (.iload_n 3, 1) by decide +kernel) rfl ?_
  refine q_iflt 106 72 rfl (by decide) (show sCode 202 69 = some (.ifCond .lt 37, 3) by decide +kernel) ?_ ?_
  · intro q; refine q_forget (L' := [vO 12 a0, vI x1, vI x2, vN, vI x4]) 3 rfl ?_; exact k1 q
  · intro q; exact k2 q
theorem b202_72 {d : Nat} {Q : Option sV → sM → sG → Prop} {M : sM} {G : sG} {a0 : Nat} {x1 : Int} {x2 : Int} {x3 : Int} {x4 : Int}  (kk : sC d 206 [vO 12 a0, vI x4, vI 2] M G (QI (fun r M1 G1 => sW (sC d) 202 Q 79 [vO 12 a0, vI x1, vI x2, vI x3, vI x4] (vI r :: []) M1 G1 0 0))) : sW (sC d) 202 Q 72 [vO 12 a0, vI x1, vI x2, vI x3, vI x4] [] M G 0 0 := by
  refine q_aload_n 73 rfl (show sCode 202 72 = some (.aload_n 0, 1) by decide +kernel) rfl (Nat.le_of_ble_eq_true rfl) ?_
  refine q_iload 75 rfl (show sCode 202 73 = some (.iload 4, 2) by decide +kernel) rfl ?_
  refine q_iconst 76 rfl (show sCode 202 75 = some (.iconst 2, 1) by decide +kernel) ⟨by decide, by decide⟩ ?_
  exact q_virtI [vI x4, vI 2] 79 rfl (show sCode 202 76 = some (.invokevirtual 280, 3) by decide +kernel) (show sMR (sKo 202).1 280 = some 206 by decide +kernel) (show 206 < 1000 ∧ sStat 206 = false ∧ sIni 206 = false ∧ sKo 206 = (12, 2, 1, 0, 0) by decide +kernel) rfl (Or.inl rfl) rfl (Nat.le_of_ble_eq_true rfl) rfl rfl rfl (by decide +kernel) kk
theorem b202_79 {d : Nat} {Q : Option sV → sM → sG → Prop} {M : sM} {G : sG} {a0 : Nat} {x1 : Int} {x2 : Int} {x3 : Int} {x4 : Int} {s0 : Int}  (kk : sC d 206 [vO 12 a0, vI x3, vI 2] M G (QI (fun r M1 G1 => sW (sC d) 202 Q 85 [vO 12 a0, vI x1, vI x2, vI x3, vI x4] (vI r :: [vI s0]) M1 G1 0 0))) : sW (sC d) 202 Q 79 [vO 12 a0, vI x1, vI x2, vI x3, vI x4] [vI s0] M G 0 0 := by
  refine q_aload_n 80 rfl (show sCode 202 79 = some (.aload_n 0, 1) by decide +kernel) rfl (Nat.le_of_ble_eq_true rfl) ?_
  refine q_iload_n 81 rfl (show sCode 202 80 = some (.iload_n 3, 1) by decide +kernel) rfl ?_
  refine q_iconst 82 rfl (show sCode 202 81 = some (.iconst 2, 1) by decide +kernel) ⟨by decide, by decide⟩ ?_
  exact q_virtI [vI x3, vI 2] 85 rfl (show sCode 202 82 = some (.invokevirtual 280, 3) by decide +kernel) (show sMR (sKo 202).1 280 = some 206 by decide +kernel) (show 206 < 1000 ∧ sStat 206 = false ∧ sIni 206 = false ∧ sKo 206 = (12, 2, 1, 0, 0) by decide +kernel) rfl (Or.inl rfl) rfl (Nat.le_of_ble_eq_true rfl) rfl rfl rfl (by decide +kernel) kk
theorem b202_85 {d : Nat} {Q : Option sV → sM → sG → Prop} {M : sM} {G : sG} {a0 : Nat} {x1 : Int} {x2 : Int} {x3 : Int} {x4 : Int} {s0 : Int} {s1 : Int}  (k1 : s1 ≤ s0 → sW (sC d) 202 Q 92 [vO 12 a0, vI x1, vI x2, vI x3, vI x4] [] M G 0 0) (k2 : s0 < s1 → sW (sC d) 202 Q 88 [vO 12 a0, vI x1, vI x2, vI x3, vI x4] [] M G 0 0) : sW (sC d) 202 Q 85 [vO 12 a0, vI x1, vI x2, vI x3, vI x4] [vI s0, vI s1] M G 0 0 := by
  refine q_icmple 92 88 rfl (by decide) (show sCode 202 85 = some (.if_icmp .le 7, 3) by decide +kernel) ?_ ?_
  · intro q; exact k1 q
  · intro q; exact k2 q
theorem b202_88 {d : Nat} {Q : Option sV → sM → sG → Prop} {M : sM} {G : sG} {a0 : Nat} {x1 : Int} {x2 : Int} {x3 : Int} {x4 : Int}  (kk : sW (sC d) 202 Q 93 [vO 12 a0, vI x1, vI x2, vI x3, vI x4] [vI 1] M G 0 0) : sW (sC d) 202 Q 88 [vO 12 a0, vI x1, vI x2, vI x3, vI x4] [] M G 0 0 := by
  refine q_iconst 89 rfl (show sCode 202 88 = some (.iconst 1, 1) by decide +kernel) ⟨by decide, by decide⟩ ?_
  refine q_goto 93 (by decide) (show sCode 202 89 = some (.goto 4, 3) by decide +kernel) ?_
  exact kk
theorem b202_92 {d : Nat} {Q : Option sV → sM → sG → Prop} {M : sM} {G : sG} {a0 : Nat} {x1 : Int} {x2 : Int} {x3 : Int} {x4 : Int}  (kk : sW (sC d) 202 Q 93 [vO 12 a0, vI x1, vI x2, vI x3, vI x4] [vI 0] M G 0 0) : sW (sC d) 202 Q 92 [vO 12 a0, vI x1, vI x2, vI x3, vI x4] [] M G 0 0 := by
  refine q_iconst 93 rfl (show sCode 202 92 = some (.iconst 0, 1) by decide +kernel) ⟨by decide, by decide⟩ ?_
  exact kk
theorem b202_93 {d : Nat} {Q : Option sV → sM → sG → Prop} {M : sM} {G : sG} {a0 : Nat} {x1 : Int} {x2 : Int} {x3 : Int} {x4 : Int} {s0 : Int}  (k1 : x2 ≠ 4 → sW (sC d) 202 Q 102 [vO 12 a0, vI x1, vI x2, vI x3, vI x4] [vI s0] M G 0 0) (k2 : x2 = 4 → sW (sC d) 202 Q 98 [vO 12 a0, vI x1, vI x2, vI x3, vI x4] [vI s0] M G 0 0) : sW (sC d) 202 Q 93 [vO 12 a0, vI x1, vI x2, vI x3, vI x4] [vI s0] M G 0 0 := by
  refine q_iload_n 94 rfl (show sCode 202 93 = some (.iload_n 2, 1) by decide +kernel) rfl ?_
  refine q_iconst 95 rfl (show sCode 202 94 = some (.iconst 4, 1) by decide +kernel) ⟨by decide, by decide⟩ ?_
  refine q_icmpne 102 98 rfl (by decide) (show sCode 202 95 = some (.if_icmp .ne 7, 3) by decide +kernel) ?_ ?_
  · intro q; exact k1 q
  · intro q; exact k2 q
theorem b202_98 {d : Nat} {Q : Option sV → sM → sG → Prop} {M : sM} {G : sG} {a0 : Nat} {x1 : Int} {x2 : Int} {x3 : Int} {x4 : Int} {s0 : Int}  (kk : sW (sC d) 202 Q 103 [vO 12 a0, vI x1, vI x2, vI x3, vI x4] [vI 1, vI s0] M G 0 0) : sW (sC d) 202 Q 98 [vO 12 a0, vI x1, vI x2, vI x3, vI x4] [vI s0] M G 0 0 := by
  refine q_iconst 99 rfl (show sCode 202 98 = some (.iconst 1, 1) by decide +kernel) ⟨by decide, by decide⟩ ?_
  refine q_goto 103 (by decide) (show sCode 202 99 = some (.goto 4, 3) by decide +kernel) ?_
  exact kk
theorem b202_102 {d : Nat} {Q : Option sV → sM → sG → Prop} {M : sM} {G : sG} {a0 : Nat} {x1 : Int} {x2 : Int} {x3 : Int} {x4 : Int} {s0 : Int}  (kk : sW (sC d) 202 Q 103 [vO 12 a0, vI x1, vI x2, vI x3, vI x4] [vI 0, vI s0] M G 0 0) : sW (sC d) 202 Q 102 [vO 12 a0, vI x1, vI x2, vI x3, vI x4] [vI s0] M G 0 0 := by
  refine q_iconst 103 rfl (show sCode 202 102 = some (.iconst 0, 1) by decide +kernel) ⟨by decide, by decide⟩ ?_
  exact kk
theorem b202_103 {d : Nat} {Q : Option sV → sM → sG → Prop} {M : sM} {G : sG} {a0 : Nat} {x1 : Int} {x2 : Int} {x3 : Int} {x4 : Int} {s0 : Int} {s1 : Int}  (k1 : s1 ≠ s0 → sW (sC d) 202 Q 109 [vO 12 a0, vI x1, vI x2, vI x3, vI x4] [] M G 0 0) (k2 : s1 = s0 → sW (sC d) 202 Q 106 [vO 12 a0, vI x1, vI x2, vN, vI x4] [] M G 0 0) : sW (sC d) 202 Q 103 [vO 12 a0, vI x1, vI x2, vI x3, vI x4] [vI s0, vI s1] M G 0 0 := by
  refine q_icmpne 109 106 rfl (by decide) (show sCode 202 103 = some (.if_icmp .ne 6, 3) by decide +kernel) ?_ ?_
  · intro q; exact k1 q
  · intro q; refine q_forget (L' := [vO 12 a0, vI x1, vI x2, vN, vI x4]) 3 rfl ?_; exact k2 q
theorem b202_106 {d : Nat} {Q : Option sV → sM → sG → Prop} {M : sM} {G : sG} {a0 : Nat} {x1 : Int} {x2 : Int} {x4 : Int}  (kk : sW (sC d) 202 Q 109 [vO 12 a0, vI x1, vI x2, vI x4, vI x4] [] M G 0 0) : sW (sC d) 202 Q 106 [vO 12 a0, vI x1, vI x2, vN, vI x4] [] M G 0 0 := by
  refine q_iload 108 rfl (show sCode 202 106 = some (.iload 4, 2) by decide +kernel) rfl ?_
  refine q_istore_n [vO 12 a0, vI x1, vI x2, vI x4, vI x4] 109 rfl (show sCode 202 108 = some (.istore_n 3, 1) by decide +kernel) (Nat.lt_of_lt_of_le (Nat.lt_succ_self _) (Nat.le_of_ble_eq_true rfl)) rfl rfl ?_
  exact kk
theorem b202_109 {d : Nat} {Q : Option sV → sM → sG → Prop} {M : sM} {G : sG} {a0 : Nat} {x1 : Int} {x2 : Int} {x3 : Int} {x4 : Int} (h1 : sI (x4 + 1)) (kk : sW (sC d) 202 Q 50 [vO 12 a0, vI x1, vI x2, vI x3, vI (x4 + 1)] [] M G 0 0) : sW (sC d) 202 Q 109 [vO 12 a0, vI x1, vI x2, vI x3, vI x4] [] M G 0 0 := by
  refine q_iinc [vO 12 a0, vI x1, vI x2, vI x3, vI (x4 + 1)] 112 rfl (show sCode 202 109 = some (.iinc 4 1, 3) by decide +kernel) rfl rfl h1 rfl ?_
  refine q_goto 50 (by decide) (show sCode 202 112 = some (.goto (-62), 3) by decide +kernel) ?_
  exact kk
theorem b202_115 {d : Nat} {P : Int → sM → sG → Prop} {M : sM} {G : sG} {x3 : Int}  (kk : P x3 M G) : sW (sC d) 202 (QI P) 115 [vN, vN, vN, vI x3, vN] [] M G 0 0 := by
  refine q_iload_n 116 rfl (show sCode 202 115 = some (.iload_n 3, 1) by decide +kernel) rfl ?_
  exact q_iret (show sCode 202 116 = some (.ireturn, 1) by decide +kernel) (by decide +kernel) (by decide +kernel) kk
-- 203 AfterTheLastModel.isHouse (I)Z
theorem b203_0 {d : Nat} {Q : Option sV → sM → sG → Prop} {M : sM} {G : sG} {a0 : Nat} {x1 : Int}  (k1 : x1 < 0 → sW (sC d) 203 Q 18 [vN, vN] [] M G 0 0) (k2 : 0 ≤ x1 → sW (sC d) 203 Q 4 [vO 12 a0, vI x1] [] M G 0 0) : sW (sC d) 203 Q 0 [vO 12 a0, vI x1] [] M G 0 0 := by
  refine q_iload_n 1 rfl (show sCode 203 0 = some (.iload_n 1, 1) by decide +kernel) rfl ?_
  refine q_iflt 18 4 rfl (by decide) (show sCode 203 1 = some (.ifCond .lt 17, 3) by decide +kernel) ?_ ?_
  · intro q; refine q_forget (L' := [vN, vI x1]) 0 rfl ?_; refine q_forget (L' := [vN, vN]) 1 rfl ?_; exact k1 q
  · intro q; exact k2 q
theorem b203_4 {d : Nat} {Q : Option sV → sM → sG → Prop} {M : sM} {G : sG} {a0 : Nat} {x1 : Int}  (k1 : M (a0 + 11) 0 ≤ x1 → sW (sC d) 203 Q 18 [vN, vN] [] M G 0 0) (k2 : x1 < M (a0 + 11) 0 → sW (sC d) 203 Q 14 [vN, vN] [] M G 0 0) : sW (sC d) 203 Q 4 [vO 12 a0, vI x1] [] M G 0 0 := by
  refine q_iload_n 5 rfl (show sCode 203 4 = some (.iload_n 1, 1) by decide +kernel) rfl ?_
  refine q_aload_n 6 rfl (show sCode 203 5 = some (.aload_n 0, 1) by decide +kernel) rfl (Nat.le_of_ble_eq_true rfl) ?_
  refine q_getR (vA 0 (a0 + 11) 274) 9 rfl (show sCode 203 6 = some (.getfield 42, 3) by decide +kernel) (show sFR (sKo 203).1 42 = some (12, 23) by decide +kernel) (by decide +kernel) (Or.inl (Or.inl rfl)) rfl ?_
  refine q_iconst 10 rfl (show sCode 203 9 = some (.iconst 0, 1) by decide +kernel) ⟨by decide, by decide⟩ ?_
  refine q_iald 11 rfl (show sCode 203 10 = some (.iaload, 1) by decide +kernel) ⟨by decide, by decide⟩ ?_
  refine q_icmpge 18 14 rfl (by decide) (show sCode 203 11 = some (.if_icmp .ge 7, 3) by decide +kernel) ?_ ?_
  · intro q; refine q_forget (L' := [vN, vI x1]) 0 rfl ?_; refine q_forget (L' := [vN, vN]) 1 rfl ?_; exact k1 q
  · intro q; refine q_forget (L' := [vN, vI x1]) 0 rfl ?_; refine q_forget (L' := [vN, vN]) 1 rfl ?_; exact k2 q
theorem b203_14 {d : Nat} {Q : Option sV → sM → sG → Prop} {M : sM} {G : sG}   (kk : sW (sC d) 203 Q 19 [vN, vN] [vI 1] M G 0 0) : sW (sC d) 203 Q 14 [vN, vN] [] M G 0 0 := by
  refine q_iconst 15 rfl (show sCode 203 14 = some (.iconst 1, 1) by decide +kernel) ⟨by decide, by decide⟩ ?_
  refine q_goto 19 (by decide) (show sCode 203 15 = some (.goto 4, 3) by decide +kernel) ?_
  exact kk
theorem b203_18 {d : Nat} {Q : Option sV → sM → sG → Prop} {M : sM} {G : sG}   (kk : sW (sC d) 203 Q 19 [vN, vN] [vI 0] M G 0 0) : sW (sC d) 203 Q 18 [vN, vN] [] M G 0 0 := by
  refine q_iconst 19 rfl (show sCode 203 18 = some (.iconst 0, 1) by decide +kernel) ⟨by decide, by decide⟩ ?_
  exact kk
theorem b203_19 {d : Nat} {P : Int → sM → sG → Prop} {M : sM} {G : sG} {s0 : Int}  (h01 : s0 = 0 ∨ s0 = 1) (kk : P s0 M G) : sW (sC d) 203 (QI P) 19 [vN, vN] [vI s0] M G 0 0 := by
  exact q_zret (show sCode 203 19 = some (.ireturn, 1) by decide +kernel) (by decide +kernel) h01 (by decide +kernel) kk
-- 204 AfterTheLastModel.houseOf (II)I
theorem b204_0 {d : Nat} {P : Int → sM → sG → Prop} {M : sM} {G : sG} {a0 : Nat} {x1 : Int} {x2 : Int} (h1 : sI (3 * x1)) (h2 : sI (10 + (3 * x1))) (h3 : sI ((10 + (3 * x1)) + x2)) (h4 : 0 ≤ (10 + (3 * x1)) + x2 ∧ (10 + (3 * x1)) + x2 < 274) (kk : P (M (a0 + 11) ((10 + (3 * x1)) + x2).toNat) M G) : sW (sC d) 204 (QI P) 0 [vO 12 a0, vI x1, vI x2] [] M G 0 0 := by
  refine q_aload_n 1 rfl (show sCode 204 0 = some (.aload_n 0, 1) by decide +kernel) rfl (Nat.le_of_ble_eq_true rfl) ?_
  refine q_getR (vA 0 (a0 + 11) 274) 4 rfl (show sCode 204 1 = some (.getfield 42, 3) by decide +kernel) (show sFR (sKo 204).1 42 = some (12, 23) by decide +kernel) (by decide +kernel) (Or.inl (Or.inl rfl)) rfl ?_
  refine q_bipush 6 rfl (show sCode 204 4 = some (.bipush 10, 2) by decide +kernel) ⟨by decide, by decide⟩ (by decide +kernel) ?_
  refine q_iconst 7 rfl (show sCode 204 6 = some (.iconst 3, 1) by decide +kernel) ⟨by decide, by decide⟩ ?_
  refine q_iload_n 8 rfl (show sCode 204 7 = some (.iload_n 1, 1) by decide +kernel) rfl ?_
  refine q_imul 9 rfl (show sCode 204 8 = some (.imul, 1) by decide +kernel) h1 ?_
  refine q_iadd 10 rfl (show sCode 204 9 = some (.iadd, 1) by decide +kernel) h2 ?_
  refine q_iload_n 11 rfl (show sCode 204 10 = some (.iload_n 2, 1) by decide +kernel) rfl ?_
  refine q_iadd 12 rfl (show sCode 204 11 = some (.iadd, 1) by decide +kernel) h3 ?_
  refine q_iald 13 rfl (show sCode 204 12 = some (.iaload, 1) by decide +kernel) h4 ?_
  exact q_iret (show sCode 204 13 = some (.ireturn, 1) by decide +kernel) (by decide +kernel) (by decide +kernel) kk
-- 205 AfterTheLastModel.inside (I)I
theorem b205_0 {d : Nat} {Q : Option sV → sM → sG → Prop} {M : sM} {G : sG} {a0 : Nat} {x1 : Int}  (kk : sW (sC d) 205 Q 4 [vO 12 a0, vI x1, vI 0, vI 0] [] M G 0 0) : sW (sC d) 205 Q 0 [vO 12 a0, vI x1, vN, vN] [] M G 0 0 := by
  refine q_iconst 1 rfl (show sCode 205 0 = some (.iconst 0, 1) by decide +kernel) ⟨by decide, by decide⟩ ?_
  refine q_istore_n [vO 12 a0, vI x1, vI 0, vN] 2 rfl (show sCode 205 1 = some (.istore_n 2, 1) by decide +kernel) (Nat.lt_of_lt_of_le (Nat.lt_succ_self _) (Nat.le_of_ble_eq_true rfl)) rfl rfl ?_
  refine q_iconst 3 rfl (show sCode 205 2 = some (.iconst 0, 1) by decide +kernel) ⟨by decide, by decide⟩ ?_
  refine q_istore_n [vO 12 a0, vI x1, vI 0, vI 0] 4 rfl (show sCode 205 3 = some (.istore_n 3, 1) by decide +kernel) (Nat.lt_of_lt_of_le (Nat.lt_succ_self _) (Nat.le_of_ble_eq_true rfl)) rfl rfl ?_
  exact kk
theorem b205_4 {d : Nat} {Q : Option sV → sM → sG → Prop} {M : sM} {G : sG} {a0 : Nat} {x1 : Int} {x2 : Int} {x3 : Int}  (k1 : 12 ≤ x3 → sW (sC d) 205 Q 34 [vN, vN, vI x2, vN] [] M G 0 0) (k2 : x3 < 12 → sW (sC d) 205 Q 10 [vO 12 a0, vI x1, vI x2, vI x3] [] M G 0 0) : sW (sC d) 205 Q 4 [vO 12 a0, vI x1, vI x2, vI x3] [] M G 0 0 := by
  refine q_iload_n 5 rfl (show sCode 205 4 = some (.iload_n 3, 1) by decide +kernel) rfl ?_
  refine q_bipush 7 rfl (show sCode 205 5 = some (.bipush 12, 2) by decide +kernel) ⟨by decide, by decide⟩ (by decide +kernel) ?_
  refine q_icmpge 34 10 rfl (by decide) (show sCode 205 7 = some (.if_icmp .ge 27, 3) by decide +kernel) ?_ ?_
  · intro q; refine q_forget (L' := [vN, vI x1, vI x2, vI x3]) 0 rfl ?_; refine q_forget (L' := [vN, vN, vI x2, vI x3]) 1 rfl ?_; refine q_forget (L' := [vN, vN, vI x2, vN]) 3 rfl ?_; exact k1 q
  · intro q; exact k2 q
theorem b205_10 {d : Nat} {Q : Option sV → sM → sG → Prop} {M : sM} {G : sG} {a0 : Nat} {x1 : Int} {x2 : Int} {x3 : Int}  (kk : sC d 206 [vO 12 a0, vI x3, vI 0] M G (QI (fun r M1 G1 => sW (sC d) 205 Q 17 [vO 12 a0, vI x1, vN, vI x3] (vI r :: [vI x2]) M1 G1 0 0))) : sW (sC d) 205 Q 10 [vO 12 a0, vI x1, vI x2, vI x3] [] M G 0 0 := by
  refine q_iload_n 11 rfl (show sCode 205 10 = some (.iload_n 2, 1) by decide +kernel) rfl ?_
  refine q_aload_n 12 rfl (show sCode 205 11 = some (.aload_n 0, 1) by decide +kernel) rfl (Nat.le_of_ble_eq_true rfl) ?_
  refine q_iload_n 13 rfl (show sCode 205 12 = some (.iload_n 3, 1) by decide +kernel) rfl ?_
  refine q_iconst 14 rfl (show sCode 205 13 = some (.iconst 0, 1) by decide +kernel) ⟨by decide, by decide⟩ ?_
  refine q_forget (L' := [vO 12 a0, vI x1, vN, vI x3]) 2 rfl ?_
  exact q_virtI [vI x3, vI 0] 17 rfl (show sCode 205 14 = some (.invokevirtual 280, 3) by decide +kernel) (show sMR (sKo 205).1 280 = some 206 by decide +kernel) (show 206 < 1000 ∧ sStat 206 = false ∧ sIni 206 = false ∧ sKo 206 = (12, 2, 1, 0, 0) by decide +kernel) rfl (Or.inl rfl) rfl (Nat.le_of_ble_eq_true rfl) rfl rfl rfl (by decide +kernel) kk
theorem b205_17 {d : Nat} {Q : Option sV → sM → sG → Prop} {M : sM} {G : sG} {a0 : Nat} {x1 : Int} {x3 : Int} {s0 : Int} {s1 : Int}  (k1 : s0 ≠ x1 → sW (sC d) 205 Q 25 [vO 12 a0, vI x1, vN, vI x3] [vI s1] M G 0 0) (k2 : s0 = x1 → sW (sC d) 205 Q 21 [vO 12 a0, vI x1, vN, vI x3] [vI s1] M G 0 0) : sW (sC d) 205 Q 17 [vO 12 a0, vI x1, vN, vI x3] [vI s0, vI s1] M G 0 0 := by
  refine q_iload_n 18 rfl (show sCode 205 17 = some (.iload_n 1, 1) by decide +kernel) rfl ?_
  refine q_icmpne 25 21 rfl (by decide) (show sCode 205 18 = some (.if_icmp .ne 7, 3) by decide +kernel) ?_ ?_
  · intro q; exact k1 q
  · intro q; exact k2 q
theorem b205_21 {d : Nat} {Q : Option sV → sM → sG → Prop} {M : sM} {G : sG} {a0 : Nat} {x1 : Int} {x3 : Int} {s0 : Int}  (kk : sW (sC d) 205 Q 26 [vO 12 a0, vI x1, vN, vI x3] [vI 1, vI s0] M G 0 0) : sW (sC d) 205 Q 21 [vO 12 a0, vI x1, vN, vI x3] [vI s0] M G 0 0 := by
  refine q_iconst 22 rfl (show sCode 205 21 = some (.iconst 1, 1) by decide +kernel) ⟨by decide, by decide⟩ ?_
  refine q_goto 26 (by decide) (show sCode 205 22 = some (.goto 4, 3) by decide +kernel) ?_
  exact kk
theorem b205_25 {d : Nat} {Q : Option sV → sM → sG → Prop} {M : sM} {G : sG} {a0 : Nat} {x1 : Int} {x3 : Int} {s0 : Int}  (kk : sW (sC d) 205 Q 26 [vO 12 a0, vI x1, vN, vI x3] [vI 0, vI s0] M G 0 0) : sW (sC d) 205 Q 25 [vO 12 a0, vI x1, vN, vI x3] [vI s0] M G 0 0 := by
  refine q_iconst 26 rfl (show sCode 205 25 = some (.iconst 0, 1) by decide +kernel) ⟨by decide, by decide⟩ ?_
  exact kk
theorem b205_26 {d : Nat} {Q : Option sV → sM → sG → Prop} {M : sM} {G : sG} {a0 : Nat} {x1 : Int} {x3 : Int} {s0 : Int} {s1 : Int} (h1 : sI (s1 + s0)) (h2 : sI (x3 + 1)) (kk : sW (sC d) 205 Q 4 [vO 12 a0, vI x1, vI (s1 + s0), vI (x3 + 1)] [] M G 0 0) : sW (sC d) 205 Q 26 [vO 12 a0, vI x1, vN, vI x3] [vI s0, vI s1] M G 0 0 := by
  refine q_iadd 27 rfl (show sCode 205 26 = some (.iadd, 1) by decide +kernel) h1 ?_
  refine q_istore_n [vO 12 a0, vI x1, vI (s1 + s0), vI x3] 28 rfl (show sCode 205 27 = some (.istore_n 2, 1) by decide +kernel) (Nat.lt_of_lt_of_le (Nat.lt_succ_self _) (Nat.le_of_ble_eq_true rfl)) rfl rfl ?_
  refine q_iinc [vO 12 a0, vI x1, vI (s1 + s0), vI (x3 + 1)] 31 rfl (show sCode 205 28 = some (.iinc 3 1, 3) by decide +kernel) rfl rfl h2 rfl ?_
  refine q_goto 4 (by decide) (show sCode 205 31 = some (.goto (-27), 3) by decide +kernel) ?_
  exact kk
theorem b205_34 {d : Nat} {P : Int → sM → sG → Prop} {M : sM} {G : sG} {x2 : Int}  (kk : P x2 M G) : sW (sC d) 205 (QI P) 34 [vN, vN, vI x2, vN] [] M G 0 0 := by
  refine q_iload_n 35 rfl (show sCode 205 34 = some (.iload_n 2, 1) by decide +kernel) rfl ?_
  exact q_iret (show sCode 205 35 = some (.ireturn, 1) by decide +kernel) (by decide +kernel) (by decide +kernel) kk
-- 206 AfterTheLastModel.personOf (II)I
theorem b206_0 {d : Nat} {P : Int → sM → sG → Prop} {M : sM} {G : sG} {a0 : Nat} {x1 : Int} {x2 : Int} (h1 : sI (5 * x1)) (h2 : sI (136 + (5 * x1))) (h3 : sI ((136 + (5 * x1)) + x2)) (h4 : 0 ≤ (136 + (5 * x1)) + x2 ∧ (136 + (5 * x1)) + x2 < 274) (kk : P (M (a0 + 11) ((136 + (5 * x1)) + x2).toNat) M G) : sW (sC d) 206 (QI P) 0 [vO 12 a0, vI x1, vI x2] [] M G 0 0 := by
  refine q_aload_n 1 rfl (show sCode 206 0 = some (.aload_n 0, 1) by decide +kernel) rfl (Nat.le_of_ble_eq_true rfl) ?_
  refine q_getR (vA 0 (a0 + 11) 274) 4 rfl (show sCode 206 1 = some (.getfield 42, 3) by decide +kernel) (show sFR (sKo 206).1 42 = some (12, 23) by decide +kernel) (by decide +kernel) (Or.inl (Or.inl rfl)) rfl ?_
  refine q_sipush 7 rfl (show sCode 206 4 = some (.sipush 136, 3) by decide +kernel) ⟨by decide, by decide⟩ (by decide +kernel) ?_
  refine q_iconst 8 rfl (show sCode 206 7 = some (.iconst 5, 1) by decide +kernel) ⟨by decide, by decide⟩ ?_
  refine q_iload_n 9 rfl (show sCode 206 8 = some (.iload_n 1, 1) by decide +kernel) rfl ?_
  refine q_imul 10 rfl (show sCode 206 9 = some (.imul, 1) by decide +kernel) h1 ?_
  refine q_iadd 11 rfl (show sCode 206 10 = some (.iadd, 1) by decide +kernel) h2 ?_
  refine q_iload_n 12 rfl (show sCode 206 11 = some (.iload_n 2, 1) by decide +kernel) rfl ?_
  refine q_iadd 13 rfl (show sCode 206 12 = some (.iadd, 1) by decide +kernel) h3 ?_
  refine q_iald 14 rfl (show sCode 206 13 = some (.iaload, 1) by decide +kernel) h4 ?_
  exact q_iret (show sCode 206 14 = some (.ireturn, 1) by decide +kernel) (by decide +kernel) (by decide +kernel) kk
-- 207 AfterTheLastModel.stay (II)I
theorem b207_0 {d : Nat} {Q : Option sV → sM → sG → Prop} {M : sM} {G : sG} {a0 : Nat} {x1 : Int} {x2 : Int}  (kk : sC d 208 [vO 12 a0, vI x1] M G (QI (fun r M1 G1 => sW (sC d) 207 Q 5 [vO 12 a0, vI x1, vI x2] (vI r :: []) M1 G1 0 0))) : sW (sC d) 207 Q 0 [vO 12 a0, vI x1, vI x2] [] M G 0 0 := by
  refine q_aload_n 1 rfl (show sCode 207 0 = some (.aload_n 0, 1) by decide +kernel) rfl (Nat.le_of_ble_eq_true rfl) ?_
  refine q_iload_n 2 rfl (show sCode 207 1 = some (.iload_n 1, 1) by decide +kernel) rfl ?_
  exact q_virtI [vI x1] 5 rfl (show sCode 207 2 = some (.invokevirtual 299, 3) by decide +kernel) (show sMR (sKo 207).1 299 = some 208 by decide +kernel) (show 208 < 1000 ∧ sStat 208 = false ∧ sIni 208 = false ∧ sKo 208 = (12, 1, 2, 0, 0) by decide +kernel) rfl (Or.inl rfl) rfl (Nat.le_of_ble_eq_true rfl) rfl rfl rfl (by decide +kernel) kk
theorem b207_5 {d : Nat} {Q : Option sV → sM → sG → Prop} {M : sM} {G : sG} {a0 : Nat} {x1 : Int} {x2 : Int} {s0 : Int}  (k1 : s0 = 0 → sW (sC d) 207 Q 29 [vN, vN, vN] [] M G 0 0) (k2 : s0 ≠ 0 → sW (sC d) 207 Q 8 [vO 12 a0, vI x1, vI x2] [] M G 0 0) : sW (sC d) 207 Q 5 [vO 12 a0, vI x1, vI x2] [vI s0] M G 0 0 := by
  refine q_ifeq 29 8 rfl (by decide) (show sCode 207 5 = some (.ifCond .eq 24, 3) by decide +kernel) ?_ ?_
  · intro q; refine q_forget (L' := [vN, vI x1, vI x2]) 0 rfl ?_; refine q_forget (L' := [vN, vN, vI x2]) 1 rfl ?_; refine q_forget (L' := [vN, vN, vN]) 2 rfl ?_; exact k1 q
  · intro q; exact k2 q
theorem b207_8 {d : Nat} {Q : Option sV → sM → sG → Prop} {M : sM} {G : sG} {a0 : Nat} {x1 : Int} {x2 : Int}  (kk : sC d 183 [vL x2, vL 0, vL 5] M G (QI (fun r M1 G1 => sW (sC d) 207 Q 17 [vO 12 a0, vI x1, vI x2] (vI r :: []) M1 G1 0 0))) : sW (sC d) 207 Q 8 [vO 12 a0, vI x1, vI x2] [] M G 0 0 := by
  refine q_iload_n 9 rfl (show sCode 207 8 = some (.iload_n 2, 1) by decide +kernel) rfl ?_
  refine q_i2l 10 rfl (show sCode 207 9 = some (.i2l, 1) by decide +kernel) ?_
  refine q_lconst 11 rfl (show sCode 207 10 = some (.lconst 0, 1) by decide +kernel) ?_
  refine q_ldc2_w 14 rfl (show sCode 207 11 = some (.ldc2_w 294, 3) by decide +kernel) (show sLR (sKo 207).1 294 = some 5 by decide +kernel) ⟨by decide, by decide⟩ ?_
  exact q_statI [vL x2, vL 0, vL 5] 17 rfl (show sCode 207 14 = some (.invokestatic 127, 3) by decide +kernel) (show sMR (sKo 207).1 127 = some 183 by decide +kernel) (show 183 < 1000 ∧ sStat 183 = true ∧ sKo 183 = (12, 3, 2, 0, 0) by decide +kernel) rfl rfl (Nat.le_of_ble_eq_true rfl) rfl rfl rfl (by decide +kernel) kk
theorem b207_17 {d : Nat} {Q : Option sV → sM → sG → Prop} {M : sM} {G : sG} {a0 : Nat} {x1 : Int} {x2 : Int} {s0 : Int}  (k1 : s0 = 0 → sW (sC d) 207 Q 29 [vN, vN, vN] [] M G 0 0) (k2 : s0 ≠ 0 → sW (sC d) 207 Q 20 [vO 12 a0, vI x1, vI x2] [] M G 0 0) : sW (sC d) 207 Q 17 [vO 12 a0, vI x1, vI x2] [vI s0] M G 0 0 := by
  refine q_ifeq 29 20 rfl (by decide) (show sCode 207 17 = some (.ifCond .eq 12, 3) by decide +kernel) ?_ ?_
  · intro q; refine q_forget (L' := [vN, vI x1, vI x2]) 0 rfl ?_; refine q_forget (L' := [vN, vN, vI x2]) 1 rfl ?_; refine q_forget (L' := [vN, vN, vN]) 2 rfl ?_; exact k1 q
  · intro q; exact k2 q
theorem b207_20 {d : Nat} {Q : Option sV → sM → sG → Prop} {M : sM} {G : sG} {a0 : Nat} {x1 : Int} {x2 : Int}  (kk : sC d 209 [vO 12 a0, vI x1, vI x2] M G (QI (fun r M1 G1 => sW (sC d) 207 Q 26 [vN, vN, vN] (vI r :: []) M1 G1 0 0))) : sW (sC d) 207 Q 20 [vO 12 a0, vI x1, vI x2] [] M G 0 0 := by
  refine q_aload_n 21 rfl (show sCode 207 20 = some (.aload_n 0, 1) by decide +kernel) rfl (Nat.le_of_ble_eq_true rfl) ?_
  refine q_iload_n 22 rfl (show sCode 207 21 = some (.iload_n 1, 1) by decide +kernel) rfl ?_
  refine q_iload_n 23 rfl (show sCode 207 22 = some (.iload_n 2, 1) by decide +kernel) rfl ?_
  refine q_forget (L' := [vN, vI x1, vI x2]) 0 rfl ?_
  refine q_forget (L' := [vN, vN, vI x2]) 1 rfl ?_
  refine q_forget (L' := [vN, vN, vN]) 2 rfl ?_
  exact q_virtI [vI x1, vI x2] 26 rfl (show sCode 207 23 = some (.invokevirtual 302, 3) by decide +kernel) (show sMR (sKo 207).1 302 = some 209 by decide +kernel) (show 209 < 1000 ∧ sStat 209 = false ∧ sIni 209 = false ∧ sKo 209 = (12, 2, 1, 0, 0) by decide +kernel) rfl (Or.inl rfl) rfl (Nat.le_of_ble_eq_true rfl) rfl rfl rfl (by decide +kernel) kk
theorem b207_26 {d : Nat} {Q : Option sV → sM → sG → Prop} {M : sM} {G : sG} {s0 : Int}  (kk : sW (sC d) 207 Q 30 [vN, vN, vN] [vI s0] M G 0 0) : sW (sC d) 207 Q 26 [vN, vN, vN] [vI s0] M G 0 0 := by
  refine q_goto 30 (by decide) (show sCode 207 26 = some (.goto 4, 3) by decide +kernel) ?_
  exact kk
theorem b207_29 {d : Nat} {Q : Option sV → sM → sG → Prop} {M : sM} {G : sG}   (kk : sW (sC d) 207 Q 30 [vN, vN, vN] [vI (-1)] M G 0 0) : sW (sC d) 207 Q 29 [vN, vN, vN] [] M G 0 0 := by
  refine q_iconst 30 rfl (show sCode 207 29 = some (.iconst (-1), 1) by decide +kernel) ⟨by decide, by decide⟩ ?_
  exact kk
theorem b207_30 {d : Nat} {P : Int → sM → sG → Prop} {M : sM} {G : sG} {s0 : Int}  (kk : P s0 M G) : sW (sC d) 207 (QI P) 30 [vN, vN, vN] [vI s0] M G 0 0 := by
  exact q_iret (show sCode 207 30 = some (.ireturn, 1) by decide +kernel) (by decide +kernel) (by decide +kernel) kk
-- 208 AfterTheLastModel.isStay (I)Z
theorem b208_0 {d : Nat} {Q : Option sV → sM → sG → Prop} {M : sM} {G : sG} {a0 : Nat} {x1 : Int}  (k1 : x1 < 0 → sW (sC d) 208 Q 18 [vN, vN] [] M G 0 0) (k2 : 0 ≤ x1 → sW (sC d) 208 Q 4 [vO 12 a0, vI x1] [] M G 0 0) : sW (sC d) 208 Q 0 [vO 12 a0, vI x1] [] M G 0 0 := by
  refine q_iload_n 1 rfl (show sCode 208 0 = some (.iload_n 1, 1) by decide +kernel) rfl ?_
  refine q_iflt 18 4 rfl (by decide) (show sCode 208 1 = some (.ifCond .lt 17, 3) by decide +kernel) ?_ ?_
  · intro q; refine q_forget (L' := [vN, vI x1]) 0 rfl ?_; refine q_forget (L' := [vN, vN]) 1 rfl ?_; exact k1 q
  · intro q; exact k2 q
theorem b208_4 {d : Nat} {Q : Option sV → sM → sG → Prop} {M : sM} {G : sG} {a0 : Nat} {x1 : Int}  (k1 : M (a0 + 11) 1 ≤ x1 → sW (sC d) 208 Q 18 [vN, vN] [] M G 0 0) (k2 : x1 < M (a0 + 11) 1 → sW (sC d) 208 Q 14 [vN, vN] [] M G 0 0) : sW (sC d) 208 Q 4 [vO 12 a0, vI x1] [] M G 0 0 := by
  refine q_iload_n 5 rfl (show sCode 208 4 = some (.iload_n 1, 1) by decide +kernel) rfl ?_
  refine q_aload_n 6 rfl (show sCode 208 5 = some (.aload_n 0, 1) by decide +kernel) rfl (Nat.le_of_ble_eq_true rfl) ?_
  refine q_getR (vA 0 (a0 + 11) 274) 9 rfl (show sCode 208 6 = some (.getfield 42, 3) by decide +kernel) (show sFR (sKo 208).1 42 = some (12, 23) by decide +kernel) (by decide +kernel) (Or.inl (Or.inl rfl)) rfl ?_
  refine q_iconst 10 rfl (show sCode 208 9 = some (.iconst 1, 1) by decide +kernel) ⟨by decide, by decide⟩ ?_
  refine q_iald 11 rfl (show sCode 208 10 = some (.iaload, 1) by decide +kernel) ⟨by decide, by decide⟩ ?_
  refine q_icmpge 18 14 rfl (by decide) (show sCode 208 11 = some (.if_icmp .ge 7, 3) by decide +kernel) ?_ ?_
  · intro q; refine q_forget (L' := [vN, vI x1]) 0 rfl ?_; refine q_forget (L' := [vN, vN]) 1 rfl ?_; exact k1 q
  · intro q; refine q_forget (L' := [vN, vI x1]) 0 rfl ?_; refine q_forget (L' := [vN, vN]) 1 rfl ?_; exact k2 q
theorem b208_14 {d : Nat} {Q : Option sV → sM → sG → Prop} {M : sM} {G : sG}   (kk : sW (sC d) 208 Q 19 [vN, vN] [vI 1] M G 0 0) : sW (sC d) 208 Q 14 [vN, vN] [] M G 0 0 := by
  refine q_iconst 15 rfl (show sCode 208 14 = some (.iconst 1, 1) by decide +kernel) ⟨by decide, by decide⟩ ?_
  refine q_goto 19 (by decide) (show sCode 208 15 = some (.goto 4, 3) by decide +kernel) ?_
  exact kk
theorem b208_18 {d : Nat} {Q : Option sV → sM → sG → Prop} {M : sM} {G : sG}   (kk : sW (sC d) 208 Q 19 [vN, vN] [vI 0] M G 0 0) : sW (sC d) 208 Q 18 [vN, vN] [] M G 0 0 := by
  refine q_iconst 19 rfl (show sCode 208 18 = some (.iconst 0, 1) by decide +kernel) ⟨by decide, by decide⟩ ?_
  exact kk
theorem b208_19 {d : Nat} {P : Int → sM → sG → Prop} {M : sM} {G : sG} {s0 : Int}  (h01 : s0 = 0 ∨ s0 = 1) (kk : P s0 M G) : sW (sC d) 208 (QI P) 19 [vN, vN] [vI s0] M G 0 0 := by
  exact q_zret (show sCode 208 19 = some (.ireturn, 1) by decide +kernel) (by decide +kernel) h01 (by decide +kernel) kk
-- 209 AfterTheLastModel.stayOf (II)I
theorem b209_0 {d : Nat} {P : Int → sM → sG → Prop} {M : sM} {G : sG} {a0 : Nat} {x1 : Int} {x2 : Int} (h1 : sI (6 * x1)) (h2 : sI (28 + (6 * x1))) (h3 : sI ((28 + (6 * x1)) + x2)) (h4 : 0 ≤ (28 + (6 * x1)) + x2 ∧ (28 + (6 * x1)) + x2 < 274) (kk : P (M (a0 + 11) ((28 + (6 * x1)) + x2).toNat) M G) : sW (sC d) 209 (QI P) 0 [vO 12 a0, vI x1, vI x2] [] M G 0 0 := by
  refine q_aload_n 1 rfl (show sCode 209 0 = some (.aload_n 0, 1) by decide +kernel) rfl (Nat.le_of_ble_eq_true rfl) ?_
  refine q_getR (vA 0 (a0 + 11) 274) 4 rfl (show sCode 209 1 = some (.getfield 42, 3) by decide +kernel) (show sFR (sKo 209).1 42 = some (12, 23) by decide +kernel) (by decide +kernel) (Or.inl (Or.inl rfl)) rfl ?_
  refine q_bipush 6 rfl (show sCode 209 4 = some (.bipush 28, 2) by decide +kernel) ⟨by decide, by decide⟩ (by decide +kernel) ?_
  refine q_bipush 8 rfl (show sCode 209 6 = some (.bipush 6, 2) by decide +kernel) ⟨by decide, by decide⟩ (by decide +kernel) ?_
  refine q_iload_n 9 rfl (show sCode 209 8 = some (.iload_n 1, 1) by decide +kernel) rfl ?_
  refine q_imul 10 rfl (show sCode 209 9 = some (.imul, 1) by decide +kernel) h1 ?_
  refine q_iadd 11 rfl (show sCode 209 10 = some (.iadd, 1) by decide +kernel) h2 ?_
  refine q_iload_n 12 rfl (show sCode 209 11 = some (.iload_n 2, 1) by decide +kernel) rfl ?_
  refine q_iadd 13 rfl (show sCode 209 12 = some (.iadd, 1) by decide +kernel) h3 ?_
  refine q_iald 14 rfl (show sCode 209 13 = some (.iaload, 1) by decide +kernel) h4 ?_
  exact q_iret (show sCode 209 14 = some (.ireturn, 1) by decide +kernel) (by decide +kernel) (by decide +kernel) kk
-- 210 AfterTheLastModel.person (II)I
theorem b210_0 {d : Nat} {Q : Option sV → sM → sG → Prop} {M : sM} {G : sG} {a0 : Nat} {x1 : Int} {x2 : Int}  (kk : sC d 211 [vI x1] M G (QI (fun r M1 G1 => sW (sC d) 210 Q 4 [vO 12 a0, vI x1, vI x2] (vI r :: []) M1 G1 0 0))) : sW (sC d) 210 Q 0 [vO 12 a0, vI x1, vI x2] [] M G 0 0 := by
  refine q_iload_n 1 rfl (show sCode 210 0 = some (.iload_n 1, 1) by decide +kernel) rfl ?_
  exact q_statI [vI x1] 4 rfl (show sCode 210 1 = some (.invokestatic 305, 3) by decide +kernel) (show sMR (sKo 210).1 305 = some 211 by decide +kernel) (show 211 < 1000 ∧ sStat 211 = true ∧ sKo 211 = (12, 1, 2, 0, 0) by decide +kernel) rfl rfl (Nat.le_of_ble_eq_true rfl) rfl rfl rfl (by decide +kernel) kk
theorem b210_4 {d : Nat} {Q : Option sV → sM → sG → Prop} {M : sM} {G : sG} {a0 : Nat} {x1 : Int} {x2 : Int} {s0 : Int}  (k1 : s0 = 0 → sW (sC d) 210 Q 19 [vN, vN, vN] [] M G 0 0) (k2 : s0 ≠ 0 → sW (sC d) 210 Q 7 [vO 12 a0, vI x1, vI x2] [] M G 0 0) : sW (sC d) 210 Q 4 [vO 12 a0, vI x1, vI x2] [vI s0] M G 0 0 := by
  refine q_ifeq 19 7 rfl (by decide) (show sCode 210 4 = some (.ifCond .eq 15, 3) by decide +kernel) ?_ ?_
  · intro q; refine q_forget (L' := [vN, vI x1, vI x2]) 0 rfl ?_; refine q_forget (L' := [vN, vN, vI x2]) 1 rfl ?_; refine q_forget (L' := [vN, vN, vN]) 2 rfl ?_; exact k1 q
  · intro q; exact k2 q
theorem b210_7 {d : Nat} {Q : Option sV → sM → sG → Prop} {M : sM} {G : sG} {a0 : Nat} {x1 : Int} {x2 : Int}  (kk : sC d 183 [vL x2, vL 0, vL 5] M G (QI (fun r M1 G1 => sW (sC d) 210 Q 16 [vO 12 a0, vI x1, vI x2] (vI r :: []) M1 G1 0 0))) : sW (sC d) 210 Q 7 [vO 12 a0, vI x1, vI x2] [] M G 0 0 := by
  refine q_iload_n 8 rfl (show sCode 210 7 = some (.iload_n 2, 1) by decide +kernel) rfl ?_
  refine q_i2l 9 rfl (show sCode 210 8 = some (.i2l, 1) by decide +kernel) ?_
  refine q_lconst 10 rfl (show sCode 210 9 = some (.lconst 0, 1) by decide +kernel) ?_
  refine q_ldc2_w 13 rfl (show sCode 210 10 = some (.ldc2_w 294, 3) by decide +kernel) (show sLR (sKo 210).1 294 = some 5 by decide +kernel) ⟨by decide, by decide⟩ ?_
  exact q_statI [vL x2, vL 0, vL 5] 16 rfl (show sCode 210 13 = some (.invokestatic 127, 3) by decide +kernel) (show sMR (sKo 210).1 127 = some 183 by decide +kernel) (show 183 < 1000 ∧ sStat 183 = true ∧ sKo 183 = (12, 3, 2, 0, 0) by decide +kernel) rfl rfl (Nat.le_of_ble_eq_true rfl) rfl rfl rfl (by decide +kernel) kk
theorem b210_16 {d : Nat} {Q : Option sV → sM → sG → Prop} {M : sM} {G : sG} {a0 : Nat} {x1 : Int} {x2 : Int} {s0 : Int}  (k1 : s0 ≠ 0 → sW (sC d) 210 Q 22 [vO 12 a0, vI x1, vI x2] [] M G 0 0) (k2 : s0 = 0 → sW (sC d) 210 Q 19 [vN, vN, vN] [] M G 0 0) : sW (sC d) 210 Q 16 [vO 12 a0, vI x1, vI x2] [vI s0] M G 0 0 := by
  refine q_ifne 22 19 rfl (by decide) (show sCode 210 16 = some (.ifCond .ne 6, 3) by decide +kernel) ?_ ?_
  · intro q; exact k1 q
  · intro q; refine q_forget (L' := [vN, vI x1, vI x2]) 0 rfl ?_; refine q_forget (L' := [vN, vN, vI x2]) 1 rfl ?_; refine q_forget (L' := [vN, vN, vN]) 2 rfl ?_; exact k2 q
theorem b210_19 {d : Nat} {P : Int → sM → sG → Prop} {M : sM} {G : sG}   (kk : P (-2) M G) : sW (sC d) 210 (QI P) 19 [vN, vN, vN] [] M G 0 0 := by
  refine q_bipush 21 rfl (show sCode 210 19 = some (.bipush (-2), 2) by decide +kernel) ⟨by decide, by decide⟩ (by decide +kernel) ?_
  exact q_iret (show sCode 210 21 = some (.ireturn, 1) by decide +kernel) (by decide +kernel) (by decide +kernel) kk
theorem b210_22 {d : Nat} {Q : Option sV → sM → sG → Prop} {M : sM} {G : sG} {a0 : Nat} {x1 : Int} {x2 : Int}  (k1 : x2 ≠ 2 → sW (sC d) 210 Q 41 [vO 12 a0, vI x1, vI x2] [] M G 0 0) (k2 : x2 = 2 → sW (sC d) 210 Q 27 [vO 12 a0, vI x1, vN] [] M G 0 0) : sW (sC d) 210 Q 22 [vO 12 a0, vI x1, vI x2] [] M G 0 0 := by
  refine q_iload_n 23 rfl (show sCode 210 22 = some (.iload_n 2, 1) by decide +kernel) rfl ?_
  refine q_iconst 24 rfl (show sCode 210 23 = some (.iconst 2, 1) by decide +kernel) ⟨by decide, by decide⟩ ?_
  refine q_icmpne 41 27 rfl (by decide) (show sCode 210 24 = some (.if_icmp .ne 17, 3) by decide +kernel) ?_ ?_
  · intro q; exact k1 q
  · intro q; refine q_forget (L' := [vO 12 a0, vI x1, vN]) 2 rfl ?_; exact k2 q
theorem b210_27 {d : Nat} {Q : Option sV → sM → sG → Prop} {M : sM} {G : sG} {a0 : Nat} {x1 : Int}  (kk : sC d 212 [vO 12 a0, vI x1] M G (QI (fun r M1 G1 => sW (sC d) 210 Q 32 [vN, vN, vN] (vI r :: []) M1 G1 0 0))) : sW (sC d) 210 Q 27 [vO 12 a0, vI x1, vN] [] M G 0 0 := by
  refine q_aload_n 28 rfl (show sCode 210 27 = some (.aload_n 0, 1) by decide +kernel) rfl (Nat.le_of_ble_eq_true rfl) ?_
  refine q_iload_n 29 rfl (show sCode 210 28 = some (.iload_n 1, 1) by decide +kernel) rfl ?_
  refine q_forget (L' := [vN, vI x1, vN]) 0 rfl ?_
  refine q_forget (L' := [vN, vN, vN]) 1 rfl ?_
  exact q_virtI [vI x1] 32 rfl (show sCode 210 29 = some (.invokevirtual 308, 3) by decide +kernel) (show sMR (sKo 210).1 308 = some 212 by decide +kernel) (show 212 < 1000 ∧ sStat 212 = false ∧ sIni 212 = false ∧ sKo 212 = (12, 1, 2, 0, 0) by decide +kernel) rfl (Or.inl rfl) rfl (Nat.le_of_ble_eq_true rfl) rfl rfl rfl (by decide +kernel) kk
theorem b210_32 {d : Nat} {Q : Option sV → sM → sG → Prop} {M : sM} {G : sG} {s0 : Int}  (k1 : s0 = 0 → sW (sC d) 210 Q 39 [vN, vN, vN] [] M G 0 0) (k2 : s0 ≠ 0 → sW (sC d) 210 Q 35 [vN, vN, vN] [] M G 0 0) : sW (sC d) 210 Q 32 [vN, vN, vN] [vI s0] M G 0 0 := by
  refine q_ifeq 39 35 rfl (by decide) (show sCode 210 32 = some (.ifCond .eq 7, 3) by decide +kernel) ?_ ?_
  · intro q; exact k1 q
  · intro q; exact k2 q
theorem b210_35 {d : Nat} {Q : Option sV → sM → sG → Prop} {M : sM} {G : sG}   (kk : sW (sC d) 210 Q 40 [vN, vN, vN] [vI 1] M G 0 0) : sW (sC d) 210 Q 35 [vN, vN, vN] [] M G 0 0 := by
  refine q_iconst 36 rfl (show sCode 210 35 = some (.iconst 1, 1) by decide +kernel) ⟨by decide, by decide⟩ ?_
  refine q_goto 40 (by decide) (show sCode 210 36 = some (.goto 4, 3) by decide +kernel) ?_
  exact kk
theorem b210_39 {d : Nat} {Q : Option sV → sM → sG → Prop} {M : sM} {G : sG}   (kk : sW (sC d) 210 Q 40 [vN, vN, vN] [vI 0] M G 0 0) : sW (sC d) 210 Q 39 [vN, vN, vN] [] M G 0 0 := by
  refine q_iconst 40 rfl (show sCode 210 39 = some (.iconst 0, 1) by decide +kernel) ⟨by decide, by decide⟩ ?_
  exact kk
theorem b210_40 {d : Nat} {P : Int → sM → sG → Prop} {M : sM} {G : sG} {s0 : Int}  (kk : P s0 M G) : sW (sC d) 210 (QI P) 40 [vN, vN, vN] [vI s0] M G 0 0 := by
  exact q_iret (show sCode 210 40 = some (.ireturn, 1) by decide +kernel) (by decide +kernel) (by decide +kernel) kk
theorem b210_41 {d : Nat} {Q : Option sV → sM → sG → Prop} {M : sM} {G : sG} {a0 : Nat} {x1 : Int} {x2 : Int}  (k1 : x2 ≠ 3 → sW (sC d) 210 Q 66 [vO 12 a0, vI x1, vI x2] [] M G 0 0) (k2 : x2 = 3 → sW (sC d) 210 Q 46 [vO 12 a0, vI x1, vN] [] M G 0 0) : sW (sC d) 210 Q 41 [vO 12 a0, vI x1, vI x2] [] M G 0 0 := by
  refine q_iload_n 42 rfl (show sCode 210 41 = some (.iload_n 2, 1) by decide +kernel) rfl ?_
  refine q_iconst 43 rfl (show sCode 210 42 = some (.iconst 3, 1) by decide +kernel) ⟨by decide, by decide⟩ ?_
  refine q_icmpne 66 46 rfl (by decide) (show sCode 210 43 = some (.if_icmp .ne 23, 3) by decide +kernel) ?_ ?_
  · intro q; exact k1 q
  · intro q; refine q_forget (L' := [vO 12 a0, vI x1, vN]) 2 rfl ?_; exact k2 q
theorem b210_46 {d : Nat} {Q : Option sV → sM → sG → Prop} {M : sM} {G : sG} {a0 : Nat} {x1 : Int}  (kk : sC d 206 [vO 12 a0, vI x1, vI 0] M G (QI (fun r M1 G1 => sW (sC d) 210 Q 52 [vO 12 a0, vI x1, vN] (vI r :: []) M1 G1 0 0))) : sW (sC d) 210 Q 46 [vO 12 a0, vI x1, vN] [] M G 0 0 := by
  refine q_aload_n 47 rfl (show sCode 210 46 = some (.aload_n 0, 1) by decide +kernel) rfl (Nat.le_of_ble_eq_true rfl) ?_
  refine q_iload_n 48 rfl (show sCode 210 47 = some (.iload_n 1, 1) by decide +kernel) rfl ?_
  refine q_iconst 49 rfl (show sCode 210 48 = some (.iconst 0, 1) by decide +kernel) ⟨by decide, by decide⟩ ?_
  exact q_virtI [vI x1, vI 0] 52 rfl (show sCode 210 49 = some (.invokevirtual 280, 3) by decide +kernel) (show sMR (sKo 210).1 280 = some 206 by decide +kernel) (show 206 < 1000 ∧ sStat 206 = false ∧ sIni 206 = false ∧ sKo 206 = (12, 2, 1, 0, 0) by decide +kernel) rfl (Or.inl rfl) rfl (Nat.le_of_ble_eq_true rfl) rfl rfl rfl (by decide +kernel) kk
theorem b210_52 {d : Nat} {Q : Option sV → sM → sG → Prop} {M : sM} {G : sG} {a0 : Nat} {x1 : Int} {s0 : Int}  (k1 : 0 ≤ s0 → sW (sC d) 210 Q 59 [vO 12 a0, vI x1, vN] [] M G 0 0) (k2 : s0 < 0 → sW (sC d) 210 Q 55 [vN, vN, vN] [] M G 0 0) : sW (sC d) 210 Q 52 [vO 12 a0, vI x1, vN] [vI s0] M G 0 0 := by
  refine q_ifge 59 55 rfl (by decide) (show sCode 210 52 = some (.ifCond .ge 7, 3) by decide +kernel) ?_ ?_
  · intro q; exact k1 q
  · intro q; refine q_forget (L' := [vN, vI x1, vN]) 0 rfl ?_; refine q_forget (L' := [vN, vN, vN]) 1 rfl ?_; exact k2 q
theorem b210_55 {d : Nat} {Q : Option sV → sM → sG → Prop} {M : sM} {G : sG}   (kk : sW (sC d) 210 Q 65 [vN, vN, vN] [vI 0] M G 0 0) : sW (sC d) 210 Q 55 [vN, vN, vN] [] M G 0 0 := by
  refine q_iconst 56 rfl (show sCode 210 55 = some (.iconst 0, 1) by decide +kernel) ⟨by decide, by decide⟩ ?_
  refine q_goto 65 (by decide) (show sCode 210 56 = some (.goto 9, 3) by decide +kernel) ?_
  exact kk
theorem b210_59 {d : Nat} {Q : Option sV → sM → sG → Prop} {M : sM} {G : sG} {a0 : Nat} {x1 : Int}  (kk : sC d 213 [vO 12 a0, vI x1, vI 1] M G (QI (fun r M1 G1 => sW (sC d) 210 Q 65 [vN, vN, vN] (vI r :: []) M1 G1 0 0))) : sW (sC d) 210 Q 59 [vO 12 a0, vI x1, vN] [] M G 0 0 := by
  refine q_aload_n 60 rfl (show sCode 210 59 = some (.aload_n 0, 1) by decide +kernel) rfl (Nat.le_of_ble_eq_true rfl) ?_
  refine q_iload_n 61 rfl (show sCode 210 60 = some (.iload_n 1, 1) by decide +kernel) rfl ?_
  refine q_iconst 62 rfl (show sCode 210 61 = some (.iconst 1, 1) by decide +kernel) ⟨by decide, by decide⟩ ?_
  refine q_forget (L' := [vN, vI x1, vN]) 0 rfl ?_
  refine q_forget (L' := [vN, vN, vN]) 1 rfl ?_
  exact q_virtI [vI x1, vI 1] 65 rfl (show sCode 210 62 = some (.invokevirtual 287, 3) by decide +kernel) (show sMR (sKo 210).1 287 = some 213 by decide +kernel) (show 213 < 1000 ∧ sStat 213 = false ∧ sIni 213 = false ∧ sKo 213 = (12, 2, 1, 0, 0) by decide +kernel) rfl (Or.inl rfl) rfl (Nat.le_of_ble_eq_true rfl) rfl rfl rfl (by decide +kernel) kk
theorem b210_65 {d : Nat} {P : Int → sM → sG → Prop} {M : sM} {G : sG} {s0 : Int}  (kk : P s0 M G) : sW (sC d) 210 (QI P) 65 [vN, vN, vN] [vI s0] M G 0 0 := by
  exact q_iret (show sCode 210 65 = some (.ireturn, 1) by decide +kernel) (by decide +kernel) (by decide +kernel) kk
theorem b210_66 {d : Nat} {Q : Option sV → sM → sG → Prop} {M : sM} {G : sG} {a0 : Nat} {x1 : Int} {x2 : Int}  (k1 : 2 ≤ x2 → sW (sC d) 210 Q 77 [vN, vN, vI x2] [vI x1, vO 12 a0] M G 0 0) (k2 : x2 < 2 → sW (sC d) 210 Q 73 [vN, vN, vI x2] [vI x1, vO 12 a0] M G 0 0) : sW (sC d) 210 Q 66 [vO 12 a0, vI x1, vI x2] [] M G 0 0 := by
  refine q_aload_n 67 rfl (show sCode 210 66 = some (.aload_n 0, 1) by decide +kernel) rfl (Nat.le_of_ble_eq_true rfl) ?_
  refine q_iload_n 68 rfl (show sCode 210 67 = some (.iload_n 1, 1) by decide +kernel) rfl ?_
  refine q_iload_n 69 rfl (show sCode 210 68 = some (.iload_n 2, 1) by decide +kernel) rfl ?_
  refine q_iconst 70 rfl (show sCode 210 69 = some (.iconst 2, 1) by decide +kernel) ⟨by decide, by decide⟩ ?_
  refine q_icmpge 77 73 rfl (by decide) (show sCode 210 70 = some (.if_icmp .ge 7, 3) by decide +kernel) ?_ ?_
  · intro q; refine q_forget (L' := [vN, vI x1, vI x2]) 0 rfl ?_; refine q_forget (L' := [vN, vN, vI x2]) 1 rfl ?_; exact k1 q
  · intro q; refine q_forget (L' := [vN, vI x1, vI x2]) 0 rfl ?_; refine q_forget (L' := [vN, vN, vI x2]) 1 rfl ?_; exact k2 q
theorem b210_73 {d : Nat} {Q : Option sV → sM → sG → Prop} {M : sM} {G : sG} {x2 : Int} {s0 : Int} {sa1 : Nat}  (kk : sW (sC d) 210 Q 80 [vN, vN, vN] [vI x2, vI s0, vO 12 sa1] M G 0 0) : sW (sC d) 210 Q 73 [vN, vN, vI x2] [vI s0, vO 12 sa1] M G 0 0 := by
  refine q_iload_n 74 rfl (show sCode 210 73 = some (.iload_n 2, 1) by decide +kernel) rfl ?_
  refine q_goto 80 (by decide) (show sCode 210 74 = some (.goto 6, 3) by decide +kernel) ?_
  refine q_forget (L' := [vN, vN, vN]) 2 rfl ?_
  exact kk
theorem b210_77 {d : Nat} {Q : Option sV → sM → sG → Prop} {M : sM} {G : sG} {x2 : Int} {s0 : Int} {sa1 : Nat} (h1 : sI (x2 - 1)) (kk : sW (sC d) 210 Q 80 [vN, vN, vN] [vI (x2 - 1), vI s0, vO 12 sa1] M G 0 0) : sW (sC d) 210 Q 77 [vN, vN, vI x2] [vI s0, vO 12 sa1] M G 0 0 := by
  refine q_iload_n 78 rfl (show sCode 210 77 = some (.iload_n 2, 1) by decide +kernel) rfl ?_
  refine q_iconst 79 rfl (show sCode 210 78 = some (.iconst 1, 1) by decide +kernel) ⟨by decide, by decide⟩ ?_
  refine q_isub 80 rfl (show sCode 210 79 = some (.isub, 1) by decide +kernel) h1 ?_
  refine q_forget (L' := [vN, vN, vN]) 2 rfl ?_
  exact kk
theorem b210_80 {d : Nat} {Q : Option sV → sM → sG → Prop} {M : sM} {G : sG} {s0 : Int} {s1 : Int} {sa2 : Nat}  (kk : sC d 206 [vO 12 sa2, vI s1, vI s0] M G (QI (fun r M1 G1 => sW (sC d) 210 Q 83 [vN, vN, vN] (vI r :: []) M1 G1 0 0))) : sW (sC d) 210 Q 80 [vN, vN, vN] [vI s0, vI s1, vO 12 sa2] M G 0 0 := by
  exact q_virtI [vI s1, vI s0] 83 rfl (show sCode 210 80 = some (.invokevirtual 280, 3) by decide +kernel) (show sMR (sKo 210).1 280 = some 206 by decide +kernel) (show 206 < 1000 ∧ sStat 206 = false ∧ sIni 206 = false ∧ sKo 206 = (12, 2, 1, 0, 0) by decide +kernel) rfl (Or.inl rfl) rfl (Nat.le_of_ble_eq_true rfl) rfl rfl rfl (by decide +kernel) kk
theorem b210_83 {d : Nat} {P : Int → sM → sG → Prop} {M : sM} {G : sG} {s0 : Int}  (kk : P s0 M G) : sW (sC d) 210 (QI P) 83 [vN, vN, vN] [vI s0] M G 0 0 := by
  exact q_iret (show sCode 210 83 = some (.ireturn, 1) by decide +kernel) (by decide +kernel) (by decide +kernel) kk
-- 211 AfterTheLastModel.isPerson (I)Z
theorem b211_0 {d : Nat} {Q : Option sV → sM → sG → Prop} {M : sM} {G : sG} {x0 : Int}  (k1 : x0 < 0 → sW (sC d) 211 Q 14 [vN] [] M G 0 0) (k2 : 0 ≤ x0 → sW (sC d) 211 Q 4 [vI x0] [] M G 0 0) : sW (sC d) 211 Q 0 [vI x0] [] M G 0 0 := by
  refine q_iload_n 1 rfl (show sCode 211 0 = some (.iload_n 0, 1) by decide +kernel) rfl ?_
  refine q_iflt 14 4 rfl (by decide) (show sCode 211 1 = some (.ifCond .lt 13, 3) by decide +kernel) ?_ ?_
  · intro q; refine q_forget (L' := [vN]) 0 rfl ?_; exact k1 q
  · intro q; exact k2 q
theorem b211_4 {d : Nat} {Q : Option sV → sM → sG → Prop} {M : sM} {G : sG} {x0 : Int}  (k1 : 12 ≤ x0 → sW (sC d) 211 Q 14 [vN] [] M G 0 0) (k2 : x0 < 12 → sW (sC d) 211 Q 10 [vN] [] M G 0 0) : sW (sC d) 211 Q 4 [vI x0] [] M G 0 0 := by
  refine q_iload_n 5 rfl (show sCode 211 4 = some (.iload_n 0, 1) by decide +kernel) rfl ?_
  refine q_bipush 7 rfl (show sCode 211 5 = some (.bipush 12, 2) by decide +kernel) ⟨by decide, by decide⟩ (by decide +kernel) ?_
  refine q_icmpge 14 10 rfl (by decide) (show sCode 211 7 = some (.if_icmp .ge 7, 3) by decide +kernel) ?_ ?_
  · intro q; refine q_forget (L' := [vN]) 0 rfl ?_; exact k1 q
  · intro q; refine q_forget (L' := [vN]) 0 rfl ?_; exact k2 q
theorem b211_10 {d : Nat} {Q : Option sV → sM → sG → Prop} {M : sM} {G : sG}   (kk : sW (sC d) 211 Q 15 [vN] [vI 1] M G 0 0) : sW (sC d) 211 Q 10 [vN] [] M G 0 0 := by
  refine q_iconst 11 rfl (show sCode 211 10 = some (.iconst 1, 1) by decide +kernel) ⟨by decide, by decide⟩ ?_
  refine q_goto 15 (by decide) (show sCode 211 11 = some (.goto 4, 3) by decide +kernel) ?_
  exact kk
theorem b211_14 {d : Nat} {Q : Option sV → sM → sG → Prop} {M : sM} {G : sG}   (kk : sW (sC d) 211 Q 15 [vN] [vI 0] M G 0 0) : sW (sC d) 211 Q 14 [vN] [] M G 0 0 := by
  refine q_iconst 15 rfl (show sCode 211 14 = some (.iconst 0, 1) by decide +kernel) ⟨by decide, by decide⟩ ?_
  exact kk
theorem b211_15 {d : Nat} {P : Int → sM → sG → Prop} {M : sM} {G : sG} {s0 : Int}  (h01 : s0 = 0 ∨ s0 = 1) (kk : P s0 M G) : sW (sC d) 211 (QI P) 15 [vN] [vI s0] M G 0 0 := by
  exact q_zret (show sCode 211 15 = some (.ireturn, 1) by decide +kernel) (by decide +kernel) h01 (by decide +kernel) kk
-- 212 AfterTheLastModel.mayGo (I)Z
theorem b212_0 {d : Nat} {Q : Option sV → sM → sG → Prop} {M : sM} {G : sG} {a0 : Nat} {x1 : Int}  (kk : sC d 206 [vO 12 a0, vI x1, vI 0] M G (QI (fun r M1 G1 => sW (sC d) 212 Q 6 [vO 12 a0, vI x1, vN, vN] (vI r :: []) M1 G1 0 0))) : sW (sC d) 212 Q 0 [vO 12 a0, vI x1, vN, vN] [] M G 0 0 := by
  refine q_aload_n 1 rfl (show sCode 212 0 = some (.aload_n 0, 1) by decide +kernel) rfl (Nat.le_of_ble_eq_true rfl) ?_
  refine q_iload_n 2 rfl (show sCode 212 1 = some (.iload_n 1, 1) by decide +kernel) rfl ?_
  refine q_iconst 3 rfl (show sCode 212 2 = some (.iconst 0, 1) by decide +kernel) ⟨by decide, by decide⟩ ?_
  exact q_virtI [vI x1, vI 0] 6 rfl (show sCode 212 3 = some (.invokevirtual 280, 3) by decide +kernel) (show sMR (sKo 212).1 280 = some 206 by decide +kernel) (show 206 < 1000 ∧ sStat 206 = false ∧ sIni 206 = false ∧ sKo 206 = (12, 2, 1, 0, 0) by decide +kernel) rfl (Or.inl rfl) rfl (Nat.le_of_ble_eq_true rfl) rfl rfl rfl (by decide +kernel) kk
theorem b212_6 {d : Nat} {Q : Option sV → sM → sG → Prop} {M : sM} {G : sG} {a0 : Nat} {x1 : Int} {s0 : Int}  (k1 : 0 ≤ s0 → sW (sC d) 212 Q 13 [vO 12 a0, vI x1, vI s0, vN] [] M G 0 0) (k2 : s0 < 0 → sW (sC d) 212 Q 11 [vN, vN, vN, vN] [] M G 0 0) : sW (sC d) 212 Q 6 [vO 12 a0, vI x1, vN, vN] [vI s0] M G 0 0 := by
  refine q_istore_n [vO 12 a0, vI x1, vI s0, vN] 7 rfl (show sCode 212 6 = some (.istore_n 2, 1) by decide +kernel) (Nat.lt_of_lt_of_le (Nat.lt_succ_self _) (Nat.le_of_ble_eq_true rfl)) rfl rfl ?_
  refine q_iload_n 8 rfl (show sCode 212 7 = some (.iload_n 2, 1) by decide +kernel) rfl ?_
  refine q_ifge 13 11 rfl (by decide) (show sCode 212 8 = some (.ifCond .ge 5, 3) by decide +kernel) ?_ ?_
  · intro q; exact k1 q
  · intro q; refine q_forget (L' := [vN, vI x1, vI s0, vN]) 0 rfl ?_; refine q_forget (L' := [vN, vN, vI s0, vN]) 1 rfl ?_; refine q_forget (L' := [vN, vN, vN, vN]) 2 rfl ?_; exact k2 q
theorem b212_11 {d : Nat} {P : Int → sM → sG → Prop} {M : sM} {G : sG}   (kk : P 0 M G) : sW (sC d) 212 (QI P) 11 [vN, vN, vN, vN] [] M G 0 0 := by
  refine q_iconst 12 rfl (show sCode 212 11 = some (.iconst 0, 1) by decide +kernel) ⟨by decide, by decide⟩ ?_
  exact q_zret (show sCode 212 12 = some (.ireturn, 1) by decide +kernel) (by decide +kernel) (by decide) (by decide +kernel) kk
theorem b212_13 {d : Nat} {Q : Option sV → sM → sG → Prop} {M : sM} {G : sG} {a0 : Nat} {x1 : Int} {x2 : Int}  (kk : sC d 204 [vO 12 a0, vI x2, vI 0] M G (QI (fun r M1 G1 => sW (sC d) 212 Q 19 [vO 12 a0, vI x1, vN, vN] (vI r :: []) M1 G1 0 0))) : sW (sC d) 212 Q 13 [vO 12 a0, vI x1, vI x2, vN] [] M G 0 0 := by
  refine q_aload_n 14 rfl (show sCode 212 13 = some (.aload_n 0, 1) by decide +kernel) rfl (Nat.le_of_ble_eq_true rfl) ?_
  refine q_iload_n 15 rfl (show sCode 212 14 = some (.iload_n 2, 1) by decide +kernel) rfl ?_
  refine q_iconst 16 rfl (show sCode 212 15 = some (.iconst 0, 1) by decide +kernel) ⟨by decide, by decide⟩ ?_
  refine q_forget (L' := [vO 12 a0, vI x1, vN, vN]) 2 rfl ?_
  exact q_virtI [vI x2, vI 0] 19 rfl (show sCode 212 16 = some (.invokevirtual 284, 3) by decide +kernel) (show sMR (sKo 212).1 284 = some 204 by decide +kernel) (show 204 < 1000 ∧ sStat 204 = false ∧ sIni 204 = false ∧ sKo 204 = (12, 2, 1, 0, 0) by decide +kernel) rfl (Or.inl rfl) rfl (Nat.le_of_ble_eq_true rfl) rfl rfl rfl (by decide +kernel) kk
theorem b212_19 {d : Nat} {Q : Option sV → sM → sG → Prop} {M : sM} {G : sG} {a0 : Nat} {x1 : Int} {s0 : Int}  (k1 : s0 = 2 → sW (sC d) 212 Q 42 [vN, vN, vN, vN] [] M G 0 0) (k2 : s0 ≠ 2 → sW (sC d) 212 Q 25 [vO 12 a0, vI x1, vN, vI s0] [] M G 0 0) : sW (sC d) 212 Q 19 [vO 12 a0, vI x1, vN, vN] [vI s0] M G 0 0 := by
  refine q_istore_n [vO 12 a0, vI x1, vN, vI s0] 20 rfl (show sCode 212 19 = some (.istore_n 3, 1) by decide +kernel) (Nat.lt_of_lt_of_le (Nat.lt_succ_self _) (Nat.le_of_ble_eq_true rfl)) rfl rfl ?_
  refine q_iload_n 21 rfl (show sCode 212 20 = some (.iload_n 3, 1) by decide +kernel) rfl ?_
  refine q_iconst 22 rfl (show sCode 212 21 = some (.iconst 2, 1) by decide +kernel) ⟨by decide, by decide⟩ ?_
  refine q_icmpeq 42 25 rfl (by decide) (show sCode 212 22 = some (.if_icmp .eq 20, 3) by decide +kernel) ?_ ?_
  · intro q; refine q_forget (L' := [vN, vI x1, vN, vI s0]) 0 rfl ?_; refine q_forget (L' := [vN, vN, vN, vI s0]) 1 rfl ?_; refine q_forget (L' := [vN, vN, vN, vN]) 3 rfl ?_; exact k1 q
  · intro q; exact k2 q
theorem b212_25 {d : Nat} {Q : Option sV → sM → sG → Prop} {M : sM} {G : sG} {a0 : Nat} {x1 : Int} {x3 : Int}  (k1 : x3 ≠ 0 → sW (sC d) 212 Q 35 [vN, vN, vN, vN] [vI x1, vO 12 a0] M G 0 0) (k2 : x3 = 0 → sW (sC d) 212 Q 31 [vN, vN, vN, vN] [vI x1, vO 12 a0] M G 0 0) : sW (sC d) 212 Q 25 [vO 12 a0, vI x1, vN, vI x3] [] M G 0 0 := by
  refine q_aload_n 26 rfl (show sCode 212 25 = some (.aload_n 0, 1) by decide +kernel) rfl (Nat.le_of_ble_eq_true rfl) ?_
  refine q_iload_n 27 rfl (show sCode 212 26 = some (.iload_n 1, 1) by decide +kernel) rfl ?_
  refine q_iload_n 28 rfl (show sCode 212 27 = some (.iload_n 3, 1) by decide +kernel) rfl ?_
  refine q_ifne 35 31 rfl (by decide) (show sCode 212 28 = some (.ifCond .ne 7, 3) by decide +kernel) ?_ ?_
  · intro q; refine q_forget (L' := [vN, vI x1, vN, vI x3]) 0 rfl ?_; refine q_forget (L' := [vN, vN, vN, vI x3]) 1 rfl ?_; refine q_forget (L' := [vN, vN, vN, vN]) 3 rfl ?_; exact k1 q
  · intro q; refine q_forget (L' := [vN, vI x1, vN, vI x3]) 0 rfl ?_; refine q_forget (L' := [vN, vN, vN, vI x3]) 1 rfl ?_; refine q_forget (L' := [vN, vN, vN, vN]) 3 rfl ?_; exact k2 q
theorem b212_31 {d : Nat} {Q : Option sV → sM → sG → Prop} {M : sM} {G : sG} {s0 : Int} {sa1 : Nat}  (kk : sW (sC d) 212 Q 36 [vN, vN, vN, vN] [vI 1, vI s0, vO 12 sa1] M G 0 0) : sW (sC d) 212 Q 31 [vN, vN, vN, vN] [vI s0, vO 12 sa1] M G 0 0 := by
  refine q_iconst 32 rfl (show sCode 212 31 = some (.iconst 1, 1) by decide +kernel) ⟨by decide, by decide⟩ ?_
  refine q_goto 36 (by decide) (show sCode 212 32 = some (.goto 4, 3) by decide +kernel) ?_
  exact kk
theorem b212_35 {d : Nat} {Q : Option sV → sM → sG → Prop} {M : sM} {G : sG} {s0 : Int} {sa1 : Nat}  (kk : sW (sC d) 212 Q 36 [vN, vN, vN, vN] [vI 0, vI s0, vO 12 sa1] M G 0 0) : sW (sC d) 212 Q 35 [vN, vN, vN, vN] [vI s0, vO 12 sa1] M G 0 0 := by
  refine q_iconst 36 rfl (show sCode 212 35 = some (.iconst 0, 1) by decide +kernel) ⟨by decide, by decide⟩ ?_
  exact kk
theorem b212_36 {d : Nat} {Q : Option sV → sM → sG → Prop} {M : sM} {G : sG} {s0 : Int} {s1 : Int} {sa2 : Nat}  (kk : sC d 213 [vO 12 sa2, vI s1, vI s0] M G (QI (fun r M1 G1 => sW (sC d) 212 Q 39 [vN, vN, vN, vN] (vI r :: []) M1 G1 0 0))) : sW (sC d) 212 Q 36 [vN, vN, vN, vN] [vI s0, vI s1, vO 12 sa2] M G 0 0 := by
  exact q_virtI [vI s1, vI s0] 39 rfl (show sCode 212 36 = some (.invokevirtual 287, 3) by decide +kernel) (show sMR (sKo 212).1 287 = some 213 by decide +kernel) (show 213 < 1000 ∧ sStat 213 = false ∧ sIni 213 = false ∧ sKo 213 = (12, 2, 1, 0, 0) by decide +kernel) rfl (Or.inl rfl) rfl (Nat.le_of_ble_eq_true rfl) rfl rfl rfl (by decide +kernel) kk
theorem b212_39 {d : Nat} {Q : Option sV → sM → sG → Prop} {M : sM} {G : sG} {s0 : Int}  (k1 : s0 ≠ 0 → sW (sC d) 212 Q 46 [vN, vN, vN, vN] [] M G 0 0) (k2 : s0 = 0 → sW (sC d) 212 Q 42 [vN, vN, vN, vN] [] M G 0 0) : sW (sC d) 212 Q 39 [vN, vN, vN, vN] [vI s0] M G 0 0 := by
  refine q_ifne 46 42 rfl (by decide) (show sCode 212 39 = some (.ifCond .ne 7, 3) by decide +kernel) ?_ ?_
  · intro q; exact k1 q
  · intro q; exact k2 q
theorem b212_42 {d : Nat} {Q : Option sV → sM → sG → Prop} {M : sM} {G : sG}   (kk : sW (sC d) 212 Q 47 [vN, vN, vN, vN] [vI 1] M G 0 0) : sW (sC d) 212 Q 42 [vN, vN, vN, vN] [] M G 0 0 := by
  refine q_iconst 43 rfl (show sCode 212 42 = some (.iconst 1, 1) by decide +kernel) ⟨by decide, by decide⟩ ?_
  refine q_goto 47 (by decide) (show sCode 212 43 = some (.goto 4, 3) by decide +kernel) ?_
  exact kk
theorem b212_46 {d : Nat} {Q : Option sV → sM → sG → Prop} {M : sM} {G : sG}   (kk : sW (sC d) 212 Q 47 [vN, vN, vN, vN] [vI 0] M G 0 0) : sW (sC d) 212 Q 46 [vN, vN, vN, vN] [] M G 0 0 := by
  refine q_iconst 47 rfl (show sCode 212 46 = some (.iconst 0, 1) by decide +kernel) ⟨by decide, by decide⟩ ?_
  exact kk
theorem b212_47 {d : Nat} {P : Int → sM → sG → Prop} {M : sM} {G : sG} {s0 : Int}  (h01 : s0 = 0 ∨ s0 = 1) (kk : P s0 M G) : sW (sC d) 212 (QI P) 47 [vN, vN, vN, vN] [vI s0] M G 0 0 := by
  exact q_zret (show sCode 212 47 = some (.ireturn, 1) by decide +kernel) (by decide +kernel) h01 (by decide +kernel) kk
-- 213 AfterTheLastModel.others (IZ)I
theorem b213_0 {d : Nat} {Q : Option sV → sM → sG → Prop} {M : sM} {G : sG} {a0 : Nat} {x1 : Int} {x2 : Int}  (kk : sW (sC d) 213 Q 5 [vO 12 a0, vI x1, vI x2, vI 0, vI 0] [] M G 0 0) : sW (sC d) 213 Q 0 [vO 12 a0, vI x1, vI x2, vN, vN] [] M G 0 0 := by
  refine q_iconst 1 rfl (show sCode 213 0 = some (.iconst 0, 1) by decide +kernel) ⟨by decide, by decide⟩ ?_
  refine q_istore_n [vO 12 a0, vI x1, vI x2, vI 0, vN] 2 rfl (show sCode 213 1 = some (.istore_n 3, 1) by decide +kernel) (Nat.lt_of_lt_of_le (Nat.lt_succ_self _) (Nat.le_of_ble_eq_true rfl)) rfl rfl ?_
  refine q_iconst 3 rfl (show sCode 213 2 = some (.iconst 0, 1) by decide +kernel) ⟨by decide, by decide⟩ ?_
  refine q_istore [vO 12 a0, vI x1, vI x2, vI 0, vI 0] 5 rfl (show sCode 213 3 = some (.istore 4, 2) by decide +kernel) (Nat.lt_of_lt_of_le (Nat.lt_succ_self _) (Nat.le_of_ble_eq_true rfl)) rfl rfl ?_
  exact kk
theorem b213_5 {d : Nat} {Q : Option sV → sM → sG → Prop} {M : sM} {G : sG} {a0 : Nat} {x1 : Int} {x2 : Int} {x3 : Int} {x4 : Int}  (k1 : 12 ≤ x4 → sW (sC d) 213 Q 81 [vN, vN, vN, vI x3, vN] [] M G 0 0) (k2 : x4 < 12 → sW (sC d) 213 Q 12 [vO 12 a0, vI x1, vI x2, vI x3, vI x4] [] M G 0 0) : sW (sC d) 213 Q 5 [vO 12 a0, vI x1, vI x2, vI x3, vI x4] [] M G 0 0 := by
  refine q_iload 7 rfl (show sCode 213 5 = some (.iload 4, 2) by decide +kernel) rfl ?_
  refine q_bipush 9 rfl (show sCode 213 7 = some (.bipush 12, 2) by decide +kernel) ⟨by decide, by decide⟩ (by decide +kernel) ?_
  refine q_icmpge 81 12 rfl (by decide) (show sCode 213 9 = some (.if_icmp .ge 72, 3) by decide +kernel) ?_ ?_
  · intro q; refine q_forget (L' := [vN, vI x1, vI x2, vI x3, vI x4]) 0 rfl ?_; refine q_forget (L' := [vN, vN, vI x2, vI x3, vI x4]) 1 rfl ?_; refine q_forget (L' := [vN, vN, vN, vI x3, vI x4]) 2 rfl ?_; refine q_forget (L' := [vN, vN, vN, vI x3, vN]) 4 rfl ?_; exact k1 q
  · intro q; exact k2 q
theorem b213_12 {d : Nat} {Q : Option sV → sM → sG → Prop} {M : sM} {G : sG} {a0 : Nat} {x1 : Int} {x2 : Int} {x3 : Int} {x4 : Int}  (kk : sC d 206 [vO 12 a0, vI x4, vI 0] M G (QI (fun r M1 G1 => sW (sC d) 213 Q 20 [vO 12 a0, vI x1, vI x2, vN, vI x4] (vI r :: [vI x3]) M1 G1 0 0))) : sW (sC d) 213 Q 12 [vO 12 a0, vI x1, vI x2, vI x3, vI x4] [] M G 0 0 := by
  refine q_iload_n 13 rfl (show sCode 213 12 = some (.iload_n 3, 1) by decide +kernel) rfl ?_
  refine q_aload_n 14 rfl (show sCode 213 13 = some (.aload_n 0, 1) by decide +kernel) rfl (Nat.le_of_ble_eq_true rfl) ?_
  refine q_iload 16 rfl (show sCode 213 14 = some (.iload 4, 2) by decide +kernel) rfl ?_
  refine q_iconst 17 rfl (show sCode 213 16 = some (.iconst 0, 1) by decide +kernel) ⟨by decide, by decide⟩ ?_
  refine q_forget (L' := [vO 12 a0, vI x1, vI x2, vN, vI x4]) 3 rfl ?_
  exact q_virtI [vI x4, vI 0] 20 rfl (show sCode 213 17 = some (.invokevirtual 280, 3) by decide +kernel) (show sMR (sKo 213).1 280 = some 206 by decide +kernel) (show 206 < 1000 ∧ sStat 206 = false ∧ sIni 206 = false ∧ sKo 206 = (12, 2, 1, 0, 0) by decide +kernel) rfl (Or.inl rfl) rfl (Nat.le_of_ble_eq_true rfl) rfl rfl rfl (by decide +kernel) kk
theorem b213_20 {d : Nat} {Q : Option sV → sM → sG → Prop} {M : sM} {G : sG} {a0 : Nat} {x1 : Int} {x2 : Int} {x4 : Int} {s0 : Int} {s1 : Int}  (kk : sC d 206 [vO 12 a0, vI x1, vI 0] M G (QI (fun r M1 G1 => sW (sC d) 213 Q 26 [vO 12 a0, vI x1, vI x2, vN, vI x4] (vI r :: [vI s0, vI s1]) M1 G1 0 0))) : sW (sC d) 213 Q 20 [vO 12 a0, vI x1, vI x2, vN, vI x4] [vI s0, vI s1] M G 0 0 := by
  refine q_aload_n 21 rfl (show sCode 213 20 = some (.aload_n 0, 1) by decide +kernel) rfl (Nat.le_of_ble_eq_true rfl) ?_
  refine q_iload_n 22 rfl (show sCode 213 21 = some (.iload_n 1, 1) by decide +kernel) rfl ?_
  refine q_iconst 23 rfl (show sCode 213 22 = some (.iconst 0, 1) by decide +kernel) ⟨by decide, by decide⟩ ?_
  exact q_virtI [vI x1, vI 0] 26 rfl (show sCode 213 23 = some (.invokevirtual 280, 3) by decide +kernel) (show sMR (sKo 213).1 280 = some 206 by decide +kernel) (show 206 < 1000 ∧ sStat 206 = false ∧ sIni 206 = false ∧ sKo 206 = (12, 2, 1, 0, 0) by decide +kernel) rfl (Or.inl rfl) rfl (Nat.le_of_ble_eq_true rfl) rfl rfl rfl (by decide +kernel) kk
theorem b213_26 {d : Nat} {Q : Option sV → sM → sG → Prop} {M : sM} {G : sG} {a0 : Nat} {x1 : Int} {x2 : Int} {x4 : Int} {s0 : Int} {s1 : Int} {s2 : Int}  (k1 : s1 ≠ s0 → sW (sC d) 213 Q 72 [vO 12 a0, vI x1, vI x2, vN, vI x4] [vI s2] M G 0 0) (k2 : s1 = s0 → sW (sC d) 213 Q 29 [vO 12 a0, vI x1, vI x2, vN, vI x4] [vI s2] M G 0 0) : sW (sC d) 213 Q 26 [vO 12 a0, vI x1, vI x2, vN, vI x4] [vI s0, vI s1, vI s2] M G 0 0 := by
  refine q_icmpne 72 29 rfl (by decide) (show sCode 213 26 = some (.if_icmp .ne 46, 3) by decide +kernel) ?_ ?_
  · intro q; exact k1 q
  · intro q; exact k2 q
theorem b213_29 {d : Nat} {Q : Option sV → sM → sG → Prop} {M : sM} {G : sG} {a0 : Nat} {x1 : Int} {x2 : Int} {x4 : Int} {s0 : Int}  (k1 : x2 = 0 → sW (sC d) 213 Q 52 [vO 12 a0, vI x1, vI x2, vN, vI x4] [vI s0] M G 0 0) (k2 : x2 ≠ 0 → sW (sC d) 213 Q 33 [vO 12 a0, vI x1, vI x2, vN, vI x4] [vI s0] M G 0 0) : sW (sC d) 213 Q 29 [vO 12 a0, vI x1, vI x2, vN, vI x4] [vI s0] M G 0 0 := by
  refine q_iload_n 30 rfl (show sCode 213 29 = some (.iload_n 2, 1) by decide +kernel) rfl ?_
  refine q_ifeq 52 33 rfl (by decide) (show sCode 213 30 = some (.ifCond .eq 22, 3) by decide +kernel) ?_ ?_
  · intro q; exact k1 q
  · intro q; exact k2 q
theorem b213_33 {d : Nat} {Q : Option sV → sM → sG → Prop} {M : sM} {G : sG} {a0 : Nat} {x1 : Int} {x2 : Int} {x4 : Int} {s0 : Int}  (kk : sC d 206 [vO 12 a0, vI x4, vI 2] M G (QI (fun r M1 G1 => sW (sC d) 213 Q 40 [vO 12 a0, vI x1, vI x2, vN, vI x4] (vI r :: [vI s0]) M1 G1 0 0))) : sW (sC d) 213 Q 33 [vO 12 a0, vI x1, vI x2, vN, vI x4] [vI s0] M G 0 0 := by
  refine q_aload_n 34 rfl (show sCode 213 33 = some (.aload_n 0, 1) by decide +kernel) rfl (Nat.le_of_ble_eq_true rfl) ?_
  refine q_iload 36 rfl (show sCode 213 34 = some (.iload 4, 2) by decide +kernel) rfl ?_
  refine q_iconst 37 rfl (show sCode 213 36 = some (.iconst 2, 1) by decide +kernel) ⟨by decide, by decide⟩ ?_
  exact q_virtI [vI x4, vI 2] 40 rfl (show sCode 213 37 = some (.invokevirtual 280, 3) by decide +kernel) (show sMR (sKo 213).1 280 = some 206 by decide +kernel) (show 206 < 1000 ∧ sStat 206 = false ∧ sIni 206 = false ∧ sKo 206 = (12, 2, 1, 0, 0) by decide +kernel) rfl (Or.inl rfl) rfl (Nat.le_of_ble_eq_true rfl) rfl rfl rfl (by decide +kernel) kk
theorem b213_40 {d : Nat} {Q : Option sV → sM → sG → Prop} {M : sM} {G : sG} {a0 : Nat} {x1 : Int} {x2 : Int} {x4 : Int} {s0 : Int} {s1 : Int}  (kk : sC d 206 [vO 12 a0, vI x1, vI 2] M G (QI (fun r M1 G1 => sW (sC d) 213 Q 46 [vO 12 a0, vI x1, vI x2, vN, vI x4] (vI r :: [vI s0, vI s1]) M1 G1 0 0))) : sW (sC d) 213 Q 40 [vO 12 a0, vI x1, vI x2, vN, vI x4] [vI s0, vI s1] M G 0 0 := by
  refine q_aload_n 41 rfl (show sCode 213 40 = some (.aload_n 0, 1) by decide +kernel) rfl (Nat.le_of_ble_eq_true rfl) ?_
  refine q_iload_n 42 rfl (show sCode 213 41 = some (.iload_n 1, 1) by decide +kernel) rfl ?_
  refine q_iconst 43 rfl (show sCode 213 42 = some (.iconst 2, 1) by decide +kernel) ⟨by decide, by decide⟩ ?_
  exact q_virtI [vI x1, vI 2] 46 rfl (show sCode 213 43 = some (.invokevirtual 280, 3) by decide +kernel) (show sMR (sKo 213).1 280 = some 206 by decide +kernel) (show 206 < 1000 ∧ sStat 206 = false ∧ sIni 206 = false ∧ sKo 206 = (12, 2, 1, 0, 0) by decide +kernel) rfl (Or.inl rfl) rfl (Nat.le_of_ble_eq_true rfl) rfl rfl rfl (by decide +kernel) kk
theorem b213_46 {d : Nat} {Q : Option sV → sM → sG → Prop} {M : sM} {G : sG} {a0 : Nat} {x1 : Int} {x2 : Int} {x4 : Int} {s0 : Int} {s1 : Int} {s2 : Int}  (k1 : s1 ≤ s0 → sW (sC d) 213 Q 72 [vO 12 a0, vI x1, vI x2, vN, vI x4] [vI s2] M G 0 0) (k2 : s0 < s1 → sW (sC d) 213 Q 49 [vO 12 a0, vI x1, vI x2, vN, vI x4] [vI s2] M G 0 0) : sW (sC d) 213 Q 46 [vO 12 a0, vI x1, vI x2, vN, vI x4] [vI s0, vI s1, vI s2] M G 0 0 := by
  refine q_icmple 72 49 rfl (by decide) (show sCode 213 46 = some (.if_icmp .le 26, 3) by decide +kernel) ?_ ?_
  · intro q; exact k1 q
  · intro q; exact k2 q
theorem b213_49 {d : Nat} {Q : Option sV → sM → sG → Prop} {M : sM} {G : sG} {a0 : Nat} {x1 : Int} {x2 : Int} {x4 : Int} {s0 : Int}  (kk : sW (sC d) 213 Q 68 [vO 12 a0, vI x1, vI x2, vN, vI x4] [vI s0] M G 0 0) : sW (sC d) 213 Q 49 [vO 12 a0, vI x1, vI x2, vN, vI x4] [vI s0] M G 0 0 := by
  refine q_goto 68 (by decide) (show sCode 213 49 = some (.goto 19, 3) by decide +kernel) ?_
  exact kk
theorem b213_52 {d : Nat} {Q : Option sV → sM → sG → Prop} {M : sM} {G : sG} {a0 : Nat} {x1 : Int} {x2 : Int} {x4 : Int} {s0 : Int}  (kk : sC d 206 [vO 12 a0, vI x4, vI 2] M G (QI (fun r M1 G1 => sW (sC d) 213 Q 59 [vO 12 a0, vI x1, vI x2, vN, vI x4] (vI r :: [vI s0]) M1 G1 0 0))) : sW (sC d) 213 Q 52 [vO 12 a0, vI x1, vI x2, vN, vI x4] [vI s0] M G 0 0 := by
  refine q_aload_n 53 rfl (show sCode 213 52 = some (.aload_n 0, 1) by decide +kernel) rfl (Nat.le_of_ble_eq_true rfl) ?_
  refine q_iload 55 rfl (show sCode 213 53 = some (.iload 4, 2) by decide +kernel) rfl ?_
  refine q_iconst 56 rfl (show sCode 213 55 = some (.iconst 2, 1) by decide +kernel) ⟨by decide, by decide⟩ ?_
  exact q_virtI [vI x4, vI 2] 59 rfl (show sCode 213 56 = some (.invokevirtual 280, 3) by decide +kernel) (show sMR (sKo 213).1 280 = some 206 by decide +kernel) (show 206 < 1000 ∧ sStat 206 = false ∧ sIni 206 = false ∧ sKo 206 = (12, 2, 1, 0, 0) by decide +kernel) rfl (Or.inl rfl) rfl (Nat.le_of_ble_eq_true rfl) rfl rfl rfl (by decide +kernel) kk
theorem b213_59 {d : Nat} {Q : Option sV → sM → sG → Prop} {M : sM} {G : sG} {a0 : Nat} {x1 : Int} {x2 : Int} {x4 : Int} {s0 : Int} {s1 : Int}  (kk : sC d 206 [vO 12 a0, vI x1, vI 2] M G (QI (fun r M1 G1 => sW (sC d) 213 Q 65 [vO 12 a0, vI x1, vI x2, vN, vI x4] (vI r :: [vI s0, vI s1]) M1 G1 0 0))) : sW (sC d) 213 Q 59 [vO 12 a0, vI x1, vI x2, vN, vI x4] [vI s0, vI s1] M G 0 0 := by
  refine q_aload_n 60 rfl (show sCode 213 59 = some (.aload_n 0, 1) by decide +kernel) rfl (Nat.le_of_ble_eq_true rfl) ?_
  refine q_iload_n 61 rfl (show sCode 213 60 = some (.iload_n 1, 1) by decide +kernel) rfl ?_
  refine q_iconst 62 rfl (show sCode 213 61 = some (.iconst 2, 1) by decide +kernel) ⟨by decide, by decide⟩ ?_
  exact q_virtI [vI x1, vI 2] 65 rfl (show sCode 213 62 = some (.invokevirtual 280, 3) by decide +kernel) (show sMR (sKo 213).1 280 = some 206 by decide +kernel) (show 206 < 1000 ∧ sStat 206 = false ∧ sIni 206 = false ∧ sKo 206 = (12, 2, 1, 0, 0) by decide +kernel) rfl (Or.inl rfl) rfl (Nat.le_of_ble_eq_true rfl) rfl rfl rfl (by decide +kernel) kk
theorem b213_65 {d : Nat} {Q : Option sV → sM → sG → Prop} {M : sM} {G : sG} {a0 : Nat} {x1 : Int} {x2 : Int} {x4 : Int} {s0 : Int} {s1 : Int} {s2 : Int}  (k1 : s0 ≤ s1 → sW (sC d) 213 Q 72 [vO 12 a0, vI x1, vI x2, vN, vI x4] [vI s2] M G 0 0) (k2 : s1 < s0 → sW (sC d) 213 Q 68 [vO 12 a0, vI x1, vI x2, vN, vI x4] [vI s2] M G 0 0) : sW (sC d) 213 Q 65 [vO 12 a0, vI x1, vI x2, vN, vI x4] [vI s0, vI s1, vI s2] M G 0 0 := by
  refine q_icmpge 72 68 rfl (by decide) (show sCode 213 65 = some (.if_icmp .ge 7, 3) by decide +kernel) ?_ ?_
  · intro q; exact k1 q
  · intro q; exact k2 q
theorem b213_68 {d : Nat} {Q : Option sV → sM → sG → Prop} {M : sM} {G : sG} {a0 : Nat} {x1 : Int} {x2 : Int} {x4 : Int} {s0 : Int}  (kk : sW (sC d) 213 Q 73 [vO 12 a0, vI x1, vI x2, vN, vI x4] [vI 1, vI s0] M G 0 0) : sW (sC d) 213 Q 68 [vO 12 a0, vI x1, vI x2, vN, vI x4] [vI s0] M G 0 0 := by
  refine q_iconst 69 rfl (show sCode 213 68 = some (.iconst 1, 1) by decide +kernel) ⟨by decide, by decide⟩ ?_
  refine q_goto 73 (by decide) (show sCode 213 69 = some (.goto 4, 3) by decide +kernel) ?_
  exact kk
theorem b213_72 {d : Nat} {Q : Option sV → sM → sG → Prop} {M : sM} {G : sG} {a0 : Nat} {x1 : Int} {x2 : Int} {x4 : Int} {s0 : Int}  (kk : sW (sC d) 213 Q 73 [vO 12 a0, vI x1, vI x2, vN, vI x4] [vI 0, vI s0] M G 0 0) : sW (sC d) 213 Q 72 [vO 12 a0, vI x1, vI x2, vN, vI x4] [vI s0] M G 0 0 := by
  refine q_iconst 73 rfl (show sCode 213 72 = some (.iconst 0, 1) by decide +kernel) ⟨by decide, by decide⟩ ?_
  exact kk
theorem b213_73 {d : Nat} {Q : Option sV → sM → sG → Prop} {M : sM} {G : sG} {a0 : Nat} {x1 : Int} {x2 : Int} {x4 : Int} {s0 : Int} {s1 : Int} (h1 : sI (s1 + s0)) (h2 : sI (x4 + 1)) (kk : sW (sC d) 213 Q 5 [vO 12 a0, vI x1, vI x2, vI (s1 + s0), vI (x4 + 1)] [] M G 0 0) : sW (sC d) 213 Q 73 [vO 12 a0, vI x1, vI x2, vN, vI x4] [vI s0, vI s1] M G 0 0 := by
  refine q_iadd 74 rfl (show sCode 213 73 = some (.iadd, 1) by decide +kernel) h1 ?_
  refine q_istore_n [vO 12 a0, vI x1, vI x2, vI (s1 + s0), vI x4] 75 rfl (show sCode 213 74 = some (.istore_n 3, 1) by decide +kernel) (Nat.lt_of_lt_of_le (Nat.lt_succ_self _) (Nat.le_of_ble_eq_true rfl)) rfl rfl ?_
  refine q_iinc [vO 12 a0, vI x1, vI x2, vI (s1 + s0), vI (x4 + 1)] 78 rfl (show sCode 213 75 = some (.iinc 4 1, 3) by decide +kernel) rfl rfl h2 rfl ?_
  refine q_goto 5 (by decide) (show sCode 213 78 = some (.goto (-73), 3) by decide +kernel) ?_
  exact kk
theorem b213_81 {d : Nat} {P : Int → sM → sG → Prop} {M : sM} {G : sG} {x3 : Int}  (kk : P x3 M G) : sW (sC d) 213 (QI P) 81 [vN, vN, vN, vI x3, vN] [] M G 0 0 := by
  refine q_iload_n 82 rfl (show sCode 213 81 = some (.iload_n 3, 1) by decide +kernel) rfl ?_
  exact q_iret (show sCode 213 82 = some (.ireturn, 1) by decide +kernel) (by decide +kernel) (by decide +kernel) kk
-- 214 AfterTheLastModel.come (II)Z
theorem b214_0 {d : Nat} {Q : Option sV → sM → sG → Prop} {M : sM} {G : sG} {a0 : Nat} {x1 : Int} {x2 : Int}  (kk : sC d 211 [vI x1] M G (QI (fun r M1 G1 => sW (sC d) 214 Q 4 [vO 12 a0, vI x1, vI x2] (vI r :: []) M1 G1 0 0))) : sW (sC d) 214 Q 0 [vO 12 a0, vI x1, vI x2] [] M G 0 0 := by
  refine q_iload_n 1 rfl (show sCode 214 0 = some (.iload_n 1, 1) by decide +kernel) rfl ?_
  exact q_statI [vI x1] 4 rfl (show sCode 214 1 = some (.invokestatic 305, 3) by decide +kernel) (show sMR (sKo 214).1 305 = some 211 by decide +kernel) (show 211 < 1000 ∧ sStat 211 = true ∧ sKo 211 = (12, 1, 2, 0, 0) by decide +kernel) rfl rfl (Nat.le_of_ble_eq_true rfl) rfl rfl rfl (by decide +kernel) kk
theorem b214_4 {d : Nat} {Q : Option sV → sM → sG → Prop} {M : sM} {G : sG} {a0 : Nat} {x1 : Int} {x2 : Int} {s0 : Int}  (k1 : s0 = 0 → sW (sC d) 214 Q 38 [vN, vN, vN] [] M G 0 0) (k2 : s0 ≠ 0 → sW (sC d) 214 Q 7 [vO 12 a0, vI x1, vI x2] [] M G 0 0) : sW (sC d) 214 Q 4 [vO 12 a0, vI x1, vI x2] [vI s0] M G 0 0 := by
  refine q_ifeq 38 7 rfl (by decide) (show sCode 214 4 = some (.ifCond .eq 34, 3) by decide +kernel) ?_ ?_
  · intro q; refine q_forget (L' := [vN, vI x1, vI x2]) 0 rfl ?_; refine q_forget (L' := [vN, vN, vI x2]) 1 rfl ?_; refine q_forget (L' := [vN, vN, vN]) 2 rfl ?_; exact k1 q
  · intro q; exact k2 q
theorem b214_7 {d : Nat} {Q : Option sV → sM → sG → Prop} {M : sM} {G : sG} {a0 : Nat} {x1 : Int} {x2 : Int}  (kk : sC d 203 [vO 12 a0, vI x2] M G (QI (fun r M1 G1 => sW (sC d) 214 Q 12 [vO 12 a0, vI x1, vI x2] (vI r :: []) M1 G1 0 0))) : sW (sC d) 214 Q 7 [vO 12 a0, vI x1, vI x2] [] M G 0 0 := by
  refine q_aload_n 8 rfl (show sCode 214 7 = some (.aload_n 0, 1) by decide +kernel) rfl (Nat.le_of_ble_eq_true rfl) ?_
  refine q_iload_n 9 rfl (show sCode 214 8 = some (.iload_n 2, 1) by decide +kernel) rfl ?_
  exact q_virtI [vI x2] 12 rfl (show sCode 214 9 = some (.invokevirtual 291, 3) by decide +kernel) (show sMR (sKo 214).1 291 = some 203 by decide +kernel) (show 203 < 1000 ∧ sStat 203 = false ∧ sIni 203 = false ∧ sKo 203 = (12, 1, 2, 0, 0) by decide +kernel) rfl (Or.inl rfl) rfl (Nat.le_of_ble_eq_true rfl) rfl rfl rfl (by decide +kernel) kk
theorem b214_12 {d : Nat} {Q : Option sV → sM → sG → Prop} {M : sM} {G : sG} {a0 : Nat} {x1 : Int} {x2 : Int} {s0 : Int}  (k1 : s0 = 0 → sW (sC d) 214 Q 38 [vN, vN, vN] [] M G 0 0) (k2 : s0 ≠ 0 → sW (sC d) 214 Q 15 [vO 12 a0, vI x1, vI x2] [] M G 0 0) : sW (sC d) 214 Q 12 [vO 12 a0, vI x1, vI x2] [vI s0] M G 0 0 := by
  refine q_ifeq 38 15 rfl (by decide) (show sCode 214 12 = some (.ifCond .eq 26, 3) by decide +kernel) ?_ ?_
  · intro q; refine q_forget (L' := [vN, vI x1, vI x2]) 0 rfl ?_; refine q_forget (L' := [vN, vN, vI x2]) 1 rfl ?_; refine q_forget (L' := [vN, vN, vN]) 2 rfl ?_; exact k1 q
  · intro q; exact k2 q
theorem b214_15 {d : Nat} {Q : Option sV → sM → sG → Prop} {M : sM} {G : sG} {a0 : Nat} {x1 : Int} {x2 : Int}  (kk : sC d 206 [vO 12 a0, vI x1, vI 0] M G (QI (fun r M1 G1 => sW (sC d) 214 Q 21 [vO 12 a0, vI x1, vI x2] (vI r :: []) M1 G1 0 0))) : sW (sC d) 214 Q 15 [vO 12 a0, vI x1, vI x2] [] M G 0 0 := by
  refine q_aload_n 16 rfl (show sCode 214 15 = some (.aload_n 0, 1) by decide +kernel) rfl (Nat.le_of_ble_eq_true rfl) ?_
  refine q_iload_n 17 rfl (show sCode 214 16 = some (.iload_n 1, 1) by decide +kernel) rfl ?_
  refine q_iconst 18 rfl (show sCode 214 17 = some (.iconst 0, 1) by decide +kernel) ⟨by decide, by decide⟩ ?_
  exact q_virtI [vI x1, vI 0] 21 rfl (show sCode 214 18 = some (.invokevirtual 280, 3) by decide +kernel) (show sMR (sKo 214).1 280 = some 206 by decide +kernel) (show 206 < 1000 ∧ sStat 206 = false ∧ sIni 206 = false ∧ sKo 206 = (12, 2, 1, 0, 0) by decide +kernel) rfl (Or.inl rfl) rfl (Nat.le_of_ble_eq_true rfl) rfl rfl rfl (by decide +kernel) kk
theorem b214_21 {d : Nat} {Q : Option sV → sM → sG → Prop} {M : sM} {G : sG} {a0 : Nat} {x1 : Int} {x2 : Int} {s0 : Int}  (k1 : 0 ≤ s0 → sW (sC d) 214 Q 38 [vN, vN, vN] [] M G 0 0) (k2 : s0 < 0 → sW (sC d) 214 Q 24 [vO 12 a0, vI x1, vI x2] [] M G 0 0) : sW (sC d) 214 Q 21 [vO 12 a0, vI x1, vI x2] [vI s0] M G 0 0 := by
  refine q_ifge 38 24 rfl (by decide) (show sCode 214 21 = some (.ifCond .ge 17, 3) by decide +kernel) ?_ ?_
  · intro q; refine q_forget (L' := [vN, vI x1, vI x2]) 0 rfl ?_; refine q_forget (L' := [vN, vN, vI x2]) 1 rfl ?_; refine q_forget (L' := [vN, vN, vN]) 2 rfl ?_; exact k1 q
  · intro q; exact k2 q
theorem b214_24 {d : Nat} {Q : Option sV → sM → sG → Prop} {M : sM} {G : sG} {a0 : Nat} {x1 : Int} {x2 : Int}  (kk : sC d 205 [vO 12 a0, vI x2] M G (QI (fun r M1 G1 => sW (sC d) 214 Q 29 [vO 12 a0, vI x1, vI x2] (vI r :: []) M1 G1 0 0))) : sW (sC d) 214 Q 24 [vO 12 a0, vI x1, vI x2] [] M G 0 0 := by
  refine q_aload_n 25 rfl (show sCode 214 24 = some (.aload_n 0, 1) by decide +kernel) rfl (Nat.le_of_ble_eq_true rfl) ?_
  refine q_iload_n 26 rfl (show sCode 214 25 = some (.iload_n 2, 1) by decide +kernel) rfl ?_
  exact q_virtI [vI x2] 29 rfl (show sCode 214 26 = some (.invokevirtual 296, 3) by decide +kernel) (show sMR (sKo 214).1 296 = some 205 by decide +kernel) (show 205 < 1000 ∧ sStat 205 = false ∧ sIni 205 = false ∧ sKo 205 = (12, 1, 1, 0, 0) by decide +kernel) rfl (Or.inl rfl) rfl (Nat.le_of_ble_eq_true rfl) rfl rfl rfl (by decide +kernel) kk
theorem b214_29 {d : Nat} {Q : Option sV → sM → sG → Prop} {M : sM} {G : sG} {a0 : Nat} {x1 : Int} {x2 : Int} {s0 : Int}  (kk : sC d 204 [vO 12 a0, vI x2, vI 1] M G (QI (fun r M1 G1 => sW (sC d) 214 Q 35 [vO 12 a0, vI x1, vI x2] (vI r :: [vI s0]) M1 G1 0 0))) : sW (sC d) 214 Q 29 [vO 12 a0, vI x1, vI x2] [vI s0] M G 0 0 := by
  refine q_aload_n 30 rfl (show sCode 214 29 = some (.aload_n 0, 1) by decide +kernel) rfl (Nat.le_of_ble_eq_true rfl) ?_
  refine q_iload_n 31 rfl (show sCode 214 30 = some (.iload_n 2, 1) by decide +kernel) rfl ?_
  refine q_iconst 32 rfl (show sCode 214 31 = some (.iconst 1, 1) by decide +kernel) ⟨by decide, by decide⟩ ?_
  exact q_virtI [vI x2, vI 1] 35 rfl (show sCode 214 32 = some (.invokevirtual 284, 3) by decide +kernel) (show sMR (sKo 214).1 284 = some 204 by decide +kernel) (show 204 < 1000 ∧ sStat 204 = false ∧ sIni 204 = false ∧ sKo 204 = (12, 2, 1, 0, 0) by decide +kernel) rfl (Or.inl rfl) rfl (Nat.le_of_ble_eq_true rfl) rfl rfl rfl (by decide +kernel) kk
theorem b214_35 {d : Nat} {Q : Option sV → sM → sG → Prop} {M : sM} {G : sG} {a0 : Nat} {x1 : Int} {x2 : Int} {s0 : Int} {s1 : Int}  (k1 : s1 ≠ s0 → sW (sC d) 214 Q 40 [vO 12 a0, vI x1, vI x2] [] M G 0 0) (k2 : s1 = s0 → sW (sC d) 214 Q 38 [vN, vN, vN] [] M G 0 0) : sW (sC d) 214 Q 35 [vO 12 a0, vI x1, vI x2] [vI s0, vI s1] M G 0 0 := by
  refine q_icmpne 40 38 rfl (by decide) (show sCode 214 35 = some (.if_icmp .ne 5, 3) by decide +kernel) ?_ ?_
  · intro q; exact k1 q
  · intro q; refine q_forget (L' := [vN, vI x1, vI x2]) 0 rfl ?_; refine q_forget (L' := [vN, vN, vI x2]) 1 rfl ?_; refine q_forget (L' := [vN, vN, vN]) 2 rfl ?_; exact k2 q
theorem b214_38 {d : Nat} {P : Int → sM → sG → Prop} {M : sM} {G : sG}   (kk : P 0 M G) : sW (sC d) 214 (QI P) 38 [vN, vN, vN] [] M G 0 0 := by
  refine q_iconst 39 rfl (show sCode 214 38 = some (.iconst 0, 1) by decide +kernel) ⟨by decide, by decide⟩ ?_
  exact q_zret (show sCode 214 39 = some (.ireturn, 1) by decide +kernel) (by decide +kernel) (by decide) (by decide +kernel) kk
theorem b214_40 {d : Nat} {Q : Option sV → sM → sG → Prop} {M : sM} {G : sG} {a0 : Nat} {x1 : Int} {x2 : Int}  (kk : sC d 215 [vO 12 a0, vI x1, vI x2, vI (-1)] M G (QV (fun M1 G1 => sW (sC d) 214 Q 47 [vN, vN, vN] [] M1 G1 0 0))) : sW (sC d) 214 Q 40 [vO 12 a0, vI x1, vI x2] [] M G 0 0 := by
  refine q_aload_n 41 rfl (show sCode 214 40 = some (.aload_n 0, 1) by decide +kernel) rfl (Nat.le_of_ble_eq_true rfl) ?_
  refine q_iload_n 42 rfl (show sCode 214 41 = some (.iload_n 1, 1) by decide +kernel) rfl ?_
  refine q_iload_n 43 rfl (show sCode 214 42 = some (.iload_n 2, 1) by decide +kernel) rfl ?_
  refine q_iconst 44 rfl (show sCode 214 43 = some (.iconst (-1), 1) by decide +kernel) ⟨by decide, by decide⟩ ?_
  refine q_forget (L' := [vN, vI x1, vI x2]) 0 rfl ?_
  refine q_forget (L' := [vN, vN, vI x2]) 1 rfl ?_
  refine q_forget (L' := [vN, vN, vN]) 2 rfl ?_
  exact q_virtV [vI x1, vI x2, vI (-1)] 47 rfl (show sCode 214 44 = some (.invokevirtual 311, 3) by decide +kernel) (show sMR (sKo 214).1 311 = some 215 by decide +kernel) (show 215 < 1000 ∧ sStat 215 = false ∧ sIni 215 = false ∧ sKo 215 = (12, 3, 0, 0, 0) by decide +kernel) rfl (Or.inl rfl) rfl (Nat.le_of_ble_eq_true rfl) rfl rfl rfl (by decide +kernel) kk
theorem b214_47 {d : Nat} {P : Int → sM → sG → Prop} {M : sM} {G : sG}   (kk : P 1 M G) : sW (sC d) 214 (QI P) 47 [vN, vN, vN] [] M G 0 0 := by
  refine q_iconst 48 rfl (show sCode 214 47 = some (.iconst 1, 1) by decide +kernel) ⟨by decide, by decide⟩ ?_
  exact q_zret (show sCode 214 48 = some (.ireturn, 1) by decide +kernel) (by decide +kernel) (by decide) (by decide +kernel) kk
-- 215 AfterTheLastModel.enters (III)V
theorem b215_0 {d : Nat} {Q : Option sV → sM → sG → Prop} {M : sM} {G : sG} {a0 : Nat} {x1 : Int} {x2 : Int} {x3 : Int} (h1 : sI ((M (a0 + 11) 4) + 1)) (h2 : sI (5 * x1)) (h3 : sI (136 + (5 * x1))) (h4 : 0 ≤ 136 + (5 * x1) ∧ 136 + (5 * x1) < 274) (h5 : sI (5 * x1)) (h6 : sI (136 + (5 * x1))) (h7 : sI ((136 + (5 * x1)) + 1)) (h8 : 0 ≤ (136 + (5 * x1)) + 1 ∧ (136 + (5 * x1)) + 1 < 274) (h9 : sI (5 * x1)) (h10 : sI (136 + (5 * x1))) (h11 : sI ((136 + (5 * x1)) + 2)) (h12 : 0 ≤ (136 + (5 * x1)) + 2 ∧ (136 + (5 * x1)) + 2 < 274) (kk : sW (sC d) 215 Q 61 [vO 12 a0, vI x1, vI x2, vN, vI 0] [] (sUpd (sUpd (sUpd (sUpd M (a0 + 11) 4 ((M (a0 + 11) 4) + 1)) (a0 + 11) (136 + (5 * x1)).toNat x2) (a0 + 11) ((136 + (5 * x1)) + 1).toNat x3) (a0 + 11) ((136 + (5 * x1)) + 2).toNat ((sUpd (sUpd (sUpd M (a0 + 11) 4 ((M (a0 + 11) 4) + 1)) (a0 + 11) (136 + (5 * x1)).toNat x2) (a0 + 11) ((136 + (5 * x1)) + 1).toNat x3) (a0 + 11) 4)) G 0 0) : sW (sC d) 215 Q 0 [vO 12 a0, vI x1, vI x2, vI x3, vN] [] M G 0 0 := by
  refine q_aload_n 1 rfl (show sCode 215 0 = some (.aload_n 0, 1) by decide +kernel) rfl (Nat.le_of_ble_eq_true rfl) ?_
  refine q_getR (vA 0 (a0 + 11) 274) 4 rfl (show sCode 215 1 = some (.getfield 42, 3) by decide +kernel) (show sFR (sKo 215).1 42 = some (12, 23) by decide +kernel) (by decide +kernel) (Or.inl (Or.inl rfl)) rfl ?_
  refine q_iconst 5 rfl (show sCode 215 4 = some (.iconst 4, 1) by decide +kernel) ⟨by decide, by decide⟩ ?_
  refine q_dup2 6 rfl (show sCode 215 5 = some (.dup2, 1) by decide +kernel) rfl rfl ?_
  refine q_iald 7 rfl (show sCode 215 6 = some (.iaload, 1) by decide +kernel) ⟨by decide, by decide⟩ ?_
  refine q_iconst 8 rfl (show sCode 215 7 = some (.iconst 1, 1) by decide +kernel) ⟨by decide, by decide⟩ ?_
  refine q_iadd 9 rfl (show sCode 215 8 = some (.iadd, 1) by decide +kernel) h1 ?_
  refine q_iast 10 rfl (show sCode 215 9 = some (.iastore, 1) by decide +kernel) ⟨by decide, by decide⟩ ?_
  refine q_aload_n 11 rfl (show sCode 215 10 = some (.aload_n 0, 1) by decide +kernel) rfl (Nat.le_of_ble_eq_true rfl) ?_
  refine q_getR (vA 0 (a0 + 11) 274) 14 rfl (show sCode 215 11 = some (.getfield 42, 3) by decide +kernel) (show sFR (sKo 215).1 42 = some (12, 23) by decide +kernel) (by decide +kernel) (Or.inl (Or.inl rfl)) rfl ?_
  refine q_sipush 17 rfl (show sCode 215 14 = some (.sipush 136, 3) by decide +kernel) ⟨by decide, by decide⟩ (by decide +kernel) ?_
  refine q_iconst 18 rfl (show sCode 215 17 = some (.iconst 5, 1) by decide +kernel) ⟨by decide, by decide⟩ ?_
  refine q_iload_n 19 rfl (show sCode 215 18 = some (.iload_n 1, 1) by decide +kernel) rfl ?_
  refine q_imul 20 rfl (show sCode 215 19 = some (.imul, 1) by decide +kernel) h2 ?_
  refine q_iadd 21 rfl (show sCode 215 20 = some (.iadd, 1) by decide +kernel) h3 ?_
  refine q_iload_n 22 rfl (show sCode 215 21 = some (.iload_n 2, 1) by decide +kernel) rfl ?_
  refine q_iast 23 rfl (show sCode 215 22 = some (.iastore, 1) by decide +kernel) h4 ?_
  refine q_aload_n 24 rfl (show sCode 215 23 = some (.aload_n 0, 1) by decide +kernel) rfl (Nat.le_of_ble_eq_true rfl) ?_
  refine q_getR (vA 0 (a0 + 11) 274) 27 rfl (show sCode 215 24 = some (.getfield 42, 3) by decide +kernel) (show sFR (sKo 215).1 42 = some (12, 23) by decide +kernel) (by decide +kernel) (Or.inl (Or.inl rfl)) rfl ?_
  refine q_sipush 30 rfl (show sCode 215 27 = some (.sipush 136, 3) by decide +kernel) ⟨by decide, by decide⟩ (by decide +kernel) ?_
  refine q_iconst 31 rfl (show sCode 215 30 = some (.iconst 5, 1) by decide +kernel) ⟨by decide, by decide⟩ ?_
  refine q_iload_n 32 rfl (show sCode 215 31 = some (.iload_n 1, 1) by decide +kernel) rfl ?_
  refine q_imul 33 rfl (show sCode 215 32 = some (.imul, 1) by decide +kernel) h5 ?_
  refine q_iadd 34 rfl (show sCode 215 33 = some (.iadd, 1) by decide +kernel) h6 ?_
  refine q_iconst 35 rfl (show sCode 215 34 = some (.iconst 1, 1) by decide +kernel) ⟨by decide, by decide⟩ ?_
  refine q_iadd 36 rfl (show sCode 215 35 = some (.iadd, 1) by decide +kernel) h7 ?_
  refine q_iload_n 37 rfl (show sCode 215 36 = some (.iload_n 3, 1) by decide +kernel) rfl ?_
  refine q_iast 38 rfl (show sCode 215 37 = some (.iastore, 1) by decide +kernel) h8 ?_
  refine q_aload_n 39 rfl (show sCode 215 38 = some (.aload_n 0, 1) by decide +kernel) rfl (Nat.le_of_ble_eq_true rfl) ?_
  refine q_getR (vA 0 (a0 + 11) 274) 42 rfl (show sCode 215 39 = some (.getfield 42, 3) by decide +kernel) (show sFR (sKo 215).1 42 = some (12, 23) by decide +kernel) (by decide +kernel) (Or.inl (Or.inl rfl)) rfl ?_
  refine q_sipush 45 rfl (show sCode 215 42 = some (.sipush 136, 3) by decide +kernel) ⟨by decide, by decide⟩ (by decide +kernel) ?_
  refine q_iconst 46 rfl (show sCode 215 45 = some (.iconst 5, 1) by decide +kernel) ⟨by decide, by decide⟩ ?_
  refine q_iload_n 47 rfl (show sCode 215 46 = some (.iload_n 1, 1) by decide +kernel) rfl ?_
  refine q_imul 48 rfl (show sCode 215 47 = some (.imul, 1) by decide +kernel) h9 ?_
  refine q_iadd 49 rfl (show sCode 215 48 = some (.iadd, 1) by decide +kernel) h10 ?_
  refine q_iconst 50 rfl (show sCode 215 49 = some (.iconst 2, 1) by decide +kernel) ⟨by decide, by decide⟩ ?_
  refine q_iadd 51 rfl (show sCode 215 50 = some (.iadd, 1) by decide +kernel) h11 ?_
  refine q_aload_n 52 rfl (show sCode 215 51 = some (.aload_n 0, 1) by decide +kernel) rfl (Nat.le_of_ble_eq_true rfl) ?_
  refine q_getR (vA 0 (a0 + 11) 274) 55 rfl (show sCode 215 52 = some (.getfield 42, 3) by decide +kernel) (show sFR (sKo 215).1 42 = some (12, 23) by decide +kernel) (by decide +kernel) (Or.inl (Or.inl rfl)) rfl ?_
  refine q_iconst 56 rfl (show sCode 215 55 = some (.iconst 4, 1) by decide +kernel) ⟨by decide, by decide⟩ ?_
  refine q_iald 57 rfl (show sCode 215 56 = some (.iaload, 1) by decide +kernel) ⟨by decide, by decide⟩ ?_
  refine q_iast 58 rfl (show sCode 215 57 = some (.iastore, 1) by decide +kernel) h12 ?_
  refine q_iconst 59 rfl (show sCode 215 58 = some (.iconst 0, 1) by decide +kernel) ⟨by decide, by decide⟩ ?_
  refine q_istore [vO 12 a0, vI x1, vI x2, vI x3, vI 0] 61 rfl (show sCode 215 59 = some (.istore 4, 2) by decide +kernel) (Nat.lt_of_lt_of_le (Nat.lt_succ_self _) (Nat.le_of_ble_eq_true rfl)) rfl rfl ?_
  refine q_forget (L' := [vO 12 a0, vI x1, vI x2, vN, vI 0]) 3 rfl ?_
  exact kk
theorem b215_61 {d : Nat} {Q : Option sV → sM → sG → Prop} {M : sM} {G : sG} {a0 : Nat} {x1 : Int} {x2 : Int} {x4 : Int}  (k1 : 12 ≤ x4 → sW (sC d) 215 Q 118 [vO 12 a0, vI x1, vI x2, vN, vN] [] M G 0 0) (k2 : x4 < 12 → sW (sC d) 215 Q 68 [vO 12 a0, vI x1, vI x2, vN, vI x4] [] M G 0 0) : sW (sC d) 215 Q 61 [vO 12 a0, vI x1, vI x2, vN, vI x4] [] M G 0 0 := by
  refine q_iload 63 rfl (show sCode 215 61 = some (.iload 4, 2) by decide +kernel) rfl ?_
  refine q_bipush 65 rfl (show sCode 215 63 = some (.bipush 12, 2) by decide +kernel) ⟨by decide, by decide⟩ (by decide +kernel) ?_
  refine q_icmpge 118 68 rfl (by decide) (show sCode 215 65 = some (.if_icmp .ge 53, 3) by decide +kernel) ?_ ?_
  · intro q; refine q_forget (L' := [vO 12 a0, vI x1, vI x2, vN, vN]) 4 rfl ?_; exact k1 q
  · intro q; exact k2 q
theorem b215_68 {d : Nat} {Q : Option sV → sM → sG → Prop} {M : sM} {G : sG} {a0 : Nat} {x1 : Int} {x2 : Int} {x4 : Int}  (k1 : x4 = x1 → sW (sC d) 215 Q 112 [vO 12 a0, vI x1, vI x2, vN, vI x4] [] M G 0 0) (k2 : x4 ≠ x1 → sW (sC d) 215 Q 74 [vO 12 a0, vI x1, vI x2, vN, vI x4] [] M G 0 0) : sW (sC d) 215 Q 68 [vO 12 a0, vI x1, vI x2, vN, vI x4] [] M G 0 0 := by
  refine q_iload 70 rfl (show sCode 215 68 = some (.iload 4, 2) by decide +kernel) rfl ?_
  refine q_iload_n 71 rfl (show sCode 215 70 = some (.iload_n 1, 1) by decide +kernel) rfl ?_
  refine q_icmpeq 112 74 rfl (by decide) (show sCode 215 71 = some (.if_icmp .eq 41, 3) by decide +kernel) ?_ ?_
  · intro q; exact k1 q
  · intro q; exact k2 q
theorem b215_74 {d : Nat} {Q : Option sV → sM → sG → Prop} {M : sM} {G : sG} {a0 : Nat} {x1 : Int} {x2 : Int} {x4 : Int}  (kk : sC d 206 [vO 12 a0, vI x4, vI 0] M G (QI (fun r M1 G1 => sW (sC d) 215 Q 81 [vO 12 a0, vI x1, vI x2, vN, vI x4] (vI r :: []) M1 G1 0 0))) : sW (sC d) 215 Q 74 [vO 12 a0, vI x1, vI x2, vN, vI x4] [] M G 0 0 := by
  refine q_aload_n 75 rfl (show sCode 215 74 = some (.aload_n 0, 1) by decide +kernel) rfl (Nat.le_of_ble_eq_true rfl) ?_
  refine q_iload 77 rfl (show sCode 215 75 = some (.iload 4, 2) by decide +kernel) rfl ?_
  refine q_iconst 78 rfl (show sCode 215 77 = some (.iconst 0, 1) by decide +kernel) ⟨by decide, by decide⟩ ?_
  exact q_virtI [vI x4, vI 0] 81 rfl (show sCode 215 78 = some (.invokevirtual 280, 3) by decide +kernel) (show sMR (sKo 215).1 280 = some 206 by decide +kernel) (show 206 < 1000 ∧ sStat 206 = false ∧ sIni 206 = false ∧ sKo 206 = (12, 2, 1, 0, 0) by decide +kernel) rfl (Or.inl rfl) rfl (Nat.le_of_ble_eq_true rfl) rfl rfl rfl (by decide +kernel) kk
theorem b215_81 {d : Nat} {Q : Option sV → sM → sG → Prop} {M : sM} {G : sG} {a0 : Nat} {x1 : Int} {x2 : Int} {x4 : Int} {s0 : Int}  (k1 : s0 ≠ x2 → sW (sC d) 215 Q 112 [vO 12 a0, vI x1, vI x2, vN, vI x4] [] M G 0 0) (k2 : s0 = x2 → sW (sC d) 215 Q 85 [vO 12 a0, vI x1, vI x2, vN, vI x4] [] M G 0 0) : sW (sC d) 215 Q 81 [vO 12 a0, vI x1, vI x2, vN, vI x4] [vI s0] M G 0 0 := by
  refine q_iload_n 82 rfl (show sCode 215 81 = some (.iload_n 2, 1) by decide +kernel) rfl ?_
  refine q_icmpne 112 85 rfl (by decide) (show sCode 215 82 = some (.if_icmp .ne 30, 3) by decide +kernel) ?_ ?_
  · intro q; exact k1 q
  · intro q; exact k2 q
theorem b215_85 {d : Nat} {Q : Option sV → sM → sG → Prop} {M : sM} {G : sG} {a0 : Nat} {x1 : Int} {x2 : Int} {x4 : Int}  (kk : sC d 206 [vO 12 a0, vI x4, vI 3] M G (QI (fun r M1 G1 => sW (sC d) 215 Q 92 [vO 12 a0, vI x1, vI x2, vN, vI x4] (vI r :: []) M1 G1 0 0))) : sW (sC d) 215 Q 85 [vO 12 a0, vI x1, vI x2, vN, vI x4] [] M G 0 0 := by
  refine q_aload_n 86 rfl (show sCode 215 85 = some (.aload_n 0, 1) by decide +kernel) rfl (Nat.le_of_ble_eq_true rfl) ?_
  refine q_iload 88 rfl (show sCode 215 86 = some (.iload 4, 2) by decide +kernel) rfl ?_
  refine q_iconst 89 rfl (show sCode 215 88 = some (.iconst 3, 1) by decide +kernel) ⟨by decide, by decide⟩ ?_
  exact q_virtI [vI x4, vI 3] 92 rfl (show sCode 215 89 = some (.invokevirtual 280, 3) by decide +kernel) (show sMR (sKo 215).1 280 = some 206 by decide +kernel) (show 206 < 1000 ∧ sStat 206 = false ∧ sIni 206 = false ∧ sKo 206 = (12, 2, 1, 0, 0) by decide +kernel) rfl (Or.inl rfl) rfl (Nat.le_of_ble_eq_true rfl) rfl rfl rfl (by decide +kernel) kk
theorem b215_92 {d : Nat} {Q : Option sV → sM → sG → Prop} {M : sM} {G : sG} {a0 : Nat} {x1 : Int} {x2 : Int} {x4 : Int} {s0 : Int}  (k1 : s0 ≠ x1 → sW (sC d) 215 Q 112 [vO 12 a0, vI x1, vI x2, vN, vI x4] [] M G 0 0) (k2 : s0 = x1 → sW (sC d) 215 Q 96 [vO 12 a0, vI x1, vI x2, vN, vI x4] [] M G 0 0) : sW (sC d) 215 Q 92 [vO 12 a0, vI x1, vI x2, vN, vI x4] [vI s0] M G 0 0 := by
  refine q_iload_n 93 rfl (show sCode 215 92 = some (.iload_n 1, 1) by decide +kernel) rfl ?_
  refine q_icmpne 112 96 rfl (by decide) (show sCode 215 93 = some (.if_icmp .ne 19, 3) by decide +kernel) ?_ ?_
  · intro q; exact k1 q
  · intro q; exact k2 q
theorem b215_96 {d : Nat} {Q : Option sV → sM → sG → Prop} {M : sM} {G : sG} {a0 : Nat} {x1 : Int} {x2 : Int} {x4 : Int} (h1 : sI (5 * x4)) (h2 : sI (136 + (5 * x4))) (h3 : sI ((136 + (5 * x4)) + 3)) (h4 : 0 ≤ (136 + (5 * x4)) + 3 ∧ (136 + (5 * x4)) + 3 < 274) (kk : sW (sC d) 215 Q 112 [vO 12 a0, vI x1, vI x2, vN, vI x4] [] (sUpd M (a0 + 11) ((136 + (5 * x4)) + 3).toNat (-1)) G 0 0) : sW (sC d) 215 Q 96 [vO 12 a0, vI x1, vI x2, vN, vI x4] [] M G 0 0 := by
  refine q_aload_n 97 rfl (show sCode 215 96 = some (.aload_n 0, 1) by decide +kernel) rfl (Nat.le_of_ble_eq_true rfl) ?_
  refine q_getR (vA 0 (a0 + 11) 274) 100 rfl (show sCode 215 97 = some (.getfield 42, 3) by decide +kernel) (show sFR (sKo 215).1 42 = some (12, 23) by decide +kernel) (by decide +kernel) (Or.inl (Or.inl rfl)) rfl ?_
  refine q_sipush 103 rfl (show sCode 215 100 = some (.sipush 136, 3) by decide +kernel) ⟨by decide, by decide⟩ (by decide +kernel) ?_
  refine q_iconst 104 rfl (show sCode 215 103 = some (.iconst 5, 1) by decide +kernel) ⟨by decide, by decide⟩ ?_
  refine q_iload 106 rfl (show sCode 215 104 = some (.iload 4, 2) by decide +kernel) rfl ?_
  refine q_imul 107 rfl (show sCode 215 106 = some (.imul, 1) by decide +kernel) h1 ?_
  refine q_iadd 108 rfl (show sCode 215 107 = some (.iadd, 1) by decide +kernel) h2 ?_
  refine q_iconst 109 rfl (show sCode 215 108 = some (.iconst 3, 1) by decide +kernel) ⟨by decide, by decide⟩ ?_
  refine q_iadd 110 rfl (show sCode 215 109 = some (.iadd, 1) by decide +kernel) h3 ?_
  refine q_iconst 111 rfl (show sCode 215 110 = some (.iconst (-1), 1) by decide +kernel) ⟨by decide, by decide⟩ ?_
  refine q_iast 112 rfl (show sCode 215 111 = some (.iastore, 1) by decide +kernel) h4 ?_
  exact kk
theorem b215_112 {d : Nat} {Q : Option sV → sM → sG → Prop} {M : sM} {G : sG} {a0 : Nat} {x1 : Int} {x2 : Int} {x4 : Int} (h1 : sI (x4 + 1)) (kk : sW (sC d) 215 Q 61 [vO 12 a0, vI x1, vI x2, vN, vI (x4 + 1)] [] M G 0 0) : sW (sC d) 215 Q 112 [vO 12 a0, vI x1, vI x2, vN, vI x4] [] M G 0 0 := by
  refine q_iinc [vO 12 a0, vI x1, vI x2, vN, vI (x4 + 1)] 115 rfl (show sCode 215 112 = some (.iinc 4 1, 3) by decide +kernel) rfl rfl h1 rfl ?_
  refine q_goto 61 (by decide) (show sCode 215 115 = some (.goto (-54), 3) by decide +kernel) ?_
  exact kk
theorem b215_118 {d : Nat} {Q : Option sV → sM → sG → Prop} {M : sM} {G : sG} {a0 : Nat} {x1 : Int} {x2 : Int}  (kk : sC d 206 [vO 12 a0, vI x1, vI 3] M G (QI (fun r M1 G1 => sW (sC d) 215 Q 124 [vO 12 a0, vI x1, vI x2, vN, vN] (vI r :: []) M1 G1 0 0))) : sW (sC d) 215 Q 118 [vO 12 a0, vI x1, vI x2, vN, vN] [] M G 0 0 := by
  refine q_aload_n 119 rfl (show sCode 215 118 = some (.aload_n 0, 1) by decide +kernel) rfl (Nat.le_of_ble_eq_true rfl) ?_
  refine q_iload_n 120 rfl (show sCode 215 119 = some (.iload_n 1, 1) by decide +kernel) rfl ?_
  refine q_iconst 121 rfl (show sCode 215 120 = some (.iconst 3, 1) by decide +kernel) ⟨by decide, by decide⟩ ?_
  exact q_virtI [vI x1, vI 3] 124 rfl (show sCode 215 121 = some (.invokevirtual 280, 3) by decide +kernel) (show sMR (sKo 215).1 280 = some 206 by decide +kernel) (show 206 < 1000 ∧ sStat 206 = false ∧ sIni 206 = false ∧ sKo 206 = (12, 2, 1, 0, 0) by decide +kernel) rfl (Or.inl rfl) rfl (Nat.le_of_ble_eq_true rfl) rfl rfl rfl (by decide +kernel) kk
theorem b215_124 {d : Nat} {Q : Option sV → sM → sG → Prop} {M : sM} {G : sG} {a0 : Nat} {x1 : Int} {x2 : Int} {s0 : Int}  (k1 : s0 < 0 → sW (sC d) 215 Q 157 [vN, vN, vN, vN, vN] [] M G 0 0) (k2 : 0 ≤ s0 → sW (sC d) 215 Q 131 [vO 12 a0, vI x1, vI x2, vN, vI s0] [] M G 0 0) : sW (sC d) 215 Q 124 [vO 12 a0, vI x1, vI x2, vN, vN] [vI s0] M G 0 0 := by
  refine q_istore [vO 12 a0, vI x1, vI x2, vN, vI s0] 126 rfl (show sCode 215 124 = some (.istore 4, 2) by decide +kernel) (Nat.lt_of_lt_of_le (Nat.lt_succ_self _) (Nat.le_of_ble_eq_true rfl)) rfl rfl ?_
  refine q_iload 128 rfl (show sCode 215 126 = some (.iload 4, 2) by decide +kernel) rfl ?_
  refine q_iflt 157 131 rfl (by decide) (show sCode 215 128 = some (.ifCond .lt 29, 3) by decide +kernel) ?_ ?_
  · intro q; refine q_forget (L' := [vN, vI x1, vI x2, vN, vI s0]) 0 rfl ?_; refine q_forget (L' := [vN, vN, vI x2, vN, vI s0]) 1 rfl ?_; refine q_forget (L' := [vN, vN, vN, vN, vI s0]) 2 rfl ?_; refine q_forget (L' := [vN, vN, vN, vN, vN]) 4 rfl ?_; exact k1 q
  · intro q; exact k2 q
theorem b215_131 {d : Nat} {Q : Option sV → sM → sG → Prop} {M : sM} {G : sG} {a0 : Nat} {x1 : Int} {x2 : Int} {x4 : Int}  (kk : sC d 206 [vO 12 a0, vI x4, vI 0] M G (QI (fun r M1 G1 => sW (sC d) 215 Q 138 [vO 12 a0, vI x1, vI x2, vN, vN] (vI r :: []) M1 G1 0 0))) : sW (sC d) 215 Q 131 [vO 12 a0, vI x1, vI x2, vN, vI x4] [] M G 0 0 := by
  refine q_aload_n 132 rfl (show sCode 215 131 = some (.aload_n 0, 1) by decide +kernel) rfl (Nat.le_of_ble_eq_true rfl) ?_
  refine q_iload 134 rfl (show sCode 215 132 = some (.iload 4, 2) by decide +kernel) rfl ?_
  refine q_iconst 135 rfl (show sCode 215 134 = some (.iconst 0, 1) by decide +kernel) ⟨by decide, by decide⟩ ?_
  refine q_forget (L' := [vO 12 a0, vI x1, vI x2, vN, vN]) 4 rfl ?_
  exact q_virtI [vI x4, vI 0] 138 rfl (show sCode 215 135 = some (.invokevirtual 280, 3) by decide +kernel) (show sMR (sKo 215).1 280 = some 206 by decide +kernel) (show 206 < 1000 ∧ sStat 206 = false ∧ sIni 206 = false ∧ sKo 206 = (12, 2, 1, 0, 0) by decide +kernel) rfl (Or.inl rfl) rfl (Nat.le_of_ble_eq_true rfl) rfl rfl rfl (by decide +kernel) kk
theorem b215_138 {d : Nat} {Q : Option sV → sM → sG → Prop} {M : sM} {G : sG} {a0 : Nat} {x1 : Int} {x2 : Int} {s0 : Int}  (k1 : s0 ≠ x2 → sW (sC d) 215 Q 157 [vN, vN, vN, vN, vN] [] M G 0 0) (k2 : s0 = x2 → sW (sC d) 215 Q 142 [vO 12 a0, vI x1, vN, vN, vN] [] M G 0 0) : sW (sC d) 215 Q 138 [vO 12 a0, vI x1, vI x2, vN, vN] [vI s0] M G 0 0 := by
  refine q_iload_n 139 rfl (show sCode 215 138 = some (.iload_n 2, 1) by decide +kernel) rfl ?_
  refine q_icmpne 157 142 rfl (by decide) (show sCode 215 139 = some (.if_icmp .ne 18, 3) by decide +kernel) ?_ ?_
  · intro q; refine q_forget (L' := [vN, vI x1, vI x2, vN, vN]) 0 rfl ?_; refine q_forget (L' := [vN, vN, vI x2, vN, vN]) 1 rfl ?_; refine q_forget (L' := [vN, vN, vN, vN, vN]) 2 rfl ?_; exact k1 q
  · intro q; refine q_forget (L' := [vO 12 a0, vI x1, vN, vN, vN]) 2 rfl ?_; exact k2 q
theorem b215_142 {d : Nat} {Q : Option sV → sM → sG → Prop} {M : sM} {G : sG} {a0 : Nat} {x1 : Int} (h1 : sI (5 * x1)) (h2 : sI (136 + (5 * x1))) (h3 : sI ((136 + (5 * x1)) + 3)) (h4 : 0 ≤ (136 + (5 * x1)) + 3 ∧ (136 + (5 * x1)) + 3 < 274) (kk : sW (sC d) 215 Q 157 [vN, vN, vN, vN, vN] [] (sUpd M (a0 + 11) ((136 + (5 * x1)) + 3).toNat (-1)) G 0 0) : sW (sC d) 215 Q 142 [vO 12 a0, vI x1, vN, vN, vN] [] M G 0 0 := by
  refine q_aload_n 143 rfl (show sCode 215 142 = some (.aload_n 0, 1) by decide +kernel) rfl (Nat.le_of_ble_eq_true rfl) ?_
  refine q_getR (vA 0 (a0 + 11) 274) 146 rfl (show sCode 215 143 = some (.getfield 42, 3) by decide +kernel) (show sFR (sKo 215).1 42 = some (12, 23) by decide +kernel) (by decide +kernel) (Or.inl (Or.inl rfl)) rfl ?_
  refine q_sipush 149 rfl (show sCode 215 146 = some (.sipush 136, 3) by decide +kernel) ⟨by decide, by decide⟩ (by decide +kernel) ?_
  refine q_iconst 150 rfl (show sCode 215 149 = some (.iconst 5, 1) by decide +kernel) ⟨by decide, by decide⟩ ?_
  refine q_iload_n 151 rfl (show sCode 215 150 = some (.iload_n 1, 1) by decide +kernel) rfl ?_
  refine q_imul 152 rfl (show sCode 215 151 = some (.imul, 1) by decide +kernel) h1 ?_
  refine q_iadd 153 rfl (show sCode 215 152 = some (.iadd, 1) by decide +kernel) h2 ?_
  refine q_iconst 154 rfl (show sCode 215 153 = some (.iconst 3, 1) by decide +kernel) ⟨by decide, by decide⟩ ?_
  refine q_iadd 155 rfl (show sCode 215 154 = some (.iadd, 1) by decide +kernel) h3 ?_
  refine q_iconst 156 rfl (show sCode 215 155 = some (.iconst (-1), 1) by decide +kernel) ⟨by decide, by decide⟩ ?_
  refine q_iast 157 rfl (show sCode 215 156 = some (.iastore, 1) by decide +kernel) h4 ?_
  refine q_forget (L' := [vN, vI x1, vN, vN, vN]) 0 rfl ?_
  refine q_forget (L' := [vN, vN, vN, vN, vN]) 1 rfl ?_
  exact kk
theorem b215_157 {d : Nat} {P : sM → sG → Prop} {M : sM} {G : sG}   (kk : P M G) : sW (sC d) 215 (QV P) 157 [vN, vN, vN, vN, vN] [] M G 0 0 := by
  exact q_vret (show sCode 215 157 = some (.return_, 1) by decide +kernel) (by decide +kernel) (by decide +kernel) kk
-- 216 AfterTheLastModel.go (IZ)Z
theorem b216_0 {d : Nat} {Q : Option sV → sM → sG → Prop} {M : sM} {G : sG} {a0 : Nat} {x1 : Int} {x2 : Int}  (kk : sC d 211 [vI x1] M G (QI (fun r M1 G1 => sW (sC d) 216 Q 4 [vO 12 a0, vI x1, vI x2, vN] (vI r :: []) M1 G1 0 0))) : sW (sC d) 216 Q 0 [vO 12 a0, vI x1, vI x2, vN] [] M G 0 0 := by
  refine q_iload_n 1 rfl (show sCode 216 0 = some (.iload_n 1, 1) by decide +kernel) rfl ?_
  exact q_statI [vI x1] 4 rfl (show sCode 216 1 = some (.invokestatic 305, 3) by decide +kernel) (show sMR (sKo 216).1 305 = some 211 by decide +kernel) (show 211 < 1000 ∧ sStat 211 = true ∧ sKo 211 = (12, 1, 2, 0, 0) by decide +kernel) rfl rfl (Nat.le_of_ble_eq_true rfl) rfl rfl rfl (by decide +kernel) kk
theorem b216_4 {d : Nat} {Q : Option sV → sM → sG → Prop} {M : sM} {G : sG} {a0 : Nat} {x1 : Int} {x2 : Int} {s0 : Int}  (k1 : s0 = 0 → sW (sC d) 216 Q 16 [vN, vN, vN, vN] [] M G 0 0) (k2 : s0 ≠ 0 → sW (sC d) 216 Q 7 [vO 12 a0, vI x1, vI x2, vN] [] M G 0 0) : sW (sC d) 216 Q 4 [vO 12 a0, vI x1, vI x2, vN] [vI s0] M G 0 0 := by
  refine q_ifeq 16 7 rfl (by decide) (show sCode 216 4 = some (.ifCond .eq 12, 3) by decide +kernel) ?_ ?_
  · intro q; refine q_forget (L' := [vN, vI x1, vI x2, vN]) 0 rfl ?_; refine q_forget (L' := [vN, vN, vI x2, vN]) 1 rfl ?_; refine q_forget (L' := [vN, vN, vN, vN]) 2 rfl ?_; exact k1 q
  · intro q; exact k2 q
theorem b216_7 {d : Nat} {Q : Option sV → sM → sG → Prop} {M : sM} {G : sG} {a0 : Nat} {x1 : Int} {x2 : Int}  (kk : sC d 206 [vO 12 a0, vI x1, vI 0] M G (QI (fun r M1 G1 => sW (sC d) 216 Q 13 [vO 12 a0, vI x1, vI x2, vN] (vI r :: []) M1 G1 0 0))) : sW (sC d) 216 Q 7 [vO 12 a0, vI x1, vI x2, vN] [] M G 0 0 := by
  refine q_aload_n 8 rfl (show sCode 216 7 = some (.aload_n 0, 1) by decide +kernel) rfl (Nat.le_of_ble_eq_true rfl) ?_
  refine q_iload_n 9 rfl (show sCode 216 8 = some (.iload_n 1, 1) by decide +kernel) rfl ?_
  refine q_iconst 10 rfl (show sCode 216 9 = some (.iconst 0, 1) by decide +kernel) ⟨by decide, by decide⟩ ?_
  exact q_virtI [vI x1, vI 0] 13 rfl (show sCode 216 10 = some (.invokevirtual 280, 3) by decide +kernel) (show sMR (sKo 216).1 280 = some 206 by decide +kernel) (show 206 < 1000 ∧ sStat 206 = false ∧ sIni 206 = false ∧ sKo 206 = (12, 2, 1, 0, 0) by decide +kernel) rfl (Or.inl rfl) rfl (Nat.le_of_ble_eq_true rfl) rfl rfl rfl (by decide +kernel) kk
theorem b216_13 {d : Nat} {Q : Option sV → sM → sG → Prop} {M : sM} {G : sG} {a0 : Nat} {x1 : Int} {x2 : Int} {s0 : Int}  (k1 : 0 ≤ s0 → sW (sC d) 216 Q 18 [vO 12 a0, vI x1, vI x2, vN] [] M G 0 0) (k2 : s0 < 0 → sW (sC d) 216 Q 16 [vN, vN, vN, vN] [] M G 0 0) : sW (sC d) 216 Q 13 [vO 12 a0, vI x1, vI x2, vN] [vI s0] M G 0 0 := by
  refine q_ifge 18 16 rfl (by decide) (show sCode 216 13 = some (.ifCond .ge 5, 3) by decide +kernel) ?_ ?_
  · intro q; exact k1 q
  · intro q; refine q_forget (L' := [vN, vI x1, vI x2, vN]) 0 rfl ?_; refine q_forget (L' := [vN, vN, vI x2, vN]) 1 rfl ?_; refine q_forget (L' := [vN, vN, vN, vN]) 2 rfl ?_; exact k2 q
theorem b216_16 {d : Nat} {P : Int → sM → sG → Prop} {M : sM} {G : sG}   (kk : P 0 M G) : sW (sC d) 216 (QI P) 16 [vN, vN, vN, vN] [] M G 0 0 := by
  refine q_iconst 17 rfl (show sCode 216 16 = some (.iconst 0, 1) by decide +kernel) ⟨by decide, by decide⟩ ?_
  exact q_zret (show sCode 216 17 = some (.ireturn, 1) by decide +kernel) (by decide +kernel) (by decide) (by decide +kernel) kk
theorem b216_18 {d : Nat} {Q : Option sV → sM → sG → Prop} {M : sM} {G : sG} {a0 : Nat} {x1 : Int} {x2 : Int}  (kk : sC d 206 [vO 12 a0, vI x1, vI 0] M G (QI (fun r M1 G1 => sW (sC d) 216 Q 27 [vO 12 a0, vI x1, vI x2, vN] (vI r :: [vI 3, vI 10]) M1 G1 0 0))) : sW (sC d) 216 Q 18 [vO 12 a0, vI x1, vI x2, vN] [] M G 0 0 := by
  refine q_bipush 20 rfl (show sCode 216 18 = some (.bipush 10, 2) by decide +kernel) ⟨by decide, by decide⟩ (by decide +kernel) ?_
  refine q_iconst 21 rfl (show sCode 216 20 = some (.iconst 3, 1) by decide +kernel) ⟨by decide, by decide⟩ ?_
  refine q_aload_n 22 rfl (show sCode 216 21 = some (.aload_n 0, 1) by decide +kernel) rfl (Nat.le_of_ble_eq_true rfl) ?_
  refine q_iload_n 23 rfl (show sCode 216 22 = some (.iload_n 1, 1) by decide +kernel) rfl ?_
  refine q_iconst 24 rfl (show sCode 216 23 = some (.iconst 0, 1) by decide +kernel) ⟨by decide, by decide⟩ ?_
  exact q_virtI [vI x1, vI 0] 27 rfl (show sCode 216 24 = some (.invokevirtual 280, 3) by decide +kernel) (show sMR (sKo 216).1 280 = some 206 by decide +kernel) (show 206 < 1000 ∧ sStat 206 = false ∧ sIni 206 = false ∧ sKo 206 = (12, 2, 1, 0, 0) by decide +kernel) rfl (Or.inl rfl) rfl (Nat.le_of_ble_eq_true rfl) rfl rfl rfl (by decide +kernel) kk
theorem b216_27 {d : Nat} {Q : Option sV → sM → sG → Prop} {M : sM} {G : sG} {a0 : Nat} {x1 : Int} {x2 : Int} {s0 : Int} {s1 : Int} {s2 : Int} (h1 : sI (s1 * s0)) (h2 : sI (s2 + (s1 * s0))) (h3 : sI ((s2 + (s1 * s0)) + 2)) (k1 : x2 = 0 → sW (sC d) 216 Q 48 [vO 12 a0, vI x1, vI x2, vI ((s2 + (s1 * s0)) + 2)] [] M G 0 0) (k2 : x2 ≠ 0 → sW (sC d) 216 Q 36 [vO 12 a0, vI x1, vI x2, vI ((s2 + (s1 * s0)) + 2)] [] M G 0 0) : sW (sC d) 216 Q 27 [vO 12 a0, vI x1, vI x2, vN] [vI s0, vI s1, vI s2] M G 0 0 := by
  refine q_imul 28 rfl (show sCode 216 27 = some (.imul, 1) by decide +kernel) h1 ?_
  refine q_iadd 29 rfl (show sCode 216 28 = some (.iadd, 1) by decide +kernel) h2 ?_
  refine q_iconst 30 rfl (show sCode 216 29 = some (.iconst 2, 1) by decide +kernel) ⟨by decide, by decide⟩ ?_
  refine q_iadd 31 rfl (show sCode 216 30 = some (.iadd, 1) by decide +kernel) h3 ?_
  refine q_istore_n [vO 12 a0, vI x1, vI x2, vI ((s2 + (s1 * s0)) + 2)] 32 rfl (show sCode 216 31 = some (.istore_n 3, 1) by decide +kernel) (Nat.lt_of_lt_of_le (Nat.lt_succ_self _) (Nat.le_of_ble_eq_true rfl)) rfl rfl ?_
  refine q_iload_n 33 rfl (show sCode 216 32 = some (.iload_n 2, 1) by decide +kernel) rfl ?_
  refine q_ifeq 48 36 rfl (by decide) (show sCode 216 33 = some (.ifCond .eq 15, 3) by decide +kernel) ?_ ?_
  · intro q; exact k1 q
  · intro q; exact k2 q
theorem b216_36 {d : Nat} {Q : Option sV → sM → sG → Prop} {M : sM} {G : sG} {a0 : Nat} {x1 : Int} {x2 : Int} {x3 : Int} (h1 : 0 ≤ x3 ∧ x3 < 274) (k1 : M (a0 + 11) x3.toNat ≠ 0 → sW (sC d) 216 Q 58 [vO 12 a0, vI x1, vI x2, vI x3] [] M G 0 0) (k2 : M (a0 + 11) x3.toNat = 0 → sW (sC d) 216 Q 45 [vN, vN, vN, vN] [] M G 0 0) : sW (sC d) 216 Q 36 [vO 12 a0, vI x1, vI x2, vI x3] [] M G 0 0 := by
  refine q_aload_n 37 rfl (show sCode 216 36 = some (.aload_n 0, 1) by decide +kernel) rfl (Nat.le_of_ble_eq_true rfl) ?_
  refine q_getR (vA 0 (a0 + 11) 274) 40 rfl (show sCode 216 37 = some (.getfield 42, 3) by decide +kernel) (show sFR (sKo 216).1 42 = some (12, 23) by decide +kernel) (by decide +kernel) (Or.inl (Or.inl rfl)) rfl ?_
  refine q_iload_n 41 rfl (show sCode 216 40 = some (.iload_n 3, 1) by decide +kernel) rfl ?_
  refine q_iald 42 rfl (show sCode 216 41 = some (.iaload, 1) by decide +kernel) h1 ?_
  refine q_ifne 58 45 rfl (by decide) (show sCode 216 42 = some (.ifCond .ne 16, 3) by decide +kernel) ?_ ?_
  · intro q; exact k1 q
  · intro q; refine q_forget (L' := [vN, vI x1, vI x2, vI x3]) 0 rfl ?_; refine q_forget (L' := [vN, vN, vI x2, vI x3]) 1 rfl ?_; refine q_forget (L' := [vN, vN, vN, vI x3]) 2 rfl ?_; refine q_forget (L' := [vN, vN, vN, vN]) 3 rfl ?_; exact k2 q
theorem b216_45 {d : Nat} {Q : Option sV → sM → sG → Prop} {M : sM} {G : sG}   (kk : sW (sC d) 216 Q 56 [vN, vN, vN, vN] [] M G 0 0) : sW (sC d) 216 Q 45 [vN, vN, vN, vN] [] M G 0 0 := by
  refine q_goto 56 (by decide) (show sCode 216 45 = some (.goto 11, 3) by decide +kernel) ?_
  exact kk
theorem b216_48 {d : Nat} {Q : Option sV → sM → sG → Prop} {M : sM} {G : sG} {a0 : Nat} {x1 : Int} {x2 : Int} {x3 : Int}  (kk : sC d 212 [vO 12 a0, vI x1] M G (QI (fun r M1 G1 => sW (sC d) 216 Q 53 [vO 12 a0, vI x1, vI x2, vI x3] (vI r :: []) M1 G1 0 0))) : sW (sC d) 216 Q 48 [vO 12 a0, vI x1, vI x2, vI x3] [] M G 0 0 := by
  refine q_aload_n 49 rfl (show sCode 216 48 = some (.aload_n 0, 1) by decide +kernel) rfl (Nat.le_of_ble_eq_true rfl) ?_
  refine q_iload_n 50 rfl (show sCode 216 49 = some (.iload_n 1, 1) by decide +kernel) rfl ?_
  exact q_virtI [vI x1] 53 rfl (show sCode 216 50 = some (.invokevirtual 308, 3) by decide +kernel) (show sMR (sKo 216).1 308 = some 212 by decide +kernel) (show 212 < 1000 ∧ sStat 212 = false ∧ sIni 212 = false ∧ sKo 212 = (12, 1, 2, 0, 0) by decide +kernel) rfl (Or.inl rfl) rfl (Nat.le_of_ble_eq_true rfl) rfl rfl rfl (by decide +kernel) kk
theorem b216_53 {d : Nat} {Q : Option sV → sM → sG → Prop} {M : sM} {G : sG} {a0 : Nat} {x1 : Int} {x2 : Int} {x3 : Int} {s0 : Int}  (k1 : s0 ≠ 0 → sW (sC d) 216 Q 58 [vO 12 a0, vI x1, vI x2, vI x3] [] M G 0 0) (k2 : s0 = 0 → sW (sC d) 216 Q 56 [vN, vN, vN, vN] [] M G 0 0) : sW (sC d) 216 Q 53 [vO 12 a0, vI x1, vI x2, vI x3] [vI s0] M G 0 0 := by
  refine q_ifne 58 56 rfl (by decide) (show sCode 216 53 = some (.ifCond .ne 5, 3) by decide +kernel) ?_ ?_
  · intro q; exact k1 q
  · intro q; refine q_forget (L' := [vN, vI x1, vI x2, vI x3]) 0 rfl ?_; refine q_forget (L' := [vN, vN, vI x2, vI x3]) 1 rfl ?_; refine q_forget (L' := [vN, vN, vN, vI x3]) 2 rfl ?_; refine q_forget (L' := [vN, vN, vN, vN]) 3 rfl ?_; exact k2 q
theorem b216_56 {d : Nat} {P : Int → sM → sG → Prop} {M : sM} {G : sG}   (kk : P 0 M G) : sW (sC d) 216 (QI P) 56 [vN, vN, vN, vN] [] M G 0 0 := by
  refine q_iconst 57 rfl (show sCode 216 56 = some (.iconst 0, 1) by decide +kernel) ⟨by decide, by decide⟩ ?_
  exact q_zret (show sCode 216 57 = some (.ireturn, 1) by decide +kernel) (by decide +kernel) (by decide) (by decide +kernel) kk
theorem b216_58 {d : Nat} {Q : Option sV → sM → sG → Prop} {M : sM} {G : sG} {a0 : Nat} {x1 : Int} {x2 : Int} {x3 : Int} (h1 : 0 ≤ x3 ∧ x3 < 274) (k1 : x2 = 0 → sW (sC d) 216 Q 73 [vO 12 a0, vI x1, vN, vN] [vI (M (a0 + 11) x3.toNat), vI x3, vA 0 (a0 + 11) 274] M G 0 0) (k2 : x2 ≠ 0 → sW (sC d) 216 Q 69 [vO 12 a0, vI x1, vN, vN] [vI (M (a0 + 11) x3.toNat), vI x3, vA 0 (a0 + 11) 274] M G 0 0) : sW (sC d) 216 Q 58 [vO 12 a0, vI x1, vI x2, vI x3] [] M G 0 0 := by
  refine q_aload_n 59 rfl (show sCode 216 58 = some (.aload_n 0, 1) by decide +kernel) rfl (Nat.le_of_ble_eq_true rfl) ?_
  refine q_getR (vA 0 (a0 + 11) 274) 62 rfl (show sCode 216 59 = some (.getfield 42, 3) by decide +kernel) (show sFR (sKo 216).1 42 = some (12, 23) by decide +kernel) (by decide +kernel) (Or.inl (Or.inl rfl)) rfl ?_
  refine q_iload_n 63 rfl (show sCode 216 62 = some (.iload_n 3, 1) by decide +kernel) rfl ?_
  refine q_dup2 64 rfl (show sCode 216 63 = some (.dup2, 1) by decide +kernel) rfl rfl ?_
  refine q_iald 65 rfl (show sCode 216 64 = some (.iaload, 1) by decide +kernel) h1 ?_
  refine q_iload_n 66 rfl (show sCode 216 65 = some (.iload_n 2, 1) by decide +kernel) rfl ?_
  refine q_ifeq 73 69 rfl (by decide) (show sCode 216 66 = some (.ifCond .eq 7, 3) by decide +kernel) ?_ ?_
  · intro q; refine q_forget (L' := [vO 12 a0, vI x1, vN, vI x3]) 2 rfl ?_; refine q_forget (L' := [vO 12 a0, vI x1, vN, vN]) 3 rfl ?_; exact k1 q
  · intro q; refine q_forget (L' := [vO 12 a0, vI x1, vN, vI x3]) 2 rfl ?_; refine q_forget (L' := [vO 12 a0, vI x1, vN, vN]) 3 rfl ?_; exact k2 q
theorem b216_69 {d : Nat} {Q : Option sV → sM → sG → Prop} {M : sM} {G : sG} {a0 : Nat} {x1 : Int} {s0 : Int} {s1 : Int} {sa2 : Nat}  (kk : sW (sC d) 216 Q 74 [vO 12 a0, vI x1, vN, vN] [vI 1, vI s0, vI s1, vA 0 sa2 274] M G 0 0) : sW (sC d) 216 Q 69 [vO 12 a0, vI x1, vN, vN] [vI s0, vI s1, vA 0 sa2 274] M G 0 0 := by
  refine q_iconst 70 rfl (show sCode 216 69 = some (.iconst 1, 1) by decide +kernel) ⟨by decide, by decide⟩ ?_
  refine q_goto 74 (by decide) (show sCode 216 70 = some (.goto 4, 3) by decide +kernel) ?_
  exact kk
theorem b216_73 {d : Nat} {Q : Option sV → sM → sG → Prop} {M : sM} {G : sG} {a0 : Nat} {x1 : Int} {s0 : Int} {s1 : Int} {sa2 : Nat}  (kk : sW (sC d) 216 Q 74 [vO 12 a0, vI x1, vN, vN] [vI 0, vI s0, vI s1, vA 0 sa2 274] M G 0 0) : sW (sC d) 216 Q 73 [vO 12 a0, vI x1, vN, vN] [vI s0, vI s1, vA 0 sa2 274] M G 0 0 := by
  refine q_iconst 74 rfl (show sCode 216 73 = some (.iconst 0, 1) by decide +kernel) ⟨by decide, by decide⟩ ?_
  exact kk
theorem b216_74 {d : Nat} {Q : Option sV → sM → sG → Prop} {M : sM} {G : sG} {a0 : Nat} {x1 : Int} {s0 : Int} {s1 : Int} {s2 : Int} {sa3 : Nat} (h1 : sI (s1 - s0)) (h2 : 0 ≤ s2 ∧ s2 < 274) (kk : sC d 201 [vO 12 a0, vI x1] (sUpd M sa3 s2.toNat (s1 - s0)) G (QV (fun M1 G1 => sW (sC d) 216 Q 81 [vN, vN, vN, vN] [] M1 G1 0 0))) : sW (sC d) 216 Q 74 [vO 12 a0, vI x1, vN, vN] [vI s0, vI s1, vI s2, vA 0 sa3 274] M G 0 0 := by
  refine q_isub 75 rfl (show sCode 216 74 = some (.isub, 1) by decide +kernel) h1 ?_
  refine q_iast 76 rfl (show sCode 216 75 = some (.iastore, 1) by decide +kernel) h2 ?_
  refine q_aload_n 77 rfl (show sCode 216 76 = some (.aload_n 0, 1) by decide +kernel) rfl (Nat.le_of_ble_eq_true rfl) ?_
  refine q_iload_n 78 rfl (show sCode 216 77 = some (.iload_n 1, 1) by decide +kernel) rfl ?_
  refine q_forget (L' := [vN, vI x1, vN, vN]) 0 rfl ?_
  refine q_forget (L' := [vN, vN, vN, vN]) 1 rfl ?_
  exact q_virtV [vI x1] 81 rfl (show sCode 216 78 = some (.invokevirtual 258, 3) by decide +kernel) (show sMR (sKo 216).1 258 = some 201 by decide +kernel) (show 201 < 1000 ∧ sStat 201 = false ∧ sIni 201 = false ∧ sKo 201 = (12, 1, 0, 0, 0) by decide +kernel) rfl (Or.inl rfl) rfl (Nat.le_of_ble_eq_true rfl) rfl rfl rfl (by decide +kernel) kk
theorem b216_81 {d : Nat} {P : Int → sM → sG → Prop} {M : sM} {G : sG}   (kk : P 1 M G) : sW (sC d) 216 (QI P) 81 [vN, vN, vN, vN] [] M G 0 0 := by
  refine q_iconst 82 rfl (show sCode 216 81 = some (.iconst 1, 1) by decide +kernel) ⟨by decide, by decide⟩ ?_
  exact q_zret (show sCode 216 82 = some (.ireturn, 1) by decide +kernel) (by decide +kernel) (by decide) (by decide +kernel) kk
-- 217 AfterTheLastModel.tick (II)I
theorem b217_0 {d : Nat} {Q : Option sV → sM → sG → Prop} {M : sM} {G : sG} {a0 : Nat} {x1 : Int} {x2 : Int}  (kk : sC d 218 [vO 12 a0, vI x1] M G (QI (fun r M1 G1 => sW (sC d) 217 Q 5 [vO 12 a0, vI x1, vI x2] (vI r :: []) M1 G1 0 0))) : sW (sC d) 217 Q 0 [vO 12 a0, vI x1, vI x2] [] M G 0 0 := by
  refine q_aload_n 1 rfl (show sCode 217 0 = some (.aload_n 0, 1) by decide +kernel) rfl (Nat.le_of_ble_eq_true rfl) ?_
  refine q_iload_n 2 rfl (show sCode 217 1 = some (.iload_n 1, 1) by decide +kernel) rfl ?_
  exact q_virtI [vI x1] 5 rfl (show sCode 217 2 = some (.invokevirtual 337, 3) by decide +kernel) (show sMR (sKo 217).1 337 = some 218 by decide +kernel) (show 218 < 1000 ∧ sStat 218 = false ∧ sIni 218 = false ∧ sKo 218 = (12, 1, 2, 0, 0) by decide +kernel) rfl (Or.inl rfl) rfl (Nat.le_of_ble_eq_true rfl) rfl rfl rfl (by decide +kernel) kk
theorem b217_5 {d : Nat} {Q : Option sV → sM → sG → Prop} {M : sM} {G : sG} {a0 : Nat} {x1 : Int} {x2 : Int} {s0 : Int}  (k1 : s0 = 0 → sW (sC d) 217 Q 33 [vN, vN, vN] [] M G 0 0) (k2 : s0 ≠ 0 → sW (sC d) 217 Q 8 [vO 12 a0, vI x1, vI x2] [] M G 0 0) : sW (sC d) 217 Q 5 [vO 12 a0, vI x1, vI x2] [vI s0] M G 0 0 := by
  refine q_ifeq 33 8 rfl (by decide) (show sCode 217 5 = some (.ifCond .eq 28, 3) by decide +kernel) ?_ ?_
  · intro q; refine q_forget (L' := [vN, vI x1, vI x2]) 0 rfl ?_; refine q_forget (L' := [vN, vN, vI x2]) 1 rfl ?_; refine q_forget (L' := [vN, vN, vN]) 2 rfl ?_; exact k1 q
  · intro q; exact k2 q
theorem b217_8 {d : Nat} {Q : Option sV → sM → sG → Prop} {M : sM} {G : sG} {a0 : Nat} {x1 : Int} {x2 : Int}  (kk : sC d 183 [vL x2, vL 1, vL 96] M G (QI (fun r M1 G1 => sW (sC d) 217 Q 17 [vO 12 a0, vI x1, vI x2] (vI r :: []) M1 G1 0 0))) : sW (sC d) 217 Q 8 [vO 12 a0, vI x1, vI x2] [] M G 0 0 := by
  refine q_iload_n 9 rfl (show sCode 217 8 = some (.iload_n 2, 1) by decide +kernel) rfl ?_
  refine q_i2l 10 rfl (show sCode 217 9 = some (.i2l, 1) by decide +kernel) ?_
  refine q_lconst 11 rfl (show sCode 217 10 = some (.lconst 1, 1) by decide +kernel) ?_
  refine q_ldc2_w 14 rfl (show sCode 217 11 = some (.ldc2_w 340, 3) by decide +kernel) (show sLR (sKo 217).1 340 = some 96 by decide +kernel) ⟨by decide, by decide⟩ ?_
  exact q_statI [vL x2, vL 1, vL 96] 17 rfl (show sCode 217 14 = some (.invokestatic 127, 3) by decide +kernel) (show sMR (sKo 217).1 127 = some 183 by decide +kernel) (show 183 < 1000 ∧ sStat 183 = true ∧ sKo 183 = (12, 3, 2, 0, 0) by decide +kernel) rfl rfl (Nat.le_of_ble_eq_true rfl) rfl rfl rfl (by decide +kernel) kk
theorem b217_17 {d : Nat} {Q : Option sV → sM → sG → Prop} {M : sM} {G : sG} {a0 : Nat} {x1 : Int} {x2 : Int} {s0 : Int}  (k1 : s0 = 0 → sW (sC d) 217 Q 33 [vN, vN, vN] [] M G 0 0) (k2 : s0 ≠ 0 → sW (sC d) 217 Q 20 [vO 12 a0, vI x1, vI x2] [] M G 0 0) : sW (sC d) 217 Q 17 [vO 12 a0, vI x1, vI x2] [vI s0] M G 0 0 := by
  refine q_ifeq 33 20 rfl (by decide) (show sCode 217 17 = some (.ifCond .eq 16, 3) by decide +kernel) ?_ ?_
  · intro q; refine q_forget (L' := [vN, vI x1, vI x2]) 0 rfl ?_; refine q_forget (L' := [vN, vN, vI x2]) 1 rfl ?_; refine q_forget (L' := [vN, vN, vN]) 2 rfl ?_; exact k1 q
  · intro q; exact k2 q
theorem b217_20 {d : Nat} {Q : Option sV → sM → sG → Prop} {M : sM} {G : sG} {a0 : Nat} {x1 : Int} {x2 : Int} (h1 : sI ((M (a0 + 11) 2) + x2)) (k1 : (M (a0 + 11) 2) + x2 ≤ 96 → sW (sC d) 217 Q 35 [vO 12 a0, vI x1, vI x2] [] M G 0 0) (k2 : 96 < (M (a0 + 11) 2) + x2 → sW (sC d) 217 Q 33 [vN, vN, vN] [] M G 0 0) : sW (sC d) 217 Q 20 [vO 12 a0, vI x1, vI x2] [] M G 0 0 := by
  refine q_aload_n 21 rfl (show sCode 217 20 = some (.aload_n 0, 1) by decide +kernel) rfl (Nat.le_of_ble_eq_true rfl) ?_
  refine q_getR (vA 0 (a0 + 11) 274) 24 rfl (show sCode 217 21 = some (.getfield 42, 3) by decide +kernel) (show sFR (sKo 217).1 42 = some (12, 23) by decide +kernel) (by decide +kernel) (Or.inl (Or.inl rfl)) rfl ?_
  refine q_iconst 25 rfl (show sCode 217 24 = some (.iconst 2, 1) by decide +kernel) ⟨by decide, by decide⟩ ?_
  refine q_iald 26 rfl (show sCode 217 25 = some (.iaload, 1) by decide +kernel) ⟨by decide, by decide⟩ ?_
  refine q_iload_n 27 rfl (show sCode 217 26 = some (.iload_n 2, 1) by decide +kernel) rfl ?_
  refine q_iadd 28 rfl (show sCode 217 27 = some (.iadd, 1) by decide +kernel) h1 ?_
  refine q_bipush 30 rfl (show sCode 217 28 = some (.bipush 96, 2) by decide +kernel) ⟨by decide, by decide⟩ (by decide +kernel) ?_
  refine q_icmple 35 33 rfl (by decide) (show sCode 217 30 = some (.if_icmp .le 5, 3) by decide +kernel) ?_ ?_
  · intro q; exact k1 q
  · intro q; refine q_forget (L' := [vN, vI x1, vI x2]) 0 rfl ?_; refine q_forget (L' := [vN, vN, vI x2]) 1 rfl ?_; refine q_forget (L' := [vN, vN, vN]) 2 rfl ?_; exact k2 q
theorem b217_33 {d : Nat} {P : Int → sM → sG → Prop} {M : sM} {G : sG}   (kk : P (-1) M G) : sW (sC d) 217 (QI P) 33 [vN, vN, vN] [] M G 0 0 := by
  refine q_iconst 34 rfl (show sCode 217 33 = some (.iconst (-1), 1) by decide +kernel) ⟨by decide, by decide⟩ ?_
  exact q_iret (show sCode 217 34 = some (.ireturn, 1) by decide +kernel) (by decide +kernel) (by decide +kernel) kk
theorem b217_35 {d : Nat} {Q : Option sV → sM → sG → Prop} {M : sM} {G : sG} {a0 : Nat} {x1 : Int} {x2 : Int}  (kk : sC d 219 [vO 12 a0, vI x1, vI x2] M G (QV (fun M1 G1 => sW (sC d) 217 Q 41 [vO 12 a0, vN, vN] [] M1 G1 0 0))) : sW (sC d) 217 Q 35 [vO 12 a0, vI x1, vI x2] [] M G 0 0 := by
  refine q_aload_n 36 rfl (show sCode 217 35 = some (.aload_n 0, 1) by decide +kernel) rfl (Nat.le_of_ble_eq_true rfl) ?_
  refine q_iload_n 37 rfl (show sCode 217 36 = some (.iload_n 1, 1) by decide +kernel) rfl ?_
  refine q_iload_n 38 rfl (show sCode 217 37 = some (.iload_n 2, 1) by decide +kernel) rfl ?_
  refine q_forget (L' := [vO 12 a0, vN, vI x2]) 1 rfl ?_
  refine q_forget (L' := [vO 12 a0, vN, vN]) 2 rfl ?_
  exact q_virtV [vI x1, vI x2] 41 rfl (show sCode 217 38 = some (.invokevirtual 342, 3) by decide +kernel) (show sMR (sKo 217).1 342 = some 219 by decide +kernel) (show 219 < 1000 ∧ sStat 219 = false ∧ sIni 219 = false ∧ sKo 219 = (12, 2, 0, 0, 0) by decide +kernel) rfl (Or.inl rfl) rfl (Nat.le_of_ble_eq_true rfl) rfl rfl rfl (by decide +kernel) kk
theorem b217_41 {d : Nat} {P : Int → sM → sG → Prop} {M : sM} {G : sG} {a0 : Nat}  (kk : P (M (a0 + 11) 2) M G) : sW (sC d) 217 (QI P) 41 [vO 12 a0, vN, vN] [] M G 0 0 := by
  refine q_aload_n 42 rfl (show sCode 217 41 = some (.aload_n 0, 1) by decide +kernel) rfl (Nat.le_of_ble_eq_true rfl) ?_
  refine q_getR (vA 0 (a0 + 11) 274) 45 rfl (show sCode 217 42 = some (.getfield 42, 3) by decide +kernel) (show sFR (sKo 217).1 42 = some (12, 23) by decide +kernel) (by decide +kernel) (Or.inl (Or.inl rfl)) rfl ?_
  refine q_iconst 46 rfl (show sCode 217 45 = some (.iconst 2, 1) by decide +kernel) ⟨by decide, by decide⟩ ?_
  refine q_iald 47 rfl (show sCode 217 46 = some (.iaload, 1) by decide +kernel) ⟨by decide, by decide⟩ ?_
  exact q_iret (show sCode 217 47 = some (.ireturn, 1) by decide +kernel) (by decide +kernel) (by decide +kernel) kk
-- 218 AfterTheLastModel.isRule (I)Z
theorem b218_0 {d : Nat} {Q : Option sV → sM → sG → Prop} {M : sM} {G : sG} {a0 : Nat} {x1 : Int}  (k1 : x1 < 0 → sW (sC d) 218 Q 16 [vN, vN] [] M G 0 0) (k2 : 0 ≤ x1 → sW (sC d) 218 Q 4 [vO 12 a0, vI x1] [] M G 0 0) : sW (sC d) 218 Q 0 [vO 12 a0, vI x1] [] M G 0 0 := by
  refine q_iload_n 1 rfl (show sCode 218 0 = some (.iload_n 1, 1) by decide +kernel) rfl ?_
  refine q_iflt 16 4 rfl (by decide) (show sCode 218 1 = some (.ifCond .lt 15, 3) by decide +kernel) ?_ ?_
  · intro q; refine q_forget (L' := [vN, vI x1]) 0 rfl ?_; refine q_forget (L' := [vN, vN]) 1 rfl ?_; exact k1 q
  · intro q; exact k2 q
theorem b218_4 {d : Nat} {Q : Option sV → sM → sG → Prop} {M : sM} {G : sG} {a0 : Nat} {x1 : Int}  (k1 : M a0 2 ≤ x1 → sW (sC d) 218 Q 16 [vN, vN] [] M G 0 0) (k2 : x1 < M a0 2 → sW (sC d) 218 Q 12 [vN, vN] [] M G 0 0) : sW (sC d) 218 Q 4 [vO 12 a0, vI x1] [] M G 0 0 := by
  refine q_iload_n 5 rfl (show sCode 218 4 = some (.iload_n 1, 1) by decide +kernel) rfl ?_
  refine q_aload_n 6 rfl (show sCode 218 5 = some (.aload_n 0, 1) by decide +kernel) rfl (Nat.le_of_ble_eq_true rfl) ?_
  refine q_getI 9 rfl (show sCode 218 6 = some (.getfield 252, 3) by decide +kernel) (show sFR (sKo 218).1 252 = some (12, 2) by decide +kernel) (by decide +kernel) (Or.inl (Or.inl rfl)) ?_
  refine q_icmpge 16 12 rfl (by decide) (show sCode 218 9 = some (.if_icmp .ge 7, 3) by decide +kernel) ?_ ?_
  · intro q; refine q_forget (L' := [vN, vI x1]) 0 rfl ?_; refine q_forget (L' := [vN, vN]) 1 rfl ?_; exact k1 q
  · intro q; refine q_forget (L' := [vN, vI x1]) 0 rfl ?_; refine q_forget (L' := [vN, vN]) 1 rfl ?_; exact k2 q
theorem b218_12 {d : Nat} {Q : Option sV → sM → sG → Prop} {M : sM} {G : sG}   (kk : sW (sC d) 218 Q 17 [vN, vN] [vI 1] M G 0 0) : sW (sC d) 218 Q 12 [vN, vN] [] M G 0 0 := by
  refine q_iconst 13 rfl (show sCode 218 12 = some (.iconst 1, 1) by decide +kernel) ⟨by decide, by decide⟩ ?_
  refine q_goto 17 (by decide) (show sCode 218 13 = some (.goto 4, 3) by decide +kernel) ?_
  exact kk
theorem b218_16 {d : Nat} {Q : Option sV → sM → sG → Prop} {M : sM} {G : sG}   (kk : sW (sC d) 218 Q 17 [vN, vN] [vI 0] M G 0 0) : sW (sC d) 218 Q 16 [vN, vN] [] M G 0 0 := by
  refine q_iconst 17 rfl (show sCode 218 16 = some (.iconst 0, 1) by decide +kernel) ⟨by decide, by decide⟩ ?_
  exact kk
theorem b218_17 {d : Nat} {P : Int → sM → sG → Prop} {M : sM} {G : sG} {s0 : Int}  (h01 : s0 = 0 ∨ s0 = 1) (kk : P s0 M G) : sW (sC d) 218 (QI P) 17 [vN, vN] [vI s0] M G 0 0 := by
  exact q_zret (show sCode 218 17 = some (.ireturn, 1) by decide +kernel) (by decide +kernel) h01 (by decide +kernel) kk
-- 219 AfterTheLastModel.quarters (II)V
theorem b219_0 {d : Nat} {Q : Option sV → sM → sG → Prop} {M : sM} {G : sG} {a0 : Nat} {x1 : Int} {x2 : Int}  (kk : sW (sC d) 219 Q 2 [vO 12 a0, vI x1, vI x2, vI 0] [] M G 0 0) : sW (sC d) 219 Q 0 [vO 12 a0, vI x1, vI x2, vN] [] M G 0 0 := by
  refine q_iconst 1 rfl (show sCode 219 0 = some (.iconst 0, 1) by decide +kernel) ⟨by decide, by decide⟩ ?_
  refine q_istore_n [vO 12 a0, vI x1, vI x2, vI 0] 2 rfl (show sCode 219 1 = some (.istore_n 3, 1) by decide +kernel) (Nat.lt_of_lt_of_le (Nat.lt_succ_self _) (Nat.le_of_ble_eq_true rfl)) rfl rfl ?_
  exact kk
theorem b219_2 {d : Nat} {Q : Option sV → sM → sG → Prop} {M : sM} {G : sG} {a0 : Nat} {x1 : Int} {x2 : Int} {x3 : Int}  (k1 : x2 ≤ x3 → sW (sC d) 219 Q 18 [vN, vN, vN, vN] [] M G 0 0) (k2 : x3 < x2 → sW (sC d) 219 Q 7 [vO 12 a0, vI x1, vI x2, vI x3] [] M G 0 0) : sW (sC d) 219 Q 2 [vO 12 a0, vI x1, vI x2, vI x3] [] M G 0 0 := by
  refine q_iload_n 3 rfl (show sCode 219 2 = some (.iload_n 3, 1) by decide +kernel) rfl ?_
  refine q_iload_n 4 rfl (show sCode 219 3 = some (.iload_n 2, 1) by decide +kernel) rfl ?_
  refine q_icmpge 18 7 rfl (by decide) (show sCode 219 4 = some (.if_icmp .ge 14, 3) by decide +kernel) ?_ ?_
  · intro q; refine q_forget (L' := [vN, vI x1, vI x2, vI x3]) 0 rfl ?_; refine q_forget (L' := [vN, vN, vI x2, vI x3]) 1 rfl ?_; refine q_forget (L' := [vN, vN, vN, vI x3]) 2 rfl ?_; refine q_forget (L' := [vN, vN, vN, vN]) 3 rfl ?_; exact k1 q
  · intro q; exact k2 q
theorem b219_7 {d : Nat} {Q : Option sV → sM → sG → Prop} {M : sM} {G : sG} {a0 : Nat} {x1 : Int} {x2 : Int} {x3 : Int}  (kk : sC d 220 [vO 12 a0, vI x1] M G (QV (fun M1 G1 => sW (sC d) 219 Q 12 [vO 12 a0, vI x1, vI x2, vI x3] [] M1 G1 0 0))) : sW (sC d) 219 Q 7 [vO 12 a0, vI x1, vI x2, vI x3] [] M G 0 0 := by
  refine q_aload_n 8 rfl (show sCode 219 7 = some (.aload_n 0, 1) by decide +kernel) rfl (Nat.le_of_ble_eq_true rfl) ?_
  refine q_iload_n 9 rfl (show sCode 219 8 = some (.iload_n 1, 1) by decide +kernel) rfl ?_
  exact q_virtV [vI x1] 12 rfl (show sCode 219 9 = some (.invokevirtual 334, 3) by decide +kernel) (show sMR (sKo 219).1 334 = some 220 by decide +kernel) (show 220 < 1000 ∧ sStat 220 = false ∧ sIni 220 = false ∧ sKo 220 = (12, 1, 0, 0, 0) by decide +kernel) rfl (Or.inl rfl) rfl (Nat.le_of_ble_eq_true rfl) rfl rfl rfl (by decide +kernel) kk
theorem b219_12 {d : Nat} {Q : Option sV → sM → sG → Prop} {M : sM} {G : sG} {a0 : Nat} {x1 : Int} {x2 : Int} {x3 : Int} (h1 : sI (x3 + 1)) (kk : sW (sC d) 219 Q 2 [vO 12 a0, vI x1, vI x2, vI (x3 + 1)] [] M G 0 0) : sW (sC d) 219 Q 12 [vO 12 a0, vI x1, vI x2, vI x3] [] M G 0 0 := by
  refine q_iinc [vO 12 a0, vI x1, vI x2, vI (x3 + 1)] 15 rfl (show sCode 219 12 = some (.iinc 3 1, 3) by decide +kernel) rfl rfl h1 rfl ?_
  refine q_goto 2 (by decide) (show sCode 219 15 = some (.goto (-13), 3) by decide +kernel) ?_
  exact kk
theorem b219_18 {d : Nat} {P : sM → sG → Prop} {M : sM} {G : sG}   (kk : P M G) : sW (sC d) 219 (QV P) 18 [vN, vN, vN, vN] [] M G 0 0 := by
  exact q_vret (show sCode 219 18 = some (.return_, 1) by decide +kernel) (by decide +kernel) (by decide +kernel) kk
-- 220 AfterTheLastModel.quarter (I)V
theorem b220_0 {d : Nat} {Q : Option sV → sM → sG → Prop} {M : sM} {G : sG} {a0 : Nat} {x1 : Int}  (kk : sW (sC d) 220 Q 2 [vO 12 a0, vI x1, vI 0, vN] [] M G 0 0) : sW (sC d) 220 Q 0 [vO 12 a0, vI x1, vN, vN] [] M G 0 0 := by
  refine q_iconst 1 rfl (show sCode 220 0 = some (.iconst 0, 1) by decide +kernel) ⟨by decide, by decide⟩ ?_
  refine q_istore_n [vO 12 a0, vI x1, vI 0, vN] 2 rfl (show sCode 220 1 = some (.istore_n 2, 1) by decide +kernel) (Nat.lt_of_lt_of_le (Nat.lt_succ_self _) (Nat.le_of_ble_eq_true rfl)) rfl rfl ?_
  exact kk
theorem b220_2 {d : Nat} {Q : Option sV → sM → sG → Prop} {M : sM} {G : sG} {a0 : Nat} {x1 : Int} {x2 : Int}  (k1 : 12 ≤ x2 → sW (sC d) 220 Q 63 [vO 12 a0, vI x1, vN, vN] [] M G 0 0) (k2 : x2 < 12 → sW (sC d) 220 Q 8 [vO 12 a0, vI x1, vI x2, vN] [] M G 0 0) : sW (sC d) 220 Q 2 [vO 12 a0, vI x1, vI x2, vN] [] M G 0 0 := by
  refine q_iload_n 3 rfl (show sCode 220 2 = some (.iload_n 2, 1) by decide +kernel) rfl ?_
  refine q_bipush 5 rfl (show sCode 220 3 = some (.bipush 12, 2) by decide +kernel) ⟨by decide, by decide⟩ (by decide +kernel) ?_
  refine q_icmpge 63 8 rfl (by decide) (show sCode 220 5 = some (.if_icmp .ge 58, 3) by decide +kernel) ?_ ?_
  · intro q; refine q_forget (L' := [vO 12 a0, vI x1, vN, vN]) 2 rfl ?_; exact k1 q
  · intro q; exact k2 q
theorem b220_8 {d : Nat} {Q : Option sV → sM → sG → Prop} {M : sM} {G : sG} {a0 : Nat} {x1 : Int} {x2 : Int}  (kk : sC d 221 [vO 12 a0, vI x2] M G (QI (fun r M1 G1 => sW (sC d) 220 Q 13 [vO 12 a0, vI x1, vI x2, vN] (vI r :: []) M1 G1 0 0))) : sW (sC d) 220 Q 8 [vO 12 a0, vI x1, vI x2, vN] [] M G 0 0 := by
  refine q_aload_n 9 rfl (show sCode 220 8 = some (.aload_n 0, 1) by decide +kernel) rfl (Nat.le_of_ble_eq_true rfl) ?_
  refine q_iload_n 10 rfl (show sCode 220 9 = some (.iload_n 2, 1) by decide +kernel) rfl ?_
  exact q_virtI [vI x2] 13 rfl (show sCode 220 10 = some (.invokevirtual 325, 3) by decide +kernel) (show sMR (sKo 220).1 325 = some 221 by decide +kernel) (show 221 < 1000 ∧ sStat 221 = false ∧ sIni 221 = false ∧ sKo 221 = (12, 1, 2, 0, 0) by decide +kernel) rfl (Or.inl rfl) rfl (Nat.le_of_ble_eq_true rfl) rfl rfl rfl (by decide +kernel) kk
theorem b220_13 {d : Nat} {Q : Option sV → sM → sG → Prop} {M : sM} {G : sG} {a0 : Nat} {x1 : Int} {x2 : Int} {s0 : Int}  (k1 : s0 = 0 → sW (sC d) 220 Q 37 [vO 12 a0, vI x1, vI x2, vN] [] M G 0 0) (k2 : s0 ≠ 0 → sW (sC d) 220 Q 16 [vO 12 a0, vI x1, vI x2, vN] [] M G 0 0) : sW (sC d) 220 Q 13 [vO 12 a0, vI x1, vI x2, vN] [vI s0] M G 0 0 := by
  refine q_ifeq 37 16 rfl (by decide) (show sCode 220 13 = some (.ifCond .eq 24, 3) by decide +kernel) ?_ ?_
  · intro q; exact k1 q
  · intro q; exact k2 q
theorem b220_16 {d : Nat} {Q : Option sV → sM → sG → Prop} {M : sM} {G : sG} {a0 : Nat} {x1 : Int} {x2 : Int}  (kk : sC d 212 [vO 12 a0, vI x2] M G (QI (fun r M1 G1 => sW (sC d) 220 Q 21 [vO 12 a0, vI x1, vI x2, vN] (vI r :: []) M1 G1 0 0))) : sW (sC d) 220 Q 16 [vO 12 a0, vI x1, vI x2, vN] [] M G 0 0 := by
  refine q_aload_n 17 rfl (show sCode 220 16 = some (.aload_n 0, 1) by decide +kernel) rfl (Nat.le_of_ble_eq_true rfl) ?_
  refine q_iload_n 18 rfl (show sCode 220 17 = some (.iload_n 2, 1) by decide +kernel) rfl ?_
  exact q_virtI [vI x2] 21 rfl (show sCode 220 18 = some (.invokevirtual 308, 3) by decide +kernel) (show sMR (sKo 220).1 308 = some 212 by decide +kernel) (show 212 < 1000 ∧ sStat 212 = false ∧ sIni 212 = false ∧ sKo 212 = (12, 1, 2, 0, 0) by decide +kernel) rfl (Or.inl rfl) rfl (Nat.le_of_ble_eq_true rfl) rfl rfl rfl (by decide +kernel) kk
theorem b220_21 {d : Nat} {Q : Option sV → sM → sG → Prop} {M : sM} {G : sG} {a0 : Nat} {x1 : Int} {x2 : Int} {s0 : Int}  (k1 : s0 = 0 → sW (sC d) 220 Q 37 [vO 12 a0, vI x1, vI x2, vN] [] M G 0 0) (k2 : s0 ≠ 0 → sW (sC d) 220 Q 24 [vO 12 a0, vI x1, vI x2, vN] [] M G 0 0) : sW (sC d) 220 Q 21 [vO 12 a0, vI x1, vI x2, vN] [vI s0] M G 0 0 := by
  refine q_ifeq 37 24 rfl (by decide) (show sCode 220 21 = some (.ifCond .eq 16, 3) by decide +kernel) ?_ ?_
  · intro q; exact k1 q
  · intro q; exact k2 q
theorem b220_24 {d : Nat} {Q : Option sV → sM → sG → Prop} {M : sM} {G : sG} {a0 : Nat} {x1 : Int} {x2 : Int}  (kk : sC d 222 [vO 12 a0, vI x1, vI x2] M G (QI (fun r M1 G1 => sW (sC d) 220 Q 30 [vO 12 a0, vI x1, vI x2, vN] (vI r :: []) M1 G1 0 0))) : sW (sC d) 220 Q 24 [vO 12 a0, vI x1, vI x2, vN] [] M G 0 0 := by
  refine q_aload_n 25 rfl (show sCode 220 24 = some (.aload_n 0, 1) by decide +kernel) rfl (Nat.le_of_ble_eq_true rfl) ?_
  refine q_iload_n 26 rfl (show sCode 220 25 = some (.iload_n 1, 1) by decide +kernel) rfl ?_
  refine q_iload_n 27 rfl (show sCode 220 26 = some (.iload_n 2, 1) by decide +kernel) rfl ?_
  exact q_virtI [vI x1, vI x2] 30 rfl (show sCode 220 27 = some (.invokevirtual 328, 3) by decide +kernel) (show sMR (sKo 220).1 328 = some 222 by decide +kernel) (show 222 < 1000 ∧ sStat 222 = false ∧ sIni 222 = false ∧ sKo 222 = (12, 2, 2, 0, 0) by decide +kernel) rfl (Or.inl rfl) rfl (Nat.le_of_ble_eq_true rfl) rfl rfl rfl (by decide +kernel) kk
theorem b220_30 {d : Nat} {Q : Option sV → sM → sG → Prop} {M : sM} {G : sG} {a0 : Nat} {x1 : Int} {x2 : Int} {s0 : Int}  (k1 : s0 ≠ 0 → sW (sC d) 220 Q 37 [vO 12 a0, vI x1, vI x2, vN] [] M G 0 0) (k2 : s0 = 0 → sW (sC d) 220 Q 33 [vO 12 a0, vI x1, vI x2, vN] [] M G 0 0) : sW (sC d) 220 Q 30 [vO 12 a0, vI x1, vI x2, vN] [vI s0] M G 0 0 := by
  refine q_ifne 37 33 rfl (by decide) (show sCode 220 30 = some (.ifCond .ne 7, 3) by decide +kernel) ?_ ?_
  · intro q; exact k1 q
  · intro q; exact k2 q
theorem b220_33 {d : Nat} {Q : Option sV → sM → sG → Prop} {M : sM} {G : sG} {a0 : Nat} {x1 : Int} {x2 : Int}  (kk : sW (sC d) 220 Q 38 [vO 12 a0, vI x1, vI x2, vN] [vI 1] M G 0 0) : sW (sC d) 220 Q 33 [vO 12 a0, vI x1, vI x2, vN] [] M G 0 0 := by
  refine q_iconst 34 rfl (show sCode 220 33 = some (.iconst 1, 1) by decide +kernel) ⟨by decide, by decide⟩ ?_
  refine q_goto 38 (by decide) (show sCode 220 34 = some (.goto 4, 3) by decide +kernel) ?_
  exact kk
theorem b220_37 {d : Nat} {Q : Option sV → sM → sG → Prop} {M : sM} {G : sG} {a0 : Nat} {x1 : Int} {x2 : Int}  (kk : sW (sC d) 220 Q 38 [vO 12 a0, vI x1, vI x2, vN] [vI 0] M G 0 0) : sW (sC d) 220 Q 37 [vO 12 a0, vI x1, vI x2, vN] [] M G 0 0 := by
  refine q_iconst 38 rfl (show sCode 220 37 = some (.iconst 0, 1) by decide +kernel) ⟨by decide, by decide⟩ ?_
  exact kk
theorem b220_38 {d : Nat} {Q : Option sV → sM → sG → Prop} {M : sM} {G : sG} {a0 : Nat} {x1 : Int} {x2 : Int} {s0 : Int}  (k1 : s0 = 0 → sW (sC d) 220 Q 48 [vO 12 a0, vI x1, vI x2, vI s0] [] M G 0 0) (k2 : s0 ≠ 0 → sW (sC d) 220 Q 43 [vO 12 a0, vI x1, vI x2, vI s0] [] M G 0 0) : sW (sC d) 220 Q 38 [vO 12 a0, vI x1, vI x2, vN] [vI s0] M G 0 0 := by
  refine q_istore_n [vO 12 a0, vI x1, vI x2, vI s0] 39 rfl (show sCode 220 38 = some (.istore_n 3, 1) by decide +kernel) (Nat.lt_of_lt_of_le (Nat.lt_succ_self _) (Nat.le_of_ble_eq_true rfl)) rfl rfl ?_
  refine q_iload_n 40 rfl (show sCode 220 39 = some (.iload_n 3, 1) by decide +kernel) rfl ?_
  refine q_ifeq 48 43 rfl (by decide) (show sCode 220 40 = some (.ifCond .eq 8, 3) by decide +kernel) ?_ ?_
  · intro q; exact k1 q
  · intro q; exact k2 q
theorem b220_43 {d : Nat} {Q : Option sV → sM → sG → Prop} {M : sM} {G : sG} {a0 : Nat} {x1 : Int} {x2 : Int} {x3 : Int}  (kk : sC d 201 [vO 12 a0, vI x2] M G (QV (fun M1 G1 => sW (sC d) 220 Q 48 [vO 12 a0, vI x1, vI x2, vI x3] [] M1 G1 0 0))) : sW (sC d) 220 Q 43 [vO 12 a0, vI x1, vI x2, vI x3] [] M G 0 0 := by
  refine q_aload_n 44 rfl (show sCode 220 43 = some (.aload_n 0, 1) by decide +kernel) rfl (Nat.le_of_ble_eq_true rfl) ?_
  refine q_iload_n 45 rfl (show sCode 220 44 = some (.iload_n 2, 1) by decide +kernel) rfl ?_
  exact q_virtV [vI x2] 48 rfl (show sCode 220 45 = some (.invokevirtual 258, 3) by decide +kernel) (show sMR (sKo 220).1 258 = some 201 by decide +kernel) (show 201 < 1000 ∧ sStat 201 = false ∧ sIni 201 = false ∧ sKo 201 = (12, 1, 0, 0, 0) by decide +kernel) rfl (Or.inl rfl) rfl (Nat.le_of_ble_eq_true rfl) rfl rfl rfl (by decide +kernel) kk
theorem b220_48 {d : Nat} {Q : Option sV → sM → sG → Prop} {M : sM} {G : sG} {a0 : Nat} {x1 : Int} {x2 : Int} {x3 : Int}  (k1 : x3 = 0 → sW (sC d) 220 Q 56 [vO 12 a0, vI x1, vI x2, vN] [] M G 0 0) (k2 : x3 ≠ 0 → sW (sC d) 220 Q 52 [vO 12 a0, vI x1, vN, vN] [] M G 0 0) : sW (sC d) 220 Q 48 [vO 12 a0, vI x1, vI x2, vI x3] [] M G 0 0 := by
  refine q_iload_n 49 rfl (show sCode 220 48 = some (.iload_n 3, 1) by decide +kernel) rfl ?_
  refine q_ifeq 56 52 rfl (by decide) (show sCode 220 49 = some (.ifCond .eq 7, 3) by decide +kernel) ?_ ?_
  · intro q; refine q_forget (L' := [vO 12 a0, vI x1, vI x2, vN]) 3 rfl ?_; exact k1 q
  · intro q; refine q_forget (L' := [vO 12 a0, vI x1, vN, vI x3]) 2 rfl ?_; refine q_forget (L' := [vO 12 a0, vI x1, vN, vN]) 3 rfl ?_; exact k2 q
theorem b220_52 {d : Nat} {Q : Option sV → sM → sG → Prop} {M : sM} {G : sG} {a0 : Nat} {x1 : Int}  (kk : sW (sC d) 220 Q 59 [vO 12 a0, vI x1, vN, vN] [vI 0] M G 0 0) : sW (sC d) 220 Q 52 [vO 12 a0, vI x1, vN, vN] [] M G 0 0 := by
  refine q_iconst 53 rfl (show sCode 220 52 = some (.iconst 0, 1) by decide +kernel) ⟨by decide, by decide⟩ ?_
  refine q_goto 59 (by decide) (show sCode 220 53 = some (.goto 6, 3) by decide +kernel) ?_
  exact kk
theorem b220_56 {d : Nat} {Q : Option sV → sM → sG → Prop} {M : sM} {G : sG} {a0 : Nat} {x1 : Int} {x2 : Int} (h1 : sI (x2 + 1)) (kk : sW (sC d) 220 Q 59 [vO 12 a0, vI x1, vN, vN] [vI (x2 + 1)] M G 0 0) : sW (sC d) 220 Q 56 [vO 12 a0, vI x1, vI x2, vN] [] M G 0 0 := by
  refine q_iload_n 57 rfl (show sCode 220 56 = some (.iload_n 2, 1) by decide +kernel) rfl ?_
  refine q_iconst 58 rfl (show sCode 220 57 = some (.iconst 1, 1) by decide +kernel) ⟨by decide, by decide⟩ ?_
  refine q_iadd 59 rfl (show sCode 220 58 = some (.iadd, 1) by decide +kernel) h1 ?_
  refine q_forget (L' := [vO 12 a0, vI x1, vN, vN]) 2 rfl ?_
  exact kk
theorem b220_59 {d : Nat} {Q : Option sV → sM → sG → Prop} {M : sM} {G : sG} {a0 : Nat} {x1 : Int} {s0 : Int}  (kk : sW (sC d) 220 Q 2 [vO 12 a0, vI x1, vI s0, vN] [] M G 0 0) : sW (sC d) 220 Q 59 [vO 12 a0, vI x1, vN, vN] [vI s0] M G 0 0 := by
  refine q_istore_n [vO 12 a0, vI x1, vI s0, vN] 60 rfl (show sCode 220 59 = some (.istore_n 2, 1) by decide +kernel) (Nat.lt_of_lt_of_le (Nat.lt_succ_self _) (Nat.le_of_ble_eq_true rfl)) rfl rfl ?_
  refine q_goto 2 (by decide) (show sCode 220 60 = some (.goto (-58), 3) by decide +kernel) ?_
  exact kk
theorem b220_63 {d : Nat} {Q : Option sV → sM → sG → Prop} {M : sM} {G : sG} {a0 : Nat} {x1 : Int}  (kk : sW (sC d) 220 Q 65 [vO 12 a0, vI x1, vN, vI 0] [] M G 0 0) : sW (sC d) 220 Q 63 [vO 12 a0, vI x1, vN, vN] [] M G 0 0 := by
  refine q_iconst 64 rfl (show sCode 220 63 = some (.iconst 0, 1) by decide +kernel) ⟨by decide, by decide⟩ ?_
  refine q_istore_n [vO 12 a0, vI x1, vN, vI 0] 65 rfl (show sCode 220 64 = some (.istore_n 3, 1) by decide +kernel) (Nat.lt_of_lt_of_le (Nat.lt_succ_self _) (Nat.le_of_ble_eq_true rfl)) rfl rfl ?_
  exact kk
theorem b220_65 {d : Nat} {Q : Option sV → sM → sG → Prop} {M : sM} {G : sG} {a0 : Nat} {x1 : Int} {x3 : Int}  (k1 : 12 ≤ x3 → sW (sC d) 220 Q 153 [vO 12 a0, vI x1, vN, vN] [] M G 0 0) (k2 : x3 < 12 → sW (sC d) 220 Q 71 [vO 12 a0, vI x1, vN, vI x3] [] M G 0 0) : sW (sC d) 220 Q 65 [vO 12 a0, vI x1, vN, vI x3] [] M G 0 0 := by
  refine q_iload_n 66 rfl (show sCode 220 65 = some (.iload_n 3, 1) by decide +kernel) rfl ?_
  refine q_bipush 68 rfl (show sCode 220 66 = some (.bipush 12, 2) by decide +kernel) ⟨by decide, by decide⟩ (by decide +kernel) ?_
  refine q_icmpge 153 71 rfl (by decide) (show sCode 220 68 = some (.if_icmp .ge 85, 3) by decide +kernel) ?_ ?_
  · intro q; refine q_forget (L' := [vO 12 a0, vI x1, vN, vN]) 3 rfl ?_; exact k1 q
  · intro q; exact k2 q
theorem b220_71 {d : Nat} {Q : Option sV → sM → sG → Prop} {M : sM} {G : sG} {a0 : Nat} {x1 : Int} {x3 : Int}  (kk : sC d 221 [vO 12 a0, vI x3] M G (QI (fun r M1 G1 => sW (sC d) 220 Q 76 [vO 12 a0, vI x1, vN, vI x3] (vI r :: []) M1 G1 0 0))) : sW (sC d) 220 Q 71 [vO 12 a0, vI x1, vN, vI x3] [] M G 0 0 := by
  refine q_aload_n 72 rfl (show sCode 220 71 = some (.aload_n 0, 1) by decide +kernel) rfl (Nat.le_of_ble_eq_true rfl) ?_
  refine q_iload_n 73 rfl (show sCode 220 72 = some (.iload_n 3, 1) by decide +kernel) rfl ?_
  exact q_virtI [vI x3] 76 rfl (show sCode 220 73 = some (.invokevirtual 325, 3) by decide +kernel) (show sMR (sKo 220).1 325 = some 221 by decide +kernel) (show 221 < 1000 ∧ sStat 221 = false ∧ sIni 221 = false ∧ sKo 221 = (12, 1, 2, 0, 0) by decide +kernel) rfl (Or.inl rfl) rfl (Nat.le_of_ble_eq_true rfl) rfl rfl rfl (by decide +kernel) kk
theorem b220_76 {d : Nat} {Q : Option sV → sM → sG → Prop} {M : sM} {G : sG} {a0 : Nat} {x1 : Int} {x3 : Int} {s0 : Int}  (k1 : s0 = 0 → sW (sC d) 220 Q 147 [vO 12 a0, vI x1, vN, vI x3] [] M G 0 0) (k2 : s0 ≠ 0 → sW (sC d) 220 Q 79 [vO 12 a0, vI x1, vN, vI x3] [] M G 0 0) : sW (sC d) 220 Q 76 [vO 12 a0, vI x1, vN, vI x3] [vI s0] M G 0 0 := by
  refine q_ifeq 147 79 rfl (by decide) (show sCode 220 76 = some (.ifCond .eq 71, 3) by decide +kernel) ?_ ?_
  · intro q; exact k1 q
  · intro q; exact k2 q
theorem b220_79 {d : Nat} {Q : Option sV → sM → sG → Prop} {M : sM} {G : sG} {a0 : Nat} {x1 : Int} {x3 : Int}  (kk : sC d 206 [vO 12 a0, vI x3, vI 0] M G (QI (fun r M1 G1 => sW (sC d) 220 Q 86 [vO 12 a0, vI x1, vN, vI x3] (vI r :: [vO 12 a0]) M1 G1 0 0))) : sW (sC d) 220 Q 79 [vO 12 a0, vI x1, vN, vI x3] [] M G 0 0 := by
  refine q_aload_n 80 rfl (show sCode 220 79 = some (.aload_n 0, 1) by decide +kernel) rfl (Nat.le_of_ble_eq_true rfl) ?_
  refine q_aload_n 81 rfl (show sCode 220 80 = some (.aload_n 0, 1) by decide +kernel) rfl (Nat.le_of_ble_eq_true rfl) ?_
  refine q_iload_n 82 rfl (show sCode 220 81 = some (.iload_n 3, 1) by decide +kernel) rfl ?_
  refine q_iconst 83 rfl (show sCode 220 82 = some (.iconst 0, 1) by decide +kernel) ⟨by decide, by decide⟩ ?_
  exact q_virtI [vI x3, vI 0] 86 rfl (show sCode 220 83 = some (.invokevirtual 280, 3) by decide +kernel) (show sMR (sKo 220).1 280 = some 206 by decide +kernel) (show 206 < 1000 ∧ sStat 206 = false ∧ sIni 206 = false ∧ sKo 206 = (12, 2, 1, 0, 0) by decide +kernel) rfl (Or.inl rfl) rfl (Nat.le_of_ble_eq_true rfl) rfl rfl rfl (by decide +kernel) kk
theorem b220_86 {d : Nat} {Q : Option sV → sM → sG → Prop} {M : sM} {G : sG} {a0 : Nat} {x1 : Int} {x3 : Int} {s0 : Int} {sa1 : Nat}  (kk : sC d 204 [vO 12 sa1, vI s0, vI 2] M G (QI (fun r M1 G1 => sW (sC d) 220 Q 90 [vO 12 a0, vI x1, vN, vI x3] (vI r :: []) M1 G1 0 0))) : sW (sC d) 220 Q 86 [vO 12 a0, vI x1, vN, vI x3] [vI s0, vO 12 sa1] M G 0 0 := by
  refine q_iconst 87 rfl (show sCode 220 86 = some (.iconst 2, 1) by decide +kernel) ⟨by decide, by decide⟩ ?_
  exact q_virtI [vI s0, vI 2] 90 rfl (show sCode 220 87 = some (.invokevirtual 284, 3) by decide +kernel) (show sMR (sKo 220).1 284 = some 204 by decide +kernel) (show 204 < 1000 ∧ sStat 204 = false ∧ sIni 204 = false ∧ sKo 204 = (12, 2, 1, 0, 0) by decide +kernel) rfl (Or.inl rfl) rfl (Nat.le_of_ble_eq_true rfl) rfl rfl rfl (by decide +kernel) kk
theorem b220_90 {d : Nat} {Q : Option sV → sM → sG → Prop} {M : sM} {G : sG} {a0 : Nat} {x1 : Int} {x3 : Int} {s0 : Int}  (k1 : s0 ≠ 0 → sW (sC d) 220 Q 96 [vO 12 a0, vI x1, vN, vI x3] [] M G 0 0) (k2 : s0 = 0 → sW (sC d) 220 Q 93 [vO 12 a0, vI x1, vN, vI x3] [] M G 0 0) : sW (sC d) 220 Q 90 [vO 12 a0, vI x1, vN, vI x3] [vI s0] M G 0 0 := by
  refine q_ifne 96 93 rfl (by decide) (show sCode 220 90 = some (.ifCond .ne 6, 3) by decide +kernel) ?_ ?_
  · intro q; exact k1 q
  · intro q; exact k2 q
theorem b220_93 {d : Nat} {Q : Option sV → sM → sG → Prop} {M : sM} {G : sG} {a0 : Nat} {x1 : Int} {x3 : Int}  (kk : sW (sC d) 220 Q 147 [vO 12 a0, vI x1, vN, vI x3] [] M G 0 0) : sW (sC d) 220 Q 93 [vO 12 a0, vI x1, vN, vI x3] [] M G 0 0 := by
  refine q_goto 147 (by decide) (show sCode 220 93 = some (.goto 54, 3) by decide +kernel) ?_
  exact kk
theorem b220_96 {d : Nat} {Q : Option sV → sM → sG → Prop} {M : sM} {G : sG} {a0 : Nat} {x1 : Int} {x3 : Int}  (kk : sC d 206 [vO 12 a0, vI x3, vI 1] M G (QI (fun r M1 G1 => sW (sC d) 220 Q 104 [vO 12 a0, vI x1, vN, vI x3] (vI r :: [vI x3, vO 12 a0]) M1 G1 0 0))) : sW (sC d) 220 Q 96 [vO 12 a0, vI x1, vN, vI x3] [] M G 0 0 := by
  refine q_aload_n 97 rfl (show sCode 220 96 = some (.aload_n 0, 1) by decide +kernel) rfl (Nat.le_of_ble_eq_true rfl) ?_
  refine q_iload_n 98 rfl (show sCode 220 97 = some (.iload_n 3, 1) by decide +kernel) rfl ?_
  refine q_aload_n 99 rfl (show sCode 220 98 = some (.aload_n 0, 1) by decide +kernel) rfl (Nat.le_of_ble_eq_true rfl) ?_
  refine q_iload_n 100 rfl (show sCode 220 99 = some (.iload_n 3, 1) by decide +kernel) rfl ?_
  refine q_iconst 101 rfl (show sCode 220 100 = some (.iconst 1, 1) by decide +kernel) ⟨by decide, by decide⟩ ?_
  exact q_virtI [vI x3, vI 1] 104 rfl (show sCode 220 101 = some (.invokevirtual 280, 3) by decide +kernel) (show sMR (sKo 220).1 280 = some 206 by decide +kernel) (show 206 < 1000 ∧ sStat 206 = false ∧ sIni 206 = false ∧ sKo 206 = (12, 2, 1, 0, 0) by decide +kernel) rfl (Or.inl rfl) rfl (Nat.le_of_ble_eq_true rfl) rfl rfl rfl (by decide +kernel) kk
theorem b220_104 {d : Nat} {Q : Option sV → sM → sG → Prop} {M : sM} {G : sG} {a0 : Nat} {x1 : Int} {x3 : Int} {s0 : Int} {s1 : Int} {sa2 : Nat}  (kk : sC d 223 [vO 12 sa2, vI s1, vI s0] M G (QV (fun M1 G1 => sW (sC d) 220 Q 107 [vO 12 a0, vI x1, vN, vI x3] [] M1 G1 0 0))) : sW (sC d) 220 Q 104 [vO 12 a0, vI x1, vN, vI x3] [vI s0, vI s1, vO 12 sa2] M G 0 0 := by
  exact q_virtV [vI s1, vI s0] 107 rfl (show sCode 220 104 = some (.invokevirtual 315, 3) by decide +kernel) (show sMR (sKo 220).1 315 = some 223 by decide +kernel) (show 223 < 1000 ∧ sStat 223 = false ∧ sIni 223 = false ∧ sKo 223 = (12, 2, 0, 0, 0) by decide +kernel) rfl (Or.inl rfl) rfl (Nat.le_of_ble_eq_true rfl) rfl rfl rfl (by decide +kernel) kk
theorem b220_107 {d : Nat} {Q : Option sV → sM → sG → Prop} {M : sM} {G : sG} {a0 : Nat} {x1 : Int} {x3 : Int}  (kk : sC d 224 [vO 12 a0, vI x1, vI 2, vI 0] M G (QI (fun r M1 G1 => sW (sC d) 220 Q 114 [vO 12 a0, vI x1, vN, vI x3] (vI r :: []) M1 G1 0 0))) : sW (sC d) 220 Q 107 [vO 12 a0, vI x1, vN, vI x3] [] M G 0 0 := by
  refine q_aload_n 108 rfl (show sCode 220 107 = some (.aload_n 0, 1) by decide +kernel) rfl (Nat.le_of_ble_eq_true rfl) ?_
  refine q_iload_n 109 rfl (show sCode 220 108 = some (.iload_n 1, 1) by decide +kernel) rfl ?_
  refine q_iconst 110 rfl (show sCode 220 109 = some (.iconst 2, 1) by decide +kernel) ⟨by decide, by decide⟩ ?_
  refine q_iconst 111 rfl (show sCode 220 110 = some (.iconst 0, 1) by decide +kernel) ⟨by decide, by decide⟩ ?_
  exact q_virtI [vI x1, vI 2, vI 0] 114 rfl (show sCode 220 111 = some (.invokevirtual 318, 3) by decide +kernel) (show sMR (sKo 220).1 318 = some 224 by decide +kernel) (show 224 < 1000 ∧ sStat 224 = false ∧ sIni 224 = false ∧ sKo 224 = (12, 3, 2, 0, 0) by decide +kernel) rfl (Or.inl rfl) rfl (Nat.le_of_ble_eq_true rfl) rfl rfl rfl (by decide +kernel) kk
theorem b220_114 {d : Nat} {Q : Option sV → sM → sG → Prop} {M : sM} {G : sG} {a0 : Nat} {x1 : Int} {x3 : Int} {s0 : Int}  (k1 : s0 ≠ 0 → sW (sC d) 220 Q 120 [vO 12 a0, vI x1, vN, vI x3] [] M G 0 0) (k2 : s0 = 0 → sW (sC d) 220 Q 117 [vO 12 a0, vI x1, vN, vI x3] [] M G 0 0) : sW (sC d) 220 Q 114 [vO 12 a0, vI x1, vN, vI x3] [vI s0] M G 0 0 := by
  refine q_ifne 120 117 rfl (by decide) (show sCode 220 114 = some (.ifCond .ne 6, 3) by decide +kernel) ?_ ?_
  · intro q; exact k1 q
  · intro q; exact k2 q
theorem b220_117 {d : Nat} {Q : Option sV → sM → sG → Prop} {M : sM} {G : sG} {a0 : Nat} {x1 : Int} {x3 : Int}  (kk : sW (sC d) 220 Q 147 [vO 12 a0, vI x1, vN, vI x3] [] M G 0 0) : sW (sC d) 220 Q 117 [vO 12 a0, vI x1, vN, vI x3] [] M G 0 0 := by
  refine q_goto 147 (by decide) (show sCode 220 117 = some (.goto 30, 3) by decide +kernel) ?_
  exact kk
theorem b220_120 {d : Nat} {Q : Option sV → sM → sG → Prop} {M : sM} {G : sG} {a0 : Nat} {x1 : Int} {x3 : Int}  (kk : sC d 206 [vO 12 a0, vI x3, vI 0] M G (QI (fun r M1 G1 => sW (sC d) 220 Q 133 [vO 12 a0, vI x1, vN, vI x3] (vI r :: [vI 3, vI 10, vA 0 (a0 + 11) 274]) M1 G1 0 0))) : sW (sC d) 220 Q 120 [vO 12 a0, vI x1, vN, vI x3] [] M G 0 0 := by
  refine q_aload_n 121 rfl (show sCode 220 120 = some (.aload_n 0, 1) by decide +kernel) rfl (Nat.le_of_ble_eq_true rfl) ?_
  refine q_getR (vA 0 (a0 + 11) 274) 124 rfl (show sCode 220 121 = some (.getfield 42, 3) by decide +kernel) (show sFR (sKo 220).1 42 = some (12, 23) by decide +kernel) (by decide +kernel) (Or.inl (Or.inl rfl)) rfl ?_
  refine q_bipush 126 rfl (show sCode 220 124 = some (.bipush 10, 2) by decide +kernel) ⟨by decide, by decide⟩ (by decide +kernel) ?_
  refine q_iconst 127 rfl (show sCode 220 126 = some (.iconst 3, 1) by decide +kernel) ⟨by decide, by decide⟩ ?_
  refine q_aload_n 128 rfl (show sCode 220 127 = some (.aload_n 0, 1) by decide +kernel) rfl (Nat.le_of_ble_eq_true rfl) ?_
  refine q_iload_n 129 rfl (show sCode 220 128 = some (.iload_n 3, 1) by decide +kernel) rfl ?_
  refine q_iconst 130 rfl (show sCode 220 129 = some (.iconst 0, 1) by decide +kernel) ⟨by decide, by decide⟩ ?_
  exact q_virtI [vI x3, vI 0] 133 rfl (show sCode 220 130 = some (.invokevirtual 280, 3) by decide +kernel) (show sMR (sKo 220).1 280 = some 206 by decide +kernel) (show 206 < 1000 ∧ sStat 206 = false ∧ sIni 206 = false ∧ sKo 206 = (12, 2, 1, 0, 0) by decide +kernel) rfl (Or.inl rfl) rfl (Nat.le_of_ble_eq_true rfl) rfl rfl rfl (by decide +kernel) kk
theorem b220_133 {d : Nat} {Q : Option sV → sM → sG → Prop} {M : sM} {G : sG} {a0 : Nat} {x1 : Int} {x3 : Int} {s0 : Int} {s1 : Int} {s2 : Int} {sa3 : Nat} (h1 : sI (s1 * s0)) (h2 : sI (s2 + (s1 * s0))) (h3 : sI ((s2 + (s1 * s0)) + 2)) (h4 : 0 ≤ (s2 + (s1 * s0)) + 2 ∧ (s2 + (s1 * s0)) + 2 < 274) (h5 : sI ((M sa3 ((s2 + (s1 * s0)) + 2).toNat) - 1)) (h6 : 0 ≤ (s2 + (s1 * s0)) + 2 ∧ (s2 + (s1 * s0)) + 2 < 274) (kk : sC d 201 [vO 12 a0, vI x3] (sUpd M sa3 ((s2 + (s1 * s0)) + 2).toNat ((M sa3 ((s2 + (s1 * s0)) + 2).toNat) - 1)) G (QV (fun M1 G1 => sW (sC d) 220 Q 147 [vO 12 a0, vI x1, vN, vI x3] [] M1 G1 0 0))) : sW (sC d) 220 Q 133 [vO 12 a0, vI x1, vN, vI x3] [vI s0, vI s1, vI s2, vA 0 sa3 274] M G 0 0 := by
  refine q_imul 134 rfl (show sCode 220 133 = some (.imul, 1) by decide +kernel) h1 ?_
  refine q_iadd 135 rfl (show sCode 220 134 = some (.iadd, 1) by decide +kernel) h2 ?_
  refine q_iconst 136 rfl (show sCode 220 135 = some (.iconst 2, 1) by decide +kernel) ⟨by decide, by decide⟩ ?_
  refine q_iadd 137 rfl (show sCode 220 136 = some (.iadd, 1) by decide +kernel) h3 ?_
  refine q_dup2 138 rfl (show sCode 220 137 = some (.dup2, 1) by decide +kernel) rfl rfl ?_
  refine q_iald 139 rfl (show sCode 220 138 = some (.iaload, 1) by decide +kernel) h4 ?_
  refine q_iconst 140 rfl (show sCode 220 139 = some (.iconst 1, 1) by decide +kernel) ⟨by decide, by decide⟩ ?_
  refine q_isub 141 rfl (show sCode 220 140 = some (.isub, 1) by decide +kernel) h5 ?_
  refine q_iast 142 rfl (show sCode 220 141 = some (.iastore, 1) by decide +kernel) h6 ?_
  refine q_aload_n 143 rfl (show sCode 220 142 = some (.aload_n 0, 1) by decide +kernel) rfl (Nat.le_of_ble_eq_true rfl) ?_
  refine q_iload_n 144 rfl (show sCode 220 143 = some (.iload_n 3, 1) by decide +kernel) rfl ?_
  exact q_virtV [vI x3] 147 rfl (show sCode 220 144 = some (.invokevirtual 258, 3) by decide +kernel) (show sMR (sKo 220).1 258 = some 201 by decide +kernel) (show 201 < 1000 ∧ sStat 201 = false ∧ sIni 201 = false ∧ sKo 201 = (12, 1, 0, 0, 0) by decide +kernel) rfl (Or.inl rfl) rfl (Nat.le_of_ble_eq_true rfl) rfl rfl rfl (by decide +kernel) kk
theorem b220_147 {d : Nat} {Q : Option sV → sM → sG → Prop} {M : sM} {G : sG} {a0 : Nat} {x1 : Int} {x3 : Int} (h1 : sI (x3 + 1)) (kk : sW (sC d) 220 Q 65 [vO 12 a0, vI x1, vN, vI (x3 + 1)] [] M G 0 0) : sW (sC d) 220 Q 147 [vO 12 a0, vI x1, vN, vI x3] [] M G 0 0 := by
  refine q_iinc [vO 12 a0, vI x1, vN, vI (x3 + 1)] 150 rfl (show sCode 220 147 = some (.iinc 3 1, 3) by decide +kernel) rfl rfl h1 rfl ?_
  refine q_goto 65 (by decide) (show sCode 220 150 = some (.goto (-85), 3) by decide +kernel) ?_
  exact kk
theorem b220_153 {d : Nat} {Q : Option sV → sM → sG → Prop} {M : sM} {G : sG} {a0 : Nat} {x1 : Int}  (kk : sW (sC d) 220 Q 155 [vO 12 a0, vI x1, vN, vI 0] [] M G 0 0) : sW (sC d) 220 Q 153 [vO 12 a0, vI x1, vN, vN] [] M G 0 0 := by
  refine q_iconst 154 rfl (show sCode 220 153 = some (.iconst 0, 1) by decide +kernel) ⟨by decide, by decide⟩ ?_
  refine q_istore_n [vO 12 a0, vI x1, vN, vI 0] 155 rfl (show sCode 220 154 = some (.istore_n 3, 1) by decide +kernel) (Nat.lt_of_lt_of_le (Nat.lt_succ_self _) (Nat.le_of_ble_eq_true rfl)) rfl rfl ?_
  exact kk
theorem b220_155 {d : Nat} {Q : Option sV → sM → sG → Prop} {M : sM} {G : sG} {a0 : Nat} {x1 : Int} {x3 : Int}  (k1 : 12 ≤ x3 → sW (sC d) 220 Q 182 [vO 12 a0, vN, vN, vN] [] M G 0 0) (k2 : x3 < 12 → sW (sC d) 220 Q 161 [vO 12 a0, vI x1, vN, vI x3] [] M G 0 0) : sW (sC d) 220 Q 155 [vO 12 a0, vI x1, vN, vI x3] [] M G 0 0 := by
  refine q_iload_n 156 rfl (show sCode 220 155 = some (.iload_n 3, 1) by decide +kernel) rfl ?_
  refine q_bipush 158 rfl (show sCode 220 156 = some (.bipush 12, 2) by decide +kernel) ⟨by decide, by decide⟩ (by decide +kernel) ?_
  refine q_icmpge 182 161 rfl (by decide) (show sCode 220 158 = some (.if_icmp .ge 24, 3) by decide +kernel) ?_ ?_
  · intro q; refine q_forget (L' := [vO 12 a0, vN, vN, vI x3]) 1 rfl ?_; refine q_forget (L' := [vO 12 a0, vN, vN, vN]) 3 rfl ?_; exact k1 q
  · intro q; exact k2 q
theorem b220_161 {d : Nat} {Q : Option sV → sM → sG → Prop} {M : sM} {G : sG} {a0 : Nat} {x1 : Int} {x3 : Int}  (kk : sC d 206 [vO 12 a0, vI x3, vI 0] M G (QI (fun r M1 G1 => sW (sC d) 220 Q 167 [vO 12 a0, vI x1, vN, vI x3] (vI r :: []) M1 G1 0 0))) : sW (sC d) 220 Q 161 [vO 12 a0, vI x1, vN, vI x3] [] M G 0 0 := by
  refine q_aload_n 162 rfl (show sCode 220 161 = some (.aload_n 0, 1) by decide +kernel) rfl (Nat.le_of_ble_eq_true rfl) ?_
  refine q_iload_n 163 rfl (show sCode 220 162 = some (.iload_n 3, 1) by decide +kernel) rfl ?_
  refine q_iconst 164 rfl (show sCode 220 163 = some (.iconst 0, 1) by decide +kernel) ⟨by decide, by decide⟩ ?_
  exact q_virtI [vI x3, vI 0] 167 rfl (show sCode 220 164 = some (.invokevirtual 280, 3) by decide +kernel) (show sMR (sKo 220).1 280 = some 206 by decide +kernel) (show 206 < 1000 ∧ sStat 206 = false ∧ sIni 206 = false ∧ sKo 206 = (12, 2, 1, 0, 0) by decide +kernel) rfl (Or.inl rfl) rfl (Nat.le_of_ble_eq_true rfl) rfl rfl rfl (by decide +kernel) kk
theorem b220_167 {d : Nat} {Q : Option sV → sM → sG → Prop} {M : sM} {G : sG} {a0 : Nat} {x1 : Int} {x3 : Int} {s0 : Int}  (k1 : 0 ≤ s0 → sW (sC d) 220 Q 176 [vO 12 a0, vI x1, vN, vI x3] [] M G 0 0) (k2 : s0 < 0 → sW (sC d) 220 Q 170 [vO 12 a0, vI x1, vN, vI x3] [] M G 0 0) : sW (sC d) 220 Q 167 [vO 12 a0, vI x1, vN, vI x3] [vI s0] M G 0 0 := by
  refine q_ifge 176 170 rfl (by decide) (show sCode 220 167 = some (.ifCond .ge 9, 3) by decide +kernel) ?_ ?_
  · intro q; exact k1 q
  · intro q; exact k2 q
theorem b220_170 {d : Nat} {Q : Option sV → sM → sG → Prop} {M : sM} {G : sG} {a0 : Nat} {x1 : Int} {x3 : Int}  (kk : sC d 229 [vO 12 a0, vI x1, vI x3] M G (QV (fun M1 G1 => sW (sC d) 220 Q 176 [vO 12 a0, vI x1, vN, vI x3] [] M1 G1 0 0))) : sW (sC d) 220 Q 170 [vO 12 a0, vI x1, vN, vI x3] [] M G 0 0 := by
  refine q_aload_n 171 rfl (show sCode 220 170 = some (.aload_n 0, 1) by decide +kernel) rfl (Nat.le_of_ble_eq_true rfl) ?_
  refine q_iload_n 172 rfl (show sCode 220 171 = some (.iload_n 1, 1) by decide +kernel) rfl ?_
  refine q_iload_n 173 rfl (show sCode 220 172 = some (.iload_n 3, 1) by decide +kernel) rfl ?_
  exact q_virtV [vI x1, vI x3] 176 rfl (show sCode 220 173 = some (.invokevirtual 331, 3) by decide +kernel) (show sMR (sKo 220).1 331 = some 229 by decide +kernel) (show 229 < 1000 ∧ sStat 229 = false ∧ sIni 229 = false ∧ sKo 229 = (12, 2, 0, 0, 0) by decide +kernel) rfl (Or.inl rfl) rfl (Nat.le_of_ble_eq_true rfl) rfl rfl rfl (by decide +kernel) kk
theorem b220_176 {d : Nat} {Q : Option sV → sM → sG → Prop} {M : sM} {G : sG} {a0 : Nat} {x1 : Int} {x3 : Int} (h1 : sI (x3 + 1)) (kk : sW (sC d) 220 Q 155 [vO 12 a0, vI x1, vN, vI (x3 + 1)] [] M G 0 0) : sW (sC d) 220 Q 176 [vO 12 a0, vI x1, vN, vI x3] [] M G 0 0 := by
  refine q_iinc [vO 12 a0, vI x1, vN, vI (x3 + 1)] 179 rfl (show sCode 220 176 = some (.iinc 3 1, 3) by decide +kernel) rfl rfl h1 rfl ?_
  refine q_goto 155 (by decide) (show sCode 220 179 = some (.goto (-24), 3) by decide +kernel) ?_
  exact kk
theorem b220_182 {d : Nat} {Q : Option sV → sM → sG → Prop} {M : sM} {G : sG} {a0 : Nat}  (kk : sW (sC d) 220 Q 184 [vO 12 a0, vN, vN, vI 0] [] M G 0 0) : sW (sC d) 220 Q 182 [vO 12 a0, vN, vN, vN] [] M G 0 0 := by
  refine q_iconst 183 rfl (show sCode 220 182 = some (.iconst 0, 1) by decide +kernel) ⟨by decide, by decide⟩ ?_
  refine q_istore_n [vO 12 a0, vN, vN, vI 0] 184 rfl (show sCode 220 183 = some (.istore_n 3, 1) by decide +kernel) (Nat.lt_of_lt_of_le (Nat.lt_succ_self _) (Nat.le_of_ble_eq_true rfl)) rfl rfl ?_
  exact kk
theorem b220_184 {d : Nat} {Q : Option sV → sM → sG → Prop} {M : sM} {G : sG} {a0 : Nat} {x3 : Int}  (k1 : 12 ≤ x3 → sW (sC d) 220 Q 218 [vO 12 a0, vN, vN, vN] [] M G 0 0) (k2 : x3 < 12 → sW (sC d) 220 Q 190 [vO 12 a0, vN, vN, vI x3] [] M G 0 0) : sW (sC d) 220 Q 184 [vO 12 a0, vN, vN, vI x3] [] M G 0 0 := by
  refine q_iload_n 185 rfl (show sCode 220 184 = some (.iload_n 3, 1) by decide +kernel) rfl ?_
  refine q_bipush 187 rfl (show sCode 220 185 = some (.bipush 12, 2) by decide +kernel) ⟨by decide, by decide⟩ (by decide +kernel) ?_
  refine q_icmpge 218 190 rfl (by decide) (show sCode 220 187 = some (.if_icmp .ge 31, 3) by decide +kernel) ?_ ?_
  · intro q; refine q_forget (L' := [vO 12 a0, vN, vN, vN]) 3 rfl ?_; exact k1 q
  · intro q; exact k2 q
theorem b220_190 {d : Nat} {Q : Option sV → sM → sG → Prop} {M : sM} {G : sG} {a0 : Nat} {x3 : Int}  (kk : sC d 221 [vO 12 a0, vI x3] M G (QI (fun r M1 G1 => sW (sC d) 220 Q 202 [vO 12 a0, vN, vN, vI x3] (vI r :: [vI (M (a0 + 11) 3), vI 3, vA 0 (a0 + 11) 274]) M1 G1 0 0))) : sW (sC d) 220 Q 190 [vO 12 a0, vN, vN, vI x3] [] M G 0 0 := by
  refine q_aload_n 191 rfl (show sCode 220 190 = some (.aload_n 0, 1) by decide +kernel) rfl (Nat.le_of_ble_eq_true rfl) ?_
  refine q_getR (vA 0 (a0 + 11) 274) 194 rfl (show sCode 220 191 = some (.getfield 42, 3) by decide +kernel) (show sFR (sKo 220).1 42 = some (12, 23) by decide +kernel) (by decide +kernel) (Or.inl (Or.inl rfl)) rfl ?_
  refine q_iconst 195 rfl (show sCode 220 194 = some (.iconst 3, 1) by decide +kernel) ⟨by decide, by decide⟩ ?_
  refine q_dup2 196 rfl (show sCode 220 195 = some (.dup2, 1) by decide +kernel) rfl rfl ?_
  refine q_iald 197 rfl (show sCode 220 196 = some (.iaload, 1) by decide +kernel) ⟨by decide, by decide⟩ ?_
  refine q_aload_n 198 rfl (show sCode 220 197 = some (.aload_n 0, 1) by decide +kernel) rfl (Nat.le_of_ble_eq_true rfl) ?_
  refine q_iload_n 199 rfl (show sCode 220 198 = some (.iload_n 3, 1) by decide +kernel) rfl ?_
  exact q_virtI [vI x3] 202 rfl (show sCode 220 199 = some (.invokevirtual 325, 3) by decide +kernel) (show sMR (sKo 220).1 325 = some 221 by decide +kernel) (show 221 < 1000 ∧ sStat 221 = false ∧ sIni 221 = false ∧ sKo 221 = (12, 1, 2, 0, 0) by decide +kernel) rfl (Or.inl rfl) rfl (Nat.le_of_ble_eq_true rfl) rfl rfl rfl (by decide +kernel) kk
theorem b220_202 {d : Nat} {Q : Option sV → sM → sG → Prop} {M : sM} {G : sG} {a0 : Nat} {x3 : Int} {s0 : Int} {s1 : Int} {s2 : Int} {sa3 : Nat}  (k1 : s0 = 0 → sW (sC d) 220 Q 209 [vO 12 a0, vN, vN, vI x3] [vI s1, vI s2, vA 0 sa3 274] M G 0 0) (k2 : s0 ≠ 0 → sW (sC d) 220 Q 205 [vO 12 a0, vN, vN, vI x3] [vI s1, vI s2, vA 0 sa3 274] M G 0 0) : sW (sC d) 220 Q 202 [vO 12 a0, vN, vN, vI x3] [vI s0, vI s1, vI s2, vA 0 sa3 274] M G 0 0 := by
  refine q_ifeq 209 205 rfl (by decide) (show sCode 220 202 = some (.ifCond .eq 7, 3) by decide +kernel) ?_ ?_
  · intro q; exact k1 q
  · intro q; exact k2 q
theorem b220_205 {d : Nat} {Q : Option sV → sM → sG → Prop} {M : sM} {G : sG} {a0 : Nat} {x3 : Int} {s0 : Int} {s1 : Int} {sa2 : Nat}  (kk : sW (sC d) 220 Q 210 [vO 12 a0, vN, vN, vI x3] [vI 1, vI s0, vI s1, vA 0 sa2 274] M G 0 0) : sW (sC d) 220 Q 205 [vO 12 a0, vN, vN, vI x3] [vI s0, vI s1, vA 0 sa2 274] M G 0 0 := by
  refine q_iconst 206 rfl (show sCode 220 205 = some (.iconst 1, 1) by decide +kernel) ⟨by decide, by decide⟩ ?_
  refine q_goto 210 (by decide) (show sCode 220 206 = some (.goto 4, 3) by decide +kernel) ?_
  exact kk
theorem b220_209 {d : Nat} {Q : Option sV → sM → sG → Prop} {M : sM} {G : sG} {a0 : Nat} {x3 : Int} {s0 : Int} {s1 : Int} {sa2 : Nat}  (kk : sW (sC d) 220 Q 210 [vO 12 a0, vN, vN, vI x3] [vI 0, vI s0, vI s1, vA 0 sa2 274] M G 0 0) : sW (sC d) 220 Q 209 [vO 12 a0, vN, vN, vI x3] [vI s0, vI s1, vA 0 sa2 274] M G 0 0 := by
  refine q_iconst 210 rfl (show sCode 220 209 = some (.iconst 0, 1) by decide +kernel) ⟨by decide, by decide⟩ ?_
  exact kk
theorem b220_210 {d : Nat} {Q : Option sV → sM → sG → Prop} {M : sM} {G : sG} {a0 : Nat} {x3 : Int} {s0 : Int} {s1 : Int} {s2 : Int} {sa3 : Nat} (h1 : sI (s1 + s0)) (h2 : 0 ≤ s2 ∧ s2 < 274) (h3 : sI (x3 + 1)) (kk : sW (sC d) 220 Q 184 [vO 12 a0, vN, vN, vI (x3 + 1)] [] (sUpd M sa3 s2.toNat (s1 + s0)) G 0 0) : sW (sC d) 220 Q 210 [vO 12 a0, vN, vN, vI x3] [vI s0, vI s1, vI s2, vA 0 sa3 274] M G 0 0 := by
  refine q_iadd 211 rfl (show sCode 220 210 = some (.iadd, 1) by decide +kernel) h1 ?_
  refine q_iast 212 rfl (show sCode 220 211 = some (.iastore, 1) by decide +kernel) h2 ?_
  refine q_iinc [vO 12 a0, vN, vN, vI (x3 + 1)] 215 rfl (show sCode 220 212 = some (.iinc 3 1, 3) by decide +kernel) rfl rfl h3 rfl ?_
  refine q_goto 184 (by decide) (show sCode 220 215 = some (.goto (-31), 3) by decide +kernel) ?_
  exact kk
theorem b220_218 {d : Nat} {P : sM → sG → Prop} {M : sM} {G : sG} {a0 : Nat} (h1 : sI ((M (a0 + 11) 2) + 1)) (kk : P (sUpd M (a0 + 11) 2 ((M (a0 + 11) 2) + 1)) G) : sW (sC d) 220 (QV P) 218 [vO 12 a0, vN, vN, vN] [] M G 0 0 := by
  refine q_aload_n 219 rfl (show sCode 220 218 = some (.aload_n 0, 1) by decide +kernel) rfl (Nat.le_of_ble_eq_true rfl) ?_
  refine q_getR (vA 0 (a0 + 11) 274) 222 rfl (show sCode 220 219 = some (.getfield 42, 3) by decide +kernel) (show sFR (sKo 220).1 42 = some (12, 23) by decide +kernel) (by decide +kernel) (Or.inl (Or.inl rfl)) rfl ?_
  refine q_iconst 223 rfl (show sCode 220 222 = some (.iconst 2, 1) by decide +kernel) ⟨by decide, by decide⟩ ?_
  refine q_dup2 224 rfl (show sCode 220 223 = some (.dup2, 1) by decide +kernel) rfl rfl ?_
  refine q_iald 225 rfl (show sCode 220 224 = some (.iaload, 1) by decide +kernel) ⟨by decide, by decide⟩ ?_
  refine q_iconst 226 rfl (show sCode 220 225 = some (.iconst 1, 1) by decide +kernel) ⟨by decide, by decide⟩ ?_
  refine q_iadd 227 rfl (show sCode 220 226 = some (.iadd, 1) by decide +kernel) h1 ?_
  refine q_iast 228 rfl (show sCode 220 227 = some (.iastore, 1) by decide +kernel) ⟨by decide, by decide⟩ ?_
  exact q_vret (show sCode 220 228 = some (.return_, 1) by decide +kernel) (by decide +kernel) (by decide +kernel) kk
-- 221 AfterTheLastModel.isDue (I)Z
theorem b221_0 {d : Nat} {Q : Option sV → sM → sG → Prop} {M : sM} {G : sG} {a0 : Nat} {x1 : Int}  (kk : sC d 206 [vO 12 a0, vI x1, vI 0] M G (QI (fun r M1 G1 => sW (sC d) 221 Q 6 [vO 12 a0, vI x1] (vI r :: []) M1 G1 0 0))) : sW (sC d) 221 Q 0 [vO 12 a0, vI x1] [] M G 0 0 := by
  refine q_aload_n 1 rfl (show sCode 221 0 = some (.aload_n 0, 1) by decide +kernel) rfl (Nat.le_of_ble_eq_true rfl) ?_
  refine q_iload_n 2 rfl (show sCode 221 1 = some (.iload_n 1, 1) by decide +kernel) rfl ?_
  refine q_iconst 3 rfl (show sCode 221 2 = some (.iconst 0, 1) by decide +kernel) ⟨by decide, by decide⟩ ?_
  exact q_virtI [vI x1, vI 0] 6 rfl (show sCode 221 3 = some (.invokevirtual 280, 3) by decide +kernel) (show sMR (sKo 221).1 280 = some 206 by decide +kernel) (show 206 < 1000 ∧ sStat 206 = false ∧ sIni 206 = false ∧ sKo 206 = (12, 2, 1, 0, 0) by decide +kernel) rfl (Or.inl rfl) rfl (Nat.le_of_ble_eq_true rfl) rfl rfl rfl (by decide +kernel) kk
theorem b221_6 {d : Nat} {Q : Option sV → sM → sG → Prop} {M : sM} {G : sG} {a0 : Nat} {x1 : Int} {s0 : Int}  (k1 : s0 < 0 → sW (sC d) 221 Q 42 [vN, vN] [] M G 0 0) (k2 : 0 ≤ s0 → sW (sC d) 221 Q 9 [vO 12 a0, vI x1] [] M G 0 0) : sW (sC d) 221 Q 6 [vO 12 a0, vI x1] [vI s0] M G 0 0 := by
  refine q_iflt 42 9 rfl (by decide) (show sCode 221 6 = some (.ifCond .lt 36, 3) by decide +kernel) ?_ ?_
  · intro q; refine q_forget (L' := [vN, vI x1]) 0 rfl ?_; refine q_forget (L' := [vN, vN]) 1 rfl ?_; exact k1 q
  · intro q; exact k2 q
theorem b221_9 {d : Nat} {Q : Option sV → sM → sG → Prop} {M : sM} {G : sG} {a0 : Nat} {x1 : Int}  (kk : sC d 206 [vO 12 a0, vI x1, vI 1] M G (QI (fun r M1 G1 => sW (sC d) 221 Q 15 [vO 12 a0, vI x1] (vI r :: []) M1 G1 0 0))) : sW (sC d) 221 Q 9 [vO 12 a0, vI x1] [] M G 0 0 := by
  refine q_aload_n 10 rfl (show sCode 221 9 = some (.aload_n 0, 1) by decide +kernel) rfl (Nat.le_of_ble_eq_true rfl) ?_
  refine q_iload_n 11 rfl (show sCode 221 10 = some (.iload_n 1, 1) by decide +kernel) rfl ?_
  refine q_iconst 12 rfl (show sCode 221 11 = some (.iconst 1, 1) by decide +kernel) ⟨by decide, by decide⟩ ?_
  exact q_virtI [vI x1, vI 1] 15 rfl (show sCode 221 12 = some (.invokevirtual 280, 3) by decide +kernel) (show sMR (sKo 221).1 280 = some 206 by decide +kernel) (show 206 < 1000 ∧ sStat 206 = false ∧ sIni 206 = false ∧ sKo 206 = (12, 2, 1, 0, 0) by decide +kernel) rfl (Or.inl rfl) rfl (Nat.le_of_ble_eq_true rfl) rfl rfl rfl (by decide +kernel) kk
theorem b221_15 {d : Nat} {Q : Option sV → sM → sG → Prop} {M : sM} {G : sG} {a0 : Nat} {x1 : Int} {s0 : Int}  (k1 : s0 < 0 → sW (sC d) 221 Q 42 [vN, vN] [] M G 0 0) (k2 : 0 ≤ s0 → sW (sC d) 221 Q 18 [vO 12 a0, vI x1] [] M G 0 0) : sW (sC d) 221 Q 15 [vO 12 a0, vI x1] [vI s0] M G 0 0 := by
  refine q_iflt 42 18 rfl (by decide) (show sCode 221 15 = some (.ifCond .lt 27, 3) by decide +kernel) ?_ ?_
  · intro q; refine q_forget (L' := [vN, vI x1]) 0 rfl ?_; refine q_forget (L' := [vN, vN]) 1 rfl ?_; exact k1 q
  · intro q; exact k2 q
theorem b221_18 {d : Nat} {Q : Option sV → sM → sG → Prop} {M : sM} {G : sG} {a0 : Nat} {x1 : Int}  (kk : sC d 206 [vO 12 a0, vI x1, vI 1] M G (QI (fun r M1 G1 => sW (sC d) 221 Q 25 [vO 12 a0, vN] (vI r :: [vO 12 a0]) M1 G1 0 0))) : sW (sC d) 221 Q 18 [vO 12 a0, vI x1] [] M G 0 0 := by
  refine q_aload_n 19 rfl (show sCode 221 18 = some (.aload_n 0, 1) by decide +kernel) rfl (Nat.le_of_ble_eq_true rfl) ?_
  refine q_aload_n 20 rfl (show sCode 221 19 = some (.aload_n 0, 1) by decide +kernel) rfl (Nat.le_of_ble_eq_true rfl) ?_
  refine q_iload_n 21 rfl (show sCode 221 20 = some (.iload_n 1, 1) by decide +kernel) rfl ?_
  refine q_iconst 22 rfl (show sCode 221 21 = some (.iconst 1, 1) by decide +kernel) ⟨by decide, by decide⟩ ?_
  refine q_forget (L' := [vO 12 a0, vN]) 1 rfl ?_
  exact q_virtI [vI x1, vI 1] 25 rfl (show sCode 221 22 = some (.invokevirtual 280, 3) by decide +kernel) (show sMR (sKo 221).1 280 = some 206 by decide +kernel) (show 206 < 1000 ∧ sStat 206 = false ∧ sIni 206 = false ∧ sKo 206 = (12, 2, 1, 0, 0) by decide +kernel) rfl (Or.inl rfl) rfl (Nat.le_of_ble_eq_true rfl) rfl rfl rfl (by decide +kernel) kk
theorem b221_25 {d : Nat} {Q : Option sV → sM → sG → Prop} {M : sM} {G : sG} {a0 : Nat} {s0 : Int} {sa1 : Nat}  (kk : sC d 209 [vO 12 sa1, vI s0, vI 3] M G (QI (fun r M1 G1 => sW (sC d) 221 Q 29 [vO 12 a0, vN] (vI r :: []) M1 G1 0 0))) : sW (sC d) 221 Q 25 [vO 12 a0, vN] [vI s0, vO 12 sa1] M G 0 0 := by
  refine q_iconst 26 rfl (show sCode 221 25 = some (.iconst 3, 1) by decide +kernel) ⟨by decide, by decide⟩ ?_
  exact q_virtI [vI s0, vI 3] 29 rfl (show sCode 221 26 = some (.invokevirtual 302, 3) by decide +kernel) (show sMR (sKo 221).1 302 = some 209 by decide +kernel) (show 209 < 1000 ∧ sStat 209 = false ∧ sIni 209 = false ∧ sKo 209 = (12, 2, 1, 0, 0) by decide +kernel) rfl (Or.inl rfl) rfl (Nat.le_of_ble_eq_true rfl) rfl rfl rfl (by decide +kernel) kk
theorem b221_29 {d : Nat} {Q : Option sV → sM → sG → Prop} {M : sM} {G : sG} {a0 : Nat} {s0 : Int}  (k1 : M (a0 + 11) 2 < s0 → sW (sC d) 221 Q 42 [vN, vN] [] M G 0 0) (k2 : s0 ≤ M (a0 + 11) 2 → sW (sC d) 221 Q 38 [vN, vN] [] M G 0 0) : sW (sC d) 221 Q 29 [vO 12 a0, vN] [vI s0] M G 0 0 := by
  refine q_aload_n 30 rfl (show sCode 221 29 = some (.aload_n 0, 1) by decide +kernel) rfl (Nat.le_of_ble_eq_true rfl) ?_
  refine q_getR (vA 0 (a0 + 11) 274) 33 rfl (show sCode 221 30 = some (.getfield 42, 3) by decide +kernel) (show sFR (sKo 221).1 42 = some (12, 23) by decide +kernel) (by decide +kernel) (Or.inl (Or.inl rfl)) rfl ?_
  refine q_iconst 34 rfl (show sCode 221 33 = some (.iconst 2, 1) by decide +kernel) ⟨by decide, by decide⟩ ?_
  refine q_iald 35 rfl (show sCode 221 34 = some (.iaload, 1) by decide +kernel) ⟨by decide, by decide⟩ ?_
  refine q_icmpgt 42 38 rfl (by decide) (show sCode 221 35 = some (.if_icmp .gt 7, 3) by decide +kernel) ?_ ?_
  · intro q; refine q_forget (L' := [vN, vN]) 0 rfl ?_; exact k1 q
  · intro q; refine q_forget (L' := [vN, vN]) 0 rfl ?_; exact k2 q
theorem b221_38 {d : Nat} {Q : Option sV → sM → sG → Prop} {M : sM} {G : sG}   (kk : sW (sC d) 221 Q 43 [vN, vN] [vI 1] M G 0 0) : sW (sC d) 221 Q 38 [vN, vN] [] M G 0 0 := by
  refine q_iconst 39 rfl (show sCode 221 38 = some (.iconst 1, 1) by decide +kernel) ⟨by decide, by decide⟩ ?_
  refine q_goto 43 (by decide) (show sCode 221 39 = some (.goto 4, 3) by decide +kernel) ?_
  exact kk
theorem b221_42 {d : Nat} {Q : Option sV → sM → sG → Prop} {M : sM} {G : sG}   (kk : sW (sC d) 221 Q 43 [vN, vN] [vI 0] M G 0 0) : sW (sC d) 221 Q 42 [vN, vN] [] M G 0 0 := by
  refine q_iconst 43 rfl (show sCode 221 42 = some (.iconst 0, 1) by decide +kernel) ⟨by decide, by decide⟩ ?_
  exact kk
theorem b221_43 {d : Nat} {P : Int → sM → sG → Prop} {M : sM} {G : sG} {s0 : Int}  (h01 : s0 = 0 ∨ s0 = 1) (kk : P s0 M G) : sW (sC d) 221 (QI P) 43 [vN, vN] [vI s0] M G 0 0 := by
  exact q_zret (show sCode 221 43 = some (.ireturn, 1) by decide +kernel) (by decide +kernel) h01 (by decide +kernel) kk
-- 222 AfterTheLastModel.isHeldBack (II)Z
theorem b222_0 {d : Nat} {Q : Option sV → sM → sG → Prop} {M : sM} {G : sG} {a0 : Nat} {x1 : Int} {x2 : Int}  (kk : sC d 206 [vO 12 a0, vI x2, vI 1] M G (QI (fun r M1 G1 => sW (sC d) 222 Q 8 [vO 12 a0, vI x1, vN] (vI r :: [vI x2, vO 12 a0]) M1 G1 0 0))) : sW (sC d) 222 Q 0 [vO 12 a0, vI x1, vI x2] [] M G 0 0 := by
  refine q_aload_n 1 rfl (show sCode 222 0 = some (.aload_n 0, 1) by decide +kernel) rfl (Nat.le_of_ble_eq_true rfl) ?_
  refine q_iload_n 2 rfl (show sCode 222 1 = some (.iload_n 2, 1) by decide +kernel) rfl ?_
  refine q_aload_n 3 rfl (show sCode 222 2 = some (.aload_n 0, 1) by decide +kernel) rfl (Nat.le_of_ble_eq_true rfl) ?_
  refine q_iload_n 4 rfl (show sCode 222 3 = some (.iload_n 2, 1) by decide +kernel) rfl ?_
  refine q_iconst 5 rfl (show sCode 222 4 = some (.iconst 1, 1) by decide +kernel) ⟨by decide, by decide⟩ ?_
  refine q_forget (L' := [vO 12 a0, vI x1, vN]) 2 rfl ?_
  exact q_virtI [vI x2, vI 1] 8 rfl (show sCode 222 5 = some (.invokevirtual 280, 3) by decide +kernel) (show sMR (sKo 222).1 280 = some 206 by decide +kernel) (show 206 < 1000 ∧ sStat 206 = false ∧ sIni 206 = false ∧ sKo 206 = (12, 2, 1, 0, 0) by decide +kernel) rfl (Or.inl rfl) rfl (Nat.le_of_ble_eq_true rfl) rfl rfl rfl (by decide +kernel) kk
theorem b222_8 {d : Nat} {Q : Option sV → sM → sG → Prop} {M : sM} {G : sG} {a0 : Nat} {x1 : Int} {s0 : Int} {s1 : Int} {sa2 : Nat}  (kk : sC d 223 [vO 12 sa2, vI s1, vI s0] M G (QV (fun M1 G1 => sW (sC d) 222 Q 11 [vO 12 a0, vI x1, vN] [] M1 G1 0 0))) : sW (sC d) 222 Q 8 [vO 12 a0, vI x1, vN] [vI s0, vI s1, vO 12 sa2] M G 0 0 := by
  exact q_virtV [vI s1, vI s0] 11 rfl (show sCode 222 8 = some (.invokevirtual 315, 3) by decide +kernel) (show sMR (sKo 222).1 315 = some 223 by decide +kernel) (show 223 < 1000 ∧ sStat 223 = false ∧ sIni 223 = false ∧ sKo 223 = (12, 2, 0, 0, 0) by decide +kernel) rfl (Or.inl rfl) rfl (Nat.le_of_ble_eq_true rfl) rfl rfl rfl (by decide +kernel) kk
theorem b222_11 {d : Nat} {Q : Option sV → sM → sG → Prop} {M : sM} {G : sG} {a0 : Nat} {x1 : Int}  (kk : sC d 224 [vO 12 a0, vI x1, vI 1, vI 0] M G (QI (fun r M1 G1 => sW (sC d) 222 Q 18 [vN, vN, vN] (vI r :: []) M1 G1 0 0))) : sW (sC d) 222 Q 11 [vO 12 a0, vI x1, vN] [] M G 0 0 := by
  refine q_aload_n 12 rfl (show sCode 222 11 = some (.aload_n 0, 1) by decide +kernel) rfl (Nat.le_of_ble_eq_true rfl) ?_
  refine q_iload_n 13 rfl (show sCode 222 12 = some (.iload_n 1, 1) by decide +kernel) rfl ?_
  refine q_iconst 14 rfl (show sCode 222 13 = some (.iconst 1, 1) by decide +kernel) ⟨by decide, by decide⟩ ?_
  refine q_iconst 15 rfl (show sCode 222 14 = some (.iconst 0, 1) by decide +kernel) ⟨by decide, by decide⟩ ?_
  refine q_forget (L' := [vN, vI x1, vN]) 0 rfl ?_
  refine q_forget (L' := [vN, vN, vN]) 1 rfl ?_
  exact q_virtI [vI x1, vI 1, vI 0] 18 rfl (show sCode 222 15 = some (.invokevirtual 318, 3) by decide +kernel) (show sMR (sKo 222).1 318 = some 224 by decide +kernel) (show 224 < 1000 ∧ sStat 224 = false ∧ sIni 224 = false ∧ sKo 224 = (12, 3, 2, 0, 0) by decide +kernel) rfl (Or.inl rfl) rfl (Nat.le_of_ble_eq_true rfl) rfl rfl rfl (by decide +kernel) kk
theorem b222_18 {d : Nat} {P : Int → sM → sG → Prop} {M : sM} {G : sG} {s0 : Int}  (h01 : s0 = 0 ∨ s0 = 1) (kk : P s0 M G) : sW (sC d) 222 (QI P) 18 [vN, vN, vN] [vI s0] M G 0 0 := by
  exact q_zret (show sCode 222 18 = some (.ireturn, 1) by decide +kernel) (by decide +kernel) h01 (by decide +kernel) kk
-- 223 AfterTheLastModel.words (II)V
theorem b223_0 {d : Nat} {Q : Option sV → sM → sG → Prop} {M : sM} {G : sG} {a0 : Nat} {x1 : Int} {x2 : Int}  (kk : sC d 209 [vO 12 a0, vI x2, vI 1] M G (QI (fun r M1 G1 => sW (sC d) 223 Q 6 [vO 12 a0, vI x1, vI x2, vN, vN] (vI r :: []) M1 G1 0 0))) : sW (sC d) 223 Q 0 [vO 12 a0, vI x1, vI x2, vN, vN] [] M G 0 0 := by
  refine q_aload_n 1 rfl (show sCode 223 0 = some (.aload_n 0, 1) by decide +kernel) rfl (Nat.le_of_ble_eq_true rfl) ?_
  refine q_iload_n 2 rfl (show sCode 223 1 = some (.iload_n 2, 1) by decide +kernel) rfl ?_
  refine q_iconst 3 rfl (show sCode 223 2 = some (.iconst 1, 1) by decide +kernel) ⟨by decide, by decide⟩ ?_
  exact q_virtI [vI x2, vI 1] 6 rfl (show sCode 223 3 = some (.invokevirtual 302, 3) by decide +kernel) (show sMR (sKo 223).1 302 = some 209 by decide +kernel) (show 209 < 1000 ∧ sStat 209 = false ∧ sIni 209 = false ∧ sKo 209 = (12, 2, 1, 0, 0) by decide +kernel) rfl (Or.inl rfl) rfl (Nat.le_of_ble_eq_true rfl) rfl rfl rfl (by decide +kernel) kk
theorem b223_6 {d : Nat} {Q : Option sV → sM → sG → Prop} {M : sM} {G : sG} {a0 : Nat} {x1 : Int} {x2 : Int} {s0 : Int}  (kk : sC d 206 [vO 12 a0, vI x1, vI 0] M G (QI (fun r M1 G1 => sW (sC d) 223 Q 13 [vO 12 a0, vI x1, vI x2, vI s0, vN] (vI r :: []) M1 G1 0 0))) : sW (sC d) 223 Q 6 [vO 12 a0, vI x1, vI x2, vN, vN] [vI s0] M G 0 0 := by
  refine q_istore_n [vO 12 a0, vI x1, vI x2, vI s0, vN] 7 rfl (show sCode 223 6 = some (.istore_n 3, 1) by decide +kernel) (Nat.lt_of_lt_of_le (Nat.lt_succ_self _) (Nat.le_of_ble_eq_true rfl)) rfl rfl ?_
  refine q_aload_n 8 rfl (show sCode 223 7 = some (.aload_n 0, 1) by decide +kernel) rfl (Nat.le_of_ble_eq_true rfl) ?_
  refine q_iload_n 9 rfl (show sCode 223 8 = some (.iload_n 1, 1) by decide +kernel) rfl ?_
  refine q_iconst 10 rfl (show sCode 223 9 = some (.iconst 0, 1) by decide +kernel) ⟨by decide, by decide⟩ ?_
  exact q_virtI [vI x1, vI 0] 13 rfl (show sCode 223 10 = some (.invokevirtual 280, 3) by decide +kernel) (show sMR (sKo 223).1 280 = some 206 by decide +kernel) (show 206 < 1000 ∧ sStat 206 = false ∧ sIni 206 = false ∧ sKo 206 = (12, 2, 1, 0, 0) by decide +kernel) rfl (Or.inl rfl) rfl (Nat.le_of_ble_eq_true rfl) rfl rfl rfl (by decide +kernel) kk
theorem b223_13 {d : Nat} {Q : Option sV → sM → sG → Prop} {M : sM} {G : sG} {a0 : Nat} {x1 : Int} {x2 : Int} {x3 : Int} {s0 : Int}  (k1 : s0 ≠ x3 → sW (sC d) 223 Q 21 [vO 12 a0, vI x1, vI x2, vI x3, vN] [] M G 0 0) (k2 : s0 = x3 → sW (sC d) 223 Q 17 [vO 12 a0, vI x1, vI x2, vI x3, vN] [] M G 0 0) : sW (sC d) 223 Q 13 [vO 12 a0, vI x1, vI x2, vI x3, vN] [vI s0] M G 0 0 := by
  refine q_iload_n 14 rfl (show sCode 223 13 = some (.iload_n 3, 1) by decide +kernel) rfl ?_
  refine q_icmpne 21 17 rfl (by decide) (show sCode 223 14 = some (.if_icmp .ne 7, 3) by decide +kernel) ?_ ?_
  · intro q; exact k1 q
  · intro q; exact k2 q
theorem b223_17 {d : Nat} {Q : Option sV → sM → sG → Prop} {M : sM} {G : sG} {a0 : Nat} {x1 : Int} {x2 : Int} {x3 : Int}  (kk : sW (sC d) 223 Q 22 [vO 12 a0, vI x1, vI x2, vI x3, vN] [vI 1] M G 0 0) : sW (sC d) 223 Q 17 [vO 12 a0, vI x1, vI x2, vI x3, vN] [] M G 0 0 := by
  refine q_iconst 18 rfl (show sCode 223 17 = some (.iconst 1, 1) by decide +kernel) ⟨by decide, by decide⟩ ?_
  refine q_goto 22 (by decide) (show sCode 223 18 = some (.goto 4, 3) by decide +kernel) ?_
  exact kk
theorem b223_21 {d : Nat} {Q : Option sV → sM → sG → Prop} {M : sM} {G : sG} {a0 : Nat} {x1 : Int} {x2 : Int} {x3 : Int}  (kk : sW (sC d) 223 Q 22 [vO 12 a0, vI x1, vI x2, vI x3, vN] [vI 0] M G 0 0) : sW (sC d) 223 Q 21 [vO 12 a0, vI x1, vI x2, vI x3, vN] [] M G 0 0 := by
  refine q_iconst 22 rfl (show sCode 223 21 = some (.iconst 0, 1) by decide +kernel) ⟨by decide, by decide⟩ ?_
  exact kk
theorem b223_22 {d : Nat} {Q : Option sV → sM → sG → Prop} {M : sM} {G : sG} {a0 : Nat} {x1 : Int} {x2 : Int} {x3 : Int} {s0 : Int}  (kk : sC d 205 [vO 12 a0, vI x3] (sUpd (sUpd (sUpd M (a0 + 10) 0 (M (a0 + 11) 2)) (a0 + 10) 1 x1) (a0 + 10) 2 x3) G (QI (fun r M1 G1 => sW (sC d) 223 Q 63 [vO 12 a0, vI x1, vI x2, vI x3, vI s0] (vI r :: [vI 3, vA 1 (a0 + 10) 10]) M1 G1 0 0))) : sW (sC d) 223 Q 22 [vO 12 a0, vI x1, vI x2, vI x3, vN] [vI s0] M G 0 0 := by
  refine q_istore [vO 12 a0, vI x1, vI x2, vI x3, vI s0] 24 rfl (show sCode 223 22 = some (.istore 4, 2) by decide +kernel) (Nat.lt_of_lt_of_le (Nat.lt_succ_self _) (Nat.le_of_ble_eq_true rfl)) rfl rfl ?_
  refine q_aload_n 25 rfl (show sCode 223 24 = some (.aload_n 0, 1) by decide +kernel) rfl (Nat.le_of_ble_eq_true rfl) ?_
  refine q_getR (vA 1 (a0 + 10) 10) 28 rfl (show sCode 223 25 = some (.getfield 39, 3) by decide +kernel) (show sFR (sKo 223).1 39 = some (12, 22) by decide +kernel) (by decide +kernel) (Or.inl (Or.inl rfl)) rfl ?_
  refine q_iconst 29 rfl (show sCode 223 28 = some (.iconst 0, 1) by decide +kernel) ⟨by decide, by decide⟩ ?_
  refine q_aload_n 30 rfl (show sCode 223 29 = some (.aload_n 0, 1) by decide +kernel) rfl (Nat.le_of_ble_eq_true rfl) ?_
  refine q_getR (vA 0 (a0 + 11) 274) 33 rfl (show sCode 223 30 = some (.getfield 42, 3) by decide +kernel) (show sFR (sKo 223).1 42 = some (12, 23) by decide +kernel) (by decide +kernel) (Or.inl (Or.inl rfl)) rfl ?_
  refine q_iconst 34 rfl (show sCode 223 33 = some (.iconst 2, 1) by decide +kernel) ⟨by decide, by decide⟩ ?_
  refine q_iald 35 rfl (show sCode 223 34 = some (.iaload, 1) by decide +kernel) ⟨by decide, by decide⟩ ?_
  refine q_i2l 36 rfl (show sCode 223 35 = some (.i2l, 1) by decide +kernel) ?_
  refine q_last 37 rfl (show sCode 223 36 = some (.lastore, 1) by decide +kernel) ⟨by decide, by decide⟩ ?_
  refine q_aload_n 38 rfl (show sCode 223 37 = some (.aload_n 0, 1) by decide +kernel) rfl (Nat.le_of_ble_eq_true rfl) ?_
  refine q_getR (vA 1 (a0 + 10) 10) 41 rfl (show sCode 223 38 = some (.getfield 39, 3) by decide +kernel) (show sFR (sKo 223).1 39 = some (12, 22) by decide +kernel) (by decide +kernel) (Or.inl (Or.inl rfl)) rfl ?_
  refine q_iconst 42 rfl (show sCode 223 41 = some (.iconst 1, 1) by decide +kernel) ⟨by decide, by decide⟩ ?_
  refine q_iload_n 43 rfl (show sCode 223 42 = some (.iload_n 1, 1) by decide +kernel) rfl ?_
  refine q_i2l 44 rfl (show sCode 223 43 = some (.i2l, 1) by decide +kernel) ?_
  refine q_last 45 rfl (show sCode 223 44 = some (.lastore, 1) by decide +kernel) ⟨by decide, by decide⟩ ?_
  refine q_aload_n 46 rfl (show sCode 223 45 = some (.aload_n 0, 1) by decide +kernel) rfl (Nat.le_of_ble_eq_true rfl) ?_
  refine q_getR (vA 1 (a0 + 10) 10) 49 rfl (show sCode 223 46 = some (.getfield 39, 3) by decide +kernel) (show sFR (sKo 223).1 39 = some (12, 22) by decide +kernel) (by decide +kernel) (Or.inl (Or.inl rfl)) rfl ?_
  refine q_iconst 50 rfl (show sCode 223 49 = some (.iconst 2, 1) by decide +kernel) ⟨by decide, by decide⟩ ?_
  refine q_iload_n 51 rfl (show sCode 223 50 = some (.iload_n 3, 1) by decide +kernel) rfl ?_
  refine q_i2l 52 rfl (show sCode 223 51 = some (.i2l, 1) by decide +kernel) ?_
  refine q_last 53 rfl (show sCode 223 52 = some (.lastore, 1) by decide +kernel) ⟨by decide, by decide⟩ ?_
  refine q_aload_n 54 rfl (show sCode 223 53 = some (.aload_n 0, 1) by decide +kernel) rfl (Nat.le_of_ble_eq_true rfl) ?_
  refine q_getR (vA 1 (a0 + 10) 10) 57 rfl (show sCode 223 54 = some (.getfield 39, 3) by decide +kernel) (show sFR (sKo 223).1 39 = some (12, 22) by decide +kernel) (by decide +kernel) (Or.inl (Or.inl rfl)) rfl ?_
  refine q_iconst 58 rfl (show sCode 223 57 = some (.iconst 3, 1) by decide +kernel) ⟨by decide, by decide⟩ ?_
  refine q_aload_n 59 rfl (show sCode 223 58 = some (.aload_n 0, 1) by decide +kernel) rfl (Nat.le_of_ble_eq_true rfl) ?_
  refine q_iload_n 60 rfl (show sCode 223 59 = some (.iload_n 3, 1) by decide +kernel) rfl ?_
  exact q_virtI [vI x3] 63 rfl (show sCode 223 60 = some (.invokevirtual 296, 3) by decide +kernel) (show sMR (sKo 223).1 296 = some 205 by decide +kernel) (show 205 < 1000 ∧ sStat 205 = false ∧ sIni 205 = false ∧ sKo 205 = (12, 1, 1, 0, 0) by decide +kernel) rfl (Or.inl rfl) rfl (Nat.le_of_ble_eq_true rfl) rfl rfl rfl (by decide +kernel) kk
theorem b223_63 {d : Nat} {Q : Option sV → sM → sG → Prop} {M : sM} {G : sG} {a0 : Nat} {x1 : Int} {x2 : Int} {x3 : Int} {x4 : Int} {s0 : Int} {s1 : Int} {sa2 : Nat} (h1 : 0 ≤ s1 ∧ s1 < 10) (k1 : x4 = 0 → sW (sC d) 223 Q 85 [vO 12 a0, vN, vI x2, vI x3, vN] [vI 4, vA 1 (a0 + 10) 10] (sUpd M sa2 s1.toNat s0) G 0 0) (k2 : x4 ≠ 0 → sW (sC d) 223 Q 75 [vO 12 a0, vI x1, vI x2, vI x3, vN] [vI 4, vA 1 (a0 + 10) 10] (sUpd M sa2 s1.toNat s0) G 0 0) : sW (sC d) 223 Q 63 [vO 12 a0, vI x1, vI x2, vI x3, vI x4] [vI s0, vI s1, vA 1 sa2 10] M G 0 0 := by
  refine q_i2l 64 rfl (show sCode 223 63 = some (.i2l, 1) by decide +kernel) ?_
  refine q_last 65 rfl (show sCode 223 64 = some (.lastore, 1) by decide +kernel) h1 ?_
  refine q_aload_n 66 rfl (show sCode 223 65 = some (.aload_n 0, 1) by decide +kernel) rfl (Nat.le_of_ble_eq_true rfl) ?_
  refine q_getR (vA 1 (a0 + 10) 10) 69 rfl (show sCode 223 66 = some (.getfield 39, 3) by decide +kernel) (show sFR (sKo 223).1 39 = some (12, 22) by decide +kernel) (by decide +kernel) (Or.inl (Or.inl rfl)) rfl ?_
  refine q_iconst 70 rfl (show sCode 223 69 = some (.iconst 4, 1) by decide +kernel) ⟨by decide, by decide⟩ ?_
  refine q_iload 72 rfl (show sCode 223 70 = some (.iload 4, 2) by decide +kernel) rfl ?_
  refine q_ifeq 85 75 rfl (by decide) (show sCode 223 72 = some (.ifCond .eq 13, 3) by decide +kernel) ?_ ?_
  · intro q; refine q_forget (L' := [vO 12 a0, vN, vI x2, vI x3, vI x4]) 1 rfl ?_; refine q_forget (L' := [vO 12 a0, vN, vI x2, vI x3, vN]) 4 rfl ?_; exact k1 q
  · intro q; refine q_forget (L' := [vO 12 a0, vI x1, vI x2, vI x3, vN]) 4 rfl ?_; exact k2 q
theorem b223_75 {d : Nat} {Q : Option sV → sM → sG → Prop} {M : sM} {G : sG} {a0 : Nat} {x1 : Int} {x2 : Int} {x3 : Int} {s0 : Int} {sa1 : Nat}  (kk : sC d 213 [vO 12 a0, vI x1, vI 1] M G (QI (fun r M1 G1 => sW (sC d) 223 Q 81 [vO 12 a0, vN, vI x2, vI x3, vN] (vI r :: [vI s0, vA 1 sa1 10]) M1 G1 0 0))) : sW (sC d) 223 Q 75 [vO 12 a0, vI x1, vI x2, vI x3, vN] [vI s0, vA 1 sa1 10] M G 0 0 := by
  refine q_aload_n 76 rfl (show sCode 223 75 = some (.aload_n 0, 1) by decide +kernel) rfl (Nat.le_of_ble_eq_true rfl) ?_
  refine q_iload_n 77 rfl (show sCode 223 76 = some (.iload_n 1, 1) by decide +kernel) rfl ?_
  refine q_iconst 78 rfl (show sCode 223 77 = some (.iconst 1, 1) by decide +kernel) ⟨by decide, by decide⟩ ?_
  refine q_forget (L' := [vO 12 a0, vN, vI x2, vI x3, vN]) 1 rfl ?_
  exact q_virtI [vI x1, vI 1] 81 rfl (show sCode 223 78 = some (.invokevirtual 287, 3) by decide +kernel) (show sMR (sKo 223).1 287 = some 213 by decide +kernel) (show 213 < 1000 ∧ sStat 213 = false ∧ sIni 213 = false ∧ sKo 213 = (12, 2, 1, 0, 0) by decide +kernel) rfl (Or.inl rfl) rfl (Nat.le_of_ble_eq_true rfl) rfl rfl rfl (by decide +kernel) kk
theorem b223_81 {d : Nat} {Q : Option sV → sM → sG → Prop} {M : sM} {G : sG} {a0 : Nat} {x2 : Int} {x3 : Int} {s0 : Int} {s1 : Int} {sa2 : Nat}  (kk : sW (sC d) 223 Q 86 [vO 12 a0, vN, vI x2, vI x3, vN] [vL s0, vI s1, vA 1 sa2 10] M G 0 0) : sW (sC d) 223 Q 81 [vO 12 a0, vN, vI x2, vI x3, vN] [vI s0, vI s1, vA 1 sa2 10] M G 0 0 := by
  refine q_i2l 82 rfl (show sCode 223 81 = some (.i2l, 1) by decide +kernel) ?_
  refine q_goto 86 (by decide) (show sCode 223 82 = some (.goto 4, 3) by decide +kernel) ?_
  exact kk
theorem b223_85 {d : Nat} {Q : Option sV → sM → sG → Prop} {M : sM} {G : sG} {a0 : Nat} {x2 : Int} {x3 : Int} {s0 : Int} {sa1 : Nat}  (kk : sW (sC d) 223 Q 86 [vO 12 a0, vN, vI x2, vI x3, vN] [vL 0, vI s0, vA 1 sa1 10] M G 0 0) : sW (sC d) 223 Q 85 [vO 12 a0, vN, vI x2, vI x3, vN] [vI s0, vA 1 sa1 10] M G 0 0 := by
  refine q_lconst 86 rfl (show sCode 223 85 = some (.lconst 0, 1) by decide +kernel) ?_
  exact kk
theorem b223_86 {d : Nat} {Q : Option sV → sM → sG → Prop} {M : sM} {G : sG} {a0 : Nat} {x2 : Int} {x3 : Int} {s0 : Int} {s1 : Int} {sa2 : Nat} (h1 : 0 ≤ s1 ∧ s1 < 10) (kk : sC d 204 [vO 12 a0, vI x3, vI 1] (sUpd M sa2 s1.toNat s0) G (QI (fun r M1 G1 => sW (sC d) 223 Q 98 [vO 12 a0, vN, vI x2, vI x3, vN] (vI r :: [vI 5, vA 1 (a0 + 10) 10]) M1 G1 0 0))) : sW (sC d) 223 Q 86 [vO 12 a0, vN, vI x2, vI x3, vN] [vL s0, vI s1, vA 1 sa2 10] M G 0 0 := by
  refine q_last 87 rfl (show sCode 223 86 = some (.lastore, 1) by decide +kernel) h1 ?_
  refine q_aload_n 88 rfl (show sCode 223 87 = some (.aload_n 0, 1) by decide +kernel) rfl (Nat.le_of_ble_eq_true rfl) ?_
  refine q_getR (vA 1 (a0 + 10) 10) 91 rfl (show sCode 223 88 = some (.getfield 39, 3) by decide +kernel) (show sFR (sKo 223).1 39 = some (12, 22) by decide +kernel) (by decide +kernel) (Or.inl (Or.inl rfl)) rfl ?_
  refine q_iconst 92 rfl (show sCode 223 91 = some (.iconst 5, 1) by decide +kernel) ⟨by decide, by decide⟩ ?_
  refine q_aload_n 93 rfl (show sCode 223 92 = some (.aload_n 0, 1) by decide +kernel) rfl (Nat.le_of_ble_eq_true rfl) ?_
  refine q_iload_n 94 rfl (show sCode 223 93 = some (.iload_n 3, 1) by decide +kernel) rfl ?_
  refine q_iconst 95 rfl (show sCode 223 94 = some (.iconst 1, 1) by decide +kernel) ⟨by decide, by decide⟩ ?_
  exact q_virtI [vI x3, vI 1] 98 rfl (show sCode 223 95 = some (.invokevirtual 284, 3) by decide +kernel) (show sMR (sKo 223).1 284 = some 204 by decide +kernel) (show 204 < 1000 ∧ sStat 204 = false ∧ sIni 204 = false ∧ sKo 204 = (12, 2, 1, 0, 0) by decide +kernel) rfl (Or.inl rfl) rfl (Nat.le_of_ble_eq_true rfl) rfl rfl rfl (by decide +kernel) kk
theorem b223_98 {d : Nat} {Q : Option sV → sM → sG → Prop} {M : sM} {G : sG} {a0 : Nat} {x2 : Int} {x3 : Int} {s0 : Int} {s1 : Int} {sa2 : Nat}  (kk : sC d 205 [vO 12 a0, vI x3] M G (QI (fun r M1 G1 => sW (sC d) 223 Q 103 [vO 12 a0, vN, vI x2, vI x3, vN] (vI r :: [vI s0, vI s1, vA 1 sa2 10]) M1 G1 0 0))) : sW (sC d) 223 Q 98 [vO 12 a0, vN, vI x2, vI x3, vN] [vI s0, vI s1, vA 1 sa2 10] M G 0 0 := by
  refine q_aload_n 99 rfl (show sCode 223 98 = some (.aload_n 0, 1) by decide +kernel) rfl (Nat.le_of_ble_eq_true rfl) ?_
  refine q_iload_n 100 rfl (show sCode 223 99 = some (.iload_n 3, 1) by decide +kernel) rfl ?_
  exact q_virtI [vI x3] 103 rfl (show sCode 223 100 = some (.invokevirtual 296, 3) by decide +kernel) (show sMR (sKo 223).1 296 = some 205 by decide +kernel) (show 205 < 1000 ∧ sStat 205 = false ∧ sIni 205 = false ∧ sKo 205 = (12, 1, 1, 0, 0) by decide +kernel) rfl (Or.inl rfl) rfl (Nat.le_of_ble_eq_true rfl) rfl rfl rfl (by decide +kernel) kk
theorem b223_103 {d : Nat} {Q : Option sV → sM → sG → Prop} {M : sM} {G : sG} {a0 : Nat} {x2 : Int} {x3 : Int} {s0 : Int} {s1 : Int} {s2 : Int} {sa3 : Nat} (h1 : sI (s1 - s0)) (h2 : 0 ≤ s2 ∧ s2 < 10) (kk : sC d 204 [vO 12 a0, vI x3, vI 2] (sUpd M sa3 s2.toNat (s1 - s0)) G (QI (fun r M1 G1 => sW (sC d) 223 Q 118 [vO 12 a0, vN, vI x2, vN, vN] (vI r :: [vI 6, vA 1 (a0 + 10) 10]) M1 G1 0 0))) : sW (sC d) 223 Q 103 [vO 12 a0, vN, vI x2, vI x3, vN] [vI s0, vI s1, vI s2, vA 1 sa3 10] M G 0 0 := by
  refine q_isub 104 rfl (show sCode 223 103 = some (.isub, 1) by decide +kernel) h1 ?_
  refine q_i2l 105 rfl (show sCode 223 104 = some (.i2l, 1) by decide +kernel) ?_
  refine q_last 106 rfl (show sCode 223 105 = some (.lastore, 1) by decide +kernel) h2 ?_
  refine q_aload_n 107 rfl (show sCode 223 106 = some (.aload_n 0, 1) by decide +kernel) rfl (Nat.le_of_ble_eq_true rfl) ?_
  refine q_getR (vA 1 (a0 + 10) 10) 110 rfl (show sCode 223 107 = some (.getfield 39, 3) by decide +kernel) (show sFR (sKo 223).1 39 = some (12, 22) by decide +kernel) (by decide +kernel) (Or.inl (Or.inl rfl)) rfl ?_
  refine q_bipush 112 rfl (show sCode 223 110 = some (.bipush 6, 2) by decide +kernel) ⟨by decide, by decide⟩ (by decide +kernel) ?_
  refine q_aload_n 113 rfl (show sCode 223 112 = some (.aload_n 0, 1) by decide +kernel) rfl (Nat.le_of_ble_eq_true rfl) ?_
  refine q_iload_n 114 rfl (show sCode 223 113 = some (.iload_n 3, 1) by decide +kernel) rfl ?_
  refine q_iconst 115 rfl (show sCode 223 114 = some (.iconst 2, 1) by decide +kernel) ⟨by decide, by decide⟩ ?_
  refine q_forget (L' := [vO 12 a0, vN, vI x2, vN, vN]) 3 rfl ?_
  exact q_virtI [vI x3, vI 2] 118 rfl (show sCode 223 115 = some (.invokevirtual 284, 3) by decide +kernel) (show sMR (sKo 223).1 284 = some 204 by decide +kernel) (show 204 < 1000 ∧ sStat 204 = false ∧ sIni 204 = false ∧ sKo 204 = (12, 2, 1, 0, 0) by decide +kernel) rfl (Or.inl rfl) rfl (Nat.le_of_ble_eq_true rfl) rfl rfl rfl (by decide +kernel) kk
theorem b223_118 {d : Nat} {Q : Option sV → sM → sG → Prop} {M : sM} {G : sG} {a0 : Nat} {x2 : Int} {s0 : Int} {s1 : Int} {sa2 : Nat} (h1 : 0 ≤ s1 ∧ s1 < 10) (kk : sC d 209 [vO 12 a0, vI x2, vI 4] (sUpd M sa2 s1.toNat s0) G (QI (fun r M1 G1 => sW (sC d) 223 Q 132 [vO 12 a0, vN, vI x2, vN, vN] (vI r :: [vI 7, vA 1 (a0 + 10) 10]) M1 G1 0 0))) : sW (sC d) 223 Q 118 [vO 12 a0, vN, vI x2, vN, vN] [vI s0, vI s1, vA 1 sa2 10] M G 0 0 := by
  refine q_i2l 119 rfl (show sCode 223 118 = some (.i2l, 1) by decide +kernel) ?_
  refine q_last 120 rfl (show sCode 223 119 = some (.lastore, 1) by decide +kernel) h1 ?_
  refine q_aload_n 121 rfl (show sCode 223 120 = some (.aload_n 0, 1) by decide +kernel) rfl (Nat.le_of_ble_eq_true rfl) ?_
  refine q_getR (vA 1 (a0 + 10) 10) 124 rfl (show sCode 223 121 = some (.getfield 39, 3) by decide +kernel) (show sFR (sKo 223).1 39 = some (12, 22) by decide +kernel) (by decide +kernel) (Or.inl (Or.inl rfl)) rfl ?_
  refine q_bipush 126 rfl (show sCode 223 124 = some (.bipush 7, 2) by decide +kernel) ⟨by decide, by decide⟩ (by decide +kernel) ?_
  refine q_aload_n 127 rfl (show sCode 223 126 = some (.aload_n 0, 1) by decide +kernel) rfl (Nat.le_of_ble_eq_true rfl) ?_
  refine q_iload_n 128 rfl (show sCode 223 127 = some (.iload_n 2, 1) by decide +kernel) rfl ?_
  refine q_iconst 129 rfl (show sCode 223 128 = some (.iconst 4, 1) by decide +kernel) ⟨by decide, by decide⟩ ?_
  exact q_virtI [vI x2, vI 4] 132 rfl (show sCode 223 129 = some (.invokevirtual 302, 3) by decide +kernel) (show sMR (sKo 223).1 302 = some 209 by decide +kernel) (show 209 < 1000 ∧ sStat 209 = false ∧ sIni 209 = false ∧ sKo 209 = (12, 2, 1, 0, 0) by decide +kernel) rfl (Or.inl rfl) rfl (Nat.le_of_ble_eq_true rfl) rfl rfl rfl (by decide +kernel) kk
theorem b223_132 {d : Nat} {Q : Option sV → sM → sG → Prop} {M : sM} {G : sG} {a0 : Nat} {x2 : Int} {s0 : Int} {s1 : Int} {sa2 : Nat} (h1 : 0 ≤ s1 ∧ s1 < 10) (kk : sC d 209 [vO 12 a0, vI x2, vI 3] (sUpd M sa2 s1.toNat s0) G (QI (fun r M1 G1 => sW (sC d) 223 Q 152 [vO 12 a0, vN, vI x2, vN, vN] (vI r :: [vI ((sUpd M sa2 s1.toNat s0) (a0 + 11) 2), vI 8, vA 1 (a0 + 10) 10]) M1 G1 0 0))) : sW (sC d) 223 Q 132 [vO 12 a0, vN, vI x2, vN, vN] [vI s0, vI s1, vA 1 sa2 10] M G 0 0 := by
  refine q_i2l 133 rfl (show sCode 223 132 = some (.i2l, 1) by decide +kernel) ?_
  refine q_last 134 rfl (show sCode 223 133 = some (.lastore, 1) by decide +kernel) h1 ?_
  refine q_aload_n 135 rfl (show sCode 223 134 = some (.aload_n 0, 1) by decide +kernel) rfl (Nat.le_of_ble_eq_true rfl) ?_
  refine q_getR (vA 1 (a0 + 10) 10) 138 rfl (show sCode 223 135 = some (.getfield 39, 3) by decide +kernel) (show sFR (sKo 223).1 39 = some (12, 22) by decide +kernel) (by decide +kernel) (Or.inl (Or.inl rfl)) rfl ?_
  refine q_bipush 140 rfl (show sCode 223 138 = some (.bipush 8, 2) by decide +kernel) ⟨by decide, by decide⟩ (by decide +kernel) ?_
  refine q_aload_n 141 rfl (show sCode 223 140 = some (.aload_n 0, 1) by decide +kernel) rfl (Nat.le_of_ble_eq_true rfl) ?_
  refine q_getR (vA 0 (a0 + 11) 274) 144 rfl (show sCode 223 141 = some (.getfield 42, 3) by decide +kernel) (show sFR (sKo 223).1 42 = some (12, 23) by decide +kernel) (by decide +kernel) (Or.inl (Or.inl rfl)) rfl ?_
  refine q_iconst 145 rfl (show sCode 223 144 = some (.iconst 2, 1) by decide +kernel) ⟨by decide, by decide⟩ ?_
  refine q_iald 146 rfl (show sCode 223 145 = some (.iaload, 1) by decide +kernel) ⟨by decide, by decide⟩ ?_
  refine q_aload_n 147 rfl (show sCode 223 146 = some (.aload_n 0, 1) by decide +kernel) rfl (Nat.le_of_ble_eq_true rfl) ?_
  refine q_iload_n 148 rfl (show sCode 223 147 = some (.iload_n 2, 1) by decide +kernel) rfl ?_
  refine q_iconst 149 rfl (show sCode 223 148 = some (.iconst 3, 1) by decide +kernel) ⟨by decide, by decide⟩ ?_
  exact q_virtI [vI x2, vI 3] 152 rfl (show sCode 223 149 = some (.invokevirtual 302, 3) by decide +kernel) (show sMR (sKo 223).1 302 = some 209 by decide +kernel) (show 209 < 1000 ∧ sStat 209 = false ∧ sIni 209 = false ∧ sKo 209 = (12, 2, 1, 0, 0) by decide +kernel) rfl (Or.inl rfl) rfl (Nat.le_of_ble_eq_true rfl) rfl rfl rfl (by decide +kernel) kk
theorem b223_152 {d : Nat} {Q : Option sV → sM → sG → Prop} {M : sM} {G : sG} {a0 : Nat} {x2 : Int} {s0 : Int} {s1 : Int} {s2 : Int} {sa3 : Nat}  (k1 : s1 ≤ s0 → sW (sC d) 223 Q 172 [vO 12 a0, vN, vI x2, vN, vN] [vI s2, vA 1 sa3 10] M G 0 0) (k2 : s0 < s1 → sW (sC d) 223 Q 155 [vO 12 a0, vN, vI x2, vN, vN] [vI s2, vA 1 sa3 10] M G 0 0) : sW (sC d) 223 Q 152 [vO 12 a0, vN, vI x2, vN, vN] [vI s0, vI s1, vI s2, vA 1 sa3 10] M G 0 0 := by
  refine q_icmple 172 155 rfl (by decide) (show sCode 223 152 = some (.if_icmp .le 20, 3) by decide +kernel) ?_ ?_
  · intro q; exact k1 q
  · intro q; exact k2 q
theorem b223_155 {d : Nat} {Q : Option sV → sM → sG → Prop} {M : sM} {G : sG} {a0 : Nat} {x2 : Int} {s0 : Int} {sa1 : Nat}  (kk : sC d 209 [vO 12 a0, vI x2, vI 3] M G (QI (fun r M1 G1 => sW (sC d) 223 Q 167 [vO 12 a0, vN, vI x2, vN, vN] (vI r :: [vI (M (a0 + 11) 2), vI s0, vA 1 sa1 10]) M1 G1 0 0))) : sW (sC d) 223 Q 155 [vO 12 a0, vN, vI x2, vN, vN] [vI s0, vA 1 sa1 10] M G 0 0 := by
  refine q_aload_n 156 rfl (show sCode 223 155 = some (.aload_n 0, 1) by decide +kernel) rfl (Nat.le_of_ble_eq_true rfl) ?_
  refine q_getR (vA 0 (a0 + 11) 274) 159 rfl (show sCode 223 156 = some (.getfield 42, 3) by decide +kernel) (show sFR (sKo 223).1 42 = some (12, 23) by decide +kernel) (by decide +kernel) (Or.inl (Or.inl rfl)) rfl ?_
  refine q_iconst 160 rfl (show sCode 223 159 = some (.iconst 2, 1) by decide +kernel) ⟨by decide, by decide⟩ ?_
  refine q_iald 161 rfl (show sCode 223 160 = some (.iaload, 1) by decide +kernel) ⟨by decide, by decide⟩ ?_
  refine q_aload_n 162 rfl (show sCode 223 161 = some (.aload_n 0, 1) by decide +kernel) rfl (Nat.le_of_ble_eq_true rfl) ?_
  refine q_iload_n 163 rfl (show sCode 223 162 = some (.iload_n 2, 1) by decide +kernel) rfl ?_
  refine q_iconst 164 rfl (show sCode 223 163 = some (.iconst 3, 1) by decide +kernel) ⟨by decide, by decide⟩ ?_
  exact q_virtI [vI x2, vI 3] 167 rfl (show sCode 223 164 = some (.invokevirtual 302, 3) by decide +kernel) (show sMR (sKo 223).1 302 = some 209 by decide +kernel) (show 209 < 1000 ∧ sStat 209 = false ∧ sIni 209 = false ∧ sKo 209 = (12, 2, 1, 0, 0) by decide +kernel) rfl (Or.inl rfl) rfl (Nat.le_of_ble_eq_true rfl) rfl rfl rfl (by decide +kernel) kk
theorem b223_167 {d : Nat} {Q : Option sV → sM → sG → Prop} {M : sM} {G : sG} {a0 : Nat} {x2 : Int} {s0 : Int} {s1 : Int} {s2 : Int} {sa3 : Nat} (h1 : sI (s1 - s0)) (kk : sW (sC d) 223 Q 173 [vO 12 a0, vN, vI x2, vN, vN] [vL (s1 - s0), vI s2, vA 1 sa3 10] M G 0 0) : sW (sC d) 223 Q 167 [vO 12 a0, vN, vI x2, vN, vN] [vI s0, vI s1, vI s2, vA 1 sa3 10] M G 0 0 := by
  refine q_isub 168 rfl (show sCode 223 167 = some (.isub, 1) by decide +kernel) h1 ?_
  refine q_i2l 169 rfl (show sCode 223 168 = some (.i2l, 1) by decide +kernel) ?_
  refine q_goto 173 (by decide) (show sCode 223 169 = some (.goto 4, 3) by decide +kernel) ?_
  exact kk
theorem b223_172 {d : Nat} {Q : Option sV → sM → sG → Prop} {M : sM} {G : sG} {a0 : Nat} {x2 : Int} {s0 : Int} {sa1 : Nat}  (kk : sW (sC d) 223 Q 173 [vO 12 a0, vN, vI x2, vN, vN] [vL 0, vI s0, vA 1 sa1 10] M G 0 0) : sW (sC d) 223 Q 172 [vO 12 a0, vN, vI x2, vN, vN] [vI s0, vA 1 sa1 10] M G 0 0 := by
  refine q_lconst 173 rfl (show sCode 223 172 = some (.lconst 0, 1) by decide +kernel) ?_
  exact kk
theorem b223_173 {d : Nat} {Q : Option sV → sM → sG → Prop} {M : sM} {G : sG} {a0 : Nat} {x2 : Int} {s0 : Int} {s1 : Int} {sa2 : Nat} (h1 : 0 ≤ s1 ∧ s1 < 10) (kk : sC d 209 [vO 12 a0, vI x2, vI 3] (sUpd M sa2 s1.toNat s0) G (QI (fun r M1 G1 => sW (sC d) 223 Q 186 [vO 12 a0, vN, vI x2, vN, vN] (vI r :: [vI 9, vA 1 (a0 + 10) 10]) M1 G1 0 0))) : sW (sC d) 223 Q 173 [vO 12 a0, vN, vI x2, vN, vN] [vL s0, vI s1, vA 1 sa2 10] M G 0 0 := by
  refine q_last 174 rfl (show sCode 223 173 = some (.lastore, 1) by decide +kernel) h1 ?_
  refine q_aload_n 175 rfl (show sCode 223 174 = some (.aload_n 0, 1) by decide +kernel) rfl (Nat.le_of_ble_eq_true rfl) ?_
  refine q_getR (vA 1 (a0 + 10) 10) 178 rfl (show sCode 223 175 = some (.getfield 39, 3) by decide +kernel) (show sFR (sKo 223).1 39 = some (12, 22) by decide +kernel) (by decide +kernel) (Or.inl (Or.inl rfl)) rfl ?_
  refine q_bipush 180 rfl (show sCode 223 178 = some (.bipush 9, 2) by decide +kernel) ⟨by decide, by decide⟩ (by decide +kernel) ?_
  refine q_aload_n 181 rfl (show sCode 223 180 = some (.aload_n 0, 1) by decide +kernel) rfl (Nat.le_of_ble_eq_true rfl) ?_
  refine q_iload_n 182 rfl (show sCode 223 181 = some (.iload_n 2, 1) by decide +kernel) rfl ?_
  refine q_iconst 183 rfl (show sCode 223 182 = some (.iconst 3, 1) by decide +kernel) ⟨by decide, by decide⟩ ?_
  exact q_virtI [vI x2, vI 3] 186 rfl (show sCode 223 183 = some (.invokevirtual 302, 3) by decide +kernel) (show sMR (sKo 223).1 302 = some 209 by decide +kernel) (show 209 < 1000 ∧ sStat 209 = false ∧ sIni 209 = false ∧ sKo 209 = (12, 2, 1, 0, 0) by decide +kernel) rfl (Or.inl rfl) rfl (Nat.le_of_ble_eq_true rfl) rfl rfl rfl (by decide +kernel) kk
theorem b223_186 {d : Nat} {Q : Option sV → sM → sG → Prop} {M : sM} {G : sG} {a0 : Nat} {x2 : Int} {s0 : Int} {s1 : Int} {sa2 : Nat}  (k1 : s0 ≤ M (a0 + 11) 2 → sW (sC d) 223 Q 212 [vN, vN, vN, vN, vN] [vI s1, vA 1 sa2 10] M G 0 0) (k2 : M (a0 + 11) 2 < s0 → sW (sC d) 223 Q 195 [vO 12 a0, vN, vI x2, vN, vN] [vI s1, vA 1 sa2 10] M G 0 0) : sW (sC d) 223 Q 186 [vO 12 a0, vN, vI x2, vN, vN] [vI s0, vI s1, vA 1 sa2 10] M G 0 0 := by
  refine q_aload_n 187 rfl (show sCode 223 186 = some (.aload_n 0, 1) by decide +kernel) rfl (Nat.le_of_ble_eq_true rfl) ?_
  refine q_getR (vA 0 (a0 + 11) 274) 190 rfl (show sCode 223 187 = some (.getfield 42, 3) by decide +kernel) (show sFR (sKo 223).1 42 = some (12, 23) by decide +kernel) (by decide +kernel) (Or.inl (Or.inl rfl)) rfl ?_
  refine q_iconst 191 rfl (show sCode 223 190 = some (.iconst 2, 1) by decide +kernel) ⟨by decide, by decide⟩ ?_
  refine q_iald 192 rfl (show sCode 223 191 = some (.iaload, 1) by decide +kernel) ⟨by decide, by decide⟩ ?_
  refine q_icmple 212 195 rfl (by decide) (show sCode 223 192 = some (.if_icmp .le 20, 3) by decide +kernel) ?_ ?_
  · intro q; refine q_forget (L' := [vN, vN, vI x2, vN, vN]) 0 rfl ?_; refine q_forget (L' := [vN, vN, vN, vN, vN]) 2 rfl ?_; exact k1 q
  · intro q; exact k2 q
theorem b223_195 {d : Nat} {Q : Option sV → sM → sG → Prop} {M : sM} {G : sG} {a0 : Nat} {x2 : Int} {s0 : Int} {sa1 : Nat}  (kk : sC d 209 [vO 12 a0, vI x2, vI 3] M G (QI (fun r M1 G1 => sW (sC d) 223 Q 201 [vO 12 a0, vN, vN, vN, vN] (vI r :: [vI s0, vA 1 sa1 10]) M1 G1 0 0))) : sW (sC d) 223 Q 195 [vO 12 a0, vN, vI x2, vN, vN] [vI s0, vA 1 sa1 10] M G 0 0 := by
  refine q_aload_n 196 rfl (show sCode 223 195 = some (.aload_n 0, 1) by decide +kernel) rfl (Nat.le_of_ble_eq_true rfl) ?_
  refine q_iload_n 197 rfl (show sCode 223 196 = some (.iload_n 2, 1) by decide +kernel) rfl ?_
  refine q_iconst 198 rfl (show sCode 223 197 = some (.iconst 3, 1) by decide +kernel) ⟨by decide, by decide⟩ ?_
  refine q_forget (L' := [vO 12 a0, vN, vN, vN, vN]) 2 rfl ?_
  exact q_virtI [vI x2, vI 3] 201 rfl (show sCode 223 198 = some (.invokevirtual 302, 3) by decide +kernel) (show sMR (sKo 223).1 302 = some 209 by decide +kernel) (show 209 < 1000 ∧ sStat 209 = false ∧ sIni 209 = false ∧ sKo 209 = (12, 2, 1, 0, 0) by decide +kernel) rfl (Or.inl rfl) rfl (Nat.le_of_ble_eq_true rfl) rfl rfl rfl (by decide +kernel) kk
theorem b223_201 {d : Nat} {Q : Option sV → sM → sG → Prop} {M : sM} {G : sG} {a0 : Nat} {s0 : Int} {s1 : Int} {sa2 : Nat} (h1 : sI (s0 - (M (a0 + 11) 2))) (kk : sW (sC d) 223 Q 213 [vN, vN, vN, vN, vN] [vL (s0 - (M (a0 + 11) 2)), vI s1, vA 1 sa2 10] M G 0 0) : sW (sC d) 223 Q 201 [vO 12 a0, vN, vN, vN, vN] [vI s0, vI s1, vA 1 sa2 10] M G 0 0 := by
  refine q_aload_n 202 rfl (show sCode 223 201 = some (.aload_n 0, 1) by decide +kernel) rfl (Nat.le_of_ble_eq_true rfl) ?_
  refine q_getR (vA 0 (a0 + 11) 274) 205 rfl (show sCode 223 202 = some (.getfield 42, 3) by decide +kernel) (show sFR (sKo 223).1 42 = some (12, 23) by decide +kernel) (by decide +kernel) (Or.inl (Or.inl rfl)) rfl ?_
  refine q_iconst 206 rfl (show sCode 223 205 = some (.iconst 2, 1) by decide +kernel) ⟨by decide, by decide⟩ ?_
  refine q_iald 207 rfl (show sCode 223 206 = some (.iaload, 1) by decide +kernel) ⟨by decide, by decide⟩ ?_
  refine q_isub 208 rfl (show sCode 223 207 = some (.isub, 1) by decide +kernel) h1 ?_
  refine q_i2l 209 rfl (show sCode 223 208 = some (.i2l, 1) by decide +kernel) ?_
  refine q_goto 213 (by decide) (show sCode 223 209 = some (.goto 4, 3) by decide +kernel) ?_
  refine q_forget (L' := [vN, vN, vN, vN, vN]) 0 rfl ?_
  exact kk
theorem b223_212 {d : Nat} {Q : Option sV → sM → sG → Prop} {M : sM} {G : sG} {s0 : Int} {sa1 : Nat}  (kk : sW (sC d) 223 Q 213 [vN, vN, vN, vN, vN] [vL 0, vI s0, vA 1 sa1 10] M G 0 0) : sW (sC d) 223 Q 212 [vN, vN, vN, vN, vN] [vI s0, vA 1 sa1 10] M G 0 0 := by
  refine q_lconst 213 rfl (show sCode 223 212 = some (.lconst 0, 1) by decide +kernel) ?_
  exact kk
theorem b223_213 {d : Nat} {P : sM → sG → Prop} {M : sM} {G : sG} {s0 : Int} {s1 : Int} {sa2 : Nat} (h1 : 0 ≤ s1 ∧ s1 < 10) (kk : P (sUpd M sa2 s1.toNat s0) G) : sW (sC d) 223 (QV P) 213 [vN, vN, vN, vN, vN] [vL s0, vI s1, vA 1 sa2 10] M G 0 0 := by
  refine q_last 214 rfl (show sCode 223 213 = some (.lastore, 1) by decide +kernel) h1 ?_
  exact q_vret (show sCode 223 214 = some (.return_, 1) by decide +kernel) (by decide +kernel) (by decide +kernel) kk
-- 224 AfterTheLastModel.isHeld (IIZ)Z
theorem b224_0 {d : Nat} {Q : Option sV → sM → sG → Prop} {M : sM} {G : sG} {a0 : Nat} {x1 : Int} {x2 : Int} {x3 : Int}  (kk : sW (sC d) 224 Q 6 [vO 12 a0, vI x1, vI x2, vI x3, vI 0, vI 0, vN] [] M G 0 0) : sW (sC d) 224 Q 0 [vO 12 a0, vI x1, vI x2, vI x3, vN, vN, vN] [] M G 0 0 := by
  refine q_iconst 1 rfl (show sCode 224 0 = some (.iconst 0, 1) by decide +kernel) ⟨by decide, by decide⟩ ?_
  refine q_istore [vO 12 a0, vI x1, vI x2, vI x3, vI 0, vN, vN] 3 rfl (show sCode 224 1 = some (.istore 4, 2) by decide +kernel) (Nat.lt_of_lt_of_le (Nat.lt_succ_self _) (Nat.le_of_ble_eq_true rfl)) rfl rfl ?_
  refine q_iconst 4 rfl (show sCode 224 3 = some (.iconst 0, 1) by decide +kernel) ⟨by decide, by decide⟩ ?_
  refine q_istore [vO 12 a0, vI x1, vI x2, vI x3, vI 0, vI 0, vN] 6 rfl (show sCode 224 4 = some (.istore 5, 2) by decide +kernel) (Nat.lt_of_lt_of_le (Nat.lt_succ_self _) (Nat.le_of_ble_eq_true rfl)) rfl rfl ?_
  exact kk
theorem b224_6 {d : Nat} {Q : Option sV → sM → sG → Prop} {M : sM} {G : sG} {a0 : Nat} {x1 : Int} {x2 : Int} {x3 : Int} {x4 : Int} {x5 : Int} (h1 : 0 ≤ x1 ∧ x1 < 6) (k1 : M (a0 + 5) x1.toNat ≤ x5 → sW (sC d) 224 Q 81 [vN, vN, vN, vI x3, vI x4, vN, vN] [] M G 0 0) (k2 : x5 < M (a0 + 5) x1.toNat → sW (sC d) 224 Q 17 [vO 12 a0, vI x1, vI x2, vI x3, vI x4, vI x5, vN] [] M G 0 0) : sW (sC d) 224 Q 6 [vO 12 a0, vI x1, vI x2, vI x3, vI x4, vI x5, vN] [] M G 0 0 := by
  refine q_iload 8 rfl (show sCode 224 6 = some (.iload 5, 2) by decide +kernel) rfl ?_
  refine q_aload_n 9 rfl (show sCode 224 8 = some (.aload_n 0, 1) by decide +kernel) rfl (Nat.le_of_ble_eq_true rfl) ?_
  refine q_getR (vA 0 (a0 + 5) 6) 12 rfl (show sCode 224 9 = some (.getfield 23, 3) by decide +kernel) (show sFR (sKo 224).1 23 = some (12, 6) by decide +kernel) (by decide +kernel) (Or.inl (Or.inl rfl)) rfl ?_
  refine q_iload_n 13 rfl (show sCode 224 12 = some (.iload_n 1, 1) by decide +kernel) rfl ?_
  refine q_iald 14 rfl (show sCode 224 13 = some (.iaload, 1) by decide +kernel) h1 ?_
  refine q_icmpge 81 17 rfl (by decide) (show sCode 224 14 = some (.if_icmp .ge 67, 3) by decide +kernel) ?_ ?_
  · intro q; refine q_forget (L' := [vN, vI x1, vI x2, vI x3, vI x4, vI x5, vN]) 0 rfl ?_; refine q_forget (L' := [vN, vN, vI x2, vI x3, vI x4, vI x5, vN]) 1 rfl ?_; refine q_forget (L' := [vN, vN, vN, vI x3, vI x4, vI x5, vN]) 2 rfl ?_; refine q_forget (L' := [vN, vN, vN, vI x3, vI x4, vN, vN]) 5 rfl ?_; exact k1 q
  · intro q; exact k2 q
theorem b224_17 {d : Nat} {Q : Option sV → sM → sG → Prop} {M : sM} {G : sG} {a0 : Nat} {x1 : Int} {x2 : Int} {x3 : Int} {x4 : Int} {x5 : Int} (h1 : sI (36 * x1)) (h2 : sI (3 * x5)) (h3 : sI ((36 * x1) + (3 * x5))) (h4 : 0 ≤ (36 * x1) + (3 * x5) ∧ (36 * x1) + (3 * x5) < 216) (k1 : M (a0 + 4) ((36 * x1) + (3 * x5)).toNat = x2 → sW (sC d) 224 Q 42 [vO 12 a0, vI x1, vI x2, vI x3, vN, vI x5, vI ((36 * x1) + (3 * x5))] [] M G 0 0) (k2 : M (a0 + 4) ((36 * x1) + (3 * x5)).toNat ≠ x2 → sW (sC d) 224 Q 39 [vO 12 a0, vI x1, vI x2, vI x3, vI x4, vI x5, vN] [] M G 0 0) : sW (sC d) 224 Q 17 [vO 12 a0, vI x1, vI x2, vI x3, vI x4, vI x5, vN] [] M G 0 0 := by
  refine q_bipush 19 rfl (show sCode 224 17 = some (.bipush 36, 2) by decide +kernel) ⟨by decide, by decide⟩ (by decide +kernel) ?_
  refine q_iload_n 20 rfl (show sCode 224 19 = some (.iload_n 1, 1) by decide +kernel) rfl ?_
  refine q_imul 21 rfl (show sCode 224 20 = some (.imul, 1) by decide +kernel) h1 ?_
  refine q_iconst 22 rfl (show sCode 224 21 = some (.iconst 3, 1) by decide +kernel) ⟨by decide, by decide⟩ ?_
  refine q_iload 24 rfl (show sCode 224 22 = some (.iload 5, 2) by decide +kernel) rfl ?_
  refine q_imul 25 rfl (show sCode 224 24 = some (.imul, 1) by decide +kernel) h2 ?_
  refine q_iadd 26 rfl (show sCode 224 25 = some (.iadd, 1) by decide +kernel) h3 ?_
  refine q_istore [vO 12 a0, vI x1, vI x2, vI x3, vI x4, vI x5, vI ((36 * x1) + (3 * x5))] 28 rfl (show sCode 224 26 = some (.istore 6, 2) by decide +kernel) (Nat.lt_of_lt_of_le (Nat.lt_succ_self _) (Nat.le_of_ble_eq_true rfl)) rfl rfl ?_
  refine q_aload_n 29 rfl (show sCode 224 28 = some (.aload_n 0, 1) by decide +kernel) rfl (Nat.le_of_ble_eq_true rfl) ?_
  refine q_getR (vA 0 (a0 + 4) 216) 32 rfl (show sCode 224 29 = some (.getfield 20, 3) by decide +kernel) (show sFR (sKo 224).1 20 = some (12, 5) by decide +kernel) (by decide +kernel) (Or.inl (Or.inl rfl)) rfl ?_
  refine q_iload 34 rfl (show sCode 224 32 = some (.iload 6, 2) by decide +kernel) rfl ?_
  refine q_iald 35 rfl (show sCode 224 34 = some (.iaload, 1) by decide +kernel) h4 ?_
  refine q_iload_n 36 rfl (show sCode 224 35 = some (.iload_n 2, 1) by decide +kernel) rfl ?_
  refine q_icmpeq 42 39 rfl (by decide) (show sCode 224 36 = some (.if_icmp .eq 6, 3) by decide +kernel) ?_ ?_
  · intro q; refine q_forget (L' := [vO 12 a0, vI x1, vI x2, vI x3, vN, vI x5, vI ((36 * x1) + (3 * x5))]) 4 rfl ?_; exact k1 q
  · intro q; refine q_forget (L' := [vO 12 a0, vI x1, vI x2, vI x3, vI x4, vI x5, vN]) 6 rfl ?_; exact k2 q
theorem b224_39 {d : Nat} {Q : Option sV → sM → sG → Prop} {M : sM} {G : sG} {a0 : Nat} {x1 : Int} {x2 : Int} {x3 : Int} {x4 : Int} {x5 : Int}  (kk : sW (sC d) 224 Q 75 [vO 12 a0, vI x1, vI x2, vI x3, vI x4, vI x5, vN] [] M G 0 0) : sW (sC d) 224 Q 39 [vO 12 a0, vI x1, vI x2, vI x3, vI x4, vI x5, vN] [] M G 0 0 := by
  refine q_goto 75 (by decide) (show sCode 224 39 = some (.goto 36, 3) by decide +kernel) ?_
  exact kk
theorem b224_42 {d : Nat} {Q : Option sV → sM → sG → Prop} {M : sM} {G : sG} {a0 : Nat} {x1 : Int} {x2 : Int} {x3 : Int} {x5 : Int} {x6 : Int} (h1 : sI (x6 + 1)) (h2 : 0 ≤ x6 + 1 ∧ x6 + 1 < 216) (h3 : sI (x6 + 2)) (h4 : 0 ≤ x6 + 2 ∧ x6 + 2 < 216) (kk : sC d 225 [vO 12 a0, vI x1, vI (M (a0 + 4) (x6 + 1).toNat), vI (M (a0 + 4) (x6 + 2).toNat)] M G (QL (fun r M1 G1 => sW (sC d) 224 Q 68 [vO 12 a0, vI x1, vI x2, vI x3, vI 1, vI x5, vN] (vL r :: []) M1 G1 0 0))) : sW (sC d) 224 Q 42 [vO 12 a0, vI x1, vI x2, vI x3, vN, vI x5, vI x6] [] M G 0 0 := by
  refine q_iconst 43 rfl (show sCode 224 42 = some (.iconst 1, 1) by decide +kernel) ⟨by decide, by decide⟩ ?_
  refine q_istore [vO 12 a0, vI x1, vI x2, vI x3, vI 1, vI x5, vI x6] 45 rfl (show sCode 224 43 = some (.istore 4, 2) by decide +kernel) (Nat.lt_of_lt_of_le (Nat.lt_succ_self _) (Nat.le_of_ble_eq_true rfl)) rfl rfl ?_
  refine q_aload_n 46 rfl (show sCode 224 45 = some (.aload_n 0, 1) by decide +kernel) rfl (Nat.le_of_ble_eq_true rfl) ?_
  refine q_iload_n 47 rfl (show sCode 224 46 = some (.iload_n 1, 1) by decide +kernel) rfl ?_
  refine q_aload_n 48 rfl (show sCode 224 47 = some (.aload_n 0, 1) by decide +kernel) rfl (Nat.le_of_ble_eq_true rfl) ?_
  refine q_getR (vA 0 (a0 + 4) 216) 51 rfl (show sCode 224 48 = some (.getfield 20, 3) by decide +kernel) (show sFR (sKo 224).1 20 = some (12, 5) by decide +kernel) (by decide +kernel) (Or.inl (Or.inl rfl)) rfl ?_
  refine q_iload 53 rfl (show sCode 224 51 = some (.iload 6, 2) by decide +kernel) rfl ?_
  refine q_iconst 54 rfl (show sCode 224 53 = some (.iconst 1, 1) by decide +kernel) ⟨by decide, by decide⟩ ?_
  refine q_iadd 55 rfl (show sCode 224 54 = some (.iadd, 1) by decide +kernel) h1 ?_
  refine q_iald 56 rfl (show sCode 224 55 = some (.iaload, 1) by decide +kernel) h2 ?_
  refine q_aload_n 57 rfl (show sCode 224 56 = some (.aload_n 0, 1) by decide +kernel) rfl (Nat.le_of_ble_eq_true rfl) ?_
  refine q_getR (vA 0 (a0 + 4) 216) 60 rfl (show sCode 224 57 = some (.getfield 20, 3) by decide +kernel) (show sFR (sKo 224).1 20 = some (12, 5) by decide +kernel) (by decide +kernel) (Or.inl (Or.inl rfl)) rfl ?_
  refine q_iload 62 rfl (show sCode 224 60 = some (.iload 6, 2) by decide +kernel) rfl ?_
  refine q_iconst 63 rfl (show sCode 224 62 = some (.iconst 2, 1) by decide +kernel) ⟨by decide, by decide⟩ ?_
  refine q_iadd 64 rfl (show sCode 224 63 = some (.iadd, 1) by decide +kernel) h3 ?_
  refine q_iald 65 rfl (show sCode 224 64 = some (.iaload, 1) by decide +kernel) h4 ?_
  refine q_forget (L' := [vO 12 a0, vI x1, vI x2, vI x3, vI 1, vI x5, vN]) 6 rfl ?_
  exact q_virtL [vI x1, vI (M (a0 + 4) (x6 + 1).toNat), vI (M (a0 + 4) (x6 + 2).toNat)] 68 rfl (show sCode 224 65 = some (.invokevirtual 276, 3) by decide +kernel) (show sMR (sKo 224).1 276 = some 225 by decide +kernel) (show 225 < 1000 ∧ sStat 225 = false ∧ sIni 225 = false ∧ sKo 225 = (12, 3, 3, 0, 0) by decide +kernel) rfl (Or.inl rfl) rfl (Nat.le_of_ble_eq_true rfl) rfl rfl rfl (by decide +kernel) kk
theorem b224_68 {d : Nat} {Q : Option sV → sM → sG → Prop} {M : sM} {G : sG} {a0 : Nat} {x1 : Int} {x2 : Int} {x3 : Int} {x4 : Int} {x5 : Int} {s0 : Int}  (k1 : s0 ≠ 1 → sW (sC d) 224 Q 75 [vO 12 a0, vI x1, vI x2, vI x3, vI x4, vI x5, vN] [] M G 0 0) (k2 : s0 = 1 → sW (sC d) 224 Q 73 [vN, vN, vN, vN, vN, vN, vN] [] M G 0 0) : sW (sC d) 224 Q 68 [vO 12 a0, vI x1, vI x2, vI x3, vI x4, vI x5, vN] [vL s0] M G 0 0 := by
  refine q_lconst 69 rfl (show sCode 224 68 = some (.lconst 1, 1) by decide +kernel) ?_
  refine q_lifne (off := 5) 75 73 rfl (by decide) (show sCode 224 69 = some (.lcmp, 1) by decide +kernel) (by decide +kernel) ?_ ?_
  · intro q; exact k1 q
  · intro q; refine q_forget (L' := [vN, vI x1, vI x2, vI x3, vI x4, vI x5, vN]) 0 rfl ?_; refine q_forget (L' := [vN, vN, vI x2, vI x3, vI x4, vI x5, vN]) 1 rfl ?_; refine q_forget (L' := [vN, vN, vN, vI x3, vI x4, vI x5, vN]) 2 rfl ?_; refine q_forget (L' := [vN, vN, vN, vN, vI x4, vI x5, vN]) 3 rfl ?_; refine q_forget (L' := [vN, vN, vN, vN, vN, vI x5, vN]) 4 rfl ?_; refine q_forget (L' := [vN, vN, vN, vN, vN, vN, vN]) 5 rfl ?_; exact k2 q
theorem b224_73 {d : Nat} {P : Int → sM → sG → Prop} {M : sM} {G : sG}   (kk : P 1 M G) : sW (sC d) 224 (QI P) 73 [vN, vN, vN, vN, vN, vN, vN] [] M G 0 0 := by
  refine q_iconst 74 rfl (show sCode 224 73 = some (.iconst 1, 1) by decide +kernel) ⟨by decide, by decide⟩ ?_
  exact q_zret (show sCode 224 74 = some (.ireturn, 1) by decide +kernel) (by decide +kernel) (by decide) (by decide +kernel) kk
theorem b224_75 {d : Nat} {Q : Option sV → sM → sG → Prop} {M : sM} {G : sG} {a0 : Nat} {x1 : Int} {x2 : Int} {x3 : Int} {x4 : Int} {x5 : Int} (h1 : sI (x5 + 1)) (kk : sW (sC d) 224 Q 6 [vO 12 a0, vI x1, vI x2, vI x3, vI x4, vI (x5 + 1), vN] [] M G 0 0) : sW (sC d) 224 Q 75 [vO 12 a0, vI x1, vI x2, vI x3, vI x4, vI x5, vN] [] M G 0 0 := by
  refine q_iinc [vO 12 a0, vI x1, vI x2, vI x3, vI x4, vI (x5 + 1), vN] 78 rfl (show sCode 224 75 = some (.iinc 5 1, 3) by decide +kernel) rfl rfl h1 rfl ?_
  refine q_goto 6 (by decide) (show sCode 224 78 = some (.goto (-72), 3) by decide +kernel) ?_
  exact kk
theorem b224_81 {d : Nat} {Q : Option sV → sM → sG → Prop} {M : sM} {G : sG} {x3 : Int} {x4 : Int}  (k1 : x4 ≠ 0 → sW (sC d) 224 Q 94 [vN, vN, vN, vN, vN, vN, vN] [] M G 0 0) (k2 : x4 = 0 → sW (sC d) 224 Q 86 [vN, vN, vN, vI x3, vN, vN, vN] [] M G 0 0) : sW (sC d) 224 Q 81 [vN, vN, vN, vI x3, vI x4, vN, vN] [] M G 0 0 := by
  refine q_iload 83 rfl (show sCode 224 81 = some (.iload 4, 2) by decide +kernel) rfl ?_
  refine q_ifne 94 86 rfl (by decide) (show sCode 224 83 = some (.ifCond .ne 11, 3) by decide +kernel) ?_ ?_
  · intro q; refine q_forget (L' := [vN, vN, vN, vN, vI x4, vN, vN]) 3 rfl ?_; refine q_forget (L' := [vN, vN, vN, vN, vN, vN, vN]) 4 rfl ?_; exact k1 q
  · intro q; refine q_forget (L' := [vN, vN, vN, vI x3, vN, vN, vN]) 4 rfl ?_; exact k2 q
theorem b224_86 {d : Nat} {Q : Option sV → sM → sG → Prop} {M : sM} {G : sG} {x3 : Int}  (k1 : x3 = 0 → sW (sC d) 224 Q 94 [vN, vN, vN, vN, vN, vN, vN] [] M G 0 0) (k2 : x3 ≠ 0 → sW (sC d) 224 Q 90 [vN, vN, vN, vN, vN, vN, vN] [] M G 0 0) : sW (sC d) 224 Q 86 [vN, vN, vN, vI x3, vN, vN, vN] [] M G 0 0 := by
  refine q_iload_n 87 rfl (show sCode 224 86 = some (.iload_n 3, 1) by decide +kernel) rfl ?_
  refine q_ifeq 94 90 rfl (by decide) (show sCode 224 87 = some (.ifCond .eq 7, 3) by decide +kernel) ?_ ?_
  · intro q; refine q_forget (L' := [vN, vN, vN, vN, vN, vN, vN]) 3 rfl ?_; exact k1 q
  · intro q; refine q_forget (L' := [vN, vN, vN, vN, vN, vN, vN]) 3 rfl ?_; exact k2 q
theorem b224_90 {d : Nat} {Q : Option sV → sM → sG → Prop} {M : sM} {G : sG}   (kk : sW (sC d) 224 Q 95 [vN, vN, vN, vN, vN, vN, vN] [vI 1] M G 0 0) : sW (sC d) 224 Q 90 [vN, vN, vN, vN, vN, vN, vN] [] M G 0 0 := by
  refine q_iconst 91 rfl (show sCode 224 90 = some (.iconst 1, 1) by decide +kernel) ⟨by decide, by decide⟩ ?_
  refine q_goto 95 (by decide) (show sCode 224 91 = some (.goto 4, 3) by decide +kernel) ?_
  exact kk
theorem b224_94 {d : Nat} {Q : Option sV → sM → sG → Prop} {M : sM} {G : sG}   (kk : sW (sC d) 224 Q 95 [vN, vN, vN, vN, vN, vN, vN] [vI 0] M G 0 0) : sW (sC d) 224 Q 94 [vN, vN, vN, vN, vN, vN, vN] [] M G 0 0 := by
  refine q_iconst 95 rfl (show sCode 224 94 = some (.iconst 0, 1) by decide +kernel) ⟨by decide, by decide⟩ ?_
  exact kk
theorem b224_95 {d : Nat} {P : Int → sM → sG → Prop} {M : sM} {G : sG} {s0 : Int}  (h01 : s0 = 0 ∨ s0 = 1) (kk : P s0 M G) : sW (sC d) 224 (QI P) 95 [vN, vN, vN, vN, vN, vN, vN] [vI s0] M G 0 0 := by
  exact q_zret (show sCode 224 95 = some (.ireturn, 1) by decide +kernel) (by decide +kernel) h01 (by decide +kernel) kk
-- 225 AfterTheLastModel.reckons (III)J
theorem b225_0 {d : Nat} {Q : Option sV → sM → sG → Prop} {M : sM} {G : sG} {a0 : Nat} {x1 : Int} {x2 : Int} {x3 : Int}  (kk : sW (sC d) 225 Q 8 [vO 12 a0, vI x1, vN, vI x3, vI x2, vN, vN, vN, vN, vN, vN] [] (sUpd M a0 21 0) G 0 0) : sW (sC d) 225 Q 0 [vO 12 a0, vI x1, vI x2, vI x3, vN, vN, vN, vN, vN, vN, vN] [] M G 0 0 := by
  refine q_aload_n 1 rfl (show sCode 225 0 = some (.aload_n 0, 1) by decide +kernel) rfl (Nat.le_of_ble_eq_true rfl) ?_
  refine q_iconst 2 rfl (show sCode 225 1 = some (.iconst 0, 1) by decide +kernel) ⟨by decide, by decide⟩ ?_
  refine q_putI 5 rfl (show sCode 225 2 = some (.putfield 261, 3) by decide +kernel) (show sFR (sKo 225).1 261 = some (12, 21) by decide +kernel) (by decide +kernel) (Or.inl ⟨Or.inl rfl, by decide +kernel⟩) ?_
  refine q_iload_n 6 rfl (show sCode 225 5 = some (.iload_n 2, 1) by decide +kernel) rfl ?_
  refine q_istore [vO 12 a0, vI x1, vI x2, vI x3, vI x2, vN, vN, vN, vN, vN, vN] 8 rfl (show sCode 225 6 = some (.istore 4, 2) by decide +kernel) (Nat.lt_of_lt_of_le (Nat.lt_succ_self _) (Nat.le_of_ble_eq_true rfl)) rfl rfl ?_
  refine q_forget (L' := [vO 12 a0, vI x1, vN, vI x3, vI x2, vN, vN, vN, vN, vN, vN]) 2 rfl ?_
  exact kk
theorem b225_8 {d : Nat} {Q : Option sV → sM → sG → Prop} {M : sM} {G : sG} {a0 : Nat} {x1 : Int} {x3 : Int} {x4 : Int}  (k1 : x3 ≤ x4 → sW (sC d) 225 Q 135 [vO 12 a0, vN, vN, vN, vN, vN, vN, vN, vN, vN, vN] [] M G 0 0) (k2 : x4 < x3 → sW (sC d) 225 Q 14 [vO 12 a0, vI x1, vN, vI x3, vI x4, vN, vN, vN, vN, vN, vN] [] M G 0 0) : sW (sC d) 225 Q 8 [vO 12 a0, vI x1, vN, vI x3, vI x4, vN, vN, vN, vN, vN, vN] [] M G 0 0 := by
  refine q_iload 10 rfl (show sCode 225 8 = some (.iload 4, 2) by decide +kernel) rfl ?_
  refine q_iload_n 11 rfl (show sCode 225 10 = some (.iload_n 3, 1) by decide +kernel) rfl ?_
  refine q_icmpge 135 14 rfl (by decide) (show sCode 225 11 = some (.if_icmp .ge 124, 3) by decide +kernel) ?_ ?_
  · intro q; refine q_forget (L' := [vO 12 a0, vN, vN, vI x3, vI x4, vN, vN, vN, vN, vN, vN]) 1 rfl ?_; refine q_forget (L' := [vO 12 a0, vN, vN, vN, vI x4, vN, vN, vN, vN, vN, vN]) 3 rfl ?_; refine q_forget (L' := [vO 12 a0, vN, vN, vN, vN, vN, vN, vN, vN, vN, vN]) 4 rfl ?_; exact k1 q
  · intro q; exact k2 q
theorem b225_14 {d : Nat} {Q : Option sV → sM → sG → Prop} {M : sM} {G : sG} {a0 : Nat} {x1 : Int} {x3 : Int} {x4 : Int} (h1 : sI (400 * x1)) (h2 : sI ((400 * x1) + x4)) (h3 : 0 ≤ (400 * x1) + x4 ∧ (400 * x1) + x4 < 2400) (h4 : sI (400 * x1)) (h5 : sI ((400 * x1) + x4)) (h6 : 0 ≤ (400 * x1) + x4 ∧ (400 * x1) + x4 < 2400) (k1 : iAnd (M (a0 + 2) ((400 * x1) + x4).toNat) 15 ≠ 0 → sW (sC d) 225 Q 64 [vO 12 a0, vI x1, vN, vI x3, vI x4, vI (iAnd (M (a0 + 2) ((400 * x1) + x4).toNat) 15), vI (iShr (M (a0 + 2) ((400 * x1) + x4).toNat) 4), vN, vN, vN, vN] [] M G 0 0) (k2 : iAnd (M (a0 + 2) ((400 * x1) + x4).toNat) 15 = 0 → sW (sC d) 225 Q 54 [vO 12 a0, vI x1, vN, vI x3, vI x4, vN, vI (iShr (M (a0 + 2) ((400 * x1) + x4).toNat) 4), vN, vN, vN, vN] [] M G 0 0) : sW (sC d) 225 Q 14 [vO 12 a0, vI x1, vN, vI x3, vI x4, vN, vN, vN, vN, vN, vN] [] M G 0 0 := by
  refine q_aload_n 15 rfl (show sCode 225 14 = some (.aload_n 0, 1) by decide +kernel) rfl (Nat.le_of_ble_eq_true rfl) ?_
  refine q_getR (vA 0 (a0 + 2) 2400) 18 rfl (show sCode 225 15 = some (.getfield 13, 3) by decide +kernel) (show sFR (sKo 225).1 13 = some (12, 3) by decide +kernel) (by decide +kernel) (Or.inl (Or.inl rfl)) rfl ?_
  refine q_sipush 21 rfl (show sCode 225 18 = some (.sipush 400, 3) by decide +kernel) ⟨by decide, by decide⟩ (by decide +kernel) ?_
  refine q_iload_n 22 rfl (show sCode 225 21 = some (.iload_n 1, 1) by decide +kernel) rfl ?_
  refine q_imul 23 rfl (show sCode 225 22 = some (.imul, 1) by decide +kernel) h1 ?_
  refine q_iload 25 rfl (show sCode 225 23 = some (.iload 4, 2) by decide +kernel) rfl ?_
  refine q_iadd 26 rfl (show sCode 225 25 = some (.iadd, 1) by decide +kernel) h2 ?_
  refine q_iald 27 rfl (show sCode 225 26 = some (.iaload, 1) by decide +kernel) h3 ?_
  refine q_bipush 29 rfl (show sCode 225 27 = some (.bipush 15, 2) by decide +kernel) ⟨by decide, by decide⟩ (by decide +kernel) ?_
  refine q_iand 30 rfl (show sCode 225 29 = some (.iand, 1) by decide +kernel) ?_
  refine q_istore [vO 12 a0, vI x1, vN, vI x3, vI x4, vI (iAnd (M (a0 + 2) ((400 * x1) + x4).toNat) 15), vN, vN, vN, vN, vN] 32 rfl (show sCode 225 30 = some (.istore 5, 2) by decide +kernel) (Nat.lt_of_lt_of_le (Nat.lt_succ_self _) (Nat.le_of_ble_eq_true rfl)) rfl rfl ?_
  refine q_aload_n 33 rfl (show sCode 225 32 = some (.aload_n 0, 1) by decide +kernel) rfl (Nat.le_of_ble_eq_true rfl) ?_
  refine q_getR (vA 0 (a0 + 2) 2400) 36 rfl (show sCode 225 33 = some (.getfield 13, 3) by decide +kernel) (show sFR (sKo 225).1 13 = some (12, 3) by decide +kernel) (by decide +kernel) (Or.inl (Or.inl rfl)) rfl ?_
  refine q_sipush 39 rfl (show sCode 225 36 = some (.sipush 400, 3) by decide +kernel) ⟨by decide, by decide⟩ (by decide +kernel) ?_
  refine q_iload_n 40 rfl (show sCode 225 39 = some (.iload_n 1, 1) by decide +kernel) rfl ?_
  refine q_imul 41 rfl (show sCode 225 40 = some (.imul, 1) by decide +kernel) h4 ?_
  refine q_iload 43 rfl (show sCode 225 41 = some (.iload 4, 2) by decide +kernel) rfl ?_
  refine q_iadd 44 rfl (show sCode 225 43 = some (.iadd, 1) by decide +kernel) h5 ?_
  refine q_iald 45 rfl (show sCode 225 44 = some (.iaload, 1) by decide +kernel) h6 ?_
  refine q_iconst 46 rfl (show sCode 225 45 = some (.iconst 4, 1) by decide +kernel) ⟨by decide, by decide⟩ ?_
  refine q_ishr 47 rfl (show sCode 225 46 = some (.ishr, 1) by decide +kernel) ?_
  refine q_istore [vO 12 a0, vI x1, vN, vI x3, vI x4, vI (iAnd (M (a0 + 2) ((400 * x1) + x4).toNat) 15), vI (iShr (M (a0 + 2) ((400 * x1) + x4).toNat) 4), vN, vN, vN, vN] 49 rfl (show sCode 225 47 = some (.istore 6, 2) by decide +kernel) (Nat.lt_of_lt_of_le (Nat.lt_succ_self _) (Nat.le_of_ble_eq_true rfl)) rfl rfl ?_
  refine q_iload 51 rfl (show sCode 225 49 = some (.iload 5, 2) by decide +kernel) rfl ?_
  refine q_ifne 64 54 rfl (by decide) (show sCode 225 51 = some (.ifCond .ne 13, 3) by decide +kernel) ?_ ?_
  · intro q; exact k1 q
  · intro q; refine q_forget (L' := [vO 12 a0, vI x1, vN, vI x3, vI x4, vN, vI (iShr (M (a0 + 2) ((400 * x1) + x4).toNat) 4), vN, vN, vN, vN]) 5 rfl ?_; exact k2 q
theorem b225_54 {d : Nat} {Q : Option sV → sM → sG → Prop} {M : sM} {G : sG} {a0 : Nat} {x1 : Int} {x3 : Int} {x4 : Int} {x6 : Int}  (kk : sC d 226 [vO 12 a0, vL x6] M G (QV (fun M1 G1 => sW (sC d) 225 Q 61 [vO 12 a0, vI x1, vN, vI x3, vI x4, vN, vN, vN, vN, vN, vN] [] M1 G1 0 0))) : sW (sC d) 225 Q 54 [vO 12 a0, vI x1, vN, vI x3, vI x4, vN, vI x6, vN, vN, vN, vN] [] M G 0 0 := by
  refine q_aload_n 55 rfl (show sCode 225 54 = some (.aload_n 0, 1) by decide +kernel) rfl (Nat.le_of_ble_eq_true rfl) ?_
  refine q_iload 57 rfl (show sCode 225 55 = some (.iload 6, 2) by decide +kernel) rfl ?_
  refine q_i2l 58 rfl (show sCode 225 57 = some (.i2l, 1) by decide +kernel) ?_
  refine q_forget (L' := [vO 12 a0, vI x1, vN, vI x3, vI x4, vN, vN, vN, vN, vN, vN]) 6 rfl ?_
  exact q_virtV [vL x6] 61 rfl (show sCode 225 58 = some (.invokevirtual 264, 3) by decide +kernel) (show sMR (sKo 225).1 264 = some 226 by decide +kernel) (show 226 < 1000 ∧ sStat 226 = false ∧ sIni 226 = false ∧ sKo 226 = (12, 1, 0, 0, 0) by decide +kernel) rfl (Or.inl rfl) rfl (Nat.le_of_ble_eq_true rfl) rfl rfl rfl (by decide +kernel) kk
theorem b225_61 {d : Nat} {Q : Option sV → sM → sG → Prop} {M : sM} {G : sG} {a0 : Nat} {x1 : Int} {x3 : Int} {x4 : Int}  (kk : sW (sC d) 225 Q 129 [vO 12 a0, vI x1, vN, vI x3, vI x4, vN, vN, vN, vN, vN, vN] [] M G 0 0) : sW (sC d) 225 Q 61 [vO 12 a0, vI x1, vN, vI x3, vI x4, vN, vN, vN, vN, vN, vN] [] M G 0 0 := by
  refine q_goto 129 (by decide) (show sCode 225 61 = some (.goto 68, 3) by decide +kernel) ?_
  exact kk
theorem b225_64 {d : Nat} {Q : Option sV → sM → sG → Prop} {M : sM} {G : sG} {a0 : Nat} {x1 : Int} {x3 : Int} {x4 : Int} {x5 : Int} {x6 : Int}  (k1 : x5 ≠ 1 → sW (sC d) 225 Q 84 [vO 12 a0, vI x1, vN, vI x3, vI x4, vI x5, vN, vN, vN, vN, vN] [] M G 0 0) (k2 : x5 = 1 → sW (sC d) 225 Q 70 [vO 12 a0, vI x1, vN, vI x3, vI x4, vN, vI x6, vN, vN, vN, vN] [] M G 0 0) : sW (sC d) 225 Q 64 [vO 12 a0, vI x1, vN, vI x3, vI x4, vI x5, vI x6, vN, vN, vN, vN] [] M G 0 0 := by
  refine q_iload 66 rfl (show sCode 225 64 = some (.iload 5, 2) by decide +kernel) rfl ?_
  refine q_iconst 67 rfl (show sCode 225 66 = some (.iconst 1, 1) by decide +kernel) ⟨by decide, by decide⟩ ?_
  refine q_icmpne 84 70 rfl (by decide) (show sCode 225 67 = some (.if_icmp .ne 17, 3) by decide +kernel) ?_ ?_
  · intro q; refine q_forget (L' := [vO 12 a0, vI x1, vN, vI x3, vI x4, vI x5, vN, vN, vN, vN, vN]) 6 rfl ?_; exact k1 q
  · intro q; refine q_forget (L' := [vO 12 a0, vI x1, vN, vI x3, vI x4, vN, vI x6, vN, vN, vN, vN]) 5 rfl ?_; exact k2 q
theorem b225_70 {d : Nat} {Q : Option sV → sM → sG → Prop} {M : sM} {G : sG} {a0 : Nat} {x1 : Int} {x3 : Int} {x4 : Int} {x6 : Int} (h1 : 0 ≤ x6 ∧ x6 < 10) (kk : sC d 226 [vO 12 a0, vL (M (a0 + 10) x6.toNat)] M G (QV (fun M1 G1 => sW (sC d) 225 Q 81 [vO 12 a0, vI x1, vN, vI x3, vI x4, vN, vN, vN, vN, vN, vN] [] M1 G1 0 0))) : sW (sC d) 225 Q 70 [vO 12 a0, vI x1, vN, vI x3, vI x4, vN, vI x6, vN, vN, vN, vN] [] M G 0 0 := by
  refine q_aload_n 71 rfl (show sCode 225 70 = some (.aload_n 0, 1) by decide +kernel) rfl (Nat.le_of_ble_eq_true rfl) ?_
  refine q_aload_n 72 rfl (show sCode 225 71 = some (.aload_n 0, 1) by decide +kernel) rfl (Nat.le_of_ble_eq_true rfl) ?_
  refine q_getR (vA 1 (a0 + 10) 10) 75 rfl (show sCode 225 72 = some (.getfield 39, 3) by decide +kernel) (show sFR (sKo 225).1 39 = some (12, 22) by decide +kernel) (by decide +kernel) (Or.inl (Or.inl rfl)) rfl ?_
  refine q_iload 77 rfl (show sCode 225 75 = some (.iload 6, 2) by decide +kernel) rfl ?_
  refine q_lald 78 rfl (show sCode 225 77 = some (.laload, 1) by decide +kernel) h1 ?_
  refine q_forget (L' := [vO 12 a0, vI x1, vN, vI x3, vI x4, vN, vN, vN, vN, vN, vN]) 6 rfl ?_
  exact q_virtV [vL (M (a0 + 10) x6.toNat)] 81 rfl (show sCode 225 78 = some (.invokevirtual 264, 3) by decide +kernel) (show sMR (sKo 225).1 264 = some 226 by decide +kernel) (show 226 < 1000 ∧ sStat 226 = false ∧ sIni 226 = false ∧ sKo 226 = (12, 1, 0, 0, 0) by decide +kernel) rfl (Or.inl rfl) rfl (Nat.le_of_ble_eq_true rfl) rfl rfl rfl (by decide +kernel) kk
theorem b225_81 {d : Nat} {Q : Option sV → sM → sG → Prop} {M : sM} {G : sG} {a0 : Nat} {x1 : Int} {x3 : Int} {x4 : Int}  (kk : sW (sC d) 225 Q 129 [vO 12 a0, vI x1, vN, vI x3, vI x4, vN, vN, vN, vN, vN, vN] [] M G 0 0) : sW (sC d) 225 Q 81 [vO 12 a0, vI x1, vN, vI x3, vI x4, vN, vN, vN, vN, vN, vN] [] M G 0 0 := by
  refine q_goto 129 (by decide) (show sCode 225 81 = some (.goto 48, 3) by decide +kernel) ?_
  exact kk
theorem b225_84 {d : Nat} {Q : Option sV → sM → sG → Prop} {M : sM} {G : sG} {a0 : Nat} {x1 : Int} {x3 : Int} {x4 : Int} {x5 : Int}  (k1 : x5 ≠ 11 → sW (sC d) 225 Q 104 [vO 12 a0, vI x1, vN, vI x3, vI x4, vI x5, vN, vN, vN, vN, vN] [] M G 0 0) (k2 : x5 = 11 → sW (sC d) 225 Q 91 [vO 12 a0, vI x1, vN, vI x3, vI x4, vN, vN, vN, vN, vN, vN] [] M G 0 0) : sW (sC d) 225 Q 84 [vO 12 a0, vI x1, vN, vI x3, vI x4, vI x5, vN, vN, vN, vN, vN] [] M G 0 0 := by
  refine q_iload 86 rfl (show sCode 225 84 = some (.iload 5, 2) by decide +kernel) rfl ?_
  refine q_bipush 88 rfl (show sCode 225 86 = some (.bipush 11, 2) by decide +kernel) ⟨by decide, by decide⟩ (by decide +kernel) ?_
  refine q_icmpne 104 91 rfl (by decide) (show sCode 225 88 = some (.if_icmp .ne 16, 3) by decide +kernel) ?_ ?_
  · intro q; exact k1 q
  · intro q; refine q_forget (L' := [vO 12 a0, vI x1, vN, vI x3, vI x4, vN, vN, vN, vN, vN, vN]) 5 rfl ?_; exact k2 q
theorem b225_91 {d : Nat} {Q : Option sV → sM → sG → Prop} {M : sM} {G : sG} {a0 : Nat} {x1 : Int} {x3 : Int} {x4 : Int}  (kk : sC d 227 [vO 12 a0] M G (QL (fun r M1 G1 => sW (sC d) 225 Q 97 [vO 12 a0, vI x1, vN, vI x3, vI x4, vN, vN, vN, vN, vN, vN] (vL r :: [vL 1, vO 12 a0]) M1 G1 0 0))) : sW (sC d) 225 Q 91 [vO 12 a0, vI x1, vN, vI x3, vI x4, vN, vN, vN, vN, vN, vN] [] M G 0 0 := by
  refine q_aload_n 92 rfl (show sCode 225 91 = some (.aload_n 0, 1) by decide +kernel) rfl (Nat.le_of_ble_eq_true rfl) ?_
  refine q_lconst 93 rfl (show sCode 225 92 = some (.lconst 1, 1) by decide +kernel) ?_
  refine q_aload_n 94 rfl (show sCode 225 93 = some (.aload_n 0, 1) by decide +kernel) rfl (Nat.le_of_ble_eq_true rfl) ?_
  exact q_virtL [] 97 rfl (show sCode 225 94 = some (.invokevirtual 268, 3) by decide +kernel) (show sMR (sKo 225).1 268 = some 227 by decide +kernel) (show 227 < 1000 ∧ sStat 227 = false ∧ sIni 227 = false ∧ sKo 227 = (12, 0, 3, 0, 0) by decide +kernel) rfl (Or.inl rfl) rfl (Nat.le_of_ble_eq_true rfl) rfl rfl rfl (by decide +kernel) kk
theorem b225_97 {d : Nat} {Q : Option sV → sM → sG → Prop} {M : sM} {G : sG} {a0 : Nat} {x1 : Int} {x3 : Int} {x4 : Int} {s0 : Int} {s1 : Int} {sa2 : Nat}  (kk : sC d 226 [vO 12 sa2, vL (jWrap (s1 - s0))] M G (QV (fun M1 G1 => sW (sC d) 225 Q 101 [vO 12 a0, vI x1, vN, vI x3, vI x4, vN, vN, vN, vN, vN, vN] [] M1 G1 0 0))) : sW (sC d) 225 Q 97 [vO 12 a0, vI x1, vN, vI x3, vI x4, vN, vN, vN, vN, vN, vN] [vL s0, vL s1, vO 12 sa2] M G 0 0 := by
  refine q_lsub 98 rfl (show sCode 225 97 = some (.lsub, 1) by decide +kernel) ?_
  exact q_virtV [vL (jWrap (s1 - s0))] 101 rfl (show sCode 225 98 = some (.invokevirtual 264, 3) by decide +kernel) (show sMR (sKo 225).1 264 = some 226 by decide +kernel) (show 226 < 1000 ∧ sStat 226 = false ∧ sIni 226 = false ∧ sKo 226 = (12, 1, 0, 0, 0) by decide +kernel) rfl (Or.inl rfl) rfl (Nat.le_of_ble_eq_true rfl) rfl rfl rfl (by decide +kernel) kk
theorem b225_101 {d : Nat} {Q : Option sV → sM → sG → Prop} {M : sM} {G : sG} {a0 : Nat} {x1 : Int} {x3 : Int} {x4 : Int}  (kk : sW (sC d) 225 Q 129 [vO 12 a0, vI x1, vN, vI x3, vI x4, vN, vN, vN, vN, vN, vN] [] M G 0 0) : sW (sC d) 225 Q 101 [vO 12 a0, vI x1, vN, vI x3, vI x4, vN, vN, vN, vN, vN, vN] [] M G 0 0 := by
  refine q_goto 129 (by decide) (show sCode 225 101 = some (.goto 28, 3) by decide +kernel) ?_
  exact kk
theorem b225_104 {d : Nat} {Q : Option sV → sM → sG → Prop} {M : sM} {G : sG} {a0 : Nat} {x1 : Int} {x3 : Int} {x4 : Int} {x5 : Int}  (kk : sC d 227 [vO 12 a0] M G (QL (fun r M1 G1 => sW (sC d) 225 Q 108 [vO 12 a0, vI x1, vN, vI x3, vI x4, vI x5, vN, vN, vN, vN, vN] (vL r :: []) M1 G1 0 0))) : sW (sC d) 225 Q 104 [vO 12 a0, vI x1, vN, vI x3, vI x4, vI x5, vN, vN, vN, vN, vN] [] M G 0 0 := by
  refine q_aload_n 105 rfl (show sCode 225 104 = some (.aload_n 0, 1) by decide +kernel) rfl (Nat.le_of_ble_eq_true rfl) ?_
  exact q_virtL [] 108 rfl (show sCode 225 105 = some (.invokevirtual 268, 3) by decide +kernel) (show sMR (sKo 225).1 268 = some 227 by decide +kernel) (show 227 < 1000 ∧ sStat 227 = false ∧ sIni 227 = false ∧ sKo 227 = (12, 0, 3, 0, 0) by decide +kernel) rfl (Or.inl rfl) rfl (Nat.le_of_ble_eq_true rfl) rfl rfl rfl (by decide +kernel) kk
theorem b225_108 {d : Nat} {Q : Option sV → sM → sG → Prop} {M : sM} {G : sG} {a0 : Nat} {x1 : Int} {x3 : Int} {x4 : Int} {x5 : Int} {s0 : Int}  (kk : sC d 227 [vO 12 a0] M G (QL (fun r M1 G1 => sW (sC d) 225 Q 114 [vO 12 a0, vI x1, vN, vI x3, vI x4, vI x5, vN, vL s0, vN, vN, vN] (vL r :: []) M1 G1 0 0))) : sW (sC d) 225 Q 108 [vO 12 a0, vI x1, vN, vI x3, vI x4, vI x5, vN, vN, vN, vN, vN] [vL s0] M G 0 0 := by
  refine q_lstore [vO 12 a0, vI x1, vN, vI x3, vI x4, vI x5, vN, vL s0, vN, vN, vN] 110 rfl (show sCode 225 108 = some (.lstore 7, 2) by decide +kernel) (Nat.lt_of_lt_of_le (Nat.lt_succ_self _) (Nat.le_of_ble_eq_true rfl)) rfl rfl ?_
  refine q_aload_n 111 rfl (show sCode 225 110 = some (.aload_n 0, 1) by decide +kernel) rfl (Nat.le_of_ble_eq_true rfl) ?_
  exact q_virtL [] 114 rfl (show sCode 225 111 = some (.invokevirtual 268, 3) by decide +kernel) (show sMR (sKo 225).1 268 = some 227 by decide +kernel) (show 227 < 1000 ∧ sStat 227 = false ∧ sIni 227 = false ∧ sKo 227 = (12, 0, 3, 0, 0) by decide +kernel) rfl (Or.inl rfl) rfl (Nat.le_of_ble_eq_true rfl) rfl rfl rfl (by decide +kernel) kk
theorem b225_114 {d : Nat} {Q : Option sV → sM → sG → Prop} {M : sM} {G : sG} {a0 : Nat} {x1 : Int} {x3 : Int} {x4 : Int} {x5 : Int} {y7 : Int} {s0 : Int}  (kk : sC d 228 [vI x5, vL s0, vL y7] M G (QL (fun r M1 G1 => sW (sC d) 225 Q 126 [vO 12 a0, vI x1, vN, vI x3, vI x4, vN, vN, vN, vN, vN, vN] (vL r :: [vO 12 a0]) M1 G1 0 0))) : sW (sC d) 225 Q 114 [vO 12 a0, vI x1, vN, vI x3, vI x4, vI x5, vN, vL y7, vN, vN, vN] [vL s0] M G 0 0 := by
  refine q_lstore [vO 12 a0, vI x1, vN, vI x3, vI x4, vI x5, vN, vL y7, vN, vL s0, vN] 116 rfl (show sCode 225 114 = some (.lstore 9, 2) by decide +kernel) (Nat.lt_of_lt_of_le (Nat.lt_succ_self _) (Nat.le_of_ble_eq_true rfl)) rfl rfl ?_
  refine q_aload_n 117 rfl (show sCode 225 116 = some (.aload_n 0, 1) by decide +kernel) rfl (Nat.le_of_ble_eq_true rfl) ?_
  refine q_iload 119 rfl (show sCode 225 117 = some (.iload 5, 2) by decide +kernel) rfl ?_
  refine q_lload 121 rfl (show sCode 225 119 = some (.lload 9, 2) by decide +kernel) rfl ?_
  refine q_lload 123 rfl (show sCode 225 121 = some (.lload 7, 2) by decide +kernel) rfl ?_
  refine q_forget (L' := [vO 12 a0, vI x1, vN, vI x3, vI x4, vN, vN, vL y7, vN, vL s0, vN]) 5 rfl ?_
  refine q_forget (L' := [vO 12 a0, vI x1, vN, vI x3, vI x4, vN, vN, vN, vN, vL s0, vN]) 7 rfl ?_
  refine q_forget (L' := [vO 12 a0, vI x1, vN, vI x3, vI x4, vN, vN, vN, vN, vN, vN]) 9 rfl ?_
  exact q_statL [vI x5, vL s0, vL y7] 126 rfl (show sCode 225 123 = some (.invokestatic 272, 3) by decide +kernel) (show sMR (sKo 225).1 272 = some 228 by decide +kernel) (show 228 < 1000 ∧ sStat 228 = true ∧ sKo 228 = (12, 3, 3, 0, 0) by decide +kernel) rfl rfl (Nat.le_of_ble_eq_true rfl) rfl rfl rfl (by decide +kernel) kk
theorem b225_126 {d : Nat} {Q : Option sV → sM → sG → Prop} {M : sM} {G : sG} {a0 : Nat} {x1 : Int} {x3 : Int} {x4 : Int} {s0 : Int} {sa1 : Nat}  (kk : sC d 226 [vO 12 sa1, vL s0] M G (QV (fun M1 G1 => sW (sC d) 225 Q 129 [vO 12 a0, vI x1, vN, vI x3, vI x4, vN, vN, vN, vN, vN, vN] [] M1 G1 0 0))) : sW (sC d) 225 Q 126 [vO 12 a0, vI x1, vN, vI x3, vI x4, vN, vN, vN, vN, vN, vN] [vL s0, vO 12 sa1] M G 0 0 := by
  exact q_virtV [vL s0] 129 rfl (show sCode 225 126 = some (.invokevirtual 264, 3) by decide +kernel) (show sMR (sKo 225).1 264 = some 226 by decide +kernel) (show 226 < 1000 ∧ sStat 226 = false ∧ sIni 226 = false ∧ sKo 226 = (12, 1, 0, 0, 0) by decide +kernel) rfl (Or.inl rfl) rfl (Nat.le_of_ble_eq_true rfl) rfl rfl rfl (by decide +kernel) kk
theorem b225_129 {d : Nat} {Q : Option sV → sM → sG → Prop} {M : sM} {G : sG} {a0 : Nat} {x1 : Int} {x3 : Int} {x4 : Int} (h1 : sI (x4 + 1)) (kk : sW (sC d) 225 Q 8 [vO 12 a0, vI x1, vN, vI x3, vI (x4 + 1), vN, vN, vN, vN, vN, vN] [] M G 0 0) : sW (sC d) 225 Q 129 [vO 12 a0, vI x1, vN, vI x3, vI x4, vN, vN, vN, vN, vN, vN] [] M G 0 0 := by
  refine q_iinc [vO 12 a0, vI x1, vN, vI x3, vI (x4 + 1), vN, vN, vN, vN, vN, vN] 132 rfl (show sCode 225 129 = some (.iinc 4 1, 3) by decide +kernel) rfl rfl h1 rfl ?_
  refine q_goto 8 (by decide) (show sCode 225 132 = some (.goto (-124), 3) by decide +kernel) ?_
  exact kk
theorem b225_135 {d : Nat} {Q : Option sV → sM → sG → Prop} {M : sM} {G : sG} {a0 : Nat}  (kk : sC d 227 [vO 12 a0] M G (QL (fun r M1 G1 => sW (sC d) 225 Q 139 [vN, vN, vN, vN, vN, vN, vN, vN, vN, vN, vN] (vL r :: []) M1 G1 0 0))) : sW (sC d) 225 Q 135 [vO 12 a0, vN, vN, vN, vN, vN, vN, vN, vN, vN, vN] [] M G 0 0 := by
  refine q_aload_n 136 rfl (show sCode 225 135 = some (.aload_n 0, 1) by decide +kernel) rfl (Nat.le_of_ble_eq_true rfl) ?_
  refine q_forget (L' := [vN, vN, vN, vN, vN, vN, vN, vN, vN, vN, vN]) 0 rfl ?_
  exact q_virtL [] 139 rfl (show sCode 225 136 = some (.invokevirtual 268, 3) by decide +kernel) (show sMR (sKo 225).1 268 = some 227 by decide +kernel) (show 227 < 1000 ∧ sStat 227 = false ∧ sIni 227 = false ∧ sKo 227 = (12, 0, 3, 0, 0) by decide +kernel) rfl (Or.inl rfl) rfl (Nat.le_of_ble_eq_true rfl) rfl rfl rfl (by decide +kernel) kk
theorem b225_139 {d : Nat} {P : Int → sM → sG → Prop} {M : sM} {G : sG} {s0 : Int}  (kk : P s0 M G) : sW (sC d) 225 (QL P) 139 [vN, vN, vN, vN, vN, vN, vN, vN, vN, vN, vN] [vL s0] M G 0 0 := by
  exact q_lret (show sCode 225 139 = some (.lreturn, 1) by decide +kernel) (by decide +kernel) (by decide +kernel) kk
-- 226 AfterTheLastModel.push (J)V
theorem b226_0 {d : Nat} {P : sM → sG → Prop} {M : sM} {G : sG} {a0 : Nat} {y1 : Int} (h1 : 0 ≤ M a0 21 ∧ M a0 21 < 64) (h2 : sI (((sUpd M (a0 + 9) (M a0 21).toNat y1) a0 21) + 1)) (kk : P (sUpd (sUpd M (a0 + 9) (M a0 21).toNat y1) a0 21 (((sUpd M (a0 + 9) (M a0 21).toNat y1) a0 21) + 1)) G) : sW (sC d) 226 (QV P) 0 [vO 12 a0, vL y1, vN] [] M G 0 0 := by
  refine q_aload_n 1 rfl (show sCode 226 0 = some (.aload_n 0, 1) by decide +kernel) rfl (Nat.le_of_ble_eq_true rfl) ?_
  refine q_getR (vA 1 (a0 + 9) 64) 4 rfl (show sCode 226 1 = some (.getfield 35, 3) by decide +kernel) (show sFR (sKo 226).1 35 = some (12, 20) by decide +kernel) (by decide +kernel) (Or.inl (Or.inl rfl)) rfl ?_
  refine q_aload_n 5 rfl (show sCode 226 4 = some (.aload_n 0, 1) by decide +kernel) rfl (Nat.le_of_ble_eq_true rfl) ?_
  refine q_getI 8 rfl (show sCode 226 5 = some (.getfield 261, 3) by decide +kernel) (show sFR (sKo 226).1 261 = some (12, 21) by decide +kernel) (by decide +kernel) (Or.inl (Or.inl rfl)) ?_
  refine q_lload_n 9 rfl (show sCode 226 8 = some (.lload_n 1, 1) by decide +kernel) rfl ?_
  refine q_last 10 rfl (show sCode 226 9 = some (.lastore, 1) by decide +kernel) h1 ?_
  refine q_aload_n 11 rfl (show sCode 226 10 = some (.aload_n 0, 1) by decide +kernel) rfl (Nat.le_of_ble_eq_true rfl) ?_
  refine q_dup 12 rfl (show sCode 226 11 = some (.dup, 1) by decide +kernel) rfl ?_
  refine q_getI 15 rfl (show sCode 226 12 = some (.getfield 261, 3) by decide +kernel) (show sFR (sKo 226).1 261 = some (12, 21) by decide +kernel) (by decide +kernel) (Or.inl (Or.inl rfl)) ?_
  refine q_iconst 16 rfl (show sCode 226 15 = some (.iconst 1, 1) by decide +kernel) ⟨by decide, by decide⟩ ?_
  refine q_iadd 17 rfl (show sCode 226 16 = some (.iadd, 1) by decide +kernel) h2 ?_
  refine q_putI 20 rfl (show sCode 226 17 = some (.putfield 261, 3) by decide +kernel) (show sFR (sKo 226).1 261 = some (12, 21) by decide +kernel) (by decide +kernel) (Or.inl ⟨Or.inl rfl, by decide +kernel⟩) ?_
  exact q_vret (show sCode 226 20 = some (.return_, 1) by decide +kernel) (by decide +kernel) (by decide +kernel) kk
-- 227 AfterTheLastModel.pop ()J
theorem b227_0 {d : Nat} {P : Int → sM → sG → Prop} {M : sM} {G : sG} {a0 : Nat} (h1 : sI ((M a0 21) - 1)) (h2 : 0 ≤ (sUpd M a0 21 ((M a0 21) - 1)) a0 21 ∧ (sUpd M a0 21 ((M a0 21) - 1)) a0 21 < 64) (kk : P ((sUpd M a0 21 ((M a0 21) - 1)) (a0 + 9) ((sUpd M a0 21 ((M a0 21) - 1)) a0 21).toNat) (sUpd M a0 21 ((M a0 21) - 1)) G) : sW (sC d) 227 (QL P) 0 [vO 12 a0] [] M G 0 0 := by
  refine q_aload_n 1 rfl (show sCode 227 0 = some (.aload_n 0, 1) by decide +kernel) rfl (Nat.le_of_ble_eq_true rfl) ?_
  refine q_dup 2 rfl (show sCode 227 1 = some (.dup, 1) by decide +kernel) rfl ?_
  refine q_getI 5 rfl (show sCode 227 2 = some (.getfield 261, 3) by decide +kernel) (show sFR (sKo 227).1 261 = some (12, 21) by decide +kernel) (by decide +kernel) (Or.inl (Or.inl rfl)) ?_
  refine q_iconst 6 rfl (show sCode 227 5 = some (.iconst 1, 1) by decide +kernel) ⟨by decide, by decide⟩ ?_
  refine q_isub 7 rfl (show sCode 227 6 = some (.isub, 1) by decide +kernel) h1 ?_
  refine q_putI 10 rfl (show sCode 227 7 = some (.putfield 261, 3) by decide +kernel) (show sFR (sKo 227).1 261 = some (12, 21) by decide +kernel) (by decide +kernel) (Or.inl ⟨Or.inl rfl, by decide +kernel⟩) ?_
  refine q_aload_n 11 rfl (show sCode 227 10 = some (.aload_n 0, 1) by decide +kernel) rfl (Nat.le_of_ble_eq_true rfl) ?_
  refine q_getR (vA 1 (a0 + 9) 64) 14 rfl (show sCode 227 11 = some (.getfield 35, 3) by decide +kernel) (show sFR (sKo 227).1 35 = some (12, 20) by decide +kernel) (by decide +kernel) (Or.inl (Or.inl rfl)) rfl ?_
  refine q_aload_n 15 rfl (show sCode 227 14 = some (.aload_n 0, 1) by decide +kernel) rfl (Nat.le_of_ble_eq_true rfl) ?_
  refine q_getI 18 rfl (show sCode 227 15 = some (.getfield 261, 3) by decide +kernel) (show sFR (sKo 227).1 261 = some (12, 21) by decide +kernel) (by decide +kernel) (Or.inl (Or.inl rfl)) ?_
  refine q_lald 19 rfl (show sCode 227 18 = some (.laload, 1) by decide +kernel) h2 ?_
  exact q_lret (show sCode 227 19 = some (.lreturn, 1) by decide +kernel) (by decide +kernel) (by decide +kernel) kk
-- 228 AfterTheLastModel.one (IJJ)J
theorem b228_0 {d : Nat} {Q : Option sV → sM → sG → Prop} {M : sM} {G : sG} {x0 : Int} {y1 : Int} {y3 : Int}  (kd : x0 < 2 ∨ 12 < x0 → sW (sC d) 228 Q 150 [vN, vL y1, vN, vL y3, vN] [] M G 0 0) (k2 : x0 = 2 → sW (sC d) 228 Q 60 [vN, vL y1, vN, vL y3, vN] [] M G 0 0) (k3 : x0 = 3 → sW (sC d) 228 Q 64 [vN, vL y1, vN, vL y3, vN] [] M G 0 0) (k4 : x0 = 4 → sW (sC d) 228 Q 68 [vN, vL y1, vN, vL y3, vN] [] M G 0 0) (k5 : x0 = 5 → sW (sC d) 228 Q 72 [vN, vL y1, vN, vL y3, vN] [] M G 0 0) (k6 : x0 = 6 → sW (sC d) 228 Q 86 [vN, vL y1, vN, vL y3, vN] [] M G 0 0) (k7 : x0 = 7 → sW (sC d) 228 Q 98 [vN, vL y1, vN, vL y3, vN] [] M G 0 0) (k8 : x0 = 8 → sW (sC d) 228 Q 110 [vN, vL y1, vN, vL y3, vN] [] M G 0 0) (k9 : x0 = 9 → sW (sC d) 228 Q 122 [vN, vL y1, vN, vL y3, vN] [] M G 0 0) (k10 : x0 = 10 → sW (sC d) 228 Q 134 [vN, vL y1, vN, vL y3, vN] [] M G 0 0) (k11 : x0 = 11 → sW (sC d) 228 Q 150 [vN, vL y1, vN, vL y3, vN] [] M G 0 0) (k12 : x0 = 12 → sW (sC d) 228 Q 146 [vN, vL y1, vN, vL y3, vN] [] M G 0 0) : sW (sC d) 228 Q 0 [vI x0, vL y1, vN, vL y3, vN] [] M G 0 0 := by
  refine q_iload_n 1 rfl (show sCode 228 0 = some (.iload_n 0, 1) by decide +kernel) rfl ?_
  refine q_switch (show sCode 228 1 = some (.tableswitch 149 2 12 #[59, 63, 67, 71, 85, 97, 109, 121, 133, 149, 145], 59) by decide +kernel) (fun q => ⟨150, by decide, ?_⟩) (fun q1 q2 => ?_)
  · refine q_forget (L' := [vN, vL y1, vN, vL y3, vN]) 0 rfl ?_; exact kd q
  · have q3 : x0 = 2 ∨ x0 = 3 ∨ x0 = 4 ∨ x0 = 5 ∨ x0 = 6 ∨ x0 = 7 ∨ x0 = 8 ∨ x0 = 9 ∨ x0 = 10 ∨ x0 = 11 ∨ x0 = 12 := by omega
    rcases q3 with q | q | q | q | q | q | q | q | q | q | q
    · refine ⟨59, 60, by rw [q]; rfl, by decide, ?_⟩; refine q_forget (L' := [vN, vL y1, vN, vL y3, vN]) 0 rfl ?_; exact k2 q
    · refine ⟨63, 64, by rw [q]; rfl, by decide, ?_⟩; refine q_forget (L' := [vN, vL y1, vN, vL y3, vN]) 0 rfl ?_; exact k3 q
    · refine ⟨67, 68, by rw [q]; rfl, by decide, ?_⟩; refine q_forget (L' := [vN, vL y1, vN, vL y3, vN]) 0 rfl ?_; exact k4 q
    · refine ⟨71, 72, by rw [q]; rfl, by decide, ?_⟩; refine q_forget (L' := [vN, vL y1, vN, vL y3, vN]) 0 rfl ?_; exact k5 q
    · refine ⟨85, 86, by rw [q]; rfl, by decide, ?_⟩; refine q_forget (L' := [vN, vL y1, vN, vL y3, vN]) 0 rfl ?_; exact k6 q
    · refine ⟨97, 98, by rw [q]; rfl, by decide, ?_⟩; refine q_forget (L' := [vN, vL y1, vN, vL y3, vN]) 0 rfl ?_; exact k7 q
    · refine ⟨109, 110, by rw [q]; rfl, by decide, ?_⟩; refine q_forget (L' := [vN, vL y1, vN, vL y3, vN]) 0 rfl ?_; exact k8 q
    · refine ⟨121, 122, by rw [q]; rfl, by decide, ?_⟩; refine q_forget (L' := [vN, vL y1, vN, vL y3, vN]) 0 rfl ?_; exact k9 q
    · refine ⟨133, 134, by rw [q]; rfl, by decide, ?_⟩; refine q_forget (L' := [vN, vL y1, vN, vL y3, vN]) 0 rfl ?_; exact k10 q
    · refine ⟨149, 150, by rw [q]; rfl, by decide, ?_⟩; refine q_forget (L' := [vN, vL y1, vN, vL y3, vN]) 0 rfl ?_; exact k11 q
    · refine ⟨145, 146, by rw [q]; rfl, by decide, ?_⟩; refine q_forget (L' := [vN, vL y1, vN, vL y3, vN]) 0 rfl ?_; exact k12 q
theorem b228_60 {d : Nat} {P : Int → sM → sG → Prop} {M : sM} {G : sG} {y1 : Int} {y3 : Int}  (kk : P (jWrap (y1 + y3)) M G) : sW (sC d) 228 (QL P) 60 [vN, vL y1, vN, vL y3, vN] [] M G 0 0 := by
  refine q_lload_n 61 rfl (show sCode 228 60 = some (.lload_n 1, 1) by decide +kernel) rfl ?_
  refine q_lload_n 62 rfl (show sCode 228 61 = some (.lload_n 3, 1) by decide +kernel) rfl ?_
  refine q_ladd 63 rfl (show sCode 228 62 = some (.ladd, 1) by decide +kernel) ?_
  exact q_lret (show sCode 228 63 = some (.lreturn, 1) by decide +kernel) (by decide +kernel) (by decide +kernel) kk
theorem b228_64 {d : Nat} {P : Int → sM → sG → Prop} {M : sM} {G : sG} {y1 : Int} {y3 : Int}  (kk : P (jWrap (y1 - y3)) M G) : sW (sC d) 228 (QL P) 64 [vN, vL y1, vN, vL y3, vN] [] M G 0 0 := by
  refine q_lload_n 65 rfl (show sCode 228 64 = some (.lload_n 1, 1) by decide +kernel) rfl ?_
  refine q_lload_n 66 rfl (show sCode 228 65 = some (.lload_n 3, 1) by decide +kernel) rfl ?_
  refine q_lsub 67 rfl (show sCode 228 66 = some (.lsub, 1) by decide +kernel) ?_
  exact q_lret (show sCode 228 67 = some (.lreturn, 1) by decide +kernel) (by decide +kernel) (by decide +kernel) kk
theorem b228_68 {d : Nat} {P : Int → sM → sG → Prop} {M : sM} {G : sG} {y1 : Int} {y3 : Int}  (kk : P (jWrap (y1 * y3)) M G) : sW (sC d) 228 (QL P) 68 [vN, vL y1, vN, vL y3, vN] [] M G 0 0 := by
  refine q_lload_n 69 rfl (show sCode 228 68 = some (.lload_n 1, 1) by decide +kernel) rfl ?_
  refine q_lload_n 70 rfl (show sCode 228 69 = some (.lload_n 3, 1) by decide +kernel) rfl ?_
  refine q_lmul 71 rfl (show sCode 228 70 = some (.lmul, 1) by decide +kernel) ?_
  exact q_lret (show sCode 228 71 = some (.lreturn, 1) by decide +kernel) (by decide +kernel) (by decide +kernel) kk
theorem b228_72 {d : Nat} {Q : Option sV → sM → sG → Prop} {M : sM} {G : sG} {y1 : Int} {y3 : Int}  (k1 : y3 ≠ 0 → sW (sC d) 228 Q 82 [vN, vL y1, vN, vL y3, vN] [] M G 0 0) (k2 : y3 = 0 → sW (sC d) 228 Q 78 [vN, vN, vN, vN, vN] [] M G 0 0) : sW (sC d) 228 Q 72 [vN, vL y1, vN, vL y3, vN] [] M G 0 0 := by
  refine q_lload_n 73 rfl (show sCode 228 72 = some (.lload_n 3, 1) by decide +kernel) rfl ?_
  refine q_lconst 74 rfl (show sCode 228 73 = some (.lconst 0, 1) by decide +kernel) ?_
  refine q_lifne (off := 7) 82 78 rfl (by decide) (show sCode 228 74 = some (.lcmp, 1) by decide +kernel) (by decide +kernel) ?_ ?_
  · intro q; exact k1 q
  · intro q; refine q_forget (L' := [vN, vN, vN, vL y3, vN]) 1 rfl ?_; refine q_forget (L' := [vN, vN, vN, vN, vN]) 3 rfl ?_; exact k2 q
theorem b228_78 {d : Nat} {Q : Option sV → sM → sG → Prop} {M : sM} {G : sG}   (kk : sW (sC d) 228 Q 85 [vN, vN, vN, vN, vN] [vL 0] M G 0 0) : sW (sC d) 228 Q 78 [vN, vN, vN, vN, vN] [] M G 0 0 := by
  refine q_lconst 79 rfl (show sCode 228 78 = some (.lconst 0, 1) by decide +kernel) ?_
  refine q_goto 85 (by decide) (show sCode 228 79 = some (.goto 6, 3) by decide +kernel) ?_
  exact kk
theorem b228_82 {d : Nat} {Q : Option sV → sM → sG → Prop} {M : sM} {G : sG} {y1 : Int} {y3 : Int} (h1 : y3 ≠ 0) (kk : sW (sC d) 228 Q 85 [vN, vN, vN, vN, vN] [vL (jDiv y1 y3)] M G 0 0) : sW (sC d) 228 Q 82 [vN, vL y1, vN, vL y3, vN] [] M G 0 0 := by
  refine q_lload_n 83 rfl (show sCode 228 82 = some (.lload_n 1, 1) by decide +kernel) rfl ?_
  refine q_lload_n 84 rfl (show sCode 228 83 = some (.lload_n 3, 1) by decide +kernel) rfl ?_
  refine q_ldiv 85 rfl (show sCode 228 84 = some (.ldiv, 1) by decide +kernel) h1 ?_
  refine q_forget (L' := [vN, vN, vN, vL y3, vN]) 1 rfl ?_
  refine q_forget (L' := [vN, vN, vN, vN, vN]) 3 rfl ?_
  exact kk
theorem b228_85 {d : Nat} {P : Int → sM → sG → Prop} {M : sM} {G : sG} {s0 : Int}  (kk : P s0 M G) : sW (sC d) 228 (QL P) 85 [vN, vN, vN, vN, vN] [vL s0] M G 0 0 := by
  exact q_lret (show sCode 228 85 = some (.lreturn, 1) by decide +kernel) (by decide +kernel) (by decide +kernel) kk
theorem b228_86 {d : Nat} {Q : Option sV → sM → sG → Prop} {M : sM} {G : sG} {y1 : Int} {y3 : Int}  (k1 : y3 ≤ y1 → sW (sC d) 228 Q 96 [vN, vN, vN, vN, vN] [] M G 0 0) (k2 : y1 < y3 → sW (sC d) 228 Q 92 [vN, vN, vN, vN, vN] [] M G 0 0) : sW (sC d) 228 Q 86 [vN, vL y1, vN, vL y3, vN] [] M G 0 0 := by
  refine q_lload_n 87 rfl (show sCode 228 86 = some (.lload_n 1, 1) by decide +kernel) rfl ?_
  refine q_lload_n 88 rfl (show sCode 228 87 = some (.lload_n 3, 1) by decide +kernel) rfl ?_
  refine q_lifge (off := 7) 96 92 rfl (by decide) (show sCode 228 88 = some (.lcmp, 1) by decide +kernel) (by decide +kernel) ?_ ?_
  · intro q; refine q_forget (L' := [vN, vN, vN, vL y3, vN]) 1 rfl ?_; refine q_forget (L' := [vN, vN, vN, vN, vN]) 3 rfl ?_; exact k1 q
  · intro q; refine q_forget (L' := [vN, vN, vN, vL y3, vN]) 1 rfl ?_; refine q_forget (L' := [vN, vN, vN, vN, vN]) 3 rfl ?_; exact k2 q
theorem b228_92 {d : Nat} {Q : Option sV → sM → sG → Prop} {M : sM} {G : sG}   (kk : sW (sC d) 228 Q 97 [vN, vN, vN, vN, vN] [vL 1] M G 0 0) : sW (sC d) 228 Q 92 [vN, vN, vN, vN, vN] [] M G 0 0 := by
  refine q_lconst 93 rfl (show sCode 228 92 = some (.lconst 1, 1) by decide +kernel) ?_
  refine q_goto 97 (by decide) (show sCode 228 93 = some (.goto 4, 3) by decide +kernel) ?_
  exact kk
theorem b228_96 {d : Nat} {Q : Option sV → sM → sG → Prop} {M : sM} {G : sG}   (kk : sW (sC d) 228 Q 97 [vN, vN, vN, vN, vN] [vL 0] M G 0 0) : sW (sC d) 228 Q 96 [vN, vN, vN, vN, vN] [] M G 0 0 := by
  refine q_lconst 97 rfl (show sCode 228 96 = some (.lconst 0, 1) by decide +kernel) ?_
  exact kk
theorem b228_97 {d : Nat} {P : Int → sM → sG → Prop} {M : sM} {G : sG} {s0 : Int}  (kk : P s0 M G) : sW (sC d) 228 (QL P) 97 [vN, vN, vN, vN, vN] [vL s0] M G 0 0 := by
  exact q_lret (show sCode 228 97 = some (.lreturn, 1) by decide +kernel) (by decide +kernel) (by decide +kernel) kk
theorem b228_98 {d : Nat} {Q : Option sV → sM → sG → Prop} {M : sM} {G : sG} {y1 : Int} {y3 : Int}  (k1 : y3 < y1 → sW (sC d) 228 Q 108 [vN, vN, vN, vN, vN] [] M G 0 0) (k2 : y1 ≤ y3 → sW (sC d) 228 Q 104 [vN, vN, vN, vN, vN] [] M G 0 0) : sW (sC d) 228 Q 98 [vN, vL y1, vN, vL y3, vN] [] M G 0 0 := by
  refine q_lload_n 99 rfl (show sCode 228 98 = some (.lload_n 1, 1) by decide +kernel) rfl ?_
  refine q_lload_n 100 rfl (show sCode 228 99 = some (.lload_n 3, 1) by decide +kernel) rfl ?_
  refine q_lifgt (off := 7) 108 104 rfl (by decide) (show sCode 228 100 = some (.lcmp, 1) by decide +kernel) (by decide +kernel) ?_ ?_
  · intro q; refine q_forget (L' := [vN, vN, vN, vL y3, vN]) 1 rfl ?_; refine q_forget (L' := [vN, vN, vN, vN, vN]) 3 rfl ?_; exact k1 q
  · intro q; refine q_forget (L' := [vN, vN, vN, vL y3, vN]) 1 rfl ?_; refine q_forget (L' := [vN, vN, vN, vN, vN]) 3 rfl ?_; exact k2 q
theorem b228_104 {d : Nat} {Q : Option sV → sM → sG → Prop} {M : sM} {G : sG}   (kk : sW (sC d) 228 Q 109 [vN, vN, vN, vN, vN] [vL 1] M G 0 0) : sW (sC d) 228 Q 104 [vN, vN, vN, vN, vN] [] M G 0 0 := by
  refine q_lconst 105 rfl (show sCode 228 104 = some (.lconst 1, 1) by decide +kernel) ?_
  refine q_goto 109 (by decide) (show sCode 228 105 = some (.goto 4, 3) by decide +kernel) ?_
  exact kk
theorem b228_108 {d : Nat} {Q : Option sV → sM → sG → Prop} {M : sM} {G : sG}   (kk : sW (sC d) 228 Q 109 [vN, vN, vN, vN, vN] [vL 0] M G 0 0) : sW (sC d) 228 Q 108 [vN, vN, vN, vN, vN] [] M G 0 0 := by
  refine q_lconst 109 rfl (show sCode 228 108 = some (.lconst 0, 1) by decide +kernel) ?_
  exact kk
theorem b228_109 {d : Nat} {P : Int → sM → sG → Prop} {M : sM} {G : sG} {s0 : Int}  (kk : P s0 M G) : sW (sC d) 228 (QL P) 109 [vN, vN, vN, vN, vN] [vL s0] M G 0 0 := by
  exact q_lret (show sCode 228 109 = some (.lreturn, 1) by decide +kernel) (by decide +kernel) (by decide +kernel) kk
theorem b228_110 {d : Nat} {Q : Option sV → sM → sG → Prop} {M : sM} {G : sG} {y1 : Int} {y3 : Int}  (k1 : y1 ≠ y3 → sW (sC d) 228 Q 120 [vN, vN, vN, vN, vN] [] M G 0 0) (k2 : y1 = y3 → sW (sC d) 228 Q 116 [vN, vN, vN, vN, vN] [] M G 0 0) : sW (sC d) 228 Q 110 [vN, vL y1, vN, vL y3, vN] [] M G 0 0 := by
  refine q_lload_n 111 rfl (show sCode 228 110 = some (.lload_n 1, 1) by decide +kernel) rfl ?_
  refine q_lload_n 112 rfl (show sCode 228 111 = some (.lload_n 3, 1) by decide +kernel) rfl ?_
  refine q_lifne (off := 7) 120 116 rfl (by decide) (show sCode 228 112 = some (.lcmp, 1) by decide +kernel) (by decide +kernel) ?_ ?_
  · intro q; refine q_forget (L' := [vN, vN, vN, vL y3, vN]) 1 rfl ?_; refine q_forget (L' := [vN, vN, vN, vN, vN]) 3 rfl ?_; exact k1 q
  · intro q; refine q_forget (L' := [vN, vN, vN, vL y3, vN]) 1 rfl ?_; refine q_forget (L' := [vN, vN, vN, vN, vN]) 3 rfl ?_; exact k2 q
theorem b228_116 {d : Nat} {Q : Option sV → sM → sG → Prop} {M : sM} {G : sG}   (kk : sW (sC d) 228 Q 121 [vN, vN, vN, vN, vN] [vL 1] M G 0 0) : sW (sC d) 228 Q 116 [vN, vN, vN, vN, vN] [] M G 0 0 := by
  refine q_lconst 117 rfl (show sCode 228 116 = some (.lconst 1, 1) by decide +kernel) ?_
  refine q_goto 121 (by decide) (show sCode 228 117 = some (.goto 4, 3) by decide +kernel) ?_
  exact kk
theorem b228_120 {d : Nat} {Q : Option sV → sM → sG → Prop} {M : sM} {G : sG}   (kk : sW (sC d) 228 Q 121 [vN, vN, vN, vN, vN] [vL 0] M G 0 0) : sW (sC d) 228 Q 120 [vN, vN, vN, vN, vN] [] M G 0 0 := by
  refine q_lconst 121 rfl (show sCode 228 120 = some (.lconst 0, 1) by decide +kernel) ?_
  exact kk
theorem b228_121 {d : Nat} {P : Int → sM → sG → Prop} {M : sM} {G : sG} {s0 : Int}  (kk : P s0 M G) : sW (sC d) 228 (QL P) 121 [vN, vN, vN, vN, vN] [vL s0] M G 0 0 := by
  exact q_lret (show sCode 228 121 = some (.lreturn, 1) by decide +kernel) (by decide +kernel) (by decide +kernel) kk
theorem b228_122 {d : Nat} {Q : Option sV → sM → sG → Prop} {M : sM} {G : sG} {y1 : Int} {y3 : Int}  (k1 : y1 < y3 → sW (sC d) 228 Q 132 [vN, vN, vN, vN, vN] [] M G 0 0) (k2 : y3 ≤ y1 → sW (sC d) 228 Q 128 [vN, vN, vN, vN, vN] [] M G 0 0) : sW (sC d) 228 Q 122 [vN, vL y1, vN, vL y3, vN] [] M G 0 0 := by
  refine q_lload_n 123 rfl (show sCode 228 122 = some (.lload_n 1, 1) by decide +kernel) rfl ?_
  refine q_lload_n 124 rfl (show sCode 228 123 = some (.lload_n 3, 1) by decide +kernel) rfl ?_
  refine q_liflt (off := 7) 132 128 rfl (by decide) (show sCode 228 124 = some (.lcmp, 1) by decide +kernel) (by decide +kernel) ?_ ?_
  · intro q; refine q_forget (L' := [vN, vN, vN, vL y3, vN]) 1 rfl ?_; refine q_forget (L' := [vN, vN, vN, vN, vN]) 3 rfl ?_; exact k1 q
  · intro q; refine q_forget (L' := [vN, vN, vN, vL y3, vN]) 1 rfl ?_; refine q_forget (L' := [vN, vN, vN, vN, vN]) 3 rfl ?_; exact k2 q
theorem b228_128 {d : Nat} {Q : Option sV → sM → sG → Prop} {M : sM} {G : sG}   (kk : sW (sC d) 228 Q 133 [vN, vN, vN, vN, vN] [vL 1] M G 0 0) : sW (sC d) 228 Q 128 [vN, vN, vN, vN, vN] [] M G 0 0 := by
  refine q_lconst 129 rfl (show sCode 228 128 = some (.lconst 1, 1) by decide +kernel) ?_
  refine q_goto 133 (by decide) (show sCode 228 129 = some (.goto 4, 3) by decide +kernel) ?_
  exact kk
theorem b228_132 {d : Nat} {Q : Option sV → sM → sG → Prop} {M : sM} {G : sG}   (kk : sW (sC d) 228 Q 133 [vN, vN, vN, vN, vN] [vL 0] M G 0 0) : sW (sC d) 228 Q 132 [vN, vN, vN, vN, vN] [] M G 0 0 := by
  refine q_lconst 133 rfl (show sCode 228 132 = some (.lconst 0, 1) by decide +kernel) ?_
  exact kk
theorem b228_133 {d : Nat} {P : Int → sM → sG → Prop} {M : sM} {G : sG} {s0 : Int}  (kk : P s0 M G) : sW (sC d) 228 (QL P) 133 [vN, vN, vN, vN, vN] [vL s0] M G 0 0 := by
  exact q_lret (show sCode 228 133 = some (.lreturn, 1) by decide +kernel) (by decide +kernel) (by decide +kernel) kk
theorem b228_134 {d : Nat} {Q : Option sV → sM → sG → Prop} {M : sM} {G : sG} {y1 : Int} {y3 : Int}  (k1 : y1 ≤ y3 → sW (sC d) 228 Q 144 [vN, vN, vN, vN, vN] [] M G 0 0) (k2 : y3 < y1 → sW (sC d) 228 Q 140 [vN, vN, vN, vN, vN] [] M G 0 0) : sW (sC d) 228 Q 134 [vN, vL y1, vN, vL y3, vN] [] M G 0 0 := by
  refine q_lload_n 135 rfl (show sCode 228 134 = some (.lload_n 1, 1) by decide +kernel) rfl ?_
  refine q_lload_n 136 rfl (show sCode 228 135 = some (.lload_n 3, 1) by decide +kernel) rfl ?_
  refine q_lifle (off := 7) 144 140 rfl (by decide) (show sCode 228 136 = some (.lcmp, 1) by decide +kernel) (by decide +kernel) ?_ ?_
  · intro q; refine q_forget (L' := [vN, vN, vN, vL y3, vN]) 1 rfl ?_; refine q_forget (L' := [vN, vN, vN, vN, vN]) 3 rfl ?_; exact k1 q
  · intro q; refine q_forget (L' := [vN, vN, vN, vL y3, vN]) 1 rfl ?_; refine q_forget (L' := [vN, vN, vN, vN, vN]) 3 rfl ?_; exact k2 q
theorem b228_140 {d : Nat} {Q : Option sV → sM → sG → Prop} {M : sM} {G : sG}   (kk : sW (sC d) 228 Q 145 [vN, vN, vN, vN, vN] [vL 1] M G 0 0) : sW (sC d) 228 Q 140 [vN, vN, vN, vN, vN] [] M G 0 0 := by
  refine q_lconst 141 rfl (show sCode 228 140 = some (.lconst 1, 1) by decide +kernel) ?_
  refine q_goto 145 (by decide) (show sCode 228 141 = some (.goto 4, 3) by decide +kernel) ?_
  exact kk
theorem b228_144 {d : Nat} {Q : Option sV → sM → sG → Prop} {M : sM} {G : sG}   (kk : sW (sC d) 228 Q 145 [vN, vN, vN, vN, vN] [vL 0] M G 0 0) : sW (sC d) 228 Q 144 [vN, vN, vN, vN, vN] [] M G 0 0 := by
  refine q_lconst 145 rfl (show sCode 228 144 = some (.lconst 0, 1) by decide +kernel) ?_
  exact kk
theorem b228_145 {d : Nat} {P : Int → sM → sG → Prop} {M : sM} {G : sG} {s0 : Int}  (kk : P s0 M G) : sW (sC d) 228 (QL P) 145 [vN, vN, vN, vN, vN] [vL s0] M G 0 0 := by
  exact q_lret (show sCode 228 145 = some (.lreturn, 1) by decide +kernel) (by decide +kernel) (by decide +kernel) kk
theorem b228_146 {d : Nat} {P : Int → sM → sG → Prop} {M : sM} {G : sG} {y1 : Int} {y3 : Int}  (kk : P (jAnd y1 y3) M G) : sW (sC d) 228 (QL P) 146 [vN, vL y1, vN, vL y3, vN] [] M G 0 0 := by
  refine q_lload_n 147 rfl (show sCode 228 146 = some (.lload_n 1, 1) by decide +kernel) rfl ?_
  refine q_lload_n 148 rfl (show sCode 228 147 = some (.lload_n 3, 1) by decide +kernel) rfl ?_
  refine q_land 149 rfl (show sCode 228 148 = some (.land, 1) by decide +kernel) ?_
  exact q_lret (show sCode 228 149 = some (.lreturn, 1) by decide +kernel) (by decide +kernel) (by decide +kernel) kk
theorem b228_150 {d : Nat} {P : Int → sM → sG → Prop} {M : sM} {G : sG} {y1 : Int} {y3 : Int}  (kk : P (jOr y1 y3) M G) : sW (sC d) 228 (QL P) 150 [vN, vL y1, vN, vL y3, vN] [] M G 0 0 := by
  refine q_lload_n 151 rfl (show sCode 228 150 = some (.lload_n 1, 1) by decide +kernel) rfl ?_
  refine q_lload_n 152 rfl (show sCode 228 151 = some (.lload_n 3, 1) by decide +kernel) rfl ?_
  refine q_lor 153 rfl (show sCode 228 152 = some (.lor, 1) by decide +kernel) ?_
  exact q_lret (show sCode 228 153 = some (.lreturn, 1) by decide +kernel) (by decide +kernel) (by decide +kernel) kk
-- 229 AfterTheLastModel.comesFor (II)V
theorem b229_0 {d : Nat} {Q : Option sV → sM → sG → Prop} {M : sM} {G : sG} {a0 : Nat} {x1 : Int} {x2 : Int}  (kk : sC d 230 [vO 12 a0, vI x2] M G (QI (fun r M1 G1 => sW (sC d) 229 Q 5 [vO 12 a0, vI x1, vI x2, vN] (vI r :: []) M1 G1 0 0))) : sW (sC d) 229 Q 0 [vO 12 a0, vI x1, vI x2, vN] [] M G 0 0 := by
  refine q_aload_n 1 rfl (show sCode 229 0 = some (.aload_n 0, 1) by decide +kernel) rfl (Nat.le_of_ble_eq_true rfl) ?_
  refine q_iload_n 2 rfl (show sCode 229 1 = some (.iload_n 2, 1) by decide +kernel) rfl ?_
  exact q_virtI [vI x2] 5 rfl (show sCode 229 2 = some (.invokevirtual 322, 3) by decide +kernel) (show sMR (sKo 229).1 322 = some 230 by decide +kernel) (show 230 < 1000 ∧ sStat 230 = false ∧ sIni 230 = false ∧ sKo 230 = (12, 1, 1, 0, 0) by decide +kernel) rfl (Or.inl rfl) rfl (Nat.le_of_ble_eq_true rfl) rfl rfl rfl (by decide +kernel) kk
theorem b229_5 {d : Nat} {Q : Option sV → sM → sG → Prop} {M : sM} {G : sG} {a0 : Nat} {x1 : Int} {x2 : Int} {s0 : Int}  (k1 : s0 < 0 → sW (sC d) 229 Q 34 [vN, vN, vN, vN] [] M G 0 0) (k2 : 0 ≤ s0 → sW (sC d) 229 Q 10 [vO 12 a0, vI x1, vI x2, vI s0] [] M G 0 0) : sW (sC d) 229 Q 5 [vO 12 a0, vI x1, vI x2, vN] [vI s0] M G 0 0 := by
  refine q_istore_n [vO 12 a0, vI x1, vI x2, vI s0] 6 rfl (show sCode 229 5 = some (.istore_n 3, 1) by decide +kernel) (Nat.lt_of_lt_of_le (Nat.lt_succ_self _) (Nat.le_of_ble_eq_true rfl)) rfl rfl ?_
  refine q_iload_n 7 rfl (show sCode 229 6 = some (.iload_n 3, 1) by decide +kernel) rfl ?_
  refine q_iflt 34 10 rfl (by decide) (show sCode 229 7 = some (.ifCond .lt 27, 3) by decide +kernel) ?_ ?_
  · intro q; refine q_forget (L' := [vN, vI x1, vI x2, vI s0]) 0 rfl ?_; refine q_forget (L' := [vN, vN, vI x2, vI s0]) 1 rfl ?_; refine q_forget (L' := [vN, vN, vN, vI s0]) 2 rfl ?_; refine q_forget (L' := [vN, vN, vN, vN]) 3 rfl ?_; exact k1 q
  · intro q; exact k2 q
theorem b229_10 {d : Nat} {Q : Option sV → sM → sG → Prop} {M : sM} {G : sG} {a0 : Nat} {x1 : Int} {x2 : Int} {x3 : Int}  (kk : sC d 209 [vO 12 a0, vI x3, vI 1] M G (QI (fun r M1 G1 => sW (sC d) 229 Q 17 [vO 12 a0, vI x1, vI x2, vI x3] (vI r :: [vO 12 a0]) M1 G1 0 0))) : sW (sC d) 229 Q 10 [vO 12 a0, vI x1, vI x2, vI x3] [] M G 0 0 := by
  refine q_aload_n 11 rfl (show sCode 229 10 = some (.aload_n 0, 1) by decide +kernel) rfl (Nat.le_of_ble_eq_true rfl) ?_
  refine q_aload_n 12 rfl (show sCode 229 11 = some (.aload_n 0, 1) by decide +kernel) rfl (Nat.le_of_ble_eq_true rfl) ?_
  refine q_iload_n 13 rfl (show sCode 229 12 = some (.iload_n 3, 1) by decide +kernel) rfl ?_
  refine q_iconst 14 rfl (show sCode 229 13 = some (.iconst 1, 1) by decide +kernel) ⟨by decide, by decide⟩ ?_
  exact q_virtI [vI x3, vI 1] 17 rfl (show sCode 229 14 = some (.invokevirtual 302, 3) by decide +kernel) (show sMR (sKo 229).1 302 = some 209 by decide +kernel) (show 209 < 1000 ∧ sStat 209 = false ∧ sIni 209 = false ∧ sKo 209 = (12, 2, 1, 0, 0) by decide +kernel) rfl (Or.inl rfl) rfl (Nat.le_of_ble_eq_true rfl) rfl rfl rfl (by decide +kernel) kk
theorem b229_17 {d : Nat} {Q : Option sV → sM → sG → Prop} {M : sM} {G : sG} {a0 : Nat} {x1 : Int} {x2 : Int} {x3 : Int} {s0 : Int} {sa1 : Nat}  (kk : sC d 205 [vO 12 sa1, vI s0] M G (QI (fun r M1 G1 => sW (sC d) 229 Q 20 [vO 12 a0, vI x1, vI x2, vI x3] (vI r :: []) M1 G1 0 0))) : sW (sC d) 229 Q 17 [vO 12 a0, vI x1, vI x2, vI x3] [vI s0, vO 12 sa1] M G 0 0 := by
  exact q_virtI [vI s0] 20 rfl (show sCode 229 17 = some (.invokevirtual 296, 3) by decide +kernel) (show sMR (sKo 229).1 296 = some 205 by decide +kernel) (show 205 < 1000 ∧ sStat 205 = false ∧ sIni 205 = false ∧ sKo 205 = (12, 1, 1, 0, 0) by decide +kernel) rfl (Or.inl rfl) rfl (Nat.le_of_ble_eq_true rfl) rfl rfl rfl (by decide +kernel) kk
theorem b229_20 {d : Nat} {Q : Option sV → sM → sG → Prop} {M : sM} {G : sG} {a0 : Nat} {x1 : Int} {x2 : Int} {x3 : Int} {s0 : Int}  (kk : sC d 209 [vO 12 a0, vI x3, vI 1] M G (QI (fun r M1 G1 => sW (sC d) 229 Q 27 [vO 12 a0, vI x1, vI x2, vI x3] (vI r :: [vO 12 a0, vI s0]) M1 G1 0 0))) : sW (sC d) 229 Q 20 [vO 12 a0, vI x1, vI x2, vI x3] [vI s0] M G 0 0 := by
  refine q_aload_n 21 rfl (show sCode 229 20 = some (.aload_n 0, 1) by decide +kernel) rfl (Nat.le_of_ble_eq_true rfl) ?_
  refine q_aload_n 22 rfl (show sCode 229 21 = some (.aload_n 0, 1) by decide +kernel) rfl (Nat.le_of_ble_eq_true rfl) ?_
  refine q_iload_n 23 rfl (show sCode 229 22 = some (.iload_n 3, 1) by decide +kernel) rfl ?_
  refine q_iconst 24 rfl (show sCode 229 23 = some (.iconst 1, 1) by decide +kernel) ⟨by decide, by decide⟩ ?_
  exact q_virtI [vI x3, vI 1] 27 rfl (show sCode 229 24 = some (.invokevirtual 302, 3) by decide +kernel) (show sMR (sKo 229).1 302 = some 209 by decide +kernel) (show 209 < 1000 ∧ sStat 209 = false ∧ sIni 209 = false ∧ sKo 209 = (12, 2, 1, 0, 0) by decide +kernel) rfl (Or.inl rfl) rfl (Nat.le_of_ble_eq_true rfl) rfl rfl rfl (by decide +kernel) kk
theorem b229_27 {d : Nat} {Q : Option sV → sM → sG → Prop} {M : sM} {G : sG} {a0 : Nat} {x1 : Int} {x2 : Int} {x3 : Int} {s0 : Int} {sa1 : Nat} {s2 : Int}  (kk : sC d 204 [vO 12 sa1, vI s0, vI 1] M G (QI (fun r M1 G1 => sW (sC d) 229 Q 31 [vO 12 a0, vI x1, vI x2, vI x3] (vI r :: [vI s2]) M1 G1 0 0))) : sW (sC d) 229 Q 27 [vO 12 a0, vI x1, vI x2, vI x3] [vI s0, vO 12 sa1, vI s2] M G 0 0 := by
  refine q_iconst 28 rfl (show sCode 229 27 = some (.iconst 1, 1) by decide +kernel) ⟨by decide, by decide⟩ ?_
  exact q_virtI [vI s0, vI 1] 31 rfl (show sCode 229 28 = some (.invokevirtual 284, 3) by decide +kernel) (show sMR (sKo 229).1 284 = some 204 by decide +kernel) (show 204 < 1000 ∧ sStat 204 = false ∧ sIni 204 = false ∧ sKo 204 = (12, 2, 1, 0, 0) by decide +kernel) rfl (Or.inl rfl) rfl (Nat.le_of_ble_eq_true rfl) rfl rfl rfl (by decide +kernel) kk
theorem b229_31 {d : Nat} {Q : Option sV → sM → sG → Prop} {M : sM} {G : sG} {a0 : Nat} {x1 : Int} {x2 : Int} {x3 : Int} {s0 : Int} {s1 : Int}  (k1 : s1 ≠ s0 → sW (sC d) 229 Q 35 [vO 12 a0, vI x1, vI x2, vI x3] [] M G 0 0) (k2 : s1 = s0 → sW (sC d) 229 Q 34 [vN, vN, vN, vN] [] M G 0 0) : sW (sC d) 229 Q 31 [vO 12 a0, vI x1, vI x2, vI x3] [vI s0, vI s1] M G 0 0 := by
  refine q_icmpne 35 34 rfl (by decide) (show sCode 229 31 = some (.if_icmp .ne 4, 3) by decide +kernel) ?_ ?_
  · intro q; exact k1 q
  · intro q; refine q_forget (L' := [vN, vI x1, vI x2, vI x3]) 0 rfl ?_; refine q_forget (L' := [vN, vN, vI x2, vI x3]) 1 rfl ?_; refine q_forget (L' := [vN, vN, vN, vI x3]) 2 rfl ?_; refine q_forget (L' := [vN, vN, vN, vN]) 3 rfl ?_; exact k2 q
theorem b229_34 {d : Nat} {P : sM → sG → Prop} {M : sM} {G : sG}   (kk : P M G) : sW (sC d) 229 (QV P) 34 [vN, vN, vN, vN] [] M G 0 0 := by
  exact q_vret (show sCode 229 34 = some (.return_, 1) by decide +kernel) (by decide +kernel) (by decide +kernel) kk
theorem b229_35 {d : Nat} {Q : Option sV → sM → sG → Prop} {M : sM} {G : sG} {a0 : Nat} {x1 : Int} {x2 : Int} {x3 : Int}  (kk : sC d 223 [vO 12 a0, vI x2, vI x3] M G (QV (fun M1 G1 => sW (sC d) 229 Q 41 [vO 12 a0, vI x1, vI x2, vI x3] [] M1 G1 0 0))) : sW (sC d) 229 Q 35 [vO 12 a0, vI x1, vI x2, vI x3] [] M G 0 0 := by
  refine q_aload_n 36 rfl (show sCode 229 35 = some (.aload_n 0, 1) by decide +kernel) rfl (Nat.le_of_ble_eq_true rfl) ?_
  refine q_iload_n 37 rfl (show sCode 229 36 = some (.iload_n 2, 1) by decide +kernel) rfl ?_
  refine q_iload_n 38 rfl (show sCode 229 37 = some (.iload_n 3, 1) by decide +kernel) rfl ?_
  exact q_virtV [vI x2, vI x3] 41 rfl (show sCode 229 38 = some (.invokevirtual 315, 3) by decide +kernel) (show sMR (sKo 229).1 315 = some 223 by decide +kernel) (show 223 < 1000 ∧ sStat 223 = false ∧ sIni 223 = false ∧ sKo 223 = (12, 2, 0, 0, 0) by decide +kernel) rfl (Or.inl rfl) rfl (Nat.le_of_ble_eq_true rfl) rfl rfl rfl (by decide +kernel) kk
theorem b229_41 {d : Nat} {Q : Option sV → sM → sG → Prop} {M : sM} {G : sG} {a0 : Nat} {x1 : Int} {x2 : Int} {x3 : Int}  (kk : sC d 224 [vO 12 a0, vI x1, vI 0, vI 1] M G (QI (fun r M1 G1 => sW (sC d) 229 Q 48 [vO 12 a0, vN, vI x2, vI x3] (vI r :: []) M1 G1 0 0))) : sW (sC d) 229 Q 41 [vO 12 a0, vI x1, vI x2, vI x3] [] M G 0 0 := by
  refine q_aload_n 42 rfl (show sCode 229 41 = some (.aload_n 0, 1) by decide +kernel) rfl (Nat.le_of_ble_eq_true rfl) ?_
  refine q_iload_n 43 rfl (show sCode 229 42 = some (.iload_n 1, 1) by decide +kernel) rfl ?_
  refine q_iconst 44 rfl (show sCode 229 43 = some (.iconst 0, 1) by decide +kernel) ⟨by decide, by decide⟩ ?_
  refine q_iconst 45 rfl (show sCode 229 44 = some (.iconst 1, 1) by decide +kernel) ⟨by decide, by decide⟩ ?_
  refine q_forget (L' := [vO 12 a0, vN, vI x2, vI x3]) 1 rfl ?_
  exact q_virtI [vI x1, vI 0, vI 1] 48 rfl (show sCode 229 45 = some (.invokevirtual 318, 3) by decide +kernel) (show sMR (sKo 229).1 318 = some 224 by decide +kernel) (show 224 < 1000 ∧ sStat 224 = false ∧ sIni 224 = false ∧ sKo 224 = (12, 3, 2, 0, 0) by decide +kernel) rfl (Or.inl rfl) rfl (Nat.le_of_ble_eq_true rfl) rfl rfl rfl (by decide +kernel) kk
theorem b229_48 {d : Nat} {Q : Option sV → sM → sG → Prop} {M : sM} {G : sG} {a0 : Nat} {x2 : Int} {x3 : Int} {s0 : Int}  (k1 : s0 ≠ 0 → sW (sC d) 229 Q 52 [vO 12 a0, vN, vI x2, vI x3] [] M G 0 0) (k2 : s0 = 0 → sW (sC d) 229 Q 51 [vN, vN, vN, vN] [] M G 0 0) : sW (sC d) 229 Q 48 [vO 12 a0, vN, vI x2, vI x3] [vI s0] M G 0 0 := by
  refine q_ifne 52 51 rfl (by decide) (show sCode 229 48 = some (.ifCond .ne 4, 3) by decide +kernel) ?_ ?_
  · intro q; exact k1 q
  · intro q; refine q_forget (L' := [vN, vN, vI x2, vI x3]) 0 rfl ?_; refine q_forget (L' := [vN, vN, vN, vI x3]) 2 rfl ?_; refine q_forget (L' := [vN, vN, vN, vN]) 3 rfl ?_; exact k2 q
theorem b229_51 {d : Nat} {P : sM → sG → Prop} {M : sM} {G : sG}   (kk : P M G) : sW (sC d) 229 (QV P) 51 [vN, vN, vN, vN] [] M G 0 0 := by
  exact q_vret (show sCode 229 51 = some (.return_, 1) by decide +kernel) (by decide +kernel) (by decide +kernel) kk
theorem b229_52 {d : Nat} {Q : Option sV → sM → sG → Prop} {M : sM} {G : sG} {a0 : Nat} {x2 : Int} {x3 : Int} (h1 : sI (6 * x3)) (h2 : sI (28 + (6 * x3))) (h3 : sI ((28 + (6 * x3)) + 5)) (h4 : 0 ≤ (28 + (6 * x3)) + 5 ∧ (28 + (6 * x3)) + 5 < 274) (kk : sC d 209 [vO 12 a0, vI x3, vI 1] (sUpd M (a0 + 11) ((28 + (6 * x3)) + 5).toNat 1) G (QI (fun r M1 G1 => sW (sC d) 229 Q 75 [vN, vN, vN, vI x3] (vI r :: [vI x2, vO 12 a0]) M1 G1 0 0))) : sW (sC d) 229 Q 52 [vO 12 a0, vN, vI x2, vI x3] [] M G 0 0 := by
  refine q_aload_n 53 rfl (show sCode 229 52 = some (.aload_n 0, 1) by decide +kernel) rfl (Nat.le_of_ble_eq_true rfl) ?_
  refine q_getR (vA 0 (a0 + 11) 274) 56 rfl (show sCode 229 53 = some (.getfield 42, 3) by decide +kernel) (show sFR (sKo 229).1 42 = some (12, 23) by decide +kernel) (by decide +kernel) (Or.inl (Or.inl rfl)) rfl ?_
  refine q_bipush 58 rfl (show sCode 229 56 = some (.bipush 28, 2) by decide +kernel) ⟨by decide, by decide⟩ (by decide +kernel) ?_
  refine q_bipush 60 rfl (show sCode 229 58 = some (.bipush 6, 2) by decide +kernel) ⟨by decide, by decide⟩ (by decide +kernel) ?_
  refine q_iload_n 61 rfl (show sCode 229 60 = some (.iload_n 3, 1) by decide +kernel) rfl ?_
  refine q_imul 62 rfl (show sCode 229 61 = some (.imul, 1) by decide +kernel) h1 ?_
  refine q_iadd 63 rfl (show sCode 229 62 = some (.iadd, 1) by decide +kernel) h2 ?_
  refine q_iconst 64 rfl (show sCode 229 63 = some (.iconst 5, 1) by decide +kernel) ⟨by decide, by decide⟩ ?_
  refine q_iadd 65 rfl (show sCode 229 64 = some (.iadd, 1) by decide +kernel) h3 ?_
  refine q_iconst 66 rfl (show sCode 229 65 = some (.iconst 1, 1) by decide +kernel) ⟨by decide, by decide⟩ ?_
  refine q_iast 67 rfl (show sCode 229 66 = some (.iastore, 1) by decide +kernel) h4 ?_
  refine q_aload_n 68 rfl (show sCode 229 67 = some (.aload_n 0, 1) by decide +kernel) rfl (Nat.le_of_ble_eq_true rfl) ?_
  refine q_iload_n 69 rfl (show sCode 229 68 = some (.iload_n 2, 1) by decide +kernel) rfl ?_
  refine q_aload_n 70 rfl (show sCode 229 69 = some (.aload_n 0, 1) by decide +kernel) rfl (Nat.le_of_ble_eq_true rfl) ?_
  refine q_iload_n 71 rfl (show sCode 229 70 = some (.iload_n 3, 1) by decide +kernel) rfl ?_
  refine q_iconst 72 rfl (show sCode 229 71 = some (.iconst 1, 1) by decide +kernel) ⟨by decide, by decide⟩ ?_
  refine q_forget (L' := [vN, vN, vI x2, vI x3]) 0 rfl ?_
  refine q_forget (L' := [vN, vN, vN, vI x3]) 2 rfl ?_
  exact q_virtI [vI x3, vI 1] 75 rfl (show sCode 229 72 = some (.invokevirtual 302, 3) by decide +kernel) (show sMR (sKo 229).1 302 = some 209 by decide +kernel) (show 209 < 1000 ∧ sStat 209 = false ∧ sIni 209 = false ∧ sKo 209 = (12, 2, 1, 0, 0) by decide +kernel) rfl (Or.inl rfl) rfl (Nat.le_of_ble_eq_true rfl) rfl rfl rfl (by decide +kernel) kk
theorem b229_75 {d : Nat} {Q : Option sV → sM → sG → Prop} {M : sM} {G : sG} {x3 : Int} {s0 : Int} {s1 : Int} {sa2 : Nat}  (kk : sC d 215 [vO 12 sa2, vI s1, vI s0, vI x3] M G (QV (fun M1 G1 => sW (sC d) 229 Q 79 [vN, vN, vN, vN] [] M1 G1 0 0))) : sW (sC d) 229 Q 75 [vN, vN, vN, vI x3] [vI s0, vI s1, vO 12 sa2] M G 0 0 := by
  refine q_iload_n 76 rfl (show sCode 229 75 = some (.iload_n 3, 1) by decide +kernel) rfl ?_
  refine q_forget (L' := [vN, vN, vN, vN]) 3 rfl ?_
  exact q_virtV [vI s1, vI s0, vI x3] 79 rfl (show sCode 229 76 = some (.invokevirtual 311, 3) by decide +kernel) (show sMR (sKo 229).1 311 = some 215 by decide +kernel) (show 215 < 1000 ∧ sStat 215 = false ∧ sIni 215 = false ∧ sKo 215 = (12, 3, 0, 0, 0) by decide +kernel) rfl (Or.inl rfl) rfl (Nat.le_of_ble_eq_true rfl) rfl rfl rfl (by decide +kernel) kk
theorem b229_79 {d : Nat} {P : sM → sG → Prop} {M : sM} {G : sG}   (kk : P M G) : sW (sC d) 229 (QV P) 79 [vN, vN, vN, vN] [] M G 0 0 := by
  exact q_vret (show sCode 229 79 = some (.return_, 1) by decide +kernel) (by decide +kernel) (by decide +kernel) kk
-- 230 AfterTheLastModel.nextStay (I)I
theorem b230_0 {d : Nat} {Q : Option sV → sM → sG → Prop} {M : sM} {G : sG} {a0 : Nat} {x1 : Int}  (kk : sW (sC d) 230 Q 2 [vO 12 a0, vI x1, vI 0] [] M G 0 0) : sW (sC d) 230 Q 0 [vO 12 a0, vI x1, vN] [] M G 0 0 := by
  refine q_iconst 1 rfl (show sCode 230 0 = some (.iconst 0, 1) by decide +kernel) ⟨by decide, by decide⟩ ?_
  refine q_istore_n [vO 12 a0, vI x1, vI 0] 2 rfl (show sCode 230 1 = some (.istore_n 2, 1) by decide +kernel) (Nat.lt_of_lt_of_le (Nat.lt_succ_self _) (Nat.le_of_ble_eq_true rfl)) rfl rfl ?_
  exact kk
theorem b230_2 {d : Nat} {Q : Option sV → sM → sG → Prop} {M : sM} {G : sG} {a0 : Nat} {x1 : Int} {x2 : Int}  (k1 : M (a0 + 11) 1 ≤ x2 → sW (sC d) 230 Q 69 [vN, vN, vN] [] M G 0 0) (k2 : x2 < M (a0 + 11) 1 → sW (sC d) 230 Q 12 [vO 12 a0, vI x1, vI x2] [] M G 0 0) : sW (sC d) 230 Q 2 [vO 12 a0, vI x1, vI x2] [] M G 0 0 := by
  refine q_iload_n 3 rfl (show sCode 230 2 = some (.iload_n 2, 1) by decide +kernel) rfl ?_
  refine q_aload_n 4 rfl (show sCode 230 3 = some (.aload_n 0, 1) by decide +kernel) rfl (Nat.le_of_ble_eq_true rfl) ?_
  refine q_getR (vA 0 (a0 + 11) 274) 7 rfl (show sCode 230 4 = some (.getfield 42, 3) by decide +kernel) (show sFR (sKo 230).1 42 = some (12, 23) by decide +kernel) (by decide +kernel) (Or.inl (Or.inl rfl)) rfl ?_
  refine q_iconst 8 rfl (show sCode 230 7 = some (.iconst 1, 1) by decide +kernel) ⟨by decide, by decide⟩ ?_
  refine q_iald 9 rfl (show sCode 230 8 = some (.iaload, 1) by decide +kernel) ⟨by decide, by decide⟩ ?_
  refine q_icmpge 69 12 rfl (by decide) (show sCode 230 9 = some (.if_icmp .ge 60, 3) by decide +kernel) ?_ ?_
  · intro q; refine q_forget (L' := [vN, vI x1, vI x2]) 0 rfl ?_; refine q_forget (L' := [vN, vN, vI x2]) 1 rfl ?_; refine q_forget (L' := [vN, vN, vN]) 2 rfl ?_; exact k1 q
  · intro q; exact k2 q
theorem b230_12 {d : Nat} {Q : Option sV → sM → sG → Prop} {M : sM} {G : sG} {a0 : Nat} {x1 : Int} {x2 : Int}  (kk : sC d 209 [vO 12 a0, vI x2, vI 0] M G (QI (fun r M1 G1 => sW (sC d) 230 Q 18 [vO 12 a0, vI x1, vI x2] (vI r :: []) M1 G1 0 0))) : sW (sC d) 230 Q 12 [vO 12 a0, vI x1, vI x2] [] M G 0 0 := by
  refine q_aload_n 13 rfl (show sCode 230 12 = some (.aload_n 0, 1) by decide +kernel) rfl (Nat.le_of_ble_eq_true rfl) ?_
  refine q_iload_n 14 rfl (show sCode 230 13 = some (.iload_n 2, 1) by decide +kernel) rfl ?_
  refine q_iconst 15 rfl (show sCode 230 14 = some (.iconst 0, 1) by decide +kernel) ⟨by decide, by decide⟩ ?_
  exact q_virtI [vI x2, vI 0] 18 rfl (show sCode 230 15 = some (.invokevirtual 302, 3) by decide +kernel) (show sMR (sKo 230).1 302 = some 209 by decide +kernel) (show 209 < 1000 ∧ sStat 209 = false ∧ sIni 209 = false ∧ sKo 209 = (12, 2, 1, 0, 0) by decide +kernel) rfl (Or.inl rfl) rfl (Nat.le_of_ble_eq_true rfl) rfl rfl rfl (by decide +kernel) kk
theorem b230_18 {d : Nat} {Q : Option sV → sM → sG → Prop} {M : sM} {G : sG} {a0 : Nat} {x1 : Int} {x2 : Int} {s0 : Int}  (k1 : s0 ≠ x1 → sW (sC d) 230 Q 63 [vO 12 a0, vI x1, vI x2] [] M G 0 0) (k2 : s0 = x1 → sW (sC d) 230 Q 22 [vO 12 a0, vI x1, vI x2] [] M G 0 0) : sW (sC d) 230 Q 18 [vO 12 a0, vI x1, vI x2] [vI s0] M G 0 0 := by
  refine q_iload_n 19 rfl (show sCode 230 18 = some (.iload_n 1, 1) by decide +kernel) rfl ?_
  refine q_icmpne 63 22 rfl (by decide) (show sCode 230 19 = some (.if_icmp .ne 44, 3) by decide +kernel) ?_ ?_
  · intro q; exact k1 q
  · intro q; exact k2 q
theorem b230_22 {d : Nat} {Q : Option sV → sM → sG → Prop} {M : sM} {G : sG} {a0 : Nat} {x1 : Int} {x2 : Int}  (kk : sC d 209 [vO 12 a0, vI x2, vI 5] M G (QI (fun r M1 G1 => sW (sC d) 230 Q 28 [vO 12 a0, vI x1, vI x2] (vI r :: []) M1 G1 0 0))) : sW (sC d) 230 Q 22 [vO 12 a0, vI x1, vI x2] [] M G 0 0 := by
  refine q_aload_n 23 rfl (show sCode 230 22 = some (.aload_n 0, 1) by decide +kernel) rfl (Nat.le_of_ble_eq_true rfl) ?_
  refine q_iload_n 24 rfl (show sCode 230 23 = some (.iload_n 2, 1) by decide +kernel) rfl ?_
  refine q_iconst 25 rfl (show sCode 230 24 = some (.iconst 5, 1) by decide +kernel) ⟨by decide, by decide⟩ ?_
  exact q_virtI [vI x2, vI 5] 28 rfl (show sCode 230 25 = some (.invokevirtual 302, 3) by decide +kernel) (show sMR (sKo 230).1 302 = some 209 by decide +kernel) (show 209 < 1000 ∧ sStat 209 = false ∧ sIni 209 = false ∧ sKo 209 = (12, 2, 1, 0, 0) by decide +kernel) rfl (Or.inl rfl) rfl (Nat.le_of_ble_eq_true rfl) rfl rfl rfl (by decide +kernel) kk
theorem b230_28 {d : Nat} {Q : Option sV → sM → sG → Prop} {M : sM} {G : sG} {a0 : Nat} {x1 : Int} {x2 : Int} {s0 : Int}  (k1 : s0 ≠ 0 → sW (sC d) 230 Q 63 [vO 12 a0, vI x1, vI x2] [] M G 0 0) (k2 : s0 = 0 → sW (sC d) 230 Q 31 [vO 12 a0, vI x1, vI x2] [] M G 0 0) : sW (sC d) 230 Q 28 [vO 12 a0, vI x1, vI x2] [vI s0] M G 0 0 := by
  refine q_ifne 63 31 rfl (by decide) (show sCode 230 28 = some (.ifCond .ne 35, 3) by decide +kernel) ?_ ?_
  · intro q; exact k1 q
  · intro q; exact k2 q
theorem b230_31 {d : Nat} {Q : Option sV → sM → sG → Prop} {M : sM} {G : sG} {a0 : Nat} {x1 : Int} {x2 : Int}  (kk : sC d 209 [vO 12 a0, vI x2, vI 2] M G (QI (fun r M1 G1 => sW (sC d) 230 Q 37 [vO 12 a0, vI x1, vI x2] (vI r :: []) M1 G1 0 0))) : sW (sC d) 230 Q 31 [vO 12 a0, vI x1, vI x2] [] M G 0 0 := by
  refine q_aload_n 32 rfl (show sCode 230 31 = some (.aload_n 0, 1) by decide +kernel) rfl (Nat.le_of_ble_eq_true rfl) ?_
  refine q_iload_n 33 rfl (show sCode 230 32 = some (.iload_n 2, 1) by decide +kernel) rfl ?_
  refine q_iconst 34 rfl (show sCode 230 33 = some (.iconst 2, 1) by decide +kernel) ⟨by decide, by decide⟩ ?_
  exact q_virtI [vI x2, vI 2] 37 rfl (show sCode 230 34 = some (.invokevirtual 302, 3) by decide +kernel) (show sMR (sKo 230).1 302 = some 209 by decide +kernel) (show 209 < 1000 ∧ sStat 209 = false ∧ sIni 209 = false ∧ sKo 209 = (12, 2, 1, 0, 0) by decide +kernel) rfl (Or.inl rfl) rfl (Nat.le_of_ble_eq_true rfl) rfl rfl rfl (by decide +kernel) kk
theorem b230_37 {d : Nat} {Q : Option sV → sM → sG → Prop} {M : sM} {G : sG} {a0 : Nat} {x1 : Int} {x2 : Int} {s0 : Int}  (k1 : M (a0 + 11) 2 < s0 → sW (sC d) 230 Q 63 [vO 12 a0, vI x1, vI x2] [] M G 0 0) (k2 : s0 ≤ M (a0 + 11) 2 → sW (sC d) 230 Q 46 [vO 12 a0, vI x1, vI x2] [] M G 0 0) : sW (sC d) 230 Q 37 [vO 12 a0, vI x1, vI x2] [vI s0] M G 0 0 := by
  refine q_aload_n 38 rfl (show sCode 230 37 = some (.aload_n 0, 1) by decide +kernel) rfl (Nat.le_of_ble_eq_true rfl) ?_
  refine q_getR (vA 0 (a0 + 11) 274) 41 rfl (show sCode 230 38 = some (.getfield 42, 3) by decide +kernel) (show sFR (sKo 230).1 42 = some (12, 23) by decide +kernel) (by decide +kernel) (Or.inl (Or.inl rfl)) rfl ?_
  refine q_iconst 42 rfl (show sCode 230 41 = some (.iconst 2, 1) by decide +kernel) ⟨by decide, by decide⟩ ?_
  refine q_iald 43 rfl (show sCode 230 42 = some (.iaload, 1) by decide +kernel) ⟨by decide, by decide⟩ ?_
  refine q_icmpgt 63 46 rfl (by decide) (show sCode 230 43 = some (.if_icmp .gt 20, 3) by decide +kernel) ?_ ?_
  · intro q; exact k1 q
  · intro q; exact k2 q
theorem b230_46 {d : Nat} {Q : Option sV → sM → sG → Prop} {M : sM} {G : sG} {a0 : Nat} {x1 : Int} {x2 : Int}  (kk : sC d 209 [vO 12 a0, vI x2, vI 3] M G (QI (fun r M1 G1 => sW (sC d) 230 Q 52 [vO 12 a0, vI x1, vI x2] (vI r :: []) M1 G1 0 0))) : sW (sC d) 230 Q 46 [vO 12 a0, vI x1, vI x2] [] M G 0 0 := by
  refine q_aload_n 47 rfl (show sCode 230 46 = some (.aload_n 0, 1) by decide +kernel) rfl (Nat.le_of_ble_eq_true rfl) ?_
  refine q_iload_n 48 rfl (show sCode 230 47 = some (.iload_n 2, 1) by decide +kernel) rfl ?_
  refine q_iconst 49 rfl (show sCode 230 48 = some (.iconst 3, 1) by decide +kernel) ⟨by decide, by decide⟩ ?_
  exact q_virtI [vI x2, vI 3] 52 rfl (show sCode 230 49 = some (.invokevirtual 302, 3) by decide +kernel) (show sMR (sKo 230).1 302 = some 209 by decide +kernel) (show 209 < 1000 ∧ sStat 209 = false ∧ sIni 209 = false ∧ sKo 209 = (12, 2, 1, 0, 0) by decide +kernel) rfl (Or.inl rfl) rfl (Nat.le_of_ble_eq_true rfl) rfl rfl rfl (by decide +kernel) kk
theorem b230_52 {d : Nat} {Q : Option sV → sM → sG → Prop} {M : sM} {G : sG} {a0 : Nat} {x1 : Int} {x2 : Int} {s0 : Int}  (k1 : s0 ≤ M (a0 + 11) 2 → sW (sC d) 230 Q 63 [vO 12 a0, vI x1, vI x2] [] M G 0 0) (k2 : M (a0 + 11) 2 < s0 → sW (sC d) 230 Q 61 [vN, vN, vI x2] [] M G 0 0) : sW (sC d) 230 Q 52 [vO 12 a0, vI x1, vI x2] [vI s0] M G 0 0 := by
  refine q_aload_n 53 rfl (show sCode 230 52 = some (.aload_n 0, 1) by decide +kernel) rfl (Nat.le_of_ble_eq_true rfl) ?_
  refine q_getR (vA 0 (a0 + 11) 274) 56 rfl (show sCode 230 53 = some (.getfield 42, 3) by decide +kernel) (show sFR (sKo 230).1 42 = some (12, 23) by decide +kernel) (by decide +kernel) (Or.inl (Or.inl rfl)) rfl ?_
  refine q_iconst 57 rfl (show sCode 230 56 = some (.iconst 2, 1) by decide +kernel) ⟨by decide, by decide⟩ ?_
  refine q_iald 58 rfl (show sCode 230 57 = some (.iaload, 1) by decide +kernel) ⟨by decide, by decide⟩ ?_
  refine q_icmple 63 61 rfl (by decide) (show sCode 230 58 = some (.if_icmp .le 5, 3) by decide +kernel) ?_ ?_
  · intro q; exact k1 q
  · intro q; refine q_forget (L' := [vN, vI x1, vI x2]) 0 rfl ?_; refine q_forget (L' := [vN, vN, vI x2]) 1 rfl ?_; exact k2 q
theorem b230_61 {d : Nat} {P : Int → sM → sG → Prop} {M : sM} {G : sG} {x2 : Int}  (kk : P x2 M G) : sW (sC d) 230 (QI P) 61 [vN, vN, vI x2] [] M G 0 0 := by
  refine q_iload_n 62 rfl (show sCode 230 61 = some (.iload_n 2, 1) by decide +kernel) rfl ?_
  exact q_iret (show sCode 230 62 = some (.ireturn, 1) by decide +kernel) (by decide +kernel) (by decide +kernel) kk
theorem b230_63 {d : Nat} {Q : Option sV → sM → sG → Prop} {M : sM} {G : sG} {a0 : Nat} {x1 : Int} {x2 : Int} (h1 : sI (x2 + 1)) (kk : sW (sC d) 230 Q 2 [vO 12 a0, vI x1, vI (x2 + 1)] [] M G 0 0) : sW (sC d) 230 Q 63 [vO 12 a0, vI x1, vI x2] [] M G 0 0 := by
  refine q_iinc [vO 12 a0, vI x1, vI (x2 + 1)] 66 rfl (show sCode 230 63 = some (.iinc 2 1, 3) by decide +kernel) rfl rfl h1 rfl ?_
  refine q_goto 2 (by decide) (show sCode 230 66 = some (.goto (-64), 3) by decide +kernel) ?_
  exact kk
theorem b230_69 {d : Nat} {P : Int → sM → sG → Prop} {M : sM} {G : sG}   (kk : P (-1) M G) : sW (sC d) 230 (QI P) 69 [vN, vN, vN] [] M G 0 0 := by
  refine q_iconst 70 rfl (show sCode 230 69 = some (.iconst (-1), 1) by decide +kernel) ⟨by decide, by decide⟩ ?_
  exact q_iret (show sCode 230 70 = some (.ireturn, 1) by decide +kernel) (by decide +kernel) (by decide +kernel) kk
-- 231 AfterTheLastModel.ahead (III)I
theorem b231_0 {d : Nat} {Q : Option sV → sM → sG → Prop} {M : sM} {G : sG} {a0 : Nat} {x1 : Int} {x2 : Int} {x3 : Int}  (kk : sC d 218 [vO 12 a0, vI x1] M G (QI (fun r M1 G1 => sW (sC d) 231 Q 5 [vO 12 a0, vI x1, vI x2, vI x3, vN, vN] (vI r :: []) M1 G1 0 0))) : sW (sC d) 231 Q 0 [vO 12 a0, vI x1, vI x2, vI x3, vN, vN] [] M G 0 0 := by
  refine q_aload_n 1 rfl (show sCode 231 0 = some (.aload_n 0, 1) by decide +kernel) rfl (Nat.le_of_ble_eq_true rfl) ?_
  refine q_iload_n 2 rfl (show sCode 231 1 = some (.iload_n 1, 1) by decide +kernel) rfl ?_
  exact q_virtI [vI x1] 5 rfl (show sCode 231 2 = some (.invokevirtual 337, 3) by decide +kernel) (show sMR (sKo 231).1 337 = some 218 by decide +kernel) (show 218 < 1000 ∧ sStat 218 = false ∧ sIni 218 = false ∧ sKo 218 = (12, 1, 2, 0, 0) by decide +kernel) rfl (Or.inl rfl) rfl (Nat.le_of_ble_eq_true rfl) rfl rfl rfl (by decide +kernel) kk
theorem b231_5 {d : Nat} {Q : Option sV → sM → sG → Prop} {M : sM} {G : sG} {a0 : Nat} {x1 : Int} {x2 : Int} {x3 : Int} {s0 : Int}  (k1 : s0 = 0 → sW (sC d) 231 Q 45 [vN, vN, vN, vN, vN, vN] [] M G 0 0) (k2 : s0 ≠ 0 → sW (sC d) 231 Q 8 [vO 12 a0, vI x1, vI x2, vI x3, vN, vN] [] M G 0 0) : sW (sC d) 231 Q 5 [vO 12 a0, vI x1, vI x2, vI x3, vN, vN] [vI s0] M G 0 0 := by
  refine q_ifeq 45 8 rfl (by decide) (show sCode 231 5 = some (.ifCond .eq 40, 3) by decide +kernel) ?_ ?_
  · intro q; refine q_forget (L' := [vN, vI x1, vI x2, vI x3, vN, vN]) 0 rfl ?_; refine q_forget (L' := [vN, vN, vI x2, vI x3, vN, vN]) 1 rfl ?_; refine q_forget (L' := [vN, vN, vN, vI x3, vN, vN]) 2 rfl ?_; refine q_forget (L' := [vN, vN, vN, vN, vN, vN]) 3 rfl ?_; exact k1 q
  · intro q; exact k2 q
theorem b231_8 {d : Nat} {Q : Option sV → sM → sG → Prop} {M : sM} {G : sG} {a0 : Nat} {x1 : Int} {x2 : Int} {x3 : Int}  (kk : sC d 183 [vL x2, vL 0, vL 96] M G (QI (fun r M1 G1 => sW (sC d) 231 Q 17 [vO 12 a0, vI x1, vI x2, vI x3, vN, vN] (vI r :: []) M1 G1 0 0))) : sW (sC d) 231 Q 8 [vO 12 a0, vI x1, vI x2, vI x3, vN, vN] [] M G 0 0 := by
  refine q_iload_n 9 rfl (show sCode 231 8 = some (.iload_n 2, 1) by decide +kernel) rfl ?_
  refine q_i2l 10 rfl (show sCode 231 9 = some (.i2l, 1) by decide +kernel) ?_
  refine q_lconst 11 rfl (show sCode 231 10 = some (.lconst 0, 1) by decide +kernel) ?_
  refine q_ldc2_w 14 rfl (show sCode 231 11 = some (.ldc2_w 340, 3) by decide +kernel) (show sLR (sKo 231).1 340 = some 96 by decide +kernel) ⟨by decide, by decide⟩ ?_
  exact q_statI [vL x2, vL 0, vL 96] 17 rfl (show sCode 231 14 = some (.invokestatic 127, 3) by decide +kernel) (show sMR (sKo 231).1 127 = some 183 by decide +kernel) (show 183 < 1000 ∧ sStat 183 = true ∧ sKo 183 = (12, 3, 2, 0, 0) by decide +kernel) rfl rfl (Nat.le_of_ble_eq_true rfl) rfl rfl rfl (by decide +kernel) kk
theorem b231_17 {d : Nat} {Q : Option sV → sM → sG → Prop} {M : sM} {G : sG} {a0 : Nat} {x1 : Int} {x2 : Int} {x3 : Int} {s0 : Int}  (k1 : s0 = 0 → sW (sC d) 231 Q 45 [vN, vN, vN, vN, vN, vN] [] M G 0 0) (k2 : s0 ≠ 0 → sW (sC d) 231 Q 20 [vO 12 a0, vI x1, vI x2, vI x3, vN, vN] [] M G 0 0) : sW (sC d) 231 Q 17 [vO 12 a0, vI x1, vI x2, vI x3, vN, vN] [vI s0] M G 0 0 := by
  refine q_ifeq 45 20 rfl (by decide) (show sCode 231 17 = some (.ifCond .eq 28, 3) by decide +kernel) ?_ ?_
  · intro q; refine q_forget (L' := [vN, vI x1, vI x2, vI x3, vN, vN]) 0 rfl ?_; refine q_forget (L' := [vN, vN, vI x2, vI x3, vN, vN]) 1 rfl ?_; refine q_forget (L' := [vN, vN, vN, vI x3, vN, vN]) 2 rfl ?_; refine q_forget (L' := [vN, vN, vN, vN, vN, vN]) 3 rfl ?_; exact k1 q
  · intro q; exact k2 q
theorem b231_20 {d : Nat} {Q : Option sV → sM → sG → Prop} {M : sM} {G : sG} {a0 : Nat} {x1 : Int} {x2 : Int} {x3 : Int} (h1 : sI ((M (a0 + 11) 2) + x2)) (k1 : 96 < (M (a0 + 11) 2) + x2 → sW (sC d) 231 Q 45 [vN, vN, vN, vN, vN, vN] [] M G 0 0) (k2 : (M (a0 + 11) 2) + x2 ≤ 96 → sW (sC d) 231 Q 33 [vO 12 a0, vI x1, vI x2, vI x3, vN, vN] [] M G 0 0) : sW (sC d) 231 Q 20 [vO 12 a0, vI x1, vI x2, vI x3, vN, vN] [] M G 0 0 := by
  refine q_aload_n 21 rfl (show sCode 231 20 = some (.aload_n 0, 1) by decide +kernel) rfl (Nat.le_of_ble_eq_true rfl) ?_
  refine q_getR (vA 0 (a0 + 11) 274) 24 rfl (show sCode 231 21 = some (.getfield 42, 3) by decide +kernel) (show sFR (sKo 231).1 42 = some (12, 23) by decide +kernel) (by decide +kernel) (Or.inl (Or.inl rfl)) rfl ?_
  refine q_iconst 25 rfl (show sCode 231 24 = some (.iconst 2, 1) by decide +kernel) ⟨by decide, by decide⟩ ?_
  refine q_iald 26 rfl (show sCode 231 25 = some (.iaload, 1) by decide +kernel) ⟨by decide, by decide⟩ ?_
  refine q_iload_n 27 rfl (show sCode 231 26 = some (.iload_n 2, 1) by decide +kernel) rfl ?_
  refine q_iadd 28 rfl (show sCode 231 27 = some (.iadd, 1) by decide +kernel) h1 ?_
  refine q_bipush 30 rfl (show sCode 231 28 = some (.bipush 96, 2) by decide +kernel) ⟨by decide, by decide⟩ (by decide +kernel) ?_
  refine q_icmpgt 45 33 rfl (by decide) (show sCode 231 30 = some (.if_icmp .gt 15, 3) by decide +kernel) ?_ ?_
  · intro q; refine q_forget (L' := [vN, vI x1, vI x2, vI x3, vN, vN]) 0 rfl ?_; refine q_forget (L' := [vN, vN, vI x2, vI x3, vN, vN]) 1 rfl ?_; refine q_forget (L' := [vN, vN, vN, vI x3, vN, vN]) 2 rfl ?_; refine q_forget (L' := [vN, vN, vN, vN, vN, vN]) 3 rfl ?_; exact k1 q
  · intro q; exact k2 q
theorem b231_33 {d : Nat} {Q : Option sV → sM → sG → Prop} {M : sM} {G : sG} {a0 : Nat} {x1 : Int} {x2 : Int} {x3 : Int}  (kk : sC d 183 [vL x3, vL 0, vL 3] M G (QI (fun r M1 G1 => sW (sC d) 231 Q 42 [vO 12 a0, vI x1, vI x2, vI x3, vN, vN] (vI r :: []) M1 G1 0 0))) : sW (sC d) 231 Q 33 [vO 12 a0, vI x1, vI x2, vI x3, vN, vN] [] M G 0 0 := by
  refine q_iload_n 34 rfl (show sCode 231 33 = some (.iload_n 3, 1) by decide +kernel) rfl ?_
  refine q_i2l 35 rfl (show sCode 231 34 = some (.i2l, 1) by decide +kernel) ?_
  refine q_lconst 36 rfl (show sCode 231 35 = some (.lconst 0, 1) by decide +kernel) ?_
  refine q_ldc2_w 39 rfl (show sCode 231 36 = some (.ldc2_w 345, 3) by decide +kernel) (show sLR (sKo 231).1 345 = some 3 by decide +kernel) ⟨by decide, by decide⟩ ?_
  exact q_statI [vL x3, vL 0, vL 3] 42 rfl (show sCode 231 39 = some (.invokestatic 127, 3) by decide +kernel) (show sMR (sKo 231).1 127 = some 183 by decide +kernel) (show 183 < 1000 ∧ sStat 183 = true ∧ sKo 183 = (12, 3, 2, 0, 0) by decide +kernel) rfl rfl (Nat.le_of_ble_eq_true rfl) rfl rfl rfl (by decide +kernel) kk
theorem b231_42 {d : Nat} {Q : Option sV → sM → sG → Prop} {M : sM} {G : sG} {a0 : Nat} {x1 : Int} {x2 : Int} {x3 : Int} {s0 : Int}  (k1 : s0 ≠ 0 → sW (sC d) 231 Q 47 [vO 12 a0, vI x1, vI x2, vI x3, vN, vN] [] M G 0 0) (k2 : s0 = 0 → sW (sC d) 231 Q 45 [vN, vN, vN, vN, vN, vN] [] M G 0 0) : sW (sC d) 231 Q 42 [vO 12 a0, vI x1, vI x2, vI x3, vN, vN] [vI s0] M G 0 0 := by
  refine q_ifne 47 45 rfl (by decide) (show sCode 231 42 = some (.ifCond .ne 5, 3) by decide +kernel) ?_ ?_
  · intro q; exact k1 q
  · intro q; refine q_forget (L' := [vN, vI x1, vI x2, vI x3, vN, vN]) 0 rfl ?_; refine q_forget (L' := [vN, vN, vI x2, vI x3, vN, vN]) 1 rfl ?_; refine q_forget (L' := [vN, vN, vN, vI x3, vN, vN]) 2 rfl ?_; refine q_forget (L' := [vN, vN, vN, vN, vN, vN]) 3 rfl ?_; exact k2 q
theorem b231_45 {d : Nat} {P : Int → sM → sG → Prop} {M : sM} {G : sG}   (kk : P (-1) M G) : sW (sC d) 231 (QI P) 45 [vN, vN, vN, vN, vN, vN] [] M G 0 0 := by
  refine q_iconst 46 rfl (show sCode 231 45 = some (.iconst (-1), 1) by decide +kernel) ⟨by decide, by decide⟩ ?_
  exact q_iret (show sCode 231 46 = some (.ireturn, 1) by decide +kernel) (by decide +kernel) (by decide +kernel) kk
theorem b231_47 {d : Nat} {Q : Option sV → sM → sG → Prop} {M : sM} {G : sG} {a0 : Nat} {x1 : Int} {x2 : Int} {x3 : Int}  (kk : sC d 232 [vO 12 a0] M G (QV (fun M1 G1 => sW (sC d) 231 Q 51 [vO 12 a0, vI x1, vI x2, vI x3, vN, vN] [] M1 G1 0 0))) : sW (sC d) 231 Q 47 [vO 12 a0, vI x1, vI x2, vI x3, vN, vN] [] M G 0 0 := by
  refine q_aload_n 48 rfl (show sCode 231 47 = some (.aload_n 0, 1) by decide +kernel) rfl (Nat.le_of_ble_eq_true rfl) ?_
  exact q_virtV [] 51 rfl (show sCode 231 48 = some (.invokevirtual 347, 3) by decide +kernel) (show sMR (sKo 231).1 347 = some 232 by decide +kernel) (show 232 < 1000 ∧ sStat 232 = false ∧ sIni 232 = false ∧ sKo 232 = (12, 0, 0, 0, 0) by decide +kernel) rfl (Or.inl rfl) rfl (Nat.le_of_ble_eq_true rfl) rfl rfl rfl (by decide +kernel) kk
theorem b231_51 {d : Nat} {Q : Option sV → sM → sG → Prop} {M : sM} {G : sG} {a0 : Nat} {x1 : Int} {x2 : Int} {x3 : Int}  (kk : sC d 219 [vO 12 a0, vI x1, vI x2] M G (QV (fun M1 G1 => sW (sC d) 231 Q 57 [vO 12 a0, vN, vN, vI x3, vN, vN] [] M1 G1 0 0))) : sW (sC d) 231 Q 51 [vO 12 a0, vI x1, vI x2, vI x3, vN, vN] [] M G 0 0 := by
  refine q_aload_n 52 rfl (show sCode 231 51 = some (.aload_n 0, 1) by decide +kernel) rfl (Nat.le_of_ble_eq_true rfl) ?_
  refine q_iload_n 53 rfl (show sCode 231 52 = some (.iload_n 1, 1) by decide +kernel) rfl ?_
  refine q_iload_n 54 rfl (show sCode 231 53 = some (.iload_n 2, 1) by decide +kernel) rfl ?_
  refine q_forget (L' := [vO 12 a0, vN, vI x2, vI x3, vN, vN]) 1 rfl ?_
  refine q_forget (L' := [vO 12 a0, vN, vN, vI x3, vN, vN]) 2 rfl ?_
  exact q_virtV [vI x1, vI x2] 57 rfl (show sCode 231 54 = some (.invokevirtual 342, 3) by decide +kernel) (show sMR (sKo 231).1 342 = some 219 by decide +kernel) (show 219 < 1000 ∧ sStat 219 = false ∧ sIni 219 = false ∧ sKo 219 = (12, 2, 0, 0, 0) by decide +kernel) rfl (Or.inl rfl) rfl (Nat.le_of_ble_eq_true rfl) rfl rfl rfl (by decide +kernel) kk
theorem b231_57 {d : Nat} {Q : Option sV → sM → sG → Prop} {M : sM} {G : sG} {a0 : Nat} {x3 : Int}  (kk : sW (sC d) 231 Q 63 [vO 12 a0, vN, vN, vI x3, vI 0, vI 0] [] M G 0 0) : sW (sC d) 231 Q 57 [vO 12 a0, vN, vN, vI x3, vN, vN] [] M G 0 0 := by
  refine q_iconst 58 rfl (show sCode 231 57 = some (.iconst 0, 1) by decide +kernel) ⟨by decide, by decide⟩ ?_
  refine q_istore [vO 12 a0, vN, vN, vI x3, vI 0, vN] 60 rfl (show sCode 231 58 = some (.istore 4, 2) by decide +kernel) (Nat.lt_of_lt_of_le (Nat.lt_succ_self _) (Nat.le_of_ble_eq_true rfl)) rfl rfl ?_
  refine q_iconst 61 rfl (show sCode 231 60 = some (.iconst 0, 1) by decide +kernel) ⟨by decide, by decide⟩ ?_
  refine q_istore [vO 12 a0, vN, vN, vI x3, vI 0, vI 0] 63 rfl (show sCode 231 61 = some (.istore 5, 2) by decide +kernel) (Nat.lt_of_lt_of_le (Nat.lt_succ_self _) (Nat.le_of_ble_eq_true rfl)) rfl rfl ?_
  exact kk
theorem b231_63 {d : Nat} {Q : Option sV → sM → sG → Prop} {M : sM} {G : sG} {a0 : Nat} {x3 : Int} {x4 : Int} {x5 : Int}  (k1 : M (a0 + 11) 0 ≤ x5 → sW (sC d) 231 Q 92 [vO 12 a0, vN, vN, vI x3, vI x4, vN] [] M G 0 0) (k2 : x5 < M (a0 + 11) 0 → sW (sC d) 231 Q 74 [vO 12 a0, vN, vN, vI x3, vI x4, vI x5] [] M G 0 0) : sW (sC d) 231 Q 63 [vO 12 a0, vN, vN, vI x3, vI x4, vI x5] [] M G 0 0 := by
  refine q_iload 65 rfl (show sCode 231 63 = some (.iload 5, 2) by decide +kernel) rfl ?_
  refine q_aload_n 66 rfl (show sCode 231 65 = some (.aload_n 0, 1) by decide +kernel) rfl (Nat.le_of_ble_eq_true rfl) ?_
  refine q_getR (vA 0 (a0 + 11) 274) 69 rfl (show sCode 231 66 = some (.getfield 42, 3) by decide +kernel) (show sFR (sKo 231).1 42 = some (12, 23) by decide +kernel) (by decide +kernel) (Or.inl (Or.inl rfl)) rfl ?_
  refine q_iconst 70 rfl (show sCode 231 69 = some (.iconst 0, 1) by decide +kernel) ⟨by decide, by decide⟩ ?_
  refine q_iald 71 rfl (show sCode 231 70 = some (.iaload, 1) by decide +kernel) ⟨by decide, by decide⟩ ?_
  refine q_icmpge 92 74 rfl (by decide) (show sCode 231 71 = some (.if_icmp .ge 21, 3) by decide +kernel) ?_ ?_
  · intro q; refine q_forget (L' := [vO 12 a0, vN, vN, vI x3, vI x4, vN]) 5 rfl ?_; exact k1 q
  · intro q; exact k2 q
theorem b231_74 {d : Nat} {Q : Option sV → sM → sG → Prop} {M : sM} {G : sG} {a0 : Nat} {x3 : Int} {x4 : Int} {x5 : Int}  (kk : sC d 204 [vO 12 a0, vI x5, vI 2] M G (QI (fun r M1 G1 => sW (sC d) 231 Q 83 [vO 12 a0, vN, vN, vI x3, vN, vI x5] (vI r :: [vI x4]) M1 G1 0 0))) : sW (sC d) 231 Q 74 [vO 12 a0, vN, vN, vI x3, vI x4, vI x5] [] M G 0 0 := by
  refine q_iload 76 rfl (show sCode 231 74 = some (.iload 4, 2) by decide +kernel) rfl ?_
  refine q_aload_n 77 rfl (show sCode 231 76 = some (.aload_n 0, 1) by decide +kernel) rfl (Nat.le_of_ble_eq_true rfl) ?_
  refine q_iload 79 rfl (show sCode 231 77 = some (.iload 5, 2) by decide +kernel) rfl ?_
  refine q_iconst 80 rfl (show sCode 231 79 = some (.iconst 2, 1) by decide +kernel) ⟨by decide, by decide⟩ ?_
  refine q_forget (L' := [vO 12 a0, vN, vN, vI x3, vN, vI x5]) 4 rfl ?_
  exact q_virtI [vI x5, vI 2] 83 rfl (show sCode 231 80 = some (.invokevirtual 284, 3) by decide +kernel) (show sMR (sKo 231).1 284 = some 204 by decide +kernel) (show 204 < 1000 ∧ sStat 204 = false ∧ sIni 204 = false ∧ sKo 204 = (12, 2, 1, 0, 0) by decide +kernel) rfl (Or.inl rfl) rfl (Nat.le_of_ble_eq_true rfl) rfl rfl rfl (by decide +kernel) kk
theorem b231_83 {d : Nat} {Q : Option sV → sM → sG → Prop} {M : sM} {G : sG} {a0 : Nat} {x3 : Int} {x5 : Int} {s0 : Int} {s1 : Int} (h1 : sI (s1 + s0)) (h2 : sI (x5 + 1)) (kk : sW (sC d) 231 Q 63 [vO 12 a0, vN, vN, vI x3, vI (s1 + s0), vI (x5 + 1)] [] M G 0 0) : sW (sC d) 231 Q 83 [vO 12 a0, vN, vN, vI x3, vN, vI x5] [vI s0, vI s1] M G 0 0 := by
  refine q_iadd 84 rfl (show sCode 231 83 = some (.iadd, 1) by decide +kernel) h1 ?_
  refine q_istore [vO 12 a0, vN, vN, vI x3, vI (s1 + s0), vI x5] 86 rfl (show sCode 231 84 = some (.istore 4, 2) by decide +kernel) (Nat.lt_of_lt_of_le (Nat.lt_succ_self _) (Nat.le_of_ble_eq_true rfl)) rfl rfl ?_
  refine q_iinc [vO 12 a0, vN, vN, vI x3, vI (s1 + s0), vI (x5 + 1)] 89 rfl (show sCode 231 86 = some (.iinc 5 1, 3) by decide +kernel) rfl rfl h2 rfl ?_
  refine q_goto 63 (by decide) (show sCode 231 89 = some (.goto (-26), 3) by decide +kernel) ?_
  exact kk
theorem b231_92 {d : Nat} {Q : Option sV → sM → sG → Prop} {M : sM} {G : sG} {a0 : Nat} {x3 : Int} {x4 : Int}  (k1 : x3 ≠ 0 → sW (sC d) 231 Q 103 [vO 12 a0, vN, vN, vI x3, vI x4, vN] [] M G 0 0) (k2 : x3 = 0 → sW (sC d) 231 Q 96 [vO 12 a0, vN, vN, vN, vN, vN] [] M G 0 0) : sW (sC d) 231 Q 92 [vO 12 a0, vN, vN, vI x3, vI x4, vN] [] M G 0 0 := by
  refine q_iload_n 93 rfl (show sCode 231 92 = some (.iload_n 3, 1) by decide +kernel) rfl ?_
  refine q_ifne 103 96 rfl (by decide) (show sCode 231 93 = some (.ifCond .ne 10, 3) by decide +kernel) ?_ ?_
  · intro q; exact k1 q
  · intro q; refine q_forget (L' := [vO 12 a0, vN, vN, vN, vI x4, vN]) 3 rfl ?_; refine q_forget (L' := [vO 12 a0, vN, vN, vN, vN, vN]) 4 rfl ?_; exact k2 q
theorem b231_96 {d : Nat} {Q : Option sV → sM → sG → Prop} {M : sM} {G : sG} {a0 : Nat}  (kk : sC d 233 [vO 12 a0] M G (QI (fun r M1 G1 => sW (sC d) 231 Q 100 [vO 12 a0, vN, vN, vN, vN, vN] (vI r :: []) M1 G1 0 0))) : sW (sC d) 231 Q 96 [vO 12 a0, vN, vN, vN, vN, vN] [] M G 0 0 := by
  refine q_aload_n 97 rfl (show sCode 231 96 = some (.aload_n 0, 1) by decide +kernel) rfl (Nat.le_of_ble_eq_true rfl) ?_
  exact q_virtI [] 100 rfl (show sCode 231 97 = some (.invokevirtual 350, 3) by decide +kernel) (show sMR (sKo 231).1 350 = some 233 by decide +kernel) (show 233 < 1000 ∧ sStat 233 = false ∧ sIni 233 = false ∧ sKo 233 = (12, 0, 1, 0, 0) by decide +kernel) rfl (Or.inl rfl) rfl (Nat.le_of_ble_eq_true rfl) rfl rfl rfl (by decide +kernel) kk
theorem b231_100 {d : Nat} {Q : Option sV → sM → sG → Prop} {M : sM} {G : sG} {a0 : Nat} {s0 : Int}  (kk : sW (sC d) 231 Q 138 [vO 12 a0, vN, vN, vN, vN, vN] [vI s0] M G 0 0) : sW (sC d) 231 Q 100 [vO 12 a0, vN, vN, vN, vN, vN] [vI s0] M G 0 0 := by
  refine q_goto 138 (by decide) (show sCode 231 100 = some (.goto 38, 3) by decide +kernel) ?_
  exact kk
theorem b231_103 {d : Nat} {Q : Option sV → sM → sG → Prop} {M : sM} {G : sG} {a0 : Nat} {x3 : Int} {x4 : Int}  (k1 : x3 ≠ 1 → sW (sC d) 231 Q 124 [vO 12 a0, vN, vN, vI x3, vI x4, vN] [] M G 0 0) (k2 : x3 = 1 → sW (sC d) 231 Q 108 [vO 12 a0, vN, vN, vN, vN, vN] [] M G 0 0) : sW (sC d) 231 Q 103 [vO 12 a0, vN, vN, vI x3, vI x4, vN] [] M G 0 0 := by
  refine q_iload_n 104 rfl (show sCode 231 103 = some (.iload_n 3, 1) by decide +kernel) rfl ?_
  refine q_iconst 105 rfl (show sCode 231 104 = some (.iconst 1, 1) by decide +kernel) ⟨by decide, by decide⟩ ?_
  refine q_icmpne 124 108 rfl (by decide) (show sCode 231 105 = some (.if_icmp .ne 19, 3) by decide +kernel) ?_ ?_
  · intro q; exact k1 q
  · intro q; refine q_forget (L' := [vO 12 a0, vN, vN, vN, vI x4, vN]) 3 rfl ?_; refine q_forget (L' := [vO 12 a0, vN, vN, vN, vN, vN]) 4 rfl ?_; exact k2 q
theorem b231_108 {d : Nat} {Q : Option sV → sM → sG → Prop} {M : sM} {G : sG} {a0 : Nat} (h1 : sI ((M (a0 + 11) 3) - (M (a0 + 12) 3))) (kk : sW (sC d) 231 Q 138 [vO 12 a0, vN, vN, vN, vN, vN] [vI ((M (a0 + 11) 3) - (M (a0 + 12) 3))] M G 0 0) : sW (sC d) 231 Q 108 [vO 12 a0, vN, vN, vN, vN, vN] [] M G 0 0 := by
  refine q_aload_n 109 rfl (show sCode 231 108 = some (.aload_n 0, 1) by decide +kernel) rfl (Nat.le_of_ble_eq_true rfl) ?_
  refine q_getR (vA 0 (a0 + 11) 274) 112 rfl (show sCode 231 109 = some (.getfield 42, 3) by decide +kernel) (show sFR (sKo 231).1 42 = some (12, 23) by decide +kernel) (by decide +kernel) (Or.inl (Or.inl rfl)) rfl ?_
  refine q_iconst 113 rfl (show sCode 231 112 = some (.iconst 3, 1) by decide +kernel) ⟨by decide, by decide⟩ ?_
  refine q_iald 114 rfl (show sCode 231 113 = some (.iaload, 1) by decide +kernel) ⟨by decide, by decide⟩ ?_
  refine q_aload_n 115 rfl (show sCode 231 114 = some (.aload_n 0, 1) by decide +kernel) rfl (Nat.le_of_ble_eq_true rfl) ?_
  refine q_getR (vA 0 (a0 + 12) 274) 118 rfl (show sCode 231 115 = some (.getfield 45, 3) by decide +kernel) (show sFR (sKo 231).1 45 = some (12, 24) by decide +kernel) (by decide +kernel) (Or.inl (Or.inl rfl)) rfl ?_
  refine q_iconst 119 rfl (show sCode 231 118 = some (.iconst 3, 1) by decide +kernel) ⟨by decide, by decide⟩ ?_
  refine q_iald 120 rfl (show sCode 231 119 = some (.iaload, 1) by decide +kernel) ⟨by decide, by decide⟩ ?_
  refine q_isub 121 rfl (show sCode 231 120 = some (.isub, 1) by decide +kernel) h1 ?_
  refine q_goto 138 (by decide) (show sCode 231 121 = some (.goto 17, 3) by decide +kernel) ?_
  exact kk
theorem b231_124 {d : Nat} {Q : Option sV → sM → sG → Prop} {M : sM} {G : sG} {a0 : Nat} {x3 : Int} {x4 : Int}  (k1 : x3 ≠ 2 → sW (sC d) 231 Q 136 [vO 12 a0, vN, vN, vN, vI x4, vN] [] M G 0 0) (k2 : x3 = 2 → sW (sC d) 231 Q 129 [vO 12 a0, vN, vN, vN, vN, vN] [] M G 0 0) : sW (sC d) 231 Q 124 [vO 12 a0, vN, vN, vI x3, vI x4, vN] [] M G 0 0 := by
  refine q_iload_n 125 rfl (show sCode 231 124 = some (.iload_n 3, 1) by decide +kernel) rfl ?_
  refine q_iconst 126 rfl (show sCode 231 125 = some (.iconst 2, 1) by decide +kernel) ⟨by decide, by decide⟩ ?_
  refine q_icmpne 136 129 rfl (by decide) (show sCode 231 126 = some (.if_icmp .ne 10, 3) by decide +kernel) ?_ ?_
  · intro q; refine q_forget (L' := [vO 12 a0, vN, vN, vN, vI x4, vN]) 3 rfl ?_; exact k1 q
  · intro q; refine q_forget (L' := [vO 12 a0, vN, vN, vN, vI x4, vN]) 3 rfl ?_; refine q_forget (L' := [vO 12 a0, vN, vN, vN, vN, vN]) 4 rfl ?_; exact k2 q
theorem b231_129 {d : Nat} {Q : Option sV → sM → sG → Prop} {M : sM} {G : sG} {a0 : Nat}  (kk : sC d 234 [vO 12 a0] M G (QI (fun r M1 G1 => sW (sC d) 231 Q 133 [vO 12 a0, vN, vN, vN, vN, vN] (vI r :: []) M1 G1 0 0))) : sW (sC d) 231 Q 129 [vO 12 a0, vN, vN, vN, vN, vN] [] M G 0 0 := by
  refine q_aload_n 130 rfl (show sCode 231 129 = some (.aload_n 0, 1) by decide +kernel) rfl (Nat.le_of_ble_eq_true rfl) ?_
  exact q_virtI [] 133 rfl (show sCode 231 130 = some (.invokevirtual 353, 3) by decide +kernel) (show sMR (sKo 231).1 353 = some 234 by decide +kernel) (show 234 < 1000 ∧ sStat 234 = false ∧ sIni 234 = false ∧ sKo 234 = (12, 0, 1, 0, 0) by decide +kernel) rfl (Or.inl rfl) rfl (Nat.le_of_ble_eq_true rfl) rfl rfl rfl (by decide +kernel) kk
theorem b231_133 {d : Nat} {Q : Option sV → sM → sG → Prop} {M : sM} {G : sG} {a0 : Nat} {s0 : Int}  (kk : sW (sC d) 231 Q 138 [vO 12 a0, vN, vN, vN, vN, vN] [vI s0] M G 0 0) : sW (sC d) 231 Q 133 [vO 12 a0, vN, vN, vN, vN, vN] [vI s0] M G 0 0 := by
  refine q_goto 138 (by decide) (show sCode 231 133 = some (.goto 5, 3) by decide +kernel) ?_
  exact kk
theorem b231_136 {d : Nat} {Q : Option sV → sM → sG → Prop} {M : sM} {G : sG} {a0 : Nat} {x4 : Int}  (kk : sW (sC d) 231 Q 138 [vO 12 a0, vN, vN, vN, vN, vN] [vI x4] M G 0 0) : sW (sC d) 231 Q 136 [vO 12 a0, vN, vN, vN, vI x4, vN] [] M G 0 0 := by
  refine q_iload 138 rfl (show sCode 231 136 = some (.iload 4, 2) by decide +kernel) rfl ?_
  refine q_forget (L' := [vO 12 a0, vN, vN, vN, vN, vN]) 4 rfl ?_
  exact kk
theorem b231_138 {d : Nat} {Q : Option sV → sM → sG → Prop} {M : sM} {G : sG} {a0 : Nat} {s0 : Int}  (kk : sC d 235 [vO 12 a0] M G (QV (fun M1 G1 => sW (sC d) 231 Q 144 [vN, vN, vN, vN, vN, vI s0] [] M1 G1 0 0))) : sW (sC d) 231 Q 138 [vO 12 a0, vN, vN, vN, vN, vN] [vI s0] M G 0 0 := by
  refine q_istore [vO 12 a0, vN, vN, vN, vN, vI s0] 140 rfl (show sCode 231 138 = some (.istore 5, 2) by decide +kernel) (Nat.lt_of_lt_of_le (Nat.lt_succ_self _) (Nat.le_of_ble_eq_true rfl)) rfl rfl ?_
  refine q_aload_n 141 rfl (show sCode 231 140 = some (.aload_n 0, 1) by decide +kernel) rfl (Nat.le_of_ble_eq_true rfl) ?_
  refine q_forget (L' := [vN, vN, vN, vN, vN, vI s0]) 0 rfl ?_
  exact q_virtV [] 144 rfl (show sCode 231 141 = some (.invokevirtual 356, 3) by decide +kernel) (show sMR (sKo 231).1 356 = some 235 by decide +kernel) (show 235 < 1000 ∧ sStat 235 = false ∧ sIni 235 = false ∧ sKo 235 = (12, 0, 0, 0, 0) by decide +kernel) rfl (Or.inl rfl) rfl (Nat.le_of_ble_eq_true rfl) rfl rfl rfl (by decide +kernel) kk
theorem b231_144 {d : Nat} {P : Int → sM → sG → Prop} {M : sM} {G : sG} {x5 : Int}  (kk : P x5 M G) : sW (sC d) 231 (QI P) 144 [vN, vN, vN, vN, vN, vI x5] [] M G 0 0 := by
  refine q_iload 146 rfl (show sCode 231 144 = some (.iload 5, 2) by decide +kernel) rfl ?_
  exact q_iret (show sCode 231 146 = some (.ireturn, 1) by decide +kernel) (by decide +kernel) (by decide +kernel) kk
-- 232 AfterTheLastModel.keeps ()V
theorem b232_0 {d : Nat} {Q : Option sV → sM → sG → Prop} {M : sM} {G : sG} {a0 : Nat}  (kk : sW (sC d) 232 Q 2 [vO 12 a0, vI 0] [] M G 0 0) : sW (sC d) 232 Q 0 [vO 12 a0, vN] [] M G 0 0 := by
  refine q_iconst 1 rfl (show sCode 232 0 = some (.iconst 0, 1) by decide +kernel) ⟨by decide, by decide⟩ ?_
  refine q_istore_n [vO 12 a0, vI 0] 2 rfl (show sCode 232 1 = some (.istore_n 1, 1) by decide +kernel) (Nat.lt_of_lt_of_le (Nat.lt_succ_self _) (Nat.le_of_ble_eq_true rfl)) rfl rfl ?_
  exact kk
theorem b232_2 {d : Nat} {Q : Option sV → sM → sG → Prop} {M : sM} {G : sG} {a0 : Nat} {x1 : Int}  (k1 : 274 ≤ x1 → sW (sC d) 232 Q 27 [vN, vN] [] M G 0 0) (k2 : x1 < 274 → sW (sC d) 232 Q 9 [vO 12 a0, vI x1] [] M G 0 0) : sW (sC d) 232 Q 2 [vO 12 a0, vI x1] [] M G 0 0 := by
  refine q_iload_n 3 rfl (show sCode 232 2 = some (.iload_n 1, 1) by decide +kernel) rfl ?_
  refine q_sipush 6 rfl (show sCode 232 3 = some (.sipush 274, 3) by decide +kernel) ⟨by decide, by decide⟩ (by decide +kernel) ?_
  refine q_icmpge 27 9 rfl (by decide) (show sCode 232 6 = some (.if_icmp .ge 21, 3) by decide +kernel) ?_ ?_
  · intro q; refine q_forget (L' := [vN, vI x1]) 0 rfl ?_; refine q_forget (L' := [vN, vN]) 1 rfl ?_; exact k1 q
  · intro q; exact k2 q
theorem b232_9 {d : Nat} {Q : Option sV → sM → sG → Prop} {M : sM} {G : sG} {a0 : Nat} {x1 : Int} (h1 : 0 ≤ x1 ∧ x1 < 274) (h2 : 0 ≤ x1 ∧ x1 < 274) (h3 : sI (x1 + 1)) (kk : sW (sC d) 232 Q 2 [vO 12 a0, vI (x1 + 1)] [] (sUpd M (a0 + 12) x1.toNat (M (a0 + 11) x1.toNat)) G 0 0) : sW (sC d) 232 Q 9 [vO 12 a0, vI x1] [] M G 0 0 := by
  refine q_aload_n 10 rfl (show sCode 232 9 = some (.aload_n 0, 1) by decide +kernel) rfl (Nat.le_of_ble_eq_true rfl) ?_
  refine q_getR (vA 0 (a0 + 12) 274) 13 rfl (show sCode 232 10 = some (.getfield 45, 3) by decide +kernel) (show sFR (sKo 232).1 45 = some (12, 24) by decide +kernel) (by decide +kernel) (Or.inl (Or.inl rfl)) rfl ?_
  refine q_iload_n 14 rfl (show sCode 232 13 = some (.iload_n 1, 1) by decide +kernel) rfl ?_
  refine q_aload_n 15 rfl (show sCode 232 14 = some (.aload_n 0, 1) by decide +kernel) rfl (Nat.le_of_ble_eq_true rfl) ?_
  refine q_getR (vA 0 (a0 + 11) 274) 18 rfl (show sCode 232 15 = some (.getfield 42, 3) by decide +kernel) (show sFR (sKo 232).1 42 = some (12, 23) by decide +kernel) (by decide +kernel) (Or.inl (Or.inl rfl)) rfl ?_
  refine q_iload_n 19 rfl (show sCode 232 18 = some (.iload_n 1, 1) by decide +kernel) rfl ?_
  refine q_iald 20 rfl (show sCode 232 19 = some (.iaload, 1) by decide +kernel) h1 ?_
  refine q_iast 21 rfl (show sCode 232 20 = some (.iastore, 1) by decide +kernel) h2 ?_
  refine q_iinc [vO 12 a0, vI (x1 + 1)] 24 rfl (show sCode 232 21 = some (.iinc 1 1, 3) by decide +kernel) rfl rfl h3 rfl ?_
  refine q_goto 2 (by decide) (show sCode 232 24 = some (.goto (-22), 3) by decide +kernel) ?_
  exact kk
theorem b232_27 {d : Nat} {P : sM → sG → Prop} {M : sM} {G : sG}   (kk : P M G) : sW (sC d) 232 (QV P) 27 [vN, vN] [] M G 0 0 := by
  exact q_vret (show sCode 232 27 = some (.return_, 1) by decide +kernel) (by decide +kernel) (by decide +kernel) kk
-- 233 AfterTheLastModel.allInside ()I
theorem b233_0 {d : Nat} {Q : Option sV → sM → sG → Prop} {M : sM} {G : sG} {a0 : Nat}  (kk : sW (sC d) 233 Q 4 [vO 12 a0, vI 0, vI 0] [] M G 0 0) : sW (sC d) 233 Q 0 [vO 12 a0, vN, vN] [] M G 0 0 := by
  refine q_iconst 1 rfl (show sCode 233 0 = some (.iconst 0, 1) by decide +kernel) ⟨by decide, by decide⟩ ?_
  refine q_istore_n [vO 12 a0, vI 0, vN] 2 rfl (show sCode 233 1 = some (.istore_n 1, 1) by decide +kernel) (Nat.lt_of_lt_of_le (Nat.lt_succ_self _) (Nat.le_of_ble_eq_true rfl)) rfl rfl ?_
  refine q_iconst 3 rfl (show sCode 233 2 = some (.iconst 0, 1) by decide +kernel) ⟨by decide, by decide⟩ ?_
  refine q_istore_n [vO 12 a0, vI 0, vI 0] 4 rfl (show sCode 233 3 = some (.istore_n 2, 1) by decide +kernel) (Nat.lt_of_lt_of_le (Nat.lt_succ_self _) (Nat.le_of_ble_eq_true rfl)) rfl rfl ?_
  exact kk
theorem b233_4 {d : Nat} {Q : Option sV → sM → sG → Prop} {M : sM} {G : sG} {a0 : Nat} {x1 : Int} {x2 : Int}  (k1 : 12 ≤ x2 → sW (sC d) 233 Q 33 [vN, vI x1, vN] [] M G 0 0) (k2 : x2 < 12 → sW (sC d) 233 Q 10 [vO 12 a0, vI x1, vI x2] [] M G 0 0) : sW (sC d) 233 Q 4 [vO 12 a0, vI x1, vI x2] [] M G 0 0 := by
  refine q_iload_n 5 rfl (show sCode 233 4 = some (.iload_n 2, 1) by decide +kernel) rfl ?_
  refine q_bipush 7 rfl (show sCode 233 5 = some (.bipush 12, 2) by decide +kernel) ⟨by decide, by decide⟩ (by decide +kernel) ?_
  refine q_icmpge 33 10 rfl (by decide) (show sCode 233 7 = some (.if_icmp .ge 26, 3) by decide +kernel) ?_ ?_
  · intro q; refine q_forget (L' := [vN, vI x1, vI x2]) 0 rfl ?_; refine q_forget (L' := [vN, vI x1, vN]) 2 rfl ?_; exact k1 q
  · intro q; exact k2 q
theorem b233_10 {d : Nat} {Q : Option sV → sM → sG → Prop} {M : sM} {G : sG} {a0 : Nat} {x1 : Int} {x2 : Int}  (kk : sC d 206 [vO 12 a0, vI x2, vI 0] M G (QI (fun r M1 G1 => sW (sC d) 233 Q 17 [vO 12 a0, vN, vI x2] (vI r :: [vI x1]) M1 G1 0 0))) : sW (sC d) 233 Q 10 [vO 12 a0, vI x1, vI x2] [] M G 0 0 := by
  refine q_iload_n 11 rfl (show sCode 233 10 = some (.iload_n 1, 1) by decide +kernel) rfl ?_
  refine q_aload_n 12 rfl (show sCode 233 11 = some (.aload_n 0, 1) by decide +kernel) rfl (Nat.le_of_ble_eq_true rfl) ?_
  refine q_iload_n 13 rfl (show sCode 233 12 = some (.iload_n 2, 1) by decide +kernel) rfl ?_
  refine q_iconst 14 rfl (show sCode 233 13 = some (.iconst 0, 1) by decide +kernel) ⟨by decide, by decide⟩ ?_
  refine q_forget (L' := [vO 12 a0, vN, vI x2]) 1 rfl ?_
  exact q_virtI [vI x2, vI 0] 17 rfl (show sCode 233 14 = some (.invokevirtual 280, 3) by decide +kernel) (show sMR (sKo 233).1 280 = some 206 by decide +kernel) (show 206 < 1000 ∧ sStat 206 = false ∧ sIni 206 = false ∧ sKo 206 = (12, 2, 1, 0, 0) by decide +kernel) rfl (Or.inl rfl) rfl (Nat.le_of_ble_eq_true rfl) rfl rfl rfl (by decide +kernel) kk
theorem b233_17 {d : Nat} {Q : Option sV → sM → sG → Prop} {M : sM} {G : sG} {a0 : Nat} {x2 : Int} {s0 : Int} {s1 : Int}  (k1 : s0 < 0 → sW (sC d) 233 Q 24 [vO 12 a0, vN, vI x2] [vI s1] M G 0 0) (k2 : 0 ≤ s0 → sW (sC d) 233 Q 20 [vO 12 a0, vN, vI x2] [vI s1] M G 0 0) : sW (sC d) 233 Q 17 [vO 12 a0, vN, vI x2] [vI s0, vI s1] M G 0 0 := by
  refine q_iflt 24 20 rfl (by decide) (show sCode 233 17 = some (.ifCond .lt 7, 3) by decide +kernel) ?_ ?_
  · intro q; exact k1 q
  · intro q; exact k2 q
theorem b233_20 {d : Nat} {Q : Option sV → sM → sG → Prop} {M : sM} {G : sG} {a0 : Nat} {x2 : Int} {s0 : Int}  (kk : sW (sC d) 233 Q 25 [vO 12 a0, vN, vI x2] [vI 1, vI s0] M G 0 0) : sW (sC d) 233 Q 20 [vO 12 a0, vN, vI x2] [vI s0] M G 0 0 := by
  refine q_iconst 21 rfl (show sCode 233 20 = some (.iconst 1, 1) by decide +kernel) ⟨by decide, by decide⟩ ?_
  refine q_goto 25 (by decide) (show sCode 233 21 = some (.goto 4, 3) by decide +kernel) ?_
  exact kk
theorem b233_24 {d : Nat} {Q : Option sV → sM → sG → Prop} {M : sM} {G : sG} {a0 : Nat} {x2 : Int} {s0 : Int}  (kk : sW (sC d) 233 Q 25 [vO 12 a0, vN, vI x2] [vI 0, vI s0] M G 0 0) : sW (sC d) 233 Q 24 [vO 12 a0, vN, vI x2] [vI s0] M G 0 0 := by
  refine q_iconst 25 rfl (show sCode 233 24 = some (.iconst 0, 1) by decide +kernel) ⟨by decide, by decide⟩ ?_
  exact kk
theorem b233_25 {d : Nat} {Q : Option sV → sM → sG → Prop} {M : sM} {G : sG} {a0 : Nat} {x2 : Int} {s0 : Int} {s1 : Int} (h1 : sI (s1 + s0)) (h2 : sI (x2 + 1)) (kk : sW (sC d) 233 Q 4 [vO 12 a0, vI (s1 + s0), vI (x2 + 1)] [] M G 0 0) : sW (sC d) 233 Q 25 [vO 12 a0, vN, vI x2] [vI s0, vI s1] M G 0 0 := by
  refine q_iadd 26 rfl (show sCode 233 25 = some (.iadd, 1) by decide +kernel) h1 ?_
  refine q_istore_n [vO 12 a0, vI (s1 + s0), vI x2] 27 rfl (show sCode 233 26 = some (.istore_n 1, 1) by decide +kernel) (Nat.lt_of_lt_of_le (Nat.lt_succ_self _) (Nat.le_of_ble_eq_true rfl)) rfl rfl ?_
  refine q_iinc [vO 12 a0, vI (s1 + s0), vI (x2 + 1)] 30 rfl (show sCode 233 27 = some (.iinc 2 1, 3) by decide +kernel) rfl rfl h2 rfl ?_
  refine q_goto 4 (by decide) (show sCode 233 30 = some (.goto (-26), 3) by decide +kernel) ?_
  exact kk
theorem b233_33 {d : Nat} {P : Int → sM → sG → Prop} {M : sM} {G : sG} {x1 : Int}  (kk : P x1 M G) : sW (sC d) 233 (QI P) 33 [vN, vI x1, vN] [] M G 0 0 := by
  refine q_iload_n 34 rfl (show sCode 233 33 = some (.iload_n 1, 1) by decide +kernel) rfl ?_
  exact q_iret (show sCode 233 34 = some (.ireturn, 1) by decide +kernel) (by decide +kernel) (by decide +kernel) kk
-- 234 AfterTheLastModel.served ()I
theorem b234_0 {d : Nat} {Q : Option sV → sM → sG → Prop} {M : sM} {G : sG} {a0 : Nat}  (kk : sW (sC d) 234 Q 4 [vO 12 a0, vI 0, vI 0] [] M G 0 0) : sW (sC d) 234 Q 0 [vO 12 a0, vN, vN] [] M G 0 0 := by
  refine q_iconst 1 rfl (show sCode 234 0 = some (.iconst 0, 1) by decide +kernel) ⟨by decide, by decide⟩ ?_
  refine q_istore_n [vO 12 a0, vI 0, vN] 2 rfl (show sCode 234 1 = some (.istore_n 1, 1) by decide +kernel) (Nat.lt_of_lt_of_le (Nat.lt_succ_self _) (Nat.le_of_ble_eq_true rfl)) rfl rfl ?_
  refine q_iconst 3 rfl (show sCode 234 2 = some (.iconst 0, 1) by decide +kernel) ⟨by decide, by decide⟩ ?_
  refine q_istore_n [vO 12 a0, vI 0, vI 0] 4 rfl (show sCode 234 3 = some (.istore_n 2, 1) by decide +kernel) (Nat.lt_of_lt_of_le (Nat.lt_succ_self _) (Nat.le_of_ble_eq_true rfl)) rfl rfl ?_
  exact kk
theorem b234_4 {d : Nat} {Q : Option sV → sM → sG → Prop} {M : sM} {G : sG} {a0 : Nat} {x1 : Int} {x2 : Int}  (k1 : M (a0 + 11) 1 ≤ x2 → sW (sC d) 234 Q 29 [vN, vI x1, vN] [] M G 0 0) (k2 : x2 < M (a0 + 11) 1 → sW (sC d) 234 Q 14 [vO 12 a0, vI x1, vI x2] [] M G 0 0) : sW (sC d) 234 Q 4 [vO 12 a0, vI x1, vI x2] [] M G 0 0 := by
  refine q_iload_n 5 rfl (show sCode 234 4 = some (.iload_n 2, 1) by decide +kernel) rfl ?_
  refine q_aload_n 6 rfl (show sCode 234 5 = some (.aload_n 0, 1) by decide +kernel) rfl (Nat.le_of_ble_eq_true rfl) ?_
  refine q_getR (vA 0 (a0 + 11) 274) 9 rfl (show sCode 234 6 = some (.getfield 42, 3) by decide +kernel) (show sFR (sKo 234).1 42 = some (12, 23) by decide +kernel) (by decide +kernel) (Or.inl (Or.inl rfl)) rfl ?_
  refine q_iconst 10 rfl (show sCode 234 9 = some (.iconst 1, 1) by decide +kernel) ⟨by decide, by decide⟩ ?_
  refine q_iald 11 rfl (show sCode 234 10 = some (.iaload, 1) by decide +kernel) ⟨by decide, by decide⟩ ?_
  refine q_icmpge 29 14 rfl (by decide) (show sCode 234 11 = some (.if_icmp .ge 18, 3) by decide +kernel) ?_ ?_
  · intro q; refine q_forget (L' := [vN, vI x1, vI x2]) 0 rfl ?_; refine q_forget (L' := [vN, vI x1, vN]) 2 rfl ?_; exact k1 q
  · intro q; exact k2 q
theorem b234_14 {d : Nat} {Q : Option sV → sM → sG → Prop} {M : sM} {G : sG} {a0 : Nat} {x1 : Int} {x2 : Int}  (kk : sC d 209 [vO 12 a0, vI x2, vI 5] M G (QI (fun r M1 G1 => sW (sC d) 234 Q 21 [vO 12 a0, vN, vI x2] (vI r :: [vI x1]) M1 G1 0 0))) : sW (sC d) 234 Q 14 [vO 12 a0, vI x1, vI x2] [] M G 0 0 := by
  refine q_iload_n 15 rfl (show sCode 234 14 = some (.iload_n 1, 1) by decide +kernel) rfl ?_
  refine q_aload_n 16 rfl (show sCode 234 15 = some (.aload_n 0, 1) by decide +kernel) rfl (Nat.le_of_ble_eq_true rfl) ?_
  refine q_iload_n 17 rfl (show sCode 234 16 = some (.iload_n 2, 1) by decide +kernel) rfl ?_
  refine q_iconst 18 rfl (show sCode 234 17 = some (.iconst 5, 1) by decide +kernel) ⟨by decide, by decide⟩ ?_
  refine q_forget (L' := [vO 12 a0, vN, vI x2]) 1 rfl ?_
  exact q_virtI [vI x2, vI 5] 21 rfl (show sCode 234 18 = some (.invokevirtual 302, 3) by decide +kernel) (show sMR (sKo 234).1 302 = some 209 by decide +kernel) (show 209 < 1000 ∧ sStat 209 = false ∧ sIni 209 = false ∧ sKo 209 = (12, 2, 1, 0, 0) by decide +kernel) rfl (Or.inl rfl) rfl (Nat.le_of_ble_eq_true rfl) rfl rfl rfl (by decide +kernel) kk
theorem b234_21 {d : Nat} {Q : Option sV → sM → sG → Prop} {M : sM} {G : sG} {a0 : Nat} {x2 : Int} {s0 : Int} {s1 : Int} (h1 : sI (s1 + s0)) (h2 : sI (x2 + 1)) (kk : sW (sC d) 234 Q 4 [vO 12 a0, vI (s1 + s0), vI (x2 + 1)] [] M G 0 0) : sW (sC d) 234 Q 21 [vO 12 a0, vN, vI x2] [vI s0, vI s1] M G 0 0 := by
  refine q_iadd 22 rfl (show sCode 234 21 = some (.iadd, 1) by decide +kernel) h1 ?_
  refine q_istore_n [vO 12 a0, vI (s1 + s0), vI x2] 23 rfl (show sCode 234 22 = some (.istore_n 1, 1) by decide +kernel) (Nat.lt_of_lt_of_le (Nat.lt_succ_self _) (Nat.le_of_ble_eq_true rfl)) rfl rfl ?_
  refine q_iinc [vO 12 a0, vI (s1 + s0), vI (x2 + 1)] 26 rfl (show sCode 234 23 = some (.iinc 2 1, 3) by decide +kernel) rfl rfl h2 rfl ?_
  refine q_goto 4 (by decide) (show sCode 234 26 = some (.goto (-22), 3) by decide +kernel) ?_
  exact kk
theorem b234_29 {d : Nat} {P : Int → sM → sG → Prop} {M : sM} {G : sG} {x1 : Int}  (kk : P x1 M G) : sW (sC d) 234 (QI P) 29 [vN, vI x1, vN] [] M G 0 0 := by
  refine q_iload_n 30 rfl (show sCode 234 29 = some (.iload_n 1, 1) by decide +kernel) rfl ?_
  exact q_iret (show sCode 234 30 = some (.ireturn, 1) by decide +kernel) (by decide +kernel) (by decide +kernel) kk
-- 235 AfterTheLastModel.putsBack ()V
theorem b235_0 {d : Nat} {Q : Option sV → sM → sG → Prop} {M : sM} {G : sG} {a0 : Nat}  (kk : sW (sC d) 235 Q 2 [vO 12 a0, vI 0] [] M G 0 0) : sW (sC d) 235 Q 0 [vO 12 a0, vN] [] M G 0 0 := by
  refine q_iconst 1 rfl (show sCode 235 0 = some (.iconst 0, 1) by decide +kernel) ⟨by decide, by decide⟩ ?_
  refine q_istore_n [vO 12 a0, vI 0] 2 rfl (show sCode 235 1 = some (.istore_n 1, 1) by decide +kernel) (Nat.lt_of_lt_of_le (Nat.lt_succ_self _) (Nat.le_of_ble_eq_true rfl)) rfl rfl ?_
  exact kk
theorem b235_2 {d : Nat} {Q : Option sV → sM → sG → Prop} {M : sM} {G : sG} {a0 : Nat} {x1 : Int}  (k1 : 274 ≤ x1 → sW (sC d) 235 Q 27 [vN, vN] [] M G 0 0) (k2 : x1 < 274 → sW (sC d) 235 Q 9 [vO 12 a0, vI x1] [] M G 0 0) : sW (sC d) 235 Q 2 [vO 12 a0, vI x1] [] M G 0 0 := by
  refine q_iload_n 3 rfl (show sCode 235 2 = some (.iload_n 1, 1) by decide +kernel) rfl ?_
  refine q_sipush 6 rfl (show sCode 235 3 = some (.sipush 274, 3) by decide +kernel) ⟨by decide, by decide⟩ (by decide +kernel) ?_
  refine q_icmpge 27 9 rfl (by decide) (show sCode 235 6 = some (.if_icmp .ge 21, 3) by decide +kernel) ?_ ?_
  · intro q; refine q_forget (L' := [vN, vI x1]) 0 rfl ?_; refine q_forget (L' := [vN, vN]) 1 rfl ?_; exact k1 q
  · intro q; exact k2 q
theorem b235_9 {d : Nat} {Q : Option sV → sM → sG → Prop} {M : sM} {G : sG} {a0 : Nat} {x1 : Int} (h1 : 0 ≤ x1 ∧ x1 < 274) (h2 : 0 ≤ x1 ∧ x1 < 274) (h3 : sI (x1 + 1)) (kk : sW (sC d) 235 Q 2 [vO 12 a0, vI (x1 + 1)] [] (sUpd M (a0 + 11) x1.toNat (M (a0 + 12) x1.toNat)) G 0 0) : sW (sC d) 235 Q 9 [vO 12 a0, vI x1] [] M G 0 0 := by
  refine q_aload_n 10 rfl (show sCode 235 9 = some (.aload_n 0, 1) by decide +kernel) rfl (Nat.le_of_ble_eq_true rfl) ?_
  refine q_getR (vA 0 (a0 + 11) 274) 13 rfl (show sCode 235 10 = some (.getfield 42, 3) by decide +kernel) (show sFR (sKo 235).1 42 = some (12, 23) by decide +kernel) (by decide +kernel) (Or.inl (Or.inl rfl)) rfl ?_
  refine q_iload_n 14 rfl (show sCode 235 13 = some (.iload_n 1, 1) by decide +kernel) rfl ?_
  refine q_aload_n 15 rfl (show sCode 235 14 = some (.aload_n 0, 1) by decide +kernel) rfl (Nat.le_of_ble_eq_true rfl) ?_
  refine q_getR (vA 0 (a0 + 12) 274) 18 rfl (show sCode 235 15 = some (.getfield 45, 3) by decide +kernel) (show sFR (sKo 235).1 45 = some (12, 24) by decide +kernel) (by decide +kernel) (Or.inl (Or.inl rfl)) rfl ?_
  refine q_iload_n 19 rfl (show sCode 235 18 = some (.iload_n 1, 1) by decide +kernel) rfl ?_
  refine q_iald 20 rfl (show sCode 235 19 = some (.iaload, 1) by decide +kernel) h1 ?_
  refine q_iast 21 rfl (show sCode 235 20 = some (.iastore, 1) by decide +kernel) h2 ?_
  refine q_iinc [vO 12 a0, vI (x1 + 1)] 24 rfl (show sCode 235 21 = some (.iinc 1 1, 3) by decide +kernel) rfl rfl h3 rfl ?_
  refine q_goto 2 (by decide) (show sCode 235 24 = some (.goto (-22), 3) by decide +kernel) ?_
  exact kk
theorem b235_27 {d : Nat} {P : sM → sG → Prop} {M : sM} {G : sG}   (kk : P M G) : sW (sC d) 235 (QV P) 27 [vN, vN] [] M G 0 0 := by
  exact q_vret (show sCode 235 27 = some (.return_, 1) by decide +kernel) (by decide +kernel) (by decide +kernel) kk
-- 236 AfterTheLastModel.bestRule ()I
theorem b236_0 {d : Nat} {Q : Option sV → sM → sG → Prop} {M : sM} {G : sG} {a0 : Nat}  (kk : sC d 232 [vO 12 a0] M G (QV (fun M1 G1 => sW (sC d) 236 Q 11 [vO 12 a0, vI (-2), vI 0, vI 0, vN, vN, vN] [] M1 G1 0 0))) : sW (sC d) 236 Q 0 [vO 12 a0, vN, vN, vN, vN, vN, vN] [] M G 0 0 := by
  refine q_bipush 2 rfl (show sCode 236 0 = some (.bipush (-2), 2) by decide +kernel) ⟨by decide, by decide⟩ (by decide +kernel) ?_
  refine q_istore_n [vO 12 a0, vI (-2), vN, vN, vN, vN, vN] 3 rfl (show sCode 236 2 = some (.istore_n 1, 1) by decide +kernel) (Nat.lt_of_lt_of_le (Nat.lt_succ_self _) (Nat.le_of_ble_eq_true rfl)) rfl rfl ?_
  refine q_iconst 4 rfl (show sCode 236 3 = some (.iconst 0, 1) by decide +kernel) ⟨by decide, by decide⟩ ?_
  refine q_istore_n [vO 12 a0, vI (-2), vI 0, vN, vN, vN, vN] 5 rfl (show sCode 236 4 = some (.istore_n 2, 1) by decide +kernel) (Nat.lt_of_lt_of_le (Nat.lt_succ_self _) (Nat.le_of_ble_eq_true rfl)) rfl rfl ?_
  refine q_iconst 6 rfl (show sCode 236 5 = some (.iconst 0, 1) by decide +kernel) ⟨by decide, by decide⟩ ?_
  refine q_istore_n [vO 12 a0, vI (-2), vI 0, vI 0, vN, vN, vN] 7 rfl (show sCode 236 6 = some (.istore_n 3, 1) by decide +kernel) (Nat.lt_of_lt_of_le (Nat.lt_succ_self _) (Nat.le_of_ble_eq_true rfl)) rfl rfl ?_
  refine q_aload_n 8 rfl (show sCode 236 7 = some (.aload_n 0, 1) by decide +kernel) rfl (Nat.le_of_ble_eq_true rfl) ?_
  exact q_virtV [] 11 rfl (show sCode 236 8 = some (.invokevirtual 347, 3) by decide +kernel) (show sMR (sKo 236).1 347 = some 232 by decide +kernel) (show 232 < 1000 ∧ sStat 232 = false ∧ sIni 232 = false ∧ sKo 232 = (12, 0, 0, 0, 0) by decide +kernel) rfl (Or.inl rfl) rfl (Nat.le_of_ble_eq_true rfl) rfl rfl rfl (by decide +kernel) kk
theorem b236_11 {d : Nat} {Q : Option sV → sM → sG → Prop} {M : sM} {G : sG} {a0 : Nat} {x1 : Int} {x2 : Int} {x3 : Int}  (kk : sW (sC d) 236 Q 14 [vO 12 a0, vI x1, vI x2, vI x3, vI 0, vN, vN] [] M G 0 0) : sW (sC d) 236 Q 11 [vO 12 a0, vI x1, vI x2, vI x3, vN, vN, vN] [] M G 0 0 := by
  refine q_iconst 12 rfl (show sCode 236 11 = some (.iconst 0, 1) by decide +kernel) ⟨by decide, by decide⟩ ?_
  refine q_istore [vO 12 a0, vI x1, vI x2, vI x3, vI 0, vN, vN] 14 rfl (show sCode 236 12 = some (.istore 4, 2) by decide +kernel) (Nat.lt_of_lt_of_le (Nat.lt_succ_self _) (Nat.le_of_ble_eq_true rfl)) rfl rfl ?_
  exact kk
theorem b236_14 {d : Nat} {Q : Option sV → sM → sG → Prop} {M : sM} {G : sG} {a0 : Nat} {x1 : Int} {x2 : Int} {x3 : Int} {x4 : Int}  (k1 : M a0 2 ≤ x4 → sW (sC d) 236 Q 96 [vN, vI x1, vN, vN, vN, vN, vN] [] M G 0 0) (k2 : x4 < M a0 2 → sW (sC d) 236 Q 23 [vO 12 a0, vI x1, vI x2, vI x3, vI x4, vN, vN] [] M G 0 0) : sW (sC d) 236 Q 14 [vO 12 a0, vI x1, vI x2, vI x3, vI x4, vN, vN] [] M G 0 0 := by
  refine q_iload 16 rfl (show sCode 236 14 = some (.iload 4, 2) by decide +kernel) rfl ?_
  refine q_aload_n 17 rfl (show sCode 236 16 = some (.aload_n 0, 1) by decide +kernel) rfl (Nat.le_of_ble_eq_true rfl) ?_
  refine q_getI 20 rfl (show sCode 236 17 = some (.getfield 252, 3) by decide +kernel) (show sFR (sKo 236).1 252 = some (12, 2) by decide +kernel) (by decide +kernel) (Or.inl (Or.inl rfl)) ?_
  refine q_icmpge 96 23 rfl (by decide) (show sCode 236 20 = some (.if_icmp .ge 76, 3) by decide +kernel) ?_ ?_
  · intro q; refine q_forget (L' := [vN, vI x1, vI x2, vI x3, vI x4, vN, vN]) 0 rfl ?_; refine q_forget (L' := [vN, vI x1, vN, vI x3, vI x4, vN, vN]) 2 rfl ?_; refine q_forget (L' := [vN, vI x1, vN, vN, vI x4, vN, vN]) 3 rfl ?_; refine q_forget (L' := [vN, vI x1, vN, vN, vN, vN, vN]) 4 rfl ?_; exact k1 q
  · intro q; exact k2 q
theorem b236_23 {d : Nat} {Q : Option sV → sM → sG → Prop} {M : sM} {G : sG} {a0 : Nat} {x1 : Int} {x2 : Int} {x3 : Int} {x4 : Int} (h1 : sI (96 - (M (a0 + 11) 2))) (kk : sC d 219 [vO 12 a0, vI x4, vI (96 - (M (a0 + 11) 2))] M G (QV (fun M1 G1 => sW (sC d) 236 Q 38 [vO 12 a0, vI x1, vI x2, vI x3, vI x4, vN, vN] [] M1 G1 0 0))) : sW (sC d) 236 Q 23 [vO 12 a0, vI x1, vI x2, vI x3, vI x4, vN, vN] [] M G 0 0 := by
  refine q_aload_n 24 rfl (show sCode 236 23 = some (.aload_n 0, 1) by decide +kernel) rfl (Nat.le_of_ble_eq_true rfl) ?_
  refine q_iload 26 rfl (show sCode 236 24 = some (.iload 4, 2) by decide +kernel) rfl ?_
  refine q_bipush 28 rfl (show sCode 236 26 = some (.bipush 96, 2) by decide +kernel) ⟨by decide, by decide⟩ (by decide +kernel) ?_
  refine q_aload_n 29 rfl (show sCode 236 28 = some (.aload_n 0, 1) by decide +kernel) rfl (Nat.le_of_ble_eq_true rfl) ?_
  refine q_getR (vA 0 (a0 + 11) 274) 32 rfl (show sCode 236 29 = some (.getfield 42, 3) by decide +kernel) (show sFR (sKo 236).1 42 = some (12, 23) by decide +kernel) (by decide +kernel) (Or.inl (Or.inl rfl)) rfl ?_
  refine q_iconst 33 rfl (show sCode 236 32 = some (.iconst 2, 1) by decide +kernel) ⟨by decide, by decide⟩ ?_
  refine q_iald 34 rfl (show sCode 236 33 = some (.iaload, 1) by decide +kernel) ⟨by decide, by decide⟩ ?_
  refine q_isub 35 rfl (show sCode 236 34 = some (.isub, 1) by decide +kernel) h1 ?_
  exact q_virtV [vI x4, vI (96 - (M (a0 + 11) 2))] 38 rfl (show sCode 236 35 = some (.invokevirtual 342, 3) by decide +kernel) (show sMR (sKo 236).1 342 = some 219 by decide +kernel) (show 219 < 1000 ∧ sStat 219 = false ∧ sIni 219 = false ∧ sKo 219 = (12, 2, 0, 0, 0) by decide +kernel) rfl (Or.inl rfl) rfl (Nat.le_of_ble_eq_true rfl) rfl rfl rfl (by decide +kernel) kk
theorem b236_38 {d : Nat} {Q : Option sV → sM → sG → Prop} {M : sM} {G : sG} {a0 : Nat} {x1 : Int} {x2 : Int} {x3 : Int} {x4 : Int}  (kk : sC d 234 [vO 12 a0] M G (QI (fun r M1 G1 => sW (sC d) 236 Q 50 [vO 12 a0, vI x1, vI x2, vI x3, vI x4, vI (M (a0 + 11) 3), vN] (vI r :: []) M1 G1 0 0))) : sW (sC d) 236 Q 38 [vO 12 a0, vI x1, vI x2, vI x3, vI x4, vN, vN] [] M G 0 0 := by
  refine q_aload_n 39 rfl (show sCode 236 38 = some (.aload_n 0, 1) by decide +kernel) rfl (Nat.le_of_ble_eq_true rfl) ?_
  refine q_getR (vA 0 (a0 + 11) 274) 42 rfl (show sCode 236 39 = some (.getfield 42, 3) by decide +kernel) (show sFR (sKo 236).1 42 = some (12, 23) by decide +kernel) (by decide +kernel) (Or.inl (Or.inl rfl)) rfl ?_
  refine q_iconst 43 rfl (show sCode 236 42 = some (.iconst 3, 1) by decide +kernel) ⟨by decide, by decide⟩ ?_
  refine q_iald 44 rfl (show sCode 236 43 = some (.iaload, 1) by decide +kernel) ⟨by decide, by decide⟩ ?_
  refine q_istore [vO 12 a0, vI x1, vI x2, vI x3, vI x4, vI (M (a0 + 11) 3), vN] 46 rfl (show sCode 236 44 = some (.istore 5, 2) by decide +kernel) (Nat.lt_of_lt_of_le (Nat.lt_succ_self _) (Nat.le_of_ble_eq_true rfl)) rfl rfl ?_
  refine q_aload_n 47 rfl (show sCode 236 46 = some (.aload_n 0, 1) by decide +kernel) rfl (Nat.le_of_ble_eq_true rfl) ?_
  exact q_virtI [] 50 rfl (show sCode 236 47 = some (.invokevirtual 353, 3) by decide +kernel) (show sMR (sKo 236).1 353 = some 234 by decide +kernel) (show 234 < 1000 ∧ sStat 234 = false ∧ sIni 234 = false ∧ sKo 234 = (12, 0, 1, 0, 0) by decide +kernel) rfl (Or.inl rfl) rfl (Nat.le_of_ble_eq_true rfl) rfl rfl rfl (by decide +kernel) kk
theorem b236_50 {d : Nat} {Q : Option sV → sM → sG → Prop} {M : sM} {G : sG} {a0 : Nat} {x1 : Int} {x2 : Int} {x3 : Int} {x4 : Int} {x5 : Int} {s0 : Int}  (kk : sC d 235 [vO 12 a0] M G (QV (fun M1 G1 => sW (sC d) 236 Q 56 [vO 12 a0, vI x1, vI x2, vI x3, vI x4, vI x5, vI s0] [] M1 G1 0 0))) : sW (sC d) 236 Q 50 [vO 12 a0, vI x1, vI x2, vI x3, vI x4, vI x5, vN] [vI s0] M G 0 0 := by
  refine q_istore [vO 12 a0, vI x1, vI x2, vI x3, vI x4, vI x5, vI s0] 52 rfl (show sCode 236 50 = some (.istore 6, 2) by decide +kernel) (Nat.lt_of_lt_of_le (Nat.lt_succ_self _) (Nat.le_of_ble_eq_true rfl)) rfl rfl ?_
  refine q_aload_n 53 rfl (show sCode 236 52 = some (.aload_n 0, 1) by decide +kernel) rfl (Nat.le_of_ble_eq_true rfl) ?_
  exact q_virtV [] 56 rfl (show sCode 236 53 = some (.invokevirtual 356, 3) by decide +kernel) (show sMR (sKo 236).1 356 = some 235 by decide +kernel) (show 235 < 1000 ∧ sStat 235 = false ∧ sIni 235 = false ∧ sKo 235 = (12, 0, 0, 0, 0) by decide +kernel) rfl (Or.inl rfl) rfl (Nat.le_of_ble_eq_true rfl) rfl rfl rfl (by decide +kernel) kk
theorem b236_56 {d : Nat} {Q : Option sV → sM → sG → Prop} {M : sM} {G : sG} {a0 : Nat} {x1 : Int} {x2 : Int} {x3 : Int} {x4 : Int} {x5 : Int} {x6 : Int}  (k1 : x1 < 0 → sW (sC d) 236 Q 81 [vO 12 a0, vN, vN, vN, vI x4, vI x5, vI x6] [] M G 0 0) (k2 : 0 ≤ x1 → sW (sC d) 236 Q 60 [vO 12 a0, vI x1, vI x2, vI x3, vI x4, vI x5, vI x6] [] M G 0 0) : sW (sC d) 236 Q 56 [vO 12 a0, vI x1, vI x2, vI x3, vI x4, vI x5, vI x6] [] M G 0 0 := by
  refine q_iload_n 57 rfl (show sCode 236 56 = some (.iload_n 1, 1) by decide +kernel) rfl ?_
  refine q_iflt 81 60 rfl (by decide) (show sCode 236 57 = some (.ifCond .lt 24, 3) by decide +kernel) ?_ ?_
  · intro q; refine q_forget (L' := [vO 12 a0, vN, vI x2, vI x3, vI x4, vI x5, vI x6]) 1 rfl ?_; refine q_forget (L' := [vO 12 a0, vN, vN, vI x3, vI x4, vI x5, vI x6]) 2 rfl ?_; refine q_forget (L' := [vO 12 a0, vN, vN, vN, vI x4, vI x5, vI x6]) 3 rfl ?_; exact k1 q
  · intro q; exact k2 q
theorem b236_60 {d : Nat} {Q : Option sV → sM → sG → Prop} {M : sM} {G : sG} {a0 : Nat} {x1 : Int} {x2 : Int} {x3 : Int} {x4 : Int} {x5 : Int} {x6 : Int}  (k1 : x2 < x5 → sW (sC d) 236 Q 90 [vO 12 a0, vI x1, vI x2, vI x3, vI x4, vN, vN] [] M G 0 0) (k2 : x5 ≤ x2 → sW (sC d) 236 Q 66 [vO 12 a0, vI x1, vI x2, vI x3, vI x4, vI x5, vI x6] [] M G 0 0) : sW (sC d) 236 Q 60 [vO 12 a0, vI x1, vI x2, vI x3, vI x4, vI x5, vI x6] [] M G 0 0 := by
  refine q_iload 62 rfl (show sCode 236 60 = some (.iload 5, 2) by decide +kernel) rfl ?_
  refine q_iload_n 63 rfl (show sCode 236 62 = some (.iload_n 2, 1) by decide +kernel) rfl ?_
  refine q_icmpgt 90 66 rfl (by decide) (show sCode 236 63 = some (.if_icmp .gt 27, 3) by decide +kernel) ?_ ?_
  · intro q; refine q_forget (L' := [vO 12 a0, vI x1, vI x2, vI x3, vI x4, vN, vI x6]) 5 rfl ?_; refine q_forget (L' := [vO 12 a0, vI x1, vI x2, vI x3, vI x4, vN, vN]) 6 rfl ?_; exact k1 q
  · intro q; exact k2 q
theorem b236_66 {d : Nat} {Q : Option sV → sM → sG → Prop} {M : sM} {G : sG} {a0 : Nat} {x1 : Int} {x2 : Int} {x3 : Int} {x4 : Int} {x5 : Int} {x6 : Int}  (k1 : x5 ≠ x2 → sW (sC d) 236 Q 81 [vO 12 a0, vN, vN, vN, vI x4, vI x5, vI x6] [] M G 0 0) (k2 : x5 = x2 → sW (sC d) 236 Q 72 [vO 12 a0, vI x1, vI x2, vI x3, vI x4, vI x5, vI x6] [] M G 0 0) : sW (sC d) 236 Q 66 [vO 12 a0, vI x1, vI x2, vI x3, vI x4, vI x5, vI x6] [] M G 0 0 := by
  refine q_iload 68 rfl (show sCode 236 66 = some (.iload 5, 2) by decide +kernel) rfl ?_
  refine q_iload_n 69 rfl (show sCode 236 68 = some (.iload_n 2, 1) by decide +kernel) rfl ?_
  refine q_icmpne 81 72 rfl (by decide) (show sCode 236 69 = some (.if_icmp .ne 12, 3) by decide +kernel) ?_ ?_
  · intro q; refine q_forget (L' := [vO 12 a0, vN, vI x2, vI x3, vI x4, vI x5, vI x6]) 1 rfl ?_; refine q_forget (L' := [vO 12 a0, vN, vN, vI x3, vI x4, vI x5, vI x6]) 2 rfl ?_; refine q_forget (L' := [vO 12 a0, vN, vN, vN, vI x4, vI x5, vI x6]) 3 rfl ?_; exact k1 q
  · intro q; exact k2 q
theorem b236_72 {d : Nat} {Q : Option sV → sM → sG → Prop} {M : sM} {G : sG} {a0 : Nat} {x1 : Int} {x2 : Int} {x3 : Int} {x4 : Int} {x5 : Int} {x6 : Int}  (k1 : x3 < x6 → sW (sC d) 236 Q 81 [vO 12 a0, vN, vN, vN, vI x4, vI x5, vI x6] [] M G 0 0) (k2 : x6 ≤ x3 → sW (sC d) 236 Q 78 [vO 12 a0, vI x1, vI x2, vI x3, vI x4, vN, vN] [] M G 0 0) : sW (sC d) 236 Q 72 [vO 12 a0, vI x1, vI x2, vI x3, vI x4, vI x5, vI x6] [] M G 0 0 := by
  refine q_iload 74 rfl (show sCode 236 72 = some (.iload 6, 2) by decide +kernel) rfl ?_
  refine q_iload_n 75 rfl (show sCode 236 74 = some (.iload_n 3, 1) by decide +kernel) rfl ?_
  refine q_icmpgt 81 78 rfl (by decide) (show sCode 236 75 = some (.if_icmp .gt 6, 3) by decide +kernel) ?_ ?_
  · intro q; refine q_forget (L' := [vO 12 a0, vN, vI x2, vI x3, vI x4, vI x5, vI x6]) 1 rfl ?_; refine q_forget (L' := [vO 12 a0, vN, vN, vI x3, vI x4, vI x5, vI x6]) 2 rfl ?_; refine q_forget (L' := [vO 12 a0, vN, vN, vN, vI x4, vI x5, vI x6]) 3 rfl ?_; exact k1 q
  · intro q; refine q_forget (L' := [vO 12 a0, vI x1, vI x2, vI x3, vI x4, vN, vI x6]) 5 rfl ?_; refine q_forget (L' := [vO 12 a0, vI x1, vI x2, vI x3, vI x4, vN, vN]) 6 rfl ?_; exact k2 q
theorem b236_78 {d : Nat} {Q : Option sV → sM → sG → Prop} {M : sM} {G : sG} {a0 : Nat} {x1 : Int} {x2 : Int} {x3 : Int} {x4 : Int}  (kk : sW (sC d) 236 Q 90 [vO 12 a0, vI x1, vI x2, vI x3, vI x4, vN, vN] [] M G 0 0) : sW (sC d) 236 Q 78 [vO 12 a0, vI x1, vI x2, vI x3, vI x4, vN, vN] [] M G 0 0 := by
  refine q_goto 90 (by decide) (show sCode 236 78 = some (.goto 12, 3) by decide +kernel) ?_
  exact kk
theorem b236_81 {d : Nat} {Q : Option sV → sM → sG → Prop} {M : sM} {G : sG} {a0 : Nat} {x4 : Int} {x5 : Int} {x6 : Int}  (kk : sW (sC d) 236 Q 90 [vO 12 a0, vI x4, vI x5, vI x6, vI x4, vN, vN] [] M G 0 0) : sW (sC d) 236 Q 81 [vO 12 a0, vN, vN, vN, vI x4, vI x5, vI x6] [] M G 0 0 := by
  refine q_iload 83 rfl (show sCode 236 81 = some (.iload 4, 2) by decide +kernel) rfl ?_
  refine q_istore_n [vO 12 a0, vI x4, vN, vN, vI x4, vI x5, vI x6] 84 rfl (show sCode 236 83 = some (.istore_n 1, 1) by decide +kernel) (Nat.lt_of_lt_of_le (Nat.lt_succ_self _) (Nat.le_of_ble_eq_true rfl)) rfl rfl ?_
  refine q_iload 86 rfl (show sCode 236 84 = some (.iload 5, 2) by decide +kernel) rfl ?_
  refine q_istore_n [vO 12 a0, vI x4, vI x5, vN, vI x4, vI x5, vI x6] 87 rfl (show sCode 236 86 = some (.istore_n 2, 1) by decide +kernel) (Nat.lt_of_lt_of_le (Nat.lt_succ_self _) (Nat.le_of_ble_eq_true rfl)) rfl rfl ?_
  refine q_iload 89 rfl (show sCode 236 87 = some (.iload 6, 2) by decide +kernel) rfl ?_
  refine q_istore_n [vO 12 a0, vI x4, vI x5, vI x6, vI x4, vI x5, vI x6] 90 rfl (show sCode 236 89 = some (.istore_n 3, 1) by decide +kernel) (Nat.lt_of_lt_of_le (Nat.lt_succ_self _) (Nat.le_of_ble_eq_true rfl)) rfl rfl ?_
  refine q_forget (L' := [vO 12 a0, vI x4, vI x5, vI x6, vI x4, vN, vI x6]) 5 rfl ?_
  refine q_forget (L' := [vO 12 a0, vI x4, vI x5, vI x6, vI x4, vN, vN]) 6 rfl ?_
  exact kk
theorem b236_90 {d : Nat} {Q : Option sV → sM → sG → Prop} {M : sM} {G : sG} {a0 : Nat} {x1 : Int} {x2 : Int} {x3 : Int} {x4 : Int} (h1 : sI (x4 + 1)) (kk : sW (sC d) 236 Q 14 [vO 12 a0, vI x1, vI x2, vI x3, vI (x4 + 1), vN, vN] [] M G 0 0) : sW (sC d) 236 Q 90 [vO 12 a0, vI x1, vI x2, vI x3, vI x4, vN, vN] [] M G 0 0 := by
  refine q_iinc [vO 12 a0, vI x1, vI x2, vI x3, vI (x4 + 1), vN, vN] 93 rfl (show sCode 236 90 = some (.iinc 4 1, 3) by decide +kernel) rfl rfl h1 rfl ?_
  refine q_goto 14 (by decide) (show sCode 236 93 = some (.goto (-79), 3) by decide +kernel) ?_
  exact kk
theorem b236_96 {d : Nat} {P : Int → sM → sG → Prop} {M : sM} {G : sG} {x1 : Int}  (kk : P x1 M G) : sW (sC d) 236 (QI P) 96 [vN, vI x1, vN, vN, vN, vN, vN] [] M G 0 0 := by
  refine q_iload_n 97 rfl (show sCode 236 96 = some (.iload_n 1, 1) by decide +kernel) rfl ?_
  exact q_iret (show sCode 236 97 = some (.ireturn, 1) by decide +kernel) (by decide +kernel) (by decide +kernel) kk
