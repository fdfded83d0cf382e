/-! BLOCKS, by program. -/
-- 78 AfterTheLast$Clock.quarters (LAfterTheLast$Rule;LAfterTheLast$Town;I)V
theorem b78_0 {d : Nat} {Q : Option sV → sM → sG → Prop} {M : sM} {G : sG} {a0 : Nat} {a1 : Nat} {a2 : Nat} {x3 : Int}  (k1 : a1 ≠ 0 → sW (sC d) 78 Q 5 [vO 0 a0, vQ 6 a1, vO 10 a2, vI x3, vN] [] M G 0 0) (k2 : a1 = 0 → sW (sC d) 78 Q 4 [vN, vN, vN, vN, vN] [] M G 0 0) : sW (sC d) 78 Q 0 [vO 0 a0, vQ 6 a1, vO 10 a2, vI x3, vN] [] M G 0 0 := by
  refine q_aload_n 1 rfl (show sCode 78 0 = some (.aload_n 1, 1) by decide +kernel) rfl (Nat.le_of_ble_eq_true rfl) ?_
  refine q_ifnonnull 5 4 rfl (by decide) (show sCode 78 1 = some (.ifnonnull 4, 3) by decide +kernel) ?_ ?_
  · intro q; exact k1 q
  · intro q; refine q_forget (L' := [vN, vQ 6 a1, vO 10 a2, vI x3, vN]) 0 rfl ?_; refine q_forget (L' := [vN, vN, vO 10 a2, vI x3, vN]) 1 rfl ?_; refine q_forget (L' := [vN, vN, vN, vI x3, vN]) 2 rfl ?_; refine q_forget (L' := [vN, vN, vN, vN, vN]) 3 rfl ?_; exact k2 q
theorem b78_4 {d : Nat} {P : sM → sG → Prop} {M : sM} {G : sG}   (kk : P M G) : sW (sC d) 78 (QV P) 4 [vN, vN, vN, vN, vN] [] M G 0 0 := by
  exact q_vret (show sCode 78 4 = some (.return_, 1) by decide +kernel) (by decide +kernel) (by decide +kernel) kk
theorem b78_5 {d : Nat} {Q : Option sV → sM → sG → Prop} {M : sM} {G : sG} {a0 : Nat} {a1 : Nat} {a2 : Nat} {x3 : Int}  (kk : sW (sC d) 78 Q 8 [vO 0 a0, vQ 6 a1, vO 10 a2, vI x3, vI 0] [] M G 0 0) : sW (sC d) 78 Q 5 [vO 0 a0, vQ 6 a1, vO 10 a2, vI x3, vN] [] M G 0 0 := by
  refine q_iconst 6 rfl (show sCode 78 5 = some (.iconst 0, 1) by decide +kernel) ⟨by decide, by decide⟩ ?_
  refine q_istore [vO 0 a0, vQ 6 a1, vO 10 a2, vI x3, vI 0] 8 rfl (show sCode 78 6 = some (.istore 4, 2) by decide +kernel) (Nat.lt_of_lt_of_le (Nat.lt_succ_self _) (Nat.le_of_ble_eq_true rfl)) rfl rfl ?_
  exact kk
theorem b78_8 {d : Nat} {Q : Option sV → sM → sG → Prop} {M : sM} {G : sG} {a0 : Nat} {a1 : Nat} {a2 : Nat} {x3 : Int} {x4 : Int}  (k1 : x3 ≤ x4 → sW (sC d) 78 Q 52 [vN, vN, vN, vN, vN] [] M G 0 0) (k2 : x4 < x3 → sW (sC d) 78 Q 14 [vO 0 a0, vQ 6 a1, vO 10 a2, vI x3, vI x4] [] M G 0 0) : sW (sC d) 78 Q 8 [vO 0 a0, vQ 6 a1, vO 10 a2, vI x3, vI x4] [] M G 0 0 := by
  refine q_iload 10 rfl (show sCode 78 8 = some (.iload 4, 2) by decide +kernel) rfl ?_
  refine q_iload_n 11 rfl (show sCode 78 10 = some (.iload_n 3, 1) by decide +kernel) rfl ?_
  refine q_icmpge 52 14 rfl (by decide) (show sCode 78 11 = some (.if_icmp .ge 41, 3) by decide +kernel) ?_ ?_
  · intro q; refine q_forget (L' := [vN, vQ 6 a1, vO 10 a2, vI x3, vI x4]) 0 rfl ?_; refine q_forget (L' := [vN, vN, vO 10 a2, vI x3, vI x4]) 1 rfl ?_; refine q_forget (L' := [vN, vN, vN, vI x3, vI x4]) 2 rfl ?_; refine q_forget (L' := [vN, vN, vN, vN, vI x4]) 3 rfl ?_; refine q_forget (L' := [vN, vN, vN, vN, vN]) 4 rfl ?_; exact k1 q
  · intro q; exact k2 q
theorem b78_14 {d : Nat} {Q : Option sV → sM → sG → Prop} {M : sM} {G : sG} {a0 : Nat} {a1 : Nat} {a2 : Nat} {x3 : Int} {x4 : Int}  (kk : sC d 79 [vO 0 a0, vQ 6 a1, vO 10 a2] M G (QV (fun M1 G1 => sW (sC d) 78 Q 20 [vO 0 a0, vQ 6 a1, vO 10 a2, vI x3, vI x4] [] M1 G1 0 0))) : sW (sC d) 78 Q 14 [vO 0 a0, vQ 6 a1, vO 10 a2, vI x3, vI x4] [] M G 0 0 := by
  refine q_aload_n 15 rfl (show sCode 78 14 = some (.aload_n 0, 1) by decide +kernel) rfl (Nat.le_of_ble_eq_true rfl) ?_
  refine q_aload_n 16 rfl (show sCode 78 15 = some (.aload_n 1, 1) by decide +kernel) rfl (Nat.le_of_ble_eq_true rfl) ?_
  refine q_aload_n 17 rfl (show sCode 78 16 = some (.aload_n 2, 1) by decide +kernel) rfl (Nat.le_of_ble_eq_true rfl) ?_
  exact q_virtV [vQ 6 a1, vO 10 a2] 20 rfl (show sCode 78 17 = some (.invokevirtual 19, 3) by decide +kernel) (show sMR (sKo 78).1 19 = some 79 by decide +kernel) (show 79 < 1000 ∧ sStat 79 = false ∧ sIni 79 = false ∧ sKo 79 = (0, 2, 0, 0, 0) by decide +kernel) rfl (Or.inl rfl) rfl (Nat.le_of_ble_eq_true rfl) rfl rfl rfl (by decide +kernel) kk
theorem b78_20 {d : Nat} {Q : Option sV → sM → sG → Prop} {M : sM} {G : sG} {a0 : Nat} {a1 : Nat} {a2 : Nat} {x3 : Int} {x4 : Int}  (kk : sC d 86 [vO 0 a0, vQ 6 a1, vO 10 a2] M G (QV (fun M1 G1 => sW (sC d) 78 Q 26 [vO 0 a0, vQ 6 a1, vO 10 a2, vI x3, vI x4] [] M1 G1 0 0))) : sW (sC d) 78 Q 20 [vO 0 a0, vQ 6 a1, vO 10 a2, vI x3, vI x4] [] M G 0 0 := by
  refine q_aload_n 21 rfl (show sCode 78 20 = some (.aload_n 0, 1) by decide +kernel) rfl (Nat.le_of_ble_eq_true rfl) ?_
  refine q_aload_n 22 rfl (show sCode 78 21 = some (.aload_n 1, 1) by decide +kernel) rfl (Nat.le_of_ble_eq_true rfl) ?_
  refine q_aload_n 23 rfl (show sCode 78 22 = some (.aload_n 2, 1) by decide +kernel) rfl (Nat.le_of_ble_eq_true rfl) ?_
  exact q_virtV [vQ 6 a1, vO 10 a2] 26 rfl (show sCode 78 23 = some (.invokevirtual 23, 3) by decide +kernel) (show sMR (sKo 78).1 23 = some 86 by decide +kernel) (show 86 < 1000 ∧ sStat 86 = false ∧ sIni 86 = false ∧ sKo 86 = (0, 2, 0, 0, 0) by decide +kernel) rfl (Or.inl rfl) rfl (Nat.le_of_ble_eq_true rfl) rfl rfl rfl (by decide +kernel) kk
theorem b78_26 {d : Nat} {Q : Option sV → sM → sG → Prop} {M : sM} {G : sG} {a0 : Nat} {a1 : Nat} {a2 : Nat} {x3 : Int} {x4 : Int}  (kk : sC d 88 [vO 0 a0, vQ 6 a1, vO 10 a2] M G (QV (fun M1 G1 => sW (sC d) 78 Q 32 [vO 0 a0, vQ 6 a1, vO 10 a2, vI x3, vI x4] [] M1 G1 0 0))) : sW (sC d) 78 Q 26 [vO 0 a0, vQ 6 a1, vO 10 a2, vI x3, vI x4] [] M G 0 0 := by
  refine q_aload_n 27 rfl (show sCode 78 26 = some (.aload_n 0, 1) by decide +kernel) rfl (Nat.le_of_ble_eq_true rfl) ?_
  refine q_aload_n 28 rfl (show sCode 78 27 = some (.aload_n 1, 1) by decide +kernel) rfl (Nat.le_of_ble_eq_true rfl) ?_
  refine q_aload_n 29 rfl (show sCode 78 28 = some (.aload_n 2, 1) by decide +kernel) rfl (Nat.le_of_ble_eq_true rfl) ?_
  exact q_virtV [vQ 6 a1, vO 10 a2] 32 rfl (show sCode 78 29 = some (.invokevirtual 26, 3) by decide +kernel) (show sMR (sKo 78).1 26 = some 88 by decide +kernel) (show 88 < 1000 ∧ sStat 88 = false ∧ sIni 88 = false ∧ sKo 88 = (0, 2, 0, 0, 0) by decide +kernel) rfl (Or.inl rfl) rfl (Nat.le_of_ble_eq_true rfl) rfl rfl rfl (by decide +kernel) kk
theorem b78_32 {d : Nat} {Q : Option sV → sM → sG → Prop} {M : sM} {G : sG} {a0 : Nat} {a1 : Nat} {a2 : Nat} {x3 : Int} {x4 : Int}  (kk : sC d 90 [vO 10 a2] M G (QV (fun M1 G1 => sW (sC d) 78 Q 36 [vO 0 a0, vQ 6 a1, vO 10 a2, vI x3, vI x4] [] M1 G1 0 0))) : sW (sC d) 78 Q 32 [vO 0 a0, vQ 6 a1, vO 10 a2, vI x3, vI x4] [] M G 0 0 := by
  refine q_aload_n 33 rfl (show sCode 78 32 = some (.aload_n 2, 1) by decide +kernel) rfl (Nat.le_of_ble_eq_true rfl) ?_
  exact q_statV [vO 10 a2] 36 rfl (show sCode 78 33 = some (.invokestatic 29, 3) by decide +kernel) (show sMR (sKo 78).1 29 = some 90 by decide +kernel) (show 90 < 1000 ∧ sStat 90 = true ∧ sKo 90 = (0, 1, 0, 0, 0) by decide +kernel) rfl rfl (Nat.le_of_ble_eq_true rfl) rfl rfl rfl (by decide +kernel) kk
theorem b78_36 {d : Nat} {Q : Option sV → sM → sG → Prop} {M : sM} {G : sG} {a0 : Nat} {a1 : Nat} {a2 : Nat} {x3 : Int} {x4 : Int} (h1 : sI ((M a2 13) + 1)) (h2 : sI (x4 + 1)) (kk : sW (sC d) 78 Q 8 [vO 0 a0, vQ 6 a1, vO 10 a2, vI x3, vI (x4 + 1)] [] (sUpd M a2 13 ((M a2 13) + 1)) G 0 0) : sW (sC d) 78 Q 36 [vO 0 a0, vQ 6 a1, vO 10 a2, vI x3, vI x4] [] M G 0 0 := by
  refine q_aload_n 37 rfl (show sCode 78 36 = some (.aload_n 2, 1) by decide +kernel) rfl (Nat.le_of_ble_eq_true rfl) ?_
  refine q_dup 38 rfl (show sCode 78 37 = some (.dup, 1) by decide +kernel) rfl ?_
  refine q_getI 41 rfl (show sCode 78 38 = some (.getfield 33, 3) by decide +kernel) (show sFR (sKo 78).1 33 = some (10, 13) by decide +kernel) (by decide +kernel) (Or.inl (Or.inl rfl)) ?_
  refine q_iconst 42 rfl (show sCode 78 41 = some (.iconst 1, 1) by decide +kernel) ⟨by decide, by decide⟩ ?_
  refine q_iadd 43 rfl (show sCode 78 42 = some (.iadd, 1) by decide +kernel) h1 ?_
  refine q_putI 46 rfl (show sCode 78 43 = some (.putfield 33, 3) by decide +kernel) (show sFR (sKo 78).1 33 = some (10, 13) by decide +kernel) (by decide +kernel) (Or.inl ⟨Or.inl rfl, by decide +kernel⟩) ?_
  refine q_iinc [vO 0 a0, vQ 6 a1, vO 10 a2, vI x3, vI (x4 + 1)] 49 rfl (show sCode 78 46 = some (.iinc 4 1, 3) by decide +kernel) rfl rfl h2 rfl ?_
  refine q_goto 8 (by decide) (show sCode 78 49 = some (.goto (-41), 3) by decide +kernel) ?_
  exact kk
theorem b78_52 {d : Nat} {P : sM → sG → Prop} {M : sM} {G : sG}   (kk : P M G) : sW (sC d) 78 (QV P) 52 [vN, vN, vN, vN, vN] [] M G 0 0 := by
  exact q_vret (show sCode 78 52 = some (.return_, 1) by decide +kernel) (by decide +kernel) (by decide +kernel) kk
-- 79 AfterTheLast$Clock.letGo (LAfterTheLast$Rule;LAfterTheLast$Town;)V
theorem b79_0 {d : Nat} {Q : Option sV → sM → sG → Prop} {M : sM} {G : sG} {a0 : Nat} {a1 : Nat} {a2 : Nat}  (kk : sW (sC d) 79 Q 5 [vO 0 a0, vQ 6 a1, vO 10 a2, vI 1, vI 0, vN] [] M G 0 0) : sW (sC d) 79 Q 0 [vO 0 a0, vQ 6 a1, vO 10 a2, vN, vN, vN] [] M G 0 0 := by
  refine q_iconst 1 rfl (show sCode 79 0 = some (.iconst 1, 1) by decide +kernel) ⟨by decide, by decide⟩ ?_
  refine q_istore_n [vO 0 a0, vQ 6 a1, vO 10 a2, vI 1, vN, vN] 2 rfl (show sCode 79 1 = some (.istore_n 3, 1) by decide +kernel) (Nat.lt_of_lt_of_le (Nat.lt_succ_self _) (Nat.le_of_ble_eq_true rfl)) rfl rfl ?_
  refine q_iconst 3 rfl (show sCode 79 2 = some (.iconst 0, 1) by decide +kernel) ⟨by decide, by decide⟩ ?_
  refine q_istore [vO 0 a0, vQ 6 a1, vO 10 a2, vI 1, vI 0, vN] 5 rfl (show sCode 79 3 = some (.istore 4, 2) by decide +kernel) (Nat.lt_of_lt_of_le (Nat.lt_succ_self _) (Nat.le_of_ble_eq_true rfl)) rfl rfl ?_
  exact kk
theorem b79_5 {d : Nat} {Q : Option sV → sM → sG → Prop} {M : sM} {G : sG} {a0 : Nat} {a1 : Nat} {a2 : Nat} {x3 : Int} {x4 : Int}  (k1 : 12 ≤ x4 → sW (sC d) 79 Q 89 [vN, vN, vN, vN, vN, vN] [] M G 0 0) (k2 : x4 < 12 → sW (sC d) 79 Q 12 [vO 0 a0, vQ 6 a1, vO 10 a2, vI x3, vI x4, vN] [] M G 0 0) : sW (sC d) 79 Q 5 [vO 0 a0, vQ 6 a1, vO 10 a2, vI x3, vI x4, vN] [] M G 0 0 := by
  refine q_iload 7 rfl (show sCode 79 5 = some (.iload 4, 2) by decide +kernel) rfl ?_
  refine q_bipush 9 rfl (show sCode 79 7 = some (.bipush 12, 2) by decide +kernel) ⟨by decide, by decide⟩ (by decide +kernel) ?_
  refine q_icmpge 89 12 rfl (by decide) (show sCode 79 9 = some (.if_icmp .ge 80, 3) by decide +kernel) ?_ ?_
  · intro q; refine q_forget (L' := [vN, vQ 6 a1, vO 10 a2, vI x3, vI x4, vN]) 0 rfl ?_; refine q_forget (L' := [vN, vN, vO 10 a2, vI x3, vI x4, vN]) 1 rfl ?_; refine q_forget (L' := [vN, vN, vN, vI x3, vI x4, vN]) 2 rfl ?_; refine q_forget (L' := [vN, vN, vN, vN, vI x4, vN]) 3 rfl ?_; refine q_forget (L' := [vN, vN, vN, vN, vN, vN]) 4 rfl ?_; exact k1 q
  · intro q; exact k2 q
theorem b79_12 {d : Nat} {Q : Option sV → sM → sG → Prop} {M : sM} {G : sG} {a0 : Nat} {a1 : Nat} {a2 : Nat} {x3 : Int} {x4 : Int}  (k1 : x3 = 0 → sW (sC d) 79 Q 89 [vN, vN, vN, vN, vN, vN] [] M G 0 0) (k2 : x3 ≠ 0 → sW (sC d) 79 Q 16 [vO 0 a0, vQ 6 a1, vO 10 a2, vN, vI x4, vN] [] M G 0 0) : sW (sC d) 79 Q 12 [vO 0 a0, vQ 6 a1, vO 10 a2, vI x3, vI x4, vN] [] M G 0 0 := by
  refine q_iload_n 13 rfl (show sCode 79 12 = some (.iload_n 3, 1) by decide +kernel) rfl ?_
  refine q_ifeq 89 16 rfl (by decide) (show sCode 79 13 = some (.ifCond .eq 76, 3) by decide +kernel) ?_ ?_
  · intro q; refine q_forget (L' := [vN, vQ 6 a1, vO 10 a2, vI x3, vI x4, vN]) 0 rfl ?_; refine q_forget (L' := [vN, vN, vO 10 a2, vI x3, vI x4, vN]) 1 rfl ?_; refine q_forget (L' := [vN, vN, vN, vI x3, vI x4, vN]) 2 rfl ?_; refine q_forget (L' := [vN, vN, vN, vN, vI x4, vN]) 3 rfl ?_; refine q_forget (L' := [vN, vN, vN, vN, vN, vN]) 4 rfl ?_; exact k1 q
  · intro q; refine q_forget (L' := [vO 0 a0, vQ 6 a1, vO 10 a2, vN, vI x4, vN]) 3 rfl ?_; exact k2 q
theorem b79_16 {d : Nat} {Q : Option sV → sM → sG → Prop} {M : sM} {G : sG} {a0 : Nat} {a1 : Nat} {a2 : Nat} {x4 : Int}  (kk : sW (sC d) 79 Q 21 [vO 0 a0, vQ 6 a1, vO 10 a2, vI 0, vI x4, vI 0] [] M G 0 0) : sW (sC d) 79 Q 16 [vO 0 a0, vQ 6 a1, vO 10 a2, vN, vI x4, vN] [] M G 0 0 := by
  refine q_iconst 17 rfl (show sCode 79 16 = some (.iconst 0, 1) by decide +kernel) ⟨by decide, by decide⟩ ?_
  refine q_istore_n [vO 0 a0, vQ 6 a1, vO 10 a2, vI 0, vI x4, vN] 18 rfl (show sCode 79 17 = some (.istore_n 3, 1) by decide +kernel) (Nat.lt_of_lt_of_le (Nat.lt_succ_self _) (Nat.le_of_ble_eq_true rfl)) rfl rfl ?_
  refine q_iconst 19 rfl (show sCode 79 18 = some (.iconst 0, 1) by decide +kernel) ⟨by decide, by decide⟩ ?_
  refine q_istore [vO 0 a0, vQ 6 a1, vO 10 a2, vI 0, vI x4, vI 0] 21 rfl (show sCode 79 19 = some (.istore 5, 2) by decide +kernel) (Nat.lt_of_lt_of_le (Nat.lt_succ_self _) (Nat.le_of_ble_eq_true rfl)) rfl rfl ?_
  exact kk
theorem b79_21 {d : Nat} {Q : Option sV → sM → sG → Prop} {M : sM} {G : sG} {a0 : Nat} {a1 : Nat} {a2 : Nat} {x3 : Int} {x4 : Int} {x5 : Int}  (k1 : 12 ≤ x5 → sW (sC d) 79 Q 83 [vO 0 a0, vQ 6 a1, vO 10 a2, vI x3, vI x4, vN] [] M G 0 0) (k2 : x5 < 12 → sW (sC d) 79 Q 28 [vO 0 a0, vQ 6 a1, vO 10 a2, vI x3, vI x4, vI x5] [] M G 0 0) : sW (sC d) 79 Q 21 [vO 0 a0, vQ 6 a1, vO 10 a2, vI x3, vI x4, vI x5] [] M G 0 0 := by
  refine q_iload 23 rfl (show sCode 79 21 = some (.iload 5, 2) by decide +kernel) rfl ?_
  refine q_bipush 25 rfl (show sCode 79 23 = some (.bipush 12, 2) by decide +kernel) ⟨by decide, by decide⟩ (by decide +kernel) ?_
  refine q_icmpge 83 28 rfl (by decide) (show sCode 79 25 = some (.if_icmp .ge 58, 3) by decide +kernel) ?_ ?_
  · intro q; refine q_forget (L' := [vO 0 a0, vQ 6 a1, vO 10 a2, vI x3, vI x4, vN]) 5 rfl ?_; exact k1 q
  · intro q; exact k2 q
theorem b79_28 {d : Nat} {Q : Option sV → sM → sG → Prop} {M : sM} {G : sG} {a0 : Nat} {a1 : Nat} {a2 : Nat} {x3 : Int} {x4 : Int} {x5 : Int}  (k1 : x3 ≠ 0 → sW (sC d) 79 Q 83 [vO 0 a0, vQ 6 a1, vO 10 a2, vI x3, vI x4, vN] [] M G 0 0) (k2 : x3 = 0 → sW (sC d) 79 Q 32 [vO 0 a0, vQ 6 a1, vO 10 a2, vI x3, vI x4, vI x5] [] M G 0 0) : sW (sC d) 79 Q 28 [vO 0 a0, vQ 6 a1, vO 10 a2, vI x3, vI x4, vI x5] [] M G 0 0 := by
  refine q_iload_n 29 rfl (show sCode 79 28 = some (.iload_n 3, 1) by decide +kernel) rfl ?_
  refine q_ifne 83 32 rfl (by decide) (show sCode 79 29 = some (.ifCond .ne 54, 3) by decide +kernel) ?_ ?_
  · intro q; refine q_forget (L' := [vO 0 a0, vQ 6 a1, vO 10 a2, vI x3, vI x4, vN]) 5 rfl ?_; exact k1 q
  · intro q; exact k2 q
theorem b79_32 {d : Nat} {Q : Option sV → sM → sG → Prop} {M : sM} {G : sG} {a0 : Nat} {a1 : Nat} {a2 : Nat} {x3 : Int} {x4 : Int} {x5 : Int}  (kk : sC d 80 [vO 10 a2, vI x5] M G (QI (fun r M1 G1 => sW (sC d) 79 Q 38 [vO 0 a0, vQ 6 a1, vO 10 a2, vI x3, vI x4, vI x5] (vI r :: []) M1 G1 0 0))) : sW (sC d) 79 Q 32 [vO 0 a0, vQ 6 a1, vO 10 a2, vI x3, vI x4, vI x5] [] M G 0 0 := by
  refine q_aload_n 33 rfl (show sCode 79 32 = some (.aload_n 2, 1) by decide +kernel) rfl (Nat.le_of_ble_eq_true rfl) ?_
  refine q_iload 35 rfl (show sCode 79 33 = some (.iload 5, 2) by decide +kernel) rfl ?_
  exact q_virtI [vI x5] 38 rfl (show sCode 79 35 = some (.invokevirtual 39, 3) by decide +kernel) (show sMR (sKo 79).1 39 = some 80 by decide +kernel) (show 80 < 1000 ∧ sStat 80 = false ∧ sIni 80 = false ∧ sKo 80 = (10, 1, 2, 0, 0) by decide +kernel) rfl (Or.inl rfl) rfl (Nat.le_of_ble_eq_true rfl) rfl rfl rfl (by decide +kernel) kk
theorem b79_38 {d : Nat} {Q : Option sV → sM → sG → Prop} {M : sM} {G : sG} {a0 : Nat} {a1 : Nat} {a2 : Nat} {x3 : Int} {x4 : Int} {x5 : Int} {s0 : Int}  (k1 : s0 = 0 → sW (sC d) 79 Q 77 [vO 0 a0, vQ 6 a1, vO 10 a2, vI x3, vI x4, vI x5] [] M G 0 0) (k2 : s0 ≠ 0 → sW (sC d) 79 Q 41 [vO 0 a0, vQ 6 a1, vO 10 a2, vI x3, vI x4, vI x5] [] M G 0 0) : sW (sC d) 79 Q 38 [vO 0 a0, vQ 6 a1, vO 10 a2, vI x3, vI x4, vI x5] [vI s0] M G 0 0 := by
  refine q_ifeq 77 41 rfl (by decide) (show sCode 79 38 = some (.ifCond .eq 39, 3) by decide +kernel) ?_ ?_
  · intro q; exact k1 q
  · intro q; exact k2 q
theorem b79_41 {d : Nat} {Q : Option sV → sM → sG → Prop} {M : sM} {G : sG} {a0 : Nat} {a1 : Nat} {a2 : Nat} {x3 : Int} {x4 : Int} {x5 : Int}  (kk : sC d 62 [vO 10 a2, vI x5] M G (QI (fun r M1 G1 => sW (sC d) 79 Q 47 [vO 0 a0, vQ 6 a1, vO 10 a2, vI x3, vI x4, vI x5] (vI r :: []) M1 G1 0 0))) : sW (sC d) 79 Q 41 [vO 0 a0, vQ 6 a1, vO 10 a2, vI x3, vI x4, vI x5] [] M G 0 0 := by
  refine q_aload_n 42 rfl (show sCode 79 41 = some (.aload_n 2, 1) by decide +kernel) rfl (Nat.le_of_ble_eq_true rfl) ?_
  refine q_iload 44 rfl (show sCode 79 42 = some (.iload 5, 2) by decide +kernel) rfl ?_
  exact q_virtI [vI x5] 47 rfl (show sCode 79 44 = some (.invokevirtual 43, 3) by decide +kernel) (show sMR (sKo 79).1 43 = some 62 by decide +kernel) (show 62 < 1000 ∧ sStat 62 = false ∧ sIni 62 = false ∧ sKo 62 = (10, 1, 2, 0, 0) by decide +kernel) rfl (Or.inl rfl) rfl (Nat.le_of_ble_eq_true rfl) rfl rfl rfl (by decide +kernel) kk
theorem b79_47 {d : Nat} {Q : Option sV → sM → sG → Prop} {M : sM} {G : sG} {a0 : Nat} {a1 : Nat} {a2 : Nat} {x3 : Int} {x4 : Int} {x5 : Int} {s0 : Int}  (k1 : s0 = 0 → sW (sC d) 79 Q 77 [vO 0 a0, vQ 6 a1, vO 10 a2, vI x3, vI x4, vI x5] [] M G 0 0) (k2 : s0 ≠ 0 → sW (sC d) 79 Q 50 [vO 0 a0, vQ 6 a1, vO 10 a2, vI x3, vI x4, vI x5] [] M G 0 0) : sW (sC d) 79 Q 47 [vO 0 a0, vQ 6 a1, vO 10 a2, vI x3, vI x4, vI x5] [vI s0] M G 0 0 := by
  refine q_ifeq 77 50 rfl (by decide) (show sCode 79 47 = some (.ifCond .eq 30, 3) by decide +kernel) ?_ ?_
  · intro q; exact k1 q
  · intro q; exact k2 q
theorem b79_50 {d : Nat} {Q : Option sV → sM → sG → Prop} {M : sM} {G : sG} {a0 : Nat} {a1 : Nat} {a2 : Nat} {x3 : Int} {x4 : Int} {x5 : Int} (h1 : 0 ≤ x5 ∧ x5 < 12) (kk : sC d 81 [vO 0 a0, vQ 6 a1, vI 1, vO 10 a2, vI x5, vI (M (a2 + 13) x5.toNat)] M G (QI (fun r M1 G1 => sW (sC d) 79 Q 66 [vO 0 a0, vQ 6 a1, vO 10 a2, vI x3, vI x4, vI x5] (vI r :: []) M1 G1 0 0))) : sW (sC d) 79 Q 50 [vO 0 a0, vQ 6 a1, vO 10 a2, vI x3, vI x4, vI x5] [] M G 0 0 := by
  refine q_aload_n 51 rfl (show sCode 79 50 = some (.aload_n 0, 1) by decide +kernel) rfl (Nat.le_of_ble_eq_true rfl) ?_
  refine q_aload_n 52 rfl (show sCode 79 51 = some (.aload_n 1, 1) by decide +kernel) rfl (Nat.le_of_ble_eq_true rfl) ?_
  refine q_iconst 53 rfl (show sCode 79 52 = some (.iconst 1, 1) by decide +kernel) ⟨by decide, by decide⟩ ?_
  refine q_aload_n 54 rfl (show sCode 79 53 = some (.aload_n 2, 1) by decide +kernel) rfl (Nat.le_of_ble_eq_true rfl) ?_
  refine q_iload 56 rfl (show sCode 79 54 = some (.iload 5, 2) by decide +kernel) rfl ?_
  refine q_aload_n 57 rfl (show sCode 79 56 = some (.aload_n 2, 1) by decide +kernel) rfl (Nat.le_of_ble_eq_true rfl) ?_
  refine q_getR (vA 0 (a2 + 13) 12) 60 rfl (show sCode 79 57 = some (.getfield 46, 3) by decide +kernel) (show sFR (sKo 79).1 46 = some (10, 16) by decide +kernel) (by decide +kernel) (Or.inl (Or.inl rfl)) rfl ?_
  refine q_iload 62 rfl (show sCode 79 60 = some (.iload 5, 2) by decide +kernel) rfl ?_
  refine q_iald 63 rfl (show sCode 79 62 = some (.iaload, 1) by decide +kernel) h1 ?_
  exact q_virtI [vQ 6 a1, vI 1, vO 10 a2, vI x5, vI (M (a2 + 13) x5.toNat)] 66 rfl (show sCode 79 63 = some (.invokevirtual 49, 3) by decide +kernel) (show sMR (sKo 79).1 49 = some 81 by decide +kernel) (show 81 < 1000 ∧ sStat 81 = false ∧ sIni 81 = false ∧ sKo 81 = (0, 5, 2, 0, 0) by decide +kernel) rfl (Or.inl rfl) rfl (Nat.le_of_ble_eq_true rfl) rfl rfl rfl (by decide +kernel) kk
theorem b79_66 {d : Nat} {Q : Option sV → sM → sG → Prop} {M : sM} {G : sG} {a0 : Nat} {a1 : Nat} {a2 : Nat} {x3 : Int} {x4 : Int} {x5 : Int} {s0 : Int}  (k1 : s0 ≠ 0 → sW (sC d) 79 Q 77 [vO 0 a0, vQ 6 a1, vO 10 a2, vI x3, vI x4, vI x5] [] M G 0 0) (k2 : s0 = 0 → sW (sC d) 79 Q 69 [vO 0 a0, vQ 6 a1, vO 10 a2, vN, vI x4, vI x5] [] M G 0 0) : sW (sC d) 79 Q 66 [vO 0 a0, vQ 6 a1, vO 10 a2, vI x3, vI x4, vI x5] [vI s0] M G 0 0 := by
  refine q_ifne 77 69 rfl (by decide) (show sCode 79 66 = some (.ifCond .ne 11, 3) by decide +kernel) ?_ ?_
  · intro q; exact k1 q
  · intro q; refine q_forget (L' := [vO 0 a0, vQ 6 a1, vO 10 a2, vN, vI x4, vI x5]) 3 rfl ?_; exact k2 q
theorem b79_69 {d : Nat} {Q : Option sV → sM → sG → Prop} {M : sM} {G : sG} {a0 : Nat} {a1 : Nat} {a2 : Nat} {x4 : Int} {x5 : Int}  (kk : sC d 74 [vO 10 a2, vI x5] M G (QV (fun M1 G1 => sW (sC d) 79 Q 75 [vO 0 a0, vQ 6 a1, vO 10 a2, vN, vI x4, vI x5] [] M1 G1 0 0))) : sW (sC d) 79 Q 69 [vO 0 a0, vQ 6 a1, vO 10 a2, vN, vI x4, vI x5] [] M G 0 0 := by
  refine q_aload_n 70 rfl (show sCode 79 69 = some (.aload_n 2, 1) by decide +kernel) rfl (Nat.le_of_ble_eq_true rfl) ?_
  refine q_iload 72 rfl (show sCode 79 70 = some (.iload 5, 2) by decide +kernel) rfl ?_
  exact q_virtV [vI x5] 75 rfl (show sCode 79 72 = some (.invokevirtual 53, 3) by decide +kernel) (show sMR (sKo 79).1 53 = some 74 by decide +kernel) (show 74 < 1000 ∧ sStat 74 = false ∧ sIni 74 = false ∧ sKo 74 = (10, 1, 0, 0, 0) by decide +kernel) rfl (Or.inl rfl) rfl (Nat.le_of_ble_eq_true rfl) rfl rfl rfl (by decide +kernel) kk
theorem b79_75 {d : Nat} {Q : Option sV → sM → sG → Prop} {M : sM} {G : sG} {a0 : Nat} {a1 : Nat} {a2 : Nat} {x4 : Int} {x5 : Int}  (kk : sW (sC d) 79 Q 77 [vO 0 a0, vQ 6 a1, vO 10 a2, vI 1, vI x4, vI x5] [] M G 0 0) : sW (sC d) 79 Q 75 [vO 0 a0, vQ 6 a1, vO 10 a2, vN, vI x4, vI x5] [] M G 0 0 := by
  refine q_iconst 76 rfl (show sCode 79 75 = some (.iconst 1, 1) by decide +kernel) ⟨by decide, by decide⟩ ?_
  refine q_istore_n [vO 0 a0, vQ 6 a1, vO 10 a2, vI 1, vI x4, vI x5] 77 rfl (show sCode 79 76 = some (.istore_n 3, 1) by decide +kernel) (Nat.lt_of_lt_of_le (Nat.lt_succ_self _) (Nat.le_of_ble_eq_true rfl)) rfl rfl ?_
  exact kk
theorem b79_77 {d : Nat} {Q : Option sV → sM → sG → Prop} {M : sM} {G : sG} {a0 : Nat} {a1 : Nat} {a2 : Nat} {x3 : Int} {x4 : Int} {x5 : Int} (h1 : sI (x5 + 1)) (kk : sW (sC d) 79 Q 21 [vO 0 a0, vQ 6 a1, vO 10 a2, vI x3, vI x4, vI (x5 + 1)] [] M G 0 0) : sW (sC d) 79 Q 77 [vO 0 a0, vQ 6 a1, vO 10 a2, vI x3, vI x4, vI x5] [] M G 0 0 := by
  refine q_iinc [vO 0 a0, vQ 6 a1, vO 10 a2, vI x3, vI x4, vI (x5 + 1)] 80 rfl (show sCode 79 77 = some (.iinc 5 1, 3) by decide +kernel) rfl rfl h1 rfl ?_
  refine q_goto 21 (by decide) (show sCode 79 80 = some (.goto (-59), 3) by decide +kernel) ?_
  exact kk
theorem b79_83 {d : Nat} {Q : Option sV → sM → sG → Prop} {M : sM} {G : sG} {a0 : Nat} {a1 : Nat} {a2 : Nat} {x3 : Int} {x4 : Int} (h1 : sI (x4 + 1)) (kk : sW (sC d) 79 Q 5 [vO 0 a0, vQ 6 a1, vO 10 a2, vI x3, vI (x4 + 1), vN] [] M G 0 0) : sW (sC d) 79 Q 83 [vO 0 a0, vQ 6 a1, vO 10 a2, vI x3, vI x4, vN] [] M G 0 0 := by
  refine q_iinc [vO 0 a0, vQ 6 a1, vO 10 a2, vI x3, vI (x4 + 1), vN] 86 rfl (show sCode 79 83 = some (.iinc 4 1, 3) by decide +kernel) rfl rfl h1 rfl ?_
  refine q_goto 5 (by decide) (show sCode 79 86 = some (.goto (-81), 3) by decide +kernel) ?_
  exact kk
theorem b79_89 {d : Nat} {P : sM → sG → Prop} {M : sM} {G : sG}   (kk : P M G) : sW (sC d) 79 (QV P) 89 [vN, vN, vN, vN, vN, vN] [] M G 0 0 := by
  exact q_vret (show sCode 79 89 = some (.return_, 1) by decide +kernel) (by decide +kernel) (by decide +kernel) kk
-- 81 AfterTheLast$Clock.someTestHolds (LAfterTheLast$Rule;ILAfterTheLast$Town;II)Z
theorem b81_0 {d : Nat} {Q : Option sV → sM → sG → Prop} {M : sM} {G : sG} {a0 : Nat} {a1 : Nat} {x2 : Int} {a3 : Nat} {x4 : Int} {x5 : Int}  (kk : sW (sC d) 81 Q 3 [vO 0 a0, vQ 6 a1, vI x2, vO 10 a3, vI x4, vI x5, vI 0] [] M G 0 0) : sW (sC d) 81 Q 0 [vO 0 a0, vQ 6 a1, vI x2, vO 10 a3, vI x4, vI x5, vN] [] M G 0 0 := by
  refine q_iconst 1 rfl (show sCode 81 0 = some (.iconst 0, 1) by decide +kernel) ⟨by decide, by decide⟩ ?_
  refine q_istore [vO 0 a0, vQ 6 a1, vI x2, vO 10 a3, vI x4, vI x5, vI 0] 3 rfl (show sCode 81 1 = some (.istore 6, 2) by decide +kernel) (Nat.lt_of_lt_of_le (Nat.lt_succ_self _) (Nat.le_of_ble_eq_true rfl)) rfl rfl ?_
  exact kk
theorem b81_3 {d : Nat} {Q : Option sV → sM → sG → Prop} {M : sM} {G : sG} {a0 : Nat} {a1 : Nat} {x2 : Int} {a3 : Nat} {x4 : Int} {x5 : Int} {x6 : Int} (h1 : a1 ≠ 0) (k1 : M a1 4 ≤ x6 → sW (sC d) 81 Q 46 [vN, vN, vN, vN, vN, vN, vN] [] M G 0 0) (k2 : x6 < M a1 4 → sW (sC d) 81 Q 12 [vO 0 a0, vQ 6 a1, vI x2, vO 10 a3, vI x4, vI x5, vI x6] [] M G 0 0) : sW (sC d) 81 Q 3 [vO 0 a0, vQ 6 a1, vI x2, vO 10 a3, vI x4, vI x5, vI x6] [] M G 0 0 := by
  refine q_iload 5 rfl (show sCode 81 3 = some (.iload 6, 2) by decide +kernel) rfl ?_
  refine q_aload_n 6 rfl (show sCode 81 5 = some (.aload_n 1, 1) by decide +kernel) rfl (Nat.le_of_ble_eq_true rfl) ?_
  refine q_getI 9 rfl (show sCode 81 6 = some (.getfield 86, 3) by decide +kernel) (show sFR (sKo 81).1 86 = some (6, 4) by decide +kernel) (by decide +kernel) (Or.inl (Or.inr (Or.inl ⟨rfl, h1⟩))) ?_
  refine q_icmpge 46 12 rfl (by decide) (show sCode 81 9 = some (.if_icmp .ge 37, 3) by decide +kernel) ?_ ?_
  · intro q; refine q_forget (L' := [vN, vQ 6 a1, vI x2, vO 10 a3, vI x4, vI x5, vI x6]) 0 rfl ?_; refine q_forget (L' := [vN, vN, vI x2, vO 10 a3, vI x4, vI x5, vI x6]) 1 rfl ?_; refine q_forget (L' := [vN, vN, vN, vO 10 a3, vI x4, vI x5, vI x6]) 2 rfl ?_; refine q_forget (L' := [vN, vN, vN, vN, vI x4, vI x5, vI x6]) 3 rfl ?_; refine q_forget (L' := [vN, vN, vN, vN, vN, vI x5, vI x6]) 4 rfl ?_; refine q_forget (L' := [vN, vN, vN, vN, vN, vN, vI x6]) 5 rfl ?_; refine q_forget (L' := [vN, vN, vN, vN, vN, vN, vN]) 6 rfl ?_; exact k1 q
  · intro q; exact k2 q
theorem b81_12 {d : Nat} {Q : Option sV → sM → sG → Prop} {M : sM} {G : sG} {a0 : Nat} {a1 : Nat} {x2 : Int} {a3 : Nat} {x4 : Int} {x5 : Int} {x6 : Int} (h1 : a1 ≠ 0) (h2 : 0 ≤ x6 ∧ x6 < ((G (a1 + 3)).2.1 : Int)) (k1 : M (a1 + 3) x6.toNat ≠ x2 → sW (sC d) 81 Q 40 [vO 0 a0, vQ 6 a1, vI x2, vO 10 a3, vI x4, vI x5, vI x6] [] M G 0 0) (k2 : M (a1 + 3) x6.toNat = x2 → sW (sC d) 81 Q 23 [vO 0 a0, vQ 6 a1, vI x2, vO 10 a3, vI x4, vI x5, vI x6] [] M G 0 0) : sW (sC d) 81 Q 12 [vO 0 a0, vQ 6 a1, vI x2, vO 10 a3, vI x4, vI x5, vI x6] [] M G 0 0 := by
  refine q_aload_n 13 rfl (show sCode 81 12 = some (.aload_n 1, 1) by decide +kernel) rfl (Nat.le_of_ble_eq_true rfl) ?_
  refine q_getR (vA 0 (a1 + 3) ((G (a1 + 3)).2.1 : Int)) 16 rfl (show sCode 81 13 = some (.getfield 89, 3) by decide +kernel) (show sFR (sKo 81).1 89 = some (6, 2) by decide +kernel) (by decide +kernel) (Or.inl (Or.inr (Or.inl ⟨rfl, h1⟩))) rfl ?_
  refine q_iload 18 rfl (show sCode 81 16 = some (.iload 6, 2) by decide +kernel) rfl ?_
  refine q_iald 19 rfl (show sCode 81 18 = some (.iaload, 1) by decide +kernel) h2 ?_
  refine q_iload_n 20 rfl (show sCode 81 19 = some (.iload_n 2, 1) by decide +kernel) rfl ?_
  refine q_icmpne 40 23 rfl (by decide) (show sCode 81 20 = some (.if_icmp .ne 20, 3) by decide +kernel) ?_ ?_
  · intro q; exact k1 q
  · intro q; exact k2 q
theorem b81_23 {d : Nat} {Q : Option sV → sM → sG → Prop} {M : sM} {G : sG} {a0 : Nat} {a1 : Nat} {x2 : Int} {a3 : Nat} {x4 : Int} {x5 : Int} {x6 : Int}  (kk : sC d 82 [vO 0 a0, vQ 6 a1, vI x6, vO 10 a3, vI x4, vI x5] M G (QI (fun r M1 G1 => sW (sC d) 81 Q 35 [vO 0 a0, vQ 6 a1, vI x2, vO 10 a3, vI x4, vI x5, vI x6] (vI r :: []) M1 G1 0 0))) : sW (sC d) 81 Q 23 [vO 0 a0, vQ 6 a1, vI x2, vO 10 a3, vI x4, vI x5, vI x6] [] M G 0 0 := by
  refine q_aload_n 24 rfl (show sCode 81 23 = some (.aload_n 0, 1) by decide +kernel) rfl (Nat.le_of_ble_eq_true rfl) ?_
  refine q_aload_n 25 rfl (show sCode 81 24 = some (.aload_n 1, 1) by decide +kernel) rfl (Nat.le_of_ble_eq_true rfl) ?_
  refine q_iload 27 rfl (show sCode 81 25 = some (.iload 6, 2) by decide +kernel) rfl ?_
  refine q_aload_n 28 rfl (show sCode 81 27 = some (.aload_n 3, 1) by decide +kernel) rfl (Nat.le_of_ble_eq_true rfl) ?_
  refine q_iload 30 rfl (show sCode 81 28 = some (.iload 4, 2) by decide +kernel) rfl ?_
  refine q_iload 32 rfl (show sCode 81 30 = some (.iload 5, 2) by decide +kernel) rfl ?_
  exact q_virtI [vQ 6 a1, vI x6, vO 10 a3, vI x4, vI x5] 35 rfl (show sCode 81 32 = some (.invokevirtual 92, 3) by decide +kernel) (show sMR (sKo 81).1 92 = some 82 by decide +kernel) (show 82 < 1000 ∧ sStat 82 = false ∧ sIni 82 = false ∧ sKo 82 = (0, 5, 2, 0, 0) by decide +kernel) rfl (Or.inl rfl) rfl (Nat.le_of_ble_eq_true rfl) rfl rfl rfl (by decide +kernel) kk
theorem b81_35 {d : Nat} {Q : Option sV → sM → sG → Prop} {M : sM} {G : sG} {a0 : Nat} {a1 : Nat} {x2 : Int} {a3 : Nat} {x4 : Int} {x5 : Int} {x6 : Int} {s0 : Int}  (k1 : s0 = 0 → sW (sC d) 81 Q 40 [vO 0 a0, vQ 6 a1, vI x2, vO 10 a3, vI x4, vI x5, vI x6] [] M G 0 0) (k2 : s0 ≠ 0 → sW (sC d) 81 Q 38 [vN, vN, vN, vN, vN, vN, vN] [] M G 0 0) : sW (sC d) 81 Q 35 [vO 0 a0, vQ 6 a1, vI x2, vO 10 a3, vI x4, vI x5, vI x6] [vI s0] M G 0 0 := by
  refine q_ifeq 40 38 rfl (by decide) (show sCode 81 35 = some (.ifCond .eq 5, 3) by decide +kernel) ?_ ?_
  · intro q; exact k1 q
  · intro q; refine q_forget (L' := [vN, vQ 6 a1, vI x2, vO 10 a3, vI x4, vI x5, vI x6]) 0 rfl ?_; refine q_forget (L' := [vN, vN, vI x2, vO 10 a3, vI x4, vI x5, vI x6]) 1 rfl ?_; refine q_forget (L' := [vN, vN, vN, vO 10 a3, vI x4, vI x5, vI x6]) 2 rfl ?_; refine q_forget (L' := [vN, vN, vN, vN, vI x4, vI x5, vI x6]) 3 rfl ?_; refine q_forget (L' := [vN, vN, vN, vN, vN, vI x5, vI x6]) 4 rfl ?_; refine q_forget (L' := [vN, vN, vN, vN, vN, vN, vI x6]) 5 rfl ?_; refine q_forget (L' := [vN, vN, vN, vN, vN, vN, vN]) 6 rfl ?_; exact k2 q
theorem b81_38 {d : Nat} {P : Int → sM → sG → Prop} {M : sM} {G : sG}   (kk : P 1 M G) : sW (sC d) 81 (QI P) 38 [vN, vN, vN, vN, vN, vN, vN] [] M G 0 0 := by
  refine q_iconst 39 rfl (show sCode 81 38 = some (.iconst 1, 1) by decide +kernel) ⟨by decide, by decide⟩ ?_
  exact q_zret (show sCode 81 39 = some (.ireturn, 1) by decide +kernel) (by decide +kernel) (by decide) (by decide +kernel) kk
theorem b81_40 {d : Nat} {Q : Option sV → sM → sG → Prop} {M : sM} {G : sG} {a0 : Nat} {a1 : Nat} {x2 : Int} {a3 : Nat} {x4 : Int} {x5 : Int} {x6 : Int} (h1 : sI (x6 + 1)) (kk : sW (sC d) 81 Q 3 [vO 0 a0, vQ 6 a1, vI x2, vO 10 a3, vI x4, vI x5, vI (x6 + 1)] [] M G 0 0) : sW (sC d) 81 Q 40 [vO 0 a0, vQ 6 a1, vI x2, vO 10 a3, vI x4, vI x5, vI x6] [] M G 0 0 := by
  refine q_iinc [vO 0 a0, vQ 6 a1, vI x2, vO 10 a3, vI x4, vI x5, vI (x6 + 1)] 43 rfl (show sCode 81 40 = some (.iinc 6 1, 3) by decide +kernel) rfl rfl h1 rfl ?_
  refine q_goto 3 (by decide) (show sCode 81 43 = some (.goto (-40), 3) by decide +kernel) ?_
  exact kk
theorem b81_46 {d : Nat} {P : Int → sM → sG → Prop} {M : sM} {G : sG}   (kk : P 0 M G) : sW (sC d) 81 (QI P) 46 [vN, vN, vN, vN, vN, vN, vN] [] M G 0 0 := by
  refine q_iconst 47 rfl (show sCode 81 46 = some (.iconst 0, 1) by decide +kernel) ⟨by decide, by decide⟩ ?_
  exact q_zret (show sCode 81 47 = some (.ireturn, 1) by decide +kernel) (by decide +kernel) (by decide) (by decide +kernel) kk
-- 82 AfterTheLast$Clock.testHolds (LAfterTheLast$Rule;ILAfterTheLast$Town;II)Z
theorem b82_0 {d : Nat} {Q : Option sV → sM → sG → Prop} {M : sM} {G : sG} {a0 : Nat} {a1 : Nat} {x2 : Int} {a3 : Nat} {x4 : Int} {x5 : Int} (h1 : a1 ≠ 0) (h2 : 0 ≤ x2 ∧ x2 < ((G (a1 + 4)).2.1 : Int)) (hr : a1 ≠ 0) (kk : sC d 83 [vO 6 a1, vI x2] M G (QI (fun r M1 G1 => sW (sC d) 82 Q 16 [vO 0 a0, vQ 6 a1, vN, vO 10 a3, vI x4, vI x5, vI 0, vI (M (a1 + 4) x2.toNat), vN, vN, vN] (vI r :: []) M1 G1 0 0))) : sW (sC d) 82 Q 0 [vO 0 a0, vQ 6 a1, vI x2, vO 10 a3, vI x4, vI x5, vN, vN, vN, vN, vN] [] M G 0 0 := by
  refine q_iconst 1 rfl (show sCode 82 0 = some (.iconst 0, 1) by decide +kernel) ⟨by decide, by decide⟩ ?_
  refine q_istore [vO 0 a0, vQ 6 a1, vI x2, vO 10 a3, vI x4, vI x5, vI 0, vN, vN, vN, vN] 3 rfl (show sCode 82 1 = some (.istore 6, 2) by decide +kernel) (Nat.lt_of_lt_of_le (Nat.lt_succ_self _) (Nat.le_of_ble_eq_true rfl)) rfl rfl ?_
  refine q_aload_n 4 rfl (show sCode 82 3 = some (.aload_n 1, 1) by decide +kernel) rfl (Nat.le_of_ble_eq_true rfl) ?_
  refine q_getR (vA 0 (a1 + 4) ((G (a1 + 4)).2.1 : Int)) 7 rfl (show sCode 82 4 = some (.getfield 95, 3) by decide +kernel) (show sFR (sKo 82).1 95 = some (6, 3) by decide +kernel) (by decide +kernel) (Or.inl (Or.inr (Or.inl ⟨rfl, h1⟩))) rfl ?_
  refine q_iload_n 8 rfl (show sCode 82 7 = some (.iload_n 2, 1) by decide +kernel) rfl ?_
  refine q_iald 9 rfl (show sCode 82 8 = some (.iaload, 1) by decide +kernel) h2 ?_
  refine q_istore [vO 0 a0, vQ 6 a1, vI x2, vO 10 a3, vI x4, vI x5, vI 0, vI (M (a1 + 4) x2.toNat), vN, vN, vN] 11 rfl (show sCode 82 9 = some (.istore 7, 2) by decide +kernel) (Nat.lt_of_lt_of_le (Nat.lt_succ_self _) (Nat.le_of_ble_eq_true rfl)) rfl rfl ?_
  refine q_aload_n 12 rfl (show sCode 82 11 = some (.aload_n 1, 1) by decide +kernel) rfl (Nat.le_of_ble_eq_true rfl) ?_
  refine q_iload_n 13 rfl (show sCode 82 12 = some (.iload_n 2, 1) by decide +kernel) rfl ?_
  refine q_forget (L' := [vO 0 a0, vQ 6 a1, vN, vO 10 a3, vI x4, vI x5, vI 0, vI (M (a1 + 4) x2.toNat), vN, vN, vN]) 2 rfl ?_
  exact q_virtI [vI x2] 16 rfl (show sCode 82 13 = some (.invokevirtual 98, 3) by decide +kernel) (show sMR (sKo 82).1 98 = some 83 by decide +kernel) (show 83 < 1000 ∧ sStat 83 = false ∧ sIni 83 = false ∧ sKo 83 = (6, 1, 1, 0, 0) by decide +kernel) rfl (Or.inr (Or.inl ⟨rfl, hr⟩)) rfl (Nat.le_of_ble_eq_true rfl) rfl rfl rfl (by decide +kernel) kk
theorem b82_16 {d : Nat} {Q : Option sV → sM → sG → Prop} {M : sM} {G : sG} {a0 : Nat} {a1 : Nat} {a3 : Nat} {x4 : Int} {x5 : Int} {x6 : Int} {x7 : Int} {s0 : Int}  (kk : sW (sC d) 82 Q 18 [vO 0 a0, vQ 6 a1, vN, vO 10 a3, vI x4, vI x5, vI x6, vI x7, vI s0, vN, vN] [] M G 0 0) : sW (sC d) 82 Q 16 [vO 0 a0, vQ 6 a1, vN, vO 10 a3, vI x4, vI x5, vI x6, vI x7, vN, vN, vN] [vI s0] M G 0 0 := by
  refine q_istore [vO 0 a0, vQ 6 a1, vN, vO 10 a3, vI x4, vI x5, vI x6, vI x7, vI s0, vN, vN] 18 rfl (show sCode 82 16 = some (.istore 8, 2) by decide +kernel) (Nat.lt_of_lt_of_le (Nat.lt_succ_self _) (Nat.le_of_ble_eq_true rfl)) rfl rfl ?_
  exact kk
theorem b82_18 {d : Nat} {Q : Option sV → sM → sG → Prop} {M : sM} {G : sG} {a0 : Nat} {a1 : Nat} {a3 : Nat} {x4 : Int} {x5 : Int} {x6 : Int} {x7 : Int} {x8 : Int}  (k1 : x7 ≤ x8 → sW (sC d) 82 Q 250 [vO 0 a0, vN, vN, vN, vN, vN, vI x6, vN, vN, vN, vN] [] M G 0 0) (k2 : x8 < x7 → sW (sC d) 82 Q 25 [vO 0 a0, vQ 6 a1, vN, vO 10 a3, vI x4, vI x5, vI x6, vI x7, vI x8, vN, vN] [] M G 0 0) : sW (sC d) 82 Q 18 [vO 0 a0, vQ 6 a1, vN, vO 10 a3, vI x4, vI x5, vI x6, vI x7, vI x8, vN, vN] [] M G 0 0 := by
  refine q_iload 20 rfl (show sCode 82 18 = some (.iload 8, 2) by decide +kernel) rfl ?_
  refine q_iload 22 rfl (show sCode 82 20 = some (.iload 7, 2) by decide +kernel) rfl ?_
  refine q_icmpge 250 25 rfl (by decide) (show sCode 82 22 = some (.if_icmp .ge 228, 3) by decide +kernel) ?_ ?_
  · intro q; refine q_forget (L' := [vO 0 a0, vN, vN, vO 10 a3, vI x4, vI x5, vI x6, vI x7, vI x8, vN, vN]) 1 rfl ?_; refine q_forget (L' := [vO 0 a0, vN, vN, vN, vI x4, vI x5, vI x6, vI x7, vI x8, vN, vN]) 3 rfl ?_; refine q_forget (L' := [vO 0 a0, vN, vN, vN, vN, vI x5, vI x6, vI x7, vI x8, vN, vN]) 4 rfl ?_; refine q_forget (L' := [vO 0 a0, vN, vN, vN, vN, vN, vI x6, vI x7, vI x8, vN, vN]) 5 rfl ?_; refine q_forget (L' := [vO 0 a0, vN, vN, vN, vN, vN, vI x6, vN, vI x8, vN, vN]) 7 rfl ?_; refine q_forget (L' := [vO 0 a0, vN, vN, vN, vN, vN, vI x6, vN, vN, vN, vN]) 8 rfl ?_; exact k1 q
  · intro q; exact k2 q
theorem b82_25 {d : Nat} {Q : Option sV → sM → sG → Prop} {M : sM} {G : sG} {a0 : Nat} {a1 : Nat} {a3 : Nat} {x4 : Int} {x5 : Int} {x6 : Int} {x7 : Int} {x8 : Int} (h1 : a1 ≠ 0) (h2 : 0 ≤ x8 ∧ x8 < ((G (a1 + 1)).2.1 : Int)) (h3 : a1 ≠ 0) (h4 : 0 ≤ x8 ∧ x8 < ((G (a1 + 2)).2.1 : Int)) (k1 : M (a1 + 1) x8.toNat = 0 → sW (sC d) 82 Q 54 [vO 0 a0, vQ 6 a1, vN, vO 10 a3, vI x4, vI x5, vI x6, vI x7, vI x8, vI (M (a1 + 1) x8.toNat), vI (M (a1 + 2) x8.toNat)] [] M G 0 0) (k2 : M (a1 + 1) x8.toNat ≠ 0 → sW (sC d) 82 Q 48 [vO 0 a0, vQ 6 a1, vN, vO 10 a3, vI x4, vI x5, vI x6, vI x7, vI x8, vI (M (a1 + 1) x8.toNat), vI (M (a1 + 2) x8.toNat)] [] M G 0 0) : sW (sC d) 82 Q 25 [vO 0 a0, vQ 6 a1, vN, vO 10 a3, vI x4, vI x5, vI x6, vI x7, vI x8, vN, vN] [] M G 0 0 := by
  refine q_aload_n 26 rfl (show sCode 82 25 = some (.aload_n 1, 1) by decide +kernel) rfl (Nat.le_of_ble_eq_true rfl) ?_
  refine q_getR (vA 0 (a1 + 1) ((G (a1 + 1)).2.1 : Int)) 29 rfl (show sCode 82 26 = some (.getfield 101, 3) by decide +kernel) (show sFR (sKo 82).1 101 = some (6, 0) by decide +kernel) (by decide +kernel) (Or.inl (Or.inr (Or.inl ⟨rfl, h1⟩))) rfl ?_
  refine q_iload 31 rfl (show sCode 82 29 = some (.iload 8, 2) by decide +kernel) rfl ?_
  refine q_iald 32 rfl (show sCode 82 31 = some (.iaload, 1) by decide +kernel) h2 ?_
  refine q_istore [vO 0 a0, vQ 6 a1, vN, vO 10 a3, vI x4, vI x5, vI x6, vI x7, vI x8, vI (M (a1 + 1) x8.toNat), vN] 34 rfl (show sCode 82 32 = some (.istore 9, 2) by decide +kernel) (Nat.lt_of_lt_of_le (Nat.lt_succ_self _) (Nat.le_of_ble_eq_true rfl)) rfl rfl ?_
  refine q_aload_n 35 rfl (show sCode 82 34 = some (.aload_n 1, 1) by decide +kernel) rfl (Nat.le_of_ble_eq_true rfl) ?_
  refine q_getR (vA 0 (a1 + 2) ((G (a1 + 2)).2.1 : Int)) 38 rfl (show sCode 82 35 = some (.getfield 104, 3) by decide +kernel) (show sFR (sKo 82).1 104 = some (6, 1) by decide +kernel) (by decide +kernel) (Or.inl (Or.inr (Or.inl ⟨rfl, h3⟩))) rfl ?_
  refine q_iload 40 rfl (show sCode 82 38 = some (.iload 8, 2) by decide +kernel) rfl ?_
  refine q_iald 41 rfl (show sCode 82 40 = some (.iaload, 1) by decide +kernel) h4 ?_
  refine q_istore [vO 0 a0, vQ 6 a1, vN, vO 10 a3, vI x4, vI x5, vI x6, vI x7, vI x8, vI (M (a1 + 1) x8.toNat), vI (M (a1 + 2) x8.toNat)] 43 rfl (show sCode 82 41 = some (.istore 10, 2) by decide +kernel) (Nat.lt_of_lt_of_le (Nat.lt_succ_self _) (Nat.le_of_ble_eq_true rfl)) rfl rfl ?_
  refine q_iload 45 rfl (show sCode 82 43 = some (.iload 9, 2) by decide +kernel) rfl ?_
  refine q_ifeq 54 48 rfl (by decide) (show sCode 82 45 = some (.ifCond .eq 9, 3) by decide +kernel) ?_ ?_
  · intro q; exact k1 q
  · intro q; exact k2 q
theorem b82_48 {d : Nat} {Q : Option sV → sM → sG → Prop} {M : sM} {G : sG} {a0 : Nat} {a1 : Nat} {a3 : Nat} {x4 : Int} {x5 : Int} {x6 : Int} {x7 : Int} {x8 : Int} {x9 : Int} {x10 : Int}  (k1 : x9 ≠ 1 → sW (sC d) 82 Q 97 [vO 0 a0, vQ 6 a1, vN, vO 10 a3, vI x4, vI x5, vI x6, vI x7, vI x8, vI x9, vI x10] [] M G 0 0) (k2 : x9 = 1 → sW (sC d) 82 Q 54 [vO 0 a0, vQ 6 a1, vN, vO 10 a3, vI x4, vI x5, vI x6, vI x7, vI x8, vI x9, vI x10] [] M G 0 0) : sW (sC d) 82 Q 48 [vO 0 a0, vQ 6 a1, vN, vO 10 a3, vI x4, vI x5, vI x6, vI x7, vI x8, vI x9, vI x10] [] M G 0 0 := by
  refine q_iload 50 rfl (show sCode 82 48 = some (.iload 9, 2) by decide +kernel) rfl ?_
  refine q_iconst 51 rfl (show sCode 82 50 = some (.iconst 1, 1) by decide +kernel) ⟨by decide, by decide⟩ ?_
  refine q_icmpne 97 54 rfl (by decide) (show sCode 82 51 = some (.if_icmp .ne 46, 3) by decide +kernel) ?_ ?_
  · intro q; exact k1 q
  · intro q; exact k2 q
theorem b82_54 {d : Nat} {Q : Option sV → sM → sG → Prop} {M : sM} {G : sG} {a0 : Nat} {a1 : Nat} {a3 : Nat} {x4 : Int} {x5 : Int} {x6 : Int} {x7 : Int} {x8 : Int} {x9 : Int} {x10 : Int}  (k1 : x6 < 64 → sW (sC d) 82 Q 63 [vO 0 a0, vQ 6 a1, vN, vO 10 a3, vI x4, vI x5, vI x6, vI x7, vI x8, vI x9, vI x10] [] M G 0 0) (k2 : 64 ≤ x6 → sW (sC d) 82 Q 61 [vN, vN, vN, vN, vN, vN, vN, vN, vN, vN, vN] [] M G 0 0) : sW (sC d) 82 Q 54 [vO 0 a0, vQ 6 a1, vN, vO 10 a3, vI x4, vI x5, vI x6, vI x7, vI x8, vI x9, vI x10] [] M G 0 0 := by
  refine q_iload 56 rfl (show sCode 82 54 = some (.iload 6, 2) by decide +kernel) rfl ?_
  refine q_bipush 58 rfl (show sCode 82 56 = some (.bipush 64, 2) by decide +kernel) ⟨by decide, by decide⟩ (by decide +kernel) ?_
  refine q_icmplt 63 61 rfl (by decide) (show sCode 82 58 = some (.if_icmp .lt 5, 3) by decide +kernel) ?_ ?_
  · intro q; exact k1 q
  · intro q; refine q_forget (L' := [vN, vQ 6 a1, vN, vO 10 a3, vI x4, vI x5, vI x6, vI x7, vI x8, vI x9, vI x10]) 0 rfl ?_; refine q_forget (L' := [vN, vN, vN, vO 10 a3, vI x4, vI x5, vI x6, vI x7, vI x8, vI x9, vI x10]) 1 rfl ?_; refine q_forget (L' := [vN, vN, vN, vN, vI x4, vI x5, vI x6, vI x7, vI x8, vI x9, vI x10]) 3 rfl ?_; refine q_forget (L' := [vN, vN, vN, vN, vN, vI x5, vI x6, vI x7, vI x8, vI x9, vI x10]) 4 rfl ?_; refine q_forget (L' := [vN, vN, vN, vN, vN, vN, vI x6, vI x7, vI x8, vI x9, vI x10]) 5 rfl ?_; refine q_forget (L' := [vN, vN, vN, vN, vN, vN, vN, vI x7, vI x8, vI x9, vI x10]) 6 rfl ?_; refine q_forget (L' := [vN, vN, vN, vN, vN, vN, vN, vN, vI x8, vI x9, vI x10]) 7 rfl ?_; refine q_forget (L' := [vN, vN, vN, vN, vN, vN, vN, vN, vN, vI x9, vI x10]) 8 rfl ?_; refine q_forget (L' := [vN, vN, vN, vN, vN, vN, vN, vN, vN, vN, vI x10]) 9 rfl ?_; refine q_forget (L' := [vN, vN, vN, vN, vN, vN, vN, vN, vN, vN, vN]) 10 rfl ?_; exact k2 q
theorem b82_61 {d : Nat} {P : Int → sM → sG → Prop} {M : sM} {G : sG}   (kk : P 0 M G) : sW (sC d) 82 (QI P) 61 [vN, vN, vN, vN, vN, vN, vN, vN, vN, vN, vN] [] M G 0 0 := by
  refine q_iconst 62 rfl (show sCode 82 61 = some (.iconst 0, 1) by decide +kernel) ⟨by decide, by decide⟩ ?_
  exact q_zret (show sCode 82 62 = some (.ireturn, 1) by decide +kernel) (by decide +kernel) (by decide) (by decide +kernel) kk
theorem b82_63 {d : Nat} {Q : Option sV → sM → sG → Prop} {M : sM} {G : sG} {a0 : Nat} {a1 : Nat} {a3 : Nat} {x4 : Int} {x5 : Int} {x6 : Int} {x7 : Int} {x8 : Int} {x9 : Int} {x10 : Int}  (k1 : x9 ≠ 0 → sW (sC d) 82 Q 80 [vO 0 a0, vQ 6 a1, vN, vO 10 a3, vI x4, vI x5, vI x6, vI x7, vI x8, vN, vI x10] [vI x6, vA 1 (a0 + 1) 64] M G 0 0) (k2 : x9 = 0 → sW (sC d) 82 Q 74 [vO 0 a0, vQ 6 a1, vN, vO 10 a3, vI x4, vI x5, vI x6, vI x7, vI x8, vN, vI x10] [vI x6, vA 1 (a0 + 1) 64] M G 0 0) : sW (sC d) 82 Q 63 [vO 0 a0, vQ 6 a1, vN, vO 10 a3, vI x4, vI x5, vI x6, vI x7, vI x8, vI x9, vI x10] [] M G 0 0 := by
  refine q_aload_n 64 rfl (show sCode 82 63 = some (.aload_n 0, 1) by decide +kernel) rfl (Nat.le_of_ble_eq_true rfl) ?_
  refine q_getR (vA 1 (a0 + 1) 64) 67 rfl (show sCode 82 64 = some (.getfield 11, 3) by decide +kernel) (show sFR (sKo 82).1 11 = some (0, 0) by decide +kernel) (by decide +kernel) (Or.inl (Or.inl rfl)) rfl ?_
  refine q_iload 69 rfl (show sCode 82 67 = some (.iload 6, 2) by decide +kernel) rfl ?_
  refine q_iload 71 rfl (show sCode 82 69 = some (.iload 9, 2) by decide +kernel) rfl ?_
  refine q_ifne 80 74 rfl (by decide) (show sCode 82 71 = some (.ifCond .ne 9, 3) by decide +kernel) ?_ ?_
  · intro q; refine q_forget (L' := [vO 0 a0, vQ 6 a1, vN, vO 10 a3, vI x4, vI x5, vI x6, vI x7, vI x8, vN, vI x10]) 9 rfl ?_; exact k1 q
  · intro q; refine q_forget (L' := [vO 0 a0, vQ 6 a1, vN, vO 10 a3, vI x4, vI x5, vI x6, vI x7, vI x8, vN, vI x10]) 9 rfl ?_; exact k2 q
theorem b82_74 {d : Nat} {Q : Option sV → sM → sG → Prop} {M : sM} {G : sG} {a0 : Nat} {a1 : Nat} {a3 : Nat} {x4 : Int} {x5 : Int} {x6 : Int} {x7 : Int} {x8 : Int} {x10 : Int} {s0 : Int} {sa1 : Nat}  (kk : sW (sC d) 82 Q 90 [vO 0 a0, vQ 6 a1, vN, vO 10 a3, vI x4, vI x5, vI x6, vI x7, vI x8, vN, vN] [vL x10, vI s0, vA 1 sa1 64] M G 0 0) : sW (sC d) 82 Q 74 [vO 0 a0, vQ 6 a1, vN, vO 10 a3, vI x4, vI x5, vI x6, vI x7, vI x8, vN, vI x10] [vI s0, vA 1 sa1 64] M G 0 0 := by
  refine q_iload 76 rfl (show sCode 82 74 = some (.iload 10, 2) by decide +kernel) rfl ?_
  refine q_i2l 77 rfl (show sCode 82 76 = some (.i2l, 1) by decide +kernel) ?_
  refine q_goto 90 (by decide) (show sCode 82 77 = some (.goto 13, 3) by decide +kernel) ?_
  refine q_forget (L' := [vO 0 a0, vQ 6 a1, vN, vO 10 a3, vI x4, vI x5, vI x6, vI x7, vI x8, vN, vN]) 10 rfl ?_
  exact kk
theorem b82_80 {d : Nat} {Q : Option sV → sM → sG → Prop} {M : sM} {G : sG} {a0 : Nat} {a1 : Nat} {a3 : Nat} {x4 : Int} {x5 : Int} {x6 : Int} {x7 : Int} {x8 : Int} {x10 : Int} {s0 : Int} {sa1 : Nat}  (kk : sC d 84 [vI x10, vO 10 a3, vI x4, vI x5] M G (QL (fun r M1 G1 => sW (sC d) 82 Q 90 [vO 0 a0, vQ 6 a1, vN, vO 10 a3, vI x4, vI x5, vI x6, vI x7, vI x8, vN, vN] (vL r :: [vI s0, vA 1 sa1 64]) M1 G1 0 0))) : sW (sC d) 82 Q 80 [vO 0 a0, vQ 6 a1, vN, vO 10 a3, vI x4, vI x5, vI x6, vI x7, vI x8, vN, vI x10] [vI s0, vA 1 sa1 64] M G 0 0 := by
  refine q_iload 82 rfl (show sCode 82 80 = some (.iload 10, 2) by decide +kernel) rfl ?_
  refine q_aload_n 83 rfl (show sCode 82 82 = some (.aload_n 3, 1) by decide +kernel) rfl (Nat.le_of_ble_eq_true rfl) ?_
  refine q_iload 85 rfl (show sCode 82 83 = some (.iload 4, 2) by decide +kernel) rfl ?_
  refine q_iload 87 rfl (show sCode 82 85 = some (.iload 5, 2) by decide +kernel) rfl ?_
  refine q_forget (L' := [vO 0 a0, vQ 6 a1, vN, vO 10 a3, vI x4, vI x5, vI x6, vI x7, vI x8, vN, vN]) 10 rfl ?_
  exact q_statL [vI x10, vO 10 a3, vI x4, vI x5] 90 rfl (show sCode 82 87 = some (.invokestatic 107, 3) by decide +kernel) (show sMR (sKo 82).1 107 = some 84 by decide +kernel) (show 84 < 1000 ∧ sStat 84 = true ∧ sKo 84 = (0, 4, 3, 0, 0) by decide +kernel) rfl rfl (Nat.le_of_ble_eq_true rfl) rfl rfl rfl (by decide +kernel) kk
theorem b82_90 {d : Nat} {Q : Option sV → sM → sG → Prop} {M : sM} {G : sG} {a0 : Nat} {a1 : Nat} {a3 : Nat} {x4 : Int} {x5 : Int} {x6 : Int} {x7 : Int} {x8 : Int} {s0 : Int} {s1 : Int} {sa2 : Nat} (h1 : 0 ≤ s1 ∧ s1 < 64) (h2 : sI (x6 + 1)) (kk : sW (sC d) 82 Q 244 [vO 0 a0, vQ 6 a1, vN, vO 10 a3, vI x4, vI x5, vI (x6 + 1), vI x7, vI x8, vN, vN] [] (sUpd M sa2 s1.toNat s0) G 0 0) : sW (sC d) 82 Q 90 [vO 0 a0, vQ 6 a1, vN, vO 10 a3, vI x4, vI x5, vI x6, vI x7, vI x8, vN, vN] [vL s0, vI s1, vA 1 sa2 64] M G 0 0 := by
  refine q_last 91 rfl (show sCode 82 90 = some (.lastore, 1) by decide +kernel) h1 ?_
  refine q_iinc [vO 0 a0, vQ 6 a1, vN, vO 10 a3, vI x4, vI x5, vI (x6 + 1), vI x7, vI x8, vN, vN] 94 rfl (show sCode 82 91 = some (.iinc 6 1, 3) by decide +kernel) rfl rfl h2 rfl ?_
  refine q_goto 244 (by decide) (show sCode 82 94 = some (.goto 150, 3) by decide +kernel) ?_
  exact kk
theorem b82_97 {d : Nat} {Q : Option sV → sM → sG → Prop} {M : sM} {G : sG} {a0 : Nat} {a1 : Nat} {a3 : Nat} {x4 : Int} {x5 : Int} {x6 : Int} {x7 : Int} {x8 : Int} {x9 : Int} {x10 : Int}  (k1 : 1 ≤ x6 → sW (sC d) 82 Q 105 [vO 0 a0, vQ 6 a1, vN, vO 10 a3, vI x4, vI x5, vI x6, vI x7, vI x8, vI x9, vI x10] [] M G 0 0) (k2 : x6 < 1 → sW (sC d) 82 Q 103 [vN, vN, vN, vN, vN, vN, vN, vN, vN, vN, vN] [] M G 0 0) : sW (sC d) 82 Q 97 [vO 0 a0, vQ 6 a1, vN, vO 10 a3, vI x4, vI x5, vI x6, vI x7, vI x8, vI x9, vI x10] [] M G 0 0 := by
  refine q_iload 99 rfl (show sCode 82 97 = some (.iload 6, 2) by decide +kernel) rfl ?_
  refine q_iconst 100 rfl (show sCode 82 99 = some (.iconst 1, 1) by decide +kernel) ⟨by decide, by decide⟩ ?_
  refine q_icmpge 105 103 rfl (by decide) (show sCode 82 100 = some (.if_icmp .ge 5, 3) by decide +kernel) ?_ ?_
  · intro q; exact k1 q
  · intro q; refine q_forget (L' := [vN, vQ 6 a1, vN, vO 10 a3, vI x4, vI x5, vI x6, vI x7, vI x8, vI x9, vI x10]) 0 rfl ?_; refine q_forget (L' := [vN, vN, vN, vO 10 a3, vI x4, vI x5, vI x6, vI x7, vI x8, vI x9, vI x10]) 1 rfl ?_; refine q_forget (L' := [vN, vN, vN, vN, vI x4, vI x5, vI x6, vI x7, vI x8, vI x9, vI x10]) 3 rfl ?_; refine q_forget (L' := [vN, vN, vN, vN, vN, vI x5, vI x6, vI x7, vI x8, vI x9, vI x10]) 4 rfl ?_; refine q_forget (L' := [vN, vN, vN, vN, vN, vN, vI x6, vI x7, vI x8, vI x9, vI x10]) 5 rfl ?_; refine q_forget (L' := [vN, vN, vN, vN, vN, vN, vN, vI x7, vI x8, vI x9, vI x10]) 6 rfl ?_; refine q_forget (L' := [vN, vN, vN, vN, vN, vN, vN, vN, vI x8, vI x9, vI x10]) 7 rfl ?_; refine q_forget (L' := [vN, vN, vN, vN, vN, vN, vN, vN, vN, vI x9, vI x10]) 8 rfl ?_; refine q_forget (L' := [vN, vN, vN, vN, vN, vN, vN, vN, vN, vN, vI x10]) 9 rfl ?_; refine q_forget (L' := [vN, vN, vN, vN, vN, vN, vN, vN, vN, vN, vN]) 10 rfl ?_; exact k2 q
theorem b82_103 {d : Nat} {P : Int → sM → sG → Prop} {M : sM} {G : sG}   (kk : P 0 M G) : sW (sC d) 82 (QI P) 103 [vN, vN, vN, vN, vN, vN, vN, vN, vN, vN, vN] [] M G 0 0 := by
  refine q_iconst 104 rfl (show sCode 82 103 = some (.iconst 0, 1) by decide +kernel) ⟨by decide, by decide⟩ ?_
  exact q_zret (show sCode 82 104 = some (.ireturn, 1) by decide +kernel) (by decide +kernel) (by decide) (by decide +kernel) kk
theorem b82_105 {d : Nat} {Q : Option sV → sM → sG → Prop} {M : sM} {G : sG} {a0 : Nat} {a1 : Nat} {a3 : Nat} {x4 : Int} {x5 : Int} {x6 : Int} {x7 : Int} {x8 : Int} {x9 : Int} {x10 : Int}  (k1 : x9 ≠ 11 → sW (sC d) 82 Q 135 [vO 0 a0, vQ 6 a1, vN, vO 10 a3, vI x4, vI x5, vI x6, vI x7, vI x8, vI x9, vI x10] [] M G 0 0) (k2 : x9 = 11 → sW (sC d) 82 Q 112 [vO 0 a0, vQ 6 a1, vN, vO 10 a3, vI x4, vI x5, vI x6, vI x7, vI x8, vN, vN] [] M G 0 0) : sW (sC d) 82 Q 105 [vO 0 a0, vQ 6 a1, vN, vO 10 a3, vI x4, vI x5, vI x6, vI x7, vI x8, vI x9, vI x10] [] M G 0 0 := by
  refine q_iload 107 rfl (show sCode 82 105 = some (.iload 9, 2) by decide +kernel) rfl ?_
  refine q_bipush 109 rfl (show sCode 82 107 = some (.bipush 11, 2) by decide +kernel) ⟨by decide, by decide⟩ (by decide +kernel) ?_
  refine q_icmpne 135 112 rfl (by decide) (show sCode 82 109 = some (.if_icmp .ne 26, 3) by decide +kernel) ?_ ?_
  · intro q; exact k1 q
  · intro q; refine q_forget (L' := [vO 0 a0, vQ 6 a1, vN, vO 10 a3, vI x4, vI x5, vI x6, vI x7, vI x8, vN, vI x10]) 9 rfl ?_; refine q_forget (L' := [vO 0 a0, vQ 6 a1, vN, vO 10 a3, vI x4, vI x5, vI x6, vI x7, vI x8, vN, vN]) 10 rfl ?_; exact k2 q
theorem b82_112 {d : Nat} {Q : Option sV → sM → sG → Prop} {M : sM} {G : sG} {a0 : Nat} {a1 : Nat} {a3 : Nat} {x4 : Int} {x5 : Int} {x6 : Int} {x7 : Int} {x8 : Int} (h1 : sI (x6 - 1)) (h2 : sI (x6 - 1)) (h3 : 0 ≤ x6 - 1 ∧ x6 - 1 < 64) (h4 : 0 ≤ x6 - 1 ∧ x6 - 1 < 64) (kk : sW (sC d) 82 Q 244 [vO 0 a0, vQ 6 a1, vN, vO 10 a3, vI x4, vI x5, vI x6, vI x7, vI x8, vN, vN] [] (sUpd M (a0 + 1) (x6 - 1).toNat (jWrap (1 - (M (a0 + 1) (x6 - 1).toNat)))) G 0 0) : sW (sC d) 82 Q 112 [vO 0 a0, vQ 6 a1, vN, vO 10 a3, vI x4, vI x5, vI x6, vI x7, vI x8, vN, vN] [] M G 0 0 := by
  refine q_aload_n 113 rfl (show sCode 82 112 = some (.aload_n 0, 1) by decide +kernel) rfl (Nat.le_of_ble_eq_true rfl) ?_
  refine q_getR (vA 1 (a0 + 1) 64) 116 rfl (show sCode 82 113 = some (.getfield 11, 3) by decide +kernel) (show sFR (sKo 82).1 11 = some (0, 0) by decide +kernel) (by decide +kernel) (Or.inl (Or.inl rfl)) rfl ?_
  refine q_iload 118 rfl (show sCode 82 116 = some (.iload 6, 2) by decide +kernel) rfl ?_
  refine q_iconst 119 rfl (show sCode 82 118 = some (.iconst 1, 1) by decide +kernel) ⟨by decide, by decide⟩ ?_
  refine q_isub 120 rfl (show sCode 82 119 = some (.isub, 1) by decide +kernel) h1 ?_
  refine q_lconst 121 rfl (show sCode 82 120 = some (.lconst 1, 1) by decide +kernel) ?_
  refine q_aload_n 122 rfl (show sCode 82 121 = some (.aload_n 0, 1) by decide +kernel) rfl (Nat.le_of_ble_eq_true rfl) ?_
  refine q_getR (vA 1 (a0 + 1) 64) 125 rfl (show sCode 82 122 = some (.getfield 11, 3) by decide +kernel) (show sFR (sKo 82).1 11 = some (0, 0) by decide +kernel) (by decide +kernel) (Or.inl (Or.inl rfl)) rfl ?_
  refine q_iload 127 rfl (show sCode 82 125 = some (.iload 6, 2) by decide +kernel) rfl ?_
  refine q_iconst 128 rfl (show sCode 82 127 = some (.iconst 1, 1) by decide +kernel) ⟨by decide, by decide⟩ ?_
  refine q_isub 129 rfl (show sCode 82 128 = some (.isub, 1) by decide +kernel) h2 ?_
  refine q_lald 130 rfl (show sCode 82 129 = some (.laload, 1) by decide +kernel) h3 ?_
  refine q_lsub 131 rfl (show sCode 82 130 = some (.lsub, 1) by decide +kernel) ?_
  refine q_last 132 rfl (show sCode 82 131 = some (.lastore, 1) by decide +kernel) h4 ?_
  refine q_goto 244 (by decide) (show sCode 82 132 = some (.goto 112, 3) by decide +kernel) ?_
  exact kk
theorem b82_135 {d : Nat} {Q : Option sV → sM → sG → Prop} {M : sM} {G : sG} {a0 : Nat} {a1 : Nat} {a3 : Nat} {x4 : Int} {x5 : Int} {x6 : Int} {x7 : Int} {x8 : Int} {x9 : Int} {x10 : Int}  (k1 : x9 = 12 → sW (sC d) 82 Q 149 [vO 0 a0, vQ 6 a1, vN, vO 10 a3, vI x4, vI x5, vI x6, vI x7, vI x8, vI x9, vI x10] [] M G 0 0) (k2 : x9 ≠ 12 → sW (sC d) 82 Q 142 [vO 0 a0, vQ 6 a1, vN, vO 10 a3, vI x4, vI x5, vI x6, vI x7, vI x8, vI x9, vI x10] [] M G 0 0) : sW (sC d) 82 Q 135 [vO 0 a0, vQ 6 a1, vN, vO 10 a3, vI x4, vI x5, vI x6, vI x7, vI x8, vI x9, vI x10] [] M G 0 0 := by
  refine q_iload 137 rfl (show sCode 82 135 = some (.iload 9, 2) by decide +kernel) rfl ?_
  refine q_bipush 139 rfl (show sCode 82 137 = some (.bipush 12, 2) by decide +kernel) ⟨by decide, by decide⟩ (by decide +kernel) ?_
  refine q_icmpeq 149 142 rfl (by decide) (show sCode 82 139 = some (.if_icmp .eq 10, 3) by decide +kernel) ?_ ?_
  · intro q; exact k1 q
  · intro q; exact k2 q
theorem b82_142 {d : Nat} {Q : Option sV → sM → sG → Prop} {M : sM} {G : sG} {a0 : Nat} {a1 : Nat} {a3 : Nat} {x4 : Int} {x5 : Int} {x6 : Int} {x7 : Int} {x8 : Int} {x9 : Int} {x10 : Int}  (k1 : x9 ≠ 13 → sW (sC d) 82 Q 203 [vO 0 a0, vQ 6 a1, vN, vO 10 a3, vI x4, vI x5, vI x6, vI x7, vI x8, vI x9, vN] [] M G 0 0) (k2 : x9 = 13 → sW (sC d) 82 Q 149 [vO 0 a0, vQ 6 a1, vN, vO 10 a3, vI x4, vI x5, vI x6, vI x7, vI x8, vI x9, vI x10] [] M G 0 0) : sW (sC d) 82 Q 142 [vO 0 a0, vQ 6 a1, vN, vO 10 a3, vI x4, vI x5, vI x6, vI x7, vI x8, vI x9, vI x10] [] M G 0 0 := by
  refine q_iload 144 rfl (show sCode 82 142 = some (.iload 9, 2) by decide +kernel) rfl ?_
  refine q_bipush 146 rfl (show sCode 82 144 = some (.bipush 13, 2) by decide +kernel) ⟨by decide, by decide⟩ (by decide +kernel) ?_
  refine q_icmpne 203 149 rfl (by decide) (show sCode 82 146 = some (.if_icmp .ne 57, 3) by decide +kernel) ?_ ?_
  · intro q; refine q_forget (L' := [vO 0 a0, vQ 6 a1, vN, vO 10 a3, vI x4, vI x5, vI x6, vI x7, vI x8, vI x9, vN]) 10 rfl ?_; exact k1 q
  · intro q; exact k2 q
theorem b82_149 {d : Nat} {Q : Option sV → sM → sG → Prop} {M : sM} {G : sG} {a0 : Nat} {a1 : Nat} {a3 : Nat} {x4 : Int} {x5 : Int} {x6 : Int} {x7 : Int} {x8 : Int} {x9 : Int} {x10 : Int} (h1 : sI (x6 - 1)) (h2 : 0 ≤ x6 - 1 ∧ x6 - 1 < 64) (k1 : M (a0 + 1) (x6 - 1).toNat = 0 → sW (sC d) 82 Q 167 [vO 0 a0, vQ 6 a1, vN, vO 10 a3, vI x4, vI x5, vI x6, vI x7, vI x8, vI x9, vI x10] [] M G 0 0) (k2 : M (a0 + 1) (x6 - 1).toNat ≠ 0 → sW (sC d) 82 Q 163 [vO 0 a0, vQ 6 a1, vN, vO 10 a3, vI x4, vI x5, vI x6, vI x7, vI x8, vI x9, vI x10] [] M G 0 0) : sW (sC d) 82 Q 149 [vO 0 a0, vQ 6 a1, vN, vO 10 a3, vI x4, vI x5, vI x6, vI x7, vI x8, vI x9, vI x10] [] M G 0 0 := by
  refine q_aload_n 150 rfl (show sCode 82 149 = some (.aload_n 0, 1) by decide +kernel) rfl (Nat.le_of_ble_eq_true rfl) ?_
  refine q_getR (vA 1 (a0 + 1) 64) 153 rfl (show sCode 82 150 = some (.getfield 11, 3) by decide +kernel) (show sFR (sKo 82).1 11 = some (0, 0) by decide +kernel) (by decide +kernel) (Or.inl (Or.inl rfl)) rfl ?_
  refine q_iload 155 rfl (show sCode 82 153 = some (.iload 6, 2) by decide +kernel) rfl ?_
  refine q_iconst 156 rfl (show sCode 82 155 = some (.iconst 1, 1) by decide +kernel) ⟨by decide, by decide⟩ ?_
  refine q_isub 157 rfl (show sCode 82 156 = some (.isub, 1) by decide +kernel) h1 ?_
  refine q_lald 158 rfl (show sCode 82 157 = some (.laload, 1) by decide +kernel) h2 ?_
  refine q_lconst 159 rfl (show sCode 82 158 = some (.lconst 0, 1) by decide +kernel) ?_
  refine q_lifeq (off := 7) 167 163 rfl (by decide) (show sCode 82 159 = some (.lcmp, 1) by decide +kernel) (by decide +kernel) ?_ ?_
  · intro q; exact k1 q
  · intro q; exact k2 q
theorem b82_163 {d : Nat} {Q : Option sV → sM → sG → Prop} {M : sM} {G : sG} {a0 : Nat} {a1 : Nat} {a3 : Nat} {x4 : Int} {x5 : Int} {x6 : Int} {x7 : Int} {x8 : Int} {x9 : Int} {x10 : Int}  (kk : sW (sC d) 82 Q 168 [vO 0 a0, vQ 6 a1, vN, vO 10 a3, vI x4, vI x5, vI x6, vI x7, vI x8, vI x9, vI x10] [vI 1] M G 0 0) : sW (sC d) 82 Q 163 [vO 0 a0, vQ 6 a1, vN, vO 10 a3, vI x4, vI x5, vI x6, vI x7, vI x8, vI x9, vI x10] [] M G 0 0 := by
  refine q_iconst 164 rfl (show sCode 82 163 = some (.iconst 1, 1) by decide +kernel) ⟨by decide, by decide⟩ ?_
  refine q_goto 168 (by decide) (show sCode 82 164 = some (.goto 4, 3) by decide +kernel) ?_
  exact kk
theorem b82_167 {d : Nat} {Q : Option sV → sM → sG → Prop} {M : sM} {G : sG} {a0 : Nat} {a1 : Nat} {a3 : Nat} {x4 : Int} {x5 : Int} {x6 : Int} {x7 : Int} {x8 : Int} {x9 : Int} {x10 : Int}  (kk : sW (sC d) 82 Q 168 [vO 0 a0, vQ 6 a1, vN, vO 10 a3, vI x4, vI x5, vI x6, vI x7, vI x8, vI x9, vI x10] [vI 0] M G 0 0) : sW (sC d) 82 Q 167 [vO 0 a0, vQ 6 a1, vN, vO 10 a3, vI x4, vI x5, vI x6, vI x7, vI x8, vI x9, vI x10] [] M G 0 0 := by
  refine q_iconst 168 rfl (show sCode 82 167 = some (.iconst 0, 1) by decide +kernel) ⟨by decide, by decide⟩ ?_
  exact kk
theorem b82_168 {d : Nat} {Q : Option sV → sM → sG → Prop} {M : sM} {G : sG} {a0 : Nat} {a1 : Nat} {a3 : Nat} {x4 : Int} {x5 : Int} {x6 : Int} {x7 : Int} {x8 : Int} {x9 : Int} {x10 : Int} {s0 : Int}  (k1 : x9 ≠ 13 → sW (sC d) 82 Q 179 [vO 0 a0, vQ 6 a1, vN, vO 10 a3, vI x4, vI x5, vI x6, vI x7, vI x8, vN, vI x10] [vI s0] M G 0 0) (k2 : x9 = 13 → sW (sC d) 82 Q 175 [vO 0 a0, vQ 6 a1, vN, vO 10 a3, vI x4, vI x5, vI x6, vI x7, vI x8, vN, vI x10] [vI s0] M G 0 0) : sW (sC d) 82 Q 168 [vO 0 a0, vQ 6 a1, vN, vO 10 a3, vI x4, vI x5, vI x6, vI x7, vI x8, vI x9, vI x10] [vI s0] M G 0 0 := by
  refine q_iload 170 rfl (show sCode 82 168 = some (.iload 9, 2) by decide +kernel) rfl ?_
  refine q_bipush 172 rfl (show sCode 82 170 = some (.bipush 13, 2) by decide +kernel) ⟨by decide, by decide⟩ (by decide +kernel) ?_
  refine q_icmpne 179 175 rfl (by decide) (show sCode 82 172 = some (.if_icmp .ne 7, 3) by decide +kernel) ?_ ?_
  · intro q; refine q_forget (L' := [vO 0 a0, vQ 6 a1, vN, vO 10 a3, vI x4, vI x5, vI x6, vI x7, vI x8, vN, vI x10]) 9 rfl ?_; exact k1 q
  · intro q; refine q_forget (L' := [vO 0 a0, vQ 6 a1, vN, vO 10 a3, vI x4, vI x5, vI x6, vI x7, vI x8, vN, vI x10]) 9 rfl ?_; exact k2 q
theorem b82_175 {d : Nat} {Q : Option sV → sM → sG → Prop} {M : sM} {G : sG} {a0 : Nat} {a1 : Nat} {a3 : Nat} {x4 : Int} {x5 : Int} {x6 : Int} {x7 : Int} {x8 : Int} {x10 : Int} {s0 : Int}  (kk : sW (sC d) 82 Q 180 [vO 0 a0, vQ 6 a1, vN, vO 10 a3, vI x4, vI x5, vI x6, vI x7, vI x8, vN, vI x10] [vI 1, vI s0] M G 0 0) : sW (sC d) 82 Q 175 [vO 0 a0, vQ 6 a1, vN, vO 10 a3, vI x4, vI x5, vI x6, vI x7, vI x8, vN, vI x10] [vI s0] M G 0 0 := by
  refine q_iconst 176 rfl (show sCode 82 175 = some (.iconst 1, 1) by decide +kernel) ⟨by decide, by decide⟩ ?_
  refine q_goto 180 (by decide) (show sCode 82 176 = some (.goto 4, 3) by decide +kernel) ?_
  exact kk
theorem b82_179 {d : Nat} {Q : Option sV → sM → sG → Prop} {M : sM} {G : sG} {a0 : Nat} {a1 : Nat} {a3 : Nat} {x4 : Int} {x5 : Int} {x6 : Int} {x7 : Int} {x8 : Int} {x10 : Int} {s0 : Int}  (kk : sW (sC d) 82 Q 180 [vO 0 a0, vQ 6 a1, vN, vO 10 a3, vI x4, vI x5, vI x6, vI x7, vI x8, vN, vI x10] [vI 0, vI s0] M G 0 0) : sW (sC d) 82 Q 179 [vO 0 a0, vQ 6 a1, vN, vO 10 a3, vI x4, vI x5, vI x6, vI x7, vI x8, vN, vI x10] [vI s0] M G 0 0 := by
  refine q_iconst 180 rfl (show sCode 82 179 = some (.iconst 0, 1) by decide +kernel) ⟨by decide, by decide⟩ ?_
  exact kk
theorem b82_180 {d : Nat} {Q : Option sV → sM → sG → Prop} {M : sM} {G : sG} {a0 : Nat} {a1 : Nat} {a3 : Nat} {x4 : Int} {x5 : Int} {x6 : Int} {x7 : Int} {x8 : Int} {x10 : Int} {s0 : Int} {s1 : Int}  (k1 : s1 ≠ s0 → sW (sC d) 82 Q 197 [vO 0 a0, vQ 6 a1, vN, vO 10 a3, vI x4, vI x5, vI x6, vI x7, vI x8, vN, vN] [] M G 0 0) (k2 : s1 = s0 → sW (sC d) 82 Q 183 [vO 0 a0, vQ 6 a1, vN, vO 10 a3, vI x4, vI x5, vI x6, vI x7, vI x8, vN, vI x10] [] M G 0 0) : sW (sC d) 82 Q 180 [vO 0 a0, vQ 6 a1, vN, vO 10 a3, vI x4, vI x5, vI x6, vI x7, vI x8, vN, vI x10] [vI s0, vI s1] M G 0 0 := by
  refine q_icmpne 197 183 rfl (by decide) (show sCode 82 180 = some (.if_icmp .ne 17, 3) by decide +kernel) ?_ ?_
  · intro q; refine q_forget (L' := [vO 0 a0, vQ 6 a1, vN, vO 10 a3, vI x4, vI x5, vI x6, vI x7, vI x8, vN, vN]) 10 rfl ?_; exact k1 q
  · intro q; exact k2 q
theorem b82_183 {d : Nat} {Q : Option sV → sM → sG → Prop} {M : sM} {G : sG} {a0 : Nat} {a1 : Nat} {a3 : Nat} {x4 : Int} {x5 : Int} {x6 : Int} {x7 : Int} {x8 : Int} {x10 : Int} (h1 : sI (x10 - 1)) (kk : sW (sC d) 82 Q 244 [vO 0 a0, vQ 6 a1, vN, vO 10 a3, vI x4, vI x5, vI x6, vI x7, vI (if x8 < x10 - 1 then x10 - 1 else x8), vN, vN] [] M G 0 0) : sW (sC d) 82 Q 183 [vO 0 a0, vQ 6 a1, vN, vO 10 a3, vI x4, vI x5, vI x6, vI x7, vI x8, vN, vI x10] [] M G 0 0 := by
  refine q_iload 185 rfl (show sCode 82 183 = some (.iload 8, 2) by decide +kernel) rfl ?_
  refine q_iload 187 rfl (show sCode 82 185 = some (.iload 10, 2) by decide +kernel) rfl ?_
  refine q_iconst 188 rfl (show sCode 82 187 = some (.iconst 1, 1) by decide +kernel) ⟨by decide, by decide⟩ ?_
  refine q_isub 189 rfl (show sCode 82 188 = some (.isub, 1) by decide +kernel) h1 ?_
  refine q_max 192 rfl (show sCode 82 189 = some (.invokestatic 111, 3) by decide +kernel) (by decide +kernel) (Nat.le_of_ble_eq_true rfl) ?_
  refine q_istore [vO 0 a0, vQ 6 a1, vN, vO 10 a3, vI x4, vI x5, vI x6, vI x7, vI (if x8 < x10 - 1 then x10 - 1 else x8), vN, vI x10] 194 rfl (show sCode 82 192 = some (.istore 8, 2) by decide +kernel) (Nat.lt_of_lt_of_le (Nat.lt_succ_self _) (Nat.le_of_ble_eq_true rfl)) rfl rfl ?_
  refine q_goto 244 (by decide) (show sCode 82 194 = some (.goto 50, 3) by decide +kernel) ?_
  refine q_forget (L' := [vO 0 a0, vQ 6 a1, vN, vO 10 a3, vI x4, vI x5, vI x6, vI x7, vI (if x8 < x10 - 1 then x10 - 1 else x8), vN, vN]) 10 rfl ?_
  exact kk
theorem b82_197 {d : Nat} {Q : Option sV → sM → sG → Prop} {M : sM} {G : sG} {a0 : Nat} {a1 : Nat} {a3 : Nat} {x4 : Int} {x5 : Int} {x6 : Int} {x7 : Int} {x8 : Int} (h1 : sI (x6 + (-1))) (kk : sW (sC d) 82 Q 244 [vO 0 a0, vQ 6 a1, vN, vO 10 a3, vI x4, vI x5, vI (x6 + (-1)), vI x7, vI x8, vN, vN] [] M G 0 0) : sW (sC d) 82 Q 197 [vO 0 a0, vQ 6 a1, vN, vO 10 a3, vI x4, vI x5, vI x6, vI x7, vI x8, vN, vN] [] M G 0 0 := by
  refine q_iinc [vO 0 a0, vQ 6 a1, vN, vO 10 a3, vI x4, vI x5, vI (x6 + (-1)), vI x7, vI x8, vN, vN] 200 rfl (show sCode 82 197 = some (.iinc 6 (-1), 3) by decide +kernel) rfl rfl h1 rfl ?_
  refine q_goto 244 (by decide) (show sCode 82 200 = some (.goto 44, 3) by decide +kernel) ?_
  exact kk
theorem b82_203 {d : Nat} {Q : Option sV → sM → sG → Prop} {M : sM} {G : sG} {a0 : Nat} {a1 : Nat} {a3 : Nat} {x4 : Int} {x5 : Int} {x6 : Int} {x7 : Int} {x8 : Int} {x9 : Int}  (k1 : 2 ≤ x6 → sW (sC d) 82 Q 211 [vO 0 a0, vQ 6 a1, vN, vO 10 a3, vI x4, vI x5, vI x6, vI x7, vI x8, vI x9, vN] [] M G 0 0) (k2 : x6 < 2 → sW (sC d) 82 Q 209 [vN, vN, vN, vN, vN, vN, vN, vN, vN, vN, vN] [] M G 0 0) : sW (sC d) 82 Q 203 [vO 0 a0, vQ 6 a1, vN, vO 10 a3, vI x4, vI x5, vI x6, vI x7, vI x8, vI x9, vN] [] M G 0 0 := by
  refine q_iload 205 rfl (show sCode 82 203 = some (.iload 6, 2) by decide +kernel) rfl ?_
  refine q_iconst 206 rfl (show sCode 82 205 = some (.iconst 2, 1) by decide +kernel) ⟨by decide, by decide⟩ ?_
  refine q_icmpge 211 209 rfl (by decide) (show sCode 82 206 = some (.if_icmp .ge 5, 3) by decide +kernel) ?_ ?_
  · intro q; exact k1 q
  · intro q; refine q_forget (L' := [vN, vQ 6 a1, vN, vO 10 a3, vI x4, vI x5, vI x6, vI x7, vI x8, vI x9, vN]) 0 rfl ?_; refine q_forget (L' := [vN, vN, vN, vO 10 a3, vI x4, vI x5, vI x6, vI x7, vI x8, vI x9, vN]) 1 rfl ?_; refine q_forget (L' := [vN, vN, vN, vN, vI x4, vI x5, vI x6, vI x7, vI x8, vI x9, vN]) 3 rfl ?_; refine q_forget (L' := [vN, vN, vN, vN, vN, vI x5, vI x6, vI x7, vI x8, vI x9, vN]) 4 rfl ?_; refine q_forget (L' := [vN, vN, vN, vN, vN, vN, vI x6, vI x7, vI x8, vI x9, vN]) 5 rfl ?_; refine q_forget (L' := [vN, vN, vN, vN, vN, vN, vN, vI x7, vI x8, vI x9, vN]) 6 rfl ?_; refine q_forget (L' := [vN, vN, vN, vN, vN, vN, vN, vN, vI x8, vI x9, vN]) 7 rfl ?_; refine q_forget (L' := [vN, vN, vN, vN, vN, vN, vN, vN, vN, vI x9, vN]) 8 rfl ?_; refine q_forget (L' := [vN, vN, vN, vN, vN, vN, vN, vN, vN, vN, vN]) 9 rfl ?_; exact k2 q
theorem b82_209 {d : Nat} {P : Int → sM → sG → Prop} {M : sM} {G : sG}   (kk : P 0 M G) : sW (sC d) 82 (QI P) 209 [vN, vN, vN, vN, vN, vN, vN, vN, vN, vN, vN] [] M G 0 0 := by
  refine q_iconst 210 rfl (show sCode 82 209 = some (.iconst 0, 1) by decide +kernel) ⟨by decide, by decide⟩ ?_
  exact q_zret (show sCode 82 210 = some (.ireturn, 1) by decide +kernel) (by decide +kernel) (by decide) (by decide +kernel) kk
theorem b82_211 {d : Nat} {Q : Option sV → sM → sG → Prop} {M : sM} {G : sG} {a0 : Nat} {a1 : Nat} {a3 : Nat} {x4 : Int} {x5 : Int} {x6 : Int} {x7 : Int} {x8 : Int} {x9 : Int} (h1 : sI (x6 + (-1))) (h2 : sI ((x6 + (-1)) - 1)) (h3 : sI ((x6 + (-1)) - 1)) (h4 : 0 ≤ (x6 + (-1)) - 1 ∧ (x6 + (-1)) - 1 < 64) (h5 : 0 ≤ x6 + (-1) ∧ x6 + (-1) < 64) (kk : sC d 85 [vI x9, vL (M (a0 + 1) ((x6 + (-1)) - 1).toNat), vL (M (a0 + 1) (x6 + (-1)).toNat)] M G (QL (fun r M1 G1 => sW (sC d) 82 Q 243 [vO 0 a0, vQ 6 a1, vN, vO 10 a3, vI x4, vI x5, vI (x6 + (-1)), vI x7, vI x8, vN, vN] (vL r :: [vI ((x6 + (-1)) - 1), vA 1 (a0 + 1) 64]) M1 G1 0 0))) : sW (sC d) 82 Q 211 [vO 0 a0, vQ 6 a1, vN, vO 10 a3, vI x4, vI x5, vI x6, vI x7, vI x8, vI x9, vN] [] M G 0 0 := by
  refine q_iinc [vO 0 a0, vQ 6 a1, vN, vO 10 a3, vI x4, vI x5, vI (x6 + (-1)), vI x7, vI x8, vI x9, vN] 214 rfl (show sCode 82 211 = some (.iinc 6 (-1), 3) by decide +kernel) rfl rfl h1 rfl ?_
  refine q_aload_n 215 rfl (show sCode 82 214 = some (.aload_n 0, 1) by decide +kernel) rfl (Nat.le_of_ble_eq_true rfl) ?_
  refine q_getR (vA 1 (a0 + 1) 64) 218 rfl (show sCode 82 215 = some (.getfield 11, 3) by decide +kernel) (show sFR (sKo 82).1 11 = some (0, 0) by decide +kernel) (by decide +kernel) (Or.inl (Or.inl rfl)) rfl ?_
  refine q_iload 220 rfl (show sCode 82 218 = some (.iload 6, 2) by decide +kernel) rfl ?_
  refine q_iconst 221 rfl (show sCode 82 220 = some (.iconst 1, 1) by decide +kernel) ⟨by decide, by decide⟩ ?_
  refine q_isub 222 rfl (show sCode 82 221 = some (.isub, 1) by decide +kernel) h2 ?_
  refine q_iload 224 rfl (show sCode 82 222 = some (.iload 9, 2) by decide +kernel) rfl ?_
  refine q_aload_n 225 rfl (show sCode 82 224 = some (.aload_n 0, 1) by decide +kernel) rfl (Nat.le_of_ble_eq_true rfl) ?_
  refine q_getR (vA 1 (a0 + 1) 64) 228 rfl (show sCode 82 225 = some (.getfield 11, 3) by decide +kernel) (show sFR (sKo 82).1 11 = some (0, 0) by decide +kernel) (by decide +kernel) (Or.inl (Or.inl rfl)) rfl ?_
  refine q_iload 230 rfl (show sCode 82 228 = some (.iload 6, 2) by decide +kernel) rfl ?_
  refine q_iconst 231 rfl (show sCode 82 230 = some (.iconst 1, 1) by decide +kernel) ⟨by decide, by decide⟩ ?_
  refine q_isub 232 rfl (show sCode 82 231 = some (.isub, 1) by decide +kernel) h3 ?_
  refine q_lald 233 rfl (show sCode 82 232 = some (.laload, 1) by decide +kernel) h4 ?_
  refine q_aload_n 234 rfl (show sCode 82 233 = some (.aload_n 0, 1) by decide +kernel) rfl (Nat.le_of_ble_eq_true rfl) ?_
  refine q_getR (vA 1 (a0 + 1) 64) 237 rfl (show sCode 82 234 = some (.getfield 11, 3) by decide +kernel) (show sFR (sKo 82).1 11 = some (0, 0) by decide +kernel) (by decide +kernel) (Or.inl (Or.inl rfl)) rfl ?_
  refine q_iload 239 rfl (show sCode 82 237 = some (.iload 6, 2) by decide +kernel) rfl ?_
  refine q_lald 240 rfl (show sCode 82 239 = some (.laload, 1) by decide +kernel) h5 ?_
  refine q_forget (L' := [vO 0 a0, vQ 6 a1, vN, vO 10 a3, vI x4, vI x5, vI (x6 + (-1)), vI x7, vI x8, vN, vN]) 9 rfl ?_
  exact q_statL [vI x9, vL (M (a0 + 1) ((x6 + (-1)) - 1).toNat), vL (M (a0 + 1) (x6 + (-1)).toNat)] 243 rfl (show sCode 82 240 = some (.invokestatic 117, 3) by decide +kernel) (show sMR (sKo 82).1 117 = some 85 by decide +kernel) (show 85 < 1000 ∧ sStat 85 = true ∧ sKo 85 = (0, 3, 3, 0, 0) by decide +kernel) rfl rfl (Nat.le_of_ble_eq_true rfl) rfl rfl rfl (by decide +kernel) kk
theorem b82_243 {d : Nat} {Q : Option sV → sM → sG → Prop} {M : sM} {G : sG} {a0 : Nat} {a1 : Nat} {a3 : Nat} {x4 : Int} {x5 : Int} {x6 : Int} {x7 : Int} {x8 : Int} {s0 : Int} {s1 : Int} {sa2 : Nat} (h1 : 0 ≤ s1 ∧ s1 < 64) (kk : sW (sC d) 82 Q 244 [vO 0 a0, vQ 6 a1, vN, vO 10 a3, vI x4, vI x5, vI x6, vI x7, vI x8, vN, vN] [] (sUpd M sa2 s1.toNat s0) G 0 0) : sW (sC d) 82 Q 243 [vO 0 a0, vQ 6 a1, vN, vO 10 a3, vI x4, vI x5, vI x6, vI x7, vI x8, vN, vN] [vL s0, vI s1, vA 1 sa2 64] M G 0 0 := by
  refine q_last 244 rfl (show sCode 82 243 = some (.lastore, 1) by decide +kernel) h1 ?_
  exact kk
theorem b82_244 {d : Nat} {Q : Option sV → sM → sG → Prop} {M : sM} {G : sG} {a0 : Nat} {a1 : Nat} {a3 : Nat} {x4 : Int} {x5 : Int} {x6 : Int} {x7 : Int} {x8 : Int} (h1 : sI (x8 + 1)) (kk : sW (sC d) 82 Q 18 [vO 0 a0, vQ 6 a1, vN, vO 10 a3, vI x4, vI x5, vI x6, vI x7, vI (x8 + 1), vN, vN] [] M G 0 0) : sW (sC d) 82 Q 244 [vO 0 a0, vQ 6 a1, vN, vO 10 a3, vI x4, vI x5, vI x6, vI x7, vI x8, vN, vN] [] M G 0 0 := by
  refine q_iinc [vO 0 a0, vQ 6 a1, vN, vO 10 a3, vI x4, vI x5, vI x6, vI x7, vI (x8 + 1), vN, vN] 247 rfl (show sCode 82 244 = some (.iinc 8 1, 3) by decide +kernel) rfl rfl h1 rfl ?_
  refine q_goto 18 (by decide) (show sCode 82 247 = some (.goto (-229), 3) by decide +kernel) ?_
  exact kk
theorem b82_250 {d : Nat} {Q : Option sV → sM → sG → Prop} {M : sM} {G : sG} {a0 : Nat} {x6 : Int}  (k1 : x6 ≤ 0 → sW (sC d) 82 Q 273 [vN, vN, vN, vN, vN, vN, vN, vN, vN, vN, vN] [] M G 0 0) (k2 : 0 < x6 → sW (sC d) 82 Q 255 [vO 0 a0, vN, vN, vN, vN, vN, vI x6, vN, vN, vN, vN] [] M G 0 0) : sW (sC d) 82 Q 250 [vO 0 a0, vN, vN, vN, vN, vN, vI x6, vN, vN, vN, vN] [] M G 0 0 := by
  refine q_iload 252 rfl (show sCode 82 250 = some (.iload 6, 2) by decide +kernel) rfl ?_
  refine q_ifle 273 255 rfl (by decide) (show sCode 82 252 = some (.ifCond .le 21, 3) by decide +kernel) ?_ ?_
  · intro q; refine q_forget (L' := [vN, vN, vN, vN, vN, vN, vI x6, vN, vN, vN, vN]) 0 rfl ?_; refine q_forget (L' := [vN, vN, vN, vN, vN, vN, vN, vN, vN, vN, vN]) 6 rfl ?_; exact k1 q
  · intro q; exact k2 q
theorem b82_255 {d : Nat} {Q : Option sV → sM → sG → Prop} {M : sM} {G : sG} {a0 : Nat} {x6 : Int} (h1 : sI (x6 - 1)) (h2 : 0 ≤ x6 - 1 ∧ x6 - 1 < 64) (k1 : M (a0 + 1) (x6 - 1).toNat = 0 → sW (sC d) 82 Q 273 [vN, vN, vN, vN, vN, vN, vN, vN, vN, vN, vN] [] M G 0 0) (k2 : M (a0 + 1) (x6 - 1).toNat ≠ 0 → sW (sC d) 82 Q 269 [vN, vN, vN, vN, vN, vN, vN, vN, vN, vN, vN] [] M G 0 0) : sW (sC d) 82 Q 255 [vO 0 a0, vN, vN, vN, vN, vN, vI x6, vN, vN, vN, vN] [] M G 0 0 := by
  refine q_aload_n 256 rfl (show sCode 82 255 = some (.aload_n 0, 1) by decide +kernel) rfl (Nat.le_of_ble_eq_true rfl) ?_
  refine q_getR (vA 1 (a0 + 1) 64) 259 rfl (show sCode 82 256 = some (.getfield 11, 3) by decide +kernel) (show sFR (sKo 82).1 11 = some (0, 0) by decide +kernel) (by decide +kernel) (Or.inl (Or.inl rfl)) rfl ?_
  refine q_iload 261 rfl (show sCode 82 259 = some (.iload 6, 2) by decide +kernel) rfl ?_
  refine q_iconst 262 rfl (show sCode 82 261 = some (.iconst 1, 1) by decide +kernel) ⟨by decide, by decide⟩ ?_
  refine q_isub 263 rfl (show sCode 82 262 = some (.isub, 1) by decide +kernel) h1 ?_
  refine q_lald 264 rfl (show sCode 82 263 = some (.laload, 1) by decide +kernel) h2 ?_
  refine q_lconst 265 rfl (show sCode 82 264 = some (.lconst 0, 1) by decide +kernel) ?_
  refine q_lifeq (off := 7) 273 269 rfl (by decide) (show sCode 82 265 = some (.lcmp, 1) by decide +kernel) (by decide +kernel) ?_ ?_
  · intro q; refine q_forget (L' := [vN, vN, vN, vN, vN, vN, vI x6, vN, vN, vN, vN]) 0 rfl ?_; refine q_forget (L' := [vN, vN, vN, vN, vN, vN, vN, vN, vN, vN, vN]) 6 rfl ?_; exact k1 q
  · intro q; refine q_forget (L' := [vN, vN, vN, vN, vN, vN, vI x6, vN, vN, vN, vN]) 0 rfl ?_; refine q_forget (L' := [vN, vN, vN, vN, vN, vN, vN, vN, vN, vN, vN]) 6 rfl ?_; exact k2 q
theorem b82_269 {d : Nat} {Q : Option sV → sM → sG → Prop} {M : sM} {G : sG}   (kk : sW (sC d) 82 Q 274 [vN, vN, vN, vN, vN, vN, vN, vN, vN, vN, vN] [vI 1] M G 0 0) : sW (sC d) 82 Q 269 [vN, vN, vN, vN, vN, vN, vN, vN, vN, vN, vN] [] M G 0 0 := by
  refine q_iconst 270 rfl (show sCode 82 269 = some (.iconst 1, 1) by decide +kernel) ⟨by decide, by decide⟩ ?_
  refine q_goto 274 (by decide) (show sCode 82 270 = some (.goto 4, 3) by decide +kernel) ?_
  exact kk
theorem b82_273 {d : Nat} {Q : Option sV → sM → sG → Prop} {M : sM} {G : sG}   (kk : sW (sC d) 82 Q 274 [vN, vN, vN, vN, vN, vN, vN, vN, vN, vN, vN] [vI 0] M G 0 0) : sW (sC d) 82 Q 273 [vN, vN, vN, vN, vN, vN, vN, vN, vN, vN, vN] [] M G 0 0 := by
  refine q_iconst 274 rfl (show sCode 82 273 = some (.iconst 0, 1) by decide +kernel) ⟨by decide, by decide⟩ ?_
  exact kk
theorem b82_274 {d : Nat} {P : Int → sM → sG → Prop} {M : sM} {G : sG} {s0 : Int}  (h01 : s0 = 0 ∨ s0 = 1) (kk : P s0 M G) : sW (sC d) 82 (QI P) 274 [vN, vN, vN, vN, vN, vN, vN, vN, vN, vN, vN] [vI s0] M G 0 0 := by
  exact q_zret (show sCode 82 274 = some (.ireturn, 1) by decide +kernel) (by decide +kernel) h01 (by decide +kernel) kk
-- 84 AfterTheLast$Clock.wordValue (ILAfterTheLast$Town;II)J
theorem b84_0 {d : Nat} {Q : Option sV → sM → sG → Prop} {M : sM} {G : sG} {x0 : Int} {a1 : Nat} {x2 : Int} {x3 : Int}  (kk : sC d 61 [vI x2] M G (QI (fun r M1 G1 => sW (sC d) 84 Q 4 [vI x0, vO 10 a1, vI x2, vI x3, vN] (vI r :: []) M1 G1 0 0))) : sW (sC d) 84 Q 0 [vI x0, vO 10 a1, vI x2, vI x3, vN] [] M G 0 0 := by
  refine q_iload_n 1 rfl (show sCode 84 0 = some (.iload_n 2, 1) by decide +kernel) rfl ?_
  exact q_statI [vI x2] 4 rfl (show sCode 84 1 = some (.invokestatic 121, 3) by decide +kernel) (show sMR (sKo 84).1 121 = some 61 by decide +kernel) (show 61 < 1000 ∧ sStat 61 = true ∧ sKo 61 = (11, 1, 2, 0, 0) by decide +kernel) rfl rfl (Nat.le_of_ble_eq_true rfl) rfl rfl rfl (by decide +kernel) kk
theorem b84_4 {d : Nat} {Q : Option sV → sM → sG → Prop} {M : sM} {G : sG} {x0 : Int} {a1 : Nat} {x2 : Int} {x3 : Int} {s0 : Int}  (k1 : s0 = 0 → sW (sC d) 84 Q 15 [vN, vN, vN, vN, vN] [] M G 0 0) (k2 : s0 ≠ 0 → sW (sC d) 84 Q 7 [vI x0, vO 10 a1, vI x2, vI x3, vN] [] M G 0 0) : sW (sC d) 84 Q 4 [vI x0, vO 10 a1, vI x2, vI x3, vN] [vI s0] M G 0 0 := by
  refine q_ifeq 15 7 rfl (by decide) (show sCode 84 4 = some (.ifCond .eq 11, 3) by decide +kernel) ?_ ?_
  · intro q; refine q_forget (L' := [vN, vO 10 a1, vI x2, vI x3, vN]) 0 rfl ?_; refine q_forget (L' := [vN, vN, vI x2, vI x3, vN]) 1 rfl ?_; refine q_forget (L' := [vN, vN, vN, vI x3, vN]) 2 rfl ?_; refine q_forget (L' := [vN, vN, vN, vN, vN]) 3 rfl ?_; exact k1 q
  · intro q; exact k2 q
theorem b84_7 {d : Nat} {Q : Option sV → sM → sG → Prop} {M : sM} {G : sG} {x0 : Int} {a1 : Nat} {x2 : Int} {x3 : Int}  (kk : sC d 59 [vO 10 a1, vI x3] M G (QI (fun r M1 G1 => sW (sC d) 84 Q 12 [vI x0, vO 10 a1, vI x2, vI x3, vN] (vI r :: []) M1 G1 0 0))) : sW (sC d) 84 Q 7 [vI x0, vO 10 a1, vI x2, vI x3, vN] [] M G 0 0 := by
  refine q_aload_n 8 rfl (show sCode 84 7 = some (.aload_n 1, 1) by decide +kernel) rfl (Nat.le_of_ble_eq_true rfl) ?_
  refine q_iload_n 9 rfl (show sCode 84 8 = some (.iload_n 3, 1) by decide +kernel) rfl ?_
  exact q_virtI [vI x3] 12 rfl (show sCode 84 9 = some (.invokevirtual 124, 3) by decide +kernel) (show sMR (sKo 84).1 124 = some 59 by decide +kernel) (show 59 < 1000 ∧ sStat 59 = false ∧ sIni 59 = false ∧ sKo 59 = (10, 1, 2, 0, 0) by decide +kernel) rfl (Or.inl rfl) rfl (Nat.le_of_ble_eq_true rfl) rfl rfl rfl (by decide +kernel) kk
theorem b84_12 {d : Nat} {Q : Option sV → sM → sG → Prop} {M : sM} {G : sG} {x0 : Int} {a1 : Nat} {x2 : Int} {x3 : Int} {s0 : Int}  (k1 : s0 ≠ 0 → sW (sC d) 84 Q 17 [vI x0, vO 10 a1, vI x2, vI x3, vN] [] M G 0 0) (k2 : s0 = 0 → sW (sC d) 84 Q 15 [vN, vN, vN, vN, vN] [] M G 0 0) : sW (sC d) 84 Q 12 [vI x0, vO 10 a1, vI x2, vI x3, vN] [vI s0] M G 0 0 := by
  refine q_ifne 17 15 rfl (by decide) (show sCode 84 12 = some (.ifCond .ne 5, 3) by decide +kernel) ?_ ?_
  · intro q; exact k1 q
  · intro q; refine q_forget (L' := [vN, vO 10 a1, vI x2, vI x3, vN]) 0 rfl ?_; refine q_forget (L' := [vN, vN, vI x2, vI x3, vN]) 1 rfl ?_; refine q_forget (L' := [vN, vN, vN, vI x3, vN]) 2 rfl ?_; refine q_forget (L' := [vN, vN, vN, vN, vN]) 3 rfl ?_; exact k2 q
theorem b84_15 {d : Nat} {P : Int → sM → sG → Prop} {M : sM} {G : sG}   (kk : P 0 M G) : sW (sC d) 84 (QL P) 15 [vN, vN, vN, vN, vN] [] M G 0 0 := by
  refine q_lconst 16 rfl (show sCode 84 15 = some (.lconst 0, 1) by decide +kernel) ?_
  exact q_lret (show sCode 84 16 = some (.lreturn, 1) by decide +kernel) (by decide +kernel) (by decide +kernel) kk
theorem b84_17 {d : Nat} {Q : Option sV → sM → sG → Prop} {M : sM} {G : sG} {x0 : Int} {a1 : Nat} {x2 : Int} {x3 : Int} (h1 : 0 ≤ x3 ∧ x3 < 18) (kd : x0 < 0 ∨ 8 < x0 → sW (sC d) 84 Q 162 [vN, vO 10 a1, vN, vI x3, vN] [] M G 0 0) (k0 : x0 = 0 → sW (sC d) 84 Q 76 [vN, vO 10 a1, vN, vN, vN] [] M G 0 0) (k1 : x0 = 1 → sW (sC d) 84 Q 82 [vN, vN, vI x2, vN, vN] [] M G 0 0) (k2 : x0 = 2 → sW (sC d) 84 Q 85 [vN, vN, vN, vN, vI (M (a1 + 7) x3.toNat)] [] M G 0 0) (k3 : x0 = 3 → sW (sC d) 84 Q 89 [vN, vO 10 a1, vN, vN, vI (M (a1 + 7) x3.toNat)] [] M G 0 0) (k4 : x0 = 4 → sW (sC d) 84 Q 98 [vN, vO 10 a1, vI x2, vN, vI (M (a1 + 7) x3.toNat)] [] M G 0 0) (k5 : x0 = 5 → sW (sC d) 84 Q 120 [vN, vO 10 a1, vN, vN, vI (M (a1 + 7) x3.toNat)] [] M G 0 0) (k6 : x0 = 6 → sW (sC d) 84 Q 128 [vN, vO 10 a1, vN, vN, vI (M (a1 + 7) x3.toNat)] [] M G 0 0) (k7 : x0 = 7 → sW (sC d) 84 Q 137 [vN, vO 10 a1, vN, vI x3, vN] [] M G 0 0) (k8 : x0 = 8 → sW (sC d) 84 Q 145 [vN, vO 10 a1, vN, vI x3, vN] [] M G 0 0) : sW (sC d) 84 Q 17 [vI x0, vO 10 a1, vI x2, vI x3, vN] [] M G 0 0 := by
  refine q_aload_n 18 rfl (show sCode 84 17 = some (.aload_n 1, 1) by decide +kernel) rfl (Nat.le_of_ble_eq_true rfl) ?_
  refine q_getR (vA 0 (a1 + 7) 18) 21 rfl (show sCode 84 18 = some (.getfield 72, 3) by decide +kernel) (show sFR (sKo 84).1 72 = some (10, 8) by decide +kernel) (by decide +kernel) (Or.inl (Or.inl rfl)) rfl ?_
  refine q_iload_n 22 rfl (show sCode 84 21 = some (.iload_n 3, 1) by decide +kernel) rfl ?_
  refine q_iald 23 rfl (show sCode 84 22 = some (.iaload, 1) by decide +kernel) h1 ?_
  refine q_istore [vI x0, vO 10 a1, vI x2, vI x3, vI (M (a1 + 7) x3.toNat)] 25 rfl (show sCode 84 23 = some (.istore 4, 2) by decide +kernel) (Nat.lt_of_lt_of_le (Nat.lt_succ_self _) (Nat.le_of_ble_eq_true rfl)) rfl rfl ?_
  refine q_iload_n 26 rfl (show sCode 84 25 = some (.iload_n 0, 1) by decide +kernel) rfl ?_
  refine q_switch (show sCode 84 26 = some (.tableswitch 136 0 8 #[50, 56, 59, 63, 72, 94, 102, 111, 119], 50) by decide +kernel) (fun q => ⟨162, by decide, ?_⟩) (fun q1 q2 => ?_)
  · refine q_forget (L' := [vN, vO 10 a1, vI x2, vI x3, vI (M (a1 + 7) x3.toNat)]) 0 rfl ?_; refine q_forget (L' := [vN, vO 10 a1, vN, vI x3, vI (M (a1 + 7) x3.toNat)]) 2 rfl ?_; refine q_forget (L' := [vN, vO 10 a1, vN, vI x3, vN]) 4 rfl ?_; exact kd q
  · have q3 : x0 = 0 ∨ x0 = 1 ∨ x0 = 2 ∨ x0 = 3 ∨ x0 = 4 ∨ x0 = 5 ∨ x0 = 6 ∨ x0 = 7 ∨ x0 = 8 := by omega
    rcases q3 with q | q | q | q | q | q | q | q | q
    · refine ⟨50, 76, by rw [q]; rfl, by decide, ?_⟩; refine q_forget (L' := [vN, vO 10 a1, vI x2, vI x3, vI (M (a1 + 7) x3.toNat)]) 0 rfl ?_; refine q_forget (L' := [vN, vO 10 a1, vN, vI x3, vI (M (a1 + 7) x3.toNat)]) 2 rfl ?_; refine q_forget (L' := [vN, vO 10 a1, vN, vN, vI (M (a1 + 7) x3.toNat)]) 3 rfl ?_; refine q_forget (L' := [vN, vO 10 a1, vN, vN, vN]) 4 rfl ?_; exact k0 q
    · refine ⟨56, 82, by rw [q]; rfl, by decide, ?_⟩; refine q_forget (L' := [vN, vO 10 a1, vI x2, vI x3, vI (M (a1 + 7) x3.toNat)]) 0 rfl ?_; refine q_forget (L' := [vN, vN, vI x2, vI x3, vI (M (a1 + 7) x3.toNat)]) 1 rfl ?_; refine q_forget (L' := [vN, vN, vI x2, vN, vI (M (a1 + 7) x3.toNat)]) 3 rfl ?_; refine q_forget (L' := [vN, vN, vI x2, vN, vN]) 4 rfl ?_; exact k1 q
    · refine ⟨59, 85, by rw [q]; rfl, by decide, ?_⟩; refine q_forget (L' := [vN, vO 10 a1, vI x2, vI x3, vI (M (a1 + 7) x3.toNat)]) 0 rfl ?_; refine q_forget (L' := [vN, vN, vI x2, vI x3, vI (M (a1 + 7) x3.toNat)]) 1 rfl ?_; refine q_forget (L' := [vN, vN, vN, vI x3, vI (M (a1 + 7) x3.toNat)]) 2 rfl ?_; refine q_forget (L' := [vN, vN, vN, vN, vI (M (a1 + 7) x3.toNat)]) 3 rfl ?_; exact k2 q
    · refine ⟨63, 89, by rw [q]; rfl, by decide, ?_⟩; refine q_forget (L' := [vN, vO 10 a1, vI x2, vI x3, vI (M (a1 + 7) x3.toNat)]) 0 rfl ?_; refine q_forget (L' := [vN, vO 10 a1, vN, vI x3, vI (M (a1 + 7) x3.toNat)]) 2 rfl ?_; refine q_forget (L' := [vN, vO 10 a1, vN, vN, vI (M (a1 + 7) x3.toNat)]) 3 rfl ?_; exact k3 q
    · refine ⟨72, 98, by rw [q]; rfl, by decide, ?_⟩; refine q_forget (L' := [vN, vO 10 a1, vI x2, vI x3, vI (M (a1 + 7) x3.toNat)]) 0 rfl ?_; refine q_forget (L' := [vN, vO 10 a1, vI x2, vN, vI (M (a1 + 7) x3.toNat)]) 3 rfl ?_; exact k4 q
    · refine ⟨94, 120, by rw [q]; rfl, by decide, ?_⟩; refine q_forget (L' := [vN, vO 10 a1, vI x2, vI x3, vI (M (a1 + 7) x3.toNat)]) 0 rfl ?_; refine q_forget (L' := [vN, vO 10 a1, vN, vI x3, vI (M (a1 + 7) x3.toNat)]) 2 rfl ?_; refine q_forget (L' := [vN, vO 10 a1, vN, vN, vI (M (a1 + 7) x3.toNat)]) 3 rfl ?_; exact k5 q
    · refine ⟨102, 128, by rw [q]; rfl, by decide, ?_⟩; refine q_forget (L' := [vN, vO 10 a1, vI x2, vI x3, vI (M (a1 + 7) x3.toNat)]) 0 rfl ?_; refine q_forget (L' := [vN, vO 10 a1, vN, vI x3, vI (M (a1 + 7) x3.toNat)]) 2 rfl ?_; refine q_forget (L' := [vN, vO 10 a1, vN, vN, vI (M (a1 + 7) x3.toNat)]) 3 rfl ?_; exact k6 q
    · refine ⟨111, 137, by rw [q]; rfl, by decide, ?_⟩; refine q_forget (L' := [vN, vO 10 a1, vI x2, vI x3, vI (M (a1 + 7) x3.toNat)]) 0 rfl ?_; refine q_forget (L' := [vN, vO 10 a1, vN, vI x3, vI (M (a1 + 7) x3.toNat)]) 2 rfl ?_; refine q_forget (L' := [vN, vO 10 a1, vN, vI x3, vN]) 4 rfl ?_; exact k7 q
    · refine ⟨119, 145, by rw [q]; rfl, by decide, ?_⟩; refine q_forget (L' := [vN, vO 10 a1, vI x2, vI x3, vI (M (a1 + 7) x3.toNat)]) 0 rfl ?_; refine q_forget (L' := [vN, vO 10 a1, vN, vI x3, vI (M (a1 + 7) x3.toNat)]) 2 rfl ?_; refine q_forget (L' := [vN, vO 10 a1, vN, vI x3, vN]) 4 rfl ?_; exact k8 q
theorem b84_76 {d : Nat} {P : Int → sM → sG → Prop} {M : sM} {G : sG} {a1 : Nat}  (kk : P (M a1 13) M G) : sW (sC d) 84 (QL P) 76 [vN, vO 10 a1, vN, vN, vN] [] M G 0 0 := by
  refine q_aload_n 77 rfl (show sCode 84 76 = some (.aload_n 1, 1) by decide +kernel) rfl (Nat.le_of_ble_eq_true rfl) ?_
  refine q_getI 80 rfl (show sCode 84 77 = some (.getfield 33, 3) by decide +kernel) (show sFR (sKo 84).1 33 = some (10, 13) by decide +kernel) (by decide +kernel) (Or.inl (Or.inl rfl)) ?_
  refine q_i2l 81 rfl (show sCode 84 80 = some (.i2l, 1) by decide +kernel) ?_
  exact q_lret (show sCode 84 81 = some (.lreturn, 1) by decide +kernel) (by decide +kernel) (by decide +kernel) kk
theorem b84_82 {d : Nat} {P : Int → sM → sG → Prop} {M : sM} {G : sG} {x2 : Int}  (kk : P x2 M G) : sW (sC d) 84 (QL P) 82 [vN, vN, vI x2, vN, vN] [] M G 0 0 := by
  refine q_iload_n 83 rfl (show sCode 84 82 = some (.iload_n 2, 1) by decide +kernel) rfl ?_
  refine q_i2l 84 rfl (show sCode 84 83 = some (.i2l, 1) by decide +kernel) ?_
  exact q_lret (show sCode 84 84 = some (.lreturn, 1) by decide +kernel) (by decide +kernel) (by decide +kernel) kk
theorem b84_85 {d : Nat} {P : Int → sM → sG → Prop} {M : sM} {G : sG} {x4 : Int}  (kk : P x4 M G) : sW (sC d) 84 (QL P) 85 [vN, vN, vN, vN, vI x4] [] M G 0 0 := by
  refine q_iload 87 rfl (show sCode 84 85 = some (.iload 4, 2) by decide +kernel) rfl ?_
  refine q_i2l 88 rfl (show sCode 84 87 = some (.i2l, 1) by decide +kernel) ?_
  exact q_lret (show sCode 84 88 = some (.lreturn, 1) by decide +kernel) (by decide +kernel) (by decide +kernel) kk
theorem b84_89 {d : Nat} {P : Int → sM → sG → Prop} {M : sM} {G : sG} {a1 : Nat} {x4 : Int} (h1 : 0 ≤ x4 ∧ x4 < 6) (kk : P (M (a1 + 4) x4.toNat) M G) : sW (sC d) 84 (QL P) 89 [vN, vO 10 a1, vN, vN, vI x4] [] M G 0 0 := by
  refine q_aload_n 90 rfl (show sCode 84 89 = some (.aload_n 1, 1) by decide +kernel) rfl (Nat.le_of_ble_eq_true rfl) ?_
  refine q_getR (vA 0 (a1 + 4) 6) 93 rfl (show sCode 84 90 = some (.getfield 127, 3) by decide +kernel) (show sFR (sKo 84).1 127 = some (10, 4) by decide +kernel) (by decide +kernel) (Or.inl (Or.inl rfl)) rfl ?_
  refine q_iload 95 rfl (show sCode 84 93 = some (.iload 4, 2) by decide +kernel) rfl ?_
  refine q_iald 96 rfl (show sCode 84 95 = some (.iaload, 1) by decide +kernel) h1 ?_
  refine q_i2l 97 rfl (show sCode 84 96 = some (.i2l, 1) by decide +kernel) ?_
  exact q_lret (show sCode 84 97 = some (.lreturn, 1) by decide +kernel) (by decide +kernel) (by decide +kernel) kk
theorem b84_98 {d : Nat} {Q : Option sV → sM → sG → Prop} {M : sM} {G : sG} {a1 : Nat} {x2 : Int} {x4 : Int} (h1 : 0 ≤ x2 ∧ x2 < 12) (k1 : M (a1 + 12) x2.toNat ≠ x4 → sW (sC d) 84 Q 118 [vN, vN, vN, vN, vN] [] M G 0 0) (k2 : M (a1 + 12) x2.toNat = x4 → sW (sC d) 84 Q 109 [vN, vO 10 a1, vI x2, vN, vN] [] M G 0 0) : sW (sC d) 84 Q 98 [vN, vO 10 a1, vI x2, vN, vI x4] [] M G 0 0 := by
  refine q_aload_n 99 rfl (show sCode 84 98 = some (.aload_n 1, 1) by decide +kernel) rfl (Nat.le_of_ble_eq_true rfl) ?_
  refine q_getR (vA 0 (a1 + 12) 12) 102 rfl (show sCode 84 99 = some (.getfield 69, 3) by decide +kernel) (show sFR (sKo 84).1 69 = some (10, 15) by decide +kernel) (by decide +kernel) (Or.inl (Or.inl rfl)) rfl ?_
  refine q_iload_n 103 rfl (show sCode 84 102 = some (.iload_n 2, 1) by decide +kernel) rfl ?_
  refine q_iald 104 rfl (show sCode 84 103 = some (.iaload, 1) by decide +kernel) h1 ?_
  refine q_iload 106 rfl (show sCode 84 104 = some (.iload 4, 2) by decide +kernel) rfl ?_
  refine q_icmpne 118 109 rfl (by decide) (show sCode 84 106 = some (.if_icmp .ne 12, 3) by decide +kernel) ?_ ?_
  · intro q; refine q_forget (L' := [vN, vN, vI x2, vN, vI x4]) 1 rfl ?_; refine q_forget (L' := [vN, vN, vN, vN, vI x4]) 2 rfl ?_; refine q_forget (L' := [vN, vN, vN, vN, vN]) 4 rfl ?_; exact k1 q
  · intro q; refine q_forget (L' := [vN, vO 10 a1, vI x2, vN, vN]) 4 rfl ?_; exact k2 q
theorem b84_109 {d : Nat} {Q : Option sV → sM → sG → Prop} {M : sM} {G : sG} {a1 : Nat} {x2 : Int}  (kk : sC d 63 [vO 10 a1, vI x2] M G (QI (fun r M1 G1 => sW (sC d) 84 Q 114 [vN, vN, vN, vN, vN] (vI r :: []) M1 G1 0 0))) : sW (sC d) 84 Q 109 [vN, vO 10 a1, vI x2, vN, vN] [] M G 0 0 := by
  refine q_aload_n 110 rfl (show sCode 84 109 = some (.aload_n 1, 1) by decide +kernel) rfl (Nat.le_of_ble_eq_true rfl) ?_
  refine q_iload_n 111 rfl (show sCode 84 110 = some (.iload_n 2, 1) by decide +kernel) rfl ?_
  refine q_forget (L' := [vN, vN, vI x2, vN, vN]) 1 rfl ?_
  refine q_forget (L' := [vN, vN, vN, vN, vN]) 2 rfl ?_
  exact q_virtI [vI x2] 114 rfl (show sCode 84 111 = some (.invokevirtual 130, 3) by decide +kernel) (show sMR (sKo 84).1 130 = some 63 by decide +kernel) (show 63 < 1000 ∧ sStat 63 = false ∧ sIni 63 = false ∧ sKo 63 = (10, 1, 1, 0, 0) by decide +kernel) rfl (Or.inl rfl) rfl (Nat.le_of_ble_eq_true rfl) rfl rfl rfl (by decide +kernel) kk
theorem b84_114 {d : Nat} {Q : Option sV → sM → sG → Prop} {M : sM} {G : sG} {s0 : Int}  (kk : sW (sC d) 84 Q 119 [vN, vN, vN, vN, vN] [vL s0] M G 0 0) : sW (sC d) 84 Q 114 [vN, vN, vN, vN, vN] [vI s0] M G 0 0 := by
  refine q_i2l 115 rfl (show sCode 84 114 = some (.i2l, 1) by decide +kernel) ?_
  refine q_goto 119 (by decide) (show sCode 84 115 = some (.goto 4, 3) by decide +kernel) ?_
  exact kk
theorem b84_118 {d : Nat} {Q : Option sV → sM → sG → Prop} {M : sM} {G : sG}   (kk : sW (sC d) 84 Q 119 [vN, vN, vN, vN, vN] [vL 0] M G 0 0) : sW (sC d) 84 Q 118 [vN, vN, vN, vN, vN] [] M G 0 0 := by
  refine q_lconst 119 rfl (show sCode 84 118 = some (.lconst 0, 1) by decide +kernel) ?_
  exact kk
theorem b84_119 {d : Nat} {P : Int → sM → sG → Prop} {M : sM} {G : sG} {s0 : Int}  (kk : P s0 M G) : sW (sC d) 84 (QL P) 119 [vN, vN, vN, vN, vN] [vL s0] M G 0 0 := by
  exact q_lret (show sCode 84 119 = some (.lreturn, 1) by decide +kernel) (by decide +kernel) (by decide +kernel) kk
theorem b84_120 {d : Nat} {Q : Option sV → sM → sG → Prop} {M : sM} {G : sG} {a1 : Nat} {x4 : Int}  (kk : sC d 69 [vO 10 a1, vI x4] M G (QI (fun r M1 G1 => sW (sC d) 84 Q 126 [vN, vN, vN, vN, vN] (vI r :: []) M1 G1 0 0))) : sW (sC d) 84 Q 120 [vN, vO 10 a1, vN, vN, vI x4] [] M G 0 0 := by
  refine q_aload_n 121 rfl (show sCode 84 120 = some (.aload_n 1, 1) by decide +kernel) rfl (Nat.le_of_ble_eq_true rfl) ?_
  refine q_iload 123 rfl (show sCode 84 121 = some (.iload 4, 2) by decide +kernel) rfl ?_
  refine q_forget (L' := [vN, vN, vN, vN, vI x4]) 1 rfl ?_
  refine q_forget (L' := [vN, vN, vN, vN, vN]) 4 rfl ?_
  exact q_virtI [vI x4] 126 rfl (show sCode 84 123 = some (.invokevirtual 75, 3) by decide +kernel) (show sMR (sKo 84).1 75 = some 69 by decide +kernel) (show 69 < 1000 ∧ sStat 69 = false ∧ sIni 69 = false ∧ sKo 69 = (10, 1, 1, 0, 0) by decide +kernel) rfl (Or.inl rfl) rfl (Nat.le_of_ble_eq_true rfl) rfl rfl rfl (by decide +kernel) kk
theorem b84_126 {d : Nat} {P : Int → sM → sG → Prop} {M : sM} {G : sG} {s0 : Int}  (kk : P s0 M G) : sW (sC d) 84 (QL P) 126 [vN, vN, vN, vN, vN] [vI s0] M G 0 0 := by
  refine q_i2l 127 rfl (show sCode 84 126 = some (.i2l, 1) by decide +kernel) ?_
  exact q_lret (show sCode 84 127 = some (.lreturn, 1) by decide +kernel) (by decide +kernel) (by decide +kernel) kk
theorem b84_128 {d : Nat} {P : Int → sM → sG → Prop} {M : sM} {G : sG} {a1 : Nat} {x4 : Int} (h1 : 0 ≤ x4 ∧ x4 < 6) (kk : P (M (a1 + 3) x4.toNat) M G) : sW (sC d) 84 (QL P) 128 [vN, vO 10 a1, vN, vN, vI x4] [] M G 0 0 := by
  refine q_aload_n 129 rfl (show sCode 84 128 = some (.aload_n 1, 1) by decide +kernel) rfl (Nat.le_of_ble_eq_true rfl) ?_
  refine q_getR (vA 0 (a1 + 3) 6) 132 rfl (show sCode 84 129 = some (.getfield 133, 3) by decide +kernel) (show sFR (sKo 84).1 133 = some (10, 3) by decide +kernel) (by decide +kernel) (Or.inl (Or.inl rfl)) rfl ?_
  refine q_iload 134 rfl (show sCode 84 132 = some (.iload 4, 2) by decide +kernel) rfl ?_
  refine q_iald 135 rfl (show sCode 84 134 = some (.iaload, 1) by decide +kernel) h1 ?_
  refine q_i2l 136 rfl (show sCode 84 135 = some (.i2l, 1) by decide +kernel) ?_
  exact q_lret (show sCode 84 136 = some (.lreturn, 1) by decide +kernel) (by decide +kernel) (by decide +kernel) kk
theorem b84_137 {d : Nat} {P : Int → sM → sG → Prop} {M : sM} {G : sG} {a1 : Nat} {x3 : Int} (h1 : 0 ≤ x3 ∧ x3 < 18) (kk : P (M (a1 + 10) x3.toNat) M G) : sW (sC d) 84 (QL P) 137 [vN, vO 10 a1, vN, vI x3, vN] [] M G 0 0 := by
  refine q_aload_n 138 rfl (show sCode 84 137 = some (.aload_n 1, 1) by decide +kernel) rfl (Nat.le_of_ble_eq_true rfl) ?_
  refine q_getR (vA 0 (a1 + 10) 18) 141 rfl (show sCode 84 138 = some (.getfield 136, 3) by decide +kernel) (show sFR (sKo 84).1 136 = some (10, 11) by decide +kernel) (by decide +kernel) (Or.inl (Or.inl rfl)) rfl ?_
  refine q_iload_n 142 rfl (show sCode 84 141 = some (.iload_n 3, 1) by decide +kernel) rfl ?_
  refine q_iald 143 rfl (show sCode 84 142 = some (.iaload, 1) by decide +kernel) h1 ?_
  refine q_i2l 144 rfl (show sCode 84 143 = some (.i2l, 1) by decide +kernel) ?_
  exact q_lret (show sCode 84 144 = some (.lreturn, 1) by decide +kernel) (by decide +kernel) (by decide +kernel) kk
theorem b84_145 {d : Nat} {P : Int → sM → sG → Prop} {M : sM} {G : sG} {a1 : Nat} {x3 : Int} (h1 : 0 ≤ x3 ∧ x3 < 18) (h2 : sI ((M a1 13) - (M (a1 + 9) x3.toNat))) (kk : P (if 0 < (M a1 13) - (M (a1 + 9) x3.toNat) then (M a1 13) - (M (a1 + 9) x3.toNat) else 0) M G) : sW (sC d) 84 (QL P) 145 [vN, vO 10 a1, vN, vI x3, vN] [] M G 0 0 := by
  refine q_iconst 146 rfl (show sCode 84 145 = some (.iconst 0, 1) by decide +kernel) ⟨by decide, by decide⟩ ?_
  refine q_aload_n 147 rfl (show sCode 84 146 = some (.aload_n 1, 1) by decide +kernel) rfl (Nat.le_of_ble_eq_true rfl) ?_
  refine q_getI 150 rfl (show sCode 84 147 = some (.getfield 33, 3) by decide +kernel) (show sFR (sKo 84).1 33 = some (10, 13) by decide +kernel) (by decide +kernel) (Or.inl (Or.inl rfl)) ?_
  refine q_aload_n 151 rfl (show sCode 84 150 = some (.aload_n 1, 1) by decide +kernel) rfl (Nat.le_of_ble_eq_true rfl) ?_
  refine q_getR (vA 0 (a1 + 9) 18) 154 rfl (show sCode 84 151 = some (.getfield 139, 3) by decide +kernel) (show sFR (sKo 84).1 139 = some (10, 10) by decide +kernel) (by decide +kernel) (Or.inl (Or.inl rfl)) rfl ?_
  refine q_iload_n 155 rfl (show sCode 84 154 = some (.iload_n 3, 1) by decide +kernel) rfl ?_
  refine q_iald 156 rfl (show sCode 84 155 = some (.iaload, 1) by decide +kernel) h1 ?_
  refine q_isub 157 rfl (show sCode 84 156 = some (.isub, 1) by decide +kernel) h2 ?_
  refine q_max 160 rfl (show sCode 84 157 = some (.invokestatic 111, 3) by decide +kernel) (by decide +kernel) (Nat.le_of_ble_eq_true rfl) ?_
  refine q_i2l 161 rfl (show sCode 84 160 = some (.i2l, 1) by decide +kernel) ?_
  exact q_lret (show sCode 84 161 = some (.lreturn, 1) by decide +kernel) (by decide +kernel) (by decide +kernel) kk
theorem b84_162 {d : Nat} {P : Int → sM → sG → Prop} {M : sM} {G : sG} {a1 : Nat} {x3 : Int} (h1 : 0 ≤ x3 ∧ x3 < 18) (h2 : sI ((M (a1 + 9) x3.toNat) - (M a1 13))) (kk : P (if 0 < (M (a1 + 9) x3.toNat) - (M a1 13) then (M (a1 + 9) x3.toNat) - (M a1 13) else 0) M G) : sW (sC d) 84 (QL P) 162 [vN, vO 10 a1, vN, vI x3, vN] [] M G 0 0 := by
  refine q_iconst 163 rfl (show sCode 84 162 = some (.iconst 0, 1) by decide +kernel) ⟨by decide, by decide⟩ ?_
  refine q_aload_n 164 rfl (show sCode 84 163 = some (.aload_n 1, 1) by decide +kernel) rfl (Nat.le_of_ble_eq_true rfl) ?_
  refine q_getR (vA 0 (a1 + 9) 18) 167 rfl (show sCode 84 164 = some (.getfield 139, 3) by decide +kernel) (show sFR (sKo 84).1 139 = some (10, 10) by decide +kernel) (by decide +kernel) (Or.inl (Or.inl rfl)) rfl ?_
  refine q_iload_n 168 rfl (show sCode 84 167 = some (.iload_n 3, 1) by decide +kernel) rfl ?_
  refine q_iald 169 rfl (show sCode 84 168 = some (.iaload, 1) by decide +kernel) h1 ?_
  refine q_aload_n 170 rfl (show sCode 84 169 = some (.aload_n 1, 1) by decide +kernel) rfl (Nat.le_of_ble_eq_true rfl) ?_
  refine q_getI 173 rfl (show sCode 84 170 = some (.getfield 33, 3) by decide +kernel) (show sFR (sKo 84).1 33 = some (10, 13) by decide +kernel) (by decide +kernel) (Or.inl (Or.inl rfl)) ?_
  refine q_isub 174 rfl (show sCode 84 173 = some (.isub, 1) by decide +kernel) h2 ?_
  refine q_max 177 rfl (show sCode 84 174 = some (.invokestatic 111, 3) by decide +kernel) (by decide +kernel) (Nat.le_of_ble_eq_true rfl) ?_
  refine q_i2l 178 rfl (show sCode 84 177 = some (.i2l, 1) by decide +kernel) ?_
  exact q_lret (show sCode 84 178 = some (.lreturn, 1) by decide +kernel) (by decide +kernel) (by decide +kernel) kk
-- 85 AfterTheLast$Clock.joined (IJJ)J
theorem b85_0 {d : Nat} {Q : Option sV → sM → sG → Prop} {M : sM} {G : sG} {x0 : Int} {y1 : Int} {y3 : Int}  (kd : x0 < 2 ∨ 9 < x0 → sW (sC d) 85 Q 122 [vN, vL y1, vN, vL y3, vN] [] M G 0 0) (k2 : x0 = 2 → sW (sC d) 85 Q 48 [vN, vL y1, vN, vL y3, vN] [] M G 0 0) (k3 : x0 = 3 → sW (sC d) 85 Q 52 [vN, vL y1, vN, vL y3, vN] [] M G 0 0) (k4 : x0 = 4 → sW (sC d) 85 Q 56 [vN, vL y1, vN, vL y3, vN] [] M G 0 0) (k5 : x0 = 5 → sW (sC d) 85 Q 60 [vN, vL y1, vN, vL y3, vN] [] M G 0 0) (k6 : x0 = 6 → sW (sC d) 85 Q 74 [vN, vL y1, vN, vL y3, vN] [] M G 0 0) (k7 : x0 = 7 → sW (sC d) 85 Q 86 [vN, vL y1, vN, vL y3, vN] [] M G 0 0) (k8 : x0 = 8 → sW (sC d) 85 Q 98 [vN, vL y1, vN, vL y3, vN] [] M G 0 0) (k9 : x0 = 9 → sW (sC d) 85 Q 110 [vN, vL y1, vN, vL y3, vN] [] M G 0 0) : sW (sC d) 85 Q 0 [vI x0, vL y1, vN, vL y3, vN] [] M G 0 0 := by
  refine q_iload_n 1 rfl (show sCode 85 0 = some (.iload_n 0, 1) by decide +kernel) rfl ?_
  refine q_switch (show sCode 85 1 = some (.tableswitch 121 2 9 #[47, 51, 55, 59, 73, 85, 97, 109], 47) by decide +kernel) (fun q => ⟨122, by decide, ?_⟩) (fun q1 q2 => ?_)
  · refine q_forget (L' := [vN, vL y1, vN, vL y3, vN]) 0 rfl ?_; exact kd q
  · have q3 : x0 = 2 ∨ x0 = 3 ∨ x0 = 4 ∨ x0 = 5 ∨ x0 = 6 ∨ x0 = 7 ∨ x0 = 8 ∨ x0 = 9 := by omega
    rcases q3 with q | q | q | q | q | q | q | q
    · refine ⟨47, 48, by rw [q]; rfl, by decide, ?_⟩; refine q_forget (L' := [vN, vL y1, vN, vL y3, vN]) 0 rfl ?_; exact k2 q
    · refine ⟨51, 52, by rw [q]; rfl, by decide, ?_⟩; refine q_forget (L' := [vN, vL y1, vN, vL y3, vN]) 0 rfl ?_; exact k3 q
    · refine ⟨55, 56, by rw [q]; rfl, by decide, ?_⟩; refine q_forget (L' := [vN, vL y1, vN, vL y3, vN]) 0 rfl ?_; exact k4 q
    · refine ⟨59, 60, by rw [q]; rfl, by decide, ?_⟩; refine q_forget (L' := [vN, vL y1, vN, vL y3, vN]) 0 rfl ?_; exact k5 q
    · refine ⟨73, 74, by rw [q]; rfl, by decide, ?_⟩; refine q_forget (L' := [vN, vL y1, vN, vL y3, vN]) 0 rfl ?_; exact k6 q
    · refine ⟨85, 86, by rw [q]; rfl, by decide, ?_⟩; refine q_forget (L' := [vN, vL y1, vN, vL y3, vN]) 0 rfl ?_; exact k7 q
    · refine ⟨97, 98, by rw [q]; rfl, by decide, ?_⟩; refine q_forget (L' := [vN, vL y1, vN, vL y3, vN]) 0 rfl ?_; exact k8 q
    · refine ⟨109, 110, by rw [q]; rfl, by decide, ?_⟩; refine q_forget (L' := [vN, vL y1, vN, vL y3, vN]) 0 rfl ?_; exact k9 q
theorem b85_48 {d : Nat} {P : Int → sM → sG → Prop} {M : sM} {G : sG} {y1 : Int} {y3 : Int}  (kk : P (jWrap (y1 + y3)) M G) : sW (sC d) 85 (QL P) 48 [vN, vL y1, vN, vL y3, vN] [] M G 0 0 := by
  refine q_lload_n 49 rfl (show sCode 85 48 = some (.lload_n 1, 1) by decide +kernel) rfl ?_
  refine q_lload_n 50 rfl (show sCode 85 49 = some (.lload_n 3, 1) by decide +kernel) rfl ?_
  refine q_ladd 51 rfl (show sCode 85 50 = some (.ladd, 1) by decide +kernel) ?_
  exact q_lret (show sCode 85 51 = some (.lreturn, 1) by decide +kernel) (by decide +kernel) (by decide +kernel) kk
theorem b85_52 {d : Nat} {P : Int → sM → sG → Prop} {M : sM} {G : sG} {y1 : Int} {y3 : Int}  (kk : P (jWrap (y1 - y3)) M G) : sW (sC d) 85 (QL P) 52 [vN, vL y1, vN, vL y3, vN] [] M G 0 0 := by
  refine q_lload_n 53 rfl (show sCode 85 52 = some (.lload_n 1, 1) by decide +kernel) rfl ?_
  refine q_lload_n 54 rfl (show sCode 85 53 = some (.lload_n 3, 1) by decide +kernel) rfl ?_
  refine q_lsub 55 rfl (show sCode 85 54 = some (.lsub, 1) by decide +kernel) ?_
  exact q_lret (show sCode 85 55 = some (.lreturn, 1) by decide +kernel) (by decide +kernel) (by decide +kernel) kk
theorem b85_56 {d : Nat} {P : Int → sM → sG → Prop} {M : sM} {G : sG} {y1 : Int} {y3 : Int}  (kk : P (jWrap (y1 * y3)) M G) : sW (sC d) 85 (QL P) 56 [vN, vL y1, vN, vL y3, vN] [] M G 0 0 := by
  refine q_lload_n 57 rfl (show sCode 85 56 = some (.lload_n 1, 1) by decide +kernel) rfl ?_
  refine q_lload_n 58 rfl (show sCode 85 57 = some (.lload_n 3, 1) by decide +kernel) rfl ?_
  refine q_lmul 59 rfl (show sCode 85 58 = some (.lmul, 1) by decide +kernel) ?_
  exact q_lret (show sCode 85 59 = some (.lreturn, 1) by decide +kernel) (by decide +kernel) (by decide +kernel) kk
theorem b85_60 {d : Nat} {Q : Option sV → sM → sG → Prop} {M : sM} {G : sG} {y1 : Int} {y3 : Int}  (k1 : y3 ≠ 0 → sW (sC d) 85 Q 70 [vN, vL y1, vN, vL y3, vN] [] M G 0 0) (k2 : y3 = 0 → sW (sC d) 85 Q 66 [vN, vN, vN, vN, vN] [] M G 0 0) : sW (sC d) 85 Q 60 [vN, vL y1, vN, vL y3, vN] [] M G 0 0 := by
  refine q_lload_n 61 rfl (show sCode 85 60 = some (.lload_n 3, 1) by decide +kernel) rfl ?_
  refine q_lconst 62 rfl (show sCode 85 61 = some (.lconst 0, 1) by decide +kernel) ?_
  refine q_lifne (off := 7) 70 66 rfl (by decide) (show sCode 85 62 = some (.lcmp, 1) by decide +kernel) (by decide +kernel) ?_ ?_
  · intro q; exact k1 q
  · intro q; refine q_forget (L' := [vN, vN, vN, vL y3, vN]) 1 rfl ?_; refine q_forget (L' := [vN, vN, vN, vN, vN]) 3 rfl ?_; exact k2 q
theorem b85_66 {d : Nat} {Q : Option sV → sM → sG → Prop} {M : sM} {G : sG}   (kk : sW (sC d) 85 Q 73 [vN, vN, vN, vN, vN] [vL 0] M G 0 0) : sW (sC d) 85 Q 66 [vN, vN, vN, vN, vN] [] M G 0 0 := by
  refine q_lconst 67 rfl (show sCode 85 66 = some (.lconst 0, 1) by decide +kernel) ?_
  refine q_goto 73 (by decide) (show sCode 85 67 = some (.goto 6, 3) by decide +kernel) ?_
  exact kk
theorem b85_70 {d : Nat} {Q : Option sV → sM → sG → Prop} {M : sM} {G : sG} {y1 : Int} {y3 : Int} (h1 : y3 ≠ 0) (kk : sW (sC d) 85 Q 73 [vN, vN, vN, vN, vN] [vL (jDiv y1 y3)] M G 0 0) : sW (sC d) 85 Q 70 [vN, vL y1, vN, vL y3, vN] [] M G 0 0 := by
  refine q_lload_n 71 rfl (show sCode 85 70 = some (.lload_n 1, 1) by decide +kernel) rfl ?_
  refine q_lload_n 72 rfl (show sCode 85 71 = some (.lload_n 3, 1) by decide +kernel) rfl ?_
  refine q_ldiv 73 rfl (show sCode 85 72 = some (.ldiv, 1) by decide +kernel) h1 ?_
  refine q_forget (L' := [vN, vN, vN, vL y3, vN]) 1 rfl ?_
  refine q_forget (L' := [vN, vN, vN, vN, vN]) 3 rfl ?_
  exact kk
theorem b85_73 {d : Nat} {P : Int → sM → sG → Prop} {M : sM} {G : sG} {s0 : Int}  (kk : P s0 M G) : sW (sC d) 85 (QL P) 73 [vN, vN, vN, vN, vN] [vL s0] M G 0 0 := by
  exact q_lret (show sCode 85 73 = some (.lreturn, 1) by decide +kernel) (by decide +kernel) (by decide +kernel) kk
theorem b85_74 {d : Nat} {Q : Option sV → sM → sG → Prop} {M : sM} {G : sG} {y1 : Int} {y3 : Int}  (k1 : y3 ≤ y1 → sW (sC d) 85 Q 84 [vN, vN, vN, vN, vN] [] M G 0 0) (k2 : y1 < y3 → sW (sC d) 85 Q 80 [vN, vN, vN, vN, vN] [] M G 0 0) : sW (sC d) 85 Q 74 [vN, vL y1, vN, vL y3, vN] [] M G 0 0 := by
  refine q_lload_n 75 rfl (show sCode 85 74 = some (.lload_n 1, 1) by decide +kernel) rfl ?_
  refine q_lload_n 76 rfl (show sCode 85 75 = some (.lload_n 3, 1) by decide +kernel) rfl ?_
  refine q_lifge (off := 7) 84 80 rfl (by decide) (show sCode 85 76 = some (.lcmp, 1) by decide +kernel) (by decide +kernel) ?_ ?_
  · intro q; refine q_forget (L' := [vN, vN, vN, vL y3, vN]) 1 rfl ?_; refine q_forget (L' := [vN, vN, vN, vN, vN]) 3 rfl ?_; exact k1 q
  · intro q; refine q_forget (L' := [vN, vN, vN, vL y3, vN]) 1 rfl ?_; refine q_forget (L' := [vN, vN, vN, vN, vN]) 3 rfl ?_; exact k2 q
theorem b85_80 {d : Nat} {Q : Option sV → sM → sG → Prop} {M : sM} {G : sG}   (kk : sW (sC d) 85 Q 85 [vN, vN, vN, vN, vN] [vL 1] M G 0 0) : sW (sC d) 85 Q 80 [vN, vN, vN, vN, vN] [] M G 0 0 := by
  refine q_lconst 81 rfl (show sCode 85 80 = some (.lconst 1, 1) by decide +kernel) ?_
  refine q_goto 85 (by decide) (show sCode 85 81 = some (.goto 4, 3) by decide +kernel) ?_
  exact kk
theorem b85_84 {d : Nat} {Q : Option sV → sM → sG → Prop} {M : sM} {G : sG}   (kk : sW (sC d) 85 Q 85 [vN, vN, vN, vN, vN] [vL 0] M G 0 0) : sW (sC d) 85 Q 84 [vN, vN, vN, vN, vN] [] M G 0 0 := by
  refine q_lconst 85 rfl (show sCode 85 84 = some (.lconst 0, 1) by decide +kernel) ?_
  exact kk
theorem b85_85 {d : Nat} {P : Int → sM → sG → Prop} {M : sM} {G : sG} {s0 : Int}  (kk : P s0 M G) : sW (sC d) 85 (QL P) 85 [vN, vN, vN, vN, vN] [vL s0] M G 0 0 := by
  exact q_lret (show sCode 85 85 = some (.lreturn, 1) by decide +kernel) (by decide +kernel) (by decide +kernel) kk
theorem b85_86 {d : Nat} {Q : Option sV → sM → sG → Prop} {M : sM} {G : sG} {y1 : Int} {y3 : Int}  (k1 : y3 < y1 → sW (sC d) 85 Q 96 [vN, vN, vN, vN, vN] [] M G 0 0) (k2 : y1 ≤ y3 → sW (sC d) 85 Q 92 [vN, vN, vN, vN, vN] [] M G 0 0) : sW (sC d) 85 Q 86 [vN, vL y1, vN, vL y3, vN] [] M G 0 0 := by
  refine q_lload_n 87 rfl (show sCode 85 86 = some (.lload_n 1, 1) by decide +kernel) rfl ?_
  refine q_lload_n 88 rfl (show sCode 85 87 = some (.lload_n 3, 1) by decide +kernel) rfl ?_
  refine q_lifgt (off := 7) 96 92 rfl (by decide) (show sCode 85 88 = some (.lcmp, 1) by decide +kernel) (by decide +kernel) ?_ ?_
  · intro q; refine q_forget (L' := [vN, vN, vN, vL y3, vN]) 1 rfl ?_; refine q_forget (L' := [vN, vN, vN, vN, vN]) 3 rfl ?_; exact k1 q
  · intro q; refine q_forget (L' := [vN, vN, vN, vL y3, vN]) 1 rfl ?_; refine q_forget (L' := [vN, vN, vN, vN, vN]) 3 rfl ?_; exact k2 q
theorem b85_92 {d : Nat} {Q : Option sV → sM → sG → Prop} {M : sM} {G : sG}   (kk : sW (sC d) 85 Q 97 [vN, vN, vN, vN, vN] [vL 1] M G 0 0) : sW (sC d) 85 Q 92 [vN, vN, vN, vN, vN] [] M G 0 0 := by
  refine q_lconst 93 rfl (show sCode 85 92 = some (.lconst 1, 1) by decide +kernel) ?_
  refine q_goto 97 (by decide) (show sCode 85 93 = some (.goto 4, 3) by decide +kernel) ?_
  exact kk
theorem b85_96 {d : Nat} {Q : Option sV → sM → sG → Prop} {M : sM} {G : sG}   (kk : sW (sC d) 85 Q 97 [vN, vN, vN, vN, vN] [vL 0] M G 0 0) : sW (sC d) 85 Q 96 [vN, vN, vN, vN, vN] [] M G 0 0 := by
  refine q_lconst 97 rfl (show sCode 85 96 = some (.lconst 0, 1) by decide +kernel) ?_
  exact kk
theorem b85_97 {d : Nat} {P : Int → sM → sG → Prop} {M : sM} {G : sG} {s0 : Int}  (kk : P s0 M G) : sW (sC d) 85 (QL P) 97 [vN, vN, vN, vN, vN] [vL s0] M G 0 0 := by
  exact q_lret (show sCode 85 97 = some (.lreturn, 1) by decide +kernel) (by decide +kernel) (by decide +kernel) kk
theorem b85_98 {d : Nat} {Q : Option sV → sM → sG → Prop} {M : sM} {G : sG} {y1 : Int} {y3 : Int}  (k1 : y1 ≠ y3 → sW (sC d) 85 Q 108 [vN, vN, vN, vN, vN] [] M G 0 0) (k2 : y1 = y3 → sW (sC d) 85 Q 104 [vN, vN, vN, vN, vN] [] M G 0 0) : sW (sC d) 85 Q 98 [vN, vL y1, vN, vL y3, vN] [] M G 0 0 := by
  refine q_lload_n 99 rfl (show sCode 85 98 = some (.lload_n 1, 1) by decide +kernel) rfl ?_
  refine q_lload_n 100 rfl (show sCode 85 99 = some (.lload_n 3, 1) by decide +kernel) rfl ?_
  refine q_lifne (off := 7) 108 104 rfl (by decide) (show sCode 85 100 = some (.lcmp, 1) by decide +kernel) (by decide +kernel) ?_ ?_
  · intro q; refine q_forget (L' := [vN, vN, vN, vL y3, vN]) 1 rfl ?_; refine q_forget (L' := [vN, vN, vN, vN, vN]) 3 rfl ?_; exact k1 q
  · intro q; refine q_forget (L' := [vN, vN, vN, vL y3, vN]) 1 rfl ?_; refine q_forget (L' := [vN, vN, vN, vN, vN]) 3 rfl ?_; exact k2 q
theorem b85_104 {d : Nat} {Q : Option sV → sM → sG → Prop} {M : sM} {G : sG}   (kk : sW (sC d) 85 Q 109 [vN, vN, vN, vN, vN] [vL 1] M G 0 0) : sW (sC d) 85 Q 104 [vN, vN, vN, vN, vN] [] M G 0 0 := by
  refine q_lconst 105 rfl (show sCode 85 104 = some (.lconst 1, 1) by decide +kernel) ?_
  refine q_goto 109 (by decide) (show sCode 85 105 = some (.goto 4, 3) by decide +kernel) ?_
  exact kk
theorem b85_108 {d : Nat} {Q : Option sV → sM → sG → Prop} {M : sM} {G : sG}   (kk : sW (sC d) 85 Q 109 [vN, vN, vN, vN, vN] [vL 0] M G 0 0) : sW (sC d) 85 Q 108 [vN, vN, vN, vN, vN] [] M G 0 0 := by
  refine q_lconst 109 rfl (show sCode 85 108 = some (.lconst 0, 1) by decide +kernel) ?_
  exact kk
theorem b85_109 {d : Nat} {P : Int → sM → sG → Prop} {M : sM} {G : sG} {s0 : Int}  (kk : P s0 M G) : sW (sC d) 85 (QL P) 109 [vN, vN, vN, vN, vN] [vL s0] M G 0 0 := by
  exact q_lret (show sCode 85 109 = some (.lreturn, 1) by decide +kernel) (by decide +kernel) (by decide +kernel) kk
theorem b85_110 {d : Nat} {Q : Option sV → sM → sG → Prop} {M : sM} {G : sG} {y1 : Int} {y3 : Int}  (k1 : y1 < y3 → sW (sC d) 85 Q 120 [vN, vN, vN, vN, vN] [] M G 0 0) (k2 : y3 ≤ y1 → sW (sC d) 85 Q 116 [vN, vN, vN, vN, vN] [] M G 0 0) : sW (sC d) 85 Q 110 [vN, vL y1, vN, vL y3, vN] [] M G 0 0 := by
  refine q_lload_n 111 rfl (show sCode 85 110 = some (.lload_n 1, 1) by decide +kernel) rfl ?_
  refine q_lload_n 112 rfl (show sCode 85 111 = some (.lload_n 3, 1) by decide +kernel) rfl ?_
  refine q_liflt (off := 7) 120 116 rfl (by decide) (show sCode 85 112 = some (.lcmp, 1) by decide +kernel) (by decide +kernel) ?_ ?_
  · intro q; refine q_forget (L' := [vN, vN, vN, vL y3, vN]) 1 rfl ?_; refine q_forget (L' := [vN, vN, vN, vN, vN]) 3 rfl ?_; exact k1 q
  · intro q; refine q_forget (L' := [vN, vN, vN, vL y3, vN]) 1 rfl ?_; refine q_forget (L' := [vN, vN, vN, vN, vN]) 3 rfl ?_; exact k2 q
theorem b85_116 {d : Nat} {Q : Option sV → sM → sG → Prop} {M : sM} {G : sG}   (kk : sW (sC d) 85 Q 121 [vN, vN, vN, vN, vN] [vL 1] M G 0 0) : sW (sC d) 85 Q 116 [vN, vN, vN, vN, vN] [] M G 0 0 := by
  refine q_lconst 117 rfl (show sCode 85 116 = some (.lconst 1, 1) by decide +kernel) ?_
  refine q_goto 121 (by decide) (show sCode 85 117 = some (.goto 4, 3) by decide +kernel) ?_
  exact kk
theorem b85_120 {d : Nat} {Q : Option sV → sM → sG → Prop} {M : sM} {G : sG}   (kk : sW (sC d) 85 Q 121 [vN, vN, vN, vN, vN] [vL 0] M G 0 0) : sW (sC d) 85 Q 120 [vN, vN, vN, vN, vN] [] M G 0 0 := by
  refine q_lconst 121 rfl (show sCode 85 120 = some (.lconst 0, 1) by decide +kernel) ?_
  exact kk
theorem b85_121 {d : Nat} {P : Int → sM → sG → Prop} {M : sM} {G : sG} {s0 : Int}  (kk : P s0 M G) : sW (sC d) 85 (QL P) 121 [vN, vN, vN, vN, vN] [vL s0] M G 0 0 := by
  exact q_lret (show sCode 85 121 = some (.lreturn, 1) by decide +kernel) (by decide +kernel) (by decide +kernel) kk
theorem b85_122 {d : Nat} {Q : Option sV → sM → sG → Prop} {M : sM} {G : sG} {y1 : Int} {y3 : Int}  (k1 : y1 ≤ y3 → sW (sC d) 85 Q 132 [vN, vN, vN, vN, vN] [] M G 0 0) (k2 : y3 < y1 → sW (sC d) 85 Q 128 [vN, vN, vN, vN, vN] [] M G 0 0) : sW (sC d) 85 Q 122 [vN, vL y1, vN, vL y3, vN] [] M G 0 0 := by
  refine q_lload_n 123 rfl (show sCode 85 122 = some (.lload_n 1, 1) by decide +kernel) rfl ?_
  refine q_lload_n 124 rfl (show sCode 85 123 = some (.lload_n 3, 1) by decide +kernel) rfl ?_
  refine q_lifle (off := 7) 132 128 rfl (by decide) (show sCode 85 124 = some (.lcmp, 1) by decide +kernel) (by decide +kernel) ?_ ?_
  · intro q; refine q_forget (L' := [vN, vN, vN, vL y3, vN]) 1 rfl ?_; refine q_forget (L' := [vN, vN, vN, vN, vN]) 3 rfl ?_; exact k1 q
  · intro q; refine q_forget (L' := [vN, vN, vN, vL y3, vN]) 1 rfl ?_; refine q_forget (L' := [vN, vN, vN, vN, vN]) 3 rfl ?_; exact k2 q
theorem b85_128 {d : Nat} {Q : Option sV → sM → sG → Prop} {M : sM} {G : sG}   (kk : sW (sC d) 85 Q 133 [vN, vN, vN, vN, vN] [vL 1] M G 0 0) : sW (sC d) 85 Q 128 [vN, vN, vN, vN, vN] [] M G 0 0 := by
  refine q_lconst 129 rfl (show sCode 85 128 = some (.lconst 1, 1) by decide +kernel) ?_
  refine q_goto 133 (by decide) (show sCode 85 129 = some (.goto 4, 3) by decide +kernel) ?_
  exact kk
theorem b85_132 {d : Nat} {Q : Option sV → sM → sG → Prop} {M : sM} {G : sG}   (kk : sW (sC d) 85 Q 133 [vN, vN, vN, vN, vN] [vL 0] M G 0 0) : sW (sC d) 85 Q 132 [vN, vN, vN, vN, vN] [] M G 0 0 := by
  refine q_lconst 133 rfl (show sCode 85 132 = some (.lconst 0, 1) by decide +kernel) ?_
  exact kk
theorem b85_133 {d : Nat} {P : Int → sM → sG → Prop} {M : sM} {G : sG} {s0 : Int}  (kk : P s0 M G) : sW (sC d) 85 (QL P) 133 [vN, vN, vN, vN, vN] [vL s0] M G 0 0 := by
  exact q_lret (show sCode 85 133 = some (.lreturn, 1) by decide +kernel) (by decide +kernel) (by decide +kernel) kk
-- 86 AfterTheLast$Clock.letOutByWindow (LAfterTheLast$Rule;LAfterTheLast$Town;)V
theorem b86_0 {d : Nat} {Q : Option sV → sM → sG → Prop} {M : sM} {G : sG} {a0 : Nat} {a1 : Nat} {a2 : Nat}  (hr : a1 ≠ 0) (kk : sC d 87 [vO 6 a1, vI 2] M G (QI (fun r M1 G1 => sW (sC d) 86 Q 5 [vO 0 a0, vQ 6 a1, vO 10 a2, vN] (vI r :: []) M1 G1 0 0))) : sW (sC d) 86 Q 0 [vO 0 a0, vQ 6 a1, vO 10 a2, vN] [] M G 0 0 := by
  refine q_aload_n 1 rfl (show sCode 86 0 = some (.aload_n 1, 1) by decide +kernel) rfl (Nat.le_of_ble_eq_true rfl) ?_
  refine q_iconst 2 rfl (show sCode 86 1 = some (.iconst 2, 1) by decide +kernel) ⟨by decide, by decide⟩ ?_
  exact q_virtI [vI 2] 5 rfl (show sCode 86 2 = some (.invokevirtual 57, 3) by decide +kernel) (show sMR (sKo 86).1 57 = some 87 by decide +kernel) (show 87 < 1000 ∧ sStat 87 = false ∧ sIni 87 = false ∧ sKo 87 = (6, 1, 2, 0, 0) by decide +kernel) rfl (Or.inr (Or.inl ⟨rfl, hr⟩)) rfl (Nat.le_of_ble_eq_true rfl) rfl rfl rfl (by decide +kernel) kk
theorem b86_5 {d : Nat} {Q : Option sV → sM → sG → Prop} {M : sM} {G : sG} {a0 : Nat} {a1 : Nat} {a2 : Nat} {s0 : Int}  (k1 : s0 ≠ 0 → sW (sC d) 86 Q 9 [vO 0 a0, vQ 6 a1, vO 10 a2, vN] [] M G 0 0) (k2 : s0 = 0 → sW (sC d) 86 Q 8 [vN, vN, vN, vN] [] M G 0 0) : sW (sC d) 86 Q 5 [vO 0 a0, vQ 6 a1, vO 10 a2, vN] [vI s0] M G 0 0 := by
  refine q_ifne 9 8 rfl (by decide) (show sCode 86 5 = some (.ifCond .ne 4, 3) by decide +kernel) ?_ ?_
  · intro q; exact k1 q
  · intro q; refine q_forget (L' := [vN, vQ 6 a1, vO 10 a2, vN]) 0 rfl ?_; refine q_forget (L' := [vN, vN, vO 10 a2, vN]) 1 rfl ?_; refine q_forget (L' := [vN, vN, vN, vN]) 2 rfl ?_; exact k2 q
theorem b86_8 {d : Nat} {P : sM → sG → Prop} {M : sM} {G : sG}   (kk : P M G) : sW (sC d) 86 (QV P) 8 [vN, vN, vN, vN] [] M G 0 0 := by
  exact q_vret (show sCode 86 8 = some (.return_, 1) by decide +kernel) (by decide +kernel) (by decide +kernel) kk
theorem b86_9 {d : Nat} {Q : Option sV → sM → sG → Prop} {M : sM} {G : sG} {a0 : Nat} {a1 : Nat} {a2 : Nat}  (kk : sW (sC d) 86 Q 11 [vO 0 a0, vQ 6 a1, vO 10 a2, vI 0] [] M G 0 0) : sW (sC d) 86 Q 9 [vO 0 a0, vQ 6 a1, vO 10 a2, vN] [] M G 0 0 := by
  refine q_iconst 10 rfl (show sCode 86 9 = some (.iconst 0, 1) by decide +kernel) ⟨by decide, by decide⟩ ?_
  refine q_istore_n [vO 0 a0, vQ 6 a1, vO 10 a2, vI 0] 11 rfl (show sCode 86 10 = some (.istore_n 3, 1) by decide +kernel) (Nat.lt_of_lt_of_le (Nat.lt_succ_self _) (Nat.le_of_ble_eq_true rfl)) rfl rfl ?_
  exact kk
theorem b86_11 {d : Nat} {Q : Option sV → sM → sG → Prop} {M : sM} {G : sG} {a0 : Nat} {a1 : Nat} {a2 : Nat} {x3 : Int}  (k1 : 12 ≤ x3 → sW (sC d) 86 Q 54 [vN, vN, vN, vN] [] M G 0 0) (k2 : x3 < 12 → sW (sC d) 86 Q 17 [vO 0 a0, vQ 6 a1, vO 10 a2, vI x3] [] M G 0 0) : sW (sC d) 86 Q 11 [vO 0 a0, vQ 6 a1, vO 10 a2, vI x3] [] M G 0 0 := by
  refine q_iload_n 12 rfl (show sCode 86 11 = some (.iload_n 3, 1) by decide +kernel) rfl ?_
  refine q_bipush 14 rfl (show sCode 86 12 = some (.bipush 12, 2) by decide +kernel) ⟨by decide, by decide⟩ (by decide +kernel) ?_
  refine q_icmpge 54 17 rfl (by decide) (show sCode 86 14 = some (.if_icmp .ge 40, 3) by decide +kernel) ?_ ?_
  · intro q; refine q_forget (L' := [vN, vQ 6 a1, vO 10 a2, vI x3]) 0 rfl ?_; refine q_forget (L' := [vN, vN, vO 10 a2, vI x3]) 1 rfl ?_; refine q_forget (L' := [vN, vN, vN, vI x3]) 2 rfl ?_; refine q_forget (L' := [vN, vN, vN, vN]) 3 rfl ?_; exact k1 q
  · intro q; exact k2 q
theorem b86_17 {d : Nat} {Q : Option sV → sM → sG → Prop} {M : sM} {G : sG} {a0 : Nat} {a1 : Nat} {a2 : Nat} {x3 : Int}  (kk : sC d 80 [vO 10 a2, vI x3] M G (QI (fun r M1 G1 => sW (sC d) 86 Q 22 [vO 0 a0, vQ 6 a1, vO 10 a2, vI x3] (vI r :: []) M1 G1 0 0))) : sW (sC d) 86 Q 17 [vO 0 a0, vQ 6 a1, vO 10 a2, vI x3] [] M G 0 0 := by
  refine q_aload_n 18 rfl (show sCode 86 17 = some (.aload_n 2, 1) by decide +kernel) rfl (Nat.le_of_ble_eq_true rfl) ?_
  refine q_iload_n 19 rfl (show sCode 86 18 = some (.iload_n 3, 1) by decide +kernel) rfl ?_
  exact q_virtI [vI x3] 22 rfl (show sCode 86 19 = some (.invokevirtual 39, 3) by decide +kernel) (show sMR (sKo 86).1 39 = some 80 by decide +kernel) (show 80 < 1000 ∧ sStat 80 = false ∧ sIni 80 = false ∧ sKo 80 = (10, 1, 2, 0, 0) by decide +kernel) rfl (Or.inl rfl) rfl (Nat.le_of_ble_eq_true rfl) rfl rfl rfl (by decide +kernel) kk
theorem b86_22 {d : Nat} {Q : Option sV → sM → sG → Prop} {M : sM} {G : sG} {a0 : Nat} {a1 : Nat} {a2 : Nat} {x3 : Int} {s0 : Int}  (k1 : s0 = 0 → sW (sC d) 86 Q 48 [vO 0 a0, vQ 6 a1, vO 10 a2, vI x3] [] M G 0 0) (k2 : s0 ≠ 0 → sW (sC d) 86 Q 25 [vO 0 a0, vQ 6 a1, vO 10 a2, vI x3] [] M G 0 0) : sW (sC d) 86 Q 22 [vO 0 a0, vQ 6 a1, vO 10 a2, vI x3] [vI s0] M G 0 0 := by
  refine q_ifeq 48 25 rfl (by decide) (show sCode 86 22 = some (.ifCond .eq 26, 3) by decide +kernel) ?_ ?_
  · intro q; exact k1 q
  · intro q; exact k2 q
theorem b86_25 {d : Nat} {Q : Option sV → sM → sG → Prop} {M : sM} {G : sG} {a0 : Nat} {a1 : Nat} {a2 : Nat} {x3 : Int} (h1 : 0 ≤ x3 ∧ x3 < 12) (kk : sC d 81 [vO 0 a0, vQ 6 a1, vI 2, vO 10 a2, vI x3, vI (M (a2 + 13) x3.toNat)] M G (QI (fun r M1 G1 => sW (sC d) 86 Q 39 [vO 0 a0, vQ 6 a1, vO 10 a2, vI x3] (vI r :: []) M1 G1 0 0))) : sW (sC d) 86 Q 25 [vO 0 a0, vQ 6 a1, vO 10 a2, vI x3] [] M G 0 0 := by
  refine q_aload_n 26 rfl (show sCode 86 25 = some (.aload_n 0, 1) by decide +kernel) rfl (Nat.le_of_ble_eq_true rfl) ?_
  refine q_aload_n 27 rfl (show sCode 86 26 = some (.aload_n 1, 1) by decide +kernel) rfl (Nat.le_of_ble_eq_true rfl) ?_
  refine q_iconst 28 rfl (show sCode 86 27 = some (.iconst 2, 1) by decide +kernel) ⟨by decide, by decide⟩ ?_
  refine q_aload_n 29 rfl (show sCode 86 28 = some (.aload_n 2, 1) by decide +kernel) rfl (Nat.le_of_ble_eq_true rfl) ?_
  refine q_iload_n 30 rfl (show sCode 86 29 = some (.iload_n 3, 1) by decide +kernel) rfl ?_
  refine q_aload_n 31 rfl (show sCode 86 30 = some (.aload_n 2, 1) by decide +kernel) rfl (Nat.le_of_ble_eq_true rfl) ?_
  refine q_getR (vA 0 (a2 + 13) 12) 34 rfl (show sCode 86 31 = some (.getfield 46, 3) by decide +kernel) (show sFR (sKo 86).1 46 = some (10, 16) by decide +kernel) (by decide +kernel) (Or.inl (Or.inl rfl)) rfl ?_
  refine q_iload_n 35 rfl (show sCode 86 34 = some (.iload_n 3, 1) by decide +kernel) rfl ?_
  refine q_iald 36 rfl (show sCode 86 35 = some (.iaload, 1) by decide +kernel) h1 ?_
  exact q_virtI [vQ 6 a1, vI 2, vO 10 a2, vI x3, vI (M (a2 + 13) x3.toNat)] 39 rfl (show sCode 86 36 = some (.invokevirtual 49, 3) by decide +kernel) (show sMR (sKo 86).1 49 = some 81 by decide +kernel) (show 81 < 1000 ∧ sStat 81 = false ∧ sIni 81 = false ∧ sKo 81 = (0, 5, 2, 0, 0) by decide +kernel) rfl (Or.inl rfl) rfl (Nat.le_of_ble_eq_true rfl) rfl rfl rfl (by decide +kernel) kk
theorem b86_39 {d : Nat} {Q : Option sV → sM → sG → Prop} {M : sM} {G : sG} {a0 : Nat} {a1 : Nat} {a2 : Nat} {x3 : Int} {s0 : Int}  (k1 : s0 = 0 → sW (sC d) 86 Q 48 [vO 0 a0, vQ 6 a1, vO 10 a2, vI x3] [] M G 0 0) (k2 : s0 ≠ 0 → sW (sC d) 86 Q 42 [vO 0 a0, vQ 6 a1, vO 10 a2, vI x3] [] M G 0 0) : sW (sC d) 86 Q 39 [vO 0 a0, vQ 6 a1, vO 10 a2, vI x3] [vI s0] M G 0 0 := by
  refine q_ifeq 48 42 rfl (by decide) (show sCode 86 39 = some (.ifCond .eq 9, 3) by decide +kernel) ?_ ?_
  · intro q; exact k1 q
  · intro q; exact k2 q
theorem b86_42 {d : Nat} {Q : Option sV → sM → sG → Prop} {M : sM} {G : sG} {a0 : Nat} {a1 : Nat} {a2 : Nat} {x3 : Int}  (kk : sC d 73 [vO 10 a2, vI x3] M G (QI (fun r M1 G1 => sW (sC d) 86 Q 47 [vO 0 a0, vQ 6 a1, vO 10 a2, vI x3] (vI r :: []) M1 G1 0 0))) : sW (sC d) 86 Q 42 [vO 0 a0, vQ 6 a1, vO 10 a2, vI x3] [] M G 0 0 := by
  refine q_aload_n 43 rfl (show sCode 86 42 = some (.aload_n 2, 1) by decide +kernel) rfl (Nat.le_of_ble_eq_true rfl) ?_
  refine q_iload_n 44 rfl (show sCode 86 43 = some (.iload_n 3, 1) by decide +kernel) rfl ?_
  exact q_virtI [vI x3] 47 rfl (show sCode 86 44 = some (.invokevirtual 62, 3) by decide +kernel) (show sMR (sKo 86).1 62 = some 73 by decide +kernel) (show 73 < 1000 ∧ sStat 73 = false ∧ sIni 73 = false ∧ sKo 73 = (10, 1, 2, 0, 0) by decide +kernel) rfl (Or.inl rfl) rfl (Nat.le_of_ble_eq_true rfl) rfl rfl rfl (by decide +kernel) kk
theorem b86_47 {d : Nat} {Q : Option sV → sM → sG → Prop} {M : sM} {G : sG} {a0 : Nat} {a1 : Nat} {a2 : Nat} {x3 : Int} {s0 : Int}  (kk : sW (sC d) 86 Q 48 [vO 0 a0, vQ 6 a1, vO 10 a2, vI x3] [] M G 0 0) : sW (sC d) 86 Q 47 [vO 0 a0, vQ 6 a1, vO 10 a2, vI x3] [vI s0] M G 0 0 := by
  refine q_pop 48 rfl (show sCode 86 47 = some (.pop, 1) by decide +kernel) rfl ?_
  exact kk
theorem b86_48 {d : Nat} {Q : Option sV → sM → sG → Prop} {M : sM} {G : sG} {a0 : Nat} {a1 : Nat} {a2 : Nat} {x3 : Int} (h1 : sI (x3 + 1)) (kk : sW (sC d) 86 Q 11 [vO 0 a0, vQ 6 a1, vO 10 a2, vI (x3 + 1)] [] M G 0 0) : sW (sC d) 86 Q 48 [vO 0 a0, vQ 6 a1, vO 10 a2, vI x3] [] M G 0 0 := by
  refine q_iinc [vO 0 a0, vQ 6 a1, vO 10 a2, vI (x3 + 1)] 51 rfl (show sCode 86 48 = some (.iinc 3 1, 3) by decide +kernel) rfl rfl h1 rfl ?_
  refine q_goto 11 (by decide) (show sCode 86 51 = some (.goto (-40), 3) by decide +kernel) ?_
  exact kk
theorem b86_54 {d : Nat} {P : sM → sG → Prop} {M : sM} {G : sG}   (kk : P M G) : sW (sC d) 86 (QV P) 54 [vN, vN, vN, vN] [] M G 0 0 := by
  exact q_vret (show sCode 86 54 = some (.return_, 1) by decide +kernel) (by decide +kernel) (by decide +kernel) kk
-- 88 AfterTheLast$Clock.letIn (LAfterTheLast$Rule;LAfterTheLast$Town;)V
theorem b88_0 {d : Nat} {Q : Option sV → sM → sG → Prop} {M : sM} {G : sG} {a0 : Nat} {a1 : Nat} {a2 : Nat}  (hr : a1 ≠ 0) (kk : sC d 87 [vO 6 a1, vI 0] M G (QI (fun r M1 G1 => sW (sC d) 88 Q 5 [vO 0 a0, vQ 6 a1, vO 10 a2, vN, vN, vN] (vI r :: []) M1 G1 0 0))) : sW (sC d) 88 Q 0 [vO 0 a0, vQ 6 a1, vO 10 a2, vN, vN, vN] [] M G 0 0 := by
  refine q_aload_n 1 rfl (show sCode 88 0 = some (.aload_n 1, 1) by decide +kernel) rfl (Nat.le_of_ble_eq_true rfl) ?_
  refine q_iconst 2 rfl (show sCode 88 1 = some (.iconst 0, 1) by decide +kernel) ⟨by decide, by decide⟩ ?_
  exact q_virtI [vI 0] 5 rfl (show sCode 88 2 = some (.invokevirtual 57, 3) by decide +kernel) (show sMR (sKo 88).1 57 = some 87 by decide +kernel) (show 87 < 1000 ∧ sStat 87 = false ∧ sIni 87 = false ∧ sKo 87 = (6, 1, 2, 0, 0) by decide +kernel) rfl (Or.inr (Or.inl ⟨rfl, hr⟩)) rfl (Nat.le_of_ble_eq_true rfl) rfl rfl rfl (by decide +kernel) kk
theorem b88_5 {d : Nat} {Q : Option sV → sM → sG → Prop} {M : sM} {G : sG} {a0 : Nat} {a1 : Nat} {a2 : Nat} {s0 : Int}  (k1 : s0 ≠ 0 → sW (sC d) 88 Q 12 [vO 0 a0, vQ 6 a1, vO 10 a2, vN, vN, vN] [] M G 0 0) (k2 : s0 = 0 → sW (sC d) 88 Q 8 [vO 0 a0, vQ 6 a1, vO 10 a2, vN, vN, vN] [] M G 0 0) : sW (sC d) 88 Q 5 [vO 0 a0, vQ 6 a1, vO 10 a2, vN, vN, vN] [vI s0] M G 0 0 := by
  refine q_ifne 12 8 rfl (by decide) (show sCode 88 5 = some (.ifCond .ne 7, 3) by decide +kernel) ?_ ?_
  · intro q; exact k1 q
  · intro q; exact k2 q
theorem b88_8 {d : Nat} {Q : Option sV → sM → sG → Prop} {M : sM} {G : sG} {a0 : Nat} {a1 : Nat} {a2 : Nat}  (kk : sW (sC d) 88 Q 13 [vO 0 a0, vQ 6 a1, vO 10 a2, vN, vN, vN] [vI 1] M G 0 0) : sW (sC d) 88 Q 8 [vO 0 a0, vQ 6 a1, vO 10 a2, vN, vN, vN] [] M G 0 0 := by
  refine q_iconst 9 rfl (show sCode 88 8 = some (.iconst 1, 1) by decide +kernel) ⟨by decide, by decide⟩ ?_
  refine q_goto 13 (by decide) (show sCode 88 9 = some (.goto 4, 3) by decide +kernel) ?_
  exact kk
theorem b88_12 {d : Nat} {Q : Option sV → sM → sG → Prop} {M : sM} {G : sG} {a0 : Nat} {a1 : Nat} {a2 : Nat}  (kk : sW (sC d) 88 Q 13 [vO 0 a0, vQ 6 a1, vO 10 a2, vN, vN, vN] [vI 0] M G 0 0) : sW (sC d) 88 Q 12 [vO 0 a0, vQ 6 a1, vO 10 a2, vN, vN, vN] [] M G 0 0 := by
  refine q_iconst 13 rfl (show sCode 88 12 = some (.iconst 0, 1) by decide +kernel) ⟨by decide, by decide⟩ ?_
  exact kk
theorem b88_13 {d : Nat} {Q : Option sV → sM → sG → Prop} {M : sM} {G : sG} {a0 : Nat} {a1 : Nat} {a2 : Nat} {s0 : Int}  (kk : sC d 89 [vO 10 a2, vA 0 (a0 + 2) 12] M G (QV (fun M1 G1 => sW (sC d) 88 Q 22 [vO 0 a0, vQ 6 a1, vO 10 a2, vI s0, vN, vN] [] M1 G1 0 0))) : sW (sC d) 88 Q 13 [vO 0 a0, vQ 6 a1, vO 10 a2, vN, vN, vN] [vI s0] M G 0 0 := by
  refine q_istore_n [vO 0 a0, vQ 6 a1, vO 10 a2, vI s0, vN, vN] 14 rfl (show sCode 88 13 = some (.istore_n 3, 1) by decide +kernel) (Nat.lt_of_lt_of_le (Nat.lt_succ_self _) (Nat.le_of_ble_eq_true rfl)) rfl rfl ?_
  refine q_aload_n 15 rfl (show sCode 88 14 = some (.aload_n 2, 1) by decide +kernel) rfl (Nat.le_of_ble_eq_true rfl) ?_
  refine q_aload_n 16 rfl (show sCode 88 15 = some (.aload_n 0, 1) by decide +kernel) rfl (Nat.le_of_ble_eq_true rfl) ?_
  refine q_getR (vA 0 (a0 + 2) 12) 19 rfl (show sCode 88 16 = some (.getfield 15, 3) by decide +kernel) (show sFR (sKo 88).1 15 = some (0, 1) by decide +kernel) (by decide +kernel) (Or.inl (Or.inl rfl)) rfl ?_
  exact q_virtV [vA 0 (a0 + 2) 12] 22 rfl (show sCode 88 19 = some (.invokevirtual 65, 3) by decide +kernel) (show sMR (sKo 88).1 65 = some 89 by decide +kernel) (show 89 < 1000 ∧ sStat 89 = false ∧ sIni 89 = false ∧ sKo 89 = (10, 1, 0, 0, 0) by decide +kernel) rfl (Or.inl rfl) rfl (Nat.le_of_ble_eq_true rfl) rfl rfl rfl (by decide +kernel) kk
theorem b88_22 {d : Nat} {Q : Option sV → sM → sG → Prop} {M : sM} {G : sG} {a0 : Nat} {a1 : Nat} {a2 : Nat} {x3 : Int}  (kk : sW (sC d) 88 Q 25 [vO 0 a0, vQ 6 a1, vO 10 a2, vI x3, vI 0, vN] [] M G 0 0) : sW (sC d) 88 Q 22 [vO 0 a0, vQ 6 a1, vO 10 a2, vI x3, vN, vN] [] M G 0 0 := by
  refine q_iconst 23 rfl (show sCode 88 22 = some (.iconst 0, 1) by decide +kernel) ⟨by decide, by decide⟩ ?_
  refine q_istore [vO 0 a0, vQ 6 a1, vO 10 a2, vI x3, vI 0, vN] 25 rfl (show sCode 88 23 = some (.istore 4, 2) by decide +kernel) (Nat.lt_of_lt_of_le (Nat.lt_succ_self _) (Nat.le_of_ble_eq_true rfl)) rfl rfl ?_
  exact kk
theorem b88_25 {d : Nat} {Q : Option sV → sM → sG → Prop} {M : sM} {G : sG} {a0 : Nat} {a1 : Nat} {a2 : Nat} {x3 : Int} {x4 : Int}  (k1 : 12 ≤ x4 → sW (sC d) 88 Q 111 [vN, vN, vN, vN, vN, vN] [] M G 0 0) (k2 : x4 < 12 → sW (sC d) 88 Q 32 [vO 0 a0, vQ 6 a1, vO 10 a2, vI x3, vI x4, vN] [] M G 0 0) : sW (sC d) 88 Q 25 [vO 0 a0, vQ 6 a1, vO 10 a2, vI x3, vI x4, vN] [] M G 0 0 := by
  refine q_iload 27 rfl (show sCode 88 25 = some (.iload 4, 2) by decide +kernel) rfl ?_
  refine q_bipush 29 rfl (show sCode 88 27 = some (.bipush 12, 2) by decide +kernel) ⟨by decide, by decide⟩ (by decide +kernel) ?_
  refine q_icmpge 111 32 rfl (by decide) (show sCode 88 29 = some (.if_icmp .ge 82, 3) by decide +kernel) ?_ ?_
  · intro q; refine q_forget (L' := [vN, vQ 6 a1, vO 10 a2, vI x3, vI x4, vN]) 0 rfl ?_; refine q_forget (L' := [vN, vN, vO 10 a2, vI x3, vI x4, vN]) 1 rfl ?_; refine q_forget (L' := [vN, vN, vN, vI x3, vI x4, vN]) 2 rfl ?_; refine q_forget (L' := [vN, vN, vN, vN, vI x4, vN]) 3 rfl ?_; refine q_forget (L' := [vN, vN, vN, vN, vN, vN]) 4 rfl ?_; exact k1 q
  · intro q; exact k2 q
theorem b88_32 {d : Nat} {Q : Option sV → sM → sG → Prop} {M : sM} {G : sG} {a0 : Nat} {a1 : Nat} {a2 : Nat} {x3 : Int} {x4 : Int} (h1 : 0 ≤ x4 ∧ x4 < 12) (k1 : M (a0 + 2) x4.toNat = (-1) → sW (sC d) 88 Q 105 [vO 0 a0, vQ 6 a1, vO 10 a2, vI x3, vI x4, vN] [] M G 0 0) (k2 : M (a0 + 2) x4.toNat ≠ (-1) → sW (sC d) 88 Q 47 [vO 0 a0, vQ 6 a1, vO 10 a2, vI x3, vI x4, vI (M (a0 + 2) x4.toNat)] [] M G 0 0) : sW (sC d) 88 Q 32 [vO 0 a0, vQ 6 a1, vO 10 a2, vI x3, vI x4, vN] [] M G 0 0 := by
  refine q_aload_n 33 rfl (show sCode 88 32 = some (.aload_n 0, 1) by decide +kernel) rfl (Nat.le_of_ble_eq_true rfl) ?_
  refine q_getR (vA 0 (a0 + 2) 12) 36 rfl (show sCode 88 33 = some (.getfield 15, 3) by decide +kernel) (show sFR (sKo 88).1 15 = some (0, 1) by decide +kernel) (by decide +kernel) (Or.inl (Or.inl rfl)) rfl ?_
  refine q_iload 38 rfl (show sCode 88 36 = some (.iload 4, 2) by decide +kernel) rfl ?_
  refine q_iald 39 rfl (show sCode 88 38 = some (.iaload, 1) by decide +kernel) h1 ?_
  refine q_istore [vO 0 a0, vQ 6 a1, vO 10 a2, vI x3, vI x4, vI (M (a0 + 2) x4.toNat)] 41 rfl (show sCode 88 39 = some (.istore 5, 2) by decide +kernel) (Nat.lt_of_lt_of_le (Nat.lt_succ_self _) (Nat.le_of_ble_eq_true rfl)) rfl rfl ?_
  refine q_iload 43 rfl (show sCode 88 41 = some (.iload 5, 2) by decide +kernel) rfl ?_
  refine q_iconst 44 rfl (show sCode 88 43 = some (.iconst (-1), 1) by decide +kernel) ⟨by decide, by decide⟩ ?_
  refine q_icmpeq 105 47 rfl (by decide) (show sCode 88 44 = some (.if_icmp .eq 61, 3) by decide +kernel) ?_ ?_
  · intro q; refine q_forget (L' := [vO 0 a0, vQ 6 a1, vO 10 a2, vI x3, vI x4, vN]) 5 rfl ?_; exact k1 q
  · intro q; exact k2 q
theorem b88_47 {d : Nat} {Q : Option sV → sM → sG → Prop} {M : sM} {G : sG} {a0 : Nat} {a1 : Nat} {a2 : Nat} {x3 : Int} {x4 : Int} {x5 : Int} (h1 : 0 ≤ x4 ∧ x4 < 12) (k1 : M (a2 + 12) x4.toNat ≠ (-1) → sW (sC d) 88 Q 105 [vO 0 a0, vQ 6 a1, vO 10 a2, vI x3, vI x4, vN] [] M G 0 0) (k2 : M (a2 + 12) x4.toNat = (-1) → sW (sC d) 88 Q 58 [vO 0 a0, vQ 6 a1, vO 10 a2, vI x3, vI x4, vI x5] [] M G 0 0) : sW (sC d) 88 Q 47 [vO 0 a0, vQ 6 a1, vO 10 a2, vI x3, vI x4, vI x5] [] M G 0 0 := by
  refine q_aload_n 48 rfl (show sCode 88 47 = some (.aload_n 2, 1) by decide +kernel) rfl (Nat.le_of_ble_eq_true rfl) ?_
  refine q_getR (vA 0 (a2 + 12) 12) 51 rfl (show sCode 88 48 = some (.getfield 69, 3) by decide +kernel) (show sFR (sKo 88).1 69 = some (10, 15) by decide +kernel) (by decide +kernel) (Or.inl (Or.inl rfl)) rfl ?_
  refine q_iload 53 rfl (show sCode 88 51 = some (.iload 4, 2) by decide +kernel) rfl ?_
  refine q_iald 54 rfl (show sCode 88 53 = some (.iaload, 1) by decide +kernel) h1 ?_
  refine q_iconst 55 rfl (show sCode 88 54 = some (.iconst (-1), 1) by decide +kernel) ⟨by decide, by decide⟩ ?_
  refine q_icmpne 105 58 rfl (by decide) (show sCode 88 55 = some (.if_icmp .ne 50, 3) by decide +kernel) ?_ ?_
  · intro q; refine q_forget (L' := [vO 0 a0, vQ 6 a1, vO 10 a2, vI x3, vI x4, vN]) 5 rfl ?_; exact k1 q
  · intro q; exact k2 q
theorem b88_58 {d : Nat} {Q : Option sV → sM → sG → Prop} {M : sM} {G : sG} {a0 : Nat} {a1 : Nat} {a2 : Nat} {x3 : Int} {x4 : Int} {x5 : Int} (h1 : 0 ≤ x5 ∧ x5 < 18) (kk : sC d 69 [vO 10 a2, vI (M (a2 + 7) x5.toNat)] M G (QI (fun r M1 G1 => sW (sC d) 88 Q 69 [vO 0 a0, vQ 6 a1, vO 10 a2, vI x3, vI x4, vI x5] (vI r :: []) M1 G1 0 0))) : sW (sC d) 88 Q 58 [vO 0 a0, vQ 6 a1, vO 10 a2, vI x3, vI x4, vI x5] [] M G 0 0 := by
  refine q_aload_n 59 rfl (show sCode 88 58 = some (.aload_n 2, 1) by decide +kernel) rfl (Nat.le_of_ble_eq_true rfl) ?_
  refine q_aload_n 60 rfl (show sCode 88 59 = some (.aload_n 2, 1) by decide +kernel) rfl (Nat.le_of_ble_eq_true rfl) ?_
  refine q_getR (vA 0 (a2 + 7) 18) 63 rfl (show sCode 88 60 = some (.getfield 72, 3) by decide +kernel) (show sFR (sKo 88).1 72 = some (10, 8) by decide +kernel) (by decide +kernel) (Or.inl (Or.inl rfl)) rfl ?_
  refine q_iload 65 rfl (show sCode 88 63 = some (.iload 5, 2) by decide +kernel) rfl ?_
  refine q_iald 66 rfl (show sCode 88 65 = some (.iaload, 1) by decide +kernel) h1 ?_
  exact q_virtI [vI (M (a2 + 7) x5.toNat)] 69 rfl (show sCode 88 66 = some (.invokevirtual 75, 3) by decide +kernel) (show sMR (sKo 88).1 75 = some 69 by decide +kernel) (show 69 < 1000 ∧ sStat 69 = false ∧ sIni 69 = false ∧ sKo 69 = (10, 1, 1, 0, 0) by decide +kernel) rfl (Or.inl rfl) rfl (Nat.le_of_ble_eq_true rfl) rfl rfl rfl (by decide +kernel) kk
theorem b88_69 {d : Nat} {Q : Option sV → sM → sG → Prop} {M : sM} {G : sG} {a0 : Nat} {a1 : Nat} {a2 : Nat} {x3 : Int} {x4 : Int} {x5 : Int} {s0 : Int}  (k1 : s0 ≤ 0 → sW (sC d) 88 Q 105 [vO 0 a0, vQ 6 a1, vO 10 a2, vI x3, vI x4, vN] [] M G 0 0) (k2 : 0 < s0 → sW (sC d) 88 Q 72 [vO 0 a0, vQ 6 a1, vO 10 a2, vI x3, vI x4, vI x5] [] M G 0 0) : sW (sC d) 88 Q 69 [vO 0 a0, vQ 6 a1, vO 10 a2, vI x3, vI x4, vI x5] [vI s0] M G 0 0 := by
  refine q_ifle 105 72 rfl (by decide) (show sCode 88 69 = some (.ifCond .le 36, 3) by decide +kernel) ?_ ?_
  · intro q; refine q_forget (L' := [vO 0 a0, vQ 6 a1, vO 10 a2, vI x3, vI x4, vN]) 5 rfl ?_; exact k1 q
  · intro q; exact k2 q
theorem b88_72 {d : Nat} {Q : Option sV → sM → sG → Prop} {M : sM} {G : sG} {a0 : Nat} {a1 : Nat} {a2 : Nat} {x3 : Int} {x4 : Int} {x5 : Int}  (k1 : x3 ≠ 0 → sW (sC d) 88 Q 90 [vO 0 a0, vQ 6 a1, vO 10 a2, vI x3, vI x4, vI x5] [] M G 0 0) (k2 : x3 = 0 → sW (sC d) 88 Q 76 [vO 0 a0, vQ 6 a1, vO 10 a2, vI x3, vI x4, vI x5] [] M G 0 0) : sW (sC d) 88 Q 72 [vO 0 a0, vQ 6 a1, vO 10 a2, vI x3, vI x4, vI x5] [] M G 0 0 := by
  refine q_iload_n 73 rfl (show sCode 88 72 = some (.iload_n 3, 1) by decide +kernel) rfl ?_
  refine q_ifne 90 76 rfl (by decide) (show sCode 88 73 = some (.ifCond .ne 17, 3) by decide +kernel) ?_ ?_
  · intro q; exact k1 q
  · intro q; exact k2 q
theorem b88_76 {d : Nat} {Q : Option sV → sM → sG → Prop} {M : sM} {G : sG} {a0 : Nat} {a1 : Nat} {a2 : Nat} {x3 : Int} {x4 : Int} {x5 : Int}  (kk : sC d 81 [vO 0 a0, vQ 6 a1, vI 0, vO 10 a2, vI x4, vI x5] M G (QI (fun r M1 G1 => sW (sC d) 88 Q 87 [vO 0 a0, vQ 6 a1, vO 10 a2, vI x3, vI x4, vI x5] (vI r :: []) M1 G1 0 0))) : sW (sC d) 88 Q 76 [vO 0 a0, vQ 6 a1, vO 10 a2, vI x3, vI x4, vI x5] [] M G 0 0 := by
  refine q_aload_n 77 rfl (show sCode 88 76 = some (.aload_n 0, 1) by decide +kernel) rfl (Nat.le_of_ble_eq_true rfl) ?_
  refine q_aload_n 78 rfl (show sCode 88 77 = some (.aload_n 1, 1) by decide +kernel) rfl (Nat.le_of_ble_eq_true rfl) ?_
  refine q_iconst 79 rfl (show sCode 88 78 = some (.iconst 0, 1) by decide +kernel) ⟨by decide, by decide⟩ ?_
  refine q_aload_n 80 rfl (show sCode 88 79 = some (.aload_n 2, 1) by decide +kernel) rfl (Nat.le_of_ble_eq_true rfl) ?_
  refine q_iload 82 rfl (show sCode 88 80 = some (.iload 4, 2) by decide +kernel) rfl ?_
  refine q_iload 84 rfl (show sCode 88 82 = some (.iload 5, 2) by decide +kernel) rfl ?_
  exact q_virtI [vQ 6 a1, vI 0, vO 10 a2, vI x4, vI x5] 87 rfl (show sCode 88 84 = some (.invokevirtual 49, 3) by decide +kernel) (show sMR (sKo 88).1 49 = some 81 by decide +kernel) (show 81 < 1000 ∧ sStat 81 = false ∧ sIni 81 = false ∧ sKo 81 = (0, 5, 2, 0, 0) by decide +kernel) rfl (Or.inl rfl) rfl (Nat.le_of_ble_eq_true rfl) rfl rfl rfl (by decide +kernel) kk
theorem b88_87 {d : Nat} {Q : Option sV → sM → sG → Prop} {M : sM} {G : sG} {a0 : Nat} {a1 : Nat} {a2 : Nat} {x3 : Int} {x4 : Int} {x5 : Int} {s0 : Int}  (k1 : s0 = 0 → sW (sC d) 88 Q 105 [vO 0 a0, vQ 6 a1, vO 10 a2, vI x3, vI x4, vN] [] M G 0 0) (k2 : s0 ≠ 0 → sW (sC d) 88 Q 90 [vO 0 a0, vQ 6 a1, vO 10 a2, vI x3, vI x4, vI x5] [] M G 0 0) : sW (sC d) 88 Q 87 [vO 0 a0, vQ 6 a1, vO 10 a2, vI x3, vI x4, vI x5] [vI s0] M G 0 0 := by
  refine q_ifeq 105 90 rfl (by decide) (show sCode 88 87 = some (.ifCond .eq 18, 3) by decide +kernel) ?_ ?_
  · intro q; refine q_forget (L' := [vO 0 a0, vQ 6 a1, vO 10 a2, vI x3, vI x4, vN]) 5 rfl ?_; exact k1 q
  · intro q; exact k2 q
theorem b88_90 {d : Nat} {Q : Option sV → sM → sG → Prop} {M : sM} {G : sG} {a0 : Nat} {a1 : Nat} {a2 : Nat} {x3 : Int} {x4 : Int} {x5 : Int} (h1 : 0 ≤ x5 ∧ x5 < 18) (kk : sC d 70 [vO 10 a2, vI x4, vI (M (a2 + 7) x5.toNat), vI x5] M G (QV (fun M1 G1 => sW (sC d) 88 Q 105 [vO 0 a0, vQ 6 a1, vO 10 a2, vI x3, vI x4, vN] [] M1 G1 0 0))) : sW (sC d) 88 Q 90 [vO 0 a0, vQ 6 a1, vO 10 a2, vI x3, vI x4, vI x5] [] M G 0 0 := by
  refine q_aload_n 91 rfl (show sCode 88 90 = some (.aload_n 2, 1) by decide +kernel) rfl (Nat.le_of_ble_eq_true rfl) ?_
  refine q_iload 93 rfl (show sCode 88 91 = some (.iload 4, 2) by decide +kernel) rfl ?_
  refine q_aload_n 94 rfl (show sCode 88 93 = some (.aload_n 2, 1) by decide +kernel) rfl (Nat.le_of_ble_eq_true rfl) ?_
  refine q_getR (vA 0 (a2 + 7) 18) 97 rfl (show sCode 88 94 = some (.getfield 72, 3) by decide +kernel) (show sFR (sKo 88).1 72 = some (10, 8) by decide +kernel) (by decide +kernel) (Or.inl (Or.inl rfl)) rfl ?_
  refine q_iload 99 rfl (show sCode 88 97 = some (.iload 5, 2) by decide +kernel) rfl ?_
  refine q_iald 100 rfl (show sCode 88 99 = some (.iaload, 1) by decide +kernel) h1 ?_
  refine q_iload 102 rfl (show sCode 88 100 = some (.iload 5, 2) by decide +kernel) rfl ?_
  refine q_forget (L' := [vO 0 a0, vQ 6 a1, vO 10 a2, vI x3, vI x4, vN]) 5 rfl ?_
  exact q_virtV [vI x4, vI (M (a2 + 7) x5.toNat), vI x5] 105 rfl (show sCode 88 102 = some (.invokevirtual 79, 3) by decide +kernel) (show sMR (sKo 88).1 79 = some 70 by decide +kernel) (show 70 < 1000 ∧ sStat 70 = false ∧ sIni 70 = false ∧ sKo 70 = (10, 3, 0, 0, 0) by decide +kernel) rfl (Or.inl rfl) rfl (Nat.le_of_ble_eq_true rfl) rfl rfl rfl (by decide +kernel) kk
theorem b88_105 {d : Nat} {Q : Option sV → sM → sG → Prop} {M : sM} {G : sG} {a0 : Nat} {a1 : Nat} {a2 : Nat} {x3 : Int} {x4 : Int} (h1 : sI (x4 + 1)) (kk : sW (sC d) 88 Q 25 [vO 0 a0, vQ 6 a1, vO 10 a2, vI x3, vI (x4 + 1), vN] [] M G 0 0) : sW (sC d) 88 Q 105 [vO 0 a0, vQ 6 a1, vO 10 a2, vI x3, vI x4, vN] [] M G 0 0 := by
  refine q_iinc [vO 0 a0, vQ 6 a1, vO 10 a2, vI x3, vI (x4 + 1), vN] 108 rfl (show sCode 88 105 = some (.iinc 4 1, 3) by decide +kernel) rfl rfl h1 rfl ?_
  refine q_goto 25 (by decide) (show sCode 88 108 = some (.goto (-83), 3) by decide +kernel) ?_
  exact kk
theorem b88_111 {d : Nat} {P : sM → sG → Prop} {M : sM} {G : sG}   (kk : P M G) : sW (sC d) 88 (QV P) 111 [vN, vN, vN, vN, vN, vN] [] M G 0 0 := by
  exact q_vret (show sCode 88 111 = some (.return_, 1) by decide +kernel) (by decide +kernel) (by decide +kernel) kk
-- 90 AfterTheLast$Clock.countLate (LAfterTheLast$Town;)V
theorem b90_0 {d : Nat} {Q : Option sV → sM → sG → Prop} {M : sM} {G : sG} {a0 : Nat}  (kk : sW (sC d) 90 Q 2 [vO 10 a0, vI 0] [] M G 0 0) : sW (sC d) 90 Q 0 [vO 10 a0, vN] [] M G 0 0 := by
  refine q_iconst 1 rfl (show sCode 90 0 = some (.iconst 0, 1) by decide +kernel) ⟨by decide, by decide⟩ ?_
  refine q_istore_n [vO 10 a0, vI 0] 2 rfl (show sCode 90 1 = some (.istore_n 1, 1) by decide +kernel) (Nat.lt_of_lt_of_le (Nat.lt_succ_self _) (Nat.le_of_ble_eq_true rfl)) rfl rfl ?_
  exact kk
theorem b90_2 {d : Nat} {Q : Option sV → sM → sG → Prop} {M : sM} {G : sG} {a0 : Nat} {x1 : Int}  (k1 : 12 ≤ x1 → sW (sC d) 90 Q 32 [vN, vN] [] M G 0 0) (k2 : x1 < 12 → sW (sC d) 90 Q 8 [vO 10 a0, vI x1] [] M G 0 0) : sW (sC d) 90 Q 2 [vO 10 a0, vI x1] [] M G 0 0 := by
  refine q_iload_n 3 rfl (show sCode 90 2 = some (.iload_n 1, 1) by decide +kernel) rfl ?_
  refine q_bipush 5 rfl (show sCode 90 3 = some (.bipush 12, 2) by decide +kernel) ⟨by decide, by decide⟩ (by decide +kernel) ?_
  refine q_icmpge 32 8 rfl (by decide) (show sCode 90 5 = some (.if_icmp .ge 27, 3) by decide +kernel) ?_ ?_
  · intro q; refine q_forget (L' := [vN, vI x1]) 0 rfl ?_; refine q_forget (L' := [vN, vN]) 1 rfl ?_; exact k1 q
  · intro q; exact k2 q
theorem b90_8 {d : Nat} {Q : Option sV → sM → sG → Prop} {M : sM} {G : sG} {a0 : Nat} {x1 : Int}  (kk : sC d 80 [vO 10 a0, vI x1] M G (QI (fun r M1 G1 => sW (sC d) 90 Q 13 [vO 10 a0, vI x1] (vI r :: []) M1 G1 0 0))) : sW (sC d) 90 Q 8 [vO 10 a0, vI x1] [] M G 0 0 := by
  refine q_aload_n 9 rfl (show sCode 90 8 = some (.aload_n 0, 1) by decide +kernel) rfl (Nat.le_of_ble_eq_true rfl) ?_
  refine q_iload_n 10 rfl (show sCode 90 9 = some (.iload_n 1, 1) by decide +kernel) rfl ?_
  exact q_virtI [vI x1] 13 rfl (show sCode 90 10 = some (.invokevirtual 39, 3) by decide +kernel) (show sMR (sKo 90).1 39 = some 80 by decide +kernel) (show 80 < 1000 ∧ sStat 80 = false ∧ sIni 80 = false ∧ sKo 80 = (10, 1, 2, 0, 0) by decide +kernel) rfl (Or.inl rfl) rfl (Nat.le_of_ble_eq_true rfl) rfl rfl rfl (by decide +kernel) kk
theorem b90_13 {d : Nat} {Q : Option sV → sM → sG → Prop} {M : sM} {G : sG} {a0 : Nat} {x1 : Int} {s0 : Int}  (k1 : s0 = 0 → sW (sC d) 90 Q 26 [vO 10 a0, vI x1] [] M G 0 0) (k2 : s0 ≠ 0 → sW (sC d) 90 Q 16 [vO 10 a0, vI x1] [] M G 0 0) : sW (sC d) 90 Q 13 [vO 10 a0, vI x1] [vI s0] M G 0 0 := by
  refine q_ifeq 26 16 rfl (by decide) (show sCode 90 13 = some (.ifCond .eq 13, 3) by decide +kernel) ?_ ?_
  · intro q; exact k1 q
  · intro q; exact k2 q
theorem b90_16 {d : Nat} {Q : Option sV → sM → sG → Prop} {M : sM} {G : sG} {a0 : Nat} {x1 : Int} (h1 : sI ((M a0 14) + 1)) (kk : sW (sC d) 90 Q 26 [vO 10 a0, vI x1] [] (sUpd M a0 14 ((M a0 14) + 1)) G 0 0) : sW (sC d) 90 Q 16 [vO 10 a0, vI x1] [] M G 0 0 := by
  refine q_aload_n 17 rfl (show sCode 90 16 = some (.aload_n 0, 1) by decide +kernel) rfl (Nat.le_of_ble_eq_true rfl) ?_
  refine q_dup 18 rfl (show sCode 90 17 = some (.dup, 1) by decide +kernel) rfl ?_
  refine q_getI 21 rfl (show sCode 90 18 = some (.getfield 83, 3) by decide +kernel) (show sFR (sKo 90).1 83 = some (10, 14) by decide +kernel) (by decide +kernel) (Or.inl (Or.inl rfl)) ?_
  refine q_iconst 22 rfl (show sCode 90 21 = some (.iconst 1, 1) by decide +kernel) ⟨by decide, by decide⟩ ?_
  refine q_iadd 23 rfl (show sCode 90 22 = some (.iadd, 1) by decide +kernel) h1 ?_
  refine q_putI 26 rfl (show sCode 90 23 = some (.putfield 83, 3) by decide +kernel) (show sFR (sKo 90).1 83 = some (10, 14) by decide +kernel) (by decide +kernel) (Or.inl ⟨Or.inl rfl, by decide +kernel⟩) ?_
  exact kk
theorem b90_26 {d : Nat} {Q : Option sV → sM → sG → Prop} {M : sM} {G : sG} {a0 : Nat} {x1 : Int} (h1 : sI (x1 + 1)) (kk : sW (sC d) 90 Q 2 [vO 10 a0, vI (x1 + 1)] [] M G 0 0) : sW (sC d) 90 Q 26 [vO 10 a0, vI x1] [] M G 0 0 := by
  refine q_iinc [vO 10 a0, vI (x1 + 1)] 29 rfl (show sCode 90 26 = some (.iinc 1 1, 3) by decide +kernel) rfl rfl h1 rfl ?_
  refine q_goto 2 (by decide) (show sCode 90 29 = some (.goto (-27), 3) by decide +kernel) ?_
  exact kk
theorem b90_32 {d : Nat} {P : sM → sG → Prop} {M : sM} {G : sG}   (kk : P M G) : sW (sC d) 90 (QV P) 32 [vN, vN] [] M G 0 0 := by
  exact q_vret (show sCode 90 32 = some (.return_, 1) by decide +kernel) (by decide +kernel) (by decide +kernel) kk
-- 99 AfterTheLast$Crossings.crosses (LAfterTheLast$Town;III)Z
theorem b99_0 {d : Nat} {Q : Option sV → sM → sG → Prop} {M : sM} {G : sG} {a0 : Nat} {x1 : Int} {x2 : Int} {x3 : Int}  (kk : sC d 100 [vO 10 a0, vI x1, vI x2, vI x3] M G (QI (fun r M1 G1 => sW (sC d) 99 Q 7 [vO 10 a0, vI x1, vI x2, vI x3] (vI r :: []) M1 G1 0 0))) : sW (sC d) 99 Q 0 [vO 10 a0, vI x1, vI x2, vI x3] [] M G 0 0 := by
  refine q_aload_n 1 rfl (show sCode 99 0 = some (.aload_n 0, 1) by decide +kernel) rfl (Nat.le_of_ble_eq_true rfl) ?_
  refine q_iload_n 2 rfl (show sCode 99 1 = some (.iload_n 1, 1) by decide +kernel) rfl ?_
  refine q_iload_n 3 rfl (show sCode 99 2 = some (.iload_n 2, 1) by decide +kernel) rfl ?_
  refine q_iload_n 4 rfl (show sCode 99 3 = some (.iload_n 3, 1) by decide +kernel) rfl ?_
  exact q_statI [vO 10 a0, vI x1, vI x2, vI x3] 7 rfl (show sCode 99 4 = some (.invokestatic 40, 3) by decide +kernel) (show sMR (sKo 99).1 40 = some 100 by decide +kernel) (show 100 < 1000 ∧ sStat 100 = true ∧ sKo 100 = (1, 4, 2, 0, 0) by decide +kernel) rfl rfl (Nat.le_of_ble_eq_true rfl) rfl rfl rfl (by decide +kernel) kk
theorem b99_7 {d : Nat} {Q : Option sV → sM → sG → Prop} {M : sM} {G : sG} {a0 : Nat} {x1 : Int} {x2 : Int} {x3 : Int} {s0 : Int}  (k1 : s0 ≠ 0 → sW (sC d) 99 Q 20 [vN, vN, vN, vN] [] M G 0 0) (k2 : s0 = 0 → sW (sC d) 99 Q 10 [vO 10 a0, vI x1, vI x2, vI x3] [] M G 0 0) : sW (sC d) 99 Q 7 [vO 10 a0, vI x1, vI x2, vI x3] [vI s0] M G 0 0 := by
  refine q_ifne 20 10 rfl (by decide) (show sCode 99 7 = some (.ifCond .ne 13, 3) by decide +kernel) ?_ ?_
  · intro q; refine q_forget (L' := [vN, vI x1, vI x2, vI x3]) 0 rfl ?_; refine q_forget (L' := [vN, vN, vI x2, vI x3]) 1 rfl ?_; refine q_forget (L' := [vN, vN, vN, vI x3]) 2 rfl ?_; refine q_forget (L' := [vN, vN, vN, vN]) 3 rfl ?_; exact k1 q
  · intro q; exact k2 q
theorem b99_10 {d : Nat} {Q : Option sV → sM → sG → Prop} {M : sM} {G : sG} {a0 : Nat} {x1 : Int} {x2 : Int} {x3 : Int}  (kk : sC d 100 [vO 10 a0, vI x2, vI x1, vI x3] M G (QI (fun r M1 G1 => sW (sC d) 99 Q 17 [vN, vN, vN, vN] (vI r :: []) M1 G1 0 0))) : sW (sC d) 99 Q 10 [vO 10 a0, vI x1, vI x2, vI x3] [] M G 0 0 := by
  refine q_aload_n 11 rfl (show sCode 99 10 = some (.aload_n 0, 1) by decide +kernel) rfl (Nat.le_of_ble_eq_true rfl) ?_
  refine q_iload_n 12 rfl (show sCode 99 11 = some (.iload_n 2, 1) by decide +kernel) rfl ?_
  refine q_iload_n 13 rfl (show sCode 99 12 = some (.iload_n 1, 1) by decide +kernel) rfl ?_
  refine q_iload_n 14 rfl (show sCode 99 13 = some (.iload_n 3, 1) by decide +kernel) rfl ?_
  refine q_forget (L' := [vN, vI x1, vI x2, vI x3]) 0 rfl ?_
  refine q_forget (L' := [vN, vN, vI x2, vI x3]) 1 rfl ?_
  refine q_forget (L' := [vN, vN, vN, vI x3]) 2 rfl ?_
  refine q_forget (L' := [vN, vN, vN, vN]) 3 rfl ?_
  exact q_statI [vO 10 a0, vI x2, vI x1, vI x3] 17 rfl (show sCode 99 14 = some (.invokestatic 40, 3) by decide +kernel) (show sMR (sKo 99).1 40 = some 100 by decide +kernel) (show 100 < 1000 ∧ sStat 100 = true ∧ sKo 100 = (1, 4, 2, 0, 0) by decide +kernel) rfl rfl (Nat.le_of_ble_eq_true rfl) rfl rfl rfl (by decide +kernel) kk
theorem b99_17 {d : Nat} {Q : Option sV → sM → sG → Prop} {M : sM} {G : sG} {s0 : Int}  (k1 : s0 = 0 → sW (sC d) 99 Q 24 [vN, vN, vN, vN] [] M G 0 0) (k2 : s0 ≠ 0 → sW (sC d) 99 Q 20 [vN, vN, vN, vN] [] M G 0 0) : sW (sC d) 99 Q 17 [vN, vN, vN, vN] [vI s0] M G 0 0 := by
  refine q_ifeq 24 20 rfl (by decide) (show sCode 99 17 = some (.ifCond .eq 7, 3) by decide +kernel) ?_ ?_
  · intro q; exact k1 q
  · intro q; exact k2 q
theorem b99_20 {d : Nat} {Q : Option sV → sM → sG → Prop} {M : sM} {G : sG}   (kk : sW (sC d) 99 Q 25 [vN, vN, vN, vN] [vI 1] M G 0 0) : sW (sC d) 99 Q 20 [vN, vN, vN, vN] [] M G 0 0 := by
  refine q_iconst 21 rfl (show sCode 99 20 = some (.iconst 1, 1) by decide +kernel) ⟨by decide, by decide⟩ ?_
  refine q_goto 25 (by decide) (show sCode 99 21 = some (.goto 4, 3) by decide +kernel) ?_
  exact kk
theorem b99_24 {d : Nat} {Q : Option sV → sM → sG → Prop} {M : sM} {G : sG}   (kk : sW (sC d) 99 Q 25 [vN, vN, vN, vN] [vI 0] M G 0 0) : sW (sC d) 99 Q 24 [vN, vN, vN, vN] [] M G 0 0 := by
  refine q_iconst 25 rfl (show sCode 99 24 = some (.iconst 0, 1) by decide +kernel) ⟨by decide, by decide⟩ ?_
  exact kk
theorem b99_25 {d : Nat} {P : Int → sM → sG → Prop} {M : sM} {G : sG} {s0 : Int}  (h01 : s0 = 0 ∨ s0 = 1) (kk : P s0 M G) : sW (sC d) 99 (QI P) 25 [vN, vN, vN, vN] [vI s0] M G 0 0 := by
  exact q_zret (show sCode 99 25 = some (.ireturn, 1) by decide +kernel) (by decide +kernel) h01 (by decide +kernel) kk
-- 100 AfterTheLast$Crossings.crossesBehind (LAfterTheLast$Town;III)Z
theorem b100_0 {d : Nat} {Q : Option sV → sM → sG → Prop} {M : sM} {G : sG} {a0 : Nat} {x1 : Int} {x2 : Int} {x3 : Int} (h1 : 0 ≤ x2 ∧ x2 < 18) (h2 : 0 ≤ x1 ∧ x1 < 18) (k1 : M (a0 + 8) x1.toNat < M (a0 + 8) x2.toNat → sW (sC d) 100 Q 17 [vO 10 a0, vI x1, vI x2, vI x3] [] M G 0 0) (k2 : M (a0 + 8) x2.toNat ≤ M (a0 + 8) x1.toNat → sW (sC d) 100 Q 15 [vN, vN, vN, vN] [] M G 0 0) : sW (sC d) 100 Q 0 [vO 10 a0, vI x1, vI x2, vI x3] [] M G 0 0 := by
  refine q_aload_n 1 rfl (show sCode 100 0 = some (.aload_n 0, 1) by decide +kernel) rfl (Nat.le_of_ble_eq_true rfl) ?_
  refine q_getR (vA 0 (a0 + 8) 18) 4 rfl (show sCode 100 1 = some (.getfield 44, 3) by decide +kernel) (show sFR (sKo 100).1 44 = some (10, 9) by decide +kernel) (by decide +kernel) (Or.inl (Or.inl rfl)) rfl ?_
  refine q_iload_n 5 rfl (show sCode 100 4 = some (.iload_n 2, 1) by decide +kernel) rfl ?_
  refine q_iald 6 rfl (show sCode 100 5 = some (.iaload, 1) by decide +kernel) h1 ?_
  refine q_aload_n 7 rfl (show sCode 100 6 = some (.aload_n 0, 1) by decide +kernel) rfl (Nat.le_of_ble_eq_true rfl) ?_
  refine q_getR (vA 0 (a0 + 8) 18) 10 rfl (show sCode 100 7 = some (.getfield 44, 3) by decide +kernel) (show sFR (sKo 100).1 44 = some (10, 9) by decide +kernel) (by decide +kernel) (Or.inl (Or.inl rfl)) rfl ?_
  refine q_iload_n 11 rfl (show sCode 100 10 = some (.iload_n 1, 1) by decide +kernel) rfl ?_
  refine q_iald 12 rfl (show sCode 100 11 = some (.iaload, 1) by decide +kernel) h2 ?_
  refine q_icmpgt 17 15 rfl (by decide) (show sCode 100 12 = some (.if_icmp .gt 5, 3) by decide +kernel) ?_ ?_
  · intro q; exact k1 q
  · intro q; refine q_forget (L' := [vN, vI x1, vI x2, vI x3]) 0 rfl ?_; refine q_forget (L' := [vN, vN, vI x2, vI x3]) 1 rfl ?_; refine q_forget (L' := [vN, vN, vN, vI x3]) 2 rfl ?_; refine q_forget (L' := [vN, vN, vN, vN]) 3 rfl ?_; exact k2 q
theorem b100_15 {d : Nat} {P : Int → sM → sG → Prop} {M : sM} {G : sG}   (kk : P 0 M G) : sW (sC d) 100 (QI P) 15 [vN, vN, vN, vN] [] M G 0 0 := by
  refine q_iconst 16 rfl (show sCode 100 15 = some (.iconst 0, 1) by decide +kernel) ⟨by decide, by decide⟩ ?_
  exact q_zret (show sCode 100 16 = some (.ireturn, 1) by decide +kernel) (by decide +kernel) (by decide) (by decide +kernel) kk
theorem b100_17 {d : Nat} {Q : Option sV → sM → sG → Prop} {M : sM} {G : sG} {a0 : Nat} {x1 : Int} {x2 : Int} {x3 : Int}  (k1 : x3 ≠ 0 → sW (sC d) 100 Q 57 [vO 10 a0, vI x1, vI x2, vI x3] [] M G 0 0) (k2 : x3 = 0 → sW (sC d) 100 Q 21 [vO 10 a0, vI x1, vI x2, vN] [] M G 0 0) : sW (sC d) 100 Q 17 [vO 10 a0, vI x1, vI x2, vI x3] [] M G 0 0 := by
  refine q_iload_n 18 rfl (show sCode 100 17 = some (.iload_n 3, 1) by decide +kernel) rfl ?_
  refine q_ifne 57 21 rfl (by decide) (show sCode 100 18 = some (.ifCond .ne 39, 3) by decide +kernel) ?_ ?_
  · intro q; exact k1 q
  · intro q; refine q_forget (L' := [vO 10 a0, vI x1, vI x2, vN]) 3 rfl ?_; exact k2 q
theorem b100_21 {d : Nat} {Q : Option sV → sM → sG → Prop} {M : sM} {G : sG} {a0 : Nat} {x1 : Int} {x2 : Int} (h1 : 0 ≤ x2 ∧ x2 < 18) (h2 : 0 ≤ x1 ∧ x1 < 18) (k1 : M (a0 + 9) x1.toNat ≤ M (a0 + 8) x2.toNat → sW (sC d) 100 Q 55 [vN, vN, vN, vN] [] M G 0 0) (k2 : M (a0 + 8) x2.toNat < M (a0 + 9) x1.toNat → sW (sC d) 100 Q 36 [vO 10 a0, vI x1, vI x2, vN] [] M G 0 0) : sW (sC d) 100 Q 21 [vO 10 a0, vI x1, vI x2, vN] [] M G 0 0 := by
  refine q_aload_n 22 rfl (show sCode 100 21 = some (.aload_n 0, 1) by decide +kernel) rfl (Nat.le_of_ble_eq_true rfl) ?_
  refine q_getR (vA 0 (a0 + 8) 18) 25 rfl (show sCode 100 22 = some (.getfield 44, 3) by decide +kernel) (show sFR (sKo 100).1 44 = some (10, 9) by decide +kernel) (by decide +kernel) (Or.inl (Or.inl rfl)) rfl ?_
  refine q_iload_n 26 rfl (show sCode 100 25 = some (.iload_n 2, 1) by decide +kernel) rfl ?_
  refine q_iald 27 rfl (show sCode 100 26 = some (.iaload, 1) by decide +kernel) h1 ?_
  refine q_aload_n 28 rfl (show sCode 100 27 = some (.aload_n 0, 1) by decide +kernel) rfl (Nat.le_of_ble_eq_true rfl) ?_
  refine q_getR (vA 0 (a0 + 9) 18) 31 rfl (show sCode 100 28 = some (.getfield 49, 3) by decide +kernel) (show sFR (sKo 100).1 49 = some (10, 10) by decide +kernel) (by decide +kernel) (Or.inl (Or.inl rfl)) rfl ?_
  refine q_iload_n 32 rfl (show sCode 100 31 = some (.iload_n 1, 1) by decide +kernel) rfl ?_
  refine q_iald 33 rfl (show sCode 100 32 = some (.iaload, 1) by decide +kernel) h2 ?_
  refine q_icmpge 55 36 rfl (by decide) (show sCode 100 33 = some (.if_icmp .ge 22, 3) by decide +kernel) ?_ ?_
  · intro q; refine q_forget (L' := [vN, vI x1, vI x2, vN]) 0 rfl ?_; refine q_forget (L' := [vN, vN, vI x2, vN]) 1 rfl ?_; refine q_forget (L' := [vN, vN, vN, vN]) 2 rfl ?_; exact k1 q
  · intro q; exact k2 q
theorem b100_36 {d : Nat} {Q : Option sV → sM → sG → Prop} {M : sM} {G : sG} {a0 : Nat} {x1 : Int} {x2 : Int} (h1 : 0 ≤ x2 ∧ x2 < 18) (h2 : 0 ≤ x1 ∧ x1 < 18) (k1 : M (a0 + 9) x2.toNat ≤ M (a0 + 9) x1.toNat → sW (sC d) 100 Q 55 [vN, vN, vN, vN] [] M G 0 0) (k2 : M (a0 + 9) x1.toNat < M (a0 + 9) x2.toNat → sW (sC d) 100 Q 51 [vN, vN, vN, vN] [] M G 0 0) : sW (sC d) 100 Q 36 [vO 10 a0, vI x1, vI x2, vN] [] M G 0 0 := by
  refine q_aload_n 37 rfl (show sCode 100 36 = some (.aload_n 0, 1) by decide +kernel) rfl (Nat.le_of_ble_eq_true rfl) ?_
  refine q_getR (vA 0 (a0 + 9) 18) 40 rfl (show sCode 100 37 = some (.getfield 49, 3) by decide +kernel) (show sFR (sKo 100).1 49 = some (10, 10) by decide +kernel) (by decide +kernel) (Or.inl (Or.inl rfl)) rfl ?_
  refine q_iload_n 41 rfl (show sCode 100 40 = some (.iload_n 2, 1) by decide +kernel) rfl ?_
  refine q_iald 42 rfl (show sCode 100 41 = some (.iaload, 1) by decide +kernel) h1 ?_
  refine q_aload_n 43 rfl (show sCode 100 42 = some (.aload_n 0, 1) by decide +kernel) rfl (Nat.le_of_ble_eq_true rfl) ?_
  refine q_getR (vA 0 (a0 + 9) 18) 46 rfl (show sCode 100 43 = some (.getfield 49, 3) by decide +kernel) (show sFR (sKo 100).1 49 = some (10, 10) by decide +kernel) (by decide +kernel) (Or.inl (Or.inl rfl)) rfl ?_
  refine q_iload_n 47 rfl (show sCode 100 46 = some (.iload_n 1, 1) by decide +kernel) rfl ?_
  refine q_iald 48 rfl (show sCode 100 47 = some (.iaload, 1) by decide +kernel) h2 ?_
  refine q_icmple 55 51 rfl (by decide) (show sCode 100 48 = some (.if_icmp .le 7, 3) by decide +kernel) ?_ ?_
  · intro q; refine q_forget (L' := [vN, vI x1, vI x2, vN]) 0 rfl ?_; refine q_forget (L' := [vN, vN, vI x2, vN]) 1 rfl ?_; refine q_forget (L' := [vN, vN, vN, vN]) 2 rfl ?_; exact k1 q
  · intro q; refine q_forget (L' := [vN, vI x1, vI x2, vN]) 0 rfl ?_; refine q_forget (L' := [vN, vN, vI x2, vN]) 1 rfl ?_; refine q_forget (L' := [vN, vN, vN, vN]) 2 rfl ?_; exact k2 q
theorem b100_51 {d : Nat} {Q : Option sV → sM → sG → Prop} {M : sM} {G : sG}   (kk : sW (sC d) 100 Q 56 [vN, vN, vN, vN] [vI 1] M G 0 0) : sW (sC d) 100 Q 51 [vN, vN, vN, vN] [] M G 0 0 := by
  refine q_iconst 52 rfl (show sCode 100 51 = some (.iconst 1, 1) by decide +kernel) ⟨by decide, by decide⟩ ?_
  refine q_goto 56 (by decide) (show sCode 100 52 = some (.goto 4, 3) by decide +kernel) ?_
  exact kk
theorem b100_55 {d : Nat} {Q : Option sV → sM → sG → Prop} {M : sM} {G : sG}   (kk : sW (sC d) 100 Q 56 [vN, vN, vN, vN] [vI 0] M G 0 0) : sW (sC d) 100 Q 55 [vN, vN, vN, vN] [] M G 0 0 := by
  refine q_iconst 56 rfl (show sCode 100 55 = some (.iconst 0, 1) by decide +kernel) ⟨by decide, by decide⟩ ?_
  exact kk
theorem b100_56 {d : Nat} {P : Int → sM → sG → Prop} {M : sM} {G : sG} {s0 : Int}  (h01 : s0 = 0 ∨ s0 = 1) (kk : P s0 M G) : sW (sC d) 100 (QI P) 56 [vN, vN, vN, vN] [vI s0] M G 0 0 := by
  exact q_zret (show sCode 100 56 = some (.ireturn, 1) by decide +kernel) (by decide +kernel) h01 (by decide +kernel) kk
theorem b100_57 {d : Nat} {Q : Option sV → sM → sG → Prop} {M : sM} {G : sG} {a0 : Nat} {x1 : Int} {x2 : Int} {x3 : Int}  (k1 : x3 ≠ 1 → sW (sC d) 100 Q 81 [vN, vN, vN, vN] [] M G 0 0) (k2 : x3 = 1 → sW (sC d) 100 Q 62 [vO 10 a0, vI x1, vI x2, vN] [] M G 0 0) : sW (sC d) 100 Q 57 [vO 10 a0, vI x1, vI x2, vI x3] [] M G 0 0 := by
  refine q_iload_n 58 rfl (show sCode 100 57 = some (.iload_n 3, 1) by decide +kernel) rfl ?_
  refine q_iconst 59 rfl (show sCode 100 58 = some (.iconst 1, 1) by decide +kernel) ⟨by decide, by decide⟩ ?_
  refine q_icmpne 81 62 rfl (by decide) (show sCode 100 59 = some (.if_icmp .ne 22, 3) by decide +kernel) ?_ ?_
  · intro q; refine q_forget (L' := [vN, vI x1, vI x2, vI x3]) 0 rfl ?_; refine q_forget (L' := [vN, vN, vI x2, vI x3]) 1 rfl ?_; refine q_forget (L' := [vN, vN, vN, vI x3]) 2 rfl ?_; refine q_forget (L' := [vN, vN, vN, vN]) 3 rfl ?_; exact k1 q
  · intro q; refine q_forget (L' := [vO 10 a0, vI x1, vI x2, vN]) 3 rfl ?_; exact k2 q
theorem b100_62 {d : Nat} {Q : Option sV → sM → sG → Prop} {M : sM} {G : sG} {a0 : Nat} {x1 : Int} {x2 : Int} (h1 : 0 ≤ x2 ∧ x2 < 18) (h2 : 0 ≤ x1 ∧ x1 < 18) (k1 : M (a0 + 9) x1.toNat ≤ M (a0 + 9) x2.toNat → sW (sC d) 100 Q 81 [vN, vN, vN, vN] [] M G 0 0) (k2 : M (a0 + 9) x2.toNat < M (a0 + 9) x1.toNat → sW (sC d) 100 Q 77 [vN, vN, vN, vN] [] M G 0 0) : sW (sC d) 100 Q 62 [vO 10 a0, vI x1, vI x2, vN] [] M G 0 0 := by
  refine q_aload_n 63 rfl (show sCode 100 62 = some (.aload_n 0, 1) by decide +kernel) rfl (Nat.le_of_ble_eq_true rfl) ?_
  refine q_getR (vA 0 (a0 + 9) 18) 66 rfl (show sCode 100 63 = some (.getfield 49, 3) by decide +kernel) (show sFR (sKo 100).1 49 = some (10, 10) by decide +kernel) (by decide +kernel) (Or.inl (Or.inl rfl)) rfl ?_
  refine q_iload_n 67 rfl (show sCode 100 66 = some (.iload_n 2, 1) by decide +kernel) rfl ?_
  refine q_iald 68 rfl (show sCode 100 67 = some (.iaload, 1) by decide +kernel) h1 ?_
  refine q_aload_n 69 rfl (show sCode 100 68 = some (.aload_n 0, 1) by decide +kernel) rfl (Nat.le_of_ble_eq_true rfl) ?_
  refine q_getR (vA 0 (a0 + 9) 18) 72 rfl (show sCode 100 69 = some (.getfield 49, 3) by decide +kernel) (show sFR (sKo 100).1 49 = some (10, 10) by decide +kernel) (by decide +kernel) (Or.inl (Or.inl rfl)) rfl ?_
  refine q_iload_n 73 rfl (show sCode 100 72 = some (.iload_n 1, 1) by decide +kernel) rfl ?_
  refine q_iald 74 rfl (show sCode 100 73 = some (.iaload, 1) by decide +kernel) h2 ?_
  refine q_icmpge 81 77 rfl (by decide) (show sCode 100 74 = some (.if_icmp .ge 7, 3) by decide +kernel) ?_ ?_
  · intro q; refine q_forget (L' := [vN, vI x1, vI x2, vN]) 0 rfl ?_; refine q_forget (L' := [vN, vN, vI x2, vN]) 1 rfl ?_; refine q_forget (L' := [vN, vN, vN, vN]) 2 rfl ?_; exact k1 q
  · intro q; refine q_forget (L' := [vN, vI x1, vI x2, vN]) 0 rfl ?_; refine q_forget (L' := [vN, vN, vI x2, vN]) 1 rfl ?_; refine q_forget (L' := [vN, vN, vN, vN]) 2 rfl ?_; exact k2 q
theorem b100_77 {d : Nat} {Q : Option sV → sM → sG → Prop} {M : sM} {G : sG}   (kk : sW (sC d) 100 Q 82 [vN, vN, vN, vN] [vI 1] M G 0 0) : sW (sC d) 100 Q 77 [vN, vN, vN, vN] [] M G 0 0 := by
  refine q_iconst 78 rfl (show sCode 100 77 = some (.iconst 1, 1) by decide +kernel) ⟨by decide, by decide⟩ ?_
  refine q_goto 82 (by decide) (show sCode 100 78 = some (.goto 4, 3) by decide +kernel) ?_
  exact kk
theorem b100_81 {d : Nat} {Q : Option sV → sM → sG → Prop} {M : sM} {G : sG}   (kk : sW (sC d) 100 Q 82 [vN, vN, vN, vN] [vI 0] M G 0 0) : sW (sC d) 100 Q 81 [vN, vN, vN, vN] [] M G 0 0 := by
  refine q_iconst 82 rfl (show sCode 100 81 = some (.iconst 0, 1) by decide +kernel) ⟨by decide, by decide⟩ ?_
  exact kk
theorem b100_82 {d : Nat} {P : Int → sM → sG → Prop} {M : sM} {G : sG} {s0 : Int}  (h01 : s0 = 0 ∨ s0 = 1) (kk : P s0 M G) : sW (sC d) 100 (QI P) 82 [vN, vN, vN, vN] [vI s0] M G 0 0 := by
  exact q_zret (show sCode 100 82 = some (.ireturn, 1) by decide +kernel) (by decide +kernel) h01 (by decide +kernel) kk
-- 103 AfterTheLast$Crossings.twosThatCross (LAfterTheLast$Town;II)I
theorem b103_0 {d : Nat} {Q : Option sV → sM → sG → Prop} {M : sM} {G : sG} {a0 : Nat} {x1 : Int} {x2 : Int}  (kk : sW (sC d) 103 Q 5 [vO 10 a0, vI x1, vI x2, vI 0, vI 0, vN] [] M G 0 0) : sW (sC d) 103 Q 0 [vO 10 a0, vI x1, vI x2, vN, vN, vN] [] M G 0 0 := by
  refine q_iconst 1 rfl (show sCode 103 0 = some (.iconst 0, 1) by decide +kernel) ⟨by decide, by decide⟩ ?_
  refine q_istore_n [vO 10 a0, vI x1, vI x2, vI 0, vN, vN] 2 rfl (show sCode 103 1 = some (.istore_n 3, 1) by decide +kernel) (Nat.lt_of_lt_of_le (Nat.lt_succ_self _) (Nat.le_of_ble_eq_true rfl)) rfl rfl ?_
  refine q_iconst 3 rfl (show sCode 103 2 = some (.iconst 0, 1) by decide +kernel) ⟨by decide, by decide⟩ ?_
  refine q_istore [vO 10 a0, vI x1, vI x2, vI 0, vI 0, vN] 5 rfl (show sCode 103 3 = some (.istore 4, 2) by decide +kernel) (Nat.lt_of_lt_of_le (Nat.lt_succ_self _) (Nat.le_of_ble_eq_true rfl)) rfl rfl ?_
  exact kk
theorem b103_5 {d : Nat} {Q : Option sV → sM → sG → Prop} {M : sM} {G : sG} {a0 : Nat} {x1 : Int} {x2 : Int} {x3 : Int} {x4 : Int}  (k1 : M a0 6 ≤ x4 → sW (sC d) 103 Q 76 [vN, vN, vN, vI x3, vN, vN] [] M G 0 0) (k2 : x4 < M a0 6 → sW (sC d) 103 Q 14 [vO 10 a0, vI x1, vI x2, vI x3, vI x4, vN] [] M G 0 0) : sW (sC d) 103 Q 5 [vO 10 a0, vI x1, vI x2, vI x3, vI x4, vN] [] M G 0 0 := by
  refine q_iload 7 rfl (show sCode 103 5 = some (.iload 4, 2) by decide +kernel) rfl ?_
  refine q_aload_n 8 rfl (show sCode 103 7 = some (.aload_n 0, 1) by decide +kernel) rfl (Nat.le_of_ble_eq_true rfl) ?_
  refine q_getI 11 rfl (show sCode 103 8 = some (.getfield 52, 3) by decide +kernel) (show sFR (sKo 103).1 52 = some (10, 6) by decide +kernel) (by decide +kernel) (Or.inl (Or.inl rfl)) ?_
  refine q_icmpge 76 14 rfl (by decide) (show sCode 103 11 = some (.if_icmp .ge 65, 3) by decide +kernel) ?_ ?_
  · intro q; refine q_forget (L' := [vN, vI x1, vI x2, vI x3, vI x4, vN]) 0 rfl ?_; refine q_forget (L' := [vN, vN, vI x2, vI x3, vI x4, vN]) 1 rfl ?_; refine q_forget (L' := [vN, vN, vN, vI x3, vI x4, vN]) 2 rfl ?_; refine q_forget (L' := [vN, vN, vN, vI x3, vN, vN]) 4 rfl ?_; exact k1 q
  · intro q; exact k2 q
theorem b103_14 {d : Nat} {Q : Option sV → sM → sG → Prop} {M : sM} {G : sG} {a0 : Nat} {x1 : Int} {x2 : Int} {x3 : Int} {x4 : Int} (h1 : sI (x4 + 1)) (kk : sW (sC d) 103 Q 20 [vO 10 a0, vI x1, vI x2, vI x3, vI x4, vI (x4 + 1)] [] M G 0 0) : sW (sC d) 103 Q 14 [vO 10 a0, vI x1, vI x2, vI x3, vI x4, vN] [] M G 0 0 := by
  refine q_iload 16 rfl (show sCode 103 14 = some (.iload 4, 2) by decide +kernel) rfl ?_
  refine q_iconst 17 rfl (show sCode 103 16 = some (.iconst 1, 1) by decide +kernel) ⟨by decide, by decide⟩ ?_
  refine q_iadd 18 rfl (show sCode 103 17 = some (.iadd, 1) by decide +kernel) h1 ?_
  refine q_istore [vO 10 a0, vI x1, vI x2, vI x3, vI x4, vI (x4 + 1)] 20 rfl (show sCode 103 18 = some (.istore 5, 2) by decide +kernel) (Nat.lt_of_lt_of_le (Nat.lt_succ_self _) (Nat.le_of_ble_eq_true rfl)) rfl rfl ?_
  exact kk
theorem b103_20 {d : Nat} {Q : Option sV → sM → sG → Prop} {M : sM} {G : sG} {a0 : Nat} {x1 : Int} {x2 : Int} {x3 : Int} {x4 : Int} {x5 : Int}  (k1 : M a0 6 ≤ x5 → sW (sC d) 103 Q 70 [vO 10 a0, vI x1, vI x2, vI x3, vI x4, vN] [] M G 0 0) (k2 : x5 < M a0 6 → sW (sC d) 103 Q 29 [vO 10 a0, vI x1, vI x2, vI x3, vI x4, vI x5] [] M G 0 0) : sW (sC d) 103 Q 20 [vO 10 a0, vI x1, vI x2, vI x3, vI x4, vI x5] [] M G 0 0 := by
  refine q_iload 22 rfl (show sCode 103 20 = some (.iload 5, 2) by decide +kernel) rfl ?_
  refine q_aload_n 23 rfl (show sCode 103 22 = some (.aload_n 0, 1) by decide +kernel) rfl (Nat.le_of_ble_eq_true rfl) ?_
  refine q_getI 26 rfl (show sCode 103 23 = some (.getfield 52, 3) by decide +kernel) (show sFR (sKo 103).1 52 = some (10, 6) by decide +kernel) (by decide +kernel) (Or.inl (Or.inl rfl)) ?_
  refine q_icmpge 70 29 rfl (by decide) (show sCode 103 26 = some (.if_icmp .ge 44, 3) by decide +kernel) ?_ ?_
  · intro q; refine q_forget (L' := [vO 10 a0, vI x1, vI x2, vI x3, vI x4, vN]) 5 rfl ?_; exact k1 q
  · intro q; exact k2 q
theorem b103_29 {d : Nat} {Q : Option sV → sM → sG → Prop} {M : sM} {G : sG} {a0 : Nat} {x1 : Int} {x2 : Int} {x3 : Int} {x4 : Int} {x5 : Int}  (k1 : iAnd (iShr x1 x4) 1 ≠ 1 → sW (sC d) 103 Q 64 [vO 10 a0, vI x1, vI x2, vI x3, vI x4, vI x5] [] M G 0 0) (k2 : iAnd (iShr x1 x4) 1 = 1 → sW (sC d) 103 Q 39 [vO 10 a0, vI x1, vI x2, vI x3, vI x4, vI x5] [] M G 0 0) : sW (sC d) 103 Q 29 [vO 10 a0, vI x1, vI x2, vI x3, vI x4, vI x5] [] M G 0 0 := by
  refine q_iload_n 30 rfl (show sCode 103 29 = some (.iload_n 1, 1) by decide +kernel) rfl ?_
  refine q_iload 32 rfl (show sCode 103 30 = some (.iload 4, 2) by decide +kernel) rfl ?_
  refine q_ishr 33 rfl (show sCode 103 32 = some (.ishr, 1) by decide +kernel) ?_
  refine q_iconst 34 rfl (show sCode 103 33 = some (.iconst 1, 1) by decide +kernel) ⟨by decide, by decide⟩ ?_
  refine q_iand 35 rfl (show sCode 103 34 = some (.iand, 1) by decide +kernel) ?_
  refine q_iconst 36 rfl (show sCode 103 35 = some (.iconst 1, 1) by decide +kernel) ⟨by decide, by decide⟩ ?_
  refine q_icmpne 64 39 rfl (by decide) (show sCode 103 36 = some (.if_icmp .ne 28, 3) by decide +kernel) ?_ ?_
  · intro q; exact k1 q
  · intro q; exact k2 q
theorem b103_39 {d : Nat} {Q : Option sV → sM → sG → Prop} {M : sM} {G : sG} {a0 : Nat} {x1 : Int} {x2 : Int} {x3 : Int} {x4 : Int} {x5 : Int}  (k1 : iAnd (iShr x1 x5) 1 ≠ 1 → sW (sC d) 103 Q 64 [vO 10 a0, vI x1, vI x2, vI x3, vI x4, vI x5] [] M G 0 0) (k2 : iAnd (iShr x1 x5) 1 = 1 → sW (sC d) 103 Q 49 [vO 10 a0, vI x1, vI x2, vI x3, vI x4, vI x5] [] M G 0 0) : sW (sC d) 103 Q 39 [vO 10 a0, vI x1, vI x2, vI x3, vI x4, vI x5] [] M G 0 0 := by
  refine q_iload_n 40 rfl (show sCode 103 39 = some (.iload_n 1, 1) by decide +kernel) rfl ?_
  refine q_iload 42 rfl (show sCode 103 40 = some (.iload 5, 2) by decide +kernel) rfl ?_
  refine q_ishr 43 rfl (show sCode 103 42 = some (.ishr, 1) by decide +kernel) ?_
  refine q_iconst 44 rfl (show sCode 103 43 = some (.iconst 1, 1) by decide +kernel) ⟨by decide, by decide⟩ ?_
  refine q_iand 45 rfl (show sCode 103 44 = some (.iand, 1) by decide +kernel) ?_
  refine q_iconst 46 rfl (show sCode 103 45 = some (.iconst 1, 1) by decide +kernel) ⟨by decide, by decide⟩ ?_
  refine q_icmpne 64 49 rfl (by decide) (show sCode 103 46 = some (.if_icmp .ne 18, 3) by decide +kernel) ?_ ?_
  · intro q; exact k1 q
  · intro q; exact k2 q
theorem b103_49 {d : Nat} {Q : Option sV → sM → sG → Prop} {M : sM} {G : sG} {a0 : Nat} {x1 : Int} {x2 : Int} {x3 : Int} {x4 : Int} {x5 : Int}  (kk : sC d 99 [vO 10 a0, vI x4, vI x5, vI x2] M G (QI (fun r M1 G1 => sW (sC d) 103 Q 58 [vO 10 a0, vI x1, vI x2, vI x3, vI x4, vI x5] (vI r :: []) M1 G1 0 0))) : sW (sC d) 103 Q 49 [vO 10 a0, vI x1, vI x2, vI x3, vI x4, vI x5] [] M G 0 0 := by
  refine q_aload_n 50 rfl (show sCode 103 49 = some (.aload_n 0, 1) by decide +kernel) rfl (Nat.le_of_ble_eq_true rfl) ?_
  refine q_iload 52 rfl (show sCode 103 50 = some (.iload 4, 2) by decide +kernel) rfl ?_
  refine q_iload 54 rfl (show sCode 103 52 = some (.iload 5, 2) by decide +kernel) rfl ?_
  refine q_iload_n 55 rfl (show sCode 103 54 = some (.iload_n 2, 1) by decide +kernel) rfl ?_
  exact q_statI [vO 10 a0, vI x4, vI x5, vI x2] 58 rfl (show sCode 103 55 = some (.invokestatic 55, 3) by decide +kernel) (show sMR (sKo 103).1 55 = some 99 by decide +kernel) (show 99 < 1000 ∧ sStat 99 = true ∧ sKo 99 = (1, 4, 2, 0, 0) by decide +kernel) rfl rfl (Nat.le_of_ble_eq_true rfl) rfl rfl rfl (by decide +kernel) kk
theorem b103_58 {d : Nat} {Q : Option sV → sM → sG → Prop} {M : sM} {G : sG} {a0 : Nat} {x1 : Int} {x2 : Int} {x3 : Int} {x4 : Int} {x5 : Int} {s0 : Int}  (k1 : s0 = 0 → sW (sC d) 103 Q 64 [vO 10 a0, vI x1, vI x2, vI x3, vI x4, vI x5] [] M G 0 0) (k2 : s0 ≠ 0 → sW (sC d) 103 Q 61 [vO 10 a0, vI x1, vI x2, vI x3, vI x4, vI x5] [] M G 0 0) : sW (sC d) 103 Q 58 [vO 10 a0, vI x1, vI x2, vI x3, vI x4, vI x5] [vI s0] M G 0 0 := by
  refine q_ifeq 64 61 rfl (by decide) (show sCode 103 58 = some (.ifCond .eq 6, 3) by decide +kernel) ?_ ?_
  · intro q; exact k1 q
  · intro q; exact k2 q
theorem b103_61 {d : Nat} {Q : Option sV → sM → sG → Prop} {M : sM} {G : sG} {a0 : Nat} {x1 : Int} {x2 : Int} {x3 : Int} {x4 : Int} {x5 : Int} (h1 : sI (x3 + 1)) (kk : sW (sC d) 103 Q 64 [vO 10 a0, vI x1, vI x2, vI (x3 + 1), vI x4, vI x5] [] M G 0 0) : sW (sC d) 103 Q 61 [vO 10 a0, vI x1, vI x2, vI x3, vI x4, vI x5] [] M G 0 0 := by
  refine q_iinc [vO 10 a0, vI x1, vI x2, vI (x3 + 1), vI x4, vI x5] 64 rfl (show sCode 103 61 = some (.iinc 3 1, 3) by decide +kernel) rfl rfl h1 rfl ?_
  exact kk
theorem b103_64 {d : Nat} {Q : Option sV → sM → sG → Prop} {M : sM} {G : sG} {a0 : Nat} {x1 : Int} {x2 : Int} {x3 : Int} {x4 : Int} {x5 : Int} (h1 : sI (x5 + 1)) (kk : sW (sC d) 103 Q 20 [vO 10 a0, vI x1, vI x2, vI x3, vI x4, vI (x5 + 1)] [] M G 0 0) : sW (sC d) 103 Q 64 [vO 10 a0, vI x1, vI x2, vI x3, vI x4, vI x5] [] M G 0 0 := by
  refine q_iinc [vO 10 a0, vI x1, vI x2, vI x3, vI x4, vI (x5 + 1)] 67 rfl (show sCode 103 64 = some (.iinc 5 1, 3) by decide +kernel) rfl rfl h1 rfl ?_
  refine q_goto 20 (by decide) (show sCode 103 67 = some (.goto (-47), 3) by decide +kernel) ?_
  exact kk
theorem b103_70 {d : Nat} {Q : Option sV → sM → sG → Prop} {M : sM} {G : sG} {a0 : Nat} {x1 : Int} {x2 : Int} {x3 : Int} {x4 : Int} (h1 : sI (x4 + 1)) (kk : sW (sC d) 103 Q 5 [vO 10 a0, vI x1, vI x2, vI x3, vI (x4 + 1), vN] [] M G 0 0) : sW (sC d) 103 Q 70 [vO 10 a0, vI x1, vI x2, vI x3, vI x4, vN] [] M G 0 0 := by
  refine q_iinc [vO 10 a0, vI x1, vI x2, vI x3, vI (x4 + 1), vN] 73 rfl (show sCode 103 70 = some (.iinc 4 1, 3) by decide +kernel) rfl rfl h1 rfl ?_
  refine q_goto 5 (by decide) (show sCode 103 73 = some (.goto (-68), 3) by decide +kernel) ?_
  exact kk
theorem b103_76 {d : Nat} {P : Int → sM → sG → Prop} {M : sM} {G : sG} {x3 : Int}  (kk : P x3 M G) : sW (sC d) 103 (QI P) 76 [vN, vN, vN, vI x3, vN, vN] [] M G 0 0 := by
  refine q_iload_n 77 rfl (show sCode 103 76 = some (.iload_n 3, 1) by decide +kernel) rfl ?_
  exact q_iret (show sCode 103 77 = some (.ireturn, 1) by decide +kernel) (by decide +kernel) (by decide +kernel) kk
-- 105 AfterTheLast$Crossings.bestScore (LAfterTheLast$Town;I)I
theorem b105_0 {d : Nat} {Q : Option sV → sM → sG → Prop} {M : sM} {G : sG} {a0 : Nat} {a1 : Nat} {x2 : Int}  (kk : sC d 106 [vO 1 a0, vO 10 a1, vI x2] M G (QI (fun r M1 G1 => sW (sC d) 105 Q 6 [vO 1 a0, vO 10 a1, vI x2, vN, vN, vN, vN] (vI r :: []) M1 G1 0 0))) : sW (sC d) 105 Q 0 [vO 1 a0, vO 10 a1, vI x2, vN, vN, vN, vN] [] M G 0 0 := by
  refine q_aload_n 1 rfl (show sCode 105 0 = some (.aload_n 0, 1) by decide +kernel) rfl (Nat.le_of_ble_eq_true rfl) ?_
  refine q_aload_n 2 rfl (show sCode 105 1 = some (.aload_n 1, 1) by decide +kernel) rfl (Nat.le_of_ble_eq_true rfl) ?_
  refine q_iload_n 3 rfl (show sCode 105 2 = some (.iload_n 2, 1) by decide +kernel) rfl ?_
  exact q_virtI [vO 10 a1, vI x2] 6 rfl (show sCode 105 3 = some (.invokevirtual 66, 3) by decide +kernel) (show sMR (sKo 105).1 66 = some 106 by decide +kernel) (show 106 < 1000 ∧ sStat 106 = false ∧ sIni 106 = false ∧ sKo 106 = (1, 2, 1, 0, 0) by decide +kernel) rfl (Or.inl rfl) rfl (Nat.le_of_ble_eq_true rfl) rfl rfl rfl (by decide +kernel) kk
theorem b105_6 {d : Nat} {Q : Option sV → sM → sG → Prop} {M : sM} {G : sG} {a0 : Nat} {a1 : Nat} {x2 : Int} {s0 : Int}  (kk : sC d 6 [vA 0 (a0 + 3) 18, vI 0] M G (QV (fun M1 G1 => sW (sC d) 105 Q 15 [vO 1 a0, vO 10 a1, vI x2, vI s0, vN, vN, vN] [] M1 G1 0 0))) : sW (sC d) 105 Q 6 [vO 1 a0, vO 10 a1, vI x2, vN, vN, vN, vN] [vI s0] M G 0 0 := by
  refine q_istore_n [vO 1 a0, vO 10 a1, vI x2, vI s0, vN, vN, vN] 7 rfl (show sCode 105 6 = some (.istore_n 3, 1) by decide +kernel) (Nat.lt_of_lt_of_le (Nat.lt_succ_self _) (Nat.le_of_ble_eq_true rfl)) rfl rfl ?_
  refine q_aload_n 8 rfl (show sCode 105 7 = some (.aload_n 0, 1) by decide +kernel) rfl (Nat.le_of_ble_eq_true rfl) ?_
  refine q_getR (vA 0 (a0 + 3) 18) 11 rfl (show sCode 105 8 = some (.getfield 18, 3) by decide +kernel) (show sFR (sKo 105).1 18 = some (1, 2) by decide +kernel) (by decide +kernel) (Or.inl (Or.inl rfl)) rfl ?_
  refine q_iconst 12 rfl (show sCode 105 11 = some (.iconst 0, 1) by decide +kernel) ⟨by decide, by decide⟩ ?_
  exact q_statV [vA 0 (a0 + 3) 18, vI 0] 15 rfl (show sCode 105 12 = some (.invokestatic 70, 3) by decide +kernel) (show sMR (sKo 105).1 70 = some 6 by decide +kernel) (show 6 < 1000 ∧ sStat 6 = true ∧ sKo 6 = (14, 2, 0, 0, 0) by decide +kernel) rfl rfl (Nat.le_of_ble_eq_true rfl) rfl rfl rfl (by decide +kernel) kk
theorem b105_15 {d : Nat} {Q : Option sV → sM → sG → Prop} {M : sM} {G : sG} {a0 : Nat} {a1 : Nat} {x2 : Int} {x3 : Int}  (kk : sW (sC d) 105 Q 18 [vO 1 a0, vO 10 a1, vI x2, vI x3, vI 1, vN, vN] [] M G 0 0) : sW (sC d) 105 Q 15 [vO 1 a0, vO 10 a1, vI x2, vI x3, vN, vN, vN] [] M G 0 0 := by
  refine q_iconst 16 rfl (show sCode 105 15 = some (.iconst 1, 1) by decide +kernel) ⟨by decide, by decide⟩ ?_
  refine q_istore [vO 1 a0, vO 10 a1, vI x2, vI x3, vI 1, vN, vN] 18 rfl (show sCode 105 16 = some (.istore 4, 2) by decide +kernel) (Nat.lt_of_lt_of_le (Nat.lt_succ_self _) (Nat.le_of_ble_eq_true rfl)) rfl rfl ?_
  exact kk
theorem b105_18 {d : Nat} {Q : Option sV → sM → sG → Prop} {M : sM} {G : sG} {a0 : Nat} {a1 : Nat} {x2 : Int} {x3 : Int} {x4 : Int} (h1 : 0 ≤ x2 ∧ x2 < 6) (k1 : M (a1 + 2) x2.toNat < x4 → sW (sC d) 105 Q 121 [vO 1 a0, vO 10 a1, vN, vI x3, vN, vN, vN] [] M G 0 0) (k2 : x4 ≤ M (a1 + 2) x2.toNat → sW (sC d) 105 Q 29 [vO 1 a0, vO 10 a1, vI x2, vI x3, vI x4, vN, vN] [] M G 0 0) : sW (sC d) 105 Q 18 [vO 1 a0, vO 10 a1, vI x2, vI x3, vI x4, vN, vN] [] M G 0 0 := by
  refine q_iload 20 rfl (show sCode 105 18 = some (.iload 4, 2) by decide +kernel) rfl ?_
  refine q_aload_n 21 rfl (show sCode 105 20 = some (.aload_n 1, 1) by decide +kernel) rfl (Nat.le_of_ble_eq_true rfl) ?_
  refine q_getR (vA 0 (a1 + 2) 6) 24 rfl (show sCode 105 21 = some (.getfield 76, 3) by decide +kernel) (show sFR (sKo 105).1 76 = some (10, 2) by decide +kernel) (by decide +kernel) (Or.inl (Or.inl rfl)) rfl ?_
  refine q_iload_n 25 rfl (show sCode 105 24 = some (.iload_n 2, 1) by decide +kernel) rfl ?_
  refine q_iald 26 rfl (show sCode 105 25 = some (.iaload, 1) by decide +kernel) h1 ?_
  refine q_icmpgt 121 29 rfl (by decide) (show sCode 105 26 = some (.if_icmp .gt 95, 3) by decide +kernel) ?_ ?_
  · intro q; refine q_forget (L' := [vO 1 a0, vO 10 a1, vN, vI x3, vI x4, vN, vN]) 2 rfl ?_; refine q_forget (L' := [vO 1 a0, vO 10 a1, vN, vI x3, vN, vN, vN]) 4 rfl ?_; exact k1 q
  · intro q; exact k2 q
theorem b105_29 {d : Nat} {Q : Option sV → sM → sG → Prop} {M : sM} {G : sG} {a0 : Nat} {a1 : Nat} {x2 : Int} {x3 : Int} {x4 : Int}  (kk : sW (sC d) 105 Q 47 [vO 1 a0, vO 10 a1, vI x2, vI x3, vI x4, vI 0, vN] [] (sCpy M (a0 + 3) 0 (a0 + 4) 0 18) G 0 0) : sW (sC d) 105 Q 29 [vO 1 a0, vO 10 a1, vI x2, vI x3, vI x4, vN, vN] [] M G 0 0 := by
  refine q_aload_n 30 rfl (show sCode 105 29 = some (.aload_n 0, 1) by decide +kernel) rfl (Nat.le_of_ble_eq_true rfl) ?_
  refine q_getR (vA 0 (a0 + 3) 18) 33 rfl (show sCode 105 30 = some (.getfield 18, 3) by decide +kernel) (show sFR (sKo 105).1 18 = some (1, 2) by decide +kernel) (by decide +kernel) (Or.inl (Or.inl rfl)) rfl ?_
  refine q_iconst 34 rfl (show sCode 105 33 = some (.iconst 0, 1) by decide +kernel) ⟨by decide, by decide⟩ ?_
  refine q_aload_n 35 rfl (show sCode 105 34 = some (.aload_n 0, 1) by decide +kernel) rfl (Nat.le_of_ble_eq_true rfl) ?_
  refine q_getR (vA 0 (a0 + 4) 18) 38 rfl (show sCode 105 35 = some (.getfield 21, 3) by decide +kernel) (show sFR (sKo 105).1 21 = some (1, 3) by decide +kernel) (by decide +kernel) (Or.inl (Or.inl rfl)) rfl ?_
  refine q_iconst 39 rfl (show sCode 105 38 = some (.iconst 0, 1) by decide +kernel) ⟨by decide, by decide⟩ ?_
  refine q_bipush 41 rfl (show sCode 105 39 = some (.bipush 18, 2) by decide +kernel) ⟨by decide, by decide⟩ (by decide +kernel) ?_
  refine q_copy 44 rfl (show sCode 105 41 = some (.invokestatic 79, 3) by decide +kernel) (by decide +kernel) (Nat.le_of_ble_eq_true rfl) (by decide) ?_
  refine q_iconst 45 rfl (show sCode 105 44 = some (.iconst 0, 1) by decide +kernel) ⟨by decide, by decide⟩ ?_
  refine q_istore [vO 1 a0, vO 10 a1, vI x2, vI x3, vI x4, vI 0, vN] 47 rfl (show sCode 105 45 = some (.istore 5, 2) by decide +kernel) (Nat.lt_of_lt_of_le (Nat.lt_succ_self _) (Nat.le_of_ble_eq_true rfl)) rfl rfl ?_
  exact kk
theorem b105_47 {d : Nat} {Q : Option sV → sM → sG → Prop} {M : sM} {G : sG} {a0 : Nat} {a1 : Nat} {x2 : Int} {x3 : Int} {x4 : Int} {x5 : Int}  (k1 : x3 ≤ x5 → sW (sC d) 105 Q 115 [vO 1 a0, vO 10 a1, vI x2, vI x3, vI x4, vN, vN] [] M G 0 0) (k2 : x5 < x3 → sW (sC d) 105 Q 53 [vO 1 a0, vO 10 a1, vI x2, vI x3, vI x4, vI x5, vN] [] M G 0 0) : sW (sC d) 105 Q 47 [vO 1 a0, vO 10 a1, vI x2, vI x3, vI x4, vI x5, vN] [] M G 0 0 := by
  refine q_iload 49 rfl (show sCode 105 47 = some (.iload 5, 2) by decide +kernel) rfl ?_
  refine q_iload_n 50 rfl (show sCode 105 49 = some (.iload_n 3, 1) by decide +kernel) rfl ?_
  refine q_icmpge 115 53 rfl (by decide) (show sCode 105 50 = some (.if_icmp .ge 65, 3) by decide +kernel) ?_ ?_
  · intro q; refine q_forget (L' := [vO 1 a0, vO 10 a1, vI x2, vI x3, vI x4, vN, vN]) 5 rfl ?_; exact k1 q
  · intro q; exact k2 q
theorem b105_53 {d : Nat} {Q : Option sV → sM → sG → Prop} {M : sM} {G : sG} {a0 : Nat} {a1 : Nat} {x2 : Int} {x3 : Int} {x4 : Int} {x5 : Int}  (k1 : x4 ≤ 1 → sW (sC d) 105 Q 85 [vO 1 a0, vO 10 a1, vI x2, vI x3, vI x4, vI x5, vN] [] M G 0 0) (k2 : 1 < x4 → sW (sC d) 105 Q 59 [vO 1 a0, vO 10 a1, vI x2, vI x3, vI x4, vI x5, vN] [] M G 0 0) : sW (sC d) 105 Q 53 [vO 1 a0, vO 10 a1, vI x2, vI x3, vI x4, vI x5, vN] [] M G 0 0 := by
  refine q_iload 55 rfl (show sCode 105 53 = some (.iload 4, 2) by decide +kernel) rfl ?_
  refine q_iconst 56 rfl (show sCode 105 55 = some (.iconst 1, 1) by decide +kernel) ⟨by decide, by decide⟩ ?_
  refine q_icmple 85 59 rfl (by decide) (show sCode 105 56 = some (.if_icmp .le 29, 3) by decide +kernel) ?_ ?_
  · intro q; exact k1 q
  · intro q; exact k2 q
theorem b105_59 {d : Nat} {Q : Option sV → sM → sG → Prop} {M : sM} {G : sG} {a0 : Nat} {a1 : Nat} {x2 : Int} {x3 : Int} {x4 : Int} {x5 : Int} (h1 : 0 ≤ x5 ∧ x5 < 18) (h2 : 0 ≤ M (a0 + 1) x5.toNat ∧ M (a0 + 1) x5.toNat < 18) (kk : sC d 108 [vO 1 a0, vO 10 a1, vA 0 (a0 + 4) 18, vI x5, vI (M (a1 + 8) (M (a0 + 1) x5.toNat).toNat)] M G (QI (fun r M1 G1 => sW (sC d) 105 Q 82 [vO 1 a0, vO 10 a1, vI x2, vI x3, vI x4, vI x5, vN] (vI r :: []) M1 G1 0 0))) : sW (sC d) 105 Q 59 [vO 1 a0, vO 10 a1, vI x2, vI x3, vI x4, vI x5, vN] [] M G 0 0 := by
  refine q_aload_n 60 rfl (show sCode 105 59 = some (.aload_n 0, 1) by decide +kernel) rfl (Nat.le_of_ble_eq_true rfl) ?_
  refine q_aload_n 61 rfl (show sCode 105 60 = some (.aload_n 1, 1) by decide +kernel) rfl (Nat.le_of_ble_eq_true rfl) ?_
  refine q_aload_n 62 rfl (show sCode 105 61 = some (.aload_n 0, 1) by decide +kernel) rfl (Nat.le_of_ble_eq_true rfl) ?_
  refine q_getR (vA 0 (a0 + 4) 18) 65 rfl (show sCode 105 62 = some (.getfield 21, 3) by decide +kernel) (show sFR (sKo 105).1 21 = some (1, 3) by decide +kernel) (by decide +kernel) (Or.inl (Or.inl rfl)) rfl ?_
  refine q_iload 67 rfl (show sCode 105 65 = some (.iload 5, 2) by decide +kernel) rfl ?_
  refine q_aload_n 68 rfl (show sCode 105 67 = some (.aload_n 1, 1) by decide +kernel) rfl (Nat.le_of_ble_eq_true rfl) ?_
  refine q_getR (vA 0 (a1 + 8) 18) 71 rfl (show sCode 105 68 = some (.getfield 44, 3) by decide +kernel) (show sFR (sKo 105).1 44 = some (10, 9) by decide +kernel) (by decide +kernel) (Or.inl (Or.inl rfl)) rfl ?_
  refine q_aload_n 72 rfl (show sCode 105 71 = some (.aload_n 0, 1) by decide +kernel) rfl (Nat.le_of_ble_eq_true rfl) ?_
  refine q_getR (vA 0 (a0 + 1) 18) 75 rfl (show sCode 105 72 = some (.getfield 9, 3) by decide +kernel) (show sFR (sKo 105).1 9 = some (1, 0) by decide +kernel) (by decide +kernel) (Or.inl (Or.inl rfl)) rfl ?_
  refine q_iload 77 rfl (show sCode 105 75 = some (.iload 5, 2) by decide +kernel) rfl ?_
  refine q_iald 78 rfl (show sCode 105 77 = some (.iaload, 1) by decide +kernel) h1 ?_
  refine q_iald 79 rfl (show sCode 105 78 = some (.iaload, 1) by decide +kernel) h2 ?_
  exact q_virtI [vO 10 a1, vA 0 (a0 + 4) 18, vI x5, vI (M (a1 + 8) (M (a0 + 1) x5.toNat).toNat)] 82 rfl (show sCode 105 79 = some (.invokevirtual 85, 3) by decide +kernel) (show sMR (sKo 105).1 85 = some 108 by decide +kernel) (show 108 < 1000 ∧ sStat 108 = false ∧ sIni 108 = false ∧ sKo 108 = (1, 4, 1, 0, 0) by decide +kernel) rfl (Or.inl rfl) rfl (Nat.le_of_ble_eq_true rfl) rfl rfl rfl (by decide +kernel) kk
theorem b105_82 {d : Nat} {Q : Option sV → sM → sG → Prop} {M : sM} {G : sG} {a0 : Nat} {a1 : Nat} {x2 : Int} {x3 : Int} {x4 : Int} {x5 : Int} {s0 : Int}  (kk : sW (sC d) 105 Q 86 [vO 1 a0, vO 10 a1, vI x2, vI x3, vI x4, vI x5, vN] [vI s0] M G 0 0) : sW (sC d) 105 Q 82 [vO 1 a0, vO 10 a1, vI x2, vI x3, vI x4, vI x5, vN] [vI s0] M G 0 0 := by
  refine q_goto 86 (by decide) (show sCode 105 82 = some (.goto 4, 3) by decide +kernel) ?_
  exact kk
theorem b105_85 {d : Nat} {Q : Option sV → sM → sG → Prop} {M : sM} {G : sG} {a0 : Nat} {a1 : Nat} {x2 : Int} {x3 : Int} {x4 : Int} {x5 : Int}  (kk : sW (sC d) 105 Q 86 [vO 1 a0, vO 10 a1, vI x2, vI x3, vI x4, vI x5, vN] [vI 0] M G 0 0) : sW (sC d) 105 Q 85 [vO 1 a0, vO 10 a1, vI x2, vI x3, vI x4, vI x5, vN] [] M G 0 0 := by
  refine q_iconst 86 rfl (show sCode 105 85 = some (.iconst 0, 1) by decide +kernel) ⟨by decide, by decide⟩ ?_
  exact kk
theorem b105_86 {d : Nat} {Q : Option sV → sM → sG → Prop} {M : sM} {G : sG} {a0 : Nat} {a1 : Nat} {x2 : Int} {x3 : Int} {x4 : Int} {x5 : Int} {s0 : Int} (h1 : 0 ≤ x5 ∧ x5 < 18) (kk : sC d 109 [vO 10 a1, vI (M (a0 + 1) x5.toNat)] M G (QI (fun r M1 G1 => sW (sC d) 105 Q 105 [vO 1 a0, vO 10 a1, vI x2, vI x3, vI x4, vI x5, vI s0] (vI r :: [vI x5, vA 0 (a0 + 3) 18]) M1 G1 0 0))) : sW (sC d) 105 Q 86 [vO 1 a0, vO 10 a1, vI x2, vI x3, vI x4, vI x5, vN] [vI s0] M G 0 0 := by
  refine q_istore [vO 1 a0, vO 10 a1, vI x2, vI x3, vI x4, vI x5, vI s0] 88 rfl (show sCode 105 86 = some (.istore 6, 2) by decide +kernel) (Nat.lt_of_lt_of_le (Nat.lt_succ_self _) (Nat.le_of_ble_eq_true rfl)) rfl rfl ?_
  refine q_aload_n 89 rfl (show sCode 105 88 = some (.aload_n 0, 1) by decide +kernel) rfl (Nat.le_of_ble_eq_true rfl) ?_
  refine q_getR (vA 0 (a0 + 3) 18) 92 rfl (show sCode 105 89 = some (.getfield 18, 3) by decide +kernel) (show sFR (sKo 105).1 18 = some (1, 2) by decide +kernel) (by decide +kernel) (Or.inl (Or.inl rfl)) rfl ?_
  refine q_iload 94 rfl (show sCode 105 92 = some (.iload 5, 2) by decide +kernel) rfl ?_
  refine q_aload_n 95 rfl (show sCode 105 94 = some (.aload_n 1, 1) by decide +kernel) rfl (Nat.le_of_ble_eq_true rfl) ?_
  refine q_aload_n 96 rfl (show sCode 105 95 = some (.aload_n 0, 1) by decide +kernel) rfl (Nat.le_of_ble_eq_true rfl) ?_
  refine q_getR (vA 0 (a0 + 1) 18) 99 rfl (show sCode 105 96 = some (.getfield 9, 3) by decide +kernel) (show sFR (sKo 105).1 9 = some (1, 0) by decide +kernel) (by decide +kernel) (Or.inl (Or.inl rfl)) rfl ?_
  refine q_iload 101 rfl (show sCode 105 99 = some (.iload 5, 2) by decide +kernel) rfl ?_
  refine q_iald 102 rfl (show sCode 105 101 = some (.iaload, 1) by decide +kernel) h1 ?_
  exact q_statI [vO 10 a1, vI (M (a0 + 1) x5.toNat)] 105 rfl (show sCode 105 102 = some (.invokestatic 89, 3) by decide +kernel) (show sMR (sKo 105).1 89 = some 109 by decide +kernel) (show 109 < 1000 ∧ sStat 109 = true ∧ sKo 109 = (1, 2, 1, 0, 0) by decide +kernel) rfl rfl (Nat.le_of_ble_eq_true rfl) rfl rfl rfl (by decide +kernel) kk
theorem b105_105 {d : Nat} {Q : Option sV → sM → sG → Prop} {M : sM} {G : sG} {a0 : Nat} {a1 : Nat} {x2 : Int} {x3 : Int} {x4 : Int} {x5 : Int} {x6 : Int} {s0 : Int} {s1 : Int} {sa2 : Nat} (h1 : sI (s0 + x6)) (h2 : 0 ≤ s1 ∧ s1 < 18) (h3 : sI (x5 + 1)) (kk : sW (sC d) 105 Q 47 [vO 1 a0, vO 10 a1, vI x2, vI x3, vI x4, vI (x5 + 1), vN] [] (sUpd M sa2 s1.toNat (s0 + x6)) G 0 0) : sW (sC d) 105 Q 105 [vO 1 a0, vO 10 a1, vI x2, vI x3, vI x4, vI x5, vI x6] [vI s0, vI s1, vA 0 sa2 18] M G 0 0 := by
  refine q_iload 107 rfl (show sCode 105 105 = some (.iload 6, 2) by decide +kernel) rfl ?_
  refine q_iadd 108 rfl (show sCode 105 107 = some (.iadd, 1) by decide +kernel) h1 ?_
  refine q_iast 109 rfl (show sCode 105 108 = some (.iastore, 1) by decide +kernel) h2 ?_
  refine q_iinc [vO 1 a0, vO 10 a1, vI x2, vI x3, vI x4, vI (x5 + 1), vI x6] 112 rfl (show sCode 105 109 = some (.iinc 5 1, 3) by decide +kernel) rfl rfl h3 rfl ?_
  refine q_goto 47 (by decide) (show sCode 105 112 = some (.goto (-65), 3) by decide +kernel) ?_
  refine q_forget (L' := [vO 1 a0, vO 10 a1, vI x2, vI x3, vI x4, vI (x5 + 1), vN]) 6 rfl ?_
  exact kk
theorem b105_115 {d : Nat} {Q : Option sV → sM → sG → Prop} {M : sM} {G : sG} {a0 : Nat} {a1 : Nat} {x2 : Int} {x3 : Int} {x4 : Int} (h1 : sI (x4 + 1)) (kk : sW (sC d) 105 Q 18 [vO 1 a0, vO 10 a1, vI x2, vI x3, vI (x4 + 1), vN, vN] [] M G 0 0) : sW (sC d) 105 Q 115 [vO 1 a0, vO 10 a1, vI x2, vI x3, vI x4, vN, vN] [] M G 0 0 := by
  refine q_iinc [vO 1 a0, vO 10 a1, vI x2, vI x3, vI (x4 + 1), vN, vN] 118 rfl (show sCode 105 115 = some (.iinc 4 1, 3) by decide +kernel) rfl rfl h1 rfl ?_
  refine q_goto 18 (by decide) (show sCode 105 118 = some (.goto (-100), 3) by decide +kernel) ?_
  exact kk
theorem b105_121 {d : Nat} {Q : Option sV → sM → sG → Prop} {M : sM} {G : sG} {a0 : Nat} {a1 : Nat} {x3 : Int}  (kk : sC d 108 [vO 1 a0, vO 10 a1, vA 0 (a0 + 3) 18, vI x3, vI 0] M G (QI (fun r M1 G1 => sW (sC d) 105 Q 132 [vN, vN, vN, vN, vN, vN, vN] (vI r :: []) M1 G1 0 0))) : sW (sC d) 105 Q 121 [vO 1 a0, vO 10 a1, vN, vI x3, vN, vN, vN] [] M G 0 0 := by
  refine q_aload_n 122 rfl (show sCode 105 121 = some (.aload_n 0, 1) by decide +kernel) rfl (Nat.le_of_ble_eq_true rfl) ?_
  refine q_aload_n 123 rfl (show sCode 105 122 = some (.aload_n 1, 1) by decide +kernel) rfl (Nat.le_of_ble_eq_true rfl) ?_
  refine q_aload_n 124 rfl (show sCode 105 123 = some (.aload_n 0, 1) by decide +kernel) rfl (Nat.le_of_ble_eq_true rfl) ?_
  refine q_getR (vA 0 (a0 + 3) 18) 127 rfl (show sCode 105 124 = some (.getfield 18, 3) by decide +kernel) (show sFR (sKo 105).1 18 = some (1, 2) by decide +kernel) (by decide +kernel) (Or.inl (Or.inl rfl)) rfl ?_
  refine q_iload_n 128 rfl (show sCode 105 127 = some (.iload_n 3, 1) by decide +kernel) rfl ?_
  refine q_iconst 129 rfl (show sCode 105 128 = some (.iconst 0, 1) by decide +kernel) ⟨by decide, by decide⟩ ?_
  refine q_forget (L' := [vN, vO 10 a1, vN, vI x3, vN, vN, vN]) 0 rfl ?_
  refine q_forget (L' := [vN, vN, vN, vI x3, vN, vN, vN]) 1 rfl ?_
  refine q_forget (L' := [vN, vN, vN, vN, vN, vN, vN]) 3 rfl ?_
  exact q_virtI [vO 10 a1, vA 0 (a0 + 3) 18, vI x3, vI 0] 132 rfl (show sCode 105 129 = some (.invokevirtual 85, 3) by decide +kernel) (show sMR (sKo 105).1 85 = some 108 by decide +kernel) (show 108 < 1000 ∧ sStat 108 = false ∧ sIni 108 = false ∧ sKo 108 = (1, 4, 1, 0, 0) by decide +kernel) rfl (Or.inl rfl) rfl (Nat.le_of_ble_eq_true rfl) rfl rfl rfl (by decide +kernel) kk
theorem b105_132 {d : Nat} {P : Int → sM → sG → Prop} {M : sM} {G : sG} {s0 : Int}  (kk : P s0 M G) : sW (sC d) 105 (QI P) 132 [vN, vN, vN, vN, vN, vN, vN] [vI s0] M G 0 0 := by
  exact q_iret (show sCode 105 132 = some (.ireturn, 1) by decide +kernel) (by decide +kernel) (by decide +kernel) kk
-- 106 AfterTheLast$Crossings.sortStays (LAfterTheLast$Town;I)I
theorem b106_0 {d : Nat} {Q : Option sV → sM → sG → Prop} {M : sM} {G : sG} {a0 : Nat} {a1 : Nat} {x2 : Int}  (kk : sW (sC d) 106 Q 5 [vO 1 a0, vO 10 a1, vI x2, vI 0, vI 0, vN] [] M G 0 0) : sW (sC d) 106 Q 0 [vO 1 a0, vO 10 a1, vI x2, vN, vN, vN] [] M G 0 0 := by
  refine q_iconst 1 rfl (show sCode 106 0 = some (.iconst 0, 1) by decide +kernel) ⟨by decide, by decide⟩ ?_
  refine q_istore_n [vO 1 a0, vO 10 a1, vI x2, vI 0, vN, vN] 2 rfl (show sCode 106 1 = some (.istore_n 3, 1) by decide +kernel) (Nat.lt_of_lt_of_le (Nat.lt_succ_self _) (Nat.le_of_ble_eq_true rfl)) rfl rfl ?_
  refine q_iconst 3 rfl (show sCode 106 2 = some (.iconst 0, 1) by decide +kernel) ⟨by decide, by decide⟩ ?_
  refine q_istore [vO 1 a0, vO 10 a1, vI x2, vI 0, vI 0, vN] 5 rfl (show sCode 106 3 = some (.istore 4, 2) by decide +kernel) (Nat.lt_of_lt_of_le (Nat.lt_succ_self _) (Nat.le_of_ble_eq_true rfl)) rfl rfl ?_
  exact kk
theorem b106_5 {d : Nat} {Q : Option sV → sM → sG → Prop} {M : sM} {G : sG} {a0 : Nat} {a1 : Nat} {x2 : Int} {x3 : Int} {x4 : Int}  (k1 : M a1 6 ≤ x4 → sW (sC d) 106 Q 91 [vO 1 a0, vO 10 a1, vN, vI x3, vN, vN] [] M G 0 0) (k2 : x4 < M a1 6 → sW (sC d) 106 Q 14 [vO 1 a0, vO 10 a1, vI x2, vI x3, vI x4, vN] [] M G 0 0) : sW (sC d) 106 Q 5 [vO 1 a0, vO 10 a1, vI x2, vI x3, vI x4, vN] [] M G 0 0 := by
  refine q_iload 7 rfl (show sCode 106 5 = some (.iload 4, 2) by decide +kernel) rfl ?_
  refine q_aload_n 8 rfl (show sCode 106 7 = some (.aload_n 1, 1) by decide +kernel) rfl (Nat.le_of_ble_eq_true rfl) ?_
  refine q_getI 11 rfl (show sCode 106 8 = some (.getfield 52, 3) by decide +kernel) (show sFR (sKo 106).1 52 = some (10, 6) by decide +kernel) (by decide +kernel) (Or.inl (Or.inl rfl)) ?_
  refine q_icmpge 91 14 rfl (by decide) (show sCode 106 11 = some (.if_icmp .ge 80, 3) by decide +kernel) ?_ ?_
  · intro q; refine q_forget (L' := [vO 1 a0, vO 10 a1, vN, vI x3, vI x4, vN]) 2 rfl ?_; refine q_forget (L' := [vO 1 a0, vO 10 a1, vN, vI x3, vN, vN]) 4 rfl ?_; exact k1 q
  · intro q; exact k2 q
theorem b106_14 {d : Nat} {Q : Option sV → sM → sG → Prop} {M : sM} {G : sG} {a0 : Nat} {a1 : Nat} {x2 : Int} {x3 : Int} {x4 : Int} (h1 : 0 ≤ x4 ∧ x4 < 18) (k1 : M (a1 + 7) x4.toNat ≠ x2 → sW (sC d) 106 Q 85 [vO 1 a0, vO 10 a1, vI x2, vI x3, vI x4, vN] [] M G 0 0) (k2 : M (a1 + 7) x4.toNat = x2 → sW (sC d) 106 Q 25 [vO 1 a0, vO 10 a1, vI x2, vI x3, vI x4, vN] [] M G 0 0) : sW (sC d) 106 Q 14 [vO 1 a0, vO 10 a1, vI x2, vI x3, vI x4, vN] [] M G 0 0 := by
  refine q_aload_n 15 rfl (show sCode 106 14 = some (.aload_n 1, 1) by decide +kernel) rfl (Nat.le_of_ble_eq_true rfl) ?_
  refine q_getR (vA 0 (a1 + 7) 18) 18 rfl (show sCode 106 15 = some (.getfield 98, 3) by decide +kernel) (show sFR (sKo 106).1 98 = some (10, 8) by decide +kernel) (by decide +kernel) (Or.inl (Or.inl rfl)) rfl ?_
  refine q_iload 20 rfl (show sCode 106 18 = some (.iload 4, 2) by decide +kernel) rfl ?_
  refine q_iald 21 rfl (show sCode 106 20 = some (.iaload, 1) by decide +kernel) h1 ?_
  refine q_iload_n 22 rfl (show sCode 106 21 = some (.iload_n 2, 1) by decide +kernel) rfl ?_
  refine q_icmpne 85 25 rfl (by decide) (show sCode 106 22 = some (.if_icmp .ne 63, 3) by decide +kernel) ?_ ?_
  · intro q; exact k1 q
  · intro q; exact k2 q
theorem b106_25 {d : Nat} {Q : Option sV → sM → sG → Prop} {M : sM} {G : sG} {a0 : Nat} {a1 : Nat} {x2 : Int} {x3 : Int} {x4 : Int}  (kk : sW (sC d) 106 Q 28 [vO 1 a0, vO 10 a1, vI x2, vI x3, vI x4, vI x3] [] M G 0 0) : sW (sC d) 106 Q 25 [vO 1 a0, vO 10 a1, vI x2, vI x3, vI x4, vN] [] M G 0 0 := by
  refine q_iload_n 26 rfl (show sCode 106 25 = some (.iload_n 3, 1) by decide +kernel) rfl ?_
  refine q_istore [vO 1 a0, vO 10 a1, vI x2, vI x3, vI x4, vI x3] 28 rfl (show sCode 106 26 = some (.istore 5, 2) by decide +kernel) (Nat.lt_of_lt_of_le (Nat.lt_succ_self _) (Nat.le_of_ble_eq_true rfl)) rfl rfl ?_
  exact kk
theorem b106_28 {d : Nat} {Q : Option sV → sM → sG → Prop} {M : sM} {G : sG} {a0 : Nat} {a1 : Nat} {x2 : Int} {x3 : Int} {x4 : Int} {x5 : Int}  (k1 : x5 ≤ 0 → sW (sC d) 106 Q 73 [vO 1 a0, vO 10 a1, vI x2, vI x3, vI x4, vI x5] [] M G 0 0) (k2 : 0 < x5 → sW (sC d) 106 Q 33 [vO 1 a0, vO 10 a1, vI x2, vI x3, vI x4, vI x5] [] M G 0 0) : sW (sC d) 106 Q 28 [vO 1 a0, vO 10 a1, vI x2, vI x3, vI x4, vI x5] [] M G 0 0 := by
  refine q_iload 30 rfl (show sCode 106 28 = some (.iload 5, 2) by decide +kernel) rfl ?_
  refine q_ifle 73 33 rfl (by decide) (show sCode 106 30 = some (.ifCond .le 43, 3) by decide +kernel) ?_ ?_
  · intro q; exact k1 q
  · intro q; exact k2 q
theorem b106_33 {d : Nat} {Q : Option sV → sM → sG → Prop} {M : sM} {G : sG} {a0 : Nat} {a1 : Nat} {x2 : Int} {x3 : Int} {x4 : Int} {x5 : Int} (h1 : sI (x5 - 1)) (h2 : 0 ≤ x5 - 1 ∧ x5 - 1 < 18) (kk : sC d 107 [vO 10 a1, vI x4, vI (M (a0 + 1) (x5 - 1).toNat)] M G (QI (fun r M1 G1 => sW (sC d) 106 Q 48 [vO 1 a0, vO 10 a1, vI x2, vI x3, vI x4, vI x5] (vI r :: []) M1 G1 0 0))) : sW (sC d) 106 Q 33 [vO 1 a0, vO 10 a1, vI x2, vI x3, vI x4, vI x5] [] M G 0 0 := by
  refine q_aload_n 34 rfl (show sCode 106 33 = some (.aload_n 1, 1) by decide +kernel) rfl (Nat.le_of_ble_eq_true rfl) ?_
  refine q_iload 36 rfl (show sCode 106 34 = some (.iload 4, 2) by decide +kernel) rfl ?_
  refine q_aload_n 37 rfl (show sCode 106 36 = some (.aload_n 0, 1) by decide +kernel) rfl (Nat.le_of_ble_eq_true rfl) ?_
  refine q_getR (vA 0 (a0 + 1) 18) 40 rfl (show sCode 106 37 = some (.getfield 9, 3) by decide +kernel) (show sFR (sKo 106).1 9 = some (1, 0) by decide +kernel) (by decide +kernel) (Or.inl (Or.inl rfl)) rfl ?_
  refine q_iload 42 rfl (show sCode 106 40 = some (.iload 5, 2) by decide +kernel) rfl ?_
  refine q_iconst 43 rfl (show sCode 106 42 = some (.iconst 1, 1) by decide +kernel) ⟨by decide, by decide⟩ ?_
  refine q_isub 44 rfl (show sCode 106 43 = some (.isub, 1) by decide +kernel) h1 ?_
  refine q_iald 45 rfl (show sCode 106 44 = some (.iaload, 1) by decide +kernel) h2 ?_
  exact q_statI [vO 10 a1, vI x4, vI (M (a0 + 1) (x5 - 1).toNat)] 48 rfl (show sCode 106 45 = some (.invokestatic 101, 3) by decide +kernel) (show sMR (sKo 106).1 101 = some 107 by decide +kernel) (show 107 < 1000 ∧ sStat 107 = true ∧ sKo 107 = (1, 3, 2, 0, 0) by decide +kernel) rfl rfl (Nat.le_of_ble_eq_true rfl) rfl rfl rfl (by decide +kernel) kk
theorem b106_48 {d : Nat} {Q : Option sV → sM → sG → Prop} {M : sM} {G : sG} {a0 : Nat} {a1 : Nat} {x2 : Int} {x3 : Int} {x4 : Int} {x5 : Int} {s0 : Int}  (k1 : s0 = 0 → sW (sC d) 106 Q 73 [vO 1 a0, vO 10 a1, vI x2, vI x3, vI x4, vI x5] [] M G 0 0) (k2 : s0 ≠ 0 → sW (sC d) 106 Q 51 [vO 1 a0, vO 10 a1, vI x2, vI x3, vI x4, vI x5] [] M G 0 0) : sW (sC d) 106 Q 48 [vO 1 a0, vO 10 a1, vI x2, vI x3, vI x4, vI x5] [vI s0] M G 0 0 := by
  refine q_ifeq 73 51 rfl (by decide) (show sCode 106 48 = some (.ifCond .eq 25, 3) by decide +kernel) ?_ ?_
  · intro q; exact k1 q
  · intro q; exact k2 q
theorem b106_51 {d : Nat} {Q : Option sV → sM → sG → Prop} {M : sM} {G : sG} {a0 : Nat} {a1 : Nat} {x2 : Int} {x3 : Int} {x4 : Int} {x5 : Int} (h1 : sI (x5 - 1)) (h2 : 0 ≤ x5 - 1 ∧ x5 - 1 < 18) (h3 : 0 ≤ x5 ∧ x5 < 18) (h4 : sI (x5 + (-1))) (kk : sW (sC d) 106 Q 28 [vO 1 a0, vO 10 a1, vI x2, vI x3, vI x4, vI (x5 + (-1))] [] (sUpd M (a0 + 1) x5.toNat (M (a0 + 1) (x5 - 1).toNat)) G 0 0) : sW (sC d) 106 Q 51 [vO 1 a0, vO 10 a1, vI x2, vI x3, vI x4, vI x5] [] M G 0 0 := by
  refine q_aload_n 52 rfl (show sCode 106 51 = some (.aload_n 0, 1) by decide +kernel) rfl (Nat.le_of_ble_eq_true rfl) ?_
  refine q_getR (vA 0 (a0 + 1) 18) 55 rfl (show sCode 106 52 = some (.getfield 9, 3) by decide +kernel) (show sFR (sKo 106).1 9 = some (1, 0) by decide +kernel) (by decide +kernel) (Or.inl (Or.inl rfl)) rfl ?_
  refine q_iload 57 rfl (show sCode 106 55 = some (.iload 5, 2) by decide +kernel) rfl ?_
  refine q_aload_n 58 rfl (show sCode 106 57 = some (.aload_n 0, 1) by decide +kernel) rfl (Nat.le_of_ble_eq_true rfl) ?_
  refine q_getR (vA 0 (a0 + 1) 18) 61 rfl (show sCode 106 58 = some (.getfield 9, 3) by decide +kernel) (show sFR (sKo 106).1 9 = some (1, 0) by decide +kernel) (by decide +kernel) (Or.inl (Or.inl rfl)) rfl ?_
  refine q_iload 63 rfl (show sCode 106 61 = some (.iload 5, 2) by decide +kernel) rfl ?_
  refine q_iconst 64 rfl (show sCode 106 63 = some (.iconst 1, 1) by decide +kernel) ⟨by decide, by decide⟩ ?_
  refine q_isub 65 rfl (show sCode 106 64 = some (.isub, 1) by decide +kernel) h1 ?_
  refine q_iald 66 rfl (show sCode 106 65 = some (.iaload, 1) by decide +kernel) h2 ?_
  refine q_iast 67 rfl (show sCode 106 66 = some (.iastore, 1) by decide +kernel) h3 ?_
  refine q_iinc [vO 1 a0, vO 10 a1, vI x2, vI x3, vI x4, vI (x5 + (-1))] 70 rfl (show sCode 106 67 = some (.iinc 5 (-1), 3) by decide +kernel) rfl rfl h4 rfl ?_
  refine q_goto 28 (by decide) (show sCode 106 70 = some (.goto (-42), 3) by decide +kernel) ?_
  exact kk
theorem b106_73 {d : Nat} {Q : Option sV → sM → sG → Prop} {M : sM} {G : sG} {a0 : Nat} {a1 : Nat} {x2 : Int} {x3 : Int} {x4 : Int} {x5 : Int} (h1 : 0 ≤ x5 ∧ x5 < 18) (h2 : sI (x3 + 1)) (kk : sW (sC d) 106 Q 85 [vO 1 a0, vO 10 a1, vI x2, vI (x3 + 1), vI x4, vN] [] (sUpd M (a0 + 1) x5.toNat x4) G 0 0) : sW (sC d) 106 Q 73 [vO 1 a0, vO 10 a1, vI x2, vI x3, vI x4, vI x5] [] M G 0 0 := by
  refine q_aload_n 74 rfl (show sCode 106 73 = some (.aload_n 0, 1) by decide +kernel) rfl (Nat.le_of_ble_eq_true rfl) ?_
  refine q_getR (vA 0 (a0 + 1) 18) 77 rfl (show sCode 106 74 = some (.getfield 9, 3) by decide +kernel) (show sFR (sKo 106).1 9 = some (1, 0) by decide +kernel) (by decide +kernel) (Or.inl (Or.inl rfl)) rfl ?_
  refine q_iload 79 rfl (show sCode 106 77 = some (.iload 5, 2) by decide +kernel) rfl ?_
  refine q_iload 81 rfl (show sCode 106 79 = some (.iload 4, 2) by decide +kernel) rfl ?_
  refine q_iast 82 rfl (show sCode 106 81 = some (.iastore, 1) by decide +kernel) h1 ?_
  refine q_iinc [vO 1 a0, vO 10 a1, vI x2, vI (x3 + 1), vI x4, vI x5] 85 rfl (show sCode 106 82 = some (.iinc 3 1, 3) by decide +kernel) rfl rfl h2 rfl ?_
  refine q_forget (L' := [vO 1 a0, vO 10 a1, vI x2, vI (x3 + 1), vI x4, vN]) 5 rfl ?_
  exact kk
theorem b106_85 {d : Nat} {Q : Option sV → sM → sG → Prop} {M : sM} {G : sG} {a0 : Nat} {a1 : Nat} {x2 : Int} {x3 : Int} {x4 : Int} (h1 : sI (x4 + 1)) (kk : sW (sC d) 106 Q 5 [vO 1 a0, vO 10 a1, vI x2, vI x3, vI (x4 + 1), vN] [] M G 0 0) : sW (sC d) 106 Q 85 [vO 1 a0, vO 10 a1, vI x2, vI x3, vI x4, vN] [] M G 0 0 := by
  refine q_iinc [vO 1 a0, vO 10 a1, vI x2, vI x3, vI (x4 + 1), vN] 88 rfl (show sCode 106 85 = some (.iinc 4 1, 3) by decide +kernel) rfl rfl h1 rfl ?_
  refine q_goto 5 (by decide) (show sCode 106 88 = some (.goto (-83), 3) by decide +kernel) ?_
  exact kk
theorem b106_91 {d : Nat} {Q : Option sV → sM → sG → Prop} {M : sM} {G : sG} {a0 : Nat} {a1 : Nat} {x3 : Int}  (kk : sW (sC d) 106 Q 94 [vO 1 a0, vO 10 a1, vN, vI x3, vI 0, vN] [] M G 0 0) : sW (sC d) 106 Q 91 [vO 1 a0, vO 10 a1, vN, vI x3, vN, vN] [] M G 0 0 := by
  refine q_iconst 92 rfl (show sCode 106 91 = some (.iconst 0, 1) by decide +kernel) ⟨by decide, by decide⟩ ?_
  refine q_istore [vO 1 a0, vO 10 a1, vN, vI x3, vI 0, vN] 94 rfl (show sCode 106 92 = some (.istore 4, 2) by decide +kernel) (Nat.lt_of_lt_of_le (Nat.lt_succ_self _) (Nat.le_of_ble_eq_true rfl)) rfl rfl ?_
  exact kk
theorem b106_94 {d : Nat} {Q : Option sV → sM → sG → Prop} {M : sM} {G : sG} {a0 : Nat} {a1 : Nat} {x3 : Int} {x4 : Int}  (k1 : x3 ≤ x4 → sW (sC d) 106 Q 172 [vN, vN, vN, vI x3, vN, vN] [] M G 0 0) (k2 : x4 < x3 → sW (sC d) 106 Q 100 [vO 1 a0, vO 10 a1, vN, vI x3, vI x4, vN] [] M G 0 0) : sW (sC d) 106 Q 94 [vO 1 a0, vO 10 a1, vN, vI x3, vI x4, vN] [] M G 0 0 := by
  refine q_iload 96 rfl (show sCode 106 94 = some (.iload 4, 2) by decide +kernel) rfl ?_
  refine q_iload_n 97 rfl (show sCode 106 96 = some (.iload_n 3, 1) by decide +kernel) rfl ?_
  refine q_icmpge 172 100 rfl (by decide) (show sCode 106 97 = some (.if_icmp .ge 75, 3) by decide +kernel) ?_ ?_
  · intro q; refine q_forget (L' := [vN, vO 10 a1, vN, vI x3, vI x4, vN]) 0 rfl ?_; refine q_forget (L' := [vN, vN, vN, vI x3, vI x4, vN]) 1 rfl ?_; refine q_forget (L' := [vN, vN, vN, vI x3, vN, vN]) 4 rfl ?_; exact k1 q
  · intro q; exact k2 q
theorem b106_100 {d : Nat} {Q : Option sV → sM → sG → Prop} {M : sM} {G : sG} {a0 : Nat} {a1 : Nat} {x3 : Int} {x4 : Int} (h1 : 0 ≤ x4 ∧ x4 < 18) (kk : sW (sC d) 106 Q 108 [vO 1 a0, vO 10 a1, vN, vI x3, vI x4, vN] [] (sUpd M (a0 + 2) x4.toNat 0) G 0 0) : sW (sC d) 106 Q 100 [vO 1 a0, vO 10 a1, vN, vI x3, vI x4, vN] [] M G 0 0 := by
  refine q_aload_n 101 rfl (show sCode 106 100 = some (.aload_n 0, 1) by decide +kernel) rfl (Nat.le_of_ble_eq_true rfl) ?_
  refine q_getR (vA 0 (a0 + 2) 18) 104 rfl (show sCode 106 101 = some (.getfield 15, 3) by decide +kernel) (show sFR (sKo 106).1 15 = some (1, 1) by decide +kernel) (by decide +kernel) (Or.inl (Or.inl rfl)) rfl ?_
  refine q_iload 106 rfl (show sCode 106 104 = some (.iload 4, 2) by decide +kernel) rfl ?_
  refine q_iconst 107 rfl (show sCode 106 106 = some (.iconst 0, 1) by decide +kernel) ⟨by decide, by decide⟩ ?_
  refine q_iast 108 rfl (show sCode 106 107 = some (.iastore, 1) by decide +kernel) h1 ?_
  exact kk
theorem b106_108 {d : Nat} {Q : Option sV → sM → sG → Prop} {M : sM} {G : sG} {a0 : Nat} {a1 : Nat} {x3 : Int} {x4 : Int} (h1 : 0 ≤ x4 ∧ x4 < 18) (k1 : x4 ≤ M (a0 + 2) x4.toNat → sW (sC d) 106 Q 166 [vO 1 a0, vO 10 a1, vN, vI x3, vI x4, vN] [] M G 0 0) (k2 : M (a0 + 2) x4.toNat < x4 → sW (sC d) 106 Q 120 [vO 1 a0, vO 10 a1, vN, vI x3, vI x4, vN] [] M G 0 0) : sW (sC d) 106 Q 108 [vO 1 a0, vO 10 a1, vN, vI x3, vI x4, vN] [] M G 0 0 := by
  refine q_aload_n 109 rfl (show sCode 106 108 = some (.aload_n 0, 1) by decide +kernel) rfl (Nat.le_of_ble_eq_true rfl) ?_
  refine q_getR (vA 0 (a0 + 2) 18) 112 rfl (show sCode 106 109 = some (.getfield 15, 3) by decide +kernel) (show sFR (sKo 106).1 15 = some (1, 1) by decide +kernel) (by decide +kernel) (Or.inl (Or.inl rfl)) rfl ?_
  refine q_iload 114 rfl (show sCode 106 112 = some (.iload 4, 2) by decide +kernel) rfl ?_
  refine q_iald 115 rfl (show sCode 106 114 = some (.iaload, 1) by decide +kernel) h1 ?_
  refine q_iload 117 rfl (show sCode 106 115 = some (.iload 4, 2) by decide +kernel) rfl ?_
  refine q_icmpge 166 120 rfl (by decide) (show sCode 106 117 = some (.if_icmp .ge 49, 3) by decide +kernel) ?_ ?_
  · intro q; exact k1 q
  · intro q; exact k2 q
theorem b106_120 {d : Nat} {Q : Option sV → sM → sG → Prop} {M : sM} {G : sG} {a0 : Nat} {a1 : Nat} {x3 : Int} {x4 : Int} (h1 : 0 ≤ x4 ∧ x4 < 18) (h2 : 0 ≤ M (a0 + 2) x4.toNat ∧ M (a0 + 2) x4.toNat < 18) (h3 : 0 ≤ M (a0 + 1) (M (a0 + 2) x4.toNat).toNat ∧ M (a0 + 1) (M (a0 + 2) x4.toNat).toNat < 18) (h4 : 0 ≤ x4 ∧ x4 < 18) (h5 : 0 ≤ M (a0 + 1) x4.toNat ∧ M (a0 + 1) x4.toNat < 18) (k1 : M (a1 + 8) (M (a0 + 1) x4.toNat).toNat < M (a1 + 9) (M (a0 + 1) (M (a0 + 2) x4.toNat).toNat).toNat → sW (sC d) 106 Q 166 [vO 1 a0, vO 10 a1, vN, vI x3, vI x4, vN] [] M G 0 0) (k2 : M (a1 + 9) (M (a0 + 1) (M (a0 + 2) x4.toNat).toNat).toNat ≤ M (a1 + 8) (M (a0 + 1) x4.toNat).toNat → sW (sC d) 106 Q 152 [vO 1 a0, vO 10 a1, vN, vI x3, vI x4, vN] [] M G 0 0) : sW (sC d) 106 Q 120 [vO 1 a0, vO 10 a1, vN, vI x3, vI x4, vN] [] M G 0 0 := by
  refine q_aload_n 121 rfl (show sCode 106 120 = some (.aload_n 1, 1) by decide +kernel) rfl (Nat.le_of_ble_eq_true rfl) ?_
  refine q_getR (vA 0 (a1 + 9) 18) 124 rfl (show sCode 106 121 = some (.getfield 49, 3) by decide +kernel) (show sFR (sKo 106).1 49 = some (10, 10) by decide +kernel) (by decide +kernel) (Or.inl (Or.inl rfl)) rfl ?_
  refine q_aload_n 125 rfl (show sCode 106 124 = some (.aload_n 0, 1) by decide +kernel) rfl (Nat.le_of_ble_eq_true rfl) ?_
  refine q_getR (vA 0 (a0 + 1) 18) 128 rfl (show sCode 106 125 = some (.getfield 9, 3) by decide +kernel) (show sFR (sKo 106).1 9 = some (1, 0) by decide +kernel) (by decide +kernel) (Or.inl (Or.inl rfl)) rfl ?_
  refine q_aload_n 129 rfl (show sCode 106 128 = some (.aload_n 0, 1) by decide +kernel) rfl (Nat.le_of_ble_eq_true rfl) ?_
  refine q_getR (vA 0 (a0 + 2) 18) 132 rfl (show sCode 106 129 = some (.getfield 15, 3) by decide +kernel) (show sFR (sKo 106).1 15 = some (1, 1) by decide +kernel) (by decide +kernel) (Or.inl (Or.inl rfl)) rfl ?_
  refine q_iload 134 rfl (show sCode 106 132 = some (.iload 4, 2) by decide +kernel) rfl ?_
  refine q_iald 135 rfl (show sCode 106 134 = some (.iaload, 1) by decide +kernel) h1 ?_
  refine q_iald 136 rfl (show sCode 106 135 = some (.iaload, 1) by decide +kernel) h2 ?_
  refine q_iald 137 rfl (show sCode 106 136 = some (.iaload, 1) by decide +kernel) h3 ?_
  refine q_aload_n 138 rfl (show sCode 106 137 = some (.aload_n 1, 1) by decide +kernel) rfl (Nat.le_of_ble_eq_true rfl) ?_
  refine q_getR (vA 0 (a1 + 8) 18) 141 rfl (show sCode 106 138 = some (.getfield 44, 3) by decide +kernel) (show sFR (sKo 106).1 44 = some (10, 9) by decide +kernel) (by decide +kernel) (Or.inl (Or.inl rfl)) rfl ?_
  refine q_aload_n 142 rfl (show sCode 106 141 = some (.aload_n 0, 1) by decide +kernel) rfl (Nat.le_of_ble_eq_true rfl) ?_
  refine q_getR (vA 0 (a0 + 1) 18) 145 rfl (show sCode 106 142 = some (.getfield 9, 3) by decide +kernel) (show sFR (sKo 106).1 9 = some (1, 0) by decide +kernel) (by decide +kernel) (Or.inl (Or.inl rfl)) rfl ?_
  refine q_iload 147 rfl (show sCode 106 145 = some (.iload 4, 2) by decide +kernel) rfl ?_
  refine q_iald 148 rfl (show sCode 106 147 = some (.iaload, 1) by decide +kernel) h4 ?_
  refine q_iald 149 rfl (show sCode 106 148 = some (.iaload, 1) by decide +kernel) h5 ?_
  refine q_icmpgt 166 152 rfl (by decide) (show sCode 106 149 = some (.if_icmp .gt 17, 3) by decide +kernel) ?_ ?_
  · intro q; exact k1 q
  · intro q; exact k2 q
theorem b106_152 {d : Nat} {Q : Option sV → sM → sG → Prop} {M : sM} {G : sG} {a0 : Nat} {a1 : Nat} {x3 : Int} {x4 : Int} (h1 : 0 ≤ x4 ∧ x4 < 18) (h2 : sI ((M (a0 + 2) x4.toNat) + 1)) (h3 : 0 ≤ x4 ∧ x4 < 18) (kk : sW (sC d) 106 Q 108 [vO 1 a0, vO 10 a1, vN, vI x3, vI x4, vN] [] (sUpd M (a0 + 2) x4.toNat ((M (a0 + 2) x4.toNat) + 1)) G 0 0) : sW (sC d) 106 Q 152 [vO 1 a0, vO 10 a1, vN, vI x3, vI x4, vN] [] M G 0 0 := by
  refine q_aload_n 153 rfl (show sCode 106 152 = some (.aload_n 0, 1) by decide +kernel) rfl (Nat.le_of_ble_eq_true rfl) ?_
  refine q_getR (vA 0 (a0 + 2) 18) 156 rfl (show sCode 106 153 = some (.getfield 15, 3) by decide +kernel) (show sFR (sKo 106).1 15 = some (1, 1) by decide +kernel) (by decide +kernel) (Or.inl (Or.inl rfl)) rfl ?_
  refine q_iload 158 rfl (show sCode 106 156 = some (.iload 4, 2) by decide +kernel) rfl ?_
  refine q_dup2 159 rfl (show sCode 106 158 = some (.dup2, 1) by decide +kernel) rfl rfl ?_
  refine q_iald 160 rfl (show sCode 106 159 = some (.iaload, 1) by decide +kernel) h1 ?_
  refine q_iconst 161 rfl (show sCode 106 160 = some (.iconst 1, 1) by decide +kernel) ⟨by decide, by decide⟩ ?_
  refine q_iadd 162 rfl (show sCode 106 161 = some (.iadd, 1) by decide +kernel) h2 ?_
  refine q_iast 163 rfl (show sCode 106 162 = some (.iastore, 1) by decide +kernel) h3 ?_
  refine q_goto 108 (by decide) (show sCode 106 163 = some (.goto (-55), 3) by decide +kernel) ?_
  exact kk
theorem b106_166 {d : Nat} {Q : Option sV → sM → sG → Prop} {M : sM} {G : sG} {a0 : Nat} {a1 : Nat} {x3 : Int} {x4 : Int} (h1 : sI (x4 + 1)) (kk : sW (sC d) 106 Q 94 [vO 1 a0, vO 10 a1, vN, vI x3, vI (x4 + 1), vN] [] M G 0 0) : sW (sC d) 106 Q 166 [vO 1 a0, vO 10 a1, vN, vI x3, vI x4, vN] [] M G 0 0 := by
  refine q_iinc [vO 1 a0, vO 10 a1, vN, vI x3, vI (x4 + 1), vN] 169 rfl (show sCode 106 166 = some (.iinc 4 1, 3) by decide +kernel) rfl rfl h1 rfl ?_
  refine q_goto 94 (by decide) (show sCode 106 169 = some (.goto (-75), 3) by decide +kernel) ?_
  exact kk
theorem b106_172 {d : Nat} {P : Int → sM → sG → Prop} {M : sM} {G : sG} {x3 : Int}  (kk : P x3 M G) : sW (sC d) 106 (QI P) 172 [vN, vN, vN, vI x3, vN, vN] [] M G 0 0 := by
  refine q_iload_n 173 rfl (show sCode 106 172 = some (.iload_n 3, 1) by decide +kernel) rfl ?_
  exact q_iret (show sCode 106 173 = some (.ireturn, 1) by decide +kernel) (by decide +kernel) (by decide +kernel) kk
-- 107 AfterTheLast$Crossings.standsAhead (LAfterTheLast$Town;II)Z
theorem b107_0 {d : Nat} {Q : Option sV → sM → sG → Prop} {M : sM} {G : sG} {a0 : Nat} {x1 : Int} {x2 : Int} (h1 : 0 ≤ x1 ∧ x1 < 18) (h2 : 0 ≤ x2 ∧ x2 < 18) (k1 : M (a0 + 9) x1.toNat = M (a0 + 9) x2.toNat → sW (sC d) 107 Q 36 [vO 10 a0, vI x1, vI x2] [] M G 0 0) (k2 : M (a0 + 9) x1.toNat ≠ M (a0 + 9) x2.toNat → sW (sC d) 107 Q 15 [vO 10 a0, vI x1, vI x2] [] M G 0 0) : sW (sC d) 107 Q 0 [vO 10 a0, vI x1, vI x2] [] M G 0 0 := by
  refine q_aload_n 1 rfl (show sCode 107 0 = some (.aload_n 0, 1) by decide +kernel) rfl (Nat.le_of_ble_eq_true rfl) ?_
  refine q_getR (vA 0 (a0 + 9) 18) 4 rfl (show sCode 107 1 = some (.getfield 49, 3) by decide +kernel) (show sFR (sKo 107).1 49 = some (10, 10) by decide +kernel) (by decide +kernel) (Or.inl (Or.inl rfl)) rfl ?_
  refine q_iload_n 5 rfl (show sCode 107 4 = some (.iload_n 1, 1) by decide +kernel) rfl ?_
  refine q_iald 6 rfl (show sCode 107 5 = some (.iaload, 1) by decide +kernel) h1 ?_
  refine q_aload_n 7 rfl (show sCode 107 6 = some (.aload_n 0, 1) by decide +kernel) rfl (Nat.le_of_ble_eq_true rfl) ?_
  refine q_getR (vA 0 (a0 + 9) 18) 10 rfl (show sCode 107 7 = some (.getfield 49, 3) by decide +kernel) (show sFR (sKo 107).1 49 = some (10, 10) by decide +kernel) (by decide +kernel) (Or.inl (Or.inl rfl)) rfl ?_
  refine q_iload_n 11 rfl (show sCode 107 10 = some (.iload_n 2, 1) by decide +kernel) rfl ?_
  refine q_iald 12 rfl (show sCode 107 11 = some (.iaload, 1) by decide +kernel) h2 ?_
  refine q_icmpeq 36 15 rfl (by decide) (show sCode 107 12 = some (.if_icmp .eq 24, 3) by decide +kernel) ?_ ?_
  · intro q; exact k1 q
  · intro q; exact k2 q
theorem b107_15 {d : Nat} {Q : Option sV → sM → sG → Prop} {M : sM} {G : sG} {a0 : Nat} {x1 : Int} {x2 : Int} (h1 : 0 ≤ x1 ∧ x1 < 18) (h2 : 0 ≤ x2 ∧ x2 < 18) (k1 : M (a0 + 9) x2.toNat ≤ M (a0 + 9) x1.toNat → sW (sC d) 107 Q 34 [vN, vN, vN] [] M G 0 0) (k2 : M (a0 + 9) x1.toNat < M (a0 + 9) x2.toNat → sW (sC d) 107 Q 30 [vN, vN, vN] [] M G 0 0) : sW (sC d) 107 Q 15 [vO 10 a0, vI x1, vI x2] [] M G 0 0 := by
  refine q_aload_n 16 rfl (show sCode 107 15 = some (.aload_n 0, 1) by decide +kernel) rfl (Nat.le_of_ble_eq_true rfl) ?_
  refine q_getR (vA 0 (a0 + 9) 18) 19 rfl (show sCode 107 16 = some (.getfield 49, 3) by decide +kernel) (show sFR (sKo 107).1 49 = some (10, 10) by decide +kernel) (by decide +kernel) (Or.inl (Or.inl rfl)) rfl ?_
  refine q_iload_n 20 rfl (show sCode 107 19 = some (.iload_n 1, 1) by decide +kernel) rfl ?_
  refine q_iald 21 rfl (show sCode 107 20 = some (.iaload, 1) by decide +kernel) h1 ?_
  refine q_aload_n 22 rfl (show sCode 107 21 = some (.aload_n 0, 1) by decide +kernel) rfl (Nat.le_of_ble_eq_true rfl) ?_
  refine q_getR (vA 0 (a0 + 9) 18) 25 rfl (show sCode 107 22 = some (.getfield 49, 3) by decide +kernel) (show sFR (sKo 107).1 49 = some (10, 10) by decide +kernel) (by decide +kernel) (Or.inl (Or.inl rfl)) rfl ?_
  refine q_iload_n 26 rfl (show sCode 107 25 = some (.iload_n 2, 1) by decide +kernel) rfl ?_
  refine q_iald 27 rfl (show sCode 107 26 = some (.iaload, 1) by decide +kernel) h2 ?_
  refine q_icmpge 34 30 rfl (by decide) (show sCode 107 27 = some (.if_icmp .ge 7, 3) by decide +kernel) ?_ ?_
  · intro q; refine q_forget (L' := [vN, vI x1, vI x2]) 0 rfl ?_; refine q_forget (L' := [vN, vN, vI x2]) 1 rfl ?_; refine q_forget (L' := [vN, vN, vN]) 2 rfl ?_; exact k1 q
  · intro q; refine q_forget (L' := [vN, vI x1, vI x2]) 0 rfl ?_; refine q_forget (L' := [vN, vN, vI x2]) 1 rfl ?_; refine q_forget (L' := [vN, vN, vN]) 2 rfl ?_; exact k2 q
theorem b107_30 {d : Nat} {Q : Option sV → sM → sG → Prop} {M : sM} {G : sG}   (kk : sW (sC d) 107 Q 35 [vN, vN, vN] [vI 1] M G 0 0) : sW (sC d) 107 Q 30 [vN, vN, vN] [] M G 0 0 := by
  refine q_iconst 31 rfl (show sCode 107 30 = some (.iconst 1, 1) by decide +kernel) ⟨by decide, by decide⟩ ?_
  refine q_goto 35 (by decide) (show sCode 107 31 = some (.goto 4, 3) by decide +kernel) ?_
  exact kk
theorem b107_34 {d : Nat} {Q : Option sV → sM → sG → Prop} {M : sM} {G : sG}   (kk : sW (sC d) 107 Q 35 [vN, vN, vN] [vI 0] M G 0 0) : sW (sC d) 107 Q 34 [vN, vN, vN] [] M G 0 0 := by
  refine q_iconst 35 rfl (show sCode 107 34 = some (.iconst 0, 1) by decide +kernel) ⟨by decide, by decide⟩ ?_
  exact kk
theorem b107_35 {d : Nat} {P : Int → sM → sG → Prop} {M : sM} {G : sG} {s0 : Int}  (h01 : s0 = 0 ∨ s0 = 1) (kk : P s0 M G) : sW (sC d) 107 (QI P) 35 [vN, vN, vN] [vI s0] M G 0 0 := by
  exact q_zret (show sCode 107 35 = some (.ireturn, 1) by decide +kernel) (by decide +kernel) h01 (by decide +kernel) kk
theorem b107_36 {d : Nat} {Q : Option sV → sM → sG → Prop} {M : sM} {G : sG} {a0 : Nat} {x1 : Int} {x2 : Int} (h1 : 0 ≤ x1 ∧ x1 < 18) (h2 : 0 ≤ x2 ∧ x2 < 18) (k1 : M (a0 + 8) x1.toNat ≤ M (a0 + 8) x2.toNat → sW (sC d) 107 Q 55 [vN, vN, vN] [] M G 0 0) (k2 : M (a0 + 8) x2.toNat < M (a0 + 8) x1.toNat → sW (sC d) 107 Q 51 [vN, vN, vN] [] M G 0 0) : sW (sC d) 107 Q 36 [vO 10 a0, vI x1, vI x2] [] M G 0 0 := by
  refine q_aload_n 37 rfl (show sCode 107 36 = some (.aload_n 0, 1) by decide +kernel) rfl (Nat.le_of_ble_eq_true rfl) ?_
  refine q_getR (vA 0 (a0 + 8) 18) 40 rfl (show sCode 107 37 = some (.getfield 44, 3) by decide +kernel) (show sFR (sKo 107).1 44 = some (10, 9) by decide +kernel) (by decide +kernel) (Or.inl (Or.inl rfl)) rfl ?_
  refine q_iload_n 41 rfl (show sCode 107 40 = some (.iload_n 1, 1) by decide +kernel) rfl ?_
  refine q_iald 42 rfl (show sCode 107 41 = some (.iaload, 1) by decide +kernel) h1 ?_
  refine q_aload_n 43 rfl (show sCode 107 42 = some (.aload_n 0, 1) by decide +kernel) rfl (Nat.le_of_ble_eq_true rfl) ?_
  refine q_getR (vA 0 (a0 + 8) 18) 46 rfl (show sCode 107 43 = some (.getfield 44, 3) by decide +kernel) (show sFR (sKo 107).1 44 = some (10, 9) by decide +kernel) (by decide +kernel) (Or.inl (Or.inl rfl)) rfl ?_
  refine q_iload_n 47 rfl (show sCode 107 46 = some (.iload_n 2, 1) by decide +kernel) rfl ?_
  refine q_iald 48 rfl (show sCode 107 47 = some (.iaload, 1) by decide +kernel) h2 ?_
  refine q_icmple 55 51 rfl (by decide) (show sCode 107 48 = some (.if_icmp .le 7, 3) by decide +kernel) ?_ ?_
  · intro q; refine q_forget (L' := [vN, vI x1, vI x2]) 0 rfl ?_; refine q_forget (L' := [vN, vN, vI x2]) 1 rfl ?_; refine q_forget (L' := [vN, vN, vN]) 2 rfl ?_; exact k1 q
  · intro q; refine q_forget (L' := [vN, vI x1, vI x2]) 0 rfl ?_; refine q_forget (L' := [vN, vN, vI x2]) 1 rfl ?_; refine q_forget (L' := [vN, vN, vN]) 2 rfl ?_; exact k2 q
theorem b107_51 {d : Nat} {Q : Option sV → sM → sG → Prop} {M : sM} {G : sG}   (kk : sW (sC d) 107 Q 56 [vN, vN, vN] [vI 1] M G 0 0) : sW (sC d) 107 Q 51 [vN, vN, vN] [] M G 0 0 := by
  refine q_iconst 52 rfl (show sCode 107 51 = some (.iconst 1, 1) by decide +kernel) ⟨by decide, by decide⟩ ?_
  refine q_goto 56 (by decide) (show sCode 107 52 = some (.goto 4, 3) by decide +kernel) ?_
  exact kk
theorem b107_55 {d : Nat} {Q : Option sV → sM → sG → Prop} {M : sM} {G : sG}   (kk : sW (sC d) 107 Q 56 [vN, vN, vN] [vI 0] M G 0 0) : sW (sC d) 107 Q 55 [vN, vN, vN] [] M G 0 0 := by
  refine q_iconst 56 rfl (show sCode 107 55 = some (.iconst 0, 1) by decide +kernel) ⟨by decide, by decide⟩ ?_
  exact kk
theorem b107_56 {d : Nat} {P : Int → sM → sG → Prop} {M : sM} {G : sG} {s0 : Int}  (h01 : s0 = 0 ∨ s0 = 1) (kk : P s0 M G) : sW (sC d) 107 (QI P) 56 [vN, vN, vN] [vI s0] M G 0 0 := by
  exact q_zret (show sCode 107 56 = some (.ireturn, 1) by decide +kernel) (by decide +kernel) h01 (by decide +kernel) kk
-- 108 AfterTheLast$Crossings.bestChain (LAfterTheLast$Town;[III)I
theorem b108_0 {d : Nat} {Q : Option sV → sM → sG → Prop} {M : sM} {G : sG} {a0 : Nat} {a1 : Nat} {a2 : Nat} {a2n : Int} {x3 : Int} {x4 : Int}  (kk : sW (sC d) 108 Q 10 [vO 1 a0, vO 10 a1, vA 0 a2 a2n, vI x3, vI x4, vI 0] [] (sUpd M (a0 + 5) 0 0) G 0 0) : sW (sC d) 108 Q 0 [vO 1 a0, vO 10 a1, vA 0 a2 a2n, vI x3, vI x4, vN] [] M G 0 0 := by
  refine q_aload_n 1 rfl (show sCode 108 0 = some (.aload_n 0, 1) by decide +kernel) rfl (Nat.le_of_ble_eq_true rfl) ?_
  refine q_getR (vA 0 (a0 + 5) 19) 4 rfl (show sCode 108 1 = some (.getfield 24, 3) by decide +kernel) (show sFR (sKo 108).1 24 = some (1, 4) by decide +kernel) (by decide +kernel) (Or.inl (Or.inl rfl)) rfl ?_
  refine q_iconst 5 rfl (show sCode 108 4 = some (.iconst 0, 1) by decide +kernel) ⟨by decide, by decide⟩ ?_
  refine q_iconst 6 rfl (show sCode 108 5 = some (.iconst 0, 1) by decide +kernel) ⟨by decide, by decide⟩ ?_
  refine q_iast 7 rfl (show sCode 108 6 = some (.iastore, 1) by decide +kernel) ⟨by decide, by decide⟩ ?_
  refine q_iconst 8 rfl (show sCode 108 7 = some (.iconst 0, 1) by decide +kernel) ⟨by decide, by decide⟩ ?_
  refine q_istore [vO 1 a0, vO 10 a1, vA 0 a2 a2n, vI x3, vI x4, vI 0] 10 rfl (show sCode 108 8 = some (.istore 5, 2) by decide +kernel) (Nat.lt_of_lt_of_le (Nat.lt_succ_self _) (Nat.le_of_ble_eq_true rfl)) rfl rfl ?_
  exact kk
theorem b108_10 {d : Nat} {Q : Option sV → sM → sG → Prop} {M : sM} {G : sG} {a0 : Nat} {a1 : Nat} {a2 : Nat} {a2n : Int} {x3 : Int} {x4 : Int} {x5 : Int}  (k1 : x3 ≤ x5 → sW (sC d) 108 Q 91 [vO 1 a0, vN, vN, vI x3, vN, vN] [] M G 0 0) (k2 : x5 < x3 → sW (sC d) 108 Q 16 [vO 1 a0, vO 10 a1, vA 0 a2 a2n, vI x3, vI x4, vI x5] [] M G 0 0) : sW (sC d) 108 Q 10 [vO 1 a0, vO 10 a1, vA 0 a2 a2n, vI x3, vI x4, vI x5] [] M G 0 0 := by
  refine q_iload 12 rfl (show sCode 108 10 = some (.iload 5, 2) by decide +kernel) rfl ?_
  refine q_iload_n 13 rfl (show sCode 108 12 = some (.iload_n 3, 1) by decide +kernel) rfl ?_
  refine q_icmpge 91 16 rfl (by decide) (show sCode 108 13 = some (.if_icmp .ge 78, 3) by decide +kernel) ?_ ?_
  · intro q; refine q_forget (L' := [vO 1 a0, vN, vA 0 a2 a2n, vI x3, vI x4, vI x5]) 1 rfl ?_; refine q_forget (L' := [vO 1 a0, vN, vN, vI x3, vI x4, vI x5]) 2 rfl ?_; refine q_forget (L' := [vO 1 a0, vN, vN, vI x3, vN, vI x5]) 4 rfl ?_; refine q_forget (L' := [vO 1 a0, vN, vN, vI x3, vN, vN]) 5 rfl ?_; exact k1 q
  · intro q; exact k2 q
theorem b108_16 {d : Nat} {Q : Option sV → sM → sG → Prop} {M : sM} {G : sG} {a0 : Nat} {a1 : Nat} {a2 : Nat} {a2n : Int} {x3 : Int} {x4 : Int} {x5 : Int} (h1 : sI (x5 + 1)) (h2 : 0 ≤ x5 ∧ x5 < 19) (h3 : 0 ≤ x5 + 1 ∧ x5 + 1 < 19) (h4 : 0 ≤ x5 ∧ x5 < 18) (h5 : 0 ≤ (sUpd M (a0 + 5) (x5 + 1).toNat (M (a0 + 5) x5.toNat)) (a0 + 1) x5.toNat ∧ (sUpd M (a0 + 5) (x5 + 1).toNat (M (a0 + 5) x5.toNat)) (a0 + 1) x5.toNat < 18) (k1 : (sUpd M (a0 + 5) (x5 + 1).toNat (M (a0 + 5) x5.toNat)) (a1 + 8) ((sUpd M (a0 + 5) (x5 + 1).toNat (M (a0 + 5) x5.toNat)) (a0 + 1) x5.toNat).toNat < x4 → sW (sC d) 108 Q 85 [vO 1 a0, vO 10 a1, vA 0 a2 a2n, vI x3, vI x4, vI x5] [] (sUpd M (a0 + 5) (x5 + 1).toNat (M (a0 + 5) x5.toNat)) G 0 0) (k2 : x4 ≤ (sUpd M (a0 + 5) (x5 + 1).toNat (M (a0 + 5) x5.toNat)) (a1 + 8) ((sUpd M (a0 + 5) (x5 + 1).toNat (M (a0 + 5) x5.toNat)) (a0 + 1) x5.toNat).toNat → sW (sC d) 108 Q 49 [vO 1 a0, vO 10 a1, vA 0 a2 a2n, vI x3, vI x4, vI x5] [] (sUpd M (a0 + 5) (x5 + 1).toNat (M (a0 + 5) x5.toNat)) G 0 0) : sW (sC d) 108 Q 16 [vO 1 a0, vO 10 a1, vA 0 a2 a2n, vI x3, vI x4, vI x5] [] M G 0 0 := by
  refine q_aload_n 17 rfl (show sCode 108 16 = some (.aload_n 0, 1) by decide +kernel) rfl (Nat.le_of_ble_eq_true rfl) ?_
  refine q_getR (vA 0 (a0 + 5) 19) 20 rfl (show sCode 108 17 = some (.getfield 24, 3) by decide +kernel) (show sFR (sKo 108).1 24 = some (1, 4) by decide +kernel) (by decide +kernel) (Or.inl (Or.inl rfl)) rfl ?_
  refine q_iload 22 rfl (show sCode 108 20 = some (.iload 5, 2) by decide +kernel) rfl ?_
  refine q_iconst 23 rfl (show sCode 108 22 = some (.iconst 1, 1) by decide +kernel) ⟨by decide, by decide⟩ ?_
  refine q_iadd 24 rfl (show sCode 108 23 = some (.iadd, 1) by decide +kernel) h1 ?_
  refine q_aload_n 25 rfl (show sCode 108 24 = some (.aload_n 0, 1) by decide +kernel) rfl (Nat.le_of_ble_eq_true rfl) ?_
  refine q_getR (vA 0 (a0 + 5) 19) 28 rfl (show sCode 108 25 = some (.getfield 24, 3) by decide +kernel) (show sFR (sKo 108).1 24 = some (1, 4) by decide +kernel) (by decide +kernel) (Or.inl (Or.inl rfl)) rfl ?_
  refine q_iload 30 rfl (show sCode 108 28 = some (.iload 5, 2) by decide +kernel) rfl ?_
  refine q_iald 31 rfl (show sCode 108 30 = some (.iaload, 1) by decide +kernel) h2 ?_
  refine q_iast 32 rfl (show sCode 108 31 = some (.iastore, 1) by decide +kernel) h3 ?_
  refine q_aload_n 33 rfl (show sCode 108 32 = some (.aload_n 1, 1) by decide +kernel) rfl (Nat.le_of_ble_eq_true rfl) ?_
  refine q_getR (vA 0 (a1 + 8) 18) 36 rfl (show sCode 108 33 = some (.getfield 44, 3) by decide +kernel) (show sFR (sKo 108).1 44 = some (10, 9) by decide +kernel) (by decide +kernel) (Or.inl (Or.inl rfl)) rfl ?_
  refine q_aload_n 37 rfl (show sCode 108 36 = some (.aload_n 0, 1) by decide +kernel) rfl (Nat.le_of_ble_eq_true rfl) ?_
  refine q_getR (vA 0 (a0 + 1) 18) 40 rfl (show sCode 108 37 = some (.getfield 9, 3) by decide +kernel) (show sFR (sKo 108).1 9 = some (1, 0) by decide +kernel) (by decide +kernel) (Or.inl (Or.inl rfl)) rfl ?_
  refine q_iload 42 rfl (show sCode 108 40 = some (.iload 5, 2) by decide +kernel) rfl ?_
  refine q_iald 43 rfl (show sCode 108 42 = some (.iaload, 1) by decide +kernel) h4 ?_
  refine q_iald 44 rfl (show sCode 108 43 = some (.iaload, 1) by decide +kernel) h5 ?_
  refine q_iload 46 rfl (show sCode 108 44 = some (.iload 4, 2) by decide +kernel) rfl ?_
  refine q_icmplt 85 49 rfl (by decide) (show sCode 108 46 = some (.if_icmp .lt 39, 3) by decide +kernel) ?_ ?_
  · intro q; exact k1 q
  · intro q; exact k2 q
theorem b108_49 {d : Nat} {Q : Option sV → sM → sG → Prop} {M : sM} {G : sG} {a0 : Nat} {a1 : Nat} {a2 : Nat} {a2n : Int} {x3 : Int} {x4 : Int} {x5 : Int} (h1 : sI (x5 + 1)) (h2 : 0 ≤ x5 ∧ x5 < 19) (h3 : 0 ≤ x5 ∧ x5 < a2n) (h4 : 0 ≤ x5 ∧ x5 < 18) (h5 : 0 ≤ M (a0 + 2) x5.toNat ∧ M (a0 + 2) x5.toNat < 19) (h6 : sI ((M a2 x5.toNat) + (M (a0 + 5) (M (a0 + 2) x5.toNat).toNat))) (h7 : 0 ≤ x5 + 1 ∧ x5 + 1 < 19) (kk : sW (sC d) 108 Q 85 [vO 1 a0, vO 10 a1, vA 0 a2 a2n, vI x3, vI x4, vI x5] [] (sUpd M (a0 + 5) (x5 + 1).toNat (if M (a0 + 5) x5.toNat < (M a2 x5.toNat) + (M (a0 + 5) (M (a0 + 2) x5.toNat).toNat) then (M a2 x5.toNat) + (M (a0 + 5) (M (a0 + 2) x5.toNat).toNat) else M (a0 + 5) x5.toNat)) G 0 0) : sW (sC d) 108 Q 49 [vO 1 a0, vO 10 a1, vA 0 a2 a2n, vI x3, vI x4, vI x5] [] M G 0 0 := by
  refine q_aload_n 50 rfl (show sCode 108 49 = some (.aload_n 0, 1) by decide +kernel) rfl (Nat.le_of_ble_eq_true rfl) ?_
  refine q_getR (vA 0 (a0 + 5) 19) 53 rfl (show sCode 108 50 = some (.getfield 24, 3) by decide +kernel) (show sFR (sKo 108).1 24 = some (1, 4) by decide +kernel) (by decide +kernel) (Or.inl (Or.inl rfl)) rfl ?_
  refine q_iload 55 rfl (show sCode 108 53 = some (.iload 5, 2) by decide +kernel) rfl ?_
  refine q_iconst 56 rfl (show sCode 108 55 = some (.iconst 1, 1) by decide +kernel) ⟨by decide, by decide⟩ ?_
  refine q_iadd 57 rfl (show sCode 108 56 = some (.iadd, 1) by decide +kernel) h1 ?_
  refine q_aload_n 58 rfl (show sCode 108 57 = some (.aload_n 0, 1) by decide +kernel) rfl (Nat.le_of_ble_eq_true rfl) ?_
  refine q_getR (vA 0 (a0 + 5) 19) 61 rfl (show sCode 108 58 = some (.getfield 24, 3) by decide +kernel) (show sFR (sKo 108).1 24 = some (1, 4) by decide +kernel) (by decide +kernel) (Or.inl (Or.inl rfl)) rfl ?_
  refine q_iload 63 rfl (show sCode 108 61 = some (.iload 5, 2) by decide +kernel) rfl ?_
  refine q_iald 64 rfl (show sCode 108 63 = some (.iaload, 1) by decide +kernel) h2 ?_
  refine q_aload_n 65 rfl (show sCode 108 64 = some (.aload_n 2, 1) by decide +kernel) rfl (Nat.le_of_ble_eq_true rfl) ?_
  refine q_iload 67 rfl (show sCode 108 65 = some (.iload 5, 2) by decide +kernel) rfl ?_
  refine q_iald 68 rfl (show sCode 108 67 = some (.iaload, 1) by decide +kernel) h3 ?_
  refine q_aload_n 69 rfl (show sCode 108 68 = some (.aload_n 0, 1) by decide +kernel) rfl (Nat.le_of_ble_eq_true rfl) ?_
  refine q_getR (vA 0 (a0 + 5) 19) 72 rfl (show sCode 108 69 = some (.getfield 24, 3) by decide +kernel) (show sFR (sKo 108).1 24 = some (1, 4) by decide +kernel) (by decide +kernel) (Or.inl (Or.inl rfl)) rfl ?_
  refine q_aload_n 73 rfl (show sCode 108 72 = some (.aload_n 0, 1) by decide +kernel) rfl (Nat.le_of_ble_eq_true rfl) ?_
  refine q_getR (vA 0 (a0 + 2) 18) 76 rfl (show sCode 108 73 = some (.getfield 15, 3) by decide +kernel) (show sFR (sKo 108).1 15 = some (1, 1) by decide +kernel) (by decide +kernel) (Or.inl (Or.inl rfl)) rfl ?_
  refine q_iload 78 rfl (show sCode 108 76 = some (.iload 5, 2) by decide +kernel) rfl ?_
  refine q_iald 79 rfl (show sCode 108 78 = some (.iaload, 1) by decide +kernel) h4 ?_
  refine q_iald 80 rfl (show sCode 108 79 = some (.iaload, 1) by decide +kernel) h5 ?_
  refine q_iadd 81 rfl (show sCode 108 80 = some (.iadd, 1) by decide +kernel) h6 ?_
  refine q_max 84 rfl (show sCode 108 81 = some (.invokestatic 92, 3) by decide +kernel) (by decide +kernel) (Nat.le_of_ble_eq_true rfl) ?_
  refine q_iast 85 rfl (show sCode 108 84 = some (.iastore, 1) by decide +kernel) h7 ?_
  exact kk
theorem b108_85 {d : Nat} {Q : Option sV → sM → sG → Prop} {M : sM} {G : sG} {a0 : Nat} {a1 : Nat} {a2 : Nat} {a2n : Int} {x3 : Int} {x4 : Int} {x5 : Int} (h1 : sI (x5 + 1)) (kk : sW (sC d) 108 Q 10 [vO 1 a0, vO 10 a1, vA 0 a2 a2n, vI x3, vI x4, vI (x5 + 1)] [] M G 0 0) : sW (sC d) 108 Q 85 [vO 1 a0, vO 10 a1, vA 0 a2 a2n, vI x3, vI x4, vI x5] [] M G 0 0 := by
  refine q_iinc [vO 1 a0, vO 10 a1, vA 0 a2 a2n, vI x3, vI x4, vI (x5 + 1)] 88 rfl (show sCode 108 85 = some (.iinc 5 1, 3) by decide +kernel) rfl rfl h1 rfl ?_
  refine q_goto 10 (by decide) (show sCode 108 88 = some (.goto (-78), 3) by decide +kernel) ?_
  exact kk
theorem b108_91 {d : Nat} {P : Int → sM → sG → Prop} {M : sM} {G : sG} {a0 : Nat} {x3 : Int} (h1 : 0 ≤ x3 ∧ x3 < 19) (kk : P (M (a0 + 5) x3.toNat) M G) : sW (sC d) 108 (QI P) 91 [vO 1 a0, vN, vN, vI x3, vN, vN] [] M G 0 0 := by
  refine q_aload_n 92 rfl (show sCode 108 91 = some (.aload_n 0, 1) by decide +kernel) rfl (Nat.le_of_ble_eq_true rfl) ?_
  refine q_getR (vA 0 (a0 + 5) 19) 95 rfl (show sCode 108 92 = some (.getfield 24, 3) by decide +kernel) (show sFR (sKo 108).1 24 = some (1, 4) by decide +kernel) (by decide +kernel) (Or.inl (Or.inl rfl)) rfl ?_
  refine q_iload_n 96 rfl (show sCode 108 95 = some (.iload_n 3, 1) by decide +kernel) rfl ?_
  refine q_iald 97 rfl (show sCode 108 96 = some (.iaload, 1) by decide +kernel) h1 ?_
  exact q_iret (show sCode 108 97 = some (.ireturn, 1) by decide +kernel) (by decide +kernel) (by decide +kernel) kk
-- 109 AfterTheLast$Crossings.score (LAfterTheLast$Town;I)I
theorem b109_0 {d : Nat} {P : Int → sM → sG → Prop} {M : sM} {G : sG} {a0 : Nat} {x1 : Int} (h1 : 0 ≤ x1 ∧ x1 < 18) (h2 : sI ((iShl (M (a0 + 10) x1.toNat) 18) - (iShl 1 x1))) (kk : P ((iShl (M (a0 + 10) x1.toNat) 18) - (iShl 1 x1)) M G) : sW (sC d) 109 (QI P) 0 [vO 10 a0, vI x1] [] M G 0 0 := by
  refine q_aload_n 1 rfl (show sCode 109 0 = some (.aload_n 0, 1) by decide +kernel) rfl (Nat.le_of_ble_eq_true rfl) ?_
  refine q_getR (vA 0 (a0 + 10) 18) 4 rfl (show sCode 109 1 = some (.getfield 58, 3) by decide +kernel) (show sFR (sKo 109).1 58 = some (10, 11) by decide +kernel) (by decide +kernel) (Or.inl (Or.inl rfl)) rfl ?_
  refine q_iload_n 5 rfl (show sCode 109 4 = some (.iload_n 1, 1) by decide +kernel) rfl ?_
  refine q_iald 6 rfl (show sCode 109 5 = some (.iaload, 1) by decide +kernel) h1 ?_
  refine q_bipush 8 rfl (show sCode 109 6 = some (.bipush 18, 2) by decide +kernel) ⟨by decide, by decide⟩ (by decide +kernel) ?_
  refine q_ishl 9 rfl (show sCode 109 8 = some (.ishl, 1) by decide +kernel) ?_
  refine q_iconst 10 rfl (show sCode 109 9 = some (.iconst 1, 1) by decide +kernel) ⟨by decide, by decide⟩ ?_
  refine q_iload_n 11 rfl (show sCode 109 10 = some (.iload_n 1, 1) by decide +kernel) rfl ?_
  refine q_ishl 12 rfl (show sCode 109 11 = some (.ishl, 1) by decide +kernel) ?_
  refine q_isub 13 rfl (show sCode 109 12 = some (.isub, 1) by decide +kernel) h2 ?_
  exact q_iret (show sCode 109 13 = some (.ireturn, 1) by decide +kernel) (by decide +kernel) (by decide +kernel) kk
-- 110 AfterTheLast$Crossings.worthOf (I)I
theorem b110_0 {d : Nat} {P : Int → sM → sG → Prop} {M : sM} {G : sG} {x0 : Int} (h1 : sI (x0 + 262144)) (h2 : sI ((x0 + 262144) - 1)) (kk : P (iShr ((x0 + 262144) - 1) 18) M G) : sW (sC d) 110 (QI P) 0 [vI x0] [] M G 0 0 := by
  refine q_iload_n 1 rfl (show sCode 110 0 = some (.iload_n 0, 1) by decide +kernel) rfl ?_
  refine q_ldcI 3 rfl (show sCode 110 1 = some (.ldc 61, 2) by decide +kernel) (show sIR (sKo 110).1 61 = some 262144 by decide +kernel) ⟨by decide, by decide⟩ ?_
  refine q_iadd 4 rfl (show sCode 110 3 = some (.iadd, 1) by decide +kernel) h1 ?_
  refine q_iconst 5 rfl (show sCode 110 4 = some (.iconst 1, 1) by decide +kernel) ⟨by decide, by decide⟩ ?_
  refine q_isub 6 rfl (show sCode 110 5 = some (.isub, 1) by decide +kernel) h2 ?_
  refine q_bipush 8 rfl (show sCode 110 6 = some (.bipush 18, 2) by decide +kernel) ⟨by decide, by decide⟩ (by decide +kernel) ?_
  refine q_ishr 9 rfl (show sCode 110 8 = some (.ishr, 1) by decide +kernel) ?_
  exact q_iret (show sCode 110 9 = some (.ireturn, 1) by decide +kernel) (by decide +kernel) (by decide +kernel) kk
-- 111 AfterTheLast$Crossings.setOf (I)I
theorem b111_0 {d : Nat} {Q : Option sV → sM → sG → Prop} {M : sM} {G : sG} {x0 : Int}  (kk : sC d 110 [vI x0] M G (QI (fun r M1 G1 => sW (sC d) 111 Q 4 [vI x0] (vI r :: []) M1 G1 0 0))) : sW (sC d) 111 Q 0 [vI x0] [] M G 0 0 := by
  refine q_iload_n 1 rfl (show sCode 111 0 = some (.iload_n 0, 1) by decide +kernel) rfl ?_
  exact q_statI [vI x0] 4 rfl (show sCode 111 1 = some (.invokestatic 62, 3) by decide +kernel) (show sMR (sKo 111).1 62 = some 110 by decide +kernel) (show 110 < 1000 ∧ sStat 110 = true ∧ sKo 110 = (1, 1, 1, 0, 0) by decide +kernel) rfl rfl (Nat.le_of_ble_eq_true rfl) rfl rfl rfl (by decide +kernel) kk
theorem b111_4 {d : Nat} {P : Int → sM → sG → Prop} {M : sM} {G : sG} {x0 : Int} {s0 : Int} (h1 : sI ((iShl s0 18) - x0)) (kk : P ((iShl s0 18) - x0) M G) : sW (sC d) 111 (QI P) 4 [vI x0] [vI s0] M G 0 0 := by
  refine q_bipush 6 rfl (show sCode 111 4 = some (.bipush 18, 2) by decide +kernel) ⟨by decide, by decide⟩ (by decide +kernel) ?_
  refine q_ishl 7 rfl (show sCode 111 6 = some (.ishl, 1) by decide +kernel) ?_
  refine q_iload_n 8 rfl (show sCode 111 7 = some (.iload_n 0, 1) by decide +kernel) rfl ?_
  refine q_isub 9 rfl (show sCode 111 8 = some (.isub, 1) by decide +kernel) h1 ?_
  exact q_iret (show sCode 111 9 = some (.ireturn, 1) by decide +kernel) (by decide +kernel) (by decide +kernel) kk
-- 114 AfterTheLast$Crossings.draw (LAfterTheLast$Town;II)V
theorem b114_0 {d : Nat} {Q : Option sV → sM → sG → Prop} {M : sM} {G : sG} {a0 : Nat} {a1 : Nat} {x2 : Int} {x3 : Int}  (kk : sW (sC d) 114 Q 8 [vO 1 a0, vO 10 a1, vI x2, vI x3, vI 0, vN] [] (sUpd M a0 8 0) G 0 0) : sW (sC d) 114 Q 0 [vO 1 a0, vO 10 a1, vI x2, vI x3, vN, vN] [] M G 0 0 := by
  refine q_aload_n 1 rfl (show sCode 114 0 = some (.aload_n 0, 1) by decide +kernel) rfl (Nat.le_of_ble_eq_true rfl) ?_
  refine q_iconst 2 rfl (show sCode 114 1 = some (.iconst 0, 1) by decide +kernel) ⟨by decide, by decide⟩ ?_
  refine q_putI 5 rfl (show sCode 114 2 = some (.putfield 36, 3) by decide +kernel) (show sFR (sKo 114).1 36 = some (1, 8) by decide +kernel) (by decide +kernel) (Or.inl ⟨Or.inl rfl, by decide +kernel⟩) ?_
  refine q_iconst 6 rfl (show sCode 114 5 = some (.iconst 0, 1) by decide +kernel) ⟨by decide, by decide⟩ ?_
  refine q_istore [vO 1 a0, vO 10 a1, vI x2, vI x3, vI 0, vN] 8 rfl (show sCode 114 6 = some (.istore 4, 2) by decide +kernel) (Nat.lt_of_lt_of_le (Nat.lt_succ_self _) (Nat.le_of_ble_eq_true rfl)) rfl rfl ?_
  exact kk
theorem b114_8 {d : Nat} {Q : Option sV → sM → sG → Prop} {M : sM} {G : sG} {a0 : Nat} {a1 : Nat} {x2 : Int} {x3 : Int} {x4 : Int}  (k1 : M a1 6 ≤ x4 → sW (sC d) 114 Q 63 [vO 1 a0, vO 10 a1, vN, vI x3, vN, vN] [] M G 0 0) (k2 : x4 < M a1 6 → sW (sC d) 114 Q 17 [vO 1 a0, vO 10 a1, vI x2, vI x3, vI x4, vN] [] M G 0 0) : sW (sC d) 114 Q 8 [vO 1 a0, vO 10 a1, vI x2, vI x3, vI x4, vN] [] M G 0 0 := by
  refine q_iload 10 rfl (show sCode 114 8 = some (.iload 4, 2) by decide +kernel) rfl ?_
  refine q_aload_n 11 rfl (show sCode 114 10 = some (.aload_n 1, 1) by decide +kernel) rfl (Nat.le_of_ble_eq_true rfl) ?_
  refine q_getI 14 rfl (show sCode 114 11 = some (.getfield 52, 3) by decide +kernel) (show sFR (sKo 114).1 52 = some (10, 6) by decide +kernel) (by decide +kernel) (Or.inl (Or.inl rfl)) ?_
  refine q_icmpge 63 17 rfl (by decide) (show sCode 114 14 = some (.if_icmp .ge 49, 3) by decide +kernel) ?_ ?_
  · intro q; refine q_forget (L' := [vO 1 a0, vO 10 a1, vN, vI x3, vI x4, vN]) 2 rfl ?_; refine q_forget (L' := [vO 1 a0, vO 10 a1, vN, vI x3, vN, vN]) 4 rfl ?_; exact k1 q
  · intro q; exact k2 q
theorem b114_17 {d : Nat} {Q : Option sV → sM → sG → Prop} {M : sM} {G : sG} {a0 : Nat} {a1 : Nat} {x2 : Int} {x3 : Int} {x4 : Int}  (k1 : iAnd (iShr x2 x4) 1 ≠ 1 → sW (sC d) 114 Q 57 [vO 1 a0, vO 10 a1, vI x2, vI x3, vI x4, vN] [] M G 0 0) (k2 : iAnd (iShr x2 x4) 1 = 1 → sW (sC d) 114 Q 27 [vO 1 a0, vO 10 a1, vI x2, vI x3, vI x4, vN] [] M G 0 0) : sW (sC d) 114 Q 17 [vO 1 a0, vO 10 a1, vI x2, vI x3, vI x4, vN] [] M G 0 0 := by
  refine q_iload_n 18 rfl (show sCode 114 17 = some (.iload_n 2, 1) by decide +kernel) rfl ?_
  refine q_iload 20 rfl (show sCode 114 18 = some (.iload 4, 2) by decide +kernel) rfl ?_
  refine q_ishr 21 rfl (show sCode 114 20 = some (.ishr, 1) by decide +kernel) ?_
  refine q_iconst 22 rfl (show sCode 114 21 = some (.iconst 1, 1) by decide +kernel) ⟨by decide, by decide⟩ ?_
  refine q_iand 23 rfl (show sCode 114 22 = some (.iand, 1) by decide +kernel) ?_
  refine q_iconst 24 rfl (show sCode 114 23 = some (.iconst 1, 1) by decide +kernel) ⟨by decide, by decide⟩ ?_
  refine q_icmpne 57 27 rfl (by decide) (show sCode 114 24 = some (.if_icmp .ne 33, 3) by decide +kernel) ?_ ?_
  · intro q; exact k1 q
  · intro q; exact k2 q
theorem b114_27 {d : Nat} {Q : Option sV → sM → sG → Prop} {M : sM} {G : sG} {a0 : Nat} {a1 : Nat} {x2 : Int} {x3 : Int} {x4 : Int}  (k1 : 12 ≤ M a0 8 → sW (sC d) 114 Q 57 [vO 1 a0, vO 10 a1, vI x2, vI x3, vI x4, vN] [] M G 0 0) (k2 : M a0 8 < 12 → sW (sC d) 114 Q 36 [vO 1 a0, vO 10 a1, vI x2, vI x3, vI x4, vN] [] M G 0 0) : sW (sC d) 114 Q 27 [vO 1 a0, vO 10 a1, vI x2, vI x3, vI x4, vN] [] M G 0 0 := by
  refine q_aload_n 28 rfl (show sCode 114 27 = some (.aload_n 0, 1) by decide +kernel) rfl (Nat.le_of_ble_eq_true rfl) ?_
  refine q_getI 31 rfl (show sCode 114 28 = some (.getfield 36, 3) by decide +kernel) (show sFR (sKo 114).1 36 = some (1, 8) by decide +kernel) (by decide +kernel) (Or.inl (Or.inl rfl)) ?_
  refine q_bipush 33 rfl (show sCode 114 31 = some (.bipush 12, 2) by decide +kernel) ⟨by decide, by decide⟩ (by decide +kernel) ?_
  refine q_icmpge 57 36 rfl (by decide) (show sCode 114 33 = some (.if_icmp .ge 24, 3) by decide +kernel) ?_ ?_
  · intro q; exact k1 q
  · intro q; exact k2 q
theorem b114_36 {d : Nat} {Q : Option sV → sM → sG → Prop} {M : sM} {G : sG} {a0 : Nat} {a1 : Nat} {x2 : Int} {x3 : Int} {x4 : Int} (h1 : 0 ≤ M a0 8 ∧ M a0 8 < 12) (h2 : sI (((sUpd M (a0 + 8) (M a0 8).toNat x4) a0 8) + 1)) (kk : sW (sC d) 114 Q 57 [vO 1 a0, vO 10 a1, vI x2, vI x3, vI x4, vN] [] (sUpd (sUpd M (a0 + 8) (M a0 8).toNat x4) a0 8 (((sUpd M (a0 + 8) (M a0 8).toNat x4) a0 8) + 1)) G 0 0) : sW (sC d) 114 Q 36 [vO 1 a0, vO 10 a1, vI x2, vI x3, vI x4, vN] [] M G 0 0 := by
  refine q_aload_n 37 rfl (show sCode 114 36 = some (.aload_n 0, 1) by decide +kernel) rfl (Nat.le_of_ble_eq_true rfl) ?_
  refine q_getR (vA 0 (a0 + 8) 12) 40 rfl (show sCode 114 37 = some (.getfield 33, 3) by decide +kernel) (show sFR (sKo 114).1 33 = some (1, 7) by decide +kernel) (by decide +kernel) (Or.inl (Or.inl rfl)) rfl ?_
  refine q_aload_n 41 rfl (show sCode 114 40 = some (.aload_n 0, 1) by decide +kernel) rfl (Nat.le_of_ble_eq_true rfl) ?_
  refine q_getI 44 rfl (show sCode 114 41 = some (.getfield 36, 3) by decide +kernel) (show sFR (sKo 114).1 36 = some (1, 8) by decide +kernel) (by decide +kernel) (Or.inl (Or.inl rfl)) ?_
  refine q_iload 46 rfl (show sCode 114 44 = some (.iload 4, 2) by decide +kernel) rfl ?_
  refine q_iast 47 rfl (show sCode 114 46 = some (.iastore, 1) by decide +kernel) h1 ?_
  refine q_aload_n 48 rfl (show sCode 114 47 = some (.aload_n 0, 1) by decide +kernel) rfl (Nat.le_of_ble_eq_true rfl) ?_
  refine q_dup 49 rfl (show sCode 114 48 = some (.dup, 1) by decide +kernel) rfl ?_
  refine q_getI 52 rfl (show sCode 114 49 = some (.getfield 36, 3) by decide +kernel) (show sFR (sKo 114).1 36 = some (1, 8) by decide +kernel) (by decide +kernel) (Or.inl (Or.inl rfl)) ?_
  refine q_iconst 53 rfl (show sCode 114 52 = some (.iconst 1, 1) by decide +kernel) ⟨by decide, by decide⟩ ?_
  refine q_iadd 54 rfl (show sCode 114 53 = some (.iadd, 1) by decide +kernel) h2 ?_
  refine q_putI 57 rfl (show sCode 114 54 = some (.putfield 36, 3) by decide +kernel) (show sFR (sKo 114).1 36 = some (1, 8) by decide +kernel) (by decide +kernel) (Or.inl ⟨Or.inl rfl, by decide +kernel⟩) ?_
  exact kk
theorem b114_57 {d : Nat} {Q : Option sV → sM → sG → Prop} {M : sM} {G : sG} {a0 : Nat} {a1 : Nat} {x2 : Int} {x3 : Int} {x4 : Int} (h1 : sI (x4 + 1)) (kk : sW (sC d) 114 Q 8 [vO 1 a0, vO 10 a1, vI x2, vI x3, vI (x4 + 1), vN] [] M G 0 0) : sW (sC d) 114 Q 57 [vO 1 a0, vO 10 a1, vI x2, vI x3, vI x4, vN] [] M G 0 0 := by
  refine q_iinc [vO 1 a0, vO 10 a1, vI x2, vI x3, vI (x4 + 1), vN] 60 rfl (show sCode 114 57 = some (.iinc 4 1, 3) by decide +kernel) rfl rfl h1 rfl ?_
  refine q_goto 8 (by decide) (show sCode 114 60 = some (.goto (-52), 3) by decide +kernel) ?_
  exact kk
theorem b114_63 {d : Nat} {Q : Option sV → sM → sG → Prop} {M : sM} {G : sG} {a0 : Nat} {a1 : Nat} {x3 : Int}  (kk : sW (sC d) 114 Q 66 [vO 1 a0, vO 10 a1, vN, vI x3, vI 0, vN] [] M G 0 0) : sW (sC d) 114 Q 63 [vO 1 a0, vO 10 a1, vN, vI x3, vN, vN] [] M G 0 0 := by
  refine q_iconst 64 rfl (show sCode 114 63 = some (.iconst 0, 1) by decide +kernel) ⟨by decide, by decide⟩ ?_
  refine q_istore [vO 1 a0, vO 10 a1, vN, vI x3, vI 0, vN] 66 rfl (show sCode 114 64 = some (.istore 4, 2) by decide +kernel) (Nat.lt_of_lt_of_le (Nat.lt_succ_self _) (Nat.le_of_ble_eq_true rfl)) rfl rfl ?_
  exact kk
theorem b114_66 {d : Nat} {Q : Option sV → sM → sG → Prop} {M : sM} {G : sG} {a0 : Nat} {a1 : Nat} {x3 : Int} {x4 : Int}  (k1 : M a0 8 ≤ x4 → sW (sC d) 114 Q 143 [vN, vN, vN, vN, vN, vN] [] M G 0 0) (k2 : x4 < M a0 8 → sW (sC d) 114 Q 75 [vO 1 a0, vO 10 a1, vN, vI x3, vI x4, vN] [] M G 0 0) : sW (sC d) 114 Q 66 [vO 1 a0, vO 10 a1, vN, vI x3, vI x4, vN] [] M G 0 0 := by
  refine q_iload 68 rfl (show sCode 114 66 = some (.iload 4, 2) by decide +kernel) rfl ?_
  refine q_aload_n 69 rfl (show sCode 114 68 = some (.aload_n 0, 1) by decide +kernel) rfl (Nat.le_of_ble_eq_true rfl) ?_
  refine q_getI 72 rfl (show sCode 114 69 = some (.getfield 36, 3) by decide +kernel) (show sFR (sKo 114).1 36 = some (1, 8) by decide +kernel) (by decide +kernel) (Or.inl (Or.inl rfl)) ?_
  refine q_icmpge 143 75 rfl (by decide) (show sCode 114 72 = some (.if_icmp .ge 71, 3) by decide +kernel) ?_ ?_
  · intro q; refine q_forget (L' := [vN, vO 10 a1, vN, vI x3, vI x4, vN]) 0 rfl ?_; refine q_forget (L' := [vN, vN, vN, vI x3, vI x4, vN]) 1 rfl ?_; refine q_forget (L' := [vN, vN, vN, vN, vI x4, vN]) 3 rfl ?_; refine q_forget (L' := [vN, vN, vN, vN, vN, vN]) 4 rfl ?_; exact k1 q
  · intro q; exact k2 q
theorem b114_75 {d : Nat} {Q : Option sV → sM → sG → Prop} {M : sM} {G : sG} {a0 : Nat} {a1 : Nat} {x3 : Int} {x4 : Int} (h1 : 0 ≤ x4 ∧ x4 < 12) (kk : sW (sC d) 114 Q 86 [vO 1 a0, vO 10 a1, vN, vI x3, vI x4, vI 0] [] (sUpd M (a0 + 6) x4.toNat 0) G 0 0) : sW (sC d) 114 Q 75 [vO 1 a0, vO 10 a1, vN, vI x3, vI x4, vN] [] M G 0 0 := by
  refine q_aload_n 76 rfl (show sCode 114 75 = some (.aload_n 0, 1) by decide +kernel) rfl (Nat.le_of_ble_eq_true rfl) ?_
  refine q_getR (vA 0 (a0 + 6) 12) 79 rfl (show sCode 114 76 = some (.getfield 27, 3) by decide +kernel) (show sFR (sKo 114).1 27 = some (1, 5) by decide +kernel) (by decide +kernel) (Or.inl (Or.inl rfl)) rfl ?_
  refine q_iload 81 rfl (show sCode 114 79 = some (.iload 4, 2) by decide +kernel) rfl ?_
  refine q_iconst 82 rfl (show sCode 114 81 = some (.iconst 0, 1) by decide +kernel) ⟨by decide, by decide⟩ ?_
  refine q_iast 83 rfl (show sCode 114 82 = some (.iastore, 1) by decide +kernel) h1 ?_
  refine q_iconst 84 rfl (show sCode 114 83 = some (.iconst 0, 1) by decide +kernel) ⟨by decide, by decide⟩ ?_
  refine q_istore [vO 1 a0, vO 10 a1, vN, vI x3, vI x4, vI 0] 86 rfl (show sCode 114 84 = some (.istore 5, 2) by decide +kernel) (Nat.lt_of_lt_of_le (Nat.lt_succ_self _) (Nat.le_of_ble_eq_true rfl)) rfl rfl ?_
  exact kk
theorem b114_86 {d : Nat} {Q : Option sV → sM → sG → Prop} {M : sM} {G : sG} {a0 : Nat} {a1 : Nat} {x3 : Int} {x4 : Int} {x5 : Int}  (k1 : M a0 8 ≤ x5 → sW (sC d) 114 Q 137 [vO 1 a0, vO 10 a1, vN, vI x3, vI x4, vN] [] M G 0 0) (k2 : x5 < M a0 8 → sW (sC d) 114 Q 95 [vO 1 a0, vO 10 a1, vN, vI x3, vI x4, vI x5] [] M G 0 0) : sW (sC d) 114 Q 86 [vO 1 a0, vO 10 a1, vN, vI x3, vI x4, vI x5] [] M G 0 0 := by
  refine q_iload 88 rfl (show sCode 114 86 = some (.iload 5, 2) by decide +kernel) rfl ?_
  refine q_aload_n 89 rfl (show sCode 114 88 = some (.aload_n 0, 1) by decide +kernel) rfl (Nat.le_of_ble_eq_true rfl) ?_
  refine q_getI 92 rfl (show sCode 114 89 = some (.getfield 36, 3) by decide +kernel) (show sFR (sKo 114).1 36 = some (1, 8) by decide +kernel) (by decide +kernel) (Or.inl (Or.inl rfl)) ?_
  refine q_icmpge 137 95 rfl (by decide) (show sCode 114 92 = some (.if_icmp .ge 45, 3) by decide +kernel) ?_ ?_
  · intro q; refine q_forget (L' := [vO 1 a0, vO 10 a1, vN, vI x3, vI x4, vN]) 5 rfl ?_; exact k1 q
  · intro q; exact k2 q
theorem b114_95 {d : Nat} {Q : Option sV → sM → sG → Prop} {M : sM} {G : sG} {a0 : Nat} {a1 : Nat} {x3 : Int} {x4 : Int} {x5 : Int} (h1 : 0 ≤ x4 ∧ x4 < 12) (h2 : 0 ≤ x5 ∧ x5 < 12) (kk : sC d 99 [vO 10 a1, vI (M (a0 + 8) x4.toNat), vI (M (a0 + 8) x5.toNat), vI x3] M G (QI (fun r M1 G1 => sW (sC d) 114 Q 114 [vO 1 a0, vO 10 a1, vN, vI x3, vI x4, vI x5] (vI r :: []) M1 G1 0 0))) : sW (sC d) 114 Q 95 [vO 1 a0, vO 10 a1, vN, vI x3, vI x4, vI x5] [] M G 0 0 := by
  refine q_aload_n 96 rfl (show sCode 114 95 = some (.aload_n 1, 1) by decide +kernel) rfl (Nat.le_of_ble_eq_true rfl) ?_
  refine q_aload_n 97 rfl (show sCode 114 96 = some (.aload_n 0, 1) by decide +kernel) rfl (Nat.le_of_ble_eq_true rfl) ?_
  refine q_getR (vA 0 (a0 + 8) 12) 100 rfl (show sCode 114 97 = some (.getfield 33, 3) by decide +kernel) (show sFR (sKo 114).1 33 = some (1, 7) by decide +kernel) (by decide +kernel) (Or.inl (Or.inl rfl)) rfl ?_
  refine q_iload 102 rfl (show sCode 114 100 = some (.iload 4, 2) by decide +kernel) rfl ?_
  refine q_iald 103 rfl (show sCode 114 102 = some (.iaload, 1) by decide +kernel) h1 ?_
  refine q_aload_n 104 rfl (show sCode 114 103 = some (.aload_n 0, 1) by decide +kernel) rfl (Nat.le_of_ble_eq_true rfl) ?_
  refine q_getR (vA 0 (a0 + 8) 12) 107 rfl (show sCode 114 104 = some (.getfield 33, 3) by decide +kernel) (show sFR (sKo 114).1 33 = some (1, 7) by decide +kernel) (by decide +kernel) (Or.inl (Or.inl rfl)) rfl ?_
  refine q_iload 109 rfl (show sCode 114 107 = some (.iload 5, 2) by decide +kernel) rfl ?_
  refine q_iald 110 rfl (show sCode 114 109 = some (.iaload, 1) by decide +kernel) h2 ?_
  refine q_iload_n 111 rfl (show sCode 114 110 = some (.iload_n 3, 1) by decide +kernel) rfl ?_
  exact q_statI [vO 10 a1, vI (M (a0 + 8) x4.toNat), vI (M (a0 + 8) x5.toNat), vI x3] 114 rfl (show sCode 114 111 = some (.invokestatic 55, 3) by decide +kernel) (show sMR (sKo 114).1 55 = some 99 by decide +kernel) (show 99 < 1000 ∧ sStat 99 = true ∧ sKo 99 = (1, 4, 2, 0, 0) by decide +kernel) rfl rfl (Nat.le_of_ble_eq_true rfl) rfl rfl rfl (by decide +kernel) kk
theorem b114_114 {d : Nat} {Q : Option sV → sM → sG → Prop} {M : sM} {G : sG} {a0 : Nat} {a1 : Nat} {x3 : Int} {x4 : Int} {x5 : Int} {s0 : Int}  (k1 : s0 = 0 → sW (sC d) 114 Q 131 [vO 1 a0, vO 10 a1, vN, vI x3, vI x4, vI x5] [] M G 0 0) (k2 : s0 ≠ 0 → sW (sC d) 114 Q 117 [vO 1 a0, vO 10 a1, vN, vI x3, vI x4, vI x5] [] M G 0 0) : sW (sC d) 114 Q 114 [vO 1 a0, vO 10 a1, vN, vI x3, vI x4, vI x5] [vI s0] M G 0 0 := by
  refine q_ifeq 131 117 rfl (by decide) (show sCode 114 114 = some (.ifCond .eq 17, 3) by decide +kernel) ?_ ?_
  · intro q; exact k1 q
  · intro q; exact k2 q
theorem b114_117 {d : Nat} {Q : Option sV → sM → sG → Prop} {M : sM} {G : sG} {a0 : Nat} {a1 : Nat} {x3 : Int} {x4 : Int} {x5 : Int} (h1 : 0 ≤ x4 ∧ x4 < 12) (h2 : 0 ≤ x4 ∧ x4 < 12) (kk : sW (sC d) 114 Q 131 [vO 1 a0, vO 10 a1, vN, vI x3, vI x4, vI x5] [] (sUpd M (a0 + 6) x4.toNat (iOr (M (a0 + 6) x4.toNat) (iShl 1 x5))) G 0 0) : sW (sC d) 114 Q 117 [vO 1 a0, vO 10 a1, vN, vI x3, vI x4, vI x5] [] M G 0 0 := by
  refine q_aload_n 118 rfl (show sCode 114 117 = some (.aload_n 0, 1) by decide +kernel) rfl (Nat.le_of_ble_eq_true rfl) ?_
  refine q_getR (vA 0 (a0 + 6) 12) 121 rfl (show sCode 114 118 = some (.getfield 27, 3) by decide +kernel) (show sFR (sKo 114).1 27 = some (1, 5) by decide +kernel) (by decide +kernel) (Or.inl (Or.inl rfl)) rfl ?_
  refine q_iload 123 rfl (show sCode 114 121 = some (.iload 4, 2) by decide +kernel) rfl ?_
  refine q_dup2 124 rfl (show sCode 114 123 = some (.dup2, 1) by decide +kernel) rfl rfl ?_
  refine q_iald 125 rfl (show sCode 114 124 = some (.iaload, 1) by decide +kernel) h1 ?_
  refine q_iconst 126 rfl (show sCode 114 125 = some (.iconst 1, 1) by decide +kernel) ⟨by decide, by decide⟩ ?_
  refine q_iload 128 rfl (show sCode 114 126 = some (.iload 5, 2) by decide +kernel) rfl ?_
  refine q_ishl 129 rfl (show sCode 114 128 = some (.ishl, 1) by decide +kernel) ?_
  refine q_ior 130 rfl (show sCode 114 129 = some (.ior, 1) by decide +kernel) ?_
  refine q_iast 131 rfl (show sCode 114 130 = some (.iastore, 1) by decide +kernel) h2 ?_
  exact kk
theorem b114_131 {d : Nat} {Q : Option sV → sM → sG → Prop} {M : sM} {G : sG} {a0 : Nat} {a1 : Nat} {x3 : Int} {x4 : Int} {x5 : Int} (h1 : sI (x5 + 1)) (kk : sW (sC d) 114 Q 86 [vO 1 a0, vO 10 a1, vN, vI x3, vI x4, vI (x5 + 1)] [] M G 0 0) : sW (sC d) 114 Q 131 [vO 1 a0, vO 10 a1, vN, vI x3, vI x4, vI x5] [] M G 0 0 := by
  refine q_iinc [vO 1 a0, vO 10 a1, vN, vI x3, vI x4, vI (x5 + 1)] 134 rfl (show sCode 114 131 = some (.iinc 5 1, 3) by decide +kernel) rfl rfl h1 rfl ?_
  refine q_goto 86 (by decide) (show sCode 114 134 = some (.goto (-48), 3) by decide +kernel) ?_
  exact kk
theorem b114_137 {d : Nat} {Q : Option sV → sM → sG → Prop} {M : sM} {G : sG} {a0 : Nat} {a1 : Nat} {x3 : Int} {x4 : Int} (h1 : sI (x4 + 1)) (kk : sW (sC d) 114 Q 66 [vO 1 a0, vO 10 a1, vN, vI x3, vI (x4 + 1), vN] [] M G 0 0) : sW (sC d) 114 Q 137 [vO 1 a0, vO 10 a1, vN, vI x3, vI x4, vN] [] M G 0 0 := by
  refine q_iinc [vO 1 a0, vO 10 a1, vN, vI x3, vI (x4 + 1), vN] 140 rfl (show sCode 114 137 = some (.iinc 4 1, 3) by decide +kernel) rfl rfl h1 rfl ?_
  refine q_goto 66 (by decide) (show sCode 114 140 = some (.goto (-74), 3) by decide +kernel) ?_
  exact kk
theorem b114_143 {d : Nat} {P : sM → sG → Prop} {M : sM} {G : sG}   (kk : P M G) : sW (sC d) 114 (QV P) 143 [vN, vN, vN, vN, vN, vN] [] M G 0 0 := by
  exact q_vret (show sCode 114 143 = some (.return_, 1) by decide +kernel) (by decide +kernel) (by decide +kernel) kk
-- 115 AfterTheLast$Crossings.fewestParts ()I
theorem b115_0 {d : Nat} {Q : Option sV → sM → sG → Prop} {M : sM} {G : sG} {a0 : Nat}  (kk : sC d 116 [vO 1 a0] M G (QI (fun r M1 G1 => sW (sC d) 115 Q 4 [vO 1 a0, vN] (vI r :: []) M1 G1 0 0))) : sW (sC d) 115 Q 0 [vO 1 a0, vN] [] M G 0 0 := by
  refine q_aload_n 1 rfl (show sCode 115 0 = some (.aload_n 0, 1) by decide +kernel) rfl (Nat.le_of_ble_eq_true rfl) ?_
  exact q_virtI [] 4 rfl (show sCode 115 1 = some (.invokevirtual 109, 3) by decide +kernel) (show sMR (sKo 115).1 109 = some 116 by decide +kernel) (show 116 < 1000 ∧ sStat 116 = false ∧ sIni 116 = false ∧ sKo 116 = (1, 0, 1, 0, 0) by decide +kernel) rfl (Or.inl rfl) rfl (Nat.le_of_ble_eq_true rfl) rfl rfl rfl (by decide +kernel) kk
theorem b115_4 {d : Nat} {Q : Option sV → sM → sG → Prop} {M : sM} {G : sG} {a0 : Nat} {s0 : Int}  (kk : sW (sC d) 115 Q 5 [vO 1 a0, vI s0] [] M G 0 0) : sW (sC d) 115 Q 4 [vO 1 a0, vN] [vI s0] M G 0 0 := by
  refine q_istore_n [vO 1 a0, vI s0] 5 rfl (show sCode 115 4 = some (.istore_n 1, 1) by decide +kernel) (Nat.lt_of_lt_of_le (Nat.lt_succ_self _) (Nat.le_of_ble_eq_true rfl)) rfl rfl ?_
  exact kk
theorem b115_5 {d : Nat} {Q : Option sV → sM → sG → Prop} {M : sM} {G : sG} {a0 : Nat} {x1 : Int}  (k1 : M a0 8 ≤ x1 → sW (sC d) 115 Q 31 [vO 1 a0, vN] [] M G 0 0) (k2 : x1 < M a0 8 → sW (sC d) 115 Q 13 [vO 1 a0, vI x1] [] M G 0 0) : sW (sC d) 115 Q 5 [vO 1 a0, vI x1] [] M G 0 0 := by
  refine q_iload_n 6 rfl (show sCode 115 5 = some (.iload_n 1, 1) by decide +kernel) rfl ?_
  refine q_aload_n 7 rfl (show sCode 115 6 = some (.aload_n 0, 1) by decide +kernel) rfl (Nat.le_of_ble_eq_true rfl) ?_
  refine q_getI 10 rfl (show sCode 115 7 = some (.getfield 36, 3) by decide +kernel) (show sFR (sKo 115).1 36 = some (1, 8) by decide +kernel) (by decide +kernel) (Or.inl (Or.inl rfl)) ?_
  refine q_icmpge 31 13 rfl (by decide) (show sCode 115 10 = some (.if_icmp .ge 21, 3) by decide +kernel) ?_ ?_
  · intro q; refine q_forget (L' := [vO 1 a0, vN]) 1 rfl ?_; exact k1 q
  · intro q; exact k2 q
theorem b115_13 {d : Nat} {Q : Option sV → sM → sG → Prop} {M : sM} {G : sG} {a0 : Nat} {x1 : Int}  (kk : sC d 118 [vO 1 a0, vI x1, vI 0, vI 0] M G (QI (fun r M1 G1 => sW (sC d) 115 Q 20 [vO 1 a0, vI x1] (vI r :: []) M1 G1 0 0))) : sW (sC d) 115 Q 13 [vO 1 a0, vI x1] [] M G 0 0 := by
  refine q_aload_n 14 rfl (show sCode 115 13 = some (.aload_n 0, 1) by decide +kernel) rfl (Nat.le_of_ble_eq_true rfl) ?_
  refine q_iload_n 15 rfl (show sCode 115 14 = some (.iload_n 1, 1) by decide +kernel) rfl ?_
  refine q_iconst 16 rfl (show sCode 115 15 = some (.iconst 0, 1) by decide +kernel) ⟨by decide, by decide⟩ ?_
  refine q_iconst 17 rfl (show sCode 115 16 = some (.iconst 0, 1) by decide +kernel) ⟨by decide, by decide⟩ ?_
  exact q_statI [vO 1 a0, vI x1, vI 0, vI 0] 20 rfl (show sCode 115 17 = some (.invokestatic 113, 3) by decide +kernel) (show sMR (sKo 115).1 113 = some 118 by decide +kernel) (show 118 < 1000 ∧ sStat 118 = true ∧ sKo 118 = (1, 4, 2, 0, 0) by decide +kernel) rfl rfl (Nat.le_of_ble_eq_true rfl) rfl rfl rfl (by decide +kernel) kk
theorem b115_20 {d : Nat} {Q : Option sV → sM → sG → Prop} {M : sM} {G : sG} {a0 : Nat} {x1 : Int} {s0 : Int}  (k1 : s0 = 0 → sW (sC d) 115 Q 25 [vO 1 a0, vI x1] [] M G 0 0) (k2 : s0 ≠ 0 → sW (sC d) 115 Q 23 [vN, vI x1] [] M G 0 0) : sW (sC d) 115 Q 20 [vO 1 a0, vI x1] [vI s0] M G 0 0 := by
  refine q_ifeq 25 23 rfl (by decide) (show sCode 115 20 = some (.ifCond .eq 5, 3) by decide +kernel) ?_ ?_
  · intro q; exact k1 q
  · intro q; refine q_forget (L' := [vN, vI x1]) 0 rfl ?_; exact k2 q
theorem b115_23 {d : Nat} {P : Int → sM → sG → Prop} {M : sM} {G : sG} {x1 : Int}  (kk : P x1 M G) : sW (sC d) 115 (QI P) 23 [vN, vI x1] [] M G 0 0 := by
  refine q_iload_n 24 rfl (show sCode 115 23 = some (.iload_n 1, 1) by decide +kernel) rfl ?_
  exact q_iret (show sCode 115 24 = some (.ireturn, 1) by decide +kernel) (by decide +kernel) (by decide +kernel) kk
theorem b115_25 {d : Nat} {Q : Option sV → sM → sG → Prop} {M : sM} {G : sG} {a0 : Nat} {x1 : Int} (h1 : sI (x1 + 1)) (kk : sW (sC d) 115 Q 5 [vO 1 a0, vI (x1 + 1)] [] M G 0 0) : sW (sC d) 115 Q 25 [vO 1 a0, vI x1] [] M G 0 0 := by
  refine q_iinc [vO 1 a0, vI (x1 + 1)] 28 rfl (show sCode 115 25 = some (.iinc 1 1, 3) by decide +kernel) rfl rfl h1 rfl ?_
  refine q_goto 5 (by decide) (show sCode 115 28 = some (.goto (-23), 3) by decide +kernel) ?_
  exact kk
theorem b115_31 {d : Nat} {P : Int → sM → sG → Prop} {M : sM} {G : sG} {a0 : Nat}  (kk : P (M a0 8) M G) : sW (sC d) 115 (QI P) 31 [vO 1 a0, vN] [] M G 0 0 := by
  refine q_aload_n 32 rfl (show sCode 115 31 = some (.aload_n 0, 1) by decide +kernel) rfl (Nat.le_of_ble_eq_true rfl) ?_
  refine q_getI 35 rfl (show sCode 115 32 = some (.getfield 36, 3) by decide +kernel) (show sFR (sKo 115).1 36 = some (1, 8) by decide +kernel) (by decide +kernel) (Or.inl (Or.inl rfl)) ?_
  exact q_iret (show sCode 115 35 = some (.ireturn, 1) by decide +kernel) (by decide +kernel) (by decide +kernel) kk
-- 116 AfterTheLast$Crossings.mostOfWhichAllCross ()I
theorem b116_0 {d : Nat} {Q : Option sV → sM → sG → Prop} {M : sM} {G : sG} {a0 : Nat} (h1 : sI ((iShl 1 (M a0 8)) - 1)) (kk : sC d 117 [vO 1 a0, vI 0, vI ((iShl 1 (M a0 8)) - 1)] M G (QI (fun r M1 G1 => sW (sC d) 116 Q 13 [vN] (vI r :: []) M1 G1 0 0))) : sW (sC d) 116 Q 0 [vO 1 a0] [] M G 0 0 := by
  refine q_aload_n 1 rfl (show sCode 116 0 = some (.aload_n 0, 1) by decide +kernel) rfl (Nat.le_of_ble_eq_true rfl) ?_
  refine q_iconst 2 rfl (show sCode 116 1 = some (.iconst 0, 1) by decide +kernel) ⟨by decide, by decide⟩ ?_
  refine q_iconst 3 rfl (show sCode 116 2 = some (.iconst 1, 1) by decide +kernel) ⟨by decide, by decide⟩ ?_
  refine q_aload_n 4 rfl (show sCode 116 3 = some (.aload_n 0, 1) by decide +kernel) rfl (Nat.le_of_ble_eq_true rfl) ?_
  refine q_getI 7 rfl (show sCode 116 4 = some (.getfield 36, 3) by decide +kernel) (show sFR (sKo 116).1 36 = some (1, 8) by decide +kernel) (by decide +kernel) (Or.inl (Or.inl rfl)) ?_
  refine q_ishl 8 rfl (show sCode 116 7 = some (.ishl, 1) by decide +kernel) ?_
  refine q_iconst 9 rfl (show sCode 116 8 = some (.iconst 1, 1) by decide +kernel) ⟨by decide, by decide⟩ ?_
  refine q_isub 10 rfl (show sCode 116 9 = some (.isub, 1) by decide +kernel) h1 ?_
  refine q_forget (L' := [vN]) 0 rfl ?_
  exact q_statI [vO 1 a0, vI 0, vI ((iShl 1 (M a0 8)) - 1)] 13 rfl (show sCode 116 10 = some (.invokestatic 105, 3) by decide +kernel) (show sMR (sKo 116).1 105 = some 117 by decide +kernel) (show 117 < 1000 ∧ sStat 117 = true ∧ sKo 117 = (1, 3, 1, 0, 0) by decide +kernel) rfl rfl (Nat.le_of_ble_eq_true rfl) rfl rfl rfl (by decide +kernel) kk
theorem b116_13 {d : Nat} {P : Int → sM → sG → Prop} {M : sM} {G : sG} {s0 : Int}  (kk : P s0 M G) : sW (sC d) 116 (QI P) 13 [vN] [vI s0] M G 0 0 := by
  exact q_iret (show sCode 116 13 = some (.ireturn, 1) by decide +kernel) (by decide +kernel) (by decide +kernel) kk
-- 117 AfterTheLast$Crossings.mostFrom (LAfterTheLast$Crossings;II)I
theorem b117_0 {d : Nat} {Q : Option sV → sM → sG → Prop} {M : sM} {G : sG} {a0 : Nat} {x1 : Int} {x2 : Int}  (k1 : M a0 8 ≤ x1 → sW (sC d) 117 Q 12 [vN, vN, vN, vN, vN] [] M G 0 0) (k2 : x1 < M a0 8 → sW (sC d) 117 Q 8 [vO 1 a0, vI x1, vI x2, vN, vN] [] M G 0 0) : sW (sC d) 117 Q 0 [vO 1 a0, vI x1, vI x2, vN, vN] [] M G 0 0 := by
  refine q_iload_n 1 rfl (show sCode 117 0 = some (.iload_n 1, 1) by decide +kernel) rfl ?_
  refine q_aload_n 2 rfl (show sCode 117 1 = some (.aload_n 0, 1) by decide +kernel) rfl (Nat.le_of_ble_eq_true rfl) ?_
  refine q_getI 5 rfl (show sCode 117 2 = some (.getfield 36, 3) by decide +kernel) (show sFR (sKo 117).1 36 = some (1, 8) by decide +kernel) (by decide +kernel) (Or.inl (Or.inl rfl)) ?_
  refine q_icmpge 12 8 rfl (by decide) (show sCode 117 5 = some (.if_icmp .ge 7, 3) by decide +kernel) ?_ ?_
  · intro q; refine q_forget (L' := [vN, vI x1, vI x2, vN, vN]) 0 rfl ?_; refine q_forget (L' := [vN, vN, vI x2, vN, vN]) 1 rfl ?_; refine q_forget (L' := [vN, vN, vN, vN, vN]) 2 rfl ?_; exact k1 q
  · intro q; exact k2 q
theorem b117_8 {d : Nat} {Q : Option sV → sM → sG → Prop} {M : sM} {G : sG} {a0 : Nat} {x1 : Int} {x2 : Int}  (k1 : x2 ≠ 0 → sW (sC d) 117 Q 14 [vO 1 a0, vI x1, vI x2, vN, vN] [] M G 0 0) (k2 : x2 = 0 → sW (sC d) 117 Q 12 [vN, vN, vN, vN, vN] [] M G 0 0) : sW (sC d) 117 Q 8 [vO 1 a0, vI x1, vI x2, vN, vN] [] M G 0 0 := by
  refine q_iload_n 9 rfl (show sCode 117 8 = some (.iload_n 2, 1) by decide +kernel) rfl ?_
  refine q_ifne 14 12 rfl (by decide) (show sCode 117 9 = some (.ifCond .ne 5, 3) by decide +kernel) ?_ ?_
  · intro q; exact k1 q
  · intro q; refine q_forget (L' := [vN, vI x1, vI x2, vN, vN]) 0 rfl ?_; refine q_forget (L' := [vN, vN, vI x2, vN, vN]) 1 rfl ?_; refine q_forget (L' := [vN, vN, vN, vN, vN]) 2 rfl ?_; exact k2 q
theorem b117_12 {d : Nat} {P : Int → sM → sG → Prop} {M : sM} {G : sG}   (kk : P 0 M G) : sW (sC d) 117 (QI P) 12 [vN, vN, vN, vN, vN] [] M G 0 0 := by
  refine q_iconst 13 rfl (show sCode 117 12 = some (.iconst 0, 1) by decide +kernel) ⟨by decide, by decide⟩ ?_
  exact q_iret (show sCode 117 13 = some (.ireturn, 1) by decide +kernel) (by decide +kernel) (by decide +kernel) kk
theorem b117_14 {d : Nat} {Q : Option sV → sM → sG → Prop} {M : sM} {G : sG} {a0 : Nat} {x1 : Int} {x2 : Int}  (k1 : iAnd x2 (iXor (iShl 1 x1) (-1)) ≠ x2 → sW (sC d) 117 Q 36 [vO 1 a0, vI x1, vN, vI (iAnd x2 (iXor (iShl 1 x1) (-1))), vN] [] M G 0 0) (k2 : iAnd x2 (iXor (iShl 1 x1) (-1)) = x2 → sW (sC d) 117 Q 27 [vO 1 a0, vI x1, vI x2, vN, vN] [] M G 0 0) : sW (sC d) 117 Q 14 [vO 1 a0, vI x1, vI x2, vN, vN] [] M G 0 0 := by
  refine q_iload_n 15 rfl (show sCode 117 14 = some (.iload_n 2, 1) by decide +kernel) rfl ?_
  refine q_iconst 16 rfl (show sCode 117 15 = some (.iconst 1, 1) by decide +kernel) ⟨by decide, by decide⟩ ?_
  refine q_iload_n 17 rfl (show sCode 117 16 = some (.iload_n 1, 1) by decide +kernel) rfl ?_
  refine q_ishl 18 rfl (show sCode 117 17 = some (.ishl, 1) by decide +kernel) ?_
  refine q_iconst 19 rfl (show sCode 117 18 = some (.iconst (-1), 1) by decide +kernel) ⟨by decide, by decide⟩ ?_
  refine q_ixor 20 rfl (show sCode 117 19 = some (.ixor, 1) by decide +kernel) ?_
  refine q_iand 21 rfl (show sCode 117 20 = some (.iand, 1) by decide +kernel) ?_
  refine q_istore_n [vO 1 a0, vI x1, vI x2, vI (iAnd x2 (iXor (iShl 1 x1) (-1))), vN] 22 rfl (show sCode 117 21 = some (.istore_n 3, 1) by decide +kernel) (Nat.lt_of_lt_of_le (Nat.lt_succ_self _) (Nat.le_of_ble_eq_true rfl)) rfl rfl ?_
  refine q_iload_n 23 rfl (show sCode 117 22 = some (.iload_n 3, 1) by decide +kernel) rfl ?_
  refine q_iload_n 24 rfl (show sCode 117 23 = some (.iload_n 2, 1) by decide +kernel) rfl ?_
  refine q_icmpne 36 27 rfl (by decide) (show sCode 117 24 = some (.if_icmp .ne 12, 3) by decide +kernel) ?_ ?_
  · intro q; refine q_forget (L' := [vO 1 a0, vI x1, vN, vI (iAnd x2 (iXor (iShl 1 x1) (-1))), vN]) 2 rfl ?_; exact k1 q
  · intro q; refine q_forget (L' := [vO 1 a0, vI x1, vI x2, vN, vN]) 3 rfl ?_; exact k2 q
theorem b117_27 {d : Nat} {Q : Option sV → sM → sG → Prop} {M : sM} {G : sG} {a0 : Nat} {x1 : Int} {x2 : Int} (h1 : sI (x1 + 1)) (kk : sC d 117 [vO 1 a0, vI (x1 + 1), vI x2] M G (QI (fun r M1 G1 => sW (sC d) 117 Q 35 [vN, vN, vN, vN, vN] (vI r :: []) M1 G1 0 0))) : sW (sC d) 117 Q 27 [vO 1 a0, vI x1, vI x2, vN, vN] [] M G 0 0 := by
  refine q_aload_n 28 rfl (show sCode 117 27 = some (.aload_n 0, 1) by decide +kernel) rfl (Nat.le_of_ble_eq_true rfl) ?_
  refine q_iload_n 29 rfl (show sCode 117 28 = some (.iload_n 1, 1) by decide +kernel) rfl ?_
  refine q_iconst 30 rfl (show sCode 117 29 = some (.iconst 1, 1) by decide +kernel) ⟨by decide, by decide⟩ ?_
  refine q_iadd 31 rfl (show sCode 117 30 = some (.iadd, 1) by decide +kernel) h1 ?_
  refine q_iload_n 32 rfl (show sCode 117 31 = some (.iload_n 2, 1) by decide +kernel) rfl ?_
  refine q_forget (L' := [vN, vI x1, vI x2, vN, vN]) 0 rfl ?_
  refine q_forget (L' := [vN, vN, vI x2, vN, vN]) 1 rfl ?_
  refine q_forget (L' := [vN, vN, vN, vN, vN]) 2 rfl ?_
  exact q_statI [vO 1 a0, vI (x1 + 1), vI x2] 35 rfl (show sCode 117 32 = some (.invokestatic 105, 3) by decide +kernel) (show sMR (sKo 117).1 105 = some 117 by decide +kernel) (show 117 < 1000 ∧ sStat 117 = true ∧ sKo 117 = (1, 3, 1, 0, 0) by decide +kernel) rfl rfl (Nat.le_of_ble_eq_true rfl) rfl rfl rfl (by decide +kernel) kk
theorem b117_35 {d : Nat} {P : Int → sM → sG → Prop} {M : sM} {G : sG} {s0 : Int}  (kk : P s0 M G) : sW (sC d) 117 (QI P) 35 [vN, vN, vN, vN, vN] [vI s0] M G 0 0 := by
  exact q_iret (show sCode 117 35 = some (.ireturn, 1) by decide +kernel) (by decide +kernel) (by decide +kernel) kk
theorem b117_36 {d : Nat} {Q : Option sV → sM → sG → Prop} {M : sM} {G : sG} {a0 : Nat} {x1 : Int} {x3 : Int} (h1 : sI (x1 + 1)) (h2 : 0 ≤ x1 ∧ x1 < 12) (kk : sC d 117 [vO 1 a0, vI (x1 + 1), vI (iAnd x3 (M (a0 + 6) x1.toNat))] M G (QI (fun r M1 G1 => sW (sC d) 117 Q 52 [vO 1 a0, vI x1, vN, vI x3, vN] (vI r :: [vI 1]) M1 G1 0 0))) : sW (sC d) 117 Q 36 [vO 1 a0, vI x1, vN, vI x3, vN] [] M G 0 0 := by
  refine q_iconst 37 rfl (show sCode 117 36 = some (.iconst 1, 1) by decide +kernel) ⟨by decide, by decide⟩ ?_
  refine q_aload_n 38 rfl (show sCode 117 37 = some (.aload_n 0, 1) by decide +kernel) rfl (Nat.le_of_ble_eq_true rfl) ?_
  refine q_iload_n 39 rfl (show sCode 117 38 = some (.iload_n 1, 1) by decide +kernel) rfl ?_
  refine q_iconst 40 rfl (show sCode 117 39 = some (.iconst 1, 1) by decide +kernel) ⟨by decide, by decide⟩ ?_
  refine q_iadd 41 rfl (show sCode 117 40 = some (.iadd, 1) by decide +kernel) h1 ?_
  refine q_iload_n 42 rfl (show sCode 117 41 = some (.iload_n 3, 1) by decide +kernel) rfl ?_
  refine q_aload_n 43 rfl (show sCode 117 42 = some (.aload_n 0, 1) by decide +kernel) rfl (Nat.le_of_ble_eq_true rfl) ?_
  refine q_getR (vA 0 (a0 + 6) 12) 46 rfl (show sCode 117 43 = some (.getfield 27, 3) by decide +kernel) (show sFR (sKo 117).1 27 = some (1, 5) by decide +kernel) (by decide +kernel) (Or.inl (Or.inl rfl)) rfl ?_
  refine q_iload_n 47 rfl (show sCode 117 46 = some (.iload_n 1, 1) by decide +kernel) rfl ?_
  refine q_iald 48 rfl (show sCode 117 47 = some (.iaload, 1) by decide +kernel) h2 ?_
  refine q_iand 49 rfl (show sCode 117 48 = some (.iand, 1) by decide +kernel) ?_
  exact q_statI [vO 1 a0, vI (x1 + 1), vI (iAnd x3 (M (a0 + 6) x1.toNat))] 52 rfl (show sCode 117 49 = some (.invokestatic 105, 3) by decide +kernel) (show sMR (sKo 117).1 105 = some 117 by decide +kernel) (show 117 < 1000 ∧ sStat 117 = true ∧ sKo 117 = (1, 3, 1, 0, 0) by decide +kernel) rfl rfl (Nat.le_of_ble_eq_true rfl) rfl rfl rfl (by decide +kernel) kk
theorem b117_52 {d : Nat} {Q : Option sV → sM → sG → Prop} {M : sM} {G : sG} {a0 : Nat} {x1 : Int} {x3 : Int} {s0 : Int} {s1 : Int} (h1 : sI (s1 + s0)) (h2 : 0 ≤ x1 ∧ x1 < 12) (k1 : iAnd x3 (iXor (M (a0 + 6) x1.toNat) (-1)) ≠ 0 → sW (sC d) 117 Q 71 [vO 1 a0, vI x1, vN, vI x3, vI (s1 + s0)] [] M G 0 0) (k2 : iAnd x3 (iXor (M (a0 + 6) x1.toNat) (-1)) = 0 → sW (sC d) 117 Q 68 [vN, vN, vN, vN, vI (s1 + s0)] [] M G 0 0) : sW (sC d) 117 Q 52 [vO 1 a0, vI x1, vN, vI x3, vN] [vI s0, vI s1] M G 0 0 := by
  refine q_iadd 53 rfl (show sCode 117 52 = some (.iadd, 1) by decide +kernel) h1 ?_
  refine q_istore [vO 1 a0, vI x1, vN, vI x3, vI (s1 + s0)] 55 rfl (show sCode 117 53 = some (.istore 4, 2) by decide +kernel) (Nat.lt_of_lt_of_le (Nat.lt_succ_self _) (Nat.le_of_ble_eq_true rfl)) rfl rfl ?_
  refine q_iload_n 56 rfl (show sCode 117 55 = some (.iload_n 3, 1) by decide +kernel) rfl ?_
  refine q_aload_n 57 rfl (show sCode 117 56 = some (.aload_n 0, 1) by decide +kernel) rfl (Nat.le_of_ble_eq_true rfl) ?_
  refine q_getR (vA 0 (a0 + 6) 12) 60 rfl (show sCode 117 57 = some (.getfield 27, 3) by decide +kernel) (show sFR (sKo 117).1 27 = some (1, 5) by decide +kernel) (by decide +kernel) (Or.inl (Or.inl rfl)) rfl ?_
  refine q_iload_n 61 rfl (show sCode 117 60 = some (.iload_n 1, 1) by decide +kernel) rfl ?_
  refine q_iald 62 rfl (show sCode 117 61 = some (.iaload, 1) by decide +kernel) h2 ?_
  refine q_iconst 63 rfl (show sCode 117 62 = some (.iconst (-1), 1) by decide +kernel) ⟨by decide, by decide⟩ ?_
  refine q_ixor 64 rfl (show sCode 117 63 = some (.ixor, 1) by decide +kernel) ?_
  refine q_iand 65 rfl (show sCode 117 64 = some (.iand, 1) by decide +kernel) ?_
  refine q_ifne 71 68 rfl (by decide) (show sCode 117 65 = some (.ifCond .ne 6, 3) by decide +kernel) ?_ ?_
  · intro q; exact k1 q
  · intro q; refine q_forget (L' := [vN, vI x1, vN, vI x3, vI (s1 + s0)]) 0 rfl ?_; refine q_forget (L' := [vN, vN, vN, vI x3, vI (s1 + s0)]) 1 rfl ?_; refine q_forget (L' := [vN, vN, vN, vN, vI (s1 + s0)]) 3 rfl ?_; exact k2 q
theorem b117_68 {d : Nat} {P : Int → sM → sG → Prop} {M : sM} {G : sG} {x4 : Int}  (kk : P x4 M G) : sW (sC d) 117 (QI P) 68 [vN, vN, vN, vN, vI x4] [] M G 0 0 := by
  refine q_iload 70 rfl (show sCode 117 68 = some (.iload 4, 2) by decide +kernel) rfl ?_
  exact q_iret (show sCode 117 70 = some (.ireturn, 1) by decide +kernel) (by decide +kernel) (by decide +kernel) kk
theorem b117_71 {d : Nat} {Q : Option sV → sM → sG → Prop} {M : sM} {G : sG} {a0 : Nat} {x1 : Int} {x3 : Int} {x4 : Int} (h1 : sI (x1 + 1)) (kk : sC d 117 [vO 1 a0, vI (x1 + 1), vI x3] M G (QI (fun r M1 G1 => sW (sC d) 117 Q 81 [vN, vN, vN, vN, vN] (vI r :: [vI x4]) M1 G1 0 0))) : sW (sC d) 117 Q 71 [vO 1 a0, vI x1, vN, vI x3, vI x4] [] M G 0 0 := by
  refine q_iload 73 rfl (show sCode 117 71 = some (.iload 4, 2) by decide +kernel) rfl ?_
  refine q_aload_n 74 rfl (show sCode 117 73 = some (.aload_n 0, 1) by decide +kernel) rfl (Nat.le_of_ble_eq_true rfl) ?_
  refine q_iload_n 75 rfl (show sCode 117 74 = some (.iload_n 1, 1) by decide +kernel) rfl ?_
  refine q_iconst 76 rfl (show sCode 117 75 = some (.iconst 1, 1) by decide +kernel) ⟨by decide, by decide⟩ ?_
  refine q_iadd 77 rfl (show sCode 117 76 = some (.iadd, 1) by decide +kernel) h1 ?_
  refine q_iload_n 78 rfl (show sCode 117 77 = some (.iload_n 3, 1) by decide +kernel) rfl ?_
  refine q_forget (L' := [vN, vI x1, vN, vI x3, vI x4]) 0 rfl ?_
  refine q_forget (L' := [vN, vN, vN, vI x3, vI x4]) 1 rfl ?_
  refine q_forget (L' := [vN, vN, vN, vN, vI x4]) 3 rfl ?_
  refine q_forget (L' := [vN, vN, vN, vN, vN]) 4 rfl ?_
  exact q_statI [vO 1 a0, vI (x1 + 1), vI x3] 81 rfl (show sCode 117 78 = some (.invokestatic 105, 3) by decide +kernel) (show sMR (sKo 117).1 105 = some 117 by decide +kernel) (show 117 < 1000 ∧ sStat 117 = true ∧ sKo 117 = (1, 3, 1, 0, 0) by decide +kernel) rfl rfl (Nat.le_of_ble_eq_true rfl) rfl rfl rfl (by decide +kernel) kk
theorem b117_81 {d : Nat} {P : Int → sM → sG → Prop} {M : sM} {G : sG} {s0 : Int} {s1 : Int}  (kk : P (if s1 < s0 then s0 else s1) M G) : sW (sC d) 117 (QI P) 81 [vN, vN, vN, vN, vN] [vI s0, vI s1] M G 0 0 := by
  refine q_max 84 rfl (show sCode 117 81 = some (.invokestatic 92, 3) by decide +kernel) (by decide +kernel) (Nat.le_of_ble_eq_true rfl) ?_
  exact q_iret (show sCode 117 84 = some (.ireturn, 1) by decide +kernel) (by decide +kernel) (by decide +kernel) kk
-- 118 AfterTheLast$Crossings.canBePutInto (LAfterTheLast$Crossings;III)Z
theorem b118_0 {d : Nat} {Q : Option sV → sM → sG → Prop} {M : sM} {G : sG} {a0 : Nat} {x1 : Int} {x2 : Int} {x3 : Int}  (k1 : x2 < M a0 8 → sW (sC d) 118 Q 10 [vO 1 a0, vI x1, vI x2, vI x3, vN, vN] [] M G 0 0) (k2 : M a0 8 ≤ x2 → sW (sC d) 118 Q 8 [vN, vN, vN, vN, vN, vN] [] M G 0 0) : sW (sC d) 118 Q 0 [vO 1 a0, vI x1, vI x2, vI x3, vN, vN] [] M G 0 0 := by
  refine q_iload_n 1 rfl (show sCode 118 0 = some (.iload_n 2, 1) by decide +kernel) rfl ?_
  refine q_aload_n 2 rfl (show sCode 118 1 = some (.aload_n 0, 1) by decide +kernel) rfl (Nat.le_of_ble_eq_true rfl) ?_
  refine q_getI 5 rfl (show sCode 118 2 = some (.getfield 36, 3) by decide +kernel) (show sFR (sKo 118).1 36 = some (1, 8) by decide +kernel) (by decide +kernel) (Or.inl (Or.inl rfl)) ?_
  refine q_icmplt 10 8 rfl (by decide) (show sCode 118 5 = some (.if_icmp .lt 5, 3) by decide +kernel) ?_ ?_
  · intro q; exact k1 q
  · intro q; refine q_forget (L' := [vN, vI x1, vI x2, vI x3, vN, vN]) 0 rfl ?_; refine q_forget (L' := [vN, vN, vI x2, vI x3, vN, vN]) 1 rfl ?_; refine q_forget (L' := [vN, vN, vN, vI x3, vN, vN]) 2 rfl ?_; refine q_forget (L' := [vN, vN, vN, vN, vN, vN]) 3 rfl ?_; exact k2 q
theorem b118_8 {d : Nat} {P : Int → sM → sG → Prop} {M : sM} {G : sG}   (kk : P 1 M G) : sW (sC d) 118 (QI P) 8 [vN, vN, vN, vN, vN, vN] [] M G 0 0 := by
  refine q_iconst 9 rfl (show sCode 118 8 = some (.iconst 1, 1) by decide +kernel) ⟨by decide, by decide⟩ ?_
  exact q_zret (show sCode 118 9 = some (.ireturn, 1) by decide +kernel) (by decide +kernel) (by decide) (by decide +kernel) kk
theorem b118_10 {d : Nat} {Q : Option sV → sM → sG → Prop} {M : sM} {G : sG} {a0 : Nat} {x1 : Int} {x2 : Int} {x3 : Int}  (kk : sW (sC d) 118 Q 13 [vO 1 a0, vI x1, vI x2, vI x3, vI 0, vN] [] M G 0 0) : sW (sC d) 118 Q 10 [vO 1 a0, vI x1, vI x2, vI x3, vN, vN] [] M G 0 0 := by
  refine q_iconst 11 rfl (show sCode 118 10 = some (.iconst 0, 1) by decide +kernel) ⟨by decide, by decide⟩ ?_
  refine q_istore [vO 1 a0, vI x1, vI x2, vI x3, vI 0, vN] 13 rfl (show sCode 118 11 = some (.istore 4, 2) by decide +kernel) (Nat.lt_of_lt_of_le (Nat.lt_succ_self _) (Nat.le_of_ble_eq_true rfl)) rfl rfl ?_
  exact kk
theorem b118_13 {d : Nat} {Q : Option sV → sM → sG → Prop} {M : sM} {G : sG} {a0 : Nat} {x1 : Int} {x2 : Int} {x3 : Int} {x4 : Int}  (k1 : x1 ≤ x4 → sW (sC d) 118 Q 112 [vN, vN, vN, vN, vN, vN] [] M G 0 0) (k2 : x4 < x1 → sW (sC d) 118 Q 19 [vO 1 a0, vI x1, vI x2, vI x3, vI x4, vN] [] M G 0 0) : sW (sC d) 118 Q 13 [vO 1 a0, vI x1, vI x2, vI x3, vI x4, vN] [] M G 0 0 := by
  refine q_iload 15 rfl (show sCode 118 13 = some (.iload 4, 2) by decide +kernel) rfl ?_
  refine q_iload_n 16 rfl (show sCode 118 15 = some (.iload_n 1, 1) by decide +kernel) rfl ?_
  refine q_icmpge 112 19 rfl (by decide) (show sCode 118 16 = some (.if_icmp .ge 96, 3) by decide +kernel) ?_ ?_
  · intro q; refine q_forget (L' := [vN, vI x1, vI x2, vI x3, vI x4, vN]) 0 rfl ?_; refine q_forget (L' := [vN, vN, vI x2, vI x3, vI x4, vN]) 1 rfl ?_; refine q_forget (L' := [vN, vN, vN, vI x3, vI x4, vN]) 2 rfl ?_; refine q_forget (L' := [vN, vN, vN, vN, vI x4, vN]) 3 rfl ?_; refine q_forget (L' := [vN, vN, vN, vN, vN, vN]) 4 rfl ?_; exact k1 q
  · intro q; exact k2 q
theorem b118_19 {d : Nat} {Q : Option sV → sM → sG → Prop} {M : sM} {G : sG} {a0 : Nat} {x1 : Int} {x2 : Int} {x3 : Int} {x4 : Int}  (k1 : x3 < x4 → sW (sC d) 118 Q 112 [vN, vN, vN, vN, vN, vN] [] M G 0 0) (k2 : x4 ≤ x3 → sW (sC d) 118 Q 25 [vO 1 a0, vI x1, vI x2, vI x3, vI x4, vN] [] M G 0 0) : sW (sC d) 118 Q 19 [vO 1 a0, vI x1, vI x2, vI x3, vI x4, vN] [] M G 0 0 := by
  refine q_iload 21 rfl (show sCode 118 19 = some (.iload 4, 2) by decide +kernel) rfl ?_
  refine q_iload_n 22 rfl (show sCode 118 21 = some (.iload_n 3, 1) by decide +kernel) rfl ?_
  refine q_icmpgt 112 25 rfl (by decide) (show sCode 118 22 = some (.if_icmp .gt 90, 3) by decide +kernel) ?_ ?_
  · intro q; refine q_forget (L' := [vN, vI x1, vI x2, vI x3, vI x4, vN]) 0 rfl ?_; refine q_forget (L' := [vN, vN, vI x2, vI x3, vI x4, vN]) 1 rfl ?_; refine q_forget (L' := [vN, vN, vN, vI x3, vI x4, vN]) 2 rfl ?_; refine q_forget (L' := [vN, vN, vN, vN, vI x4, vN]) 3 rfl ?_; refine q_forget (L' := [vN, vN, vN, vN, vN, vN]) 4 rfl ?_; exact k1 q
  · intro q; exact k2 q
theorem b118_25 {d : Nat} {Q : Option sV → sM → sG → Prop} {M : sM} {G : sG} {a0 : Nat} {x1 : Int} {x2 : Int} {x3 : Int} {x4 : Int}  (k1 : 12 ≤ x4 → sW (sC d) 118 Q 112 [vN, vN, vN, vN, vN, vN] [] M G 0 0) (k2 : x4 < 12 → sW (sC d) 118 Q 32 [vO 1 a0, vI x1, vI x2, vI x3, vI x4, vN] [] M G 0 0) : sW (sC d) 118 Q 25 [vO 1 a0, vI x1, vI x2, vI x3, vI x4, vN] [] M G 0 0 := by
  refine q_iload 27 rfl (show sCode 118 25 = some (.iload 4, 2) by decide +kernel) rfl ?_
  refine q_bipush 29 rfl (show sCode 118 27 = some (.bipush 12, 2) by decide +kernel) ⟨by decide, by decide⟩ (by decide +kernel) ?_
  refine q_icmpge 112 32 rfl (by decide) (show sCode 118 29 = some (.if_icmp .ge 83, 3) by decide +kernel) ?_ ?_
  · intro q; refine q_forget (L' := [vN, vI x1, vI x2, vI x3, vI x4, vN]) 0 rfl ?_; refine q_forget (L' := [vN, vN, vI x2, vI x3, vI x4, vN]) 1 rfl ?_; refine q_forget (L' := [vN, vN, vN, vI x3, vI x4, vN]) 2 rfl ?_; refine q_forget (L' := [vN, vN, vN, vN, vI x4, vN]) 3 rfl ?_; refine q_forget (L' := [vN, vN, vN, vN, vN, vN]) 4 rfl ?_; exact k1 q
  · intro q; exact k2 q
theorem b118_32 {d : Nat} {Q : Option sV → sM → sG → Prop} {M : sM} {G : sG} {a0 : Nat} {x1 : Int} {x2 : Int} {x3 : Int} {x4 : Int}  (k1 : x3 ≤ x4 → sW (sC d) 118 Q 48 [vO 1 a0, vI x1, vI x2, vI x3, vI x4, vN] [] M G 0 0) (k2 : x4 < x3 → sW (sC d) 118 Q 38 [vO 1 a0, vI x1, vI x2, vI x3, vI x4, vN] [] M G 0 0) : sW (sC d) 118 Q 32 [vO 1 a0, vI x1, vI x2, vI x3, vI x4, vN] [] M G 0 0 := by
  refine q_iload 34 rfl (show sCode 118 32 = some (.iload 4, 2) by decide +kernel) rfl ?_
  refine q_iload_n 35 rfl (show sCode 118 34 = some (.iload_n 3, 1) by decide +kernel) rfl ?_
  refine q_icmpge 48 38 rfl (by decide) (show sCode 118 35 = some (.if_icmp .ge 13, 3) by decide +kernel) ?_ ?_
  · intro q; exact k1 q
  · intro q; exact k2 q
theorem b118_38 {d : Nat} {Q : Option sV → sM → sG → Prop} {M : sM} {G : sG} {a0 : Nat} {x1 : Int} {x2 : Int} {x3 : Int} {x4 : Int} (h1 : 0 ≤ x4 ∧ x4 < 12) (kk : sW (sC d) 118 Q 49 [vO 1 a0, vI x1, vI x2, vI x3, vI x4, vN] [vI (M (a0 + 7) x4.toNat)] M G 0 0) : sW (sC d) 118 Q 38 [vO 1 a0, vI x1, vI x2, vI x3, vI x4, vN] [] M G 0 0 := by
  refine q_aload_n 39 rfl (show sCode 118 38 = some (.aload_n 0, 1) by decide +kernel) rfl (Nat.le_of_ble_eq_true rfl) ?_
  refine q_getR (vA 0 (a0 + 7) 12) 42 rfl (show sCode 118 39 = some (.getfield 30, 3) by decide +kernel) (show sFR (sKo 118).1 30 = some (1, 6) by decide +kernel) (by decide +kernel) (Or.inl (Or.inl rfl)) rfl ?_
  refine q_iload 44 rfl (show sCode 118 42 = some (.iload 4, 2) by decide +kernel) rfl ?_
  refine q_iald 45 rfl (show sCode 118 44 = some (.iaload, 1) by decide +kernel) h1 ?_
  refine q_goto 49 (by decide) (show sCode 118 45 = some (.goto 4, 3) by decide +kernel) ?_
  exact kk
theorem b118_48 {d : Nat} {Q : Option sV → sM → sG → Prop} {M : sM} {G : sG} {a0 : Nat} {x1 : Int} {x2 : Int} {x3 : Int} {x4 : Int}  (kk : sW (sC d) 118 Q 49 [vO 1 a0, vI x1, vI x2, vI x3, vI x4, vN] [vI 0] M G 0 0) : sW (sC d) 118 Q 48 [vO 1 a0, vI x1, vI x2, vI x3, vI x4, vN] [] M G 0 0 := by
  refine q_iconst 49 rfl (show sCode 118 48 = some (.iconst 0, 1) by decide +kernel) ⟨by decide, by decide⟩ ?_
  exact kk
theorem b118_49 {d : Nat} {Q : Option sV → sM → sG → Prop} {M : sM} {G : sG} {a0 : Nat} {x1 : Int} {x2 : Int} {x3 : Int} {x4 : Int} {s0 : Int} (h1 : 0 ≤ x2 ∧ x2 < 12) (k1 : iAnd s0 (M (a0 + 6) x2.toNat) ≠ 0 → sW (sC d) 118 Q 106 [vO 1 a0, vI x1, vI x2, vI x3, vI x4, vN] [] M G 0 0) (k2 : iAnd s0 (M (a0 + 6) x2.toNat) = 0 → sW (sC d) 118 Q 63 [vO 1 a0, vI x1, vI x2, vI x3, vI x4, vI s0] [] M G 0 0) : sW (sC d) 118 Q 49 [vO 1 a0, vI x1, vI x2, vI x3, vI x4, vN] [vI s0] M G 0 0 := by
  refine q_istore [vO 1 a0, vI x1, vI x2, vI x3, vI x4, vI s0] 51 rfl (show sCode 118 49 = some (.istore 5, 2) by decide +kernel) (Nat.lt_of_lt_of_le (Nat.lt_succ_self _) (Nat.le_of_ble_eq_true rfl)) rfl rfl ?_
  refine q_iload 53 rfl (show sCode 118 51 = some (.iload 5, 2) by decide +kernel) rfl ?_
  refine q_aload_n 54 rfl (show sCode 118 53 = some (.aload_n 0, 1) by decide +kernel) rfl (Nat.le_of_ble_eq_true rfl) ?_
  refine q_getR (vA 0 (a0 + 6) 12) 57 rfl (show sCode 118 54 = some (.getfield 27, 3) by decide +kernel) (show sFR (sKo 118).1 27 = some (1, 5) by decide +kernel) (by decide +kernel) (Or.inl (Or.inl rfl)) rfl ?_
  refine q_iload_n 58 rfl (show sCode 118 57 = some (.iload_n 2, 1) by decide +kernel) rfl ?_
  refine q_iald 59 rfl (show sCode 118 58 = some (.iaload, 1) by decide +kernel) h1 ?_
  refine q_iand 60 rfl (show sCode 118 59 = some (.iand, 1) by decide +kernel) ?_
  refine q_ifne 106 63 rfl (by decide) (show sCode 118 60 = some (.ifCond .ne 46, 3) by decide +kernel) ?_ ?_
  · intro q; refine q_forget (L' := [vO 1 a0, vI x1, vI x2, vI x3, vI x4, vN]) 5 rfl ?_; exact k1 q
  · intro q; exact k2 q
theorem b118_63 {d : Nat} {Q : Option sV → sM → sG → Prop} {M : sM} {G : sG} {a0 : Nat} {x1 : Int} {x2 : Int} {x3 : Int} {x4 : Int} {x5 : Int} (h1 : 0 ≤ x4 ∧ x4 < 12) (h2 : sI (x2 + 1)) (h3 : sI (x4 + 1)) (kk : sC d 118 [vO 1 a0, vI x1, vI (x2 + 1), vI (if x3 < x4 + 1 then x4 + 1 else x3)] (sUpd M (a0 + 7) x4.toNat (iOr x5 (iShl 1 x2))) G (QI (fun r M1 G1 => sW (sC d) 118 Q 92 [vO 1 a0, vI x1, vI x2, vI x3, vI x4, vI x5] (vI r :: []) M1 G1 0 0))) : sW (sC d) 118 Q 63 [vO 1 a0, vI x1, vI x2, vI x3, vI x4, vI x5] [] M G 0 0 := by
  refine q_aload_n 64 rfl (show sCode 118 63 = some (.aload_n 0, 1) by decide +kernel) rfl (Nat.le_of_ble_eq_true rfl) ?_
  refine q_getR (vA 0 (a0 + 7) 12) 67 rfl (show sCode 118 64 = some (.getfield 30, 3) by decide +kernel) (show sFR (sKo 118).1 30 = some (1, 6) by decide +kernel) (by decide +kernel) (Or.inl (Or.inl rfl)) rfl ?_
  refine q_iload 69 rfl (show sCode 118 67 = some (.iload 4, 2) by decide +kernel) rfl ?_
  refine q_iload 71 rfl (show sCode 118 69 = some (.iload 5, 2) by decide +kernel) rfl ?_
  refine q_iconst 72 rfl (show sCode 118 71 = some (.iconst 1, 1) by decide +kernel) ⟨by decide, by decide⟩ ?_
  refine q_iload_n 73 rfl (show sCode 118 72 = some (.iload_n 2, 1) by decide +kernel) rfl ?_
  refine q_ishl 74 rfl (show sCode 118 73 = some (.ishl, 1) by decide +kernel) ?_
  refine q_ior 75 rfl (show sCode 118 74 = some (.ior, 1) by decide +kernel) ?_
  refine q_iast 76 rfl (show sCode 118 75 = some (.iastore, 1) by decide +kernel) h1 ?_
  refine q_aload_n 77 rfl (show sCode 118 76 = some (.aload_n 0, 1) by decide +kernel) rfl (Nat.le_of_ble_eq_true rfl) ?_
  refine q_iload_n 78 rfl (show sCode 118 77 = some (.iload_n 1, 1) by decide +kernel) rfl ?_
  refine q_iload_n 79 rfl (show sCode 118 78 = some (.iload_n 2, 1) by decide +kernel) rfl ?_
  refine q_iconst 80 rfl (show sCode 118 79 = some (.iconst 1, 1) by decide +kernel) ⟨by decide, by decide⟩ ?_
  refine q_iadd 81 rfl (show sCode 118 80 = some (.iadd, 1) by decide +kernel) h2 ?_
  refine q_iload_n 82 rfl (show sCode 118 81 = some (.iload_n 3, 1) by decide +kernel) rfl ?_
  refine q_iload 84 rfl (show sCode 118 82 = some (.iload 4, 2) by decide +kernel) rfl ?_
  refine q_iconst 85 rfl (show sCode 118 84 = some (.iconst 1, 1) by decide +kernel) ⟨by decide, by decide⟩ ?_
  refine q_iadd 86 rfl (show sCode 118 85 = some (.iadd, 1) by decide +kernel) h3 ?_
  refine q_max 89 rfl (show sCode 118 86 = some (.invokestatic 92, 3) by decide +kernel) (by decide +kernel) (Nat.le_of_ble_eq_true rfl) ?_
  exact q_statI [vO 1 a0, vI x1, vI (x2 + 1), vI (if x3 < x4 + 1 then x4 + 1 else x3)] 92 rfl (show sCode 118 89 = some (.invokestatic 113, 3) by decide +kernel) (show sMR (sKo 118).1 113 = some 118 by decide +kernel) (show 118 < 1000 ∧ sStat 118 = true ∧ sKo 118 = (1, 4, 2, 0, 0) by decide +kernel) rfl rfl (Nat.le_of_ble_eq_true rfl) rfl rfl rfl (by decide +kernel) kk
theorem b118_92 {d : Nat} {Q : Option sV → sM → sG → Prop} {M : sM} {G : sG} {a0 : Nat} {x1 : Int} {x2 : Int} {x3 : Int} {x4 : Int} {x5 : Int} {s0 : Int}  (k1 : s0 = 0 → sW (sC d) 118 Q 97 [vO 1 a0, vI x1, vI x2, vI x3, vI x4, vI x5] [] M G 0 0) (k2 : s0 ≠ 0 → sW (sC d) 118 Q 95 [vN, vN, vN, vN, vN, vN] [] M G 0 0) : sW (sC d) 118 Q 92 [vO 1 a0, vI x1, vI x2, vI x3, vI x4, vI x5] [vI s0] M G 0 0 := by
  refine q_ifeq 97 95 rfl (by decide) (show sCode 118 92 = some (.ifCond .eq 5, 3) by decide +kernel) ?_ ?_
  · intro q; exact k1 q
  · intro q; refine q_forget (L' := [vN, vI x1, vI x2, vI x3, vI x4, vI x5]) 0 rfl ?_; refine q_forget (L' := [vN, vN, vI x2, vI x3, vI x4, vI x5]) 1 rfl ?_; refine q_forget (L' := [vN, vN, vN, vI x3, vI x4, vI x5]) 2 rfl ?_; refine q_forget (L' := [vN, vN, vN, vN, vI x4, vI x5]) 3 rfl ?_; refine q_forget (L' := [vN, vN, vN, vN, vN, vI x5]) 4 rfl ?_; refine q_forget (L' := [vN, vN, vN, vN, vN, vN]) 5 rfl ?_; exact k2 q
theorem b118_95 {d : Nat} {P : Int → sM → sG → Prop} {M : sM} {G : sG}   (kk : P 1 M G) : sW (sC d) 118 (QI P) 95 [vN, vN, vN, vN, vN, vN] [] M G 0 0 := by
  refine q_iconst 96 rfl (show sCode 118 95 = some (.iconst 1, 1) by decide +kernel) ⟨by decide, by decide⟩ ?_
  exact q_zret (show sCode 118 96 = some (.ireturn, 1) by decide +kernel) (by decide +kernel) (by decide) (by decide +kernel) kk
theorem b118_97 {d : Nat} {Q : Option sV → sM → sG → Prop} {M : sM} {G : sG} {a0 : Nat} {x1 : Int} {x2 : Int} {x3 : Int} {x4 : Int} {x5 : Int} (h1 : 0 ≤ x4 ∧ x4 < 12) (kk : sW (sC d) 118 Q 106 [vO 1 a0, vI x1, vI x2, vI x3, vI x4, vN] [] (sUpd M (a0 + 7) x4.toNat x5) G 0 0) : sW (sC d) 118 Q 97 [vO 1 a0, vI x1, vI x2, vI x3, vI x4, vI x5] [] M G 0 0 := by
  refine q_aload_n 98 rfl (show sCode 118 97 = some (.aload_n 0, 1) by decide +kernel) rfl (Nat.le_of_ble_eq_true rfl) ?_
  refine q_getR (vA 0 (a0 + 7) 12) 101 rfl (show sCode 118 98 = some (.getfield 30, 3) by decide +kernel) (show sFR (sKo 118).1 30 = some (1, 6) by decide +kernel) (by decide +kernel) (Or.inl (Or.inl rfl)) rfl ?_
  refine q_iload 103 rfl (show sCode 118 101 = some (.iload 4, 2) by decide +kernel) rfl ?_
  refine q_iload 105 rfl (show sCode 118 103 = some (.iload 5, 2) by decide +kernel) rfl ?_
  refine q_iast 106 rfl (show sCode 118 105 = some (.iastore, 1) by decide +kernel) h1 ?_
  refine q_forget (L' := [vO 1 a0, vI x1, vI x2, vI x3, vI x4, vN]) 5 rfl ?_
  exact kk
theorem b118_106 {d : Nat} {Q : Option sV → sM → sG → Prop} {M : sM} {G : sG} {a0 : Nat} {x1 : Int} {x2 : Int} {x3 : Int} {x4 : Int} (h1 : sI (x4 + 1)) (kk : sW (sC d) 118 Q 13 [vO 1 a0, vI x1, vI x2, vI x3, vI (x4 + 1), vN] [] M G 0 0) : sW (sC d) 118 Q 106 [vO 1 a0, vI x1, vI x2, vI x3, vI x4, vN] [] M G 0 0 := by
  refine q_iinc [vO 1 a0, vI x1, vI x2, vI x3, vI (x4 + 1), vN] 109 rfl (show sCode 118 106 = some (.iinc 4 1, 3) by decide +kernel) rfl rfl h1 rfl ?_
  refine q_goto 13 (by decide) (show sCode 118 109 = some (.goto (-96), 3) by decide +kernel) ?_
  exact kk
theorem b118_112 {d : Nat} {P : Int → sM → sG → Prop} {M : sM} {G : sG}   (kk : P 0 M G) : sW (sC d) 118 (QI P) 112 [vN, vN, vN, vN, vN, vN] [] M G 0 0 := by
  refine q_iconst 113 rfl (show sCode 118 112 = some (.iconst 0, 1) by decide +kernel) ⟨by decide, by decide⟩ ?_
  exact q_zret (show sCode 118 113 = some (.ireturn, 1) by decide +kernel) (by decide +kernel) (by decide) (by decide +kernel) kk
