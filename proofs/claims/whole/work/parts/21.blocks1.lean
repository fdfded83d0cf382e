/-! BLOCKS, by program. -/
-- 14 AfterTheLast$Reader.hasPlaceFor (I)Z
theorem b14_0 {d : Nat} {Q : Option sV → sM → sG → Prop} {M : sM} {G : sG} {a0 : Nat} {x1 : Int} (h1 : sI ((M a0 1) + x1)) (k1 : 400 < (M a0 1) + x1 → sW (sC d) 14 Q 16 [vN, vN] [] M G 0 0) (k2 : (M a0 1) + x1 ≤ 400 → sW (sC d) 14 Q 12 [vN, vN] [] M G 0 0) : sW (sC d) 14 Q 0 [vO 4 a0, vI x1] [] M G 0 0 := by
  refine q_aload_n 1 rfl (show sCode 14 0 = some (.aload_n 0, 1) by decide +kernel) rfl (Nat.le_of_ble_eq_true rfl) ?_
  refine q_getI 4 rfl (show sCode 14 1 = some (.getfield 15, 3) by decide +kernel) (show sFR (sKo 14).1 15 = some (4, 1) by decide +kernel) (by decide +kernel) (Or.inl (Or.inl rfl)) ?_
  refine q_iload_n 5 rfl (show sCode 14 4 = some (.iload_n 1, 1) by decide +kernel) rfl ?_
  refine q_iadd 6 rfl (show sCode 14 5 = some (.iadd, 1) by decide +kernel) h1 ?_
  refine q_sipush 9 rfl (show sCode 14 6 = some (.sipush 400, 3) by decide +kernel) ⟨by decide, by decide⟩ (by decide +kernel) ?_
  refine q_icmpgt 16 12 rfl (by decide) (show sCode 14 9 = some (.if_icmp .gt 7, 3) by decide +kernel) ?_ ?_
  · intro q; refine q_forget (L' := [vN, vI x1]) 0 rfl ?_; refine q_forget (L' := [vN, vN]) 1 rfl ?_; exact k1 q
  · intro q; refine q_forget (L' := [vN, vI x1]) 0 rfl ?_; refine q_forget (L' := [vN, vN]) 1 rfl ?_; exact k2 q
theorem b14_12 {d : Nat} {Q : Option sV → sM → sG → Prop} {M : sM} {G : sG}   (kk : sW (sC d) 14 Q 17 [vN, vN] [vI 1] M G 0 0) : sW (sC d) 14 Q 12 [vN, vN] [] M G 0 0 := by
  refine q_iconst 13 rfl (show sCode 14 12 = some (.iconst 1, 1) by decide +kernel) ⟨by decide, by decide⟩ ?_
  refine q_goto 17 (by decide) (show sCode 14 13 = some (.goto 4, 3) by decide +kernel) ?_
  exact kk
theorem b14_16 {d : Nat} {Q : Option sV → sM → sG → Prop} {M : sM} {G : sG}   (kk : sW (sC d) 14 Q 17 [vN, vN] [vI 0] M G 0 0) : sW (sC d) 14 Q 16 [vN, vN] [] M G 0 0 := by
  refine q_iconst 17 rfl (show sCode 14 16 = some (.iconst 0, 1) by decide +kernel) ⟨by decide, by decide⟩ ?_
  exact kk
theorem b14_17 {d : Nat} {P : Int → sM → sG → Prop} {M : sM} {G : sG} {s0 : Int}  (h01 : s0 = 0 ∨ s0 = 1) (kk : P s0 M G) : sW (sC d) 14 (QI P) 17 [vN, vN] [vI s0] M G 0 0 := by
  exact q_zret (show sCode 14 17 = some (.ireturn, 1) by decide +kernel) (by decide +kernel) h01 (by decide +kernel) kk
-- 15 AfterTheLast$Reader.append (I)V
theorem b15_0 {d : Nat} {Q : Option sV → sM → sG → Prop} {M : sM} {G : sG} {a0 : Nat} {x1 : Int}  (kk : sC d 14 [vO 4 a0, vI 4] M G (QI (fun r M1 G1 => sW (sC d) 15 Q 5 [vO 4 a0, vI x1, vN] (vI r :: []) M1 G1 0 0))) : sW (sC d) 15 Q 0 [vO 4 a0, vI x1, vN] [] M G 0 0 := by
  refine q_aload_n 1 rfl (show sCode 15 0 = some (.aload_n 0, 1) by decide +kernel) rfl (Nat.le_of_ble_eq_true rfl) ?_
  refine q_iconst 2 rfl (show sCode 15 1 = some (.iconst 4, 1) by decide +kernel) ⟨by decide, by decide⟩ ?_
  exact q_virtI [vI 4] 5 rfl (show sCode 15 2 = some (.invokevirtual 25, 3) by decide +kernel) (show sMR (sKo 15).1 25 = some 14 by decide +kernel) (show 14 < 1000 ∧ sStat 14 = false ∧ sIni 14 = false ∧ sKo 14 = (4, 1, 2, 0, 0) by decide +kernel) rfl (Or.inl rfl) rfl (Nat.le_of_ble_eq_true rfl) rfl rfl rfl (by decide +kernel) kk
theorem b15_5 {d : Nat} {Q : Option sV → sM → sG → Prop} {M : sM} {G : sG} {a0 : Nat} {x1 : Int} {s0 : Int}  (k1 : s0 ≠ 0 → sW (sC d) 15 Q 9 [vO 4 a0, vI x1, vN] [] M G 0 0) (k2 : s0 = 0 → sW (sC d) 15 Q 8 [vN, vN, vN] [] M G 0 0) : sW (sC d) 15 Q 5 [vO 4 a0, vI x1, vN] [vI s0] M G 0 0 := by
  refine q_ifne 9 8 rfl (by decide) (show sCode 15 5 = some (.ifCond .ne 4, 3) by decide +kernel) ?_ ?_
  · intro q; exact k1 q
  · intro q; refine q_forget (L' := [vN, vI x1, vN]) 0 rfl ?_; refine q_forget (L' := [vN, vN, vN]) 1 rfl ?_; exact k2 q
theorem b15_8 {d : Nat} {P : sM → sG → Prop} {M : sM} {G : sG}   (kk : P M G) : sW (sC d) 15 (QV P) 8 [vN, vN, vN] [] M G 0 0 := by
  exact q_vret (show sCode 15 8 = some (.return_, 1) by decide +kernel) (by decide +kernel) (by decide +kernel) kk
theorem b15_9 {d : Nat} {Q : Option sV → sM → sG → Prop} {M : sM} {G : sG} {a0 : Nat} {x1 : Int}  (kk : sW (sC d) 15 Q 12 [vO 4 a0, vI x1, vI 24] [] M G 0 0) : sW (sC d) 15 Q 9 [vO 4 a0, vI x1, vN] [] M G 0 0 := by
  refine q_bipush 11 rfl (show sCode 15 9 = some (.bipush 24, 2) by decide +kernel) ⟨by decide, by decide⟩ (by decide +kernel) ?_
  refine q_istore_n [vO 4 a0, vI x1, vI 24] 12 rfl (show sCode 15 11 = some (.istore_n 2, 1) by decide +kernel) (Nat.lt_of_lt_of_le (Nat.lt_succ_self _) (Nat.le_of_ble_eq_true rfl)) rfl rfl ?_
  exact kk
theorem b15_12 {d : Nat} {Q : Option sV → sM → sG → Prop} {M : sM} {G : sG} {a0 : Nat} {x1 : Int} {x2 : Int}  (k1 : x2 < 0 → sW (sC d) 15 Q 48 [vN, vN, vN] [] M G 0 0) (k2 : 0 ≤ x2 → sW (sC d) 15 Q 16 [vO 4 a0, vI x1, vI x2] [] M G 0 0) : sW (sC d) 15 Q 12 [vO 4 a0, vI x1, vI x2] [] M G 0 0 := by
  refine q_iload_n 13 rfl (show sCode 15 12 = some (.iload_n 2, 1) by decide +kernel) rfl ?_
  refine q_iflt 48 16 rfl (by decide) (show sCode 15 13 = some (.ifCond .lt 35, 3) by decide +kernel) ?_ ?_
  · intro q; refine q_forget (L' := [vN, vI x1, vI x2]) 0 rfl ?_; refine q_forget (L' := [vN, vN, vI x2]) 1 rfl ?_; refine q_forget (L' := [vN, vN, vN]) 2 rfl ?_; exact k1 q
  · intro q; exact k2 q
theorem b15_16 {d : Nat} {Q : Option sV → sM → sG → Prop} {M : sM} {G : sG} {a0 : Nat} {x1 : Int} {x2 : Int} (h1 : 0 ≤ M a0 1 ∧ M a0 1 < 400) (h2 : sI (((sUpd M (a0 + 1) (M a0 1).toNat (iAnd (iShr x1 x2) 255)) a0 1) + 1)) (h3 : sI (x2 + (-8))) (kk : sW (sC d) 15 Q 12 [vO 4 a0, vI x1, vI (x2 + (-8))] [] (sUpd (sUpd M (a0 + 1) (M a0 1).toNat (iAnd (iShr x1 x2) 255)) a0 1 (((sUpd M (a0 + 1) (M a0 1).toNat (iAnd (iShr x1 x2) 255)) a0 1) + 1)) G 0 0) : sW (sC d) 15 Q 16 [vO 4 a0, vI x1, vI x2] [] M G 0 0 := by
  refine q_aload_n 17 rfl (show sCode 15 16 = some (.aload_n 0, 1) by decide +kernel) rfl (Nat.le_of_ble_eq_true rfl) ?_
  refine q_getR (vA 0 (a0 + 1) 400) 20 rfl (show sCode 15 17 = some (.getfield 11, 3) by decide +kernel) (show sFR (sKo 15).1 11 = some (4, 0) by decide +kernel) (by decide +kernel) (Or.inl (Or.inl rfl)) rfl ?_
  refine q_aload_n 21 rfl (show sCode 15 20 = some (.aload_n 0, 1) by decide +kernel) rfl (Nat.le_of_ble_eq_true rfl) ?_
  refine q_getI 24 rfl (show sCode 15 21 = some (.getfield 15, 3) by decide +kernel) (show sFR (sKo 15).1 15 = some (4, 1) by decide +kernel) (by decide +kernel) (Or.inl (Or.inl rfl)) ?_
  refine q_iload_n 25 rfl (show sCode 15 24 = some (.iload_n 1, 1) by decide +kernel) rfl ?_
  refine q_iload_n 26 rfl (show sCode 15 25 = some (.iload_n 2, 1) by decide +kernel) rfl ?_
  refine q_ishr 27 rfl (show sCode 15 26 = some (.ishr, 1) by decide +kernel) ?_
  refine q_sipush 30 rfl (show sCode 15 27 = some (.sipush 255, 3) by decide +kernel) ⟨by decide, by decide⟩ (by decide +kernel) ?_
  refine q_iand 31 rfl (show sCode 15 30 = some (.iand, 1) by decide +kernel) ?_
  refine q_iast 32 rfl (show sCode 15 31 = some (.iastore, 1) by decide +kernel) h1 ?_
  refine q_aload_n 33 rfl (show sCode 15 32 = some (.aload_n 0, 1) by decide +kernel) rfl (Nat.le_of_ble_eq_true rfl) ?_
  refine q_dup 34 rfl (show sCode 15 33 = some (.dup, 1) by decide +kernel) rfl ?_
  refine q_getI 37 rfl (show sCode 15 34 = some (.getfield 15, 3) by decide +kernel) (show sFR (sKo 15).1 15 = some (4, 1) by decide +kernel) (by decide +kernel) (Or.inl (Or.inl rfl)) ?_
  refine q_iconst 38 rfl (show sCode 15 37 = some (.iconst 1, 1) by decide +kernel) ⟨by decide, by decide⟩ ?_
  refine q_iadd 39 rfl (show sCode 15 38 = some (.iadd, 1) by decide +kernel) h2 ?_
  refine q_putI 42 rfl (show sCode 15 39 = some (.putfield 15, 3) by decide +kernel) (show sFR (sKo 15).1 15 = some (4, 1) by decide +kernel) (by decide +kernel) (Or.inl ⟨Or.inl rfl, by decide +kernel⟩) ?_
  refine q_iinc [vO 4 a0, vI x1, vI (x2 + (-8))] 45 rfl (show sCode 15 42 = some (.iinc 2 (-8), 3) by decide +kernel) rfl rfl h3 rfl ?_
  refine q_goto 12 (by decide) (show sCode 15 45 = some (.goto (-33), 3) by decide +kernel) ?_
  exact kk
theorem b15_48 {d : Nat} {P : sM → sG → Prop} {M : sM} {G : sG}   (kk : P M G) : sW (sC d) 15 (QV P) 48 [vN, vN, vN] [] M G 0 0 := by
  exact q_vret (show sCode 15 48 = some (.return_, 1) by decide +kernel) (by decide +kernel) (by decide +kernel) kk
-- 18 AfterTheLast$Reader.readStreet (LAfterTheLast$Town;)I
theorem b18_0 {d : Nat} {Q : Option sV → sM → sG → Prop} {M : sM} {G : sG} {a0 : Nat} {a1 : Nat}  (kk : sC d 19 [vO 4 a0] M G (QV (fun M1 G1 => sW (sC d) 18 Q 4 [vO 4 a0, vO 10 a1, vN, vN, vN] [] M1 G1 0 0))) : sW (sC d) 18 Q 0 [vO 4 a0, vO 10 a1, vN, vN, vN] [] M G 0 0 := by
  refine q_aload_n 1 rfl (show sCode 18 0 = some (.aload_n 0, 1) by decide +kernel) rfl (Nat.le_of_ble_eq_true rfl) ?_
  exact q_virtV [] 4 rfl (show sCode 18 1 = some (.invokevirtual 63, 3) by decide +kernel) (show sMR (sKo 18).1 63 = some 19 by decide +kernel) (show 19 < 1000 ∧ sStat 19 = false ∧ sIni 19 = false ∧ sKo 19 = (4, 0, 0, 0, 0) by decide +kernel) rfl (Or.inl rfl) rfl (Nat.le_of_ble_eq_true rfl) rfl rfl rfl (by decide +kernel) kk
theorem b18_4 {d : Nat} {Q : Option sV → sM → sG → Prop} {M : sM} {G : sG} {a0 : Nat} {a1 : Nat}  (kk : sC d 5 [vO 10 a1] M G (QV (fun M1 G1 => sW (sC d) 18 Q 8 [vO 4 a0, vO 10 a1, vN, vN, vN] [] M1 G1 0 0))) : sW (sC d) 18 Q 4 [vO 4 a0, vO 10 a1, vN, vN, vN] [] M G 0 0 := by
  refine q_aload_n 5 rfl (show sCode 18 4 = some (.aload_n 1, 1) by decide +kernel) rfl (Nat.le_of_ble_eq_true rfl) ?_
  exact q_virtV [] 8 rfl (show sCode 18 5 = some (.invokevirtual 66, 3) by decide +kernel) (show sMR (sKo 18).1 66 = some 5 by decide +kernel) (show 5 < 1000 ∧ sStat 5 = false ∧ sIni 5 = false ∧ sKo 5 = (10, 0, 0, 0, 0) by decide +kernel) rfl (Or.inl rfl) rfl (Nat.le_of_ble_eq_true rfl) rfl rfl rfl (by decide +kernel) kk
theorem b18_8 {d : Nat} {Q : Option sV → sM → sG → Prop} {M : sM} {G : sG} {a0 : Nat} {a1 : Nat}  (kk : sW (sC d) 18 Q 12 [vO 4 a0, vO 10 a1, vI 1, vI 0, vN] [] M G 0 0) : sW (sC d) 18 Q 8 [vO 4 a0, vO 10 a1, vN, vN, vN] [] M G 0 0 := by
  refine q_iconst 9 rfl (show sCode 18 8 = some (.iconst 1, 1) by decide +kernel) ⟨by decide, by decide⟩ ?_
  refine q_istore_n [vO 4 a0, vO 10 a1, vI 1, vN, vN] 10 rfl (show sCode 18 9 = some (.istore_n 2, 1) by decide +kernel) (Nat.lt_of_lt_of_le (Nat.lt_succ_self _) (Nat.le_of_ble_eq_true rfl)) rfl rfl ?_
  refine q_iconst 11 rfl (show sCode 18 10 = some (.iconst 0, 1) by decide +kernel) ⟨by decide, by decide⟩ ?_
  refine q_istore_n [vO 4 a0, vO 10 a1, vI 1, vI 0, vN] 12 rfl (show sCode 18 11 = some (.istore_n 3, 1) by decide +kernel) (Nat.lt_of_lt_of_le (Nat.lt_succ_self _) (Nat.le_of_ble_eq_true rfl)) rfl rfl ?_
  exact kk
theorem b18_12 {d : Nat} {Q : Option sV → sM → sG → Prop} {M : sM} {G : sG} {a0 : Nat} {a1 : Nat} {x2 : Int} {x3 : Int}  (k1 : 24 < x3 → sW (sC d) 18 Q 93 [vO 4 a0, vN, vN, vN, vN] [] M G 0 0) (k2 : x3 ≤ 24 → sW (sC d) 18 Q 18 [vO 4 a0, vO 10 a1, vI x2, vI x3, vN] [] M G 0 0) : sW (sC d) 18 Q 12 [vO 4 a0, vO 10 a1, vI x2, vI x3, vN] [] M G 0 0 := by
  refine q_iload_n 13 rfl (show sCode 18 12 = some (.iload_n 3, 1) by decide +kernel) rfl ?_
  refine q_bipush 15 rfl (show sCode 18 13 = some (.bipush 24, 2) by decide +kernel) ⟨by decide, by decide⟩ (by decide +kernel) ?_
  refine q_icmpgt 93 18 rfl (by decide) (show sCode 18 15 = some (.if_icmp .gt 78, 3) by decide +kernel) ?_ ?_
  · intro q; refine q_forget (L' := [vO 4 a0, vN, vI x2, vI x3, vN]) 1 rfl ?_; refine q_forget (L' := [vO 4 a0, vN, vN, vI x3, vN]) 2 rfl ?_; refine q_forget (L' := [vO 4 a0, vN, vN, vN, vN]) 3 rfl ?_; exact k1 q
  · intro q; exact k2 q
theorem b18_18 {d : Nat} {Q : Option sV → sM → sG → Prop} {M : sM} {G : sG} {a0 : Nat} {a1 : Nat} {x2 : Int} {x3 : Int}  (k1 : x2 = 0 → sW (sC d) 18 Q 93 [vO 4 a0, vN, vN, vN, vN] [] M G 0 0) (k2 : x2 ≠ 0 → sW (sC d) 18 Q 22 [vO 4 a0, vO 10 a1, vN, vI x3, vN] [] M G 0 0) : sW (sC d) 18 Q 18 [vO 4 a0, vO 10 a1, vI x2, vI x3, vN] [] M G 0 0 := by
  refine q_iload_n 19 rfl (show sCode 18 18 = some (.iload_n 2, 1) by decide +kernel) rfl ?_
  refine q_ifeq 93 22 rfl (by decide) (show sCode 18 19 = some (.ifCond .eq 74, 3) by decide +kernel) ?_ ?_
  · intro q; refine q_forget (L' := [vO 4 a0, vN, vI x2, vI x3, vN]) 1 rfl ?_; refine q_forget (L' := [vO 4 a0, vN, vN, vI x3, vN]) 2 rfl ?_; refine q_forget (L' := [vO 4 a0, vN, vN, vN, vN]) 3 rfl ?_; exact k1 q
  · intro q; refine q_forget (L' := [vO 4 a0, vO 10 a1, vN, vI x3, vN]) 2 rfl ?_; exact k2 q
theorem b18_22 {d : Nat} {Q : Option sV → sM → sG → Prop} {M : sM} {G : sG} {a0 : Nat} {a1 : Nat} {x3 : Int}  (kk : sC d 20 [vO 4 a0] M G (QI (fun r M1 G1 => sW (sC d) 18 Q 26 [vO 4 a0, vO 10 a1, vN, vI x3, vN] (vI r :: []) M1 G1 0 0))) : sW (sC d) 18 Q 22 [vO 4 a0, vO 10 a1, vN, vI x3, vN] [] M G 0 0 := by
  refine q_aload_n 23 rfl (show sCode 18 22 = some (.aload_n 0, 1) by decide +kernel) rfl (Nat.le_of_ble_eq_true rfl) ?_
  exact q_virtI [] 26 rfl (show sCode 18 23 = some (.invokevirtual 49, 3) by decide +kernel) (show sMR (sKo 18).1 49 = some 20 by decide +kernel) (show 20 < 1000 ∧ sStat 20 = false ∧ sIni 20 = false ∧ sKo 20 = (4, 0, 2, 0, 0) by decide +kernel) rfl (Or.inl rfl) rfl (Nat.le_of_ble_eq_true rfl) rfl rfl rfl (by decide +kernel) kk
theorem b18_26 {d : Nat} {Q : Option sV → sM → sG → Prop} {M : sM} {G : sG} {a0 : Nat} {a1 : Nat} {x3 : Int} {s0 : Int}  (k1 : s0 = 0 → sW (sC d) 18 Q 93 [vO 4 a0, vN, vN, vN, vN] [] M G 0 0) (k2 : s0 ≠ 0 → sW (sC d) 18 Q 29 [vO 4 a0, vO 10 a1, vN, vI x3, vN] [] M G 0 0) : sW (sC d) 18 Q 26 [vO 4 a0, vO 10 a1, vN, vI x3, vN] [vI s0] M G 0 0 := by
  refine q_ifeq 93 29 rfl (by decide) (show sCode 18 26 = some (.ifCond .eq 67, 3) by decide +kernel) ?_ ?_
  · intro q; refine q_forget (L' := [vO 4 a0, vN, vN, vI x3, vN]) 1 rfl ?_; refine q_forget (L' := [vO 4 a0, vN, vN, vN, vN]) 3 rfl ?_; exact k1 q
  · intro q; exact k2 q
theorem b18_29 {d : Nat} {Q : Option sV → sM → sG → Prop} {M : sM} {G : sG} {a0 : Nat} {a1 : Nat} {x3 : Int}  (k1 : 24 ≤ x3 → sW (sC d) 18 Q 41 [vO 4 a0, vO 10 a1, vN, vI x3, vN] [vO 10 a1, vO 4 a0] M G 0 0) (k2 : x3 < 24 → sW (sC d) 18 Q 37 [vO 4 a0, vO 10 a1, vN, vI x3, vN] [vO 10 a1, vO 4 a0] M G 0 0) : sW (sC d) 18 Q 29 [vO 4 a0, vO 10 a1, vN, vI x3, vN] [] M G 0 0 := by
  refine q_aload_n 30 rfl (show sCode 18 29 = some (.aload_n 0, 1) by decide +kernel) rfl (Nat.le_of_ble_eq_true rfl) ?_
  refine q_aload_n 31 rfl (show sCode 18 30 = some (.aload_n 1, 1) by decide +kernel) rfl (Nat.le_of_ble_eq_true rfl) ?_
  refine q_iload_n 32 rfl (show sCode 18 31 = some (.iload_n 3, 1) by decide +kernel) rfl ?_
  refine q_bipush 34 rfl (show sCode 18 32 = some (.bipush 24, 2) by decide +kernel) ⟨by decide, by decide⟩ (by decide +kernel) ?_
  refine q_icmpge 41 37 rfl (by decide) (show sCode 18 34 = some (.if_icmp .ge 7, 3) by decide +kernel) ?_ ?_
  · intro q; exact k1 q
  · intro q; exact k2 q
theorem b18_37 {d : Nat} {Q : Option sV → sM → sG → Prop} {M : sM} {G : sG} {a0 : Nat} {a1 : Nat} {x3 : Int} {sa0 : Nat} {sa1 : Nat}  (kk : sW (sC d) 18 Q 42 [vO 4 a0, vO 10 a1, vN, vI x3, vN] [vI 1, vO 10 sa0, vO 4 sa1] M G 0 0) : sW (sC d) 18 Q 37 [vO 4 a0, vO 10 a1, vN, vI x3, vN] [vO 10 sa0, vO 4 sa1] M G 0 0 := by
  refine q_iconst 38 rfl (show sCode 18 37 = some (.iconst 1, 1) by decide +kernel) ⟨by decide, by decide⟩ ?_
  refine q_goto 42 (by decide) (show sCode 18 38 = some (.goto 4, 3) by decide +kernel) ?_
  exact kk
theorem b18_41 {d : Nat} {Q : Option sV → sM → sG → Prop} {M : sM} {G : sG} {a0 : Nat} {a1 : Nat} {x3 : Int} {sa0 : Nat} {sa1 : Nat}  (kk : sW (sC d) 18 Q 42 [vO 4 a0, vO 10 a1, vN, vI x3, vN] [vI 0, vO 10 sa0, vO 4 sa1] M G 0 0) : sW (sC d) 18 Q 41 [vO 4 a0, vO 10 a1, vN, vI x3, vN] [vO 10 sa0, vO 4 sa1] M G 0 0 := by
  refine q_iconst 42 rfl (show sCode 18 41 = some (.iconst 0, 1) by decide +kernel) ⟨by decide, by decide⟩ ?_
  exact kk
theorem b18_42 {d : Nat} {Q : Option sV → sM → sG → Prop} {M : sM} {G : sG} {a0 : Nat} {a1 : Nat} {x3 : Int} {s0 : Int} {sa1 : Nat} {sa2 : Nat}  (kk : sC d 21 [vO 4 sa2, vO 10 sa1, vI s0] M G (QV (fun M1 G1 => sW (sC d) 18 Q 45 [vO 4 a0, vO 10 a1, vN, vI x3, vN] [] M1 G1 0 0))) : sW (sC d) 18 Q 42 [vO 4 a0, vO 10 a1, vN, vI x3, vN] [vI s0, vO 10 sa1, vO 4 sa2] M G 0 0 := by
  exact q_virtV [vO 10 sa1, vI s0] 45 rfl (show sCode 18 42 = some (.invokevirtual 71, 3) by decide +kernel) (show sMR (sKo 18).1 71 = some 21 by decide +kernel) (show 21 < 1000 ∧ sStat 21 = false ∧ sIni 21 = false ∧ sKo 21 = (4, 2, 0, 0, 0) by decide +kernel) rfl (Or.inl rfl) rfl (Nat.le_of_ble_eq_true rfl) rfl rfl rfl (by decide +kernel) kk
theorem b18_45 {d : Nat} {Q : Option sV → sM → sG → Prop} {M : sM} {G : sG} {a0 : Nat} {a1 : Nat} {x3 : Int}  (kk : sC d 22 [vO 4 a0] M G (QI (fun r M1 G1 => sW (sC d) 18 Q 49 [vO 4 a0, vO 10 a1, vN, vI x3, vN] (vI r :: []) M1 G1 0 0))) : sW (sC d) 18 Q 45 [vO 4 a0, vO 10 a1, vN, vI x3, vN] [] M G 0 0 := by
  refine q_aload_n 46 rfl (show sCode 18 45 = some (.aload_n 0, 1) by decide +kernel) rfl (Nat.le_of_ble_eq_true rfl) ?_
  exact q_virtI [] 49 rfl (show sCode 18 46 = some (.invokevirtual 46, 3) by decide +kernel) (show sMR (sKo 18).1 46 = some 22 by decide +kernel) (show 22 < 1000 ∧ sStat 22 = false ∧ sIni 22 = false ∧ sKo 22 = (4, 0, 1, 0, 0) by decide +kernel) rfl (Or.inl rfl) rfl (Nat.le_of_ble_eq_true rfl) rfl rfl rfl (by decide +kernel) kk
theorem b18_49 {d : Nat} {Q : Option sV → sM → sG → Prop} {M : sM} {G : sG} {a0 : Nat} {a1 : Nat} {x3 : Int} {s0 : Int}  (k1 : s0 ≠ 59 → sW (sC d) 18 Q 62 [vO 4 a0, vO 10 a1, vN, vI x3, vI s0] [] M G 0 0) (k2 : s0 = 59 → sW (sC d) 18 Q 58 [vO 4 a0, vO 10 a1, vN, vI x3, vI s0] [] M G 0 0) : sW (sC d) 18 Q 49 [vO 4 a0, vO 10 a1, vN, vI x3, vN] [vI s0] M G 0 0 := by
  refine q_istore [vO 4 a0, vO 10 a1, vN, vI x3, vI s0] 51 rfl (show sCode 18 49 = some (.istore 4, 2) by decide +kernel) (Nat.lt_of_lt_of_le (Nat.lt_succ_self _) (Nat.le_of_ble_eq_true rfl)) rfl rfl ?_
  refine q_iload 53 rfl (show sCode 18 51 = some (.iload 4, 2) by decide +kernel) rfl ?_
  refine q_bipush 55 rfl (show sCode 18 53 = some (.bipush 59, 2) by decide +kernel) ⟨by decide, by decide⟩ (by decide +kernel) ?_
  refine q_icmpne 62 58 rfl (by decide) (show sCode 18 55 = some (.if_icmp .ne 7, 3) by decide +kernel) ?_ ?_
  · intro q; exact k1 q
  · intro q; exact k2 q
theorem b18_58 {d : Nat} {Q : Option sV → sM → sG → Prop} {M : sM} {G : sG} {a0 : Nat} {a1 : Nat} {x3 : Int} {x4 : Int}  (kk : sW (sC d) 18 Q 63 [vO 4 a0, vO 10 a1, vN, vI x3, vI x4] [vI 1] M G 0 0) : sW (sC d) 18 Q 58 [vO 4 a0, vO 10 a1, vN, vI x3, vI x4] [] M G 0 0 := by
  refine q_iconst 59 rfl (show sCode 18 58 = some (.iconst 1, 1) by decide +kernel) ⟨by decide, by decide⟩ ?_
  refine q_goto 63 (by decide) (show sCode 18 59 = some (.goto 4, 3) by decide +kernel) ?_
  exact kk
theorem b18_62 {d : Nat} {Q : Option sV → sM → sG → Prop} {M : sM} {G : sG} {a0 : Nat} {a1 : Nat} {x3 : Int} {x4 : Int}  (kk : sW (sC d) 18 Q 63 [vO 4 a0, vO 10 a1, vN, vI x3, vI x4] [vI 0] M G 0 0) : sW (sC d) 18 Q 62 [vO 4 a0, vO 10 a1, vN, vI x3, vI x4] [] M G 0 0 := by
  refine q_iconst 63 rfl (show sCode 18 62 = some (.iconst 0, 1) by decide +kernel) ⟨by decide, by decide⟩ ?_
  exact kk
theorem b18_63 {d : Nat} {Q : Option sV → sM → sG → Prop} {M : sM} {G : sG} {a0 : Nat} {a1 : Nat} {x3 : Int} {x4 : Int} {s0 : Int}  (k1 : s0 = 0 → sW (sC d) 18 Q 76 [vO 4 a0, vO 10 a1, vI s0, vI x3, vI x4] [] M G 0 0) (k2 : s0 ≠ 0 → sW (sC d) 18 Q 68 [vO 4 a0, vO 10 a1, vI s0, vI x3, vN] [] M G 0 0) : sW (sC d) 18 Q 63 [vO 4 a0, vO 10 a1, vN, vI x3, vI x4] [vI s0] M G 0 0 := by
  refine q_istore_n [vO 4 a0, vO 10 a1, vI s0, vI x3, vI x4] 64 rfl (show sCode 18 63 = some (.istore_n 2, 1) by decide +kernel) (Nat.lt_of_lt_of_le (Nat.lt_succ_self _) (Nat.le_of_ble_eq_true rfl)) rfl rfl ?_
  refine q_iload_n 65 rfl (show sCode 18 64 = some (.iload_n 2, 1) by decide +kernel) rfl ?_
  refine q_ifeq 76 68 rfl (by decide) (show sCode 18 65 = some (.ifCond .eq 11, 3) by decide +kernel) ?_ ?_
  · intro q; exact k1 q
  · intro q; refine q_forget (L' := [vO 4 a0, vO 10 a1, vI s0, vI x3, vN]) 4 rfl ?_; exact k2 q
theorem b18_68 {d : Nat} {Q : Option sV → sM → sG → Prop} {M : sM} {G : sG} {a0 : Nat} {a1 : Nat} {x2 : Int} {x3 : Int}  (kk : sC d 26 [vO 4 a0, vI 1] M G (QV (fun M1 G1 => sW (sC d) 18 Q 73 [vO 4 a0, vO 10 a1, vI x2, vI x3, vN] [] M1 G1 0 0))) : sW (sC d) 18 Q 68 [vO 4 a0, vO 10 a1, vI x2, vI x3, vN] [] M G 0 0 := by
  refine q_aload_n 69 rfl (show sCode 18 68 = some (.aload_n 0, 1) by decide +kernel) rfl (Nat.le_of_ble_eq_true rfl) ?_
  refine q_iconst 70 rfl (show sCode 18 69 = some (.iconst 1, 1) by decide +kernel) ⟨by decide, by decide⟩ ?_
  exact q_virtV [vI 1] 73 rfl (show sCode 18 70 = some (.invokevirtual 42, 3) by decide +kernel) (show sMR (sKo 18).1 42 = some 26 by decide +kernel) (show 26 < 1000 ∧ sStat 26 = false ∧ sIni 26 = false ∧ sKo 26 = (4, 1, 0, 0, 0) by decide +kernel) rfl (Or.inl rfl) rfl (Nat.le_of_ble_eq_true rfl) rfl rfl rfl (by decide +kernel) kk
theorem b18_73 {d : Nat} {Q : Option sV → sM → sG → Prop} {M : sM} {G : sG} {a0 : Nat} {a1 : Nat} {x2 : Int} {x3 : Int}  (kk : sW (sC d) 18 Q 87 [vO 4 a0, vO 10 a1, vI x2, vI x3, vN] [] M G 0 0) : sW (sC d) 18 Q 73 [vO 4 a0, vO 10 a1, vI x2, vI x3, vN] [] M G 0 0 := by
  refine q_goto 87 (by decide) (show sCode 18 73 = some (.goto 14, 3) by decide +kernel) ?_
  exact kk
theorem b18_76 {d : Nat} {Q : Option sV → sM → sG → Prop} {M : sM} {G : sG} {a0 : Nat} {a1 : Nat} {x2 : Int} {x3 : Int} {x4 : Int}  (k1 : x4 = (-1) → sW (sC d) 18 Q 87 [vO 4 a0, vO 10 a1, vI x2, vI x3, vN] [] M G 0 0) (k2 : x4 ≠ (-1) → sW (sC d) 18 Q 82 [vO 4 a0, vO 10 a1, vI x2, vI x3, vN] [] M G 0 0) : sW (sC d) 18 Q 76 [vO 4 a0, vO 10 a1, vI x2, vI x3, vI x4] [] M G 0 0 := by
  refine q_iload 78 rfl (show sCode 18 76 = some (.iload 4, 2) by decide +kernel) rfl ?_
  refine q_iconst 79 rfl (show sCode 18 78 = some (.iconst (-1), 1) by decide +kernel) ⟨by decide, by decide⟩ ?_
  refine q_icmpeq 87 82 rfl (by decide) (show sCode 18 79 = some (.if_icmp .eq 8, 3) by decide +kernel) ?_ ?_
  · intro q; refine q_forget (L' := [vO 4 a0, vO 10 a1, vI x2, vI x3, vN]) 4 rfl ?_; exact k1 q
  · intro q; refine q_forget (L' := [vO 4 a0, vO 10 a1, vI x2, vI x3, vN]) 4 rfl ?_; exact k2 q
theorem b18_82 {d : Nat} {Q : Option sV → sM → sG → Prop} {M : sM} {G : sG} {a0 : Nat} {a1 : Nat} {x2 : Int} {x3 : Int}  (kk : sC d 24 [vO 4 a0, vI 0] M G (QV (fun M1 G1 => sW (sC d) 18 Q 87 [vO 4 a0, vO 10 a1, vI x2, vI x3, vN] [] M1 G1 0 0))) : sW (sC d) 18 Q 82 [vO 4 a0, vO 10 a1, vI x2, vI x3, vN] [] M G 0 0 := by
  refine q_aload_n 83 rfl (show sCode 18 82 = some (.aload_n 0, 1) by decide +kernel) rfl (Nat.le_of_ble_eq_true rfl) ?_
  refine q_iconst 84 rfl (show sCode 18 83 = some (.iconst 0, 1) by decide +kernel) ⟨by decide, by decide⟩ ?_
  exact q_virtV [vI 0] 87 rfl (show sCode 18 84 = some (.invokevirtual 60, 3) by decide +kernel) (show sMR (sKo 18).1 60 = some 24 by decide +kernel) (show 24 < 1000 ∧ sStat 24 = false ∧ sIni 24 = false ∧ sKo 24 = (4, 1, 0, 0, 0) by decide +kernel) rfl (Or.inl rfl) rfl (Nat.le_of_ble_eq_true rfl) rfl rfl rfl (by decide +kernel) kk
theorem b18_87 {d : Nat} {Q : Option sV → sM → sG → Prop} {M : sM} {G : sG} {a0 : Nat} {a1 : Nat} {x2 : Int} {x3 : Int} (h1 : sI (x3 + 1)) (kk : sW (sC d) 18 Q 12 [vO 4 a0, vO 10 a1, vI x2, vI (x3 + 1), vN] [] M G 0 0) : sW (sC d) 18 Q 87 [vO 4 a0, vO 10 a1, vI x2, vI x3, vN] [] M G 0 0 := by
  refine q_iinc [vO 4 a0, vO 10 a1, vI x2, vI (x3 + 1), vN] 90 rfl (show sCode 18 87 = some (.iinc 3 1, 3) by decide +kernel) rfl rfl h1 rfl ?_
  refine q_goto 12 (by decide) (show sCode 18 90 = some (.goto (-78), 3) by decide +kernel) ?_
  exact kk
theorem b18_93 {d : Nat} {P : Int → sM → sG → Prop} {M : sM} {G : sG} {a0 : Nat}  (kk : P (M a0 3) M G) : sW (sC d) 18 (QI P) 93 [vO 4 a0, vN, vN, vN, vN] [] M G 0 0 := by
  refine q_aload_n 94 rfl (show sCode 18 93 = some (.aload_n 0, 1) by decide +kernel) rfl (Nat.le_of_ble_eq_true rfl) ?_
  refine q_getI 97 rfl (show sCode 18 94 = some (.getfield 22, 3) by decide +kernel) (show sFR (sKo 18).1 22 = some (4, 3) by decide +kernel) (by decide +kernel) (Or.inl (Or.inl rfl)) ?_
  exact q_iret (show sCode 18 97 = some (.ireturn, 1) by decide +kernel) (by decide +kernel) (by decide +kernel) kk
-- 19 AfterTheLast$Reader.rewind ()V
theorem b19_0 {d : Nat} {P : sM → sG → Prop} {M : sM} {G : sG} {a0 : Nat}  (kk : P (sUpd (sUpd M a0 2 0) a0 3 0) G) : sW (sC d) 19 (QV P) 0 [vO 4 a0] [] M G 0 0 := by
  refine q_aload_n 1 rfl (show sCode 19 0 = some (.aload_n 0, 1) by decide +kernel) rfl (Nat.le_of_ble_eq_true rfl) ?_
  refine q_iconst 2 rfl (show sCode 19 1 = some (.iconst 0, 1) by decide +kernel) ⟨by decide, by decide⟩ ?_
  refine q_putI 5 rfl (show sCode 19 2 = some (.putfield 19, 3) by decide +kernel) (show sFR (sKo 19).1 19 = some (4, 2) by decide +kernel) (by decide +kernel) (Or.inl ⟨Or.inl rfl, by decide +kernel⟩) ?_
  refine q_aload_n 6 rfl (show sCode 19 5 = some (.aload_n 0, 1) by decide +kernel) rfl (Nat.le_of_ble_eq_true rfl) ?_
  refine q_iconst 7 rfl (show sCode 19 6 = some (.iconst 0, 1) by decide +kernel) ⟨by decide, by decide⟩ ?_
  refine q_putI 10 rfl (show sCode 19 7 = some (.putfield 22, 3) by decide +kernel) (show sFR (sKo 19).1 22 = some (4, 3) by decide +kernel) (by decide +kernel) (Or.inl ⟨Or.inl rfl, by decide +kernel⟩) ?_
  exact q_vret (show sCode 19 10 = some (.return_, 1) by decide +kernel) (by decide +kernel) (by decide +kernel) kk
-- 20 AfterTheLast$Reader.fine ()Z
theorem b20_0 {d : Nat} {Q : Option sV → sM → sG → Prop} {M : sM} {G : sG} {a0 : Nat}  (k1 : M a0 3 ≠ 0 → sW (sC d) 20 Q 11 [vN] [] M G 0 0) (k2 : M a0 3 = 0 → sW (sC d) 20 Q 7 [vN] [] M G 0 0) : sW (sC d) 20 Q 0 [vO 4 a0] [] M G 0 0 := by
  refine q_aload_n 1 rfl (show sCode 20 0 = some (.aload_n 0, 1) by decide +kernel) rfl (Nat.le_of_ble_eq_true rfl) ?_
  refine q_getI 4 rfl (show sCode 20 1 = some (.getfield 22, 3) by decide +kernel) (show sFR (sKo 20).1 22 = some (4, 3) by decide +kernel) (by decide +kernel) (Or.inl (Or.inl rfl)) ?_
  refine q_ifne 11 7 rfl (by decide) (show sCode 20 4 = some (.ifCond .ne 7, 3) by decide +kernel) ?_ ?_
  · intro q; refine q_forget (L' := [vN]) 0 rfl ?_; exact k1 q
  · intro q; refine q_forget (L' := [vN]) 0 rfl ?_; exact k2 q
theorem b20_7 {d : Nat} {Q : Option sV → sM → sG → Prop} {M : sM} {G : sG}   (kk : sW (sC d) 20 Q 12 [vN] [vI 1] M G 0 0) : sW (sC d) 20 Q 7 [vN] [] M G 0 0 := by
  refine q_iconst 8 rfl (show sCode 20 7 = some (.iconst 1, 1) by decide +kernel) ⟨by decide, by decide⟩ ?_
  refine q_goto 12 (by decide) (show sCode 20 8 = some (.goto 4, 3) by decide +kernel) ?_
  exact kk
theorem b20_11 {d : Nat} {Q : Option sV → sM → sG → Prop} {M : sM} {G : sG}   (kk : sW (sC d) 20 Q 12 [vN] [vI 0] M G 0 0) : sW (sC d) 20 Q 11 [vN] [] M G 0 0 := by
  refine q_iconst 12 rfl (show sCode 20 11 = some (.iconst 0, 1) by decide +kernel) ⟨by decide, by decide⟩ ?_
  exact kk
theorem b20_12 {d : Nat} {P : Int → sM → sG → Prop} {M : sM} {G : sG} {s0 : Int}  (h01 : s0 = 0 ∨ s0 = 1) (kk : P s0 M G) : sW (sC d) 20 (QI P) 12 [vN] [vI s0] M G 0 0 := by
  exact q_zret (show sCode 20 12 = some (.ireturn, 1) by decide +kernel) (by decide +kernel) h01 (by decide +kernel) kk
-- 21 AfterTheLast$Reader.readClause (LAfterTheLast$Town;Z)V
theorem b21_0 {d : Nat} {Q : Option sV → sM → sG → Prop} {M : sM} {G : sG} {a0 : Nat} {a1 : Nat} {x2 : Int}  (kk : sC d 22 [vO 4 a0] M G (QI (fun r M1 G1 => sW (sC d) 21 Q 4 [vO 4 a0, vO 10 a1, vI x2, vN] (vI r :: []) M1 G1 0 0))) : sW (sC d) 21 Q 0 [vO 4 a0, vO 10 a1, vI x2, vN] [] M G 0 0 := by
  refine q_aload_n 1 rfl (show sCode 21 0 = some (.aload_n 0, 1) by decide +kernel) rfl (Nat.le_of_ble_eq_true rfl) ?_
  exact q_virtI [] 4 rfl (show sCode 21 1 = some (.invokevirtual 46, 3) by decide +kernel) (show sMR (sKo 21).1 46 = some 22 by decide +kernel) (show 22 < 1000 ∧ sStat 22 = false ∧ sIni 22 = false ∧ sKo 22 = (4, 0, 1, 0, 0) by decide +kernel) rfl (Or.inl rfl) rfl (Nat.le_of_ble_eq_true rfl) rfl rfl rfl (by decide +kernel) kk
theorem b21_4 {d : Nat} {Q : Option sV → sM → sG → Prop} {M : sM} {G : sG} {a0 : Nat} {a1 : Nat} {x2 : Int} {s0 : Int}  (kk : sC d 23 [vO 4 a0, vS 0] M G (QI (fun r M1 G1 => sW (sC d) 21 Q 11 [vO 4 a0, vO 10 a1, vI x2, vN] (vI r :: []) M1 G1 0 0))) : sW (sC d) 21 Q 4 [vO 4 a0, vO 10 a1, vI x2, vN] [vI s0] M G 0 0 := by
  refine q_pop 5 rfl (show sCode 21 4 = some (.pop, 1) by decide +kernel) rfl ?_
  refine q_aload_n 6 rfl (show sCode 21 5 = some (.aload_n 0, 1) by decide +kernel) rfl (Nat.le_of_ble_eq_true rfl) ?_
  refine q_ldcS 8 rfl (show sCode 21 6 = some (.ldc 75, 2) by decide +kernel) (show sSR (sKo 21).1 75 = some 0 by decide +kernel) ?_
  exact q_virtI [vS 0] 11 rfl (show sCode 21 8 = some (.invokevirtual 53, 3) by decide +kernel) (show sMR (sKo 21).1 53 = some 23 by decide +kernel) (show 23 < 1000 ∧ sStat 23 = false ∧ sIni 23 = false ∧ sKo 23 = (4, 1, 2, 0, 0) by decide +kernel) rfl (Or.inl rfl) rfl (Nat.le_of_ble_eq_true rfl) rfl rfl rfl (by decide +kernel) kk
theorem b21_11 {d : Nat} {Q : Option sV → sM → sG → Prop} {M : sM} {G : sG} {a0 : Nat} {a1 : Nat} {x2 : Int} {s0 : Int}  (k1 : s0 ≠ 0 → sW (sC d) 21 Q 33 [vO 4 a0, vO 10 a1, vI x2, vI s0] [] M G 0 0) (k2 : s0 = 0 → sW (sC d) 21 Q 16 [vO 4 a0, vO 10 a1, vI x2, vI s0] [] M G 0 0) : sW (sC d) 21 Q 11 [vO 4 a0, vO 10 a1, vI x2, vN] [vI s0] M G 0 0 := by
  refine q_istore_n [vO 4 a0, vO 10 a1, vI x2, vI s0] 12 rfl (show sCode 21 11 = some (.istore_n 3, 1) by decide +kernel) (Nat.lt_of_lt_of_le (Nat.lt_succ_self _) (Nat.le_of_ble_eq_true rfl)) rfl rfl ?_
  refine q_iload_n 13 rfl (show sCode 21 12 = some (.iload_n 3, 1) by decide +kernel) rfl ?_
  refine q_ifne 33 16 rfl (by decide) (show sCode 21 13 = some (.ifCond .ne 20, 3) by decide +kernel) ?_ ?_
  · intro q; exact k1 q
  · intro q; exact k2 q
theorem b21_16 {d : Nat} {Q : Option sV → sM → sG → Prop} {M : sM} {G : sG} {a0 : Nat} {a1 : Nat} {x2 : Int} {x3 : Int}  (kk : sC d 23 [vO 4 a0, vS 1] M G (QI (fun r M1 G1 => sW (sC d) 21 Q 22 [vO 4 a0, vO 10 a1, vI x2, vI x3] (vI r :: []) M1 G1 0 0))) : sW (sC d) 21 Q 16 [vO 4 a0, vO 10 a1, vI x2, vI x3] [] M G 0 0 := by
  refine q_aload_n 17 rfl (show sCode 21 16 = some (.aload_n 0, 1) by decide +kernel) rfl (Nat.le_of_ble_eq_true rfl) ?_
  refine q_ldcS 19 rfl (show sCode 21 17 = some (.ldc 77, 2) by decide +kernel) (show sSR (sKo 21).1 77 = some 1 by decide +kernel) ?_
  exact q_virtI [vS 1] 22 rfl (show sCode 21 19 = some (.invokevirtual 53, 3) by decide +kernel) (show sMR (sKo 21).1 53 = some 23 by decide +kernel) (show 23 < 1000 ∧ sStat 23 = false ∧ sIni 23 = false ∧ sKo 23 = (4, 1, 2, 0, 0) by decide +kernel) rfl (Or.inl rfl) rfl (Nat.le_of_ble_eq_true rfl) rfl rfl rfl (by decide +kernel) kk
theorem b21_22 {d : Nat} {Q : Option sV → sM → sG → Prop} {M : sM} {G : sG} {a0 : Nat} {a1 : Nat} {x2 : Int} {x3 : Int} {s0 : Int}  (k1 : s0 ≠ 0 → sW (sC d) 21 Q 33 [vO 4 a0, vO 10 a1, vI x2, vI x3] [] M G 0 0) (k2 : s0 = 0 → sW (sC d) 21 Q 25 [vO 4 a0, vN, vN, vN] [] M G 0 0) : sW (sC d) 21 Q 22 [vO 4 a0, vO 10 a1, vI x2, vI x3] [vI s0] M G 0 0 := by
  refine q_ifne 33 25 rfl (by decide) (show sCode 21 22 = some (.ifCond .ne 11, 3) by decide +kernel) ?_ ?_
  · intro q; exact k1 q
  · intro q; refine q_forget (L' := [vO 4 a0, vN, vI x2, vI x3]) 1 rfl ?_; refine q_forget (L' := [vO 4 a0, vN, vN, vI x3]) 2 rfl ?_; refine q_forget (L' := [vO 4 a0, vN, vN, vN]) 3 rfl ?_; exact k2 q
theorem b21_25 {d : Nat} {Q : Option sV → sM → sG → Prop} {M : sM} {G : sG} {a0 : Nat}  (kk : sC d 24 [vO 4 a0, vI 0] M G (QV (fun M1 G1 => sW (sC d) 21 Q 30 [vN, vN, vN, vN] [] M1 G1 0 0))) : sW (sC d) 21 Q 25 [vO 4 a0, vN, vN, vN] [] M G 0 0 := by
  refine q_aload_n 26 rfl (show sCode 21 25 = some (.aload_n 0, 1) by decide +kernel) rfl (Nat.le_of_ble_eq_true rfl) ?_
  refine q_iconst 27 rfl (show sCode 21 26 = some (.iconst 0, 1) by decide +kernel) ⟨by decide, by decide⟩ ?_
  refine q_forget (L' := [vN, vN, vN, vN]) 0 rfl ?_
  exact q_virtV [vI 0] 30 rfl (show sCode 21 27 = some (.invokevirtual 60, 3) by decide +kernel) (show sMR (sKo 21).1 60 = some 24 by decide +kernel) (show 24 < 1000 ∧ sStat 24 = false ∧ sIni 24 = false ∧ sKo 24 = (4, 1, 0, 0, 0) by decide +kernel) rfl (Or.inl rfl) rfl (Nat.le_of_ble_eq_true rfl) rfl rfl rfl (by decide +kernel) kk
theorem b21_30 {d : Nat} {Q : Option sV → sM → sG → Prop} {M : sM} {G : sG}   (kk : sW (sC d) 21 Q 97 [vN, vN, vN, vN] [] M G 0 0) : sW (sC d) 21 Q 30 [vN, vN, vN, vN] [] M G 0 0 := by
  refine q_goto 97 (by decide) (show sCode 21 30 = some (.goto 67, 3) by decide +kernel) ?_
  exact kk
theorem b21_33 {d : Nat} {Q : Option sV → sM → sG → Prop} {M : sM} {G : sG} {a0 : Nat} {a1 : Nat} {x2 : Int} {x3 : Int}  (k1 : x2 = 0 → sW (sC d) 21 Q 62 [vO 4 a0, vN, vN, vN] [] M G 0 0) (k2 : x2 ≠ 0 → sW (sC d) 21 Q 37 [vO 4 a0, vO 10 a1, vN, vI x3] [] M G 0 0) : sW (sC d) 21 Q 33 [vO 4 a0, vO 10 a1, vI x2, vI x3] [] M G 0 0 := by
  refine q_iload_n 34 rfl (show sCode 21 33 = some (.iload_n 2, 1) by decide +kernel) rfl ?_
  refine q_ifeq 62 37 rfl (by decide) (show sCode 21 34 = some (.ifCond .eq 28, 3) by decide +kernel) ?_ ?_
  · intro q; refine q_forget (L' := [vO 4 a0, vN, vI x2, vI x3]) 1 rfl ?_; refine q_forget (L' := [vO 4 a0, vN, vN, vI x3]) 2 rfl ?_; refine q_forget (L' := [vO 4 a0, vN, vN, vN]) 3 rfl ?_; exact k1 q
  · intro q; refine q_forget (L' := [vO 4 a0, vO 10 a1, vN, vI x3]) 2 rfl ?_; exact k2 q
theorem b21_37 {d : Nat} {Q : Option sV → sM → sG → Prop} {M : sM} {G : sG} {a0 : Nat} {a1 : Nat} {x3 : Int}  (k1 : x3 = 0 → sW (sC d) 21 Q 53 [vO 4 a0, vO 10 a1, vN, vI x3] [] M G 0 0) (k2 : x3 ≠ 0 → sW (sC d) 21 Q 41 [vO 4 a0, vO 10 a1, vN, vI x3] [] M G 0 0) : sW (sC d) 21 Q 37 [vO 4 a0, vO 10 a1, vN, vI x3] [] M G 0 0 := by
  refine q_iload_n 38 rfl (show sCode 21 37 = some (.iload_n 3, 1) by decide +kernel) rfl ?_
  refine q_ifeq 53 41 rfl (by decide) (show sCode 21 38 = some (.ifCond .eq 15, 3) by decide +kernel) ?_ ?_
  · intro q; exact k1 q
  · intro q; exact k2 q
theorem b21_41 {d : Nat} {Q : Option sV → sM → sG → Prop} {M : sM} {G : sG} {a0 : Nat} {a1 : Nat} {x3 : Int}  (k1 : M a1 0 < 6 → sW (sC d) 21 Q 70 [vO 4 a0, vO 10 a1, vN, vI x3] [] M G 0 0) (k2 : 6 ≤ M a1 0 → sW (sC d) 21 Q 50 [vO 4 a0, vN, vN, vN] [] M G 0 0) : sW (sC d) 21 Q 41 [vO 4 a0, vO 10 a1, vN, vI x3] [] M G 0 0 := by
  refine q_aload_n 42 rfl (show sCode 21 41 = some (.aload_n 1, 1) by decide +kernel) rfl (Nat.le_of_ble_eq_true rfl) ?_
  refine q_getI 45 rfl (show sCode 21 42 = some (.getfield 79, 3) by decide +kernel) (show sFR (sKo 21).1 79 = some (10, 0) by decide +kernel) (by decide +kernel) (Or.inl (Or.inl rfl)) ?_
  refine q_bipush 47 rfl (show sCode 21 45 = some (.bipush 6, 2) by decide +kernel) ⟨by decide, by decide⟩ (by decide +kernel) ?_
  refine q_icmplt 70 50 rfl (by decide) (show sCode 21 47 = some (.if_icmp .lt 23, 3) by decide +kernel) ?_ ?_
  · intro q; exact k1 q
  · intro q; refine q_forget (L' := [vO 4 a0, vN, vN, vI x3]) 1 rfl ?_; refine q_forget (L' := [vO 4 a0, vN, vN, vN]) 3 rfl ?_; exact k2 q
theorem b21_50 {d : Nat} {Q : Option sV → sM → sG → Prop} {M : sM} {G : sG} {a0 : Nat}  (kk : sW (sC d) 21 Q 62 [vO 4 a0, vN, vN, vN] [] M G 0 0) : sW (sC d) 21 Q 50 [vO 4 a0, vN, vN, vN] [] M G 0 0 := by
  refine q_goto 62 (by decide) (show sCode 21 50 = some (.goto 12, 3) by decide +kernel) ?_
  exact kk
theorem b21_53 {d : Nat} {Q : Option sV → sM → sG → Prop} {M : sM} {G : sG} {a0 : Nat} {a1 : Nat} {x3 : Int}  (k1 : M a1 6 < 18 → sW (sC d) 21 Q 70 [vO 4 a0, vO 10 a1, vN, vI x3] [] M G 0 0) (k2 : 18 ≤ M a1 6 → sW (sC d) 21 Q 62 [vO 4 a0, vN, vN, vN] [] M G 0 0) : sW (sC d) 21 Q 53 [vO 4 a0, vO 10 a1, vN, vI x3] [] M G 0 0 := by
  refine q_aload_n 54 rfl (show sCode 21 53 = some (.aload_n 1, 1) by decide +kernel) rfl (Nat.le_of_ble_eq_true rfl) ?_
  refine q_getI 57 rfl (show sCode 21 54 = some (.getfield 82, 3) by decide +kernel) (show sFR (sKo 21).1 82 = some (10, 6) by decide +kernel) (by decide +kernel) (Or.inl (Or.inl rfl)) ?_
  refine q_bipush 59 rfl (show sCode 21 57 = some (.bipush 18, 2) by decide +kernel) ⟨by decide, by decide⟩ (by decide +kernel) ?_
  refine q_icmplt 70 62 rfl (by decide) (show sCode 21 59 = some (.if_icmp .lt 11, 3) by decide +kernel) ?_ ?_
  · intro q; exact k1 q
  · intro q; refine q_forget (L' := [vO 4 a0, vN, vN, vI x3]) 1 rfl ?_; refine q_forget (L' := [vO 4 a0, vN, vN, vN]) 3 rfl ?_; exact k2 q
theorem b21_62 {d : Nat} {Q : Option sV → sM → sG → Prop} {M : sM} {G : sG} {a0 : Nat}  (kk : sC d 24 [vO 4 a0, vI 4] M G (QV (fun M1 G1 => sW (sC d) 21 Q 67 [vN, vN, vN, vN] [] M1 G1 0 0))) : sW (sC d) 21 Q 62 [vO 4 a0, vN, vN, vN] [] M G 0 0 := by
  refine q_aload_n 63 rfl (show sCode 21 62 = some (.aload_n 0, 1) by decide +kernel) rfl (Nat.le_of_ble_eq_true rfl) ?_
  refine q_iconst 64 rfl (show sCode 21 63 = some (.iconst 4, 1) by decide +kernel) ⟨by decide, by decide⟩ ?_
  refine q_forget (L' := [vN, vN, vN, vN]) 0 rfl ?_
  exact q_virtV [vI 4] 67 rfl (show sCode 21 64 = some (.invokevirtual 60, 3) by decide +kernel) (show sMR (sKo 21).1 60 = some 24 by decide +kernel) (show 24 < 1000 ∧ sStat 24 = false ∧ sIni 24 = false ∧ sKo 24 = (4, 1, 0, 0, 0) by decide +kernel) rfl (Or.inl rfl) rfl (Nat.le_of_ble_eq_true rfl) rfl rfl rfl (by decide +kernel) kk
theorem b21_67 {d : Nat} {Q : Option sV → sM → sG → Prop} {M : sM} {G : sG}   (kk : sW (sC d) 21 Q 97 [vN, vN, vN, vN] [] M G 0 0) : sW (sC d) 21 Q 67 [vN, vN, vN, vN] [] M G 0 0 := by
  refine q_goto 97 (by decide) (show sCode 21 67 = some (.goto 30, 3) by decide +kernel) ?_
  exact kk
theorem b21_70 {d : Nat} {Q : Option sV → sM → sG → Prop} {M : sM} {G : sG} {a0 : Nat} {a1 : Nat} {x3 : Int}  (k1 : x3 = 0 → sW (sC d) 21 Q 87 [vO 4 a0, vO 10 a1, vN, vN] [] M G 0 0) (k2 : x3 ≠ 0 → sW (sC d) 21 Q 74 [vO 4 a0, vO 10 a1, vN, vN] [] M G 0 0) : sW (sC d) 21 Q 70 [vO 4 a0, vO 10 a1, vN, vI x3] [] M G 0 0 := by
  refine q_iload_n 71 rfl (show sCode 21 70 = some (.iload_n 3, 1) by decide +kernel) rfl ?_
  refine q_ifeq 87 74 rfl (by decide) (show sCode 21 71 = some (.ifCond .eq 16, 3) by decide +kernel) ?_ ?_
  · intro q; refine q_forget (L' := [vO 4 a0, vO 10 a1, vN, vN]) 3 rfl ?_; exact k1 q
  · intro q; refine q_forget (L' := [vO 4 a0, vO 10 a1, vN, vN]) 3 rfl ?_; exact k2 q
theorem b21_74 {d : Nat} {Q : Option sV → sM → sG → Prop} {M : sM} {G : sG} {a0 : Nat} {a1 : Nat}  (kk : sC d 26 [vO 4 a0, vI 5] M G (QV (fun M1 G1 => sW (sC d) 21 Q 79 [vO 4 a0, vO 10 a1, vN, vN] [] M1 G1 0 0))) : sW (sC d) 21 Q 74 [vO 4 a0, vO 10 a1, vN, vN] [] M G 0 0 := by
  refine q_aload_n 75 rfl (show sCode 21 74 = some (.aload_n 0, 1) by decide +kernel) rfl (Nat.le_of_ble_eq_true rfl) ?_
  refine q_iconst 76 rfl (show sCode 21 75 = some (.iconst 5, 1) by decide +kernel) ⟨by decide, by decide⟩ ?_
  exact q_virtV [vI 5] 79 rfl (show sCode 21 76 = some (.invokevirtual 42, 3) by decide +kernel) (show sMR (sKo 21).1 42 = some 26 by decide +kernel) (show 26 < 1000 ∧ sStat 26 = false ∧ sIni 26 = false ∧ sKo 26 = (4, 1, 0, 0, 0) by decide +kernel) rfl (Or.inl rfl) rfl (Nat.le_of_ble_eq_true rfl) rfl rfl rfl (by decide +kernel) kk
theorem b21_79 {d : Nat} {Q : Option sV → sM → sG → Prop} {M : sM} {G : sG} {a0 : Nat} {a1 : Nat}  (kk : sC d 27 [vO 4 a0, vO 10 a1] M G (QV (fun M1 G1 => sW (sC d) 21 Q 84 [vN, vN, vN, vN] [] M1 G1 0 0))) : sW (sC d) 21 Q 79 [vO 4 a0, vO 10 a1, vN, vN] [] M G 0 0 := by
  refine q_aload_n 80 rfl (show sCode 21 79 = some (.aload_n 0, 1) by decide +kernel) rfl (Nat.le_of_ble_eq_true rfl) ?_
  refine q_aload_n 81 rfl (show sCode 21 80 = some (.aload_n 1, 1) by decide +kernel) rfl (Nat.le_of_ble_eq_true rfl) ?_
  refine q_forget (L' := [vN, vO 10 a1, vN, vN]) 0 rfl ?_
  refine q_forget (L' := [vN, vN, vN, vN]) 1 rfl ?_
  exact q_virtV [vO 10 a1] 84 rfl (show sCode 21 81 = some (.invokevirtual 85, 3) by decide +kernel) (show sMR (sKo 21).1 85 = some 27 by decide +kernel) (show 27 < 1000 ∧ sStat 27 = false ∧ sIni 27 = false ∧ sKo 27 = (4, 1, 0, 0, 0) by decide +kernel) rfl (Or.inl rfl) rfl (Nat.le_of_ble_eq_true rfl) rfl rfl rfl (by decide +kernel) kk
theorem b21_84 {d : Nat} {Q : Option sV → sM → sG → Prop} {M : sM} {G : sG}   (kk : sW (sC d) 21 Q 97 [vN, vN, vN, vN] [] M G 0 0) : sW (sC d) 21 Q 84 [vN, vN, vN, vN] [] M G 0 0 := by
  refine q_goto 97 (by decide) (show sCode 21 84 = some (.goto 13, 3) by decide +kernel) ?_
  exact kk
theorem b21_87 {d : Nat} {Q : Option sV → sM → sG → Prop} {M : sM} {G : sG} {a0 : Nat} {a1 : Nat}  (kk : sC d 26 [vO 4 a0, vI 4] M G (QV (fun M1 G1 => sW (sC d) 21 Q 92 [vO 4 a0, vO 10 a1, vN, vN] [] M1 G1 0 0))) : sW (sC d) 21 Q 87 [vO 4 a0, vO 10 a1, vN, vN] [] M G 0 0 := by
  refine q_aload_n 88 rfl (show sCode 21 87 = some (.aload_n 0, 1) by decide +kernel) rfl (Nat.le_of_ble_eq_true rfl) ?_
  refine q_iconst 89 rfl (show sCode 21 88 = some (.iconst 4, 1) by decide +kernel) ⟨by decide, by decide⟩ ?_
  exact q_virtV [vI 4] 92 rfl (show sCode 21 89 = some (.invokevirtual 42, 3) by decide +kernel) (show sMR (sKo 21).1 42 = some 26 by decide +kernel) (show 26 < 1000 ∧ sStat 26 = false ∧ sIni 26 = false ∧ sKo 26 = (4, 1, 0, 0, 0) by decide +kernel) rfl (Or.inl rfl) rfl (Nat.le_of_ble_eq_true rfl) rfl rfl rfl (by decide +kernel) kk
theorem b21_92 {d : Nat} {Q : Option sV → sM → sG → Prop} {M : sM} {G : sG} {a0 : Nat} {a1 : Nat}  (kk : sC d 32 [vO 4 a0, vO 10 a1] M G (QV (fun M1 G1 => sW (sC d) 21 Q 97 [vN, vN, vN, vN] [] M1 G1 0 0))) : sW (sC d) 21 Q 92 [vO 4 a0, vO 10 a1, vN, vN] [] M G 0 0 := by
  refine q_aload_n 93 rfl (show sCode 21 92 = some (.aload_n 0, 1) by decide +kernel) rfl (Nat.le_of_ble_eq_true rfl) ?_
  refine q_aload_n 94 rfl (show sCode 21 93 = some (.aload_n 1, 1) by decide +kernel) rfl (Nat.le_of_ble_eq_true rfl) ?_
  refine q_forget (L' := [vN, vO 10 a1, vN, vN]) 0 rfl ?_
  refine q_forget (L' := [vN, vN, vN, vN]) 1 rfl ?_
  exact q_virtV [vO 10 a1] 97 rfl (show sCode 21 94 = some (.invokevirtual 89, 3) by decide +kernel) (show sMR (sKo 21).1 89 = some 32 by decide +kernel) (show 32 < 1000 ∧ sStat 32 = false ∧ sIni 32 = false ∧ sKo 32 = (4, 1, 0, 0, 0) by decide +kernel) rfl (Or.inl rfl) rfl (Nat.le_of_ble_eq_true rfl) rfl rfl rfl (by decide +kernel) kk
theorem b21_97 {d : Nat} {P : sM → sG → Prop} {M : sM} {G : sG}   (kk : P M G) : sW (sC d) 21 (QV P) 97 [vN, vN, vN, vN] [] M G 0 0 := by
  exact q_vret (show sCode 21 97 = some (.return_, 1) by decide +kernel) (by decide +kernel) (by decide +kernel) kk
-- 22 AfterTheLast$Reader.next ()I
theorem b22_0 {d : Nat} {Q : Option sV → sM → sG → Prop} {M : sM} {G : sG} {a0 : Nat}  (k1 : M a0 1 ≤ M a0 2 → sW (sC d) 22 Q 38 [vO 4 a0] [] M G 0 0) (k2 : M a0 2 < M a0 1 → sW (sC d) 22 Q 11 [vO 4 a0] [] M G 0 0) : sW (sC d) 22 Q 0 [vO 4 a0] [] M G 0 0 := by
  refine q_aload_n 1 rfl (show sCode 22 0 = some (.aload_n 0, 1) by decide +kernel) rfl (Nat.le_of_ble_eq_true rfl) ?_
  refine q_getI 4 rfl (show sCode 22 1 = some (.getfield 19, 3) by decide +kernel) (show sFR (sKo 22).1 19 = some (4, 2) by decide +kernel) (by decide +kernel) (Or.inl (Or.inl rfl)) ?_
  refine q_aload_n 5 rfl (show sCode 22 4 = some (.aload_n 0, 1) by decide +kernel) rfl (Nat.le_of_ble_eq_true rfl) ?_
  refine q_getI 8 rfl (show sCode 22 5 = some (.getfield 15, 3) by decide +kernel) (show sFR (sKo 22).1 15 = some (4, 1) by decide +kernel) (by decide +kernel) (Or.inl (Or.inl rfl)) ?_
  refine q_icmpge 38 11 rfl (by decide) (show sCode 22 8 = some (.if_icmp .ge 30, 3) by decide +kernel) ?_ ?_
  · intro q; exact k1 q
  · intro q; exact k2 q
theorem b22_11 {d : Nat} {Q : Option sV → sM → sG → Prop} {M : sM} {G : sG} {a0 : Nat} (h1 : 0 ≤ M a0 2 ∧ M a0 2 < 400) (k1 : M (a0 + 1) (M a0 2).toNat ≠ 32 → sW (sC d) 22 Q 38 [vO 4 a0] [] M G 0 0) (k2 : M (a0 + 1) (M a0 2).toNat = 32 → sW (sC d) 22 Q 25 [vO 4 a0] [] M G 0 0) : sW (sC d) 22 Q 11 [vO 4 a0] [] M G 0 0 := by
  refine q_aload_n 12 rfl (show sCode 22 11 = some (.aload_n 0, 1) by decide +kernel) rfl (Nat.le_of_ble_eq_true rfl) ?_
  refine q_getR (vA 0 (a0 + 1) 400) 15 rfl (show sCode 22 12 = some (.getfield 11, 3) by decide +kernel) (show sFR (sKo 22).1 11 = some (4, 0) by decide +kernel) (by decide +kernel) (Or.inl (Or.inl rfl)) rfl ?_
  refine q_aload_n 16 rfl (show sCode 22 15 = some (.aload_n 0, 1) by decide +kernel) rfl (Nat.le_of_ble_eq_true rfl) ?_
  refine q_getI 19 rfl (show sCode 22 16 = some (.getfield 19, 3) by decide +kernel) (show sFR (sKo 22).1 19 = some (4, 2) by decide +kernel) (by decide +kernel) (Or.inl (Or.inl rfl)) ?_
  refine q_iald 20 rfl (show sCode 22 19 = some (.iaload, 1) by decide +kernel) h1 ?_
  refine q_bipush 22 rfl (show sCode 22 20 = some (.bipush 32, 2) by decide +kernel) ⟨by decide, by decide⟩ (by decide +kernel) ?_
  refine q_icmpne 38 25 rfl (by decide) (show sCode 22 22 = some (.if_icmp .ne 16, 3) by decide +kernel) ?_ ?_
  · intro q; exact k1 q
  · intro q; exact k2 q
theorem b22_25 {d : Nat} {Q : Option sV → sM → sG → Prop} {M : sM} {G : sG} {a0 : Nat} (h1 : sI ((M a0 2) + 1)) (kk : sW (sC d) 22 Q 0 [vO 4 a0] [] (sUpd M a0 2 ((M a0 2) + 1)) G 0 0) : sW (sC d) 22 Q 25 [vO 4 a0] [] M G 0 0 := by
  refine q_aload_n 26 rfl (show sCode 22 25 = some (.aload_n 0, 1) by decide +kernel) rfl (Nat.le_of_ble_eq_true rfl) ?_
  refine q_dup 27 rfl (show sCode 22 26 = some (.dup, 1) by decide +kernel) rfl ?_
  refine q_getI 30 rfl (show sCode 22 27 = some (.getfield 19, 3) by decide +kernel) (show sFR (sKo 22).1 19 = some (4, 2) by decide +kernel) (by decide +kernel) (Or.inl (Or.inl rfl)) ?_
  refine q_iconst 31 rfl (show sCode 22 30 = some (.iconst 1, 1) by decide +kernel) ⟨by decide, by decide⟩ ?_
  refine q_iadd 32 rfl (show sCode 22 31 = some (.iadd, 1) by decide +kernel) h1 ?_
  refine q_putI 35 rfl (show sCode 22 32 = some (.putfield 19, 3) by decide +kernel) (show sFR (sKo 22).1 19 = some (4, 2) by decide +kernel) (by decide +kernel) (Or.inl ⟨Or.inl rfl, by decide +kernel⟩) ?_
  refine q_goto 0 (by decide) (show sCode 22 35 = some (.goto (-35), 3) by decide +kernel) ?_
  exact kk
theorem b22_38 {d : Nat} {Q : Option sV → sM → sG → Prop} {M : sM} {G : sG} {a0 : Nat}  (k1 : M a0 1 ≤ M a0 2 → sW (sC d) 22 Q 61 [vN] [] M G 0 0) (k2 : M a0 2 < M a0 1 → sW (sC d) 22 Q 49 [vO 4 a0] [] M G 0 0) : sW (sC d) 22 Q 38 [vO 4 a0] [] M G 0 0 := by
  refine q_aload_n 39 rfl (show sCode 22 38 = some (.aload_n 0, 1) by decide +kernel) rfl (Nat.le_of_ble_eq_true rfl) ?_
  refine q_getI 42 rfl (show sCode 22 39 = some (.getfield 19, 3) by decide +kernel) (show sFR (sKo 22).1 19 = some (4, 2) by decide +kernel) (by decide +kernel) (Or.inl (Or.inl rfl)) ?_
  refine q_aload_n 43 rfl (show sCode 22 42 = some (.aload_n 0, 1) by decide +kernel) rfl (Nat.le_of_ble_eq_true rfl) ?_
  refine q_getI 46 rfl (show sCode 22 43 = some (.getfield 15, 3) by decide +kernel) (show sFR (sKo 22).1 15 = some (4, 1) by decide +kernel) (by decide +kernel) (Or.inl (Or.inl rfl)) ?_
  refine q_icmpge 61 49 rfl (by decide) (show sCode 22 46 = some (.if_icmp .ge 15, 3) by decide +kernel) ?_ ?_
  · intro q; refine q_forget (L' := [vN]) 0 rfl ?_; exact k1 q
  · intro q; exact k2 q
theorem b22_49 {d : Nat} {Q : Option sV → sM → sG → Prop} {M : sM} {G : sG} {a0 : Nat} (h1 : 0 ≤ M a0 2 ∧ M a0 2 < 400) (kk : sW (sC d) 22 Q 62 [vN] [vI (M (a0 + 1) (M a0 2).toNat)] M G 0 0) : sW (sC d) 22 Q 49 [vO 4 a0] [] M G 0 0 := by
  refine q_aload_n 50 rfl (show sCode 22 49 = some (.aload_n 0, 1) by decide +kernel) rfl (Nat.le_of_ble_eq_true rfl) ?_
  refine q_getR (vA 0 (a0 + 1) 400) 53 rfl (show sCode 22 50 = some (.getfield 11, 3) by decide +kernel) (show sFR (sKo 22).1 11 = some (4, 0) by decide +kernel) (by decide +kernel) (Or.inl (Or.inl rfl)) rfl ?_
  refine q_aload_n 54 rfl (show sCode 22 53 = some (.aload_n 0, 1) by decide +kernel) rfl (Nat.le_of_ble_eq_true rfl) ?_
  refine q_getI 57 rfl (show sCode 22 54 = some (.getfield 19, 3) by decide +kernel) (show sFR (sKo 22).1 19 = some (4, 2) by decide +kernel) (by decide +kernel) (Or.inl (Or.inl rfl)) ?_
  refine q_iald 58 rfl (show sCode 22 57 = some (.iaload, 1) by decide +kernel) h1 ?_
  refine q_goto 62 (by decide) (show sCode 22 58 = some (.goto 4, 3) by decide +kernel) ?_
  refine q_forget (L' := [vN]) 0 rfl ?_
  exact kk
theorem b22_61 {d : Nat} {Q : Option sV → sM → sG → Prop} {M : sM} {G : sG}   (kk : sW (sC d) 22 Q 62 [vN] [vI (-1)] M G 0 0) : sW (sC d) 22 Q 61 [vN] [] M G 0 0 := by
  refine q_iconst 62 rfl (show sCode 22 61 = some (.iconst (-1), 1) by decide +kernel) ⟨by decide, by decide⟩ ?_
  exact kk
theorem b22_62 {d : Nat} {P : Int → sM → sG → Prop} {M : sM} {G : sG} {s0 : Int}  (kk : P s0 M G) : sW (sC d) 22 (QI P) 62 [vN] [vI s0] M G 0 0 := by
  exact q_iret (show sCode 22 62 = some (.ireturn, 1) by decide +kernel) (by decide +kernel) (by decide +kernel) kk
-- 23 AfterTheLast$Reader.isAt (Ljava/lang/String;)Z
theorem b23_0 {d : Nat} {Q : Option sV → sM → sG → Prop} {M : sM} {G : sG} {a0 : Nat} {j1 : Nat} (h1 : j1 < 21) (h2 : sI ((M a0 2) + (sLen j1 : Int))) (k1 : (M a0 2) + (sLen j1 : Int) ≤ M a0 1 → sW (sC d) 23 Q 20 [vO 4 a0, vS j1, vI ((M a0 2) + (sLen j1 : Int)), vN] [] M G 0 0) (k2 : M a0 1 < (M a0 2) + (sLen j1 : Int) → sW (sC d) 23 Q 18 [vN, vN, vN, vN] [] M G 0 0) : sW (sC d) 23 Q 0 [vO 4 a0, vS j1, vN, vN] [] M G 0 0 := by
  refine q_aload_n 1 rfl (show sCode 23 0 = some (.aload_n 0, 1) by decide +kernel) rfl (Nat.le_of_ble_eq_true rfl) ?_
  refine q_getI 4 rfl (show sCode 23 1 = some (.getfield 19, 3) by decide +kernel) (show sFR (sKo 23).1 19 = some (4, 2) by decide +kernel) (by decide +kernel) (Or.inl (Or.inl rfl)) ?_
  refine q_aload_n 5 rfl (show sCode 23 4 = some (.aload_n 1, 1) by decide +kernel) rfl (Nat.le_of_ble_eq_true rfl) ?_
  refine q_slen 8 rfl (show sCode 23 5 = some (.invokevirtual 33, 3) by decide +kernel) (by decide +kernel) h1 (Nat.le_of_ble_eq_true rfl) ?_
  refine q_iadd 9 rfl (show sCode 23 8 = some (.iadd, 1) by decide +kernel) h2 ?_
  refine q_istore_n [vO 4 a0, vS j1, vI ((M a0 2) + (sLen j1 : Int)), vN] 10 rfl (show sCode 23 9 = some (.istore_n 2, 1) by decide +kernel) (Nat.lt_of_lt_of_le (Nat.lt_succ_self _) (Nat.le_of_ble_eq_true rfl)) rfl rfl ?_
  refine q_iload_n 11 rfl (show sCode 23 10 = some (.iload_n 2, 1) by decide +kernel) rfl ?_
  refine q_aload_n 12 rfl (show sCode 23 11 = some (.aload_n 0, 1) by decide +kernel) rfl (Nat.le_of_ble_eq_true rfl) ?_
  refine q_getI 15 rfl (show sCode 23 12 = some (.getfield 15, 3) by decide +kernel) (show sFR (sKo 23).1 15 = some (4, 1) by decide +kernel) (by decide +kernel) (Or.inl (Or.inl rfl)) ?_
  refine q_icmple 20 18 rfl (by decide) (show sCode 23 15 = some (.if_icmp .le 5, 3) by decide +kernel) ?_ ?_
  · intro q; exact k1 q
  · intro q; refine q_forget (L' := [vN, vS j1, vI ((M a0 2) + (sLen j1 : Int)), vN]) 0 rfl ?_; refine q_forget (L' := [vN, vN, vI ((M a0 2) + (sLen j1 : Int)), vN]) 1 rfl ?_; refine q_forget (L' := [vN, vN, vN, vN]) 2 rfl ?_; exact k2 q
theorem b23_18 {d : Nat} {P : Int → sM → sG → Prop} {M : sM} {G : sG}   (kk : P 0 M G) : sW (sC d) 23 (QI P) 18 [vN, vN, vN, vN] [] M G 0 0 := by
  refine q_iconst 19 rfl (show sCode 23 18 = some (.iconst 0, 1) by decide +kernel) ⟨by decide, by decide⟩ ?_
  exact q_zret (show sCode 23 19 = some (.ireturn, 1) by decide +kernel) (by decide +kernel) (by decide) (by decide +kernel) kk
theorem b23_20 {d : Nat} {Q : Option sV → sM → sG → Prop} {M : sM} {G : sG} {a0 : Nat} {j1 : Nat} {x2 : Int}  (kk : sW (sC d) 23 Q 22 [vO 4 a0, vS j1, vI x2, vI 0] [] M G 0 0) : sW (sC d) 23 Q 20 [vO 4 a0, vS j1, vI x2, vN] [] M G 0 0 := by
  refine q_iconst 21 rfl (show sCode 23 20 = some (.iconst 0, 1) by decide +kernel) ⟨by decide, by decide⟩ ?_
  refine q_istore_n [vO 4 a0, vS j1, vI x2, vI 0] 22 rfl (show sCode 23 21 = some (.istore_n 3, 1) by decide +kernel) (Nat.lt_of_lt_of_le (Nat.lt_succ_self _) (Nat.le_of_ble_eq_true rfl)) rfl rfl ?_
  exact kk
theorem b23_22 {d : Nat} {Q : Option sV → sM → sG → Prop} {M : sM} {G : sG} {a0 : Nat} {j1 : Nat} {x2 : Int} {x3 : Int} (h1 : j1 < 21) (k1 : (sLen j1 : Int) ≤ x3 → sW (sC d) 23 Q 57 [vO 4 a0, vN, vI x2, vN] [] M G 0 0) (k2 : x3 < (sLen j1 : Int) → sW (sC d) 23 Q 30 [vO 4 a0, vS j1, vI x2, vI x3] [] M G 0 0) : sW (sC d) 23 Q 22 [vO 4 a0, vS j1, vI x2, vI x3] [] M G 0 0 := by
  refine q_iload_n 23 rfl (show sCode 23 22 = some (.iload_n 3, 1) by decide +kernel) rfl ?_
  refine q_aload_n 24 rfl (show sCode 23 23 = some (.aload_n 1, 1) by decide +kernel) rfl (Nat.le_of_ble_eq_true rfl) ?_
  refine q_slen 27 rfl (show sCode 23 24 = some (.invokevirtual 33, 3) by decide +kernel) (by decide +kernel) h1 (Nat.le_of_ble_eq_true rfl) ?_
  refine q_icmpge 57 30 rfl (by decide) (show sCode 23 27 = some (.if_icmp .ge 30, 3) by decide +kernel) ?_ ?_
  · intro q; refine q_forget (L' := [vO 4 a0, vN, vI x2, vI x3]) 1 rfl ?_; refine q_forget (L' := [vO 4 a0, vN, vI x2, vN]) 3 rfl ?_; exact k1 q
  · intro q; exact k2 q
theorem b23_30 {d : Nat} {Q : Option sV → sM → sG → Prop} {M : sM} {G : sG} {a0 : Nat} {j1 : Nat} {x2 : Int} {x3 : Int} (h1 : sI ((M a0 2) + x3)) (h2 : 0 ≤ (M a0 2) + x3 ∧ (M a0 2) + x3 < 400) (h3 : j1 < 21) (h4 : 0 ≤ x3 ∧ x3 < (sLen j1 : Int)) (k1 : M (a0 + 1) ((M a0 2) + x3).toNat = sChr j1 x3.toNat → sW (sC d) 23 Q 51 [vO 4 a0, vS j1, vI x2, vI x3] [] M G 0 0) (k2 : M (a0 + 1) ((M a0 2) + x3).toNat ≠ sChr j1 x3.toNat → sW (sC d) 23 Q 49 [vN, vN, vN, vN] [] M G 0 0) : sW (sC d) 23 Q 30 [vO 4 a0, vS j1, vI x2, vI x3] [] M G 0 0 := by
  refine q_aload_n 31 rfl (show sCode 23 30 = some (.aload_n 0, 1) by decide +kernel) rfl (Nat.le_of_ble_eq_true rfl) ?_
  refine q_getR (vA 0 (a0 + 1) 400) 34 rfl (show sCode 23 31 = some (.getfield 11, 3) by decide +kernel) (show sFR (sKo 23).1 11 = some (4, 0) by decide +kernel) (by decide +kernel) (Or.inl (Or.inl rfl)) rfl ?_
  refine q_aload_n 35 rfl (show sCode 23 34 = some (.aload_n 0, 1) by decide +kernel) rfl (Nat.le_of_ble_eq_true rfl) ?_
  refine q_getI 38 rfl (show sCode 23 35 = some (.getfield 19, 3) by decide +kernel) (show sFR (sKo 23).1 19 = some (4, 2) by decide +kernel) (by decide +kernel) (Or.inl (Or.inl rfl)) ?_
  refine q_iload_n 39 rfl (show sCode 23 38 = some (.iload_n 3, 1) by decide +kernel) rfl ?_
  refine q_iadd 40 rfl (show sCode 23 39 = some (.iadd, 1) by decide +kernel) h1 ?_
  refine q_iald 41 rfl (show sCode 23 40 = some (.iaload, 1) by decide +kernel) h2 ?_
  refine q_aload_n 42 rfl (show sCode 23 41 = some (.aload_n 1, 1) by decide +kernel) rfl (Nat.le_of_ble_eq_true rfl) ?_
  refine q_iload_n 43 rfl (show sCode 23 42 = some (.iload_n 3, 1) by decide +kernel) rfl ?_
  refine q_chr 46 rfl (show sCode 23 43 = some (.invokevirtual 38, 3) by decide +kernel) (by decide +kernel) h3 h4 (Nat.le_of_ble_eq_true rfl) ?_
  refine q_icmpeq 51 49 rfl (by decide) (show sCode 23 46 = some (.if_icmp .eq 5, 3) by decide +kernel) ?_ ?_
  · intro q; exact k1 q
  · intro q; refine q_forget (L' := [vN, vS j1, vI x2, vI x3]) 0 rfl ?_; refine q_forget (L' := [vN, vN, vI x2, vI x3]) 1 rfl ?_; refine q_forget (L' := [vN, vN, vN, vI x3]) 2 rfl ?_; refine q_forget (L' := [vN, vN, vN, vN]) 3 rfl ?_; exact k2 q
theorem b23_49 {d : Nat} {P : Int → sM → sG → Prop} {M : sM} {G : sG}   (kk : P 0 M G) : sW (sC d) 23 (QI P) 49 [vN, vN, vN, vN] [] M G 0 0 := by
  refine q_iconst 50 rfl (show sCode 23 49 = some (.iconst 0, 1) by decide +kernel) ⟨by decide, by decide⟩ ?_
  exact q_zret (show sCode 23 50 = some (.ireturn, 1) by decide +kernel) (by decide +kernel) (by decide) (by decide +kernel) kk
theorem b23_51 {d : Nat} {Q : Option sV → sM → sG → Prop} {M : sM} {G : sG} {a0 : Nat} {j1 : Nat} {x2 : Int} {x3 : Int} (h1 : sI (x3 + 1)) (kk : sW (sC d) 23 Q 22 [vO 4 a0, vS j1, vI x2, vI (x3 + 1)] [] M G 0 0) : sW (sC d) 23 Q 51 [vO 4 a0, vS j1, vI x2, vI x3] [] M G 0 0 := by
  refine q_iinc [vO 4 a0, vS j1, vI x2, vI (x3 + 1)] 54 rfl (show sCode 23 51 = some (.iinc 3 1, 3) by decide +kernel) rfl rfl h1 rfl ?_
  refine q_goto 22 (by decide) (show sCode 23 54 = some (.goto (-32), 3) by decide +kernel) ?_
  exact kk
theorem b23_57 {d : Nat} {Q : Option sV → sM → sG → Prop} {M : sM} {G : sG} {a0 : Nat} {x2 : Int}  (k1 : x2 = M a0 1 → sW (sC d) 23 Q 87 [vN, vN, vN, vN] [] M G 0 0) (k2 : x2 ≠ M a0 1 → sW (sC d) 23 Q 65 [vO 4 a0, vN, vI x2, vN] [] M G 0 0) : sW (sC d) 23 Q 57 [vO 4 a0, vN, vI x2, vN] [] M G 0 0 := by
  refine q_iload_n 58 rfl (show sCode 23 57 = some (.iload_n 2, 1) by decide +kernel) rfl ?_
  refine q_aload_n 59 rfl (show sCode 23 58 = some (.aload_n 0, 1) by decide +kernel) rfl (Nat.le_of_ble_eq_true rfl) ?_
  refine q_getI 62 rfl (show sCode 23 59 = some (.getfield 15, 3) by decide +kernel) (show sFR (sKo 23).1 15 = some (4, 1) by decide +kernel) (by decide +kernel) (Or.inl (Or.inl rfl)) ?_
  refine q_icmpeq 87 65 rfl (by decide) (show sCode 23 62 = some (.if_icmp .eq 25, 3) by decide +kernel) ?_ ?_
  · intro q; refine q_forget (L' := [vN, vN, vI x2, vN]) 0 rfl ?_; refine q_forget (L' := [vN, vN, vN, vN]) 2 rfl ?_; exact k1 q
  · intro q; exact k2 q
theorem b23_65 {d : Nat} {Q : Option sV → sM → sG → Prop} {M : sM} {G : sG} {a0 : Nat} {x2 : Int} (h1 : 0 ≤ x2 ∧ x2 < 400) (k1 : M (a0 + 1) x2.toNat < 97 → sW (sC d) 23 Q 87 [vN, vN, vN, vN] [] M G 0 0) (k2 : 97 ≤ M (a0 + 1) x2.toNat → sW (sC d) 23 Q 76 [vO 4 a0, vN, vI x2, vN] [] M G 0 0) : sW (sC d) 23 Q 65 [vO 4 a0, vN, vI x2, vN] [] M G 0 0 := by
  refine q_aload_n 66 rfl (show sCode 23 65 = some (.aload_n 0, 1) by decide +kernel) rfl (Nat.le_of_ble_eq_true rfl) ?_
  refine q_getR (vA 0 (a0 + 1) 400) 69 rfl (show sCode 23 66 = some (.getfield 11, 3) by decide +kernel) (show sFR (sKo 23).1 11 = some (4, 0) by decide +kernel) (by decide +kernel) (Or.inl (Or.inl rfl)) rfl ?_
  refine q_iload_n 70 rfl (show sCode 23 69 = some (.iload_n 2, 1) by decide +kernel) rfl ?_
  refine q_iald 71 rfl (show sCode 23 70 = some (.iaload, 1) by decide +kernel) h1 ?_
  refine q_bipush 73 rfl (show sCode 23 71 = some (.bipush 97, 2) by decide +kernel) ⟨by decide, by decide⟩ (by decide +kernel) ?_
  refine q_icmplt 87 76 rfl (by decide) (show sCode 23 73 = some (.if_icmp .lt 14, 3) by decide +kernel) ?_ ?_
  · intro q; refine q_forget (L' := [vN, vN, vI x2, vN]) 0 rfl ?_; refine q_forget (L' := [vN, vN, vN, vN]) 2 rfl ?_; exact k1 q
  · intro q; exact k2 q
theorem b23_76 {d : Nat} {Q : Option sV → sM → sG → Prop} {M : sM} {G : sG} {a0 : Nat} {x2 : Int} (h1 : 0 ≤ x2 ∧ x2 < 400) (k1 : M (a0 + 1) x2.toNat ≤ 122 → sW (sC d) 23 Q 91 [vN, vN, vN, vN] [] M G 0 0) (k2 : 122 < M (a0 + 1) x2.toNat → sW (sC d) 23 Q 87 [vN, vN, vN, vN] [] M G 0 0) : sW (sC d) 23 Q 76 [vO 4 a0, vN, vI x2, vN] [] M G 0 0 := by
  refine q_aload_n 77 rfl (show sCode 23 76 = some (.aload_n 0, 1) by decide +kernel) rfl (Nat.le_of_ble_eq_true rfl) ?_
  refine q_getR (vA 0 (a0 + 1) 400) 80 rfl (show sCode 23 77 = some (.getfield 11, 3) by decide +kernel) (show sFR (sKo 23).1 11 = some (4, 0) by decide +kernel) (by decide +kernel) (Or.inl (Or.inl rfl)) rfl ?_
  refine q_iload_n 81 rfl (show sCode 23 80 = some (.iload_n 2, 1) by decide +kernel) rfl ?_
  refine q_iald 82 rfl (show sCode 23 81 = some (.iaload, 1) by decide +kernel) h1 ?_
  refine q_bipush 84 rfl (show sCode 23 82 = some (.bipush 122, 2) by decide +kernel) ⟨by decide, by decide⟩ (by decide +kernel) ?_
  refine q_icmple 91 87 rfl (by decide) (show sCode 23 84 = some (.if_icmp .le 7, 3) by decide +kernel) ?_ ?_
  · intro q; refine q_forget (L' := [vN, vN, vI x2, vN]) 0 rfl ?_; refine q_forget (L' := [vN, vN, vN, vN]) 2 rfl ?_; exact k1 q
  · intro q; refine q_forget (L' := [vN, vN, vI x2, vN]) 0 rfl ?_; refine q_forget (L' := [vN, vN, vN, vN]) 2 rfl ?_; exact k2 q
theorem b23_87 {d : Nat} {Q : Option sV → sM → sG → Prop} {M : sM} {G : sG}   (kk : sW (sC d) 23 Q 92 [vN, vN, vN, vN] [vI 1] M G 0 0) : sW (sC d) 23 Q 87 [vN, vN, vN, vN] [] M G 0 0 := by
  refine q_iconst 88 rfl (show sCode 23 87 = some (.iconst 1, 1) by decide +kernel) ⟨by decide, by decide⟩ ?_
  refine q_goto 92 (by decide) (show sCode 23 88 = some (.goto 4, 3) by decide +kernel) ?_
  exact kk
theorem b23_91 {d : Nat} {Q : Option sV → sM → sG → Prop} {M : sM} {G : sG}   (kk : sW (sC d) 23 Q 92 [vN, vN, vN, vN] [vI 0] M G 0 0) : sW (sC d) 23 Q 91 [vN, vN, vN, vN] [] M G 0 0 := by
  refine q_iconst 92 rfl (show sCode 23 91 = some (.iconst 0, 1) by decide +kernel) ⟨by decide, by decide⟩ ?_
  exact kk
theorem b23_92 {d : Nat} {P : Int → sM → sG → Prop} {M : sM} {G : sG} {s0 : Int}  (h01 : s0 = 0 ∨ s0 = 1) (kk : P s0 M G) : sW (sC d) 23 (QI P) 92 [vN, vN, vN, vN] [vI s0] M G 0 0 := by
  exact q_zret (show sCode 23 92 = some (.ireturn, 1) by decide +kernel) (by decide +kernel) h01 (by decide +kernel) kk
-- 24 AfterTheLast$Reader.fail (I)V
theorem b24_0 {d : Nat} {Q : Option sV → sM → sG → Prop} {M : sM} {G : sG} {a0 : Nat} {x1 : Int}  (kk : sC d 25 [vO 4 a0, vI (M a0 2), vI x1] M G (QV (fun M1 G1 => sW (sC d) 24 Q 9 [vN, vN] [] M1 G1 0 0))) : sW (sC d) 24 Q 0 [vO 4 a0, vI x1] [] M G 0 0 := by
  refine q_aload_n 1 rfl (show sCode 24 0 = some (.aload_n 0, 1) by decide +kernel) rfl (Nat.le_of_ble_eq_true rfl) ?_
  refine q_aload_n 2 rfl (show sCode 24 1 = some (.aload_n 0, 1) by decide +kernel) rfl (Nat.le_of_ble_eq_true rfl) ?_
  refine q_getI 5 rfl (show sCode 24 2 = some (.getfield 19, 3) by decide +kernel) (show sFR (sKo 24).1 19 = some (4, 2) by decide +kernel) (by decide +kernel) (Or.inl (Or.inl rfl)) ?_
  refine q_iload_n 6 rfl (show sCode 24 5 = some (.iload_n 1, 1) by decide +kernel) rfl ?_
  refine q_forget (L' := [vN, vI x1]) 0 rfl ?_
  refine q_forget (L' := [vN, vN]) 1 rfl ?_
  exact q_virtV [vI (M a0 2), vI x1] 9 rfl (show sCode 24 6 = some (.invokevirtual 29, 3) by decide +kernel) (show sMR (sKo 24).1 29 = some 25 by decide +kernel) (show 25 < 1000 ∧ sStat 25 = false ∧ sIni 25 = false ∧ sKo 25 = (4, 2, 0, 0, 0) by decide +kernel) rfl (Or.inl rfl) rfl (Nat.le_of_ble_eq_true rfl) rfl rfl rfl (by decide +kernel) kk
theorem b24_9 {d : Nat} {P : sM → sG → Prop} {M : sM} {G : sG}   (kk : P M G) : sW (sC d) 24 (QV P) 9 [vN, vN] [] M G 0 0 := by
  exact q_vret (show sCode 24 9 = some (.return_, 1) by decide +kernel) (by decide +kernel) (by decide +kernel) kk
-- 25 AfterTheLast$Reader.failAt (II)V
theorem b25_0 {d : Nat} {Q : Option sV → sM → sG → Prop} {M : sM} {G : sG} {a0 : Nat} {x1 : Int} {x2 : Int}  (k1 : M a0 3 ≠ 0 → sW (sC d) 25 Q 19 [vN, vN, vN] [] M G 0 0) (k2 : M a0 3 = 0 → sW (sC d) 25 Q 7 [vO 4 a0, vI x1, vI x2] [] M G 0 0) : sW (sC d) 25 Q 0 [vO 4 a0, vI x1, vI x2] [] M G 0 0 := by
  refine q_aload_n 1 rfl (show sCode 25 0 = some (.aload_n 0, 1) by decide +kernel) rfl (Nat.le_of_ble_eq_true rfl) ?_
  refine q_getI 4 rfl (show sCode 25 1 = some (.getfield 22, 3) by decide +kernel) (show sFR (sKo 25).1 22 = some (4, 3) by decide +kernel) (by decide +kernel) (Or.inl (Or.inl rfl)) ?_
  refine q_ifne 19 7 rfl (by decide) (show sCode 25 4 = some (.ifCond .ne 15, 3) by decide +kernel) ?_ ?_
  · intro q; refine q_forget (L' := [vN, vI x1, vI x2]) 0 rfl ?_; refine q_forget (L' := [vN, vN, vI x2]) 1 rfl ?_; refine q_forget (L' := [vN, vN, vN]) 2 rfl ?_; exact k1 q
  · intro q; exact k2 q
theorem b25_7 {d : Nat} {Q : Option sV → sM → sG → Prop} {M : sM} {G : sG} {a0 : Nat} {x1 : Int} {x2 : Int} (h1 : sI (8 * x1)) (h2 : sI (1 + (8 * x1))) (h3 : sI ((1 + (8 * x1)) + x2)) (kk : sW (sC d) 25 Q 19 [vN, vN, vN] [] (sUpd M a0 3 ((1 + (8 * x1)) + x2)) G 0 0) : sW (sC d) 25 Q 7 [vO 4 a0, vI x1, vI x2] [] M G 0 0 := by
  refine q_aload_n 8 rfl (show sCode 25 7 = some (.aload_n 0, 1) by decide +kernel) rfl (Nat.le_of_ble_eq_true rfl) ?_
  refine q_iconst 9 rfl (show sCode 25 8 = some (.iconst 1, 1) by decide +kernel) ⟨by decide, by decide⟩ ?_
  refine q_bipush 11 rfl (show sCode 25 9 = some (.bipush 8, 2) by decide +kernel) ⟨by decide, by decide⟩ (by decide +kernel) ?_
  refine q_iload_n 12 rfl (show sCode 25 11 = some (.iload_n 1, 1) by decide +kernel) rfl ?_
  refine q_imul 13 rfl (show sCode 25 12 = some (.imul, 1) by decide +kernel) h1 ?_
  refine q_iadd 14 rfl (show sCode 25 13 = some (.iadd, 1) by decide +kernel) h2 ?_
  refine q_iload_n 15 rfl (show sCode 25 14 = some (.iload_n 2, 1) by decide +kernel) rfl ?_
  refine q_iadd 16 rfl (show sCode 25 15 = some (.iadd, 1) by decide +kernel) h3 ?_
  refine q_putI 19 rfl (show sCode 25 16 = some (.putfield 22, 3) by decide +kernel) (show sFR (sKo 25).1 22 = some (4, 3) by decide +kernel) (by decide +kernel) (Or.inl ⟨Or.inl rfl, by decide +kernel⟩) ?_
  refine q_forget (L' := [vN, vI x1, vI x2]) 0 rfl ?_
  refine q_forget (L' := [vN, vN, vI x2]) 1 rfl ?_
  refine q_forget (L' := [vN, vN, vN]) 2 rfl ?_
  exact kk
theorem b25_19 {d : Nat} {P : sM → sG → Prop} {M : sM} {G : sG}   (kk : P M G) : sW (sC d) 25 (QV P) 19 [vN, vN, vN] [] M G 0 0 := by
  exact q_vret (show sCode 25 19 = some (.return_, 1) by decide +kernel) (by decide +kernel) (by decide +kernel) kk
-- 26 AfterTheLast$Reader.skip (I)V
theorem b26_0 {d : Nat} {P : sM → sG → Prop} {M : sM} {G : sG} {a0 : Nat} {x1 : Int} (h1 : sI ((M a0 2) + x1)) (kk : P (sUpd M a0 2 ((M a0 2) + x1)) G) : sW (sC d) 26 (QV P) 0 [vO 4 a0, vI x1] [] M G 0 0 := by
  refine q_aload_n 1 rfl (show sCode 26 0 = some (.aload_n 0, 1) by decide +kernel) rfl (Nat.le_of_ble_eq_true rfl) ?_
  refine q_dup 2 rfl (show sCode 26 1 = some (.dup, 1) by decide +kernel) rfl ?_
  refine q_getI 5 rfl (show sCode 26 2 = some (.getfield 19, 3) by decide +kernel) (show sFR (sKo 26).1 19 = some (4, 2) by decide +kernel) (by decide +kernel) (Or.inl (Or.inl rfl)) ?_
  refine q_iload_n 6 rfl (show sCode 26 5 = some (.iload_n 1, 1) by decide +kernel) rfl ?_
  refine q_iadd 7 rfl (show sCode 26 6 = some (.iadd, 1) by decide +kernel) h1 ?_
  refine q_putI 10 rfl (show sCode 26 7 = some (.putfield 19, 3) by decide +kernel) (show sFR (sKo 26).1 19 = some (4, 2) by decide +kernel) (by decide +kernel) (Or.inl ⟨Or.inl rfl, by decide +kernel⟩) ?_
  exact q_vret (show sCode 26 10 = some (.return_, 1) by decide +kernel) (by decide +kernel) (by decide +kernel) kk
-- 27 AfterTheLast$Reader.readHouse (LAfterTheLast$Town;)V
theorem b27_0 {d : Nat} {Q : Option sV → sM → sG → Prop} {M : sM} {G : sG} {a0 : Nat} {a1 : Nat}  (kk : sC d 28 [vO 4 a0, vS 2] M G (QI (fun r M1 G1 => sW (sC d) 27 Q 8 [vO 4 a0, vO 10 a1, vI 2, vN, vN] (vI r :: []) M1 G1 0 0))) : sW (sC d) 27 Q 0 [vO 4 a0, vO 10 a1, vN, vN, vN] [] M G 0 0 := by
  refine q_iconst 1 rfl (show sCode 27 0 = some (.iconst 2, 1) by decide +kernel) ⟨by decide, by decide⟩ ?_
  refine q_istore_n [vO 4 a0, vO 10 a1, vI 2, vN, vN] 2 rfl (show sCode 27 1 = some (.istore_n 2, 1) by decide +kernel) (Nat.lt_of_lt_of_le (Nat.lt_succ_self _) (Nat.le_of_ble_eq_true rfl)) rfl rfl ?_
  refine q_aload_n 3 rfl (show sCode 27 2 = some (.aload_n 0, 1) by decide +kernel) rfl (Nat.le_of_ble_eq_true rfl) ?_
  refine q_ldcS 5 rfl (show sCode 27 3 = some (.ldc 92, 2) by decide +kernel) (show sSR (sKo 27).1 92 = some 2 by decide +kernel) ?_
  exact q_virtI [vS 2] 8 rfl (show sCode 27 5 = some (.invokevirtual 94, 3) by decide +kernel) (show sMR (sKo 27).1 94 = some 28 by decide +kernel) (show 28 < 1000 ∧ sStat 28 = false ∧ sIni 28 = false ∧ sKo 28 = (4, 1, 2, 0, 0) by decide +kernel) rfl (Or.inl rfl) rfl (Nat.le_of_ble_eq_true rfl) rfl rfl rfl (by decide +kernel) kk
theorem b27_8 {d : Nat} {Q : Option sV → sM → sG → Prop} {M : sM} {G : sG} {a0 : Nat} {a1 : Nat} {x2 : Int} {s0 : Int}  (k1 : s0 = 0 → sW (sC d) 27 Q 16 [vO 4 a0, vO 10 a1, vI x2, vN, vN] [] M G 0 0) (k2 : s0 ≠ 0 → sW (sC d) 27 Q 11 [vO 4 a0, vO 10 a1, vN, vN, vN] [] M G 0 0) : sW (sC d) 27 Q 8 [vO 4 a0, vO 10 a1, vI x2, vN, vN] [vI s0] M G 0 0 := by
  refine q_ifeq 16 11 rfl (by decide) (show sCode 27 8 = some (.ifCond .eq 8, 3) by decide +kernel) ?_ ?_
  · intro q; exact k1 q
  · intro q; refine q_forget (L' := [vO 4 a0, vO 10 a1, vN, vN, vN]) 2 rfl ?_; exact k2 q
theorem b27_11 {d : Nat} {Q : Option sV → sM → sG → Prop} {M : sM} {G : sG} {a0 : Nat} {a1 : Nat}  (kk : sW (sC d) 27 Q 44 [vO 4 a0, vO 10 a1, vI 0, vN, vN] [] M G 0 0) : sW (sC d) 27 Q 11 [vO 4 a0, vO 10 a1, vN, vN, vN] [] M G 0 0 := by
  refine q_iconst 12 rfl (show sCode 27 11 = some (.iconst 0, 1) by decide +kernel) ⟨by decide, by decide⟩ ?_
  refine q_istore_n [vO 4 a0, vO 10 a1, vI 0, vN, vN] 13 rfl (show sCode 27 12 = some (.istore_n 2, 1) by decide +kernel) (Nat.lt_of_lt_of_le (Nat.lt_succ_self _) (Nat.le_of_ble_eq_true rfl)) rfl rfl ?_
  refine q_goto 44 (by decide) (show sCode 27 13 = some (.goto 31, 3) by decide +kernel) ?_
  exact kk
theorem b27_16 {d : Nat} {Q : Option sV → sM → sG → Prop} {M : sM} {G : sG} {a0 : Nat} {a1 : Nat} {x2 : Int}  (kk : sC d 28 [vO 4 a0, vS 3] M G (QI (fun r M1 G1 => sW (sC d) 27 Q 22 [vO 4 a0, vO 10 a1, vI x2, vN, vN] (vI r :: []) M1 G1 0 0))) : sW (sC d) 27 Q 16 [vO 4 a0, vO 10 a1, vI x2, vN, vN] [] M G 0 0 := by
  refine q_aload_n 17 rfl (show sCode 27 16 = some (.aload_n 0, 1) by decide +kernel) rfl (Nat.le_of_ble_eq_true rfl) ?_
  refine q_ldcS 19 rfl (show sCode 27 17 = some (.ldc 97, 2) by decide +kernel) (show sSR (sKo 27).1 97 = some 3 by decide +kernel) ?_
  exact q_virtI [vS 3] 22 rfl (show sCode 27 19 = some (.invokevirtual 94, 3) by decide +kernel) (show sMR (sKo 27).1 94 = some 28 by decide +kernel) (show 28 < 1000 ∧ sStat 28 = false ∧ sIni 28 = false ∧ sKo 28 = (4, 1, 2, 0, 0) by decide +kernel) rfl (Or.inl rfl) rfl (Nat.le_of_ble_eq_true rfl) rfl rfl rfl (by decide +kernel) kk
theorem b27_22 {d : Nat} {Q : Option sV → sM → sG → Prop} {M : sM} {G : sG} {a0 : Nat} {a1 : Nat} {x2 : Int} {s0 : Int}  (k1 : s0 = 0 → sW (sC d) 27 Q 30 [vO 4 a0, vO 10 a1, vI x2, vN, vN] [] M G 0 0) (k2 : s0 ≠ 0 → sW (sC d) 27 Q 25 [vO 4 a0, vO 10 a1, vN, vN, vN] [] M G 0 0) : sW (sC d) 27 Q 22 [vO 4 a0, vO 10 a1, vI x2, vN, vN] [vI s0] M G 0 0 := by
  refine q_ifeq 30 25 rfl (by decide) (show sCode 27 22 = some (.ifCond .eq 8, 3) by decide +kernel) ?_ ?_
  · intro q; exact k1 q
  · intro q; refine q_forget (L' := [vO 4 a0, vO 10 a1, vN, vN, vN]) 2 rfl ?_; exact k2 q
theorem b27_25 {d : Nat} {Q : Option sV → sM → sG → Prop} {M : sM} {G : sG} {a0 : Nat} {a1 : Nat}  (kk : sW (sC d) 27 Q 44 [vO 4 a0, vO 10 a1, vI 1, vN, vN] [] M G 0 0) : sW (sC d) 27 Q 25 [vO 4 a0, vO 10 a1, vN, vN, vN] [] M G 0 0 := by
  refine q_iconst 26 rfl (show sCode 27 25 = some (.iconst 1, 1) by decide +kernel) ⟨by decide, by decide⟩ ?_
  refine q_istore_n [vO 4 a0, vO 10 a1, vI 1, vN, vN] 27 rfl (show sCode 27 26 = some (.istore_n 2, 1) by decide +kernel) (Nat.lt_of_lt_of_le (Nat.lt_succ_self _) (Nat.le_of_ble_eq_true rfl)) rfl rfl ?_
  refine q_goto 44 (by decide) (show sCode 27 27 = some (.goto 17, 3) by decide +kernel) ?_
  exact kk
theorem b27_30 {d : Nat} {Q : Option sV → sM → sG → Prop} {M : sM} {G : sG} {a0 : Nat} {a1 : Nat} {x2 : Int}  (kk : sC d 28 [vO 4 a0, vS 4] M G (QI (fun r M1 G1 => sW (sC d) 27 Q 36 [vO 4 a0, vO 10 a1, vI x2, vN, vN] (vI r :: []) M1 G1 0 0))) : sW (sC d) 27 Q 30 [vO 4 a0, vO 10 a1, vI x2, vN, vN] [] M G 0 0 := by
  refine q_aload_n 31 rfl (show sCode 27 30 = some (.aload_n 0, 1) by decide +kernel) rfl (Nat.le_of_ble_eq_true rfl) ?_
  refine q_ldcS 33 rfl (show sCode 27 31 = some (.ldc 99, 2) by decide +kernel) (show sSR (sKo 27).1 99 = some 4 by decide +kernel) ?_
  exact q_virtI [vS 4] 36 rfl (show sCode 27 33 = some (.invokevirtual 94, 3) by decide +kernel) (show sMR (sKo 27).1 94 = some 28 by decide +kernel) (show 28 < 1000 ∧ sStat 28 = false ∧ sIni 28 = false ∧ sKo 28 = (4, 1, 2, 0, 0) by decide +kernel) rfl (Or.inl rfl) rfl (Nat.le_of_ble_eq_true rfl) rfl rfl rfl (by decide +kernel) kk
theorem b27_36 {d : Nat} {Q : Option sV → sM → sG → Prop} {M : sM} {G : sG} {a0 : Nat} {a1 : Nat} {x2 : Int} {s0 : Int}  (k1 : s0 ≠ 0 → sW (sC d) 27 Q 44 [vO 4 a0, vO 10 a1, vI x2, vN, vN] [] M G 0 0) (k2 : s0 = 0 → sW (sC d) 27 Q 39 [vO 4 a0, vO 10 a1, vI x2, vN, vN] [] M G 0 0) : sW (sC d) 27 Q 36 [vO 4 a0, vO 10 a1, vI x2, vN, vN] [vI s0] M G 0 0 := by
  refine q_ifne 44 39 rfl (by decide) (show sCode 27 36 = some (.ifCond .ne 8, 3) by decide +kernel) ?_ ?_
  · intro q; exact k1 q
  · intro q; exact k2 q
theorem b27_39 {d : Nat} {Q : Option sV → sM → sG → Prop} {M : sM} {G : sG} {a0 : Nat} {a1 : Nat} {x2 : Int}  (kk : sC d 24 [vO 4 a0, vI 0] M G (QV (fun M1 G1 => sW (sC d) 27 Q 44 [vO 4 a0, vO 10 a1, vI x2, vN, vN] [] M1 G1 0 0))) : sW (sC d) 27 Q 39 [vO 4 a0, vO 10 a1, vI x2, vN, vN] [] M G 0 0 := by
  refine q_aload_n 40 rfl (show sCode 27 39 = some (.aload_n 0, 1) by decide +kernel) rfl (Nat.le_of_ble_eq_true rfl) ?_
  refine q_iconst 41 rfl (show sCode 27 40 = some (.iconst 0, 1) by decide +kernel) ⟨by decide, by decide⟩ ?_
  exact q_virtV [vI 0] 44 rfl (show sCode 27 41 = some (.invokevirtual 60, 3) by decide +kernel) (show sMR (sKo 27).1 60 = some 24 by decide +kernel) (show 24 < 1000 ∧ sStat 24 = false ∧ sIni 24 = false ∧ sKo 24 = (4, 1, 0, 0, 0) by decide +kernel) rfl (Or.inl rfl) rfl (Nat.le_of_ble_eq_true rfl) rfl rfl rfl (by decide +kernel) kk
theorem b27_44 {d : Nat} {Q : Option sV → sM → sG → Prop} {M : sM} {G : sG} {a0 : Nat} {a1 : Nat} {x2 : Int}  (kk : sC d 29 [vO 4 a0, vI 1, vI 12] M G (QI (fun r M1 G1 => sW (sC d) 27 Q 51 [vO 4 a0, vO 10 a1, vI x2, vN, vN] (vI r :: []) M1 G1 0 0))) : sW (sC d) 27 Q 44 [vO 4 a0, vO 10 a1, vI x2, vN, vN] [] M G 0 0 := by
  refine q_aload_n 45 rfl (show sCode 27 44 = some (.aload_n 0, 1) by decide +kernel) rfl (Nat.le_of_ble_eq_true rfl) ?_
  refine q_iconst 46 rfl (show sCode 27 45 = some (.iconst 1, 1) by decide +kernel) ⟨by decide, by decide⟩ ?_
  refine q_bipush 48 rfl (show sCode 27 46 = some (.bipush 12, 2) by decide +kernel) ⟨by decide, by decide⟩ (by decide +kernel) ?_
  exact q_virtI [vI 1, vI 12] 51 rfl (show sCode 27 48 = some (.invokevirtual 101, 3) by decide +kernel) (show sMR (sKo 27).1 101 = some 29 by decide +kernel) (show 29 < 1000 ∧ sStat 29 = false ∧ sIni 29 = false ∧ sKo 29 = (4, 2, 1, 0, 0) by decide +kernel) rfl (Or.inl rfl) rfl (Nat.le_of_ble_eq_true rfl) rfl rfl rfl (by decide +kernel) kk
theorem b27_51 {d : Nat} {Q : Option sV → sM → sG → Prop} {M : sM} {G : sG} {a0 : Nat} {a1 : Nat} {x2 : Int} {s0 : Int}  (kk : sC d 29 [vO 4 a0, vI 0, vI 9] M G (QI (fun r M1 G1 => sW (sC d) 27 Q 59 [vO 4 a0, vO 10 a1, vI x2, vI s0, vN] (vI r :: []) M1 G1 0 0))) : sW (sC d) 27 Q 51 [vO 4 a0, vO 10 a1, vI x2, vN, vN] [vI s0] M G 0 0 := by
  refine q_istore_n [vO 4 a0, vO 10 a1, vI x2, vI s0, vN] 52 rfl (show sCode 27 51 = some (.istore_n 3, 1) by decide +kernel) (Nat.lt_of_lt_of_le (Nat.lt_succ_self _) (Nat.le_of_ble_eq_true rfl)) rfl rfl ?_
  refine q_aload_n 53 rfl (show sCode 27 52 = some (.aload_n 0, 1) by decide +kernel) rfl (Nat.le_of_ble_eq_true rfl) ?_
  refine q_iconst 54 rfl (show sCode 27 53 = some (.iconst 0, 1) by decide +kernel) ⟨by decide, by decide⟩ ?_
  refine q_bipush 56 rfl (show sCode 27 54 = some (.bipush 9, 2) by decide +kernel) ⟨by decide, by decide⟩ (by decide +kernel) ?_
  exact q_virtI [vI 0, vI 9] 59 rfl (show sCode 27 56 = some (.invokevirtual 101, 3) by decide +kernel) (show sMR (sKo 27).1 101 = some 29 by decide +kernel) (show 29 < 1000 ∧ sStat 29 = false ∧ sIni 29 = false ∧ sKo 29 = (4, 2, 1, 0, 0) by decide +kernel) rfl (Or.inl rfl) rfl (Nat.le_of_ble_eq_true rfl) rfl rfl rfl (by decide +kernel) kk
theorem b27_59 {d : Nat} {Q : Option sV → sM → sG → Prop} {M : sM} {G : sG} {a0 : Nat} {a1 : Nat} {x2 : Int} {x3 : Int} {s0 : Int}  (kk : sC d 20 [vO 4 a0] M G (QI (fun r M1 G1 => sW (sC d) 27 Q 65 [vN, vO 10 a1, vI x2, vI x3, vI s0] (vI r :: []) M1 G1 0 0))) : sW (sC d) 27 Q 59 [vO 4 a0, vO 10 a1, vI x2, vI x3, vN] [vI s0] M G 0 0 := by
  refine q_istore [vO 4 a0, vO 10 a1, vI x2, vI x3, vI s0] 61 rfl (show sCode 27 59 = some (.istore 4, 2) by decide +kernel) (Nat.lt_of_lt_of_le (Nat.lt_succ_self _) (Nat.le_of_ble_eq_true rfl)) rfl rfl ?_
  refine q_aload_n 62 rfl (show sCode 27 61 = some (.aload_n 0, 1) by decide +kernel) rfl (Nat.le_of_ble_eq_true rfl) ?_
  refine q_forget (L' := [vN, vO 10 a1, vI x2, vI x3, vI s0]) 0 rfl ?_
  exact q_virtI [] 65 rfl (show sCode 27 62 = some (.invokevirtual 49, 3) by decide +kernel) (show sMR (sKo 27).1 49 = some 20 by decide +kernel) (show 20 < 1000 ∧ sStat 20 = false ∧ sIni 20 = false ∧ sKo 20 = (4, 0, 2, 0, 0) by decide +kernel) rfl (Or.inl rfl) rfl (Nat.le_of_ble_eq_true rfl) rfl rfl rfl (by decide +kernel) kk
theorem b27_65 {d : Nat} {Q : Option sV → sM → sG → Prop} {M : sM} {G : sG} {a1 : Nat} {x2 : Int} {x3 : Int} {x4 : Int} {s0 : Int}  (k1 : s0 = 0 → sW (sC d) 27 Q 76 [vN, vN, vN, vN, vN] [] M G 0 0) (k2 : s0 ≠ 0 → sW (sC d) 27 Q 68 [vN, vO 10 a1, vI x2, vI x3, vI x4] [] M G 0 0) : sW (sC d) 27 Q 65 [vN, vO 10 a1, vI x2, vI x3, vI x4] [vI s0] M G 0 0 := by
  refine q_ifeq 76 68 rfl (by decide) (show sCode 27 65 = some (.ifCond .eq 11, 3) by decide +kernel) ?_ ?_
  · intro q; refine q_forget (L' := [vN, vN, vI x2, vI x3, vI x4]) 1 rfl ?_; refine q_forget (L' := [vN, vN, vN, vI x3, vI x4]) 2 rfl ?_; refine q_forget (L' := [vN, vN, vN, vN, vI x4]) 3 rfl ?_; refine q_forget (L' := [vN, vN, vN, vN, vN]) 4 rfl ?_; exact k1 q
  · intro q; exact k2 q
theorem b27_68 {d : Nat} {Q : Option sV → sM → sG → Prop} {M : sM} {G : sG} {a1 : Nat} {x2 : Int} {x3 : Int} {x4 : Int}  (kk : sC d 31 [vO 10 a1, vI x2, vI x3, vI x4] M G (QV (fun M1 G1 => sW (sC d) 27 Q 76 [vN, vN, vN, vN, vN] [] M1 G1 0 0))) : sW (sC d) 27 Q 68 [vN, vO 10 a1, vI x2, vI x3, vI x4] [] M G 0 0 := by
  refine q_aload_n 69 rfl (show sCode 27 68 = some (.aload_n 1, 1) by decide +kernel) rfl (Nat.le_of_ble_eq_true rfl) ?_
  refine q_iload_n 70 rfl (show sCode 27 69 = some (.iload_n 2, 1) by decide +kernel) rfl ?_
  refine q_iload_n 71 rfl (show sCode 27 70 = some (.iload_n 3, 1) by decide +kernel) rfl ?_
  refine q_iload 73 rfl (show sCode 27 71 = some (.iload 4, 2) by decide +kernel) rfl ?_
  refine q_forget (L' := [vN, vN, vI x2, vI x3, vI x4]) 1 rfl ?_
  refine q_forget (L' := [vN, vN, vN, vI x3, vI x4]) 2 rfl ?_
  refine q_forget (L' := [vN, vN, vN, vN, vI x4]) 3 rfl ?_
  refine q_forget (L' := [vN, vN, vN, vN, vN]) 4 rfl ?_
  exact q_virtV [vI x2, vI x3, vI x4] 76 rfl (show sCode 27 73 = some (.invokevirtual 105, 3) by decide +kernel) (show sMR (sKo 27).1 105 = some 31 by decide +kernel) (show 31 < 1000 ∧ sStat 31 = false ∧ sIni 31 = false ∧ sKo 31 = (10, 3, 0, 0, 0) by decide +kernel) rfl (Or.inl rfl) rfl (Nat.le_of_ble_eq_true rfl) rfl rfl rfl (by decide +kernel) kk
theorem b27_76 {d : Nat} {P : sM → sG → Prop} {M : sM} {G : sG}   (kk : P M G) : sW (sC d) 27 (QV P) 76 [vN, vN, vN, vN, vN] [] M G 0 0 := by
  exact q_vret (show sCode 27 76 = some (.return_, 1) by decide +kernel) (by decide +kernel) (by decide +kernel) kk
-- 28 AfterTheLast$Reader.take (Ljava/lang/String;)Z
theorem b28_0 {d : Nat} {Q : Option sV → sM → sG → Prop} {M : sM} {G : sG} {a0 : Nat} {j1 : Nat}  (kk : sC d 22 [vO 4 a0] M G (QI (fun r M1 G1 => sW (sC d) 28 Q 4 [vO 4 a0, vS j1] (vI r :: []) M1 G1 0 0))) : sW (sC d) 28 Q 0 [vO 4 a0, vS j1] [] M G 0 0 := by
  refine q_aload_n 1 rfl (show sCode 28 0 = some (.aload_n 0, 1) by decide +kernel) rfl (Nat.le_of_ble_eq_true rfl) ?_
  exact q_virtI [] 4 rfl (show sCode 28 1 = some (.invokevirtual 46, 3) by decide +kernel) (show sMR (sKo 28).1 46 = some 22 by decide +kernel) (show 22 < 1000 ∧ sStat 22 = false ∧ sIni 22 = false ∧ sKo 22 = (4, 0, 1, 0, 0) by decide +kernel) rfl (Or.inl rfl) rfl (Nat.le_of_ble_eq_true rfl) rfl rfl rfl (by decide +kernel) kk
theorem b28_4 {d : Nat} {Q : Option sV → sM → sG → Prop} {M : sM} {G : sG} {a0 : Nat} {j1 : Nat} {s0 : Int}  (kk : sC d 20 [vO 4 a0] M G (QI (fun r M1 G1 => sW (sC d) 28 Q 9 [vO 4 a0, vS j1] (vI r :: []) M1 G1 0 0))) : sW (sC d) 28 Q 4 [vO 4 a0, vS j1] [vI s0] M G 0 0 := by
  refine q_pop 5 rfl (show sCode 28 4 = some (.pop, 1) by decide +kernel) rfl ?_
  refine q_aload_n 6 rfl (show sCode 28 5 = some (.aload_n 0, 1) by decide +kernel) rfl (Nat.le_of_ble_eq_true rfl) ?_
  exact q_virtI [] 9 rfl (show sCode 28 6 = some (.invokevirtual 49, 3) by decide +kernel) (show sMR (sKo 28).1 49 = some 20 by decide +kernel) (show 20 < 1000 ∧ sStat 20 = false ∧ sIni 20 = false ∧ sKo 20 = (4, 0, 2, 0, 0) by decide +kernel) rfl (Or.inl rfl) rfl (Nat.le_of_ble_eq_true rfl) rfl rfl rfl (by decide +kernel) kk
theorem b28_9 {d : Nat} {Q : Option sV → sM → sG → Prop} {M : sM} {G : sG} {a0 : Nat} {j1 : Nat} {s0 : Int}  (k1 : s0 = 0 → sW (sC d) 28 Q 20 [vN, vN] [] M G 0 0) (k2 : s0 ≠ 0 → sW (sC d) 28 Q 12 [vO 4 a0, vS j1] [] M G 0 0) : sW (sC d) 28 Q 9 [vO 4 a0, vS j1] [vI s0] M G 0 0 := by
  refine q_ifeq 20 12 rfl (by decide) (show sCode 28 9 = some (.ifCond .eq 11, 3) by decide +kernel) ?_ ?_
  · intro q; refine q_forget (L' := [vN, vS j1]) 0 rfl ?_; refine q_forget (L' := [vN, vN]) 1 rfl ?_; exact k1 q
  · intro q; exact k2 q
theorem b28_12 {d : Nat} {Q : Option sV → sM → sG → Prop} {M : sM} {G : sG} {a0 : Nat} {j1 : Nat}  (kk : sC d 23 [vO 4 a0, vS j1] M G (QI (fun r M1 G1 => sW (sC d) 28 Q 17 [vO 4 a0, vS j1] (vI r :: []) M1 G1 0 0))) : sW (sC d) 28 Q 12 [vO 4 a0, vS j1] [] M G 0 0 := by
  refine q_aload_n 13 rfl (show sCode 28 12 = some (.aload_n 0, 1) by decide +kernel) rfl (Nat.le_of_ble_eq_true rfl) ?_
  refine q_aload_n 14 rfl (show sCode 28 13 = some (.aload_n 1, 1) by decide +kernel) rfl (Nat.le_of_ble_eq_true rfl) ?_
  exact q_virtI [vS j1] 17 rfl (show sCode 28 14 = some (.invokevirtual 53, 3) by decide +kernel) (show sMR (sKo 28).1 53 = some 23 by decide +kernel) (show 23 < 1000 ∧ sStat 23 = false ∧ sIni 23 = false ∧ sKo 23 = (4, 1, 2, 0, 0) by decide +kernel) rfl (Or.inl rfl) rfl (Nat.le_of_ble_eq_true rfl) rfl rfl rfl (by decide +kernel) kk
theorem b28_17 {d : Nat} {Q : Option sV → sM → sG → Prop} {M : sM} {G : sG} {a0 : Nat} {j1 : Nat} {s0 : Int}  (k1 : s0 ≠ 0 → sW (sC d) 28 Q 22 [vO 4 a0, vS j1] [] M G 0 0) (k2 : s0 = 0 → sW (sC d) 28 Q 20 [vN, vN] [] M G 0 0) : sW (sC d) 28 Q 17 [vO 4 a0, vS j1] [vI s0] M G 0 0 := by
  refine q_ifne 22 20 rfl (by decide) (show sCode 28 17 = some (.ifCond .ne 5, 3) by decide +kernel) ?_ ?_
  · intro q; exact k1 q
  · intro q; refine q_forget (L' := [vN, vS j1]) 0 rfl ?_; refine q_forget (L' := [vN, vN]) 1 rfl ?_; exact k2 q
theorem b28_20 {d : Nat} {P : Int → sM → sG → Prop} {M : sM} {G : sG}   (kk : P 0 M G) : sW (sC d) 28 (QI P) 20 [vN, vN] [] M G 0 0 := by
  refine q_iconst 21 rfl (show sCode 28 20 = some (.iconst 0, 1) by decide +kernel) ⟨by decide, by decide⟩ ?_
  exact q_zret (show sCode 28 21 = some (.ireturn, 1) by decide +kernel) (by decide +kernel) (by decide) (by decide +kernel) kk
theorem b28_22 {d : Nat} {Q : Option sV → sM → sG → Prop} {M : sM} {G : sG} {a0 : Nat} {j1 : Nat} (h1 : j1 < 21) (kk : sC d 26 [vO 4 a0, vI (sLen j1 : Int)] M G (QV (fun M1 G1 => sW (sC d) 28 Q 30 [vN, vN] [] M1 G1 0 0))) : sW (sC d) 28 Q 22 [vO 4 a0, vS j1] [] M G 0 0 := by
  refine q_aload_n 23 rfl (show sCode 28 22 = some (.aload_n 0, 1) by decide +kernel) rfl (Nat.le_of_ble_eq_true rfl) ?_
  refine q_aload_n 24 rfl (show sCode 28 23 = some (.aload_n 1, 1) by decide +kernel) rfl (Nat.le_of_ble_eq_true rfl) ?_
  refine q_slen 27 rfl (show sCode 28 24 = some (.invokevirtual 33, 3) by decide +kernel) (by decide +kernel) h1 (Nat.le_of_ble_eq_true rfl) ?_
  refine q_forget (L' := [vN, vS j1]) 0 rfl ?_
  refine q_forget (L' := [vN, vN]) 1 rfl ?_
  exact q_virtV [vI (sLen j1 : Int)] 30 rfl (show sCode 28 27 = some (.invokevirtual 42, 3) by decide +kernel) (show sMR (sKo 28).1 42 = some 26 by decide +kernel) (show 26 < 1000 ∧ sStat 26 = false ∧ sIni 26 = false ∧ sKo 26 = (4, 1, 0, 0, 0) by decide +kernel) rfl (Or.inl rfl) rfl (Nat.le_of_ble_eq_true rfl) rfl rfl rfl (by decide +kernel) kk
theorem b28_30 {d : Nat} {P : Int → sM → sG → Prop} {M : sM} {G : sG}   (kk : P 1 M G) : sW (sC d) 28 (QI P) 30 [vN, vN] [] M G 0 0 := by
  refine q_iconst 31 rfl (show sCode 28 30 = some (.iconst 1, 1) by decide +kernel) ⟨by decide, by decide⟩ ?_
  exact q_zret (show sCode 28 31 = some (.ireturn, 1) by decide +kernel) (by decide +kernel) (by decide) (by decide +kernel) kk
-- 29 AfterTheLast$Reader.number (II)I
theorem b29_0 {d : Nat} {Q : Option sV → sM → sG → Prop} {M : sM} {G : sG} {a0 : Nat} {x1 : Int} {x2 : Int}  (kk : sC d 20 [vO 4 a0] M G (QI (fun r M1 G1 => sW (sC d) 29 Q 4 [vO 4 a0, vI x1, vI x2, vN, vN] (vI r :: []) M1 G1 0 0))) : sW (sC d) 29 Q 0 [vO 4 a0, vI x1, vI x2, vN, vN] [] M G 0 0 := by
  refine q_aload_n 1 rfl (show sCode 29 0 = some (.aload_n 0, 1) by decide +kernel) rfl (Nat.le_of_ble_eq_true rfl) ?_
  exact q_virtI [] 4 rfl (show sCode 29 1 = some (.invokevirtual 49, 3) by decide +kernel) (show sMR (sKo 29).1 49 = some 20 by decide +kernel) (show 20 < 1000 ∧ sStat 20 = false ∧ sIni 20 = false ∧ sKo 20 = (4, 0, 2, 0, 0) by decide +kernel) rfl (Or.inl rfl) rfl (Nat.le_of_ble_eq_true rfl) rfl rfl rfl (by decide +kernel) kk
theorem b29_4 {d : Nat} {Q : Option sV → sM → sG → Prop} {M : sM} {G : sG} {a0 : Nat} {x1 : Int} {x2 : Int} {s0 : Int}  (k1 : s0 ≠ 0 → sW (sC d) 29 Q 9 [vO 4 a0, vI x1, vI x2, vN, vN] [] M G 0 0) (k2 : s0 = 0 → sW (sC d) 29 Q 7 [vN, vN, vN, vN, vN] [] M G 0 0) : sW (sC d) 29 Q 4 [vO 4 a0, vI x1, vI x2, vN, vN] [vI s0] M G 0 0 := by
  refine q_ifne 9 7 rfl (by decide) (show sCode 29 4 = some (.ifCond .ne 5, 3) by decide +kernel) ?_ ?_
  · intro q; exact k1 q
  · intro q; refine q_forget (L' := [vN, vI x1, vI x2, vN, vN]) 0 rfl ?_; refine q_forget (L' := [vN, vN, vI x2, vN, vN]) 1 rfl ?_; refine q_forget (L' := [vN, vN, vN, vN, vN]) 2 rfl ?_; exact k2 q
theorem b29_7 {d : Nat} {P : Int → sM → sG → Prop} {M : sM} {G : sG}   (kk : P 0 M G) : sW (sC d) 29 (QI P) 7 [vN, vN, vN, vN, vN] [] M G 0 0 := by
  refine q_iconst 8 rfl (show sCode 29 7 = some (.iconst 0, 1) by decide +kernel) ⟨by decide, by decide⟩ ?_
  exact q_iret (show sCode 29 8 = some (.ireturn, 1) by decide +kernel) (by decide +kernel) (by decide +kernel) kk
theorem b29_9 {d : Nat} {Q : Option sV → sM → sG → Prop} {M : sM} {G : sG} {a0 : Nat} {x1 : Int} {x2 : Int}  (kk : sC d 22 [vO 4 a0] M G (QI (fun r M1 G1 => sW (sC d) 29 Q 13 [vO 4 a0, vI x1, vI x2, vN, vN] (vI r :: []) M1 G1 0 0))) : sW (sC d) 29 Q 9 [vO 4 a0, vI x1, vI x2, vN, vN] [] M G 0 0 := by
  refine q_aload_n 10 rfl (show sCode 29 9 = some (.aload_n 0, 1) by decide +kernel) rfl (Nat.le_of_ble_eq_true rfl) ?_
  exact q_virtI [] 13 rfl (show sCode 29 10 = some (.invokevirtual 46, 3) by decide +kernel) (show sMR (sKo 29).1 46 = some 22 by decide +kernel) (show 22 < 1000 ∧ sStat 22 = false ∧ sIni 22 = false ∧ sKo 22 = (4, 0, 1, 0, 0) by decide +kernel) rfl (Or.inl rfl) rfl (Nat.le_of_ble_eq_true rfl) rfl rfl rfl (by decide +kernel) kk
theorem b29_13 {d : Nat} {Q : Option sV → sM → sG → Prop} {M : sM} {G : sG} {a0 : Nat} {x1 : Int} {x2 : Int} {s0 : Int}  (kk : sC d 30 [vI s0] M G (QI (fun r M1 G1 => sW (sC d) 29 Q 16 [vO 4 a0, vI x1, vI x2, vN, vN] (vI r :: []) M1 G1 0 0))) : sW (sC d) 29 Q 13 [vO 4 a0, vI x1, vI x2, vN, vN] [vI s0] M G 0 0 := by
  exact q_statI [vI s0] 16 rfl (show sCode 29 13 = some (.invokestatic 57, 3) by decide +kernel) (show sMR (sKo 29).1 57 = some 30 by decide +kernel) (show 30 < 1000 ∧ sStat 30 = true ∧ sKo 30 = (4, 1, 2, 0, 0) by decide +kernel) rfl rfl (Nat.le_of_ble_eq_true rfl) rfl rfl rfl (by decide +kernel) kk
theorem b29_16 {d : Nat} {Q : Option sV → sM → sG → Prop} {M : sM} {G : sG} {a0 : Nat} {x1 : Int} {x2 : Int} {s0 : Int}  (k1 : s0 ≠ 0 → sW (sC d) 29 Q 26 [vO 4 a0, vI x1, vI x2, vN, vN] [] M G 0 0) (k2 : s0 = 0 → sW (sC d) 29 Q 19 [vO 4 a0, vN, vN, vN, vN] [] M G 0 0) : sW (sC d) 29 Q 16 [vO 4 a0, vI x1, vI x2, vN, vN] [vI s0] M G 0 0 := by
  refine q_ifne 26 19 rfl (by decide) (show sCode 29 16 = some (.ifCond .ne 10, 3) by decide +kernel) ?_ ?_
  · intro q; exact k1 q
  · intro q; refine q_forget (L' := [vO 4 a0, vN, vI x2, vN, vN]) 1 rfl ?_; refine q_forget (L' := [vO 4 a0, vN, vN, vN, vN]) 2 rfl ?_; exact k2 q
theorem b29_19 {d : Nat} {Q : Option sV → sM → sG → Prop} {M : sM} {G : sG} {a0 : Nat}  (kk : sC d 24 [vO 4 a0, vI 0] M G (QV (fun M1 G1 => sW (sC d) 29 Q 24 [vN, vN, vN, vN, vN] [] M1 G1 0 0))) : sW (sC d) 29 Q 19 [vO 4 a0, vN, vN, vN, vN] [] M G 0 0 := by
  refine q_aload_n 20 rfl (show sCode 29 19 = some (.aload_n 0, 1) by decide +kernel) rfl (Nat.le_of_ble_eq_true rfl) ?_
  refine q_iconst 21 rfl (show sCode 29 20 = some (.iconst 0, 1) by decide +kernel) ⟨by decide, by decide⟩ ?_
  refine q_forget (L' := [vN, vN, vN, vN, vN]) 0 rfl ?_
  exact q_virtV [vI 0] 24 rfl (show sCode 29 21 = some (.invokevirtual 60, 3) by decide +kernel) (show sMR (sKo 29).1 60 = some 24 by decide +kernel) (show 24 < 1000 ∧ sStat 24 = false ∧ sIni 24 = false ∧ sKo 24 = (4, 1, 0, 0, 0) by decide +kernel) rfl (Or.inl rfl) rfl (Nat.le_of_ble_eq_true rfl) rfl rfl rfl (by decide +kernel) kk
theorem b29_24 {d : Nat} {P : Int → sM → sG → Prop} {M : sM} {G : sG}   (kk : P 0 M G) : sW (sC d) 29 (QI P) 24 [vN, vN, vN, vN, vN] [] M G 0 0 := by
  refine q_iconst 25 rfl (show sCode 29 24 = some (.iconst 0, 1) by decide +kernel) ⟨by decide, by decide⟩ ?_
  exact q_iret (show sCode 29 25 = some (.ireturn, 1) by decide +kernel) (by decide +kernel) (by decide +kernel) kk
theorem b29_26 {d : Nat} {Q : Option sV → sM → sG → Prop} {M : sM} {G : sG} {a0 : Nat} {x1 : Int} {x2 : Int}  (kk : sW (sC d) 29 Q 34 [vO 4 a0, vI x1, vI x2, vI 0, vI (M a0 2)] [] M G 0 0) : sW (sC d) 29 Q 26 [vO 4 a0, vI x1, vI x2, vN, vN] [] M G 0 0 := by
  refine q_iconst 27 rfl (show sCode 29 26 = some (.iconst 0, 1) by decide +kernel) ⟨by decide, by decide⟩ ?_
  refine q_istore_n [vO 4 a0, vI x1, vI x2, vI 0, vN] 28 rfl (show sCode 29 27 = some (.istore_n 3, 1) by decide +kernel) (Nat.lt_of_lt_of_le (Nat.lt_succ_self _) (Nat.le_of_ble_eq_true rfl)) rfl rfl ?_
  refine q_aload_n 29 rfl (show sCode 29 28 = some (.aload_n 0, 1) by decide +kernel) rfl (Nat.le_of_ble_eq_true rfl) ?_
  refine q_getI 32 rfl (show sCode 29 29 = some (.getfield 19, 3) by decide +kernel) (show sFR (sKo 29).1 19 = some (4, 2) by decide +kernel) (by decide +kernel) (Or.inl (Or.inl rfl)) ?_
  refine q_istore [vO 4 a0, vI x1, vI x2, vI 0, vI (M a0 2)] 34 rfl (show sCode 29 32 = some (.istore 4, 2) by decide +kernel) (Nat.lt_of_lt_of_le (Nat.lt_succ_self _) (Nat.le_of_ble_eq_true rfl)) rfl rfl ?_
  exact kk
theorem b29_34 {d : Nat} {Q : Option sV → sM → sG → Prop} {M : sM} {G : sG} {a0 : Nat} {x1 : Int} {x2 : Int} {x3 : Int} {x4 : Int}  (k1 : M a0 1 ≤ x4 → sW (sC d) 29 Q 93 [vO 4 a0, vI x1, vI x2, vI x3, vI x4] [] M G 0 0) (k2 : x4 < M a0 1 → sW (sC d) 29 Q 43 [vO 4 a0, vI x1, vI x2, vI x3, vI x4] [] M G 0 0) : sW (sC d) 29 Q 34 [vO 4 a0, vI x1, vI x2, vI x3, vI x4] [] M G 0 0 := by
  refine q_iload 36 rfl (show sCode 29 34 = some (.iload 4, 2) by decide +kernel) rfl ?_
  refine q_aload_n 37 rfl (show sCode 29 36 = some (.aload_n 0, 1) by decide +kernel) rfl (Nat.le_of_ble_eq_true rfl) ?_
  refine q_getI 40 rfl (show sCode 29 37 = some (.getfield 15, 3) by decide +kernel) (show sFR (sKo 29).1 15 = some (4, 1) by decide +kernel) (by decide +kernel) (Or.inl (Or.inl rfl)) ?_
  refine q_icmpge 93 43 rfl (by decide) (show sCode 29 40 = some (.if_icmp .ge 53, 3) by decide +kernel) ?_ ?_
  · intro q; exact k1 q
  · intro q; exact k2 q
theorem b29_43 {d : Nat} {Q : Option sV → sM → sG → Prop} {M : sM} {G : sG} {a0 : Nat} {x1 : Int} {x2 : Int} {x3 : Int} {x4 : Int} (h1 : 0 ≤ x4 ∧ x4 < 400) (kk : sC d 30 [vI (M (a0 + 1) x4.toNat)] M G (QI (fun r M1 G1 => sW (sC d) 29 Q 53 [vO 4 a0, vI x1, vI x2, vI x3, vI x4] (vI r :: []) M1 G1 0 0))) : sW (sC d) 29 Q 43 [vO 4 a0, vI x1, vI x2, vI x3, vI x4] [] M G 0 0 := by
  refine q_aload_n 44 rfl (show sCode 29 43 = some (.aload_n 0, 1) by decide +kernel) rfl (Nat.le_of_ble_eq_true rfl) ?_
  refine q_getR (vA 0 (a0 + 1) 400) 47 rfl (show sCode 29 44 = some (.getfield 11, 3) by decide +kernel) (show sFR (sKo 29).1 11 = some (4, 0) by decide +kernel) (by decide +kernel) (Or.inl (Or.inl rfl)) rfl ?_
  refine q_iload 49 rfl (show sCode 29 47 = some (.iload 4, 2) by decide +kernel) rfl ?_
  refine q_iald 50 rfl (show sCode 29 49 = some (.iaload, 1) by decide +kernel) h1 ?_
  exact q_statI [vI (M (a0 + 1) x4.toNat)] 53 rfl (show sCode 29 50 = some (.invokestatic 57, 3) by decide +kernel) (show sMR (sKo 29).1 57 = some 30 by decide +kernel) (show 30 < 1000 ∧ sStat 30 = true ∧ sKo 30 = (4, 1, 2, 0, 0) by decide +kernel) rfl rfl (Nat.le_of_ble_eq_true rfl) rfl rfl rfl (by decide +kernel) kk
theorem b29_53 {d : Nat} {Q : Option sV → sM → sG → Prop} {M : sM} {G : sG} {a0 : Nat} {x1 : Int} {x2 : Int} {x3 : Int} {x4 : Int} {s0 : Int}  (k1 : s0 = 0 → sW (sC d) 29 Q 93 [vO 4 a0, vI x1, vI x2, vI x3, vI x4] [] M G 0 0) (k2 : s0 ≠ 0 → sW (sC d) 29 Q 56 [vO 4 a0, vI x1, vI x2, vI x3, vI x4] [] M G 0 0) : sW (sC d) 29 Q 53 [vO 4 a0, vI x1, vI x2, vI x3, vI x4] [vI s0] M G 0 0 := by
  refine q_ifeq 93 56 rfl (by decide) (show sCode 29 53 = some (.ifCond .eq 40, 3) by decide +kernel) ?_ ?_
  · intro q; exact k1 q
  · intro q; exact k2 q
theorem b29_56 {d : Nat} {Q : Option sV → sM → sG → Prop} {M : sM} {G : sG} {a0 : Nat} {x1 : Int} {x2 : Int} {x3 : Int} {x4 : Int} (h1 : sI (x4 - (M a0 2))) (k1 : 5 ≤ x4 - (M a0 2) → sW (sC d) 29 Q 85 [vO 4 a0, vI x1, vI x2, vI x3, vI x4] [] M G 0 0) (k2 : x4 - (M a0 2) < 5 → sW (sC d) 29 Q 67 [vO 4 a0, vI x1, vI x2, vI x3, vI x4] [] M G 0 0) : sW (sC d) 29 Q 56 [vO 4 a0, vI x1, vI x2, vI x3, vI x4] [] M G 0 0 := by
  refine q_iload 58 rfl (show sCode 29 56 = some (.iload 4, 2) by decide +kernel) rfl ?_
  refine q_aload_n 59 rfl (show sCode 29 58 = some (.aload_n 0, 1) by decide +kernel) rfl (Nat.le_of_ble_eq_true rfl) ?_
  refine q_getI 62 rfl (show sCode 29 59 = some (.getfield 19, 3) by decide +kernel) (show sFR (sKo 29).1 19 = some (4, 2) by decide +kernel) (by decide +kernel) (Or.inl (Or.inl rfl)) ?_
  refine q_isub 63 rfl (show sCode 29 62 = some (.isub, 1) by decide +kernel) h1 ?_
  refine q_iconst 64 rfl (show sCode 29 63 = some (.iconst 5, 1) by decide +kernel) ⟨by decide, by decide⟩ ?_
  refine q_icmpge 85 67 rfl (by decide) (show sCode 29 64 = some (.if_icmp .ge 21, 3) by decide +kernel) ?_ ?_
  · intro q; exact k1 q
  · intro q; exact k2 q
theorem b29_67 {d : Nat} {Q : Option sV → sM → sG → Prop} {M : sM} {G : sG} {a0 : Nat} {x1 : Int} {x2 : Int} {x3 : Int} {x4 : Int} (h1 : sI (10 * x3)) (h2 : 0 ≤ x4 ∧ x4 < 400) (h3 : sI ((10 * x3) + (M (a0 + 1) x4.toNat))) (h4 : sI (((10 * x3) + (M (a0 + 1) x4.toNat)) - 48)) (kk : sW (sC d) 29 Q 86 [vO 4 a0, vI x1, vI x2, vN, vI x4] [vI (((10 * x3) + (M (a0 + 1) x4.toNat)) - 48)] M G 0 0) : sW (sC d) 29 Q 67 [vO 4 a0, vI x1, vI x2, vI x3, vI x4] [] M G 0 0 := by
  refine q_bipush 69 rfl (show sCode 29 67 = some (.bipush 10, 2) by decide +kernel) ⟨by decide, by decide⟩ (by decide +kernel) ?_
  refine q_iload_n 70 rfl (show sCode 29 69 = some (.iload_n 3, 1) by decide +kernel) rfl ?_
  refine q_imul 71 rfl (show sCode 29 70 = some (.imul, 1) by decide +kernel) h1 ?_
  refine q_aload_n 72 rfl (show sCode 29 71 = some (.aload_n 0, 1) by decide +kernel) rfl (Nat.le_of_ble_eq_true rfl) ?_
  refine q_getR (vA 0 (a0 + 1) 400) 75 rfl (show sCode 29 72 = some (.getfield 11, 3) by decide +kernel) (show sFR (sKo 29).1 11 = some (4, 0) by decide +kernel) (by decide +kernel) (Or.inl (Or.inl rfl)) rfl ?_
  refine q_iload 77 rfl (show sCode 29 75 = some (.iload 4, 2) by decide +kernel) rfl ?_
  refine q_iald 78 rfl (show sCode 29 77 = some (.iaload, 1) by decide +kernel) h2 ?_
  refine q_iadd 79 rfl (show sCode 29 78 = some (.iadd, 1) by decide +kernel) h3 ?_
  refine q_bipush 81 rfl (show sCode 29 79 = some (.bipush 48, 2) by decide +kernel) ⟨by decide, by decide⟩ (by decide +kernel) ?_
  refine q_isub 82 rfl (show sCode 29 81 = some (.isub, 1) by decide +kernel) h4 ?_
  refine q_goto 86 (by decide) (show sCode 29 82 = some (.goto 4, 3) by decide +kernel) ?_
  refine q_forget (L' := [vO 4 a0, vI x1, vI x2, vN, vI x4]) 3 rfl ?_
  exact kk
theorem b29_85 {d : Nat} {Q : Option sV → sM → sG → Prop} {M : sM} {G : sG} {a0 : Nat} {x1 : Int} {x2 : Int} {x3 : Int} {x4 : Int}  (kk : sW (sC d) 29 Q 86 [vO 4 a0, vI x1, vI x2, vN, vI x4] [vI x3] M G 0 0) : sW (sC d) 29 Q 85 [vO 4 a0, vI x1, vI x2, vI x3, vI x4] [] M G 0 0 := by
  refine q_iload_n 86 rfl (show sCode 29 85 = some (.iload_n 3, 1) by decide +kernel) rfl ?_
  refine q_forget (L' := [vO 4 a0, vI x1, vI x2, vN, vI x4]) 3 rfl ?_
  exact kk
theorem b29_86 {d : Nat} {Q : Option sV → sM → sG → Prop} {M : sM} {G : sG} {a0 : Nat} {x1 : Int} {x2 : Int} {x4 : Int} {s0 : Int} (h1 : sI (x4 + 1)) (kk : sW (sC d) 29 Q 34 [vO 4 a0, vI x1, vI x2, vI s0, vI (x4 + 1)] [] M G 0 0) : sW (sC d) 29 Q 86 [vO 4 a0, vI x1, vI x2, vN, vI x4] [vI s0] M G 0 0 := by
  refine q_istore_n [vO 4 a0, vI x1, vI x2, vI s0, vI x4] 87 rfl (show sCode 29 86 = some (.istore_n 3, 1) by decide +kernel) (Nat.lt_of_lt_of_le (Nat.lt_succ_self _) (Nat.le_of_ble_eq_true rfl)) rfl rfl ?_
  refine q_iinc [vO 4 a0, vI x1, vI x2, vI s0, vI (x4 + 1)] 90 rfl (show sCode 29 87 = some (.iinc 4 1, 3) by decide +kernel) rfl rfl h1 rfl ?_
  refine q_goto 34 (by decide) (show sCode 29 90 = some (.goto (-56), 3) by decide +kernel) ?_
  exact kk
theorem b29_93 {d : Nat} {Q : Option sV → sM → sG → Prop} {M : sM} {G : sG} {a0 : Nat} {x1 : Int} {x2 : Int} {x3 : Int} {x4 : Int} (h1 : sI (x4 - (M a0 2))) (k1 : 5 < x4 - (M a0 2) → sW (sC d) 29 Q 114 [vO 4 a0, vN, vN, vN, vN] [] M G 0 0) (k2 : x4 - (M a0 2) ≤ 5 → sW (sC d) 29 Q 104 [vO 4 a0, vI x1, vI x2, vI x3, vI x4] [] M G 0 0) : sW (sC d) 29 Q 93 [vO 4 a0, vI x1, vI x2, vI x3, vI x4] [] M G 0 0 := by
  refine q_iload 95 rfl (show sCode 29 93 = some (.iload 4, 2) by decide +kernel) rfl ?_
  refine q_aload_n 96 rfl (show sCode 29 95 = some (.aload_n 0, 1) by decide +kernel) rfl (Nat.le_of_ble_eq_true rfl) ?_
  refine q_getI 99 rfl (show sCode 29 96 = some (.getfield 19, 3) by decide +kernel) (show sFR (sKo 29).1 19 = some (4, 2) by decide +kernel) (by decide +kernel) (Or.inl (Or.inl rfl)) ?_
  refine q_isub 100 rfl (show sCode 29 99 = some (.isub, 1) by decide +kernel) h1 ?_
  refine q_iconst 101 rfl (show sCode 29 100 = some (.iconst 5, 1) by decide +kernel) ⟨by decide, by decide⟩ ?_
  refine q_icmpgt 114 104 rfl (by decide) (show sCode 29 101 = some (.if_icmp .gt 13, 3) by decide +kernel) ?_ ?_
  · intro q; refine q_forget (L' := [vO 4 a0, vN, vI x2, vI x3, vI x4]) 1 rfl ?_; refine q_forget (L' := [vO 4 a0, vN, vN, vI x3, vI x4]) 2 rfl ?_; refine q_forget (L' := [vO 4 a0, vN, vN, vN, vI x4]) 3 rfl ?_; refine q_forget (L' := [vO 4 a0, vN, vN, vN, vN]) 4 rfl ?_; exact k1 q
  · intro q; exact k2 q
theorem b29_104 {d : Nat} {Q : Option sV → sM → sG → Prop} {M : sM} {G : sG} {a0 : Nat} {x1 : Int} {x2 : Int} {x3 : Int} {x4 : Int}  (k1 : x3 < x1 → sW (sC d) 29 Q 114 [vO 4 a0, vN, vN, vN, vN] [] M G 0 0) (k2 : x1 ≤ x3 → sW (sC d) 29 Q 109 [vO 4 a0, vN, vI x2, vI x3, vI x4] [] M G 0 0) : sW (sC d) 29 Q 104 [vO 4 a0, vI x1, vI x2, vI x3, vI x4] [] M G 0 0 := by
  refine q_iload_n 105 rfl (show sCode 29 104 = some (.iload_n 3, 1) by decide +kernel) rfl ?_
  refine q_iload_n 106 rfl (show sCode 29 105 = some (.iload_n 1, 1) by decide +kernel) rfl ?_
  refine q_icmplt 114 109 rfl (by decide) (show sCode 29 106 = some (.if_icmp .lt 8, 3) by decide +kernel) ?_ ?_
  · intro q; refine q_forget (L' := [vO 4 a0, vN, vI x2, vI x3, vI x4]) 1 rfl ?_; refine q_forget (L' := [vO 4 a0, vN, vN, vI x3, vI x4]) 2 rfl ?_; refine q_forget (L' := [vO 4 a0, vN, vN, vN, vI x4]) 3 rfl ?_; refine q_forget (L' := [vO 4 a0, vN, vN, vN, vN]) 4 rfl ?_; exact k1 q
  · intro q; refine q_forget (L' := [vO 4 a0, vN, vI x2, vI x3, vI x4]) 1 rfl ?_; exact k2 q
theorem b29_109 {d : Nat} {Q : Option sV → sM → sG → Prop} {M : sM} {G : sG} {a0 : Nat} {x2 : Int} {x3 : Int} {x4 : Int}  (k1 : x3 ≤ x2 → sW (sC d) 29 Q 121 [vO 4 a0, vN, vN, vI x3, vI x4] [] M G 0 0) (k2 : x2 < x3 → sW (sC d) 29 Q 114 [vO 4 a0, vN, vN, vN, vN] [] M G 0 0) : sW (sC d) 29 Q 109 [vO 4 a0, vN, vI x2, vI x3, vI x4] [] M G 0 0 := by
  refine q_iload_n 110 rfl (show sCode 29 109 = some (.iload_n 3, 1) by decide +kernel) rfl ?_
  refine q_iload_n 111 rfl (show sCode 29 110 = some (.iload_n 2, 1) by decide +kernel) rfl ?_
  refine q_icmple 121 114 rfl (by decide) (show sCode 29 111 = some (.if_icmp .le 10, 3) by decide +kernel) ?_ ?_
  · intro q; refine q_forget (L' := [vO 4 a0, vN, vN, vI x3, vI x4]) 2 rfl ?_; exact k1 q
  · intro q; refine q_forget (L' := [vO 4 a0, vN, vN, vI x3, vI x4]) 2 rfl ?_; refine q_forget (L' := [vO 4 a0, vN, vN, vN, vI x4]) 3 rfl ?_; refine q_forget (L' := [vO 4 a0, vN, vN, vN, vN]) 4 rfl ?_; exact k2 q
theorem b29_114 {d : Nat} {Q : Option sV → sM → sG → Prop} {M : sM} {G : sG} {a0 : Nat}  (kk : sC d 24 [vO 4 a0, vI 1] M G (QV (fun M1 G1 => sW (sC d) 29 Q 119 [vN, vN, vN, vN, vN] [] M1 G1 0 0))) : sW (sC d) 29 Q 114 [vO 4 a0, vN, vN, vN, vN] [] M G 0 0 := by
  refine q_aload_n 115 rfl (show sCode 29 114 = some (.aload_n 0, 1) by decide +kernel) rfl (Nat.le_of_ble_eq_true rfl) ?_
  refine q_iconst 116 rfl (show sCode 29 115 = some (.iconst 1, 1) by decide +kernel) ⟨by decide, by decide⟩ ?_
  refine q_forget (L' := [vN, vN, vN, vN, vN]) 0 rfl ?_
  exact q_virtV [vI 1] 119 rfl (show sCode 29 116 = some (.invokevirtual 60, 3) by decide +kernel) (show sMR (sKo 29).1 60 = some 24 by decide +kernel) (show 24 < 1000 ∧ sStat 24 = false ∧ sIni 24 = false ∧ sKo 24 = (4, 1, 0, 0, 0) by decide +kernel) rfl (Or.inl rfl) rfl (Nat.le_of_ble_eq_true rfl) rfl rfl rfl (by decide +kernel) kk
theorem b29_119 {d : Nat} {P : Int → sM → sG → Prop} {M : sM} {G : sG}   (kk : P 0 M G) : sW (sC d) 29 (QI P) 119 [vN, vN, vN, vN, vN] [] M G 0 0 := by
  refine q_iconst 120 rfl (show sCode 29 119 = some (.iconst 0, 1) by decide +kernel) ⟨by decide, by decide⟩ ?_
  exact q_iret (show sCode 29 120 = some (.ireturn, 1) by decide +kernel) (by decide +kernel) (by decide +kernel) kk
theorem b29_121 {d : Nat} {P : Int → sM → sG → Prop} {M : sM} {G : sG} {a0 : Nat} {x3 : Int} {x4 : Int}  (kk : P x3 (sUpd M a0 2 x4) G) : sW (sC d) 29 (QI P) 121 [vO 4 a0, vN, vN, vI x3, vI x4] [] M G 0 0 := by
  refine q_aload_n 122 rfl (show sCode 29 121 = some (.aload_n 0, 1) by decide +kernel) rfl (Nat.le_of_ble_eq_true rfl) ?_
  refine q_iload 124 rfl (show sCode 29 122 = some (.iload 4, 2) by decide +kernel) rfl ?_
  refine q_putI 127 rfl (show sCode 29 124 = some (.putfield 19, 3) by decide +kernel) (show sFR (sKo 29).1 19 = some (4, 2) by decide +kernel) (by decide +kernel) (Or.inl ⟨Or.inl rfl, by decide +kernel⟩) ?_
  refine q_iload_n 128 rfl (show sCode 29 127 = some (.iload_n 3, 1) by decide +kernel) rfl ?_
  exact q_iret (show sCode 29 128 = some (.ireturn, 1) by decide +kernel) (by decide +kernel) (by decide +kernel) kk
-- 30 AfterTheLast$Reader.isDigit (I)Z
theorem b30_0 {d : Nat} {Q : Option sV → sM → sG → Prop} {M : sM} {G : sG} {x0 : Int}  (k1 : x0 < 48 → sW (sC d) 30 Q 16 [vN] [] M G 0 0) (k2 : 48 ≤ x0 → sW (sC d) 30 Q 6 [vI x0] [] M G 0 0) : sW (sC d) 30 Q 0 [vI x0] [] M G 0 0 := by
  refine q_iload_n 1 rfl (show sCode 30 0 = some (.iload_n 0, 1) by decide +kernel) rfl ?_
  refine q_bipush 3 rfl (show sCode 30 1 = some (.bipush 48, 2) by decide +kernel) ⟨by decide, by decide⟩ (by decide +kernel) ?_
  refine q_icmplt 16 6 rfl (by decide) (show sCode 30 3 = some (.if_icmp .lt 13, 3) by decide +kernel) ?_ ?_
  · intro q; refine q_forget (L' := [vN]) 0 rfl ?_; exact k1 q
  · intro q; exact k2 q
theorem b30_6 {d : Nat} {Q : Option sV → sM → sG → Prop} {M : sM} {G : sG} {x0 : Int}  (k1 : 57 < x0 → sW (sC d) 30 Q 16 [vN] [] M G 0 0) (k2 : x0 ≤ 57 → sW (sC d) 30 Q 12 [vN] [] M G 0 0) : sW (sC d) 30 Q 6 [vI x0] [] M G 0 0 := by
  refine q_iload_n 7 rfl (show sCode 30 6 = some (.iload_n 0, 1) by decide +kernel) rfl ?_
  refine q_bipush 9 rfl (show sCode 30 7 = some (.bipush 57, 2) by decide +kernel) ⟨by decide, by decide⟩ (by decide +kernel) ?_
  refine q_icmpgt 16 12 rfl (by decide) (show sCode 30 9 = some (.if_icmp .gt 7, 3) by decide +kernel) ?_ ?_
  · intro q; refine q_forget (L' := [vN]) 0 rfl ?_; exact k1 q
  · intro q; refine q_forget (L' := [vN]) 0 rfl ?_; exact k2 q
theorem b30_12 {d : Nat} {Q : Option sV → sM → sG → Prop} {M : sM} {G : sG}   (kk : sW (sC d) 30 Q 17 [vN] [vI 1] M G 0 0) : sW (sC d) 30 Q 12 [vN] [] M G 0 0 := by
  refine q_iconst 13 rfl (show sCode 30 12 = some (.iconst 1, 1) by decide +kernel) ⟨by decide, by decide⟩ ?_
  refine q_goto 17 (by decide) (show sCode 30 13 = some (.goto 4, 3) by decide +kernel) ?_
  exact kk
theorem b30_16 {d : Nat} {Q : Option sV → sM → sG → Prop} {M : sM} {G : sG}   (kk : sW (sC d) 30 Q 17 [vN] [vI 0] M G 0 0) : sW (sC d) 30 Q 16 [vN] [] M G 0 0 := by
  refine q_iconst 17 rfl (show sCode 30 16 = some (.iconst 0, 1) by decide +kernel) ⟨by decide, by decide⟩ ?_
  exact kk
theorem b30_17 {d : Nat} {P : Int → sM → sG → Prop} {M : sM} {G : sG} {s0 : Int}  (h01 : s0 = 0 ∨ s0 = 1) (kk : P s0 M G) : sW (sC d) 30 (QI P) 17 [vN] [vI s0] M G 0 0 := by
  exact q_zret (show sCode 30 17 = some (.ireturn, 1) by decide +kernel) (by decide +kernel) h01 (by decide +kernel) kk
-- 32 AfterTheLast$Reader.readStay (LAfterTheLast$Town;)V
theorem b32_0 {d : Nat} {Q : Option sV → sM → sG → Prop} {M : sM} {G : sG} {a0 : Nat} {a1 : Nat}  (kk : sC d 29 [vO 4 a0, vI 0, vI 11] M G (QI (fun r M1 G1 => sW (sC d) 32 Q 7 [vO 4 a0, vO 10 a1, vN, vN, vN, vN, vN] (vI r :: []) M1 G1 0 0))) : sW (sC d) 32 Q 0 [vO 4 a0, vO 10 a1, vN, vN, vN, vN, vN] [] M G 0 0 := by
  refine q_aload_n 1 rfl (show sCode 32 0 = some (.aload_n 0, 1) by decide +kernel) rfl (Nat.le_of_ble_eq_true rfl) ?_
  refine q_iconst 2 rfl (show sCode 32 1 = some (.iconst 0, 1) by decide +kernel) ⟨by decide, by decide⟩ ?_
  refine q_bipush 4 rfl (show sCode 32 2 = some (.bipush 11, 2) by decide +kernel) ⟨by decide, by decide⟩ (by decide +kernel) ?_
  exact q_virtI [vI 0, vI 11] 7 rfl (show sCode 32 4 = some (.invokevirtual 101, 3) by decide +kernel) (show sMR (sKo 32).1 101 = some 29 by decide +kernel) (show 29 < 1000 ∧ sStat 29 = false ∧ sIni 29 = false ∧ sKo 29 = (4, 2, 1, 0, 0) by decide +kernel) rfl (Or.inl rfl) rfl (Nat.le_of_ble_eq_true rfl) rfl rfl rfl (by decide +kernel) kk
theorem b32_7 {d : Nat} {Q : Option sV → sM → sG → Prop} {M : sM} {G : sG} {a0 : Nat} {a1 : Nat} {s0 : Int} (h1 : sI ((M a1 0) - 1)) (kk : sC d 29 [vO 4 a0, vI 0, vI ((M a1 0) - 1)] M G (QI (fun r M1 G1 => sW (sC d) 32 Q 19 [vO 4 a0, vO 10 a1, vI s0, vN, vN, vN, vN] (vI r :: []) M1 G1 0 0))) : sW (sC d) 32 Q 7 [vO 4 a0, vO 10 a1, vN, vN, vN, vN, vN] [vI s0] M G 0 0 := by
  refine q_istore_n [vO 4 a0, vO 10 a1, vI s0, vN, vN, vN, vN] 8 rfl (show sCode 32 7 = some (.istore_n 2, 1) by decide +kernel) (Nat.lt_of_lt_of_le (Nat.lt_succ_self _) (Nat.le_of_ble_eq_true rfl)) rfl rfl ?_
  refine q_aload_n 9 rfl (show sCode 32 8 = some (.aload_n 0, 1) by decide +kernel) rfl (Nat.le_of_ble_eq_true rfl) ?_
  refine q_iconst 10 rfl (show sCode 32 9 = some (.iconst 0, 1) by decide +kernel) ⟨by decide, by decide⟩ ?_
  refine q_aload_n 11 rfl (show sCode 32 10 = some (.aload_n 1, 1) by decide +kernel) rfl (Nat.le_of_ble_eq_true rfl) ?_
  refine q_getI 14 rfl (show sCode 32 11 = some (.getfield 79, 3) by decide +kernel) (show sFR (sKo 32).1 79 = some (10, 0) by decide +kernel) (by decide +kernel) (Or.inl (Or.inl rfl)) ?_
  refine q_iconst 15 rfl (show sCode 32 14 = some (.iconst 1, 1) by decide +kernel) ⟨by decide, by decide⟩ ?_
  refine q_isub 16 rfl (show sCode 32 15 = some (.isub, 1) by decide +kernel) h1 ?_
  exact q_virtI [vI 0, vI ((M a1 0) - 1)] 19 rfl (show sCode 32 16 = some (.invokevirtual 101, 3) by decide +kernel) (show sMR (sKo 32).1 101 = some 29 by decide +kernel) (show 29 < 1000 ∧ sStat 29 = false ∧ sIni 29 = false ∧ sKo 29 = (4, 2, 1, 0, 0) by decide +kernel) rfl (Or.inl rfl) rfl (Nat.le_of_ble_eq_true rfl) rfl rfl rfl (by decide +kernel) kk
theorem b32_19 {d : Nat} {Q : Option sV → sM → sG → Prop} {M : sM} {G : sG} {a0 : Nat} {a1 : Nat} {x2 : Int} {s0 : Int}  (kk : sC d 29 [vO 4 a0, vI 0, vI 95] M G (QI (fun r M1 G1 => sW (sC d) 32 Q 27 [vO 4 a0, vO 10 a1, vI x2, vI s0, vN, vN, vN] (vI r :: []) M1 G1 0 0))) : sW (sC d) 32 Q 19 [vO 4 a0, vO 10 a1, vI x2, vN, vN, vN, vN] [vI s0] M G 0 0 := by
  refine q_istore_n [vO 4 a0, vO 10 a1, vI x2, vI s0, vN, vN, vN] 20 rfl (show sCode 32 19 = some (.istore_n 3, 1) by decide +kernel) (Nat.lt_of_lt_of_le (Nat.lt_succ_self _) (Nat.le_of_ble_eq_true rfl)) rfl rfl ?_
  refine q_aload_n 21 rfl (show sCode 32 20 = some (.aload_n 0, 1) by decide +kernel) rfl (Nat.le_of_ble_eq_true rfl) ?_
  refine q_iconst 22 rfl (show sCode 32 21 = some (.iconst 0, 1) by decide +kernel) ⟨by decide, by decide⟩ ?_
  refine q_bipush 24 rfl (show sCode 32 22 = some (.bipush 95, 2) by decide +kernel) ⟨by decide, by decide⟩ (by decide +kernel) ?_
  exact q_virtI [vI 0, vI 95] 27 rfl (show sCode 32 24 = some (.invokevirtual 101, 3) by decide +kernel) (show sMR (sKo 32).1 101 = some 29 by decide +kernel) (show 29 < 1000 ∧ sStat 29 = false ∧ sIni 29 = false ∧ sKo 29 = (4, 2, 1, 0, 0) by decide +kernel) rfl (Or.inl rfl) rfl (Nat.le_of_ble_eq_true rfl) rfl rfl rfl (by decide +kernel) kk
theorem b32_27 {d : Nat} {Q : Option sV → sM → sG → Prop} {M : sM} {G : sG} {a0 : Nat} {a1 : Nat} {x2 : Int} {x3 : Int} {s0 : Int} (h1 : sI (s0 + 1)) (kk : sC d 29 [vO 4 a0, vI (s0 + 1), vI 95] M G (QI (fun r M1 G1 => sW (sC d) 32 Q 39 [vO 4 a0, vO 10 a1, vI x2, vI x3, vI s0, vN, vN] (vI r :: []) M1 G1 0 0))) : sW (sC d) 32 Q 27 [vO 4 a0, vO 10 a1, vI x2, vI x3, vN, vN, vN] [vI s0] M G 0 0 := by
  refine q_istore [vO 4 a0, vO 10 a1, vI x2, vI x3, vI s0, vN, vN] 29 rfl (show sCode 32 27 = some (.istore 4, 2) by decide +kernel) (Nat.lt_of_lt_of_le (Nat.lt_succ_self _) (Nat.le_of_ble_eq_true rfl)) rfl rfl ?_
  refine q_aload_n 30 rfl (show sCode 32 29 = some (.aload_n 0, 1) by decide +kernel) rfl (Nat.le_of_ble_eq_true rfl) ?_
  refine q_iload 32 rfl (show sCode 32 30 = some (.iload 4, 2) by decide +kernel) rfl ?_
  refine q_iconst 33 rfl (show sCode 32 32 = some (.iconst 1, 1) by decide +kernel) ⟨by decide, by decide⟩ ?_
  refine q_iadd 34 rfl (show sCode 32 33 = some (.iadd, 1) by decide +kernel) h1 ?_
  refine q_bipush 36 rfl (show sCode 32 34 = some (.bipush 95, 2) by decide +kernel) ⟨by decide, by decide⟩ (by decide +kernel) ?_
  exact q_virtI [vI (s0 + 1), vI 95] 39 rfl (show sCode 32 36 = some (.invokevirtual 101, 3) by decide +kernel) (show sMR (sKo 32).1 101 = some 29 by decide +kernel) (show 29 < 1000 ∧ sStat 29 = false ∧ sIni 29 = false ∧ sKo 29 = (4, 2, 1, 0, 0) by decide +kernel) rfl (Or.inl rfl) rfl (Nat.le_of_ble_eq_true rfl) rfl rfl rfl (by decide +kernel) kk
theorem b32_39 {d : Nat} {Q : Option sV → sM → sG → Prop} {M : sM} {G : sG} {a0 : Nat} {a1 : Nat} {x2 : Int} {x3 : Int} {x4 : Int} {s0 : Int}  (kk : sC d 29 [vO 4 a0, vI 0, vI 99] M G (QI (fun r M1 G1 => sW (sC d) 32 Q 48 [vO 4 a0, vO 10 a1, vI x2, vI x3, vI x4, vI s0, vN] (vI r :: []) M1 G1 0 0))) : sW (sC d) 32 Q 39 [vO 4 a0, vO 10 a1, vI x2, vI x3, vI x4, vN, vN] [vI s0] M G 0 0 := by
  refine q_istore [vO 4 a0, vO 10 a1, vI x2, vI x3, vI x4, vI s0, vN] 41 rfl (show sCode 32 39 = some (.istore 5, 2) by decide +kernel) (Nat.lt_of_lt_of_le (Nat.lt_succ_self _) (Nat.le_of_ble_eq_true rfl)) rfl rfl ?_
  refine q_aload_n 42 rfl (show sCode 32 41 = some (.aload_n 0, 1) by decide +kernel) rfl (Nat.le_of_ble_eq_true rfl) ?_
  refine q_iconst 43 rfl (show sCode 32 42 = some (.iconst 0, 1) by decide +kernel) ⟨by decide, by decide⟩ ?_
  refine q_bipush 45 rfl (show sCode 32 43 = some (.bipush 99, 2) by decide +kernel) ⟨by decide, by decide⟩ (by decide +kernel) ?_
  exact q_virtI [vI 0, vI 99] 48 rfl (show sCode 32 45 = some (.invokevirtual 101, 3) by decide +kernel) (show sMR (sKo 32).1 101 = some 29 by decide +kernel) (show 29 < 1000 ∧ sStat 29 = false ∧ sIni 29 = false ∧ sKo 29 = (4, 2, 1, 0, 0) by decide +kernel) rfl (Or.inl rfl) rfl (Nat.le_of_ble_eq_true rfl) rfl rfl rfl (by decide +kernel) kk
theorem b32_48 {d : Nat} {Q : Option sV → sM → sG → Prop} {M : sM} {G : sG} {a0 : Nat} {a1 : Nat} {x2 : Int} {x3 : Int} {x4 : Int} {x5 : Int} {s0 : Int}  (kk : sC d 20 [vO 4 a0] M G (QI (fun r M1 G1 => sW (sC d) 32 Q 54 [vN, vO 10 a1, vI x2, vI x3, vI x4, vI x5, vI s0] (vI r :: []) M1 G1 0 0))) : sW (sC d) 32 Q 48 [vO 4 a0, vO 10 a1, vI x2, vI x3, vI x4, vI x5, vN] [vI s0] M G 0 0 := by
  refine q_istore [vO 4 a0, vO 10 a1, vI x2, vI x3, vI x4, vI x5, vI s0] 50 rfl (show sCode 32 48 = some (.istore 6, 2) by decide +kernel) (Nat.lt_of_lt_of_le (Nat.lt_succ_self _) (Nat.le_of_ble_eq_true rfl)) rfl rfl ?_
  refine q_aload_n 51 rfl (show sCode 32 50 = some (.aload_n 0, 1) by decide +kernel) rfl (Nat.le_of_ble_eq_true rfl) ?_
  refine q_forget (L' := [vN, vO 10 a1, vI x2, vI x3, vI x4, vI x5, vI s0]) 0 rfl ?_
  exact q_virtI [] 54 rfl (show sCode 32 51 = some (.invokevirtual 49, 3) by decide +kernel) (show sMR (sKo 32).1 49 = some 20 by decide +kernel) (show 20 < 1000 ∧ sStat 20 = false ∧ sIni 20 = false ∧ sKo 20 = (4, 0, 2, 0, 0) by decide +kernel) rfl (Or.inl rfl) rfl (Nat.le_of_ble_eq_true rfl) rfl rfl rfl (by decide +kernel) kk
theorem b32_54 {d : Nat} {Q : Option sV → sM → sG → Prop} {M : sM} {G : sG} {a1 : Nat} {x2 : Int} {x3 : Int} {x4 : Int} {x5 : Int} {x6 : Int} {s0 : Int}  (k1 : s0 = 0 → sW (sC d) 32 Q 69 [vN, vN, vN, vN, vN, vN, vN] [] M G 0 0) (k2 : s0 ≠ 0 → sW (sC d) 32 Q 57 [vN, vO 10 a1, vI x2, vI x3, vI x4, vI x5, vI x6] [] M G 0 0) : sW (sC d) 32 Q 54 [vN, vO 10 a1, vI x2, vI x3, vI x4, vI x5, vI x6] [vI s0] M G 0 0 := by
  refine q_ifeq 69 57 rfl (by decide) (show sCode 32 54 = some (.ifCond .eq 15, 3) by decide +kernel) ?_ ?_
  · intro q; refine q_forget (L' := [vN, vN, vI x2, vI x3, vI x4, vI x5, vI x6]) 1 rfl ?_; refine q_forget (L' := [vN, vN, vN, vI x3, vI x4, vI x5, vI x6]) 2 rfl ?_; refine q_forget (L' := [vN, vN, vN, vN, vI x4, vI x5, vI x6]) 3 rfl ?_; refine q_forget (L' := [vN, vN, vN, vN, vN, vI x5, vI x6]) 4 rfl ?_; refine q_forget (L' := [vN, vN, vN, vN, vN, vN, vI x6]) 5 rfl ?_; refine q_forget (L' := [vN, vN, vN, vN, vN, vN, vN]) 6 rfl ?_; exact k1 q
  · intro q; exact k2 q
theorem b32_57 {d : Nat} {Q : Option sV → sM → sG → Prop} {M : sM} {G : sG} {a1 : Nat} {x2 : Int} {x3 : Int} {x4 : Int} {x5 : Int} {x6 : Int}  (kk : sC d 33 [vO 10 a1, vI x2, vI x3, vI x4, vI x5, vI x6] M G (QV (fun M1 G1 => sW (sC d) 32 Q 69 [vN, vN, vN, vN, vN, vN, vN] [] M1 G1 0 0))) : sW (sC d) 32 Q 57 [vN, vO 10 a1, vI x2, vI x3, vI x4, vI x5, vI x6] [] M G 0 0 := by
  refine q_aload_n 58 rfl (show sCode 32 57 = some (.aload_n 1, 1) by decide +kernel) rfl (Nat.le_of_ble_eq_true rfl) ?_
  refine q_iload_n 59 rfl (show sCode 32 58 = some (.iload_n 2, 1) by decide +kernel) rfl ?_
  refine q_iload_n 60 rfl (show sCode 32 59 = some (.iload_n 3, 1) by decide +kernel) rfl ?_
  refine q_iload 62 rfl (show sCode 32 60 = some (.iload 4, 2) by decide +kernel) rfl ?_
  refine q_iload 64 rfl (show sCode 32 62 = some (.iload 5, 2) by decide +kernel) rfl ?_
  refine q_iload 66 rfl (show sCode 32 64 = some (.iload 6, 2) by decide +kernel) rfl ?_
  refine q_forget (L' := [vN, vN, vI x2, vI x3, vI x4, vI x5, vI x6]) 1 rfl ?_
  refine q_forget (L' := [vN, vN, vN, vI x3, vI x4, vI x5, vI x6]) 2 rfl ?_
  refine q_forget (L' := [vN, vN, vN, vN, vI x4, vI x5, vI x6]) 3 rfl ?_
  refine q_forget (L' := [vN, vN, vN, vN, vN, vI x5, vI x6]) 4 rfl ?_
  refine q_forget (L' := [vN, vN, vN, vN, vN, vN, vI x6]) 5 rfl ?_
  refine q_forget (L' := [vN, vN, vN, vN, vN, vN, vN]) 6 rfl ?_
  exact q_virtV [vI x2, vI x3, vI x4, vI x5, vI x6] 69 rfl (show sCode 32 66 = some (.invokevirtual 109, 3) by decide +kernel) (show sMR (sKo 32).1 109 = some 33 by decide +kernel) (show 33 < 1000 ∧ sStat 33 = false ∧ sIni 33 = false ∧ sKo 33 = (10, 5, 0, 0, 0) by decide +kernel) rfl (Or.inl rfl) rfl (Nat.le_of_ble_eq_true rfl) rfl rfl rfl (by decide +kernel) kk
theorem b32_69 {d : Nat} {P : sM → sG → Prop} {M : sM} {G : sG}   (kk : P M G) : sW (sC d) 32 (QV P) 69 [vN, vN, vN, vN, vN, vN, vN] [] M G 0 0 := by
  exact q_vret (show sCode 32 69 = some (.return_, 1) by decide +kernel) (by decide +kernel) (by decide +kernel) kk
-- 37 AfterTheLast$RuleReader.readNext (I)V
theorem b37_0 {d : Nat} {Q : Option sV → sM → sG → Prop} {M : sM} {G : sG} {a0 : Nat} {x1 : Int}  (k1 : x1 = 91 → sW (sC d) 37 Q 18 [vO 7 a0, vI x1, vN, vN] [] M G 0 0) (k2 : x1 ≠ 91 → sW (sC d) 37 Q 6 [vO 7 a0, vI x1, vN, vN] [] M G 0 0) : sW (sC d) 37 Q 0 [vO 7 a0, vI x1, vN, vN] [] M G 0 0 := by
  refine q_iload_n 1 rfl (show sCode 37 0 = some (.iload_n 1, 1) by decide +kernel) rfl ?_
  refine q_bipush 3 rfl (show sCode 37 1 = some (.bipush 91, 2) by decide +kernel) ⟨by decide, by decide⟩ (by decide +kernel) ?_
  refine q_icmpeq 18 6 rfl (by decide) (show sCode 37 3 = some (.if_icmp .eq 15, 3) by decide +kernel) ?_ ?_
  · intro q; exact k1 q
  · intro q; exact k2 q
theorem b37_6 {d : Nat} {Q : Option sV → sM → sG → Prop} {M : sM} {G : sG} {a0 : Nat} {x1 : Int}  (kk : sC d 23 [vO 4 (a0 + 1), vS 5] M G (QI (fun r M1 G1 => sW (sC d) 37 Q 15 [vO 7 a0, vI x1, vN, vN] (vI r :: []) M1 G1 0 0))) : sW (sC d) 37 Q 6 [vO 7 a0, vI x1, vN, vN] [] M G 0 0 := by
  refine q_aload_n 7 rfl (show sCode 37 6 = some (.aload_n 0, 1) by decide +kernel) rfl (Nat.le_of_ble_eq_true rfl) ?_
  refine q_getR (vO 4 (a0 + 1)) 10 rfl (show sCode 37 7 = some (.getfield 12, 3) by decide +kernel) (show sFR (sKo 37).1 12 = some (7, 0) by decide +kernel) (by decide +kernel) (Or.inl (Or.inl rfl)) rfl ?_
  refine q_ldcS 12 rfl (show sCode 37 10 = some (.ldc 82, 2) by decide +kernel) (show sSR (sKo 37).1 82 = some 5 by decide +kernel) ?_
  exact q_virtI [vS 5] 15 rfl (show sCode 37 12 = some (.invokevirtual 84, 3) by decide +kernel) (show sMR (sKo 37).1 84 = some 23 by decide +kernel) (show 23 < 1000 ∧ sStat 23 = false ∧ sIni 23 = false ∧ sKo 23 = (4, 1, 2, 0, 0) by decide +kernel) rfl (Or.inl rfl) rfl (Nat.le_of_ble_eq_true rfl) rfl rfl rfl (by decide +kernel) kk
theorem b37_15 {d : Nat} {Q : Option sV → sM → sG → Prop} {M : sM} {G : sG} {a0 : Nat} {x1 : Int} {s0 : Int}  (k1 : s0 = 0 → sW (sC d) 37 Q 22 [vO 7 a0, vI x1, vN, vN] [] M G 0 0) (k2 : s0 ≠ 0 → sW (sC d) 37 Q 18 [vO 7 a0, vI x1, vN, vN] [] M G 0 0) : sW (sC d) 37 Q 15 [vO 7 a0, vI x1, vN, vN] [vI s0] M G 0 0 := by
  refine q_ifeq 22 18 rfl (by decide) (show sCode 37 15 = some (.ifCond .eq 7, 3) by decide +kernel) ?_ ?_
  · intro q; exact k1 q
  · intro q; exact k2 q
theorem b37_18 {d : Nat} {Q : Option sV → sM → sG → Prop} {M : sM} {G : sG} {a0 : Nat} {x1 : Int}  (kk : sW (sC d) 37 Q 23 [vO 7 a0, vI x1, vN, vN] [vI 1] M G 0 0) : sW (sC d) 37 Q 18 [vO 7 a0, vI x1, vN, vN] [] M G 0 0 := by
  refine q_iconst 19 rfl (show sCode 37 18 = some (.iconst 1, 1) by decide +kernel) ⟨by decide, by decide⟩ ?_
  refine q_goto 23 (by decide) (show sCode 37 19 = some (.goto 4, 3) by decide +kernel) ?_
  exact kk
theorem b37_22 {d : Nat} {Q : Option sV → sM → sG → Prop} {M : sM} {G : sG} {a0 : Nat} {x1 : Int}  (kk : sW (sC d) 37 Q 23 [vO 7 a0, vI x1, vN, vN] [vI 0] M G 0 0) : sW (sC d) 37 Q 22 [vO 7 a0, vI x1, vN, vN] [] M G 0 0 := by
  refine q_iconst 23 rfl (show sCode 37 22 = some (.iconst 0, 1) by decide +kernel) ⟨by decide, by decide⟩ ?_
  exact kk
theorem b37_23 {d : Nat} {Q : Option sV → sM → sG → Prop} {M : sM} {G : sG} {a0 : Nat} {x1 : Int} {s0 : Int}  (k1 : x1 = 43 → sW (sC d) 37 Q 48 [vO 7 a0, vI x1, vI s0, vN] [] M G 0 0) (k2 : x1 ≠ 43 → sW (sC d) 37 Q 30 [vO 7 a0, vI x1, vI s0, vN] [] M G 0 0) : sW (sC d) 37 Q 23 [vO 7 a0, vI x1, vN, vN] [vI s0] M G 0 0 := by
  refine q_istore_n [vO 7 a0, vI x1, vI s0, vN] 24 rfl (show sCode 37 23 = some (.istore_n 2, 1) by decide +kernel) (Nat.lt_of_lt_of_le (Nat.lt_succ_self _) (Nat.le_of_ble_eq_true rfl)) rfl rfl ?_
  refine q_iload_n 25 rfl (show sCode 37 24 = some (.iload_n 1, 1) by decide +kernel) rfl ?_
  refine q_bipush 27 rfl (show sCode 37 25 = some (.bipush 43, 2) by decide +kernel) ⟨by decide, by decide⟩ (by decide +kernel) ?_
  refine q_icmpeq 48 30 rfl (by decide) (show sCode 37 27 = some (.if_icmp .eq 21, 3) by decide +kernel) ?_ ?_
  · intro q; exact k1 q
  · intro q; exact k2 q
theorem b37_30 {d : Nat} {Q : Option sV → sM → sG → Prop} {M : sM} {G : sG} {a0 : Nat} {x1 : Int} {x2 : Int}  (k1 : x1 = 45 → sW (sC d) 37 Q 48 [vO 7 a0, vI x1, vI x2, vN] [] M G 0 0) (k2 : x1 ≠ 45 → sW (sC d) 37 Q 36 [vO 7 a0, vI x1, vI x2, vN] [] M G 0 0) : sW (sC d) 37 Q 30 [vO 7 a0, vI x1, vI x2, vN] [] M G 0 0 := by
  refine q_iload_n 31 rfl (show sCode 37 30 = some (.iload_n 1, 1) by decide +kernel) rfl ?_
  refine q_bipush 33 rfl (show sCode 37 31 = some (.bipush 45, 2) by decide +kernel) ⟨by decide, by decide⟩ (by decide +kernel) ?_
  refine q_icmpeq 48 36 rfl (by decide) (show sCode 37 33 = some (.if_icmp .eq 15, 3) by decide +kernel) ?_ ?_
  · intro q; exact k1 q
  · intro q; exact k2 q
theorem b37_36 {d : Nat} {Q : Option sV → sM → sG → Prop} {M : sM} {G : sG} {a0 : Nat} {x1 : Int} {x2 : Int}  (k1 : x1 = 42 → sW (sC d) 37 Q 48 [vO 7 a0, vI x1, vI x2, vN] [] M G 0 0) (k2 : x1 ≠ 42 → sW (sC d) 37 Q 42 [vO 7 a0, vI x1, vI x2, vN] [] M G 0 0) : sW (sC d) 37 Q 36 [vO 7 a0, vI x1, vI x2, vN] [] M G 0 0 := by
  refine q_iload_n 37 rfl (show sCode 37 36 = some (.iload_n 1, 1) by decide +kernel) rfl ?_
  refine q_bipush 39 rfl (show sCode 37 37 = some (.bipush 42, 2) by decide +kernel) ⟨by decide, by decide⟩ (by decide +kernel) ?_
  refine q_icmpeq 48 42 rfl (by decide) (show sCode 37 39 = some (.if_icmp .eq 9, 3) by decide +kernel) ?_ ?_
  · intro q; exact k1 q
  · intro q; exact k2 q
theorem b37_42 {d : Nat} {Q : Option sV → sM → sG → Prop} {M : sM} {G : sG} {a0 : Nat} {x1 : Int} {x2 : Int}  (k1 : x1 ≠ 47 → sW (sC d) 37 Q 52 [vO 7 a0, vI x1, vI x2, vN] [] M G 0 0) (k2 : x1 = 47 → sW (sC d) 37 Q 48 [vO 7 a0, vI x1, vI x2, vN] [] M G 0 0) : sW (sC d) 37 Q 42 [vO 7 a0, vI x1, vI x2, vN] [] M G 0 0 := by
  refine q_iload_n 43 rfl (show sCode 37 42 = some (.iload_n 1, 1) by decide +kernel) rfl ?_
  refine q_bipush 45 rfl (show sCode 37 43 = some (.bipush 47, 2) by decide +kernel) ⟨by decide, by decide⟩ (by decide +kernel) ?_
  refine q_icmpne 52 48 rfl (by decide) (show sCode 37 45 = some (.if_icmp .ne 7, 3) by decide +kernel) ?_ ?_
  · intro q; exact k1 q
  · intro q; exact k2 q
theorem b37_48 {d : Nat} {Q : Option sV → sM → sG → Prop} {M : sM} {G : sG} {a0 : Nat} {x1 : Int} {x2 : Int}  (kk : sW (sC d) 37 Q 53 [vO 7 a0, vI x1, vI x2, vN] [vI 1] M G 0 0) : sW (sC d) 37 Q 48 [vO 7 a0, vI x1, vI x2, vN] [] M G 0 0 := by
  refine q_iconst 49 rfl (show sCode 37 48 = some (.iconst 1, 1) by decide +kernel) ⟨by decide, by decide⟩ ?_
  refine q_goto 53 (by decide) (show sCode 37 49 = some (.goto 4, 3) by decide +kernel) ?_
  exact kk
theorem b37_52 {d : Nat} {Q : Option sV → sM → sG → Prop} {M : sM} {G : sG} {a0 : Nat} {x1 : Int} {x2 : Int}  (kk : sW (sC d) 37 Q 53 [vO 7 a0, vI x1, vI x2, vN] [vI 0] M G 0 0) : sW (sC d) 37 Q 52 [vO 7 a0, vI x1, vI x2, vN] [] M G 0 0 := by
  refine q_iconst 53 rfl (show sCode 37 52 = some (.iconst 0, 1) by decide +kernel) ⟨by decide, by decide⟩ ?_
  exact kk
theorem b37_53 {d : Nat} {Q : Option sV → sM → sG → Prop} {M : sM} {G : sG} {a0 : Nat} {x1 : Int} {x2 : Int} {s0 : Int}  (k1 : M a0 14 ≠ 0 → sW (sC d) 37 Q 68 [vO 7 a0, vI x1, vI x2, vI s0] [] M G 0 0) (k2 : M a0 14 = 0 → sW (sC d) 37 Q 61 [vO 7 a0, vN, vN, vN] [] M G 0 0) : sW (sC d) 37 Q 53 [vO 7 a0, vI x1, vI x2, vN] [vI s0] M G 0 0 := by
  refine q_istore_n [vO 7 a0, vI x1, vI x2, vI s0] 54 rfl (show sCode 37 53 = some (.istore_n 3, 1) by decide +kernel) (Nat.lt_of_lt_of_le (Nat.lt_succ_self _) (Nat.le_of_ble_eq_true rfl)) rfl rfl ?_
  refine q_aload_n 55 rfl (show sCode 37 54 = some (.aload_n 0, 1) by decide +kernel) rfl (Nat.le_of_ble_eq_true rfl) ?_
  refine q_getI 58 rfl (show sCode 37 55 = some (.getfield 61, 3) by decide +kernel) (show sFR (sKo 37).1 61 = some (7, 14) by decide +kernel) (by decide +kernel) (Or.inl (Or.inl rfl)) ?_
  refine q_ifne 68 61 rfl (by decide) (show sCode 37 58 = some (.ifCond .ne 10, 3) by decide +kernel) ?_ ?_
  · intro q; exact k1 q
  · intro q; refine q_forget (L' := [vO 7 a0, vN, vI x2, vI s0]) 1 rfl ?_; refine q_forget (L' := [vO 7 a0, vN, vN, vI s0]) 2 rfl ?_; refine q_forget (L' := [vO 7 a0, vN, vN, vN]) 3 rfl ?_; exact k2 q
theorem b37_61 {d : Nat} {Q : Option sV → sM → sG → Prop} {M : sM} {G : sG} {a0 : Nat}  (kk : sC d 38 [vO 7 a0] M G (QV (fun M1 G1 => sW (sC d) 37 Q 65 [vN, vN, vN, vN] [] M1 G1 0 0))) : sW (sC d) 37 Q 61 [vO 7 a0, vN, vN, vN] [] M G 0 0 := by
  refine q_aload_n 62 rfl (show sCode 37 61 = some (.aload_n 0, 1) by decide +kernel) rfl (Nat.le_of_ble_eq_true rfl) ?_
  refine q_forget (L' := [vN, vN, vN, vN]) 0 rfl ?_
  exact q_virtV [] 65 rfl (show sCode 37 62 = some (.invokevirtual 88, 3) by decide +kernel) (show sMR (sKo 37).1 88 = some 38 by decide +kernel) (show 38 < 1000 ∧ sStat 38 = false ∧ sIni 38 = false ∧ sKo 38 = (7, 0, 0, 0, 0) by decide +kernel) rfl (Or.inl rfl) rfl (Nat.le_of_ble_eq_true rfl) rfl rfl rfl (by decide +kernel) kk
theorem b37_65 {d : Nat} {Q : Option sV → sM → sG → Prop} {M : sM} {G : sG}   (kk : sW (sC d) 37 Q 156 [vN, vN, vN, vN] [] M G 0 0) : sW (sC d) 37 Q 65 [vN, vN, vN, vN] [] M G 0 0 := by
  refine q_goto 156 (by decide) (show sCode 37 65 = some (.goto 91, 3) by decide +kernel) ?_
  exact kk
theorem b37_68 {d : Nat} {Q : Option sV → sM → sG → Prop} {M : sM} {G : sG} {a0 : Nat} {x1 : Int} {x2 : Int} {x3 : Int}  (k1 : M a0 14 ≠ 1 → sW (sC d) 37 Q 98 [vO 7 a0, vI x1, vN, vI x3] [] M G 0 0) (k2 : M a0 14 = 1 → sW (sC d) 37 Q 76 [vO 7 a0, vI x1, vI x2, vI x3] [] M G 0 0) : sW (sC d) 37 Q 68 [vO 7 a0, vI x1, vI x2, vI x3] [] M G 0 0 := by
  refine q_aload_n 69 rfl (show sCode 37 68 = some (.aload_n 0, 1) by decide +kernel) rfl (Nat.le_of_ble_eq_true rfl) ?_
  refine q_getI 72 rfl (show sCode 37 69 = some (.getfield 61, 3) by decide +kernel) (show sFR (sKo 37).1 61 = some (7, 14) by decide +kernel) (by decide +kernel) (Or.inl (Or.inl rfl)) ?_
  refine q_iconst 73 rfl (show sCode 37 72 = some (.iconst 1, 1) by decide +kernel) ⟨by decide, by decide⟩ ?_
  refine q_icmpne 98 76 rfl (by decide) (show sCode 37 73 = some (.if_icmp .ne 25, 3) by decide +kernel) ?_ ?_
  · intro q; refine q_forget (L' := [vO 7 a0, vI x1, vN, vI x3]) 2 rfl ?_; exact k1 q
  · intro q; exact k2 q
theorem b37_76 {d : Nat} {Q : Option sV → sM → sG → Prop} {M : sM} {G : sG} {a0 : Nat} {x1 : Int} {x2 : Int} {x3 : Int}  (k1 : x2 = 0 → sW (sC d) 37 Q 98 [vO 7 a0, vI x1, vN, vI x3] [] M G 0 0) (k2 : x2 ≠ 0 → sW (sC d) 37 Q 80 [vO 7 a0, vI x1, vN, vN] [] M G 0 0) : sW (sC d) 37 Q 76 [vO 7 a0, vI x1, vI x2, vI x3] [] M G 0 0 := by
  refine q_iload_n 77 rfl (show sCode 37 76 = some (.iload_n 2, 1) by decide +kernel) rfl ?_
  refine q_ifeq 98 80 rfl (by decide) (show sCode 37 77 = some (.ifCond .eq 21, 3) by decide +kernel) ?_ ?_
  · intro q; refine q_forget (L' := [vO 7 a0, vI x1, vN, vI x3]) 2 rfl ?_; exact k1 q
  · intro q; refine q_forget (L' := [vO 7 a0, vI x1, vN, vI x3]) 2 rfl ?_; refine q_forget (L' := [vO 7 a0, vI x1, vN, vN]) 3 rfl ?_; exact k2 q
theorem b37_80 {d : Nat} {Q : Option sV → sM → sG → Prop} {M : sM} {G : sG} {a0 : Nat} {x1 : Int}  (k1 : x1 ≠ 91 → sW (sC d) 37 Q 91 [vN, vN, vN, vN] [vO 7 a0] M G 0 0) (k2 : x1 = 91 → sW (sC d) 37 Q 87 [vN, vN, vN, vN] [vO 7 a0] M G 0 0) : sW (sC d) 37 Q 80 [vO 7 a0, vI x1, vN, vN] [] M G 0 0 := by
  refine q_aload_n 81 rfl (show sCode 37 80 = some (.aload_n 0, 1) by decide +kernel) rfl (Nat.le_of_ble_eq_true rfl) ?_
  refine q_iload_n 82 rfl (show sCode 37 81 = some (.iload_n 1, 1) by decide +kernel) rfl ?_
  refine q_bipush 84 rfl (show sCode 37 82 = some (.bipush 91, 2) by decide +kernel) ⟨by decide, by decide⟩ (by decide +kernel) ?_
  refine q_icmpne 91 87 rfl (by decide) (show sCode 37 84 = some (.if_icmp .ne 7, 3) by decide +kernel) ?_ ?_
  · intro q; refine q_forget (L' := [vN, vI x1, vN, vN]) 0 rfl ?_; refine q_forget (L' := [vN, vN, vN, vN]) 1 rfl ?_; exact k1 q
  · intro q; refine q_forget (L' := [vN, vI x1, vN, vN]) 0 rfl ?_; refine q_forget (L' := [vN, vN, vN, vN]) 1 rfl ?_; exact k2 q
theorem b37_87 {d : Nat} {Q : Option sV → sM → sG → Prop} {M : sM} {G : sG} {sa0 : Nat}  (kk : sW (sC d) 37 Q 92 [vN, vN, vN, vN] [vI 1, vO 7 sa0] M G 0 0) : sW (sC d) 37 Q 87 [vN, vN, vN, vN] [vO 7 sa0] M G 0 0 := by
  refine q_iconst 88 rfl (show sCode 37 87 = some (.iconst 1, 1) by decide +kernel) ⟨by decide, by decide⟩ ?_
  refine q_goto 92 (by decide) (show sCode 37 88 = some (.goto 4, 3) by decide +kernel) ?_
  exact kk
theorem b37_91 {d : Nat} {Q : Option sV → sM → sG → Prop} {M : sM} {G : sG} {sa0 : Nat}  (kk : sW (sC d) 37 Q 92 [vN, vN, vN, vN] [vI 0, vO 7 sa0] M G 0 0) : sW (sC d) 37 Q 91 [vN, vN, vN, vN] [vO 7 sa0] M G 0 0 := by
  refine q_iconst 92 rfl (show sCode 37 91 = some (.iconst 0, 1) by decide +kernel) ⟨by decide, by decide⟩ ?_
  exact kk
theorem b37_92 {d : Nat} {Q : Option sV → sM → sG → Prop} {M : sM} {G : sG} {s0 : Int} {sa1 : Nat}  (kk : sC d 39 [vO 7 sa1, vI s0] M G (QV (fun M1 G1 => sW (sC d) 37 Q 95 [vN, vN, vN, vN] [] M1 G1 0 0))) : sW (sC d) 37 Q 92 [vN, vN, vN, vN] [vI s0, vO 7 sa1] M G 0 0 := by
  exact q_virtV [vI s0] 95 rfl (show sCode 37 92 = some (.invokevirtual 91, 3) by decide +kernel) (show sMR (sKo 37).1 91 = some 39 by decide +kernel) (show 39 < 1000 ∧ sStat 39 = false ∧ sIni 39 = false ∧ sKo 39 = (7, 1, 0, 0, 0) by decide +kernel) rfl (Or.inl rfl) rfl (Nat.le_of_ble_eq_true rfl) rfl rfl rfl (by decide +kernel) kk
theorem b37_95 {d : Nat} {Q : Option sV → sM → sG → Prop} {M : sM} {G : sG}   (kk : sW (sC d) 37 Q 156 [vN, vN, vN, vN] [] M G 0 0) : sW (sC d) 37 Q 95 [vN, vN, vN, vN] [] M G 0 0 := by
  refine q_goto 156 (by decide) (show sCode 37 95 = some (.goto 61, 3) by decide +kernel) ?_
  exact kk
theorem b37_98 {d : Nat} {Q : Option sV → sM → sG → Prop} {M : sM} {G : sG} {a0 : Nat} {x1 : Int} {x3 : Int}  (k1 : 3 < M a0 14 → sW (sC d) 37 Q 114 [vO 7 a0, vI x1, vN, vI x3] [] M G 0 0) (k2 : M a0 14 ≤ 3 → sW (sC d) 37 Q 106 [vO 7 a0, vI x1, vN, vN] [] M G 0 0) : sW (sC d) 37 Q 98 [vO 7 a0, vI x1, vN, vI x3] [] M G 0 0 := by
  refine q_aload_n 99 rfl (show sCode 37 98 = some (.aload_n 0, 1) by decide +kernel) rfl (Nat.le_of_ble_eq_true rfl) ?_
  refine q_getI 102 rfl (show sCode 37 99 = some (.getfield 61, 3) by decide +kernel) (show sFR (sKo 37).1 61 = some (7, 14) by decide +kernel) (by decide +kernel) (Or.inl (Or.inl rfl)) ?_
  refine q_iconst 103 rfl (show sCode 37 102 = some (.iconst 3, 1) by decide +kernel) ⟨by decide, by decide⟩ ?_
  refine q_icmpgt 114 106 rfl (by decide) (show sCode 37 103 = some (.if_icmp .gt 11, 3) by decide +kernel) ?_ ?_
  · intro q; exact k1 q
  · intro q; refine q_forget (L' := [vO 7 a0, vI x1, vN, vN]) 3 rfl ?_; exact k2 q
theorem b37_106 {d : Nat} {Q : Option sV → sM → sG → Prop} {M : sM} {G : sG} {a0 : Nat} {x1 : Int}  (kk : sC d 41 [vO 7 a0, vI x1] M G (QV (fun M1 G1 => sW (sC d) 37 Q 111 [vN, vN, vN, vN] [] M1 G1 0 0))) : sW (sC d) 37 Q 106 [vO 7 a0, vI x1, vN, vN] [] M G 0 0 := by
  refine q_aload_n 107 rfl (show sCode 37 106 = some (.aload_n 0, 1) by decide +kernel) rfl (Nat.le_of_ble_eq_true rfl) ?_
  refine q_iload_n 108 rfl (show sCode 37 107 = some (.iload_n 1, 1) by decide +kernel) rfl ?_
  refine q_forget (L' := [vN, vI x1, vN, vN]) 0 rfl ?_
  refine q_forget (L' := [vN, vN, vN, vN]) 1 rfl ?_
  exact q_virtV [vI x1] 111 rfl (show sCode 37 108 = some (.invokevirtual 95, 3) by decide +kernel) (show sMR (sKo 37).1 95 = some 41 by decide +kernel) (show 41 < 1000 ∧ sStat 41 = false ∧ sIni 41 = false ∧ sKo 41 = (7, 1, 0, 0, 0) by decide +kernel) rfl (Or.inl rfl) rfl (Nat.le_of_ble_eq_true rfl) rfl rfl rfl (by decide +kernel) kk
theorem b37_111 {d : Nat} {Q : Option sV → sM → sG → Prop} {M : sM} {G : sG}   (kk : sW (sC d) 37 Q 156 [vN, vN, vN, vN] [] M G 0 0) : sW (sC d) 37 Q 111 [vN, vN, vN, vN] [] M G 0 0 := by
  refine q_goto 156 (by decide) (show sCode 37 111 = some (.goto 45, 3) by decide +kernel) ?_
  exact kk
theorem b37_114 {d : Nat} {Q : Option sV → sM → sG → Prop} {M : sM} {G : sG} {a0 : Nat} {x1 : Int} {x3 : Int}  (k1 : x3 = 0 → sW (sC d) 37 Q 135 [vO 7 a0, vI x1, vN, vN] [] M G 0 0) (k2 : x3 ≠ 0 → sW (sC d) 37 Q 118 [vO 7 a0, vI x1, vN, vN] [] M G 0 0) : sW (sC d) 37 Q 114 [vO 7 a0, vI x1, vN, vI x3] [] M G 0 0 := by
  refine q_iload_n 115 rfl (show sCode 37 114 = some (.iload_n 3, 1) by decide +kernel) rfl ?_
  refine q_ifeq 135 118 rfl (by decide) (show sCode 37 115 = some (.ifCond .eq 20, 3) by decide +kernel) ?_ ?_
  · intro q; refine q_forget (L' := [vO 7 a0, vI x1, vN, vN]) 3 rfl ?_; exact k1 q
  · intro q; refine q_forget (L' := [vO 7 a0, vI x1, vN, vN]) 3 rfl ?_; exact k2 q
theorem b37_118 {d : Nat} {Q : Option sV → sM → sG → Prop} {M : sM} {G : sG} {a0 : Nat} {x1 : Int}  (k1 : M a0 14 = 6 → sW (sC d) 37 Q 135 [vO 7 a0, vI x1, vN, vN] [] M G 0 0) (k2 : M a0 14 ≠ 6 → sW (sC d) 37 Q 127 [vO 7 a0, vI x1, vN, vN] [] M G 0 0) : sW (sC d) 37 Q 118 [vO 7 a0, vI x1, vN, vN] [] M G 0 0 := by
  refine q_aload_n 119 rfl (show sCode 37 118 = some (.aload_n 0, 1) by decide +kernel) rfl (Nat.le_of_ble_eq_true rfl) ?_
  refine q_getI 122 rfl (show sCode 37 119 = some (.getfield 61, 3) by decide +kernel) (show sFR (sKo 37).1 61 = some (7, 14) by decide +kernel) (by decide +kernel) (Or.inl (Or.inl rfl)) ?_
  refine q_bipush 124 rfl (show sCode 37 122 = some (.bipush 6, 2) by decide +kernel) ⟨by decide, by decide⟩ (by decide +kernel) ?_
  refine q_icmpeq 135 127 rfl (by decide) (show sCode 37 124 = some (.if_icmp .eq 11, 3) by decide +kernel) ?_ ?_
  · intro q; exact k1 q
  · intro q; exact k2 q
theorem b37_127 {d : Nat} {Q : Option sV → sM → sG → Prop} {M : sM} {G : sG} {a0 : Nat} {x1 : Int}  (kk : sC d 45 [vO 7 a0, vI x1] M G (QV (fun M1 G1 => sW (sC d) 37 Q 132 [vN, vN, vN, vN] [] M1 G1 0 0))) : sW (sC d) 37 Q 127 [vO 7 a0, vI x1, vN, vN] [] M G 0 0 := by
  refine q_aload_n 128 rfl (show sCode 37 127 = some (.aload_n 0, 1) by decide +kernel) rfl (Nat.le_of_ble_eq_true rfl) ?_
  refine q_iload_n 129 rfl (show sCode 37 128 = some (.iload_n 1, 1) by decide +kernel) rfl ?_
  refine q_forget (L' := [vN, vI x1, vN, vN]) 0 rfl ?_
  refine q_forget (L' := [vN, vN, vN, vN]) 1 rfl ?_
  exact q_virtV [vI x1] 132 rfl (show sCode 37 129 = some (.invokevirtual 98, 3) by decide +kernel) (show sMR (sKo 37).1 98 = some 45 by decide +kernel) (show 45 < 1000 ∧ sStat 45 = false ∧ sIni 45 = false ∧ sKo 45 = (7, 1, 0, 0, 0) by decide +kernel) rfl (Or.inl rfl) rfl (Nat.le_of_ble_eq_true rfl) rfl rfl rfl (by decide +kernel) kk
theorem b37_132 {d : Nat} {Q : Option sV → sM → sG → Prop} {M : sM} {G : sG}   (kk : sW (sC d) 37 Q 156 [vN, vN, vN, vN] [] M G 0 0) : sW (sC d) 37 Q 132 [vN, vN, vN, vN] [] M G 0 0 := by
  refine q_goto 156 (by decide) (show sCode 37 132 = some (.goto 24, 3) by decide +kernel) ?_
  exact kk
theorem b37_135 {d : Nat} {Q : Option sV → sM → sG → Prop} {M : sM} {G : sG} {a0 : Nat} {x1 : Int}  (k1 : M a0 14 ≠ 4 → sW (sC d) 37 Q 151 [vO 7 a0, vI x1, vN, vN] [] M G 0 0) (k2 : M a0 14 = 4 → sW (sC d) 37 Q 143 [vO 7 a0, vI x1, vN, vN] [] M G 0 0) : sW (sC d) 37 Q 135 [vO 7 a0, vI x1, vN, vN] [] M G 0 0 := by
  refine q_aload_n 136 rfl (show sCode 37 135 = some (.aload_n 0, 1) by decide +kernel) rfl (Nat.le_of_ble_eq_true rfl) ?_
  refine q_getI 139 rfl (show sCode 37 136 = some (.getfield 61, 3) by decide +kernel) (show sFR (sKo 37).1 61 = some (7, 14) by decide +kernel) (by decide +kernel) (Or.inl (Or.inl rfl)) ?_
  refine q_iconst 140 rfl (show sCode 37 139 = some (.iconst 4, 1) by decide +kernel) ⟨by decide, by decide⟩ ?_
  refine q_icmpne 151 143 rfl (by decide) (show sCode 37 140 = some (.if_icmp .ne 11, 3) by decide +kernel) ?_ ?_
  · intro q; exact k1 q
  · intro q; exact k2 q
theorem b37_143 {d : Nat} {Q : Option sV → sM → sG → Prop} {M : sM} {G : sG} {a0 : Nat} {x1 : Int}  (kk : sC d 47 [vO 7 a0, vI x1] M G (QV (fun M1 G1 => sW (sC d) 37 Q 148 [vN, vN, vN, vN] [] M1 G1 0 0))) : sW (sC d) 37 Q 143 [vO 7 a0, vI x1, vN, vN] [] M G 0 0 := by
  refine q_aload_n 144 rfl (show sCode 37 143 = some (.aload_n 0, 1) by decide +kernel) rfl (Nat.le_of_ble_eq_true rfl) ?_
  refine q_iload_n 145 rfl (show sCode 37 144 = some (.iload_n 1, 1) by decide +kernel) rfl ?_
  refine q_forget (L' := [vN, vI x1, vN, vN]) 0 rfl ?_
  refine q_forget (L' := [vN, vN, vN, vN]) 1 rfl ?_
  exact q_virtV [vI x1] 148 rfl (show sCode 37 145 = some (.invokevirtual 101, 3) by decide +kernel) (show sMR (sKo 37).1 101 = some 47 by decide +kernel) (show 47 < 1000 ∧ sStat 47 = false ∧ sIni 47 = false ∧ sKo 47 = (7, 1, 0, 0, 0) by decide +kernel) rfl (Or.inl rfl) rfl (Nat.le_of_ble_eq_true rfl) rfl rfl rfl (by decide +kernel) kk
theorem b37_148 {d : Nat} {Q : Option sV → sM → sG → Prop} {M : sM} {G : sG}   (kk : sW (sC d) 37 Q 156 [vN, vN, vN, vN] [] M G 0 0) : sW (sC d) 37 Q 148 [vN, vN, vN, vN] [] M G 0 0 := by
  refine q_goto 156 (by decide) (show sCode 37 148 = some (.goto 8, 3) by decide +kernel) ?_
  exact kk
theorem b37_151 {d : Nat} {Q : Option sV → sM → sG → Prop} {M : sM} {G : sG} {a0 : Nat} {x1 : Int}  (kk : sC d 49 [vO 7 a0, vI x1] M G (QV (fun M1 G1 => sW (sC d) 37 Q 156 [vN, vN, vN, vN] [] M1 G1 0 0))) : sW (sC d) 37 Q 151 [vO 7 a0, vI x1, vN, vN] [] M G 0 0 := by
  refine q_aload_n 152 rfl (show sCode 37 151 = some (.aload_n 0, 1) by decide +kernel) rfl (Nat.le_of_ble_eq_true rfl) ?_
  refine q_iload_n 153 rfl (show sCode 37 152 = some (.iload_n 1, 1) by decide +kernel) rfl ?_
  refine q_forget (L' := [vN, vI x1, vN, vN]) 0 rfl ?_
  refine q_forget (L' := [vN, vN, vN, vN]) 1 rfl ?_
  exact q_virtV [vI x1] 156 rfl (show sCode 37 153 = some (.invokevirtual 104, 3) by decide +kernel) (show sMR (sKo 37).1 104 = some 49 by decide +kernel) (show 49 < 1000 ∧ sStat 49 = false ∧ sIni 49 = false ∧ sKo 49 = (7, 1, 0, 0, 0) by decide +kernel) rfl (Or.inl rfl) rfl (Nat.le_of_ble_eq_true rfl) rfl rfl rfl (by decide +kernel) kk
theorem b37_156 {d : Nat} {P : sM → sG → Prop} {M : sM} {G : sG}   (kk : P M G) : sW (sC d) 37 (QV P) 156 [vN, vN, vN, vN] [] M G 0 0 := by
  exact q_vret (show sCode 37 156 = some (.return_, 1) by decide +kernel) (by decide +kernel) (by decide +kernel) kk
-- 38 AfterTheLast$RuleReader.readClauseWord ()V
theorem b38_0 {d : Nat} {Q : Option sV → sM → sG → Prop} {M : sM} {G : sG} {a0 : Nat}  (kk : sC d 23 [vO 4 (a0 + 1), vS 6] M G (QI (fun r M1 G1 => sW (sC d) 38 Q 11 [vO 7 a0, vI (-1)] (vI r :: []) M1 G1 0 0))) : sW (sC d) 38 Q 0 [vO 7 a0, vN] [] M G 0 0 := by
  refine q_iconst 1 rfl (show sCode 38 0 = some (.iconst (-1), 1) by decide +kernel) ⟨by decide, by decide⟩ ?_
  refine q_istore_n [vO 7 a0, vI (-1)] 2 rfl (show sCode 38 1 = some (.istore_n 1, 1) by decide +kernel) (Nat.lt_of_lt_of_le (Nat.lt_succ_self _) (Nat.le_of_ble_eq_true rfl)) rfl rfl ?_
  refine q_aload_n 3 rfl (show sCode 38 2 = some (.aload_n 0, 1) by decide +kernel) rfl (Nat.le_of_ble_eq_true rfl) ?_
  refine q_getR (vO 4 (a0 + 1)) 6 rfl (show sCode 38 3 = some (.getfield 12, 3) by decide +kernel) (show sFR (sKo 38).1 12 = some (7, 0) by decide +kernel) (by decide +kernel) (Or.inl (Or.inl rfl)) rfl ?_
  refine q_ldcS 8 rfl (show sCode 38 6 = some (.ldc 107, 2) by decide +kernel) (show sSR (sKo 38).1 107 = some 6 by decide +kernel) ?_
  exact q_virtI [vS 6] 11 rfl (show sCode 38 8 = some (.invokevirtual 84, 3) by decide +kernel) (show sMR (sKo 38).1 84 = some 23 by decide +kernel) (show 23 < 1000 ∧ sStat 23 = false ∧ sIni 23 = false ∧ sKo 23 = (4, 1, 2, 0, 0) by decide +kernel) rfl (Or.inl rfl) rfl (Nat.le_of_ble_eq_true rfl) rfl rfl rfl (by decide +kernel) kk
theorem b38_11 {d : Nat} {Q : Option sV → sM → sG → Prop} {M : sM} {G : sG} {a0 : Nat} {x1 : Int} {s0 : Int}  (k1 : s0 = 0 → sW (sC d) 38 Q 19 [vO 7 a0, vI x1] [] M G 0 0) (k2 : s0 ≠ 0 → sW (sC d) 38 Q 14 [vO 7 a0, vN] [] M G 0 0) : sW (sC d) 38 Q 11 [vO 7 a0, vI x1] [vI s0] M G 0 0 := by
  refine q_ifeq 19 14 rfl (by decide) (show sCode 38 11 = some (.ifCond .eq 8, 3) by decide +kernel) ?_ ?_
  · intro q; exact k1 q
  · intro q; refine q_forget (L' := [vO 7 a0, vN]) 1 rfl ?_; exact k2 q
theorem b38_14 {d : Nat} {Q : Option sV → sM → sG → Prop} {M : sM} {G : sG} {a0 : Nat}  (kk : sW (sC d) 38 Q 50 [vO 7 a0, vI 0] [] M G 0 0) : sW (sC d) 38 Q 14 [vO 7 a0, vN] [] M G 0 0 := by
  refine q_iconst 15 rfl (show sCode 38 14 = some (.iconst 0, 1) by decide +kernel) ⟨by decide, by decide⟩ ?_
  refine q_istore_n [vO 7 a0, vI 0] 16 rfl (show sCode 38 15 = some (.istore_n 1, 1) by decide +kernel) (Nat.lt_of_lt_of_le (Nat.lt_succ_self _) (Nat.le_of_ble_eq_true rfl)) rfl rfl ?_
  refine q_goto 50 (by decide) (show sCode 38 16 = some (.goto 34, 3) by decide +kernel) ?_
  exact kk
theorem b38_19 {d : Nat} {Q : Option sV → sM → sG → Prop} {M : sM} {G : sG} {a0 : Nat} {x1 : Int}  (kk : sC d 23 [vO 4 (a0 + 1), vS 7] M G (QI (fun r M1 G1 => sW (sC d) 38 Q 28 [vO 7 a0, vI x1] (vI r :: []) M1 G1 0 0))) : sW (sC d) 38 Q 19 [vO 7 a0, vI x1] [] M G 0 0 := by
  refine q_aload_n 20 rfl (show sCode 38 19 = some (.aload_n 0, 1) by decide +kernel) rfl (Nat.le_of_ble_eq_true rfl) ?_
  refine q_getR (vO 4 (a0 + 1)) 23 rfl (show sCode 38 20 = some (.getfield 12, 3) by decide +kernel) (show sFR (sKo 38).1 12 = some (7, 0) by decide +kernel) (by decide +kernel) (Or.inl (Or.inl rfl)) rfl ?_
  refine q_ldcS 25 rfl (show sCode 38 23 = some (.ldc 109, 2) by decide +kernel) (show sSR (sKo 38).1 109 = some 7 by decide +kernel) ?_
  exact q_virtI [vS 7] 28 rfl (show sCode 38 25 = some (.invokevirtual 84, 3) by decide +kernel) (show sMR (sKo 38).1 84 = some 23 by decide +kernel) (show 23 < 1000 ∧ sStat 23 = false ∧ sIni 23 = false ∧ sKo 23 = (4, 1, 2, 0, 0) by decide +kernel) rfl (Or.inl rfl) rfl (Nat.le_of_ble_eq_true rfl) rfl rfl rfl (by decide +kernel) kk
theorem b38_28 {d : Nat} {Q : Option sV → sM → sG → Prop} {M : sM} {G : sG} {a0 : Nat} {x1 : Int} {s0 : Int}  (k1 : s0 = 0 → sW (sC d) 38 Q 36 [vO 7 a0, vI x1] [] M G 0 0) (k2 : s0 ≠ 0 → sW (sC d) 38 Q 31 [vO 7 a0, vN] [] M G 0 0) : sW (sC d) 38 Q 28 [vO 7 a0, vI x1] [vI s0] M G 0 0 := by
  refine q_ifeq 36 31 rfl (by decide) (show sCode 38 28 = some (.ifCond .eq 8, 3) by decide +kernel) ?_ ?_
  · intro q; exact k1 q
  · intro q; refine q_forget (L' := [vO 7 a0, vN]) 1 rfl ?_; exact k2 q
theorem b38_31 {d : Nat} {Q : Option sV → sM → sG → Prop} {M : sM} {G : sG} {a0 : Nat}  (kk : sW (sC d) 38 Q 50 [vO 7 a0, vI 1] [] M G 0 0) : sW (sC d) 38 Q 31 [vO 7 a0, vN] [] M G 0 0 := by
  refine q_iconst 32 rfl (show sCode 38 31 = some (.iconst 1, 1) by decide +kernel) ⟨by decide, by decide⟩ ?_
  refine q_istore_n [vO 7 a0, vI 1] 33 rfl (show sCode 38 32 = some (.istore_n 1, 1) by decide +kernel) (Nat.lt_of_lt_of_le (Nat.lt_succ_self _) (Nat.le_of_ble_eq_true rfl)) rfl rfl ?_
  refine q_goto 50 (by decide) (show sCode 38 33 = some (.goto 17, 3) by decide +kernel) ?_
  exact kk
theorem b38_36 {d : Nat} {Q : Option sV → sM → sG → Prop} {M : sM} {G : sG} {a0 : Nat} {x1 : Int}  (kk : sC d 23 [vO 4 (a0 + 1), vS 8] M G (QI (fun r M1 G1 => sW (sC d) 38 Q 45 [vO 7 a0, vI x1] (vI r :: []) M1 G1 0 0))) : sW (sC d) 38 Q 36 [vO 7 a0, vI x1] [] M G 0 0 := by
  refine q_aload_n 37 rfl (show sCode 38 36 = some (.aload_n 0, 1) by decide +kernel) rfl (Nat.le_of_ble_eq_true rfl) ?_
  refine q_getR (vO 4 (a0 + 1)) 40 rfl (show sCode 38 37 = some (.getfield 12, 3) by decide +kernel) (show sFR (sKo 38).1 12 = some (7, 0) by decide +kernel) (by decide +kernel) (Or.inl (Or.inl rfl)) rfl ?_
  refine q_ldcS 42 rfl (show sCode 38 40 = some (.ldc 111, 2) by decide +kernel) (show sSR (sKo 38).1 111 = some 8 by decide +kernel) ?_
  exact q_virtI [vS 8] 45 rfl (show sCode 38 42 = some (.invokevirtual 84, 3) by decide +kernel) (show sMR (sKo 38).1 84 = some 23 by decide +kernel) (show 23 < 1000 ∧ sStat 23 = false ∧ sIni 23 = false ∧ sKo 23 = (4, 1, 2, 0, 0) by decide +kernel) rfl (Or.inl rfl) rfl (Nat.le_of_ble_eq_true rfl) rfl rfl rfl (by decide +kernel) kk
theorem b38_45 {d : Nat} {Q : Option sV → sM → sG → Prop} {M : sM} {G : sG} {a0 : Nat} {x1 : Int} {s0 : Int}  (k1 : s0 = 0 → sW (sC d) 38 Q 50 [vO 7 a0, vI x1] [] M G 0 0) (k2 : s0 ≠ 0 → sW (sC d) 38 Q 48 [vO 7 a0, vN] [] M G 0 0) : sW (sC d) 38 Q 45 [vO 7 a0, vI x1] [vI s0] M G 0 0 := by
  refine q_ifeq 50 48 rfl (by decide) (show sCode 38 45 = some (.ifCond .eq 5, 3) by decide +kernel) ?_ ?_
  · intro q; exact k1 q
  · intro q; refine q_forget (L' := [vO 7 a0, vN]) 1 rfl ?_; exact k2 q
theorem b38_48 {d : Nat} {Q : Option sV → sM → sG → Prop} {M : sM} {G : sG} {a0 : Nat}  (kk : sW (sC d) 38 Q 50 [vO 7 a0, vI 2] [] M G 0 0) : sW (sC d) 38 Q 48 [vO 7 a0, vN] [] M G 0 0 := by
  refine q_iconst 49 rfl (show sCode 38 48 = some (.iconst 2, 1) by decide +kernel) ⟨by decide, by decide⟩ ?_
  refine q_istore_n [vO 7 a0, vI 2] 50 rfl (show sCode 38 49 = some (.istore_n 1, 1) by decide +kernel) (Nat.lt_of_lt_of_le (Nat.lt_succ_self _) (Nat.le_of_ble_eq_true rfl)) rfl rfl ?_
  exact kk
theorem b38_50 {d : Nat} {Q : Option sV → sM → sG → Prop} {M : sM} {G : sG} {a0 : Nat} {x1 : Int}  (k1 : x1 ≠ (-1) → sW (sC d) 38 Q 66 [vO 7 a0, vI x1] [] M G 0 0) (k2 : x1 = (-1) → sW (sC d) 38 Q 55 [vO 7 a0, vN] [] M G 0 0) : sW (sC d) 38 Q 50 [vO 7 a0, vI x1] [] M G 0 0 := by
  refine q_iload_n 51 rfl (show sCode 38 50 = some (.iload_n 1, 1) by decide +kernel) rfl ?_
  refine q_iconst 52 rfl (show sCode 38 51 = some (.iconst (-1), 1) by decide +kernel) ⟨by decide, by decide⟩ ?_
  refine q_icmpne 66 55 rfl (by decide) (show sCode 38 52 = some (.if_icmp .ne 14, 3) by decide +kernel) ?_ ?_
  · intro q; exact k1 q
  · intro q; refine q_forget (L' := [vO 7 a0, vN]) 1 rfl ?_; exact k2 q
theorem b38_55 {d : Nat} {Q : Option sV → sM → sG → Prop} {M : sM} {G : sG} {a0 : Nat}  (kk : sC d 24 [vO 4 (a0 + 1), vI 0] M G (QV (fun M1 G1 => sW (sC d) 38 Q 63 [vN, vN] [] M1 G1 0 0))) : sW (sC d) 38 Q 55 [vO 7 a0, vN] [] M G 0 0 := by
  refine q_aload_n 56 rfl (show sCode 38 55 = some (.aload_n 0, 1) by decide +kernel) rfl (Nat.le_of_ble_eq_true rfl) ?_
  refine q_getR (vO 4 (a0 + 1)) 59 rfl (show sCode 38 56 = some (.getfield 12, 3) by decide +kernel) (show sFR (sKo 38).1 12 = some (7, 0) by decide +kernel) (by decide +kernel) (Or.inl (Or.inl rfl)) rfl ?_
  refine q_iconst 60 rfl (show sCode 38 59 = some (.iconst 0, 1) by decide +kernel) ⟨by decide, by decide⟩ ?_
  refine q_forget (L' := [vN, vN]) 0 rfl ?_
  exact q_virtV [vI 0] 63 rfl (show sCode 38 60 = some (.invokevirtual 113, 3) by decide +kernel) (show sMR (sKo 38).1 113 = some 24 by decide +kernel) (show 24 < 1000 ∧ sStat 24 = false ∧ sIni 24 = false ∧ sKo 24 = (4, 1, 0, 0, 0) by decide +kernel) rfl (Or.inl rfl) rfl (Nat.le_of_ble_eq_true rfl) rfl rfl rfl (by decide +kernel) kk
theorem b38_63 {d : Nat} {Q : Option sV → sM → sG → Prop} {M : sM} {G : sG}   (kk : sW (sC d) 38 Q 119 [vN, vN] [] M G 0 0) : sW (sC d) 38 Q 63 [vN, vN] [] M G 0 0 := by
  refine q_goto 119 (by decide) (show sCode 38 63 = some (.goto 56, 3) by decide +kernel) ?_
  exact kk
theorem b38_66 {d : Nat} {Q : Option sV → sM → sG → Prop} {M : sM} {G : sG} {a0 : Nat} {x1 : Int}  (k1 : M a0 9 < 12 → sW (sC d) 38 Q 86 [vO 7 a0, vI x1] [] M G 0 0) (k2 : 12 ≤ M a0 9 → sW (sC d) 38 Q 75 [vO 7 a0, vN] [] M G 0 0) : sW (sC d) 38 Q 66 [vO 7 a0, vI x1] [] M G 0 0 := by
  refine q_aload_n 67 rfl (show sCode 38 66 = some (.aload_n 0, 1) by decide +kernel) rfl (Nat.le_of_ble_eq_true rfl) ?_
  refine q_getI 70 rfl (show sCode 38 67 = some (.getfield 46, 3) by decide +kernel) (show sFR (sKo 38).1 46 = some (7, 9) by decide +kernel) (by decide +kernel) (Or.inl (Or.inl rfl)) ?_
  refine q_bipush 72 rfl (show sCode 38 70 = some (.bipush 12, 2) by decide +kernel) ⟨by decide, by decide⟩ (by decide +kernel) ?_
  refine q_icmplt 86 75 rfl (by decide) (show sCode 38 72 = some (.if_icmp .lt 14, 3) by decide +kernel) ?_ ?_
  · intro q; exact k1 q
  · intro q; refine q_forget (L' := [vO 7 a0, vN]) 1 rfl ?_; exact k2 q
theorem b38_75 {d : Nat} {Q : Option sV → sM → sG → Prop} {M : sM} {G : sG} {a0 : Nat}  (kk : sC d 24 [vO 4 (a0 + 1), vI 4] M G (QV (fun M1 G1 => sW (sC d) 38 Q 83 [vN, vN] [] M1 G1 0 0))) : sW (sC d) 38 Q 75 [vO 7 a0, vN] [] M G 0 0 := by
  refine q_aload_n 76 rfl (show sCode 38 75 = some (.aload_n 0, 1) by decide +kernel) rfl (Nat.le_of_ble_eq_true rfl) ?_
  refine q_getR (vO 4 (a0 + 1)) 79 rfl (show sCode 38 76 = some (.getfield 12, 3) by decide +kernel) (show sFR (sKo 38).1 12 = some (7, 0) by decide +kernel) (by decide +kernel) (Or.inl (Or.inl rfl)) rfl ?_
  refine q_iconst 80 rfl (show sCode 38 79 = some (.iconst 4, 1) by decide +kernel) ⟨by decide, by decide⟩ ?_
  refine q_forget (L' := [vN, vN]) 0 rfl ?_
  exact q_virtV [vI 4] 83 rfl (show sCode 38 80 = some (.invokevirtual 113, 3) by decide +kernel) (show sMR (sKo 38).1 113 = some 24 by decide +kernel) (show 24 < 1000 ∧ sStat 24 = false ∧ sIni 24 = false ∧ sKo 24 = (4, 1, 0, 0, 0) by decide +kernel) rfl (Or.inl rfl) rfl (Nat.le_of_ble_eq_true rfl) rfl rfl rfl (by decide +kernel) kk
theorem b38_83 {d : Nat} {Q : Option sV → sM → sG → Prop} {M : sM} {G : sG}   (kk : sW (sC d) 38 Q 119 [vN, vN] [] M G 0 0) : sW (sC d) 38 Q 83 [vN, vN] [] M G 0 0 := by
  refine q_goto 119 (by decide) (show sCode 38 83 = some (.goto 36, 3) by decide +kernel) ?_
  exact kk
theorem b38_86 {d : Nat} {Q : Option sV → sM → sG → Prop} {M : sM} {G : sG} {a0 : Nat} {x1 : Int}  (k1 : x1 ≠ 2 → sW (sC d) 38 Q 100 [vO 7 a0, vI x1] [vO 4 (a0 + 1)] M G 0 0) (k2 : x1 = 2 → sW (sC d) 38 Q 95 [vO 7 a0, vI x1] [vO 4 (a0 + 1)] M G 0 0) : sW (sC d) 38 Q 86 [vO 7 a0, vI x1] [] M G 0 0 := by
  refine q_aload_n 87 rfl (show sCode 38 86 = some (.aload_n 0, 1) by decide +kernel) rfl (Nat.le_of_ble_eq_true rfl) ?_
  refine q_getR (vO 4 (a0 + 1)) 90 rfl (show sCode 38 87 = some (.getfield 12, 3) by decide +kernel) (show sFR (sKo 38).1 12 = some (7, 0) by decide +kernel) (by decide +kernel) (Or.inl (Or.inl rfl)) rfl ?_
  refine q_iload_n 91 rfl (show sCode 38 90 = some (.iload_n 1, 1) by decide +kernel) rfl ?_
  refine q_iconst 92 rfl (show sCode 38 91 = some (.iconst 2, 1) by decide +kernel) ⟨by decide, by decide⟩ ?_
  refine q_icmpne 100 95 rfl (by decide) (show sCode 38 92 = some (.if_icmp .ne 8, 3) by decide +kernel) ?_ ?_
  · intro q; exact k1 q
  · intro q; exact k2 q
theorem b38_95 {d : Nat} {Q : Option sV → sM → sG → Prop} {M : sM} {G : sG} {a0 : Nat} {x1 : Int} {sa0 : Nat}  (kk : sW (sC d) 38 Q 101 [vO 7 a0, vI x1] [vI 6, vO 4 sa0] M G 0 0) : sW (sC d) 38 Q 95 [vO 7 a0, vI x1] [vO 4 sa0] M G 0 0 := by
  refine q_bipush 97 rfl (show sCode 38 95 = some (.bipush 6, 2) by decide +kernel) ⟨by decide, by decide⟩ (by decide +kernel) ?_
  refine q_goto 101 (by decide) (show sCode 38 97 = some (.goto 4, 3) by decide +kernel) ?_
  exact kk
theorem b38_100 {d : Nat} {Q : Option sV → sM → sG → Prop} {M : sM} {G : sG} {a0 : Nat} {x1 : Int} {sa0 : Nat}  (kk : sW (sC d) 38 Q 101 [vO 7 a0, vI x1] [vI 4, vO 4 sa0] M G 0 0) : sW (sC d) 38 Q 100 [vO 7 a0, vI x1] [vO 4 sa0] M G 0 0 := by
  refine q_iconst 101 rfl (show sCode 38 100 = some (.iconst 4, 1) by decide +kernel) ⟨by decide, by decide⟩ ?_
  exact kk
theorem b38_101 {d : Nat} {Q : Option sV → sM → sG → Prop} {M : sM} {G : sG} {a0 : Nat} {x1 : Int} {s0 : Int} {sa1 : Nat}  (kk : sC d 26 [vO 4 sa1, vI s0] M G (QV (fun M1 G1 => sW (sC d) 38 Q 104 [vO 7 a0, vI x1] [] M1 G1 0 0))) : sW (sC d) 38 Q 101 [vO 7 a0, vI x1] [vI s0, vO 4 sa1] M G 0 0 := by
  exact q_virtV [vI s0] 104 rfl (show sCode 38 101 = some (.invokevirtual 116, 3) by decide +kernel) (show sMR (sKo 38).1 116 = some 26 by decide +kernel) (show 26 < 1000 ∧ sStat 26 = false ∧ sIni 26 = false ∧ sKo 26 = (4, 1, 0, 0, 0) by decide +kernel) rfl (Or.inl rfl) rfl (Nat.le_of_ble_eq_true rfl) rfl rfl rfl (by decide +kernel) kk
theorem b38_104 {d : Nat} {Q : Option sV → sM → sG → Prop} {M : sM} {G : sG} {a0 : Nat} {x1 : Int} (h1 : 0 ≤ M a0 9 ∧ M a0 9 < 12) (kk : sW (sC d) 38 Q 119 [vN, vN] [] (sUpd (sUpd M (a0 + 5) (M a0 9).toNat x1) a0 14 1) G 0 0) : sW (sC d) 38 Q 104 [vO 7 a0, vI x1] [] M G 0 0 := by
  refine q_aload_n 105 rfl (show sCode 38 104 = some (.aload_n 0, 1) by decide +kernel) rfl (Nat.le_of_ble_eq_true rfl) ?_
  refine q_getR (vA 0 (a0 + 5) 12) 108 rfl (show sCode 38 105 = some (.getfield 27, 3) by decide +kernel) (show sFR (sKo 38).1 27 = some (7, 3) by decide +kernel) (by decide +kernel) (Or.inl (Or.inl rfl)) rfl ?_
  refine q_aload_n 109 rfl (show sCode 38 108 = some (.aload_n 0, 1) by decide +kernel) rfl (Nat.le_of_ble_eq_true rfl) ?_
  refine q_getI 112 rfl (show sCode 38 109 = some (.getfield 46, 3) by decide +kernel) (show sFR (sKo 38).1 46 = some (7, 9) by decide +kernel) (by decide +kernel) (Or.inl (Or.inl rfl)) ?_
  refine q_iload_n 113 rfl (show sCode 38 112 = some (.iload_n 1, 1) by decide +kernel) rfl ?_
  refine q_iast 114 rfl (show sCode 38 113 = some (.iastore, 1) by decide +kernel) h1 ?_
  refine q_aload_n 115 rfl (show sCode 38 114 = some (.aload_n 0, 1) by decide +kernel) rfl (Nat.le_of_ble_eq_true rfl) ?_
  refine q_iconst 116 rfl (show sCode 38 115 = some (.iconst 1, 1) by decide +kernel) ⟨by decide, by decide⟩ ?_
  refine q_putI 119 rfl (show sCode 38 116 = some (.putfield 61, 3) by decide +kernel) (show sFR (sKo 38).1 61 = some (7, 14) by decide +kernel) (by decide +kernel) (Or.inl ⟨Or.inl rfl, by decide +kernel⟩) ?_
  refine q_forget (L' := [vN, vI x1]) 0 rfl ?_
  refine q_forget (L' := [vN, vN]) 1 rfl ?_
  exact kk
theorem b38_119 {d : Nat} {P : sM → sG → Prop} {M : sM} {G : sG}   (kk : P M G) : sW (sC d) 38 (QV P) 119 [vN, vN] [] M G 0 0 := by
  exact q_vret (show sCode 38 119 = some (.return_, 1) by decide +kernel) (by decide +kernel) (by decide +kernel) kk
-- 39 AfterTheLast$RuleReader.readOpening (Z)V
theorem b39_0 {d : Nat} {Q : Option sV → sM → sG → Prop} {M : sM} {G : sG} {a0 : Nat} {x1 : Int}  (k1 : M a0 12 < 10 → sW (sC d) 39 Q 18 [vO 7 a0, vI x1] [] M G 0 0) (k2 : 10 ≤ M a0 12 → sW (sC d) 39 Q 9 [vO 7 a0, vN] [] M G 0 0) : sW (sC d) 39 Q 0 [vO 7 a0, vI x1] [] M G 0 0 := by
  refine q_aload_n 1 rfl (show sCode 39 0 = some (.aload_n 0, 1) by decide +kernel) rfl (Nat.le_of_ble_eq_true rfl) ?_
  refine q_getI 4 rfl (show sCode 39 1 = some (.getfield 55, 3) by decide +kernel) (show sFR (sKo 39).1 55 = some (7, 12) by decide +kernel) (by decide +kernel) (Or.inl (Or.inl rfl)) ?_
  refine q_bipush 6 rfl (show sCode 39 4 = some (.bipush 10, 2) by decide +kernel) ⟨by decide, by decide⟩ (by decide +kernel) ?_
  refine q_icmplt 18 9 rfl (by decide) (show sCode 39 6 = some (.if_icmp .lt 12, 3) by decide +kernel) ?_ ?_
  · intro q; exact k1 q
  · intro q; refine q_forget (L' := [vO 7 a0, vN]) 1 rfl ?_; exact k2 q
theorem b39_9 {d : Nat} {Q : Option sV → sM → sG → Prop} {M : sM} {G : sG} {a0 : Nat}  (kk : sC d 24 [vO 4 (a0 + 1), vI 2] M G (QV (fun M1 G1 => sW (sC d) 39 Q 17 [vN, vN] [] M1 G1 0 0))) : sW (sC d) 39 Q 9 [vO 7 a0, vN] [] M G 0 0 := by
  refine q_aload_n 10 rfl (show sCode 39 9 = some (.aload_n 0, 1) by decide +kernel) rfl (Nat.le_of_ble_eq_true rfl) ?_
  refine q_getR (vO 4 (a0 + 1)) 13 rfl (show sCode 39 10 = some (.getfield 12, 3) by decide +kernel) (show sFR (sKo 39).1 12 = some (7, 0) by decide +kernel) (by decide +kernel) (Or.inl (Or.inl rfl)) rfl ?_
  refine q_iconst 14 rfl (show sCode 39 13 = some (.iconst 2, 1) by decide +kernel) ⟨by decide, by decide⟩ ?_
  refine q_forget (L' := [vN, vN]) 0 rfl ?_
  exact q_virtV [vI 2] 17 rfl (show sCode 39 14 = some (.invokevirtual 113, 3) by decide +kernel) (show sMR (sKo 39).1 113 = some 24 by decide +kernel) (show 24 < 1000 ∧ sStat 24 = false ∧ sIni 24 = false ∧ sKo 24 = (4, 1, 0, 0, 0) by decide +kernel) rfl (Or.inl rfl) rfl (Nat.le_of_ble_eq_true rfl) rfl rfl rfl (by decide +kernel) kk
theorem b39_17 {d : Nat} {P : sM → sG → Prop} {M : sM} {G : sG}   (kk : P M G) : sW (sC d) 39 (QV P) 17 [vN, vN] [] M G 0 0 := by
  exact q_vret (show sCode 39 17 = some (.return_, 1) by decide +kernel) (by decide +kernel) (by decide +kernel) kk
theorem b39_18 {d : Nat} {Q : Option sV → sM → sG → Prop} {M : sM} {G : sG} {a0 : Nat} {x1 : Int} (h1 : sI ((M a0 12) + 1)) (k1 : x1 = 0 → sW (sC d) 39 Q 61 [vO 7 a0, vN] [] (sUpd M a0 12 ((M a0 12) + 1)) G 0 0) (k2 : x1 ≠ 0 → sW (sC d) 39 Q 32 [vO 7 a0, vN] [] (sUpd M a0 12 ((M a0 12) + 1)) G 0 0) : sW (sC d) 39 Q 18 [vO 7 a0, vI x1] [] M G 0 0 := by
  refine q_aload_n 19 rfl (show sCode 39 18 = some (.aload_n 0, 1) by decide +kernel) rfl (Nat.le_of_ble_eq_true rfl) ?_
  refine q_dup 20 rfl (show sCode 39 19 = some (.dup, 1) by decide +kernel) rfl ?_
  refine q_getI 23 rfl (show sCode 39 20 = some (.getfield 55, 3) by decide +kernel) (show sFR (sKo 39).1 55 = some (7, 12) by decide +kernel) (by decide +kernel) (Or.inl (Or.inl rfl)) ?_
  refine q_iconst 24 rfl (show sCode 39 23 = some (.iconst 1, 1) by decide +kernel) ⟨by decide, by decide⟩ ?_
  refine q_iadd 25 rfl (show sCode 39 24 = some (.iadd, 1) by decide +kernel) h1 ?_
  refine q_putI 28 rfl (show sCode 39 25 = some (.putfield 55, 3) by decide +kernel) (show sFR (sKo 39).1 55 = some (7, 12) by decide +kernel) (by decide +kernel) (Or.inl ⟨Or.inl rfl, by decide +kernel⟩) ?_
  refine q_iload_n 29 rfl (show sCode 39 28 = some (.iload_n 1, 1) by decide +kernel) rfl ?_
  refine q_ifeq 61 32 rfl (by decide) (show sCode 39 29 = some (.ifCond .eq 32, 3) by decide +kernel) ?_ ?_
  · intro q; refine q_forget (L' := [vO 7 a0, vN]) 1 rfl ?_; exact k1 q
  · intro q; refine q_forget (L' := [vO 7 a0, vN]) 1 rfl ?_; exact k2 q
theorem b39_32 {d : Nat} {Q : Option sV → sM → sG → Prop} {M : sM} {G : sG} {a0 : Nat} (h1 : sI ((M a0 13) + 1)) (kk : sC d 26 [vO 4 (a0 + 1), vI 1] (sUpd M a0 13 ((M a0 13) + 1)) G (QV (fun M1 G1 => sW (sC d) 39 Q 50 [vO 7 a0, vN] [] M1 G1 0 0))) : sW (sC d) 39 Q 32 [vO 7 a0, vN] [] M G 0 0 := by
  refine q_aload_n 33 rfl (show sCode 39 32 = some (.aload_n 0, 1) by decide +kernel) rfl (Nat.le_of_ble_eq_true rfl) ?_
  refine q_dup 34 rfl (show sCode 39 33 = some (.dup, 1) by decide +kernel) rfl ?_
  refine q_getI 37 rfl (show sCode 39 34 = some (.getfield 58, 3) by decide +kernel) (show sFR (sKo 39).1 58 = some (7, 13) by decide +kernel) (by decide +kernel) (Or.inl (Or.inl rfl)) ?_
  refine q_iconst 38 rfl (show sCode 39 37 = some (.iconst 1, 1) by decide +kernel) ⟨by decide, by decide⟩ ?_
  refine q_iadd 39 rfl (show sCode 39 38 = some (.iadd, 1) by decide +kernel) h1 ?_
  refine q_putI 42 rfl (show sCode 39 39 = some (.putfield 58, 3) by decide +kernel) (show sFR (sKo 39).1 58 = some (7, 13) by decide +kernel) (by decide +kernel) (Or.inl ⟨Or.inl rfl, by decide +kernel⟩) ?_
  refine q_aload_n 43 rfl (show sCode 39 42 = some (.aload_n 0, 1) by decide +kernel) rfl (Nat.le_of_ble_eq_true rfl) ?_
  refine q_getR (vO 4 (a0 + 1)) 46 rfl (show sCode 39 43 = some (.getfield 12, 3) by decide +kernel) (show sFR (sKo 39).1 12 = some (7, 0) by decide +kernel) (by decide +kernel) (Or.inl (Or.inl rfl)) rfl ?_
  refine q_iconst 47 rfl (show sCode 39 46 = some (.iconst 1, 1) by decide +kernel) ⟨by decide, by decide⟩ ?_
  exact q_virtV [vI 1] 50 rfl (show sCode 39 47 = some (.invokevirtual 116, 3) by decide +kernel) (show sMR (sKo 39).1 116 = some 26 by decide +kernel) (show 26 < 1000 ∧ sStat 26 = false ∧ sIni 26 = false ∧ sKo 26 = (4, 1, 0, 0, 0) by decide +kernel) rfl (Or.inl rfl) rfl (Nat.le_of_ble_eq_true rfl) rfl rfl rfl (by decide +kernel) kk
theorem b39_50 {d : Nat} {Q : Option sV → sM → sG → Prop} {M : sM} {G : sG} {a0 : Nat}  (kk : sC d 40 [vO 7 a0, vI 14, vI 0, vI (-1)] M G (QV (fun M1 G1 => sW (sC d) 39 Q 58 [vN, vN] [] M1 G1 0 0))) : sW (sC d) 39 Q 50 [vO 7 a0, vN] [] M G 0 0 := by
  refine q_aload_n 51 rfl (show sCode 39 50 = some (.aload_n 0, 1) by decide +kernel) rfl (Nat.le_of_ble_eq_true rfl) ?_
  refine q_bipush 53 rfl (show sCode 39 51 = some (.bipush 14, 2) by decide +kernel) ⟨by decide, by decide⟩ (by decide +kernel) ?_
  refine q_iconst 54 rfl (show sCode 39 53 = some (.iconst 0, 1) by decide +kernel) ⟨by decide, by decide⟩ ?_
  refine q_iconst 55 rfl (show sCode 39 54 = some (.iconst (-1), 1) by decide +kernel) ⟨by decide, by decide⟩ ?_
  refine q_forget (L' := [vN, vN]) 0 rfl ?_
  exact q_virtV [vI 14, vI 0, vI (-1)] 58 rfl (show sCode 39 55 = some (.invokevirtual 119, 3) by decide +kernel) (show sMR (sKo 39).1 119 = some 40 by decide +kernel) (show 40 < 1000 ∧ sStat 40 = false ∧ sIni 40 = false ∧ sKo 40 = (7, 3, 0, 0, 0) by decide +kernel) rfl (Or.inl rfl) rfl (Nat.le_of_ble_eq_true rfl) rfl rfl rfl (by decide +kernel) kk
theorem b39_58 {d : Nat} {Q : Option sV → sM → sG → Prop} {M : sM} {G : sG}   (kk : sW (sC d) 39 Q 77 [vN, vN] [] M G 0 0) : sW (sC d) 39 Q 58 [vN, vN] [] M G 0 0 := by
  refine q_goto 77 (by decide) (show sCode 39 58 = some (.goto 19, 3) by decide +kernel) ?_
  exact kk
theorem b39_61 {d : Nat} {Q : Option sV → sM → sG → Prop} {M : sM} {G : sG} {a0 : Nat}  (kk : sC d 26 [vO 4 (a0 + 1), vI 3] M G (QV (fun M1 G1 => sW (sC d) 39 Q 69 [vO 7 a0, vN] [] M1 G1 0 0))) : sW (sC d) 39 Q 61 [vO 7 a0, vN] [] M G 0 0 := by
  refine q_aload_n 62 rfl (show sCode 39 61 = some (.aload_n 0, 1) by decide +kernel) rfl (Nat.le_of_ble_eq_true rfl) ?_
  refine q_getR (vO 4 (a0 + 1)) 65 rfl (show sCode 39 62 = some (.getfield 12, 3) by decide +kernel) (show sFR (sKo 39).1 12 = some (7, 0) by decide +kernel) (by decide +kernel) (Or.inl (Or.inl rfl)) rfl ?_
  refine q_iconst 66 rfl (show sCode 39 65 = some (.iconst 3, 1) by decide +kernel) ⟨by decide, by decide⟩ ?_
  exact q_virtV [vI 3] 69 rfl (show sCode 39 66 = some (.invokevirtual 116, 3) by decide +kernel) (show sMR (sKo 39).1 116 = some 26 by decide +kernel) (show 26 < 1000 ∧ sStat 26 = false ∧ sIni 26 = false ∧ sKo 26 = (4, 1, 0, 0, 0) by decide +kernel) rfl (Or.inl rfl) rfl (Nat.le_of_ble_eq_true rfl) rfl rfl rfl (by decide +kernel) kk
theorem b39_69 {d : Nat} {Q : Option sV → sM → sG → Prop} {M : sM} {G : sG} {a0 : Nat}  (kk : sC d 40 [vO 7 a0, vI 11, vI 3, vI (-1)] M G (QV (fun M1 G1 => sW (sC d) 39 Q 77 [vN, vN] [] M1 G1 0 0))) : sW (sC d) 39 Q 69 [vO 7 a0, vN] [] M G 0 0 := by
  refine q_aload_n 70 rfl (show sCode 39 69 = some (.aload_n 0, 1) by decide +kernel) rfl (Nat.le_of_ble_eq_true rfl) ?_
  refine q_bipush 72 rfl (show sCode 39 70 = some (.bipush 11, 2) by decide +kernel) ⟨by decide, by decide⟩ (by decide +kernel) ?_
  refine q_iconst 73 rfl (show sCode 39 72 = some (.iconst 3, 1) by decide +kernel) ⟨by decide, by decide⟩ ?_
  refine q_iconst 74 rfl (show sCode 39 73 = some (.iconst (-1), 1) by decide +kernel) ⟨by decide, by decide⟩ ?_
  refine q_forget (L' := [vN, vN]) 0 rfl ?_
  exact q_virtV [vI 11, vI 3, vI (-1)] 77 rfl (show sCode 39 74 = some (.invokevirtual 119, 3) by decide +kernel) (show sMR (sKo 39).1 119 = some 40 by decide +kernel) (show 40 < 1000 ∧ sStat 40 = false ∧ sIni 40 = false ∧ sKo 40 = (7, 3, 0, 0, 0) by decide +kernel) rfl (Or.inl rfl) rfl (Nat.le_of_ble_eq_true rfl) rfl rfl rfl (by decide +kernel) kk
theorem b39_77 {d : Nat} {P : sM → sG → Prop} {M : sM} {G : sG}   (kk : P M G) : sW (sC d) 39 (QV P) 77 [vN, vN] [] M G 0 0 := by
  exact q_vret (show sCode 39 77 = some (.return_, 1) by decide +kernel) (by decide +kernel) (by decide +kernel) kk
-- 40 AfterTheLast$RuleReader.keepWaiting (III)V
theorem b40_0 {d : Nat} {Q : Option sV → sM → sG → Prop} {M : sM} {G : sG} {a0 : Nat} {x1 : Int} {x2 : Int} {x3 : Int}  (k1 : 48 ≤ M a0 10 → sW (sC d) 40 Q 49 [vN, vN, vN, vN] [] M G 0 0) (k2 : M a0 10 < 48 → sW (sC d) 40 Q 9 [vO 7 a0, vI x1, vI x2, vI x3] [] M G 0 0) : sW (sC d) 40 Q 0 [vO 7 a0, vI x1, vI x2, vI x3] [] M G 0 0 := by
  refine q_aload_n 1 rfl (show sCode 40 0 = some (.aload_n 0, 1) by decide +kernel) rfl (Nat.le_of_ble_eq_true rfl) ?_
  refine q_getI 4 rfl (show sCode 40 1 = some (.getfield 49, 3) by decide +kernel) (show sFR (sKo 40).1 49 = some (7, 10) by decide +kernel) (by decide +kernel) (Or.inl (Or.inl rfl)) ?_
  refine q_bipush 6 rfl (show sCode 40 4 = some (.bipush 48, 2) by decide +kernel) ⟨by decide, by decide⟩ (by decide +kernel) ?_
  refine q_icmpge 49 9 rfl (by decide) (show sCode 40 6 = some (.if_icmp .ge 43, 3) by decide +kernel) ?_ ?_
  · intro q; refine q_forget (L' := [vN, vI x1, vI x2, vI x3]) 0 rfl ?_; refine q_forget (L' := [vN, vN, vI x2, vI x3]) 1 rfl ?_; refine q_forget (L' := [vN, vN, vN, vI x3]) 2 rfl ?_; refine q_forget (L' := [vN, vN, vN, vN]) 3 rfl ?_; exact k1 q
  · intro q; exact k2 q
theorem b40_9 {d : Nat} {Q : Option sV → sM → sG → Prop} {M : sM} {G : sG} {a0 : Nat} {x1 : Int} {x2 : Int} {x3 : Int} (h1 : 0 ≤ M a0 10 ∧ M a0 10 < 48) (h2 : 0 ≤ (sUpd M (a0 + 7) (M a0 10).toNat x1) a0 10 ∧ (sUpd M (a0 + 7) (M a0 10).toNat x1) a0 10 < 48) (h3 : 0 ≤ (sUpd (sUpd M (a0 + 7) (M a0 10).toNat x1) (a0 + 9) ((sUpd M (a0 + 7) (M a0 10).toNat x1) a0 10).toNat x2) a0 10 ∧ (sUpd (sUpd M (a0 + 7) (M a0 10).toNat x1) (a0 + 9) ((sUpd M (a0 + 7) (M a0 10).toNat x1) a0 10).toNat x2) a0 10 < 48) (h4 : sI (((sUpd (sUpd (sUpd M (a0 + 7) (M a0 10).toNat x1) (a0 + 9) ((sUpd M (a0 + 7) (M a0 10).toNat x1) a0 10).toNat x2) (a0 + 8) ((sUpd (sUpd M (a0 + 7) (M a0 10).toNat x1) (a0 + 9) ((sUpd M (a0 + 7) (M a0 10).toNat x1) a0 10).toNat x2) a0 10).toNat x3) a0 10) + 1)) (kk : sW (sC d) 40 Q 49 [vN, vN, vN, vN] [] (sUpd (sUpd (sUpd (sUpd M (a0 + 7) (M a0 10).toNat x1) (a0 + 9) ((sUpd M (a0 + 7) (M a0 10).toNat x1) a0 10).toNat x2) (a0 + 8) ((sUpd (sUpd M (a0 + 7) (M a0 10).toNat x1) (a0 + 9) ((sUpd M (a0 + 7) (M a0 10).toNat x1) a0 10).toNat x2) a0 10).toNat x3) a0 10 (((sUpd (sUpd (sUpd M (a0 + 7) (M a0 10).toNat x1) (a0 + 9) ((sUpd M (a0 + 7) (M a0 10).toNat x1) a0 10).toNat x2) (a0 + 8) ((sUpd (sUpd M (a0 + 7) (M a0 10).toNat x1) (a0 + 9) ((sUpd M (a0 + 7) (M a0 10).toNat x1) a0 10).toNat x2) a0 10).toNat x3) a0 10) + 1)) G 0 0) : sW (sC d) 40 Q 9 [vO 7 a0, vI x1, vI x2, vI x3] [] M G 0 0 := by
  refine q_aload_n 10 rfl (show sCode 40 9 = some (.aload_n 0, 1) by decide +kernel) rfl (Nat.le_of_ble_eq_true rfl) ?_
  refine q_getR (vA 0 (a0 + 7) 48) 13 rfl (show sCode 40 10 = some (.getfield 33, 3) by decide +kernel) (show sFR (sKo 40).1 33 = some (7, 5) by decide +kernel) (by decide +kernel) (Or.inl (Or.inl rfl)) rfl ?_
  refine q_aload_n 14 rfl (show sCode 40 13 = some (.aload_n 0, 1) by decide +kernel) rfl (Nat.le_of_ble_eq_true rfl) ?_
  refine q_getI 17 rfl (show sCode 40 14 = some (.getfield 49, 3) by decide +kernel) (show sFR (sKo 40).1 49 = some (7, 10) by decide +kernel) (by decide +kernel) (Or.inl (Or.inl rfl)) ?_
  refine q_iload_n 18 rfl (show sCode 40 17 = some (.iload_n 1, 1) by decide +kernel) rfl ?_
  refine q_iast 19 rfl (show sCode 40 18 = some (.iastore, 1) by decide +kernel) h1 ?_
  refine q_aload_n 20 rfl (show sCode 40 19 = some (.aload_n 0, 1) by decide +kernel) rfl (Nat.le_of_ble_eq_true rfl) ?_
  refine q_getR (vA 0 (a0 + 9) 48) 23 rfl (show sCode 40 20 = some (.getfield 39, 3) by decide +kernel) (show sFR (sKo 40).1 39 = some (7, 7) by decide +kernel) (by decide +kernel) (Or.inl (Or.inl rfl)) rfl ?_
  refine q_aload_n 24 rfl (show sCode 40 23 = some (.aload_n 0, 1) by decide +kernel) rfl (Nat.le_of_ble_eq_true rfl) ?_
  refine q_getI 27 rfl (show sCode 40 24 = some (.getfield 49, 3) by decide +kernel) (show sFR (sKo 40).1 49 = some (7, 10) by decide +kernel) (by decide +kernel) (Or.inl (Or.inl rfl)) ?_
  refine q_iload_n 28 rfl (show sCode 40 27 = some (.iload_n 2, 1) by decide +kernel) rfl ?_
  refine q_iast 29 rfl (show sCode 40 28 = some (.iastore, 1) by decide +kernel) h2 ?_
  refine q_aload_n 30 rfl (show sCode 40 29 = some (.aload_n 0, 1) by decide +kernel) rfl (Nat.le_of_ble_eq_true rfl) ?_
  refine q_getR (vA 0 (a0 + 8) 48) 33 rfl (show sCode 40 30 = some (.getfield 36, 3) by decide +kernel) (show sFR (sKo 40).1 36 = some (7, 6) by decide +kernel) (by decide +kernel) (Or.inl (Or.inl rfl)) rfl ?_
  refine q_aload_n 34 rfl (show sCode 40 33 = some (.aload_n 0, 1) by decide +kernel) rfl (Nat.le_of_ble_eq_true rfl) ?_
  refine q_getI 37 rfl (show sCode 40 34 = some (.getfield 49, 3) by decide +kernel) (show sFR (sKo 40).1 49 = some (7, 10) by decide +kernel) (by decide +kernel) (Or.inl (Or.inl rfl)) ?_
  refine q_iload_n 38 rfl (show sCode 40 37 = some (.iload_n 3, 1) by decide +kernel) rfl ?_
  refine q_iast 39 rfl (show sCode 40 38 = some (.iastore, 1) by decide +kernel) h3 ?_
  refine q_aload_n 40 rfl (show sCode 40 39 = some (.aload_n 0, 1) by decide +kernel) rfl (Nat.le_of_ble_eq_true rfl) ?_
  refine q_dup 41 rfl (show sCode 40 40 = some (.dup, 1) by decide +kernel) rfl ?_
  refine q_getI 44 rfl (show sCode 40 41 = some (.getfield 49, 3) by decide +kernel) (show sFR (sKo 40).1 49 = some (7, 10) by decide +kernel) (by decide +kernel) (Or.inl (Or.inl rfl)) ?_
  refine q_iconst 45 rfl (show sCode 40 44 = some (.iconst 1, 1) by decide +kernel) ⟨by decide, by decide⟩ ?_
  refine q_iadd 46 rfl (show sCode 40 45 = some (.iadd, 1) by decide +kernel) h4 ?_
  refine q_putI 49 rfl (show sCode 40 46 = some (.putfield 49, 3) by decide +kernel) (show sFR (sKo 40).1 49 = some (7, 10) by decide +kernel) (by decide +kernel) (Or.inl ⟨Or.inl rfl, by decide +kernel⟩) ?_
  refine q_forget (L' := [vN, vI x1, vI x2, vI x3]) 0 rfl ?_
  refine q_forget (L' := [vN, vN, vI x2, vI x3]) 1 rfl ?_
  refine q_forget (L' := [vN, vN, vN, vI x3]) 2 rfl ?_
  refine q_forget (L' := [vN, vN, vN, vN]) 3 rfl ?_
  exact kk
theorem b40_49 {d : Nat} {P : sM → sG → Prop} {M : sM} {G : sG}   (kk : P M G) : sW (sC d) 40 (QV P) 49 [vN, vN, vN, vN] [] M G 0 0 := by
  exact q_vret (show sCode 40 49 = some (.return_, 1) by decide +kernel) (by decide +kernel) (by decide +kernel) kk
-- 41 AfterTheLast$RuleReader.readValue (I)V
theorem b41_0 {d : Nat} {Q : Option sV → sM → sG → Prop} {M : sM} {G : sG} {a0 : Nat} {x1 : Int}  (kk : sC d 30 [vI x1] M G (QI (fun r M1 G1 => sW (sC d) 41 Q 12 [vO 7 a0, vN, vI (M (a0 + 1) 2), vN, vN] (vI r :: []) M1 G1 0 0))) : sW (sC d) 41 Q 0 [vO 7 a0, vI x1, vN, vN, vN] [] M G 0 0 := by
  refine q_aload_n 1 rfl (show sCode 41 0 = some (.aload_n 0, 1) by decide +kernel) rfl (Nat.le_of_ble_eq_true rfl) ?_
  refine q_getR (vO 4 (a0 + 1)) 4 rfl (show sCode 41 1 = some (.getfield 12, 3) by decide +kernel) (show sFR (sKo 41).1 12 = some (7, 0) by decide +kernel) (by decide +kernel) (Or.inl (Or.inl rfl)) rfl ?_
  refine q_getI 7 rfl (show sCode 41 4 = some (.getfield 123, 3) by decide +kernel) (show sFR (sKo 41).1 123 = some (4, 2) by decide +kernel) (by decide +kernel) (Or.inl (Or.inl rfl)) ?_
  refine q_istore_n [vO 7 a0, vI x1, vI (M (a0 + 1) 2), vN, vN] 8 rfl (show sCode 41 7 = some (.istore_n 2, 1) by decide +kernel) (Nat.lt_of_lt_of_le (Nat.lt_succ_self _) (Nat.le_of_ble_eq_true rfl)) rfl rfl ?_
  refine q_iload_n 9 rfl (show sCode 41 8 = some (.iload_n 1, 1) by decide +kernel) rfl ?_
  refine q_forget (L' := [vO 7 a0, vN, vI (M (a0 + 1) 2), vN, vN]) 1 rfl ?_
  exact q_statI [vI x1] 12 rfl (show sCode 41 9 = some (.invokestatic 126, 3) by decide +kernel) (show sMR (sKo 41).1 126 = some 30 by decide +kernel) (show 30 < 1000 ∧ sStat 30 = true ∧ sKo 30 = (4, 1, 2, 0, 0) by decide +kernel) rfl rfl (Nat.le_of_ble_eq_true rfl) rfl rfl rfl (by decide +kernel) kk
theorem b41_12 {d : Nat} {Q : Option sV → sM → sG → Prop} {M : sM} {G : sG} {a0 : Nat} {x2 : Int} {s0 : Int}  (k1 : s0 = 0 → sW (sC d) 41 Q 30 [vO 7 a0, vN, vI x2, vI s0, vN] [] M G 0 0) (k2 : s0 ≠ 0 → sW (sC d) 41 Q 17 [vO 7 a0, vN, vI x2, vI s0, vN] [] M G 0 0) : sW (sC d) 41 Q 12 [vO 7 a0, vN, vI x2, vN, vN] [vI s0] M G 0 0 := by
  refine q_istore_n [vO 7 a0, vN, vI x2, vI s0, vN] 13 rfl (show sCode 41 12 = some (.istore_n 3, 1) by decide +kernel) (Nat.lt_of_lt_of_le (Nat.lt_succ_self _) (Nat.le_of_ble_eq_true rfl)) rfl rfl ?_
  refine q_iload_n 14 rfl (show sCode 41 13 = some (.iload_n 3, 1) by decide +kernel) rfl ?_
  refine q_ifeq 30 17 rfl (by decide) (show sCode 41 14 = some (.ifCond .eq 16, 3) by decide +kernel) ?_ ?_
  · intro q; exact k1 q
  · intro q; exact k2 q
theorem b41_17 {d : Nat} {Q : Option sV → sM → sG → Prop} {M : sM} {G : sG} {a0 : Nat} {x2 : Int} {x3 : Int}  (kk : sC d 29 [vO 4 (a0 + 1), vI 0, vI 99999] M G (QI (fun r M1 G1 => sW (sC d) 41 Q 27 [vO 7 a0, vN, vI x2, vI x3, vN] (vI r :: []) M1 G1 0 0))) : sW (sC d) 41 Q 17 [vO 7 a0, vN, vI x2, vI x3, vN] [] M G 0 0 := by
  refine q_aload_n 18 rfl (show sCode 41 17 = some (.aload_n 0, 1) by decide +kernel) rfl (Nat.le_of_ble_eq_true rfl) ?_
  refine q_getR (vO 4 (a0 + 1)) 21 rfl (show sCode 41 18 = some (.getfield 12, 3) by decide +kernel) (show sFR (sKo 41).1 12 = some (7, 0) by decide +kernel) (by decide +kernel) (Or.inl (Or.inl rfl)) rfl ?_
  refine q_iconst 22 rfl (show sCode 41 21 = some (.iconst 0, 1) by decide +kernel) ⟨by decide, by decide⟩ ?_
  refine q_ldcI 24 rfl (show sCode 41 22 = some (.ldc 130, 2) by decide +kernel) (show sIR (sKo 41).1 130 = some 99999 by decide +kernel) ⟨by decide, by decide⟩ ?_
  exact q_virtI [vI 0, vI 99999] 27 rfl (show sCode 41 24 = some (.invokevirtual 131, 3) by decide +kernel) (show sMR (sKo 41).1 131 = some 29 by decide +kernel) (show 29 < 1000 ∧ sStat 29 = false ∧ sIni 29 = false ∧ sKo 29 = (4, 2, 1, 0, 0) by decide +kernel) rfl (Or.inl rfl) rfl (Nat.le_of_ble_eq_true rfl) rfl rfl rfl (by decide +kernel) kk
theorem b41_27 {d : Nat} {Q : Option sV → sM → sG → Prop} {M : sM} {G : sG} {a0 : Nat} {x2 : Int} {x3 : Int} {s0 : Int}  (kk : sW (sC d) 41 Q 34 [vO 7 a0, vN, vI x2, vI x3, vN] [vI s0] M G 0 0) : sW (sC d) 41 Q 27 [vO 7 a0, vN, vI x2, vI x3, vN] [vI s0] M G 0 0 := by
  refine q_goto 34 (by decide) (show sCode 41 27 = some (.goto 7, 3) by decide +kernel) ?_
  exact kk
theorem b41_30 {d : Nat} {Q : Option sV → sM → sG → Prop} {M : sM} {G : sG} {a0 : Nat} {x2 : Int} {x3 : Int}  (kk : sC d 42 [vO 7 a0] M G (QI (fun r M1 G1 => sW (sC d) 41 Q 34 [vO 7 a0, vN, vI x2, vI x3, vN] (vI r :: []) M1 G1 0 0))) : sW (sC d) 41 Q 30 [vO 7 a0, vN, vI x2, vI x3, vN] [] M G 0 0 := by
  refine q_aload_n 31 rfl (show sCode 41 30 = some (.aload_n 0, 1) by decide +kernel) rfl (Nat.le_of_ble_eq_true rfl) ?_
  exact q_virtI [] 34 rfl (show sCode 41 31 = some (.invokevirtual 135, 3) by decide +kernel) (show sMR (sKo 41).1 135 = some 42 by decide +kernel) (show 42 < 1000 ∧ sStat 42 = false ∧ sIni 42 = false ∧ sKo 42 = (7, 0, 1, 0, 0) by decide +kernel) rfl (Or.inl rfl) rfl (Nat.le_of_ble_eq_true rfl) rfl rfl rfl (by decide +kernel) kk
theorem b41_34 {d : Nat} {Q : Option sV → sM → sG → Prop} {M : sM} {G : sG} {a0 : Nat} {x2 : Int} {x3 : Int} {s0 : Int}  (k1 : s0 ≠ (-1) → sW (sC d) 41 Q 51 [vO 7 a0, vN, vI x2, vI x3, vI s0] [] M G 0 0) (k2 : s0 = (-1) → sW (sC d) 41 Q 42 [vO 7 a0, vN, vN, vN, vN] [] M G 0 0) : sW (sC d) 41 Q 34 [vO 7 a0, vN, vI x2, vI x3, vN] [vI s0] M G 0 0 := by
  refine q_istore [vO 7 a0, vN, vI x2, vI x3, vI s0] 36 rfl (show sCode 41 34 = some (.istore 4, 2) by decide +kernel) (Nat.lt_of_lt_of_le (Nat.lt_succ_self _) (Nat.le_of_ble_eq_true rfl)) rfl rfl ?_
  refine q_iload 38 rfl (show sCode 41 36 = some (.iload 4, 2) by decide +kernel) rfl ?_
  refine q_iconst 39 rfl (show sCode 41 38 = some (.iconst (-1), 1) by decide +kernel) ⟨by decide, by decide⟩ ?_
  refine q_icmpne 51 42 rfl (by decide) (show sCode 41 39 = some (.if_icmp .ne 12, 3) by decide +kernel) ?_ ?_
  · intro q; exact k1 q
  · intro q; refine q_forget (L' := [vO 7 a0, vN, vN, vI x3, vI s0]) 2 rfl ?_; refine q_forget (L' := [vO 7 a0, vN, vN, vN, vI s0]) 3 rfl ?_; refine q_forget (L' := [vO 7 a0, vN, vN, vN, vN]) 4 rfl ?_; exact k2 q
theorem b41_42 {d : Nat} {Q : Option sV → sM → sG → Prop} {M : sM} {G : sG} {a0 : Nat}  (kk : sC d 24 [vO 4 (a0 + 1), vI 0] M G (QV (fun M1 G1 => sW (sC d) 41 Q 50 [vN, vN, vN, vN, vN] [] M1 G1 0 0))) : sW (sC d) 41 Q 42 [vO 7 a0, vN, vN, vN, vN] [] M G 0 0 := by
  refine q_aload_n 43 rfl (show sCode 41 42 = some (.aload_n 0, 1) by decide +kernel) rfl (Nat.le_of_ble_eq_true rfl) ?_
  refine q_getR (vO 4 (a0 + 1)) 46 rfl (show sCode 41 43 = some (.getfield 12, 3) by decide +kernel) (show sFR (sKo 41).1 12 = some (7, 0) by decide +kernel) (by decide +kernel) (Or.inl (Or.inl rfl)) rfl ?_
  refine q_iconst 47 rfl (show sCode 41 46 = some (.iconst 0, 1) by decide +kernel) ⟨by decide, by decide⟩ ?_
  refine q_forget (L' := [vN, vN, vN, vN, vN]) 0 rfl ?_
  exact q_virtV [vI 0] 50 rfl (show sCode 41 47 = some (.invokevirtual 113, 3) by decide +kernel) (show sMR (sKo 41).1 113 = some 24 by decide +kernel) (show 24 < 1000 ∧ sStat 24 = false ∧ sIni 24 = false ∧ sKo 24 = (4, 1, 0, 0, 0) by decide +kernel) rfl (Or.inl rfl) rfl (Nat.le_of_ble_eq_true rfl) rfl rfl rfl (by decide +kernel) kk
theorem b41_50 {d : Nat} {P : sM → sG → Prop} {M : sM} {G : sG}   (kk : P M G) : sW (sC d) 41 (QV P) 50 [vN, vN, vN, vN, vN] [] M G 0 0 := by
  exact q_vret (show sCode 41 50 = some (.return_, 1) by decide +kernel) (by decide +kernel) (by decide +kernel) kk
theorem b41_51 {d : Nat} {Q : Option sV → sM → sG → Prop} {M : sM} {G : sG} {a0 : Nat} {x2 : Int} {x3 : Int} {x4 : Int}  (kk : sC d 43 [vO 7 a0, vI x2] M G (QV (fun M1 G1 => sW (sC d) 41 Q 56 [vO 7 a0, vN, vN, vI x3, vI x4] [] M1 G1 0 0))) : sW (sC d) 41 Q 51 [vO 7 a0, vN, vI x2, vI x3, vI x4] [] M G 0 0 := by
  refine q_aload_n 52 rfl (show sCode 41 51 = some (.aload_n 0, 1) by decide +kernel) rfl (Nat.le_of_ble_eq_true rfl) ?_
  refine q_iload_n 53 rfl (show sCode 41 52 = some (.iload_n 2, 1) by decide +kernel) rfl ?_
  refine q_forget (L' := [vO 7 a0, vN, vN, vI x3, vI x4]) 2 rfl ?_
  exact q_virtV [vI x2] 56 rfl (show sCode 41 53 = some (.invokevirtual 138, 3) by decide +kernel) (show sMR (sKo 41).1 138 = some 43 by decide +kernel) (show 43 < 1000 ∧ sStat 43 = false ∧ sIni 43 = false ∧ sKo 43 = (7, 1, 0, 0, 0) by decide +kernel) rfl (Or.inl rfl) rfl (Nat.le_of_ble_eq_true rfl) rfl rfl rfl (by decide +kernel) kk
theorem b41_56 {d : Nat} {Q : Option sV → sM → sG → Prop} {M : sM} {G : sG} {a0 : Nat} {x3 : Int} {x4 : Int}  (k1 : x3 = 0 → sW (sC d) 41 Q 65 [vO 7 a0, vN, vN, vN, vI x4] [vO 7 a0] M G 0 0) (k2 : x3 ≠ 0 → sW (sC d) 41 Q 61 [vO 7 a0, vN, vN, vN, vI x4] [vO 7 a0] M G 0 0) : sW (sC d) 41 Q 56 [vO 7 a0, vN, vN, vI x3, vI x4] [] M G 0 0 := by
  refine q_aload_n 57 rfl (show sCode 41 56 = some (.aload_n 0, 1) by decide +kernel) rfl (Nat.le_of_ble_eq_true rfl) ?_
  refine q_iload_n 58 rfl (show sCode 41 57 = some (.iload_n 3, 1) by decide +kernel) rfl ?_
  refine q_ifeq 65 61 rfl (by decide) (show sCode 41 58 = some (.ifCond .eq 7, 3) by decide +kernel) ?_ ?_
  · intro q; refine q_forget (L' := [vO 7 a0, vN, vN, vN, vI x4]) 3 rfl ?_; exact k1 q
  · intro q; refine q_forget (L' := [vO 7 a0, vN, vN, vN, vI x4]) 3 rfl ?_; exact k2 q
theorem b41_61 {d : Nat} {Q : Option sV → sM → sG → Prop} {M : sM} {G : sG} {a0 : Nat} {x4 : Int} {sa0 : Nat}  (kk : sW (sC d) 41 Q 66 [vO 7 a0, vN, vN, vN, vI x4] [vI 0, vO 7 sa0] M G 0 0) : sW (sC d) 41 Q 61 [vO 7 a0, vN, vN, vN, vI x4] [vO 7 sa0] M G 0 0 := by
  refine q_iconst 62 rfl (show sCode 41 61 = some (.iconst 0, 1) by decide +kernel) ⟨by decide, by decide⟩ ?_
  refine q_goto 66 (by decide) (show sCode 41 62 = some (.goto 4, 3) by decide +kernel) ?_
  exact kk
theorem b41_65 {d : Nat} {Q : Option sV → sM → sG → Prop} {M : sM} {G : sG} {a0 : Nat} {x4 : Int} {sa0 : Nat}  (kk : sW (sC d) 41 Q 66 [vO 7 a0, vN, vN, vN, vI x4] [vI 1, vO 7 sa0] M G 0 0) : sW (sC d) 41 Q 65 [vO 7 a0, vN, vN, vN, vI x4] [vO 7 sa0] M G 0 0 := by
  refine q_iconst 66 rfl (show sCode 41 65 = some (.iconst 1, 1) by decide +kernel) ⟨by decide, by decide⟩ ?_
  exact kk
theorem b41_66 {d : Nat} {Q : Option sV → sM → sG → Prop} {M : sM} {G : sG} {a0 : Nat} {x4 : Int} {s0 : Int} {sa1 : Nat}  (kk : sC d 44 [vO 7 sa1, vI s0, vI x4] M G (QI (fun r M1 G1 => sW (sC d) 41 Q 71 [vO 7 a0, vN, vN, vN, vN] (vI r :: []) M1 G1 0 0))) : sW (sC d) 41 Q 66 [vO 7 a0, vN, vN, vN, vI x4] [vI s0, vO 7 sa1] M G 0 0 := by
  refine q_iload 68 rfl (show sCode 41 66 = some (.iload 4, 2) by decide +kernel) rfl ?_
  refine q_forget (L' := [vO 7 a0, vN, vN, vN, vN]) 4 rfl ?_
  exact q_virtI [vI s0, vI x4] 71 rfl (show sCode 41 68 = some (.invokevirtual 141, 3) by decide +kernel) (show sMR (sKo 41).1 141 = some 44 by decide +kernel) (show 44 < 1000 ∧ sStat 44 = false ∧ sIni 44 = false ∧ sKo 44 = (7, 2, 1, 0, 0) by decide +kernel) rfl (Or.inl rfl) rfl (Nat.le_of_ble_eq_true rfl) rfl rfl rfl (by decide +kernel) kk
theorem b41_71 {d : Nat} {Q : Option sV → sM → sG → Prop} {M : sM} {G : sG} {a0 : Nat} {s0 : Int}  (k1 : M a0 14 ≠ 3 → sW (sC d) 41 Q 85 [vN, vN, vN, vN, vN] [vO 7 a0] M G 0 0) (k2 : M a0 14 = 3 → sW (sC d) 41 Q 81 [vN, vN, vN, vN, vN] [vO 7 a0] M G 0 0) : sW (sC d) 41 Q 71 [vO 7 a0, vN, vN, vN, vN] [vI s0] M G 0 0 := by
  refine q_pop 72 rfl (show sCode 41 71 = some (.pop, 1) by decide +kernel) rfl ?_
  refine q_aload_n 73 rfl (show sCode 41 72 = some (.aload_n 0, 1) by decide +kernel) rfl (Nat.le_of_ble_eq_true rfl) ?_
  refine q_aload_n 74 rfl (show sCode 41 73 = some (.aload_n 0, 1) by decide +kernel) rfl (Nat.le_of_ble_eq_true rfl) ?_
  refine q_getI 77 rfl (show sCode 41 74 = some (.getfield 61, 3) by decide +kernel) (show sFR (sKo 41).1 61 = some (7, 14) by decide +kernel) (by decide +kernel) (Or.inl (Or.inl rfl)) ?_
  refine q_iconst 78 rfl (show sCode 41 77 = some (.iconst 3, 1) by decide +kernel) ⟨by decide, by decide⟩ ?_
  refine q_icmpne 85 81 rfl (by decide) (show sCode 41 78 = some (.if_icmp .ne 7, 3) by decide +kernel) ?_ ?_
  · intro q; refine q_forget (L' := [vN, vN, vN, vN, vN]) 0 rfl ?_; exact k1 q
  · intro q; refine q_forget (L' := [vN, vN, vN, vN, vN]) 0 rfl ?_; exact k2 q
theorem b41_81 {d : Nat} {Q : Option sV → sM → sG → Prop} {M : sM} {G : sG} {sa0 : Nat}  (kk : sW (sC d) 41 Q 86 [vN, vN, vN, vN, vN] [vI 5, vO 7 sa0] M G 0 0) : sW (sC d) 41 Q 81 [vN, vN, vN, vN, vN] [vO 7 sa0] M G 0 0 := by
  refine q_iconst 82 rfl (show sCode 41 81 = some (.iconst 5, 1) by decide +kernel) ⟨by decide, by decide⟩ ?_
  refine q_goto 86 (by decide) (show sCode 41 82 = some (.goto 4, 3) by decide +kernel) ?_
  exact kk
theorem b41_85 {d : Nat} {Q : Option sV → sM → sG → Prop} {M : sM} {G : sG} {sa0 : Nat}  (kk : sW (sC d) 41 Q 86 [vN, vN, vN, vN, vN] [vI 4, vO 7 sa0] M G 0 0) : sW (sC d) 41 Q 85 [vN, vN, vN, vN, vN] [vO 7 sa0] M G 0 0 := by
  refine q_iconst 86 rfl (show sCode 41 85 = some (.iconst 4, 1) by decide +kernel) ⟨by decide, by decide⟩ ?_
  exact kk
theorem b41_86 {d : Nat} {P : sM → sG → Prop} {M : sM} {G : sG} {s0 : Int} {sa1 : Nat}  (kk : P (sUpd M sa1 14 s0) G) : sW (sC d) 41 (QV P) 86 [vN, vN, vN, vN, vN] [vI s0, vO 7 sa1] M G 0 0 := by
  refine q_putI 89 rfl (show sCode 41 86 = some (.putfield 61, 3) by decide +kernel) (show sFR (sKo 41).1 61 = some (7, 14) by decide +kernel) (by decide +kernel) (Or.inl ⟨Or.inl rfl, by decide +kernel⟩) ?_
  exact q_vret (show sCode 41 89 = some (.return_, 1) by decide +kernel) (by decide +kernel) (by decide +kernel) kk
-- 42 AfterTheLast$RuleReader.takeWord ()I
theorem b42_0 {d : Nat} {Q : Option sV → sM → sG → Prop} {M : sM} {G : sG} {a0 : Nat}  (kk : sC d 28 [vO 4 (a0 + 1), vS 9] M G (QI (fun r M1 G1 => sW (sC d) 42 Q 9 [vO 7 a0] (vI r :: []) M1 G1 0 0))) : sW (sC d) 42 Q 0 [vO 7 a0] [] M G 0 0 := by
  refine q_aload_n 1 rfl (show sCode 42 0 = some (.aload_n 0, 1) by decide +kernel) rfl (Nat.le_of_ble_eq_true rfl) ?_
  refine q_getR (vO 4 (a0 + 1)) 4 rfl (show sCode 42 1 = some (.getfield 12, 3) by decide +kernel) (show sFR (sKo 42).1 12 = some (7, 0) by decide +kernel) (by decide +kernel) (Or.inl (Or.inl rfl)) rfl ?_
  refine q_ldcS 6 rfl (show sCode 42 4 = some (.ldc 144, 2) by decide +kernel) (show sSR (sKo 42).1 144 = some 9 by decide +kernel) ?_
  exact q_virtI [vS 9] 9 rfl (show sCode 42 6 = some (.invokevirtual 146, 3) by decide +kernel) (show sMR (sKo 42).1 146 = some 28 by decide +kernel) (show 28 < 1000 ∧ sStat 28 = false ∧ sIni 28 = false ∧ sKo 28 = (4, 1, 2, 0, 0) by decide +kernel) rfl (Or.inl rfl) rfl (Nat.le_of_ble_eq_true rfl) rfl rfl rfl (by decide +kernel) kk
theorem b42_9 {d : Nat} {Q : Option sV → sM → sG → Prop} {M : sM} {G : sG} {a0 : Nat} {s0 : Int}  (k1 : s0 = 0 → sW (sC d) 42 Q 14 [vO 7 a0] [] M G 0 0) (k2 : s0 ≠ 0 → sW (sC d) 42 Q 12 [vN] [] M G 0 0) : sW (sC d) 42 Q 9 [vO 7 a0] [vI s0] M G 0 0 := by
  refine q_ifeq 14 12 rfl (by decide) (show sCode 42 9 = some (.ifCond .eq 5, 3) by decide +kernel) ?_ ?_
  · intro q; exact k1 q
  · intro q; refine q_forget (L' := [vN]) 0 rfl ?_; exact k2 q
theorem b42_12 {d : Nat} {P : Int → sM → sG → Prop} {M : sM} {G : sG}   (kk : P 0 M G) : sW (sC d) 42 (QI P) 12 [vN] [] M G 0 0 := by
  refine q_iconst 13 rfl (show sCode 42 12 = some (.iconst 0, 1) by decide +kernel) ⟨by decide, by decide⟩ ?_
  exact q_iret (show sCode 42 13 = some (.ireturn, 1) by decide +kernel) (by decide +kernel) (by decide +kernel) kk
theorem b42_14 {d : Nat} {Q : Option sV → sM → sG → Prop} {M : sM} {G : sG} {a0 : Nat}  (kk : sC d 28 [vO 4 (a0 + 1), vS 10] M G (QI (fun r M1 G1 => sW (sC d) 42 Q 23 [vO 7 a0] (vI r :: []) M1 G1 0 0))) : sW (sC d) 42 Q 14 [vO 7 a0] [] M G 0 0 := by
  refine q_aload_n 15 rfl (show sCode 42 14 = some (.aload_n 0, 1) by decide +kernel) rfl (Nat.le_of_ble_eq_true rfl) ?_
  refine q_getR (vO 4 (a0 + 1)) 18 rfl (show sCode 42 15 = some (.getfield 12, 3) by decide +kernel) (show sFR (sKo 42).1 12 = some (7, 0) by decide +kernel) (by decide +kernel) (Or.inl (Or.inl rfl)) rfl ?_
  refine q_ldcS 20 rfl (show sCode 42 18 = some (.ldc 149, 2) by decide +kernel) (show sSR (sKo 42).1 149 = some 10 by decide +kernel) ?_
  exact q_virtI [vS 10] 23 rfl (show sCode 42 20 = some (.invokevirtual 146, 3) by decide +kernel) (show sMR (sKo 42).1 146 = some 28 by decide +kernel) (show 28 < 1000 ∧ sStat 28 = false ∧ sIni 28 = false ∧ sKo 28 = (4, 1, 2, 0, 0) by decide +kernel) rfl (Or.inl rfl) rfl (Nat.le_of_ble_eq_true rfl) rfl rfl rfl (by decide +kernel) kk
theorem b42_23 {d : Nat} {Q : Option sV → sM → sG → Prop} {M : sM} {G : sG} {a0 : Nat} {s0 : Int}  (k1 : s0 = 0 → sW (sC d) 42 Q 28 [vO 7 a0] [] M G 0 0) (k2 : s0 ≠ 0 → sW (sC d) 42 Q 26 [vN] [] M G 0 0) : sW (sC d) 42 Q 23 [vO 7 a0] [vI s0] M G 0 0 := by
  refine q_ifeq 28 26 rfl (by decide) (show sCode 42 23 = some (.ifCond .eq 5, 3) by decide +kernel) ?_ ?_
  · intro q; exact k1 q
  · intro q; refine q_forget (L' := [vN]) 0 rfl ?_; exact k2 q
theorem b42_26 {d : Nat} {P : Int → sM → sG → Prop} {M : sM} {G : sG}   (kk : P 1 M G) : sW (sC d) 42 (QI P) 26 [vN] [] M G 0 0 := by
  refine q_iconst 27 rfl (show sCode 42 26 = some (.iconst 1, 1) by decide +kernel) ⟨by decide, by decide⟩ ?_
  exact q_iret (show sCode 42 27 = some (.ireturn, 1) by decide +kernel) (by decide +kernel) (by decide +kernel) kk
theorem b42_28 {d : Nat} {Q : Option sV → sM → sG → Prop} {M : sM} {G : sG} {a0 : Nat}  (kk : sC d 28 [vO 4 (a0 + 1), vS 11] M G (QI (fun r M1 G1 => sW (sC d) 42 Q 37 [vO 7 a0] (vI r :: []) M1 G1 0 0))) : sW (sC d) 42 Q 28 [vO 7 a0] [] M G 0 0 := by
  refine q_aload_n 29 rfl (show sCode 42 28 = some (.aload_n 0, 1) by decide +kernel) rfl (Nat.le_of_ble_eq_true rfl) ?_
  refine q_getR (vO 4 (a0 + 1)) 32 rfl (show sCode 42 29 = some (.getfield 12, 3) by decide +kernel) (show sFR (sKo 42).1 12 = some (7, 0) by decide +kernel) (by decide +kernel) (Or.inl (Or.inl rfl)) rfl ?_
  refine q_ldcS 34 rfl (show sCode 42 32 = some (.ldc 151, 2) by decide +kernel) (show sSR (sKo 42).1 151 = some 11 by decide +kernel) ?_
  exact q_virtI [vS 11] 37 rfl (show sCode 42 34 = some (.invokevirtual 146, 3) by decide +kernel) (show sMR (sKo 42).1 146 = some 28 by decide +kernel) (show 28 < 1000 ∧ sStat 28 = false ∧ sIni 28 = false ∧ sKo 28 = (4, 1, 2, 0, 0) by decide +kernel) rfl (Or.inl rfl) rfl (Nat.le_of_ble_eq_true rfl) rfl rfl rfl (by decide +kernel) kk
theorem b42_37 {d : Nat} {Q : Option sV → sM → sG → Prop} {M : sM} {G : sG} {a0 : Nat} {s0 : Int}  (k1 : s0 = 0 → sW (sC d) 42 Q 42 [vO 7 a0] [] M G 0 0) (k2 : s0 ≠ 0 → sW (sC d) 42 Q 40 [vN] [] M G 0 0) : sW (sC d) 42 Q 37 [vO 7 a0] [vI s0] M G 0 0 := by
  refine q_ifeq 42 40 rfl (by decide) (show sCode 42 37 = some (.ifCond .eq 5, 3) by decide +kernel) ?_ ?_
  · intro q; exact k1 q
  · intro q; refine q_forget (L' := [vN]) 0 rfl ?_; exact k2 q
theorem b42_40 {d : Nat} {P : Int → sM → sG → Prop} {M : sM} {G : sG}   (kk : P 2 M G) : sW (sC d) 42 (QI P) 40 [vN] [] M G 0 0 := by
  refine q_iconst 41 rfl (show sCode 42 40 = some (.iconst 2, 1) by decide +kernel) ⟨by decide, by decide⟩ ?_
  exact q_iret (show sCode 42 41 = some (.ireturn, 1) by decide +kernel) (by decide +kernel) (by decide +kernel) kk
theorem b42_42 {d : Nat} {Q : Option sV → sM → sG → Prop} {M : sM} {G : sG} {a0 : Nat}  (kk : sC d 28 [vO 4 (a0 + 1), vS 12] M G (QI (fun r M1 G1 => sW (sC d) 42 Q 51 [vO 7 a0] (vI r :: []) M1 G1 0 0))) : sW (sC d) 42 Q 42 [vO 7 a0] [] M G 0 0 := by
  refine q_aload_n 43 rfl (show sCode 42 42 = some (.aload_n 0, 1) by decide +kernel) rfl (Nat.le_of_ble_eq_true rfl) ?_
  refine q_getR (vO 4 (a0 + 1)) 46 rfl (show sCode 42 43 = some (.getfield 12, 3) by decide +kernel) (show sFR (sKo 42).1 12 = some (7, 0) by decide +kernel) (by decide +kernel) (Or.inl (Or.inl rfl)) rfl ?_
  refine q_ldcS 48 rfl (show sCode 42 46 = some (.ldc 153, 2) by decide +kernel) (show sSR (sKo 42).1 153 = some 12 by decide +kernel) ?_
  exact q_virtI [vS 12] 51 rfl (show sCode 42 48 = some (.invokevirtual 146, 3) by decide +kernel) (show sMR (sKo 42).1 146 = some 28 by decide +kernel) (show 28 < 1000 ∧ sStat 28 = false ∧ sIni 28 = false ∧ sKo 28 = (4, 1, 2, 0, 0) by decide +kernel) rfl (Or.inl rfl) rfl (Nat.le_of_ble_eq_true rfl) rfl rfl rfl (by decide +kernel) kk
theorem b42_51 {d : Nat} {Q : Option sV → sM → sG → Prop} {M : sM} {G : sG} {a0 : Nat} {s0 : Int}  (k1 : s0 = 0 → sW (sC d) 42 Q 56 [vO 7 a0] [] M G 0 0) (k2 : s0 ≠ 0 → sW (sC d) 42 Q 54 [vN] [] M G 0 0) : sW (sC d) 42 Q 51 [vO 7 a0] [vI s0] M G 0 0 := by
  refine q_ifeq 56 54 rfl (by decide) (show sCode 42 51 = some (.ifCond .eq 5, 3) by decide +kernel) ?_ ?_
  · intro q; exact k1 q
  · intro q; refine q_forget (L' := [vN]) 0 rfl ?_; exact k2 q
theorem b42_54 {d : Nat} {P : Int → sM → sG → Prop} {M : sM} {G : sG}   (kk : P 3 M G) : sW (sC d) 42 (QI P) 54 [vN] [] M G 0 0 := by
  refine q_iconst 55 rfl (show sCode 42 54 = some (.iconst 3, 1) by decide +kernel) ⟨by decide, by decide⟩ ?_
  exact q_iret (show sCode 42 55 = some (.ireturn, 1) by decide +kernel) (by decide +kernel) (by decide +kernel) kk
theorem b42_56 {d : Nat} {Q : Option sV → sM → sG → Prop} {M : sM} {G : sG} {a0 : Nat}  (kk : sC d 28 [vO 4 (a0 + 1), vS 13] M G (QI (fun r M1 G1 => sW (sC d) 42 Q 65 [vO 7 a0] (vI r :: []) M1 G1 0 0))) : sW (sC d) 42 Q 56 [vO 7 a0] [] M G 0 0 := by
  refine q_aload_n 57 rfl (show sCode 42 56 = some (.aload_n 0, 1) by decide +kernel) rfl (Nat.le_of_ble_eq_true rfl) ?_
  refine q_getR (vO 4 (a0 + 1)) 60 rfl (show sCode 42 57 = some (.getfield 12, 3) by decide +kernel) (show sFR (sKo 42).1 12 = some (7, 0) by decide +kernel) (by decide +kernel) (Or.inl (Or.inl rfl)) rfl ?_
  refine q_ldcS 62 rfl (show sCode 42 60 = some (.ldc 155, 2) by decide +kernel) (show sSR (sKo 42).1 155 = some 13 by decide +kernel) ?_
  exact q_virtI [vS 13] 65 rfl (show sCode 42 62 = some (.invokevirtual 146, 3) by decide +kernel) (show sMR (sKo 42).1 146 = some 28 by decide +kernel) (show 28 < 1000 ∧ sStat 28 = false ∧ sIni 28 = false ∧ sKo 28 = (4, 1, 2, 0, 0) by decide +kernel) rfl (Or.inl rfl) rfl (Nat.le_of_ble_eq_true rfl) rfl rfl rfl (by decide +kernel) kk
theorem b42_65 {d : Nat} {Q : Option sV → sM → sG → Prop} {M : sM} {G : sG} {a0 : Nat} {s0 : Int}  (k1 : s0 = 0 → sW (sC d) 42 Q 70 [vO 7 a0] [] M G 0 0) (k2 : s0 ≠ 0 → sW (sC d) 42 Q 68 [vN] [] M G 0 0) : sW (sC d) 42 Q 65 [vO 7 a0] [vI s0] M G 0 0 := by
  refine q_ifeq 70 68 rfl (by decide) (show sCode 42 65 = some (.ifCond .eq 5, 3) by decide +kernel) ?_ ?_
  · intro q; exact k1 q
  · intro q; refine q_forget (L' := [vN]) 0 rfl ?_; exact k2 q
theorem b42_68 {d : Nat} {P : Int → sM → sG → Prop} {M : sM} {G : sG}   (kk : P 4 M G) : sW (sC d) 42 (QI P) 68 [vN] [] M G 0 0 := by
  refine q_iconst 69 rfl (show sCode 42 68 = some (.iconst 4, 1) by decide +kernel) ⟨by decide, by decide⟩ ?_
  exact q_iret (show sCode 42 69 = some (.ireturn, 1) by decide +kernel) (by decide +kernel) (by decide +kernel) kk
theorem b42_70 {d : Nat} {Q : Option sV → sM → sG → Prop} {M : sM} {G : sG} {a0 : Nat}  (kk : sC d 28 [vO 4 (a0 + 1), vS 14] M G (QI (fun r M1 G1 => sW (sC d) 42 Q 79 [vO 7 a0] (vI r :: []) M1 G1 0 0))) : sW (sC d) 42 Q 70 [vO 7 a0] [] M G 0 0 := by
  refine q_aload_n 71 rfl (show sCode 42 70 = some (.aload_n 0, 1) by decide +kernel) rfl (Nat.le_of_ble_eq_true rfl) ?_
  refine q_getR (vO 4 (a0 + 1)) 74 rfl (show sCode 42 71 = some (.getfield 12, 3) by decide +kernel) (show sFR (sKo 42).1 12 = some (7, 0) by decide +kernel) (by decide +kernel) (Or.inl (Or.inl rfl)) rfl ?_
  refine q_ldcS 76 rfl (show sCode 42 74 = some (.ldc 157, 2) by decide +kernel) (show sSR (sKo 42).1 157 = some 14 by decide +kernel) ?_
  exact q_virtI [vS 14] 79 rfl (show sCode 42 76 = some (.invokevirtual 146, 3) by decide +kernel) (show sMR (sKo 42).1 146 = some 28 by decide +kernel) (show 28 < 1000 ∧ sStat 28 = false ∧ sIni 28 = false ∧ sKo 28 = (4, 1, 2, 0, 0) by decide +kernel) rfl (Or.inl rfl) rfl (Nat.le_of_ble_eq_true rfl) rfl rfl rfl (by decide +kernel) kk
theorem b42_79 {d : Nat} {Q : Option sV → sM → sG → Prop} {M : sM} {G : sG} {a0 : Nat} {s0 : Int}  (k1 : s0 = 0 → sW (sC d) 42 Q 84 [vO 7 a0] [] M G 0 0) (k2 : s0 ≠ 0 → sW (sC d) 42 Q 82 [vN] [] M G 0 0) : sW (sC d) 42 Q 79 [vO 7 a0] [vI s0] M G 0 0 := by
  refine q_ifeq 84 82 rfl (by decide) (show sCode 42 79 = some (.ifCond .eq 5, 3) by decide +kernel) ?_ ?_
  · intro q; exact k1 q
  · intro q; refine q_forget (L' := [vN]) 0 rfl ?_; exact k2 q
theorem b42_82 {d : Nat} {P : Int → sM → sG → Prop} {M : sM} {G : sG}   (kk : P 5 M G) : sW (sC d) 42 (QI P) 82 [vN] [] M G 0 0 := by
  refine q_iconst 83 rfl (show sCode 42 82 = some (.iconst 5, 1) by decide +kernel) ⟨by decide, by decide⟩ ?_
  exact q_iret (show sCode 42 83 = some (.ireturn, 1) by decide +kernel) (by decide +kernel) (by decide +kernel) kk
theorem b42_84 {d : Nat} {Q : Option sV → sM → sG → Prop} {M : sM} {G : sG} {a0 : Nat}  (kk : sC d 28 [vO 4 (a0 + 1), vS 15] M G (QI (fun r M1 G1 => sW (sC d) 42 Q 93 [vO 7 a0] (vI r :: []) M1 G1 0 0))) : sW (sC d) 42 Q 84 [vO 7 a0] [] M G 0 0 := by
  refine q_aload_n 85 rfl (show sCode 42 84 = some (.aload_n 0, 1) by decide +kernel) rfl (Nat.le_of_ble_eq_true rfl) ?_
  refine q_getR (vO 4 (a0 + 1)) 88 rfl (show sCode 42 85 = some (.getfield 12, 3) by decide +kernel) (show sFR (sKo 42).1 12 = some (7, 0) by decide +kernel) (by decide +kernel) (Or.inl (Or.inl rfl)) rfl ?_
  refine q_ldcS 90 rfl (show sCode 42 88 = some (.ldc 159, 2) by decide +kernel) (show sSR (sKo 42).1 159 = some 15 by decide +kernel) ?_
  exact q_virtI [vS 15] 93 rfl (show sCode 42 90 = some (.invokevirtual 146, 3) by decide +kernel) (show sMR (sKo 42).1 146 = some 28 by decide +kernel) (show 28 < 1000 ∧ sStat 28 = false ∧ sIni 28 = false ∧ sKo 28 = (4, 1, 2, 0, 0) by decide +kernel) rfl (Or.inl rfl) rfl (Nat.le_of_ble_eq_true rfl) rfl rfl rfl (by decide +kernel) kk
theorem b42_93 {d : Nat} {Q : Option sV → sM → sG → Prop} {M : sM} {G : sG} {a0 : Nat} {s0 : Int}  (k1 : s0 = 0 → sW (sC d) 42 Q 99 [vO 7 a0] [] M G 0 0) (k2 : s0 ≠ 0 → sW (sC d) 42 Q 96 [vN] [] M G 0 0) : sW (sC d) 42 Q 93 [vO 7 a0] [vI s0] M G 0 0 := by
  refine q_ifeq 99 96 rfl (by decide) (show sCode 42 93 = some (.ifCond .eq 6, 3) by decide +kernel) ?_ ?_
  · intro q; exact k1 q
  · intro q; refine q_forget (L' := [vN]) 0 rfl ?_; exact k2 q
theorem b42_96 {d : Nat} {P : Int → sM → sG → Prop} {M : sM} {G : sG}   (kk : P 6 M G) : sW (sC d) 42 (QI P) 96 [vN] [] M G 0 0 := by
  refine q_bipush 98 rfl (show sCode 42 96 = some (.bipush 6, 2) by decide +kernel) ⟨by decide, by decide⟩ (by decide +kernel) ?_
  exact q_iret (show sCode 42 98 = some (.ireturn, 1) by decide +kernel) (by decide +kernel) (by decide +kernel) kk
theorem b42_99 {d : Nat} {Q : Option sV → sM → sG → Prop} {M : sM} {G : sG} {a0 : Nat}  (kk : sC d 28 [vO 4 (a0 + 1), vS 16] M G (QI (fun r M1 G1 => sW (sC d) 42 Q 108 [vO 7 a0] (vI r :: []) M1 G1 0 0))) : sW (sC d) 42 Q 99 [vO 7 a0] [] M G 0 0 := by
  refine q_aload_n 100 rfl (show sCode 42 99 = some (.aload_n 0, 1) by decide +kernel) rfl (Nat.le_of_ble_eq_true rfl) ?_
  refine q_getR (vO 4 (a0 + 1)) 103 rfl (show sCode 42 100 = some (.getfield 12, 3) by decide +kernel) (show sFR (sKo 42).1 12 = some (7, 0) by decide +kernel) (by decide +kernel) (Or.inl (Or.inl rfl)) rfl ?_
  refine q_ldcS 105 rfl (show sCode 42 103 = some (.ldc 161, 2) by decide +kernel) (show sSR (sKo 42).1 161 = some 16 by decide +kernel) ?_
  exact q_virtI [vS 16] 108 rfl (show sCode 42 105 = some (.invokevirtual 146, 3) by decide +kernel) (show sMR (sKo 42).1 146 = some 28 by decide +kernel) (show 28 < 1000 ∧ sStat 28 = false ∧ sIni 28 = false ∧ sKo 28 = (4, 1, 2, 0, 0) by decide +kernel) rfl (Or.inl rfl) rfl (Nat.le_of_ble_eq_true rfl) rfl rfl rfl (by decide +kernel) kk
theorem b42_108 {d : Nat} {Q : Option sV → sM → sG → Prop} {M : sM} {G : sG} {a0 : Nat} {s0 : Int}  (k1 : s0 = 0 → sW (sC d) 42 Q 114 [vO 7 a0] [] M G 0 0) (k2 : s0 ≠ 0 → sW (sC d) 42 Q 111 [vN] [] M G 0 0) : sW (sC d) 42 Q 108 [vO 7 a0] [vI s0] M G 0 0 := by
  refine q_ifeq 114 111 rfl (by decide) (show sCode 42 108 = some (.ifCond .eq 6, 3) by decide +kernel) ?_ ?_
  · intro q; exact k1 q
  · intro q; refine q_forget (L' := [vN]) 0 rfl ?_; exact k2 q
theorem b42_111 {d : Nat} {P : Int → sM → sG → Prop} {M : sM} {G : sG}   (kk : P 7 M G) : sW (sC d) 42 (QI P) 111 [vN] [] M G 0 0 := by
  refine q_bipush 113 rfl (show sCode 42 111 = some (.bipush 7, 2) by decide +kernel) ⟨by decide, by decide⟩ (by decide +kernel) ?_
  exact q_iret (show sCode 42 113 = some (.ireturn, 1) by decide +kernel) (by decide +kernel) (by decide +kernel) kk
theorem b42_114 {d : Nat} {Q : Option sV → sM → sG → Prop} {M : sM} {G : sG} {a0 : Nat}  (kk : sC d 28 [vO 4 (a0 + 1), vS 17] M G (QI (fun r M1 G1 => sW (sC d) 42 Q 123 [vO 7 a0] (vI r :: []) M1 G1 0 0))) : sW (sC d) 42 Q 114 [vO 7 a0] [] M G 0 0 := by
  refine q_aload_n 115 rfl (show sCode 42 114 = some (.aload_n 0, 1) by decide +kernel) rfl (Nat.le_of_ble_eq_true rfl) ?_
  refine q_getR (vO 4 (a0 + 1)) 118 rfl (show sCode 42 115 = some (.getfield 12, 3) by decide +kernel) (show sFR (sKo 42).1 12 = some (7, 0) by decide +kernel) (by decide +kernel) (Or.inl (Or.inl rfl)) rfl ?_
  refine q_ldcS 120 rfl (show sCode 42 118 = some (.ldc 163, 2) by decide +kernel) (show sSR (sKo 42).1 163 = some 17 by decide +kernel) ?_
  exact q_virtI [vS 17] 123 rfl (show sCode 42 120 = some (.invokevirtual 146, 3) by decide +kernel) (show sMR (sKo 42).1 146 = some 28 by decide +kernel) (show 28 < 1000 ∧ sStat 28 = false ∧ sIni 28 = false ∧ sKo 28 = (4, 1, 2, 0, 0) by decide +kernel) rfl (Or.inl rfl) rfl (Nat.le_of_ble_eq_true rfl) rfl rfl rfl (by decide +kernel) kk
theorem b42_123 {d : Nat} {Q : Option sV → sM → sG → Prop} {M : sM} {G : sG} {a0 : Nat} {s0 : Int}  (k1 : s0 = 0 → sW (sC d) 42 Q 129 [vO 7 a0] [] M G 0 0) (k2 : s0 ≠ 0 → sW (sC d) 42 Q 126 [vN] [] M G 0 0) : sW (sC d) 42 Q 123 [vO 7 a0] [vI s0] M G 0 0 := by
  refine q_ifeq 129 126 rfl (by decide) (show sCode 42 123 = some (.ifCond .eq 6, 3) by decide +kernel) ?_ ?_
  · intro q; exact k1 q
  · intro q; refine q_forget (L' := [vN]) 0 rfl ?_; exact k2 q
theorem b42_126 {d : Nat} {P : Int → sM → sG → Prop} {M : sM} {G : sG}   (kk : P 8 M G) : sW (sC d) 42 (QI P) 126 [vN] [] M G 0 0 := by
  refine q_bipush 128 rfl (show sCode 42 126 = some (.bipush 8, 2) by decide +kernel) ⟨by decide, by decide⟩ (by decide +kernel) ?_
  exact q_iret (show sCode 42 128 = some (.ireturn, 1) by decide +kernel) (by decide +kernel) (by decide +kernel) kk
theorem b42_129 {d : Nat} {Q : Option sV → sM → sG → Prop} {M : sM} {G : sG} {a0 : Nat}  (kk : sC d 28 [vO 4 (a0 + 1), vS 18] M G (QI (fun r M1 G1 => sW (sC d) 42 Q 138 [vN] (vI r :: []) M1 G1 0 0))) : sW (sC d) 42 Q 129 [vO 7 a0] [] M G 0 0 := by
  refine q_aload_n 130 rfl (show sCode 42 129 = some (.aload_n 0, 1) by decide +kernel) rfl (Nat.le_of_ble_eq_true rfl) ?_
  refine q_getR (vO 4 (a0 + 1)) 133 rfl (show sCode 42 130 = some (.getfield 12, 3) by decide +kernel) (show sFR (sKo 42).1 12 = some (7, 0) by decide +kernel) (by decide +kernel) (Or.inl (Or.inl rfl)) rfl ?_
  refine q_ldcS 135 rfl (show sCode 42 133 = some (.ldc 165, 2) by decide +kernel) (show sSR (sKo 42).1 165 = some 18 by decide +kernel) ?_
  refine q_forget (L' := [vN]) 0 rfl ?_
  exact q_virtI [vS 18] 138 rfl (show sCode 42 135 = some (.invokevirtual 146, 3) by decide +kernel) (show sMR (sKo 42).1 146 = some 28 by decide +kernel) (show 28 < 1000 ∧ sStat 28 = false ∧ sIni 28 = false ∧ sKo 28 = (4, 1, 2, 0, 0) by decide +kernel) rfl (Or.inl rfl) rfl (Nat.le_of_ble_eq_true rfl) rfl rfl rfl (by decide +kernel) kk
theorem b42_138 {d : Nat} {Q : Option sV → sM → sG → Prop} {M : sM} {G : sG} {s0 : Int}  (k1 : s0 = 0 → sW (sC d) 42 Q 144 [vN] [] M G 0 0) (k2 : s0 ≠ 0 → sW (sC d) 42 Q 141 [vN] [] M G 0 0) : sW (sC d) 42 Q 138 [vN] [vI s0] M G 0 0 := by
  refine q_ifeq 144 141 rfl (by decide) (show sCode 42 138 = some (.ifCond .eq 6, 3) by decide +kernel) ?_ ?_
  · intro q; exact k1 q
  · intro q; exact k2 q
theorem b42_141 {d : Nat} {P : Int → sM → sG → Prop} {M : sM} {G : sG}   (kk : P 9 M G) : sW (sC d) 42 (QI P) 141 [vN] [] M G 0 0 := by
  refine q_bipush 143 rfl (show sCode 42 141 = some (.bipush 9, 2) by decide +kernel) ⟨by decide, by decide⟩ (by decide +kernel) ?_
  exact q_iret (show sCode 42 143 = some (.ireturn, 1) by decide +kernel) (by decide +kernel) (by decide +kernel) kk
theorem b42_144 {d : Nat} {P : Int → sM → sG → Prop} {M : sM} {G : sG}   (kk : P (-1) M G) : sW (sC d) 42 (QI P) 144 [vN] [] M G 0 0 := by
  refine q_iconst 145 rfl (show sCode 42 144 = some (.iconst (-1), 1) by decide +kernel) ⟨by decide, by decide⟩ ?_
  exact q_iret (show sCode 42 145 = some (.ireturn, 1) by decide +kernel) (by decide +kernel) (by decide +kernel) kk
-- 43 AfterTheLast$RuleReader.countPart (I)V
theorem b43_0 {d : Nat} {Q : Option sV → sM → sG → Prop} {M : sM} {G : sG} {a0 : Nat} {x1 : Int}  (k1 : M a0 11 < 60 → sW (sC d) 43 Q 18 [vO 7 a0, vN] [] M G 0 0) (k2 : 60 ≤ M a0 11 → sW (sC d) 43 Q 9 [vO 7 a0, vI x1] [] M G 0 0) : sW (sC d) 43 Q 0 [vO 7 a0, vI x1] [] M G 0 0 := by
  refine q_aload_n 1 rfl (show sCode 43 0 = some (.aload_n 0, 1) by decide +kernel) rfl (Nat.le_of_ble_eq_true rfl) ?_
  refine q_getI 4 rfl (show sCode 43 1 = some (.getfield 52, 3) by decide +kernel) (show sFR (sKo 43).1 52 = some (7, 11) by decide +kernel) (by decide +kernel) (Or.inl (Or.inl rfl)) ?_
  refine q_bipush 6 rfl (show sCode 43 4 = some (.bipush 60, 2) by decide +kernel) ⟨by decide, by decide⟩ (by decide +kernel) ?_
  refine q_icmplt 18 9 rfl (by decide) (show sCode 43 6 = some (.if_icmp .lt 12, 3) by decide +kernel) ?_ ?_
  · intro q; refine q_forget (L' := [vO 7 a0, vN]) 1 rfl ?_; exact k1 q
  · intro q; exact k2 q
theorem b43_9 {d : Nat} {Q : Option sV → sM → sG → Prop} {M : sM} {G : sG} {a0 : Nat} {x1 : Int}  (kk : sC d 25 [vO 4 (a0 + 1), vI x1, vI 3] M G (QV (fun M1 G1 => sW (sC d) 43 Q 18 [vO 7 a0, vN] [] M1 G1 0 0))) : sW (sC d) 43 Q 9 [vO 7 a0, vI x1] [] M G 0 0 := by
  refine q_aload_n 10 rfl (show sCode 43 9 = some (.aload_n 0, 1) by decide +kernel) rfl (Nat.le_of_ble_eq_true rfl) ?_
  refine q_getR (vO 4 (a0 + 1)) 13 rfl (show sCode 43 10 = some (.getfield 12, 3) by decide +kernel) (show sFR (sKo 43).1 12 = some (7, 0) by decide +kernel) (by decide +kernel) (Or.inl (Or.inl rfl)) rfl ?_
  refine q_iload_n 14 rfl (show sCode 43 13 = some (.iload_n 1, 1) by decide +kernel) rfl ?_
  refine q_iconst 15 rfl (show sCode 43 14 = some (.iconst 3, 1) by decide +kernel) ⟨by decide, by decide⟩ ?_
  refine q_forget (L' := [vO 7 a0, vN]) 1 rfl ?_
  exact q_virtV [vI x1, vI 3] 18 rfl (show sCode 43 15 = some (.invokevirtual 184, 3) by decide +kernel) (show sMR (sKo 43).1 184 = some 25 by decide +kernel) (show 25 < 1000 ∧ sStat 25 = false ∧ sIni 25 = false ∧ sKo 25 = (4, 2, 0, 0, 0) by decide +kernel) rfl (Or.inl rfl) rfl (Nat.le_of_ble_eq_true rfl) rfl rfl rfl (by decide +kernel) kk
theorem b43_18 {d : Nat} {P : sM → sG → Prop} {M : sM} {G : sG} {a0 : Nat} (h1 : sI ((M a0 11) + 1)) (kk : P (sUpd M a0 11 ((M a0 11) + 1)) G) : sW (sC d) 43 (QV P) 18 [vO 7 a0, vN] [] M G 0 0 := by
  refine q_aload_n 19 rfl (show sCode 43 18 = some (.aload_n 0, 1) by decide +kernel) rfl (Nat.le_of_ble_eq_true rfl) ?_
  refine q_dup 20 rfl (show sCode 43 19 = some (.dup, 1) by decide +kernel) rfl ?_
  refine q_getI 23 rfl (show sCode 43 20 = some (.getfield 52, 3) by decide +kernel) (show sFR (sKo 43).1 52 = some (7, 11) by decide +kernel) (by decide +kernel) (Or.inl (Or.inl rfl)) ?_
  refine q_iconst 24 rfl (show sCode 43 23 = some (.iconst 1, 1) by decide +kernel) ⟨by decide, by decide⟩ ?_
  refine q_iadd 25 rfl (show sCode 43 24 = some (.iadd, 1) by decide +kernel) h1 ?_
  refine q_putI 28 rfl (show sCode 43 25 = some (.putfield 52, 3) by decide +kernel) (show sFR (sKo 43).1 52 = some (7, 11) by decide +kernel) (by decide +kernel) (Or.inl ⟨Or.inl rfl, by decide +kernel⟩) ?_
  exact q_vret (show sCode 43 28 = some (.return_, 1) by decide +kernel) (by decide +kernel) (by decide +kernel) kk
-- 44 AfterTheLast$RuleReader.add (II)I
theorem b44_0 {d : Nat} {Q : Option sV → sM → sG → Prop} {M : sM} {G : sG} {a0 : Nat} {x1 : Int} {x2 : Int}  (k1 : M a0 8 < 400 → sW (sC d) 44 Q 12 [vO 7 a0, vI x1, vI x2] [] M G 0 0) (k2 : 400 ≤ M a0 8 → sW (sC d) 44 Q 10 [vN, vN, vN] [] M G 0 0) : sW (sC d) 44 Q 0 [vO 7 a0, vI x1, vI x2] [] M G 0 0 := by
  refine q_aload_n 1 rfl (show sCode 44 0 = some (.aload_n 0, 1) by decide +kernel) rfl (Nat.le_of_ble_eq_true rfl) ?_
  refine q_getI 4 rfl (show sCode 44 1 = some (.getfield 42, 3) by decide +kernel) (show sFR (sKo 44).1 42 = some (7, 8) by decide +kernel) (by decide +kernel) (Or.inl (Or.inl rfl)) ?_
  refine q_sipush 7 rfl (show sCode 44 4 = some (.sipush 400, 3) by decide +kernel) ⟨by decide, by decide⟩ (by decide +kernel) ?_
  refine q_icmplt 12 10 rfl (by decide) (show sCode 44 7 = some (.if_icmp .lt 5, 3) by decide +kernel) ?_ ?_
  · intro q; exact k1 q
  · intro q; refine q_forget (L' := [vN, vI x1, vI x2]) 0 rfl ?_; refine q_forget (L' := [vN, vN, vI x2]) 1 rfl ?_; refine q_forget (L' := [vN, vN, vN]) 2 rfl ?_; exact k2 q
theorem b44_10 {d : Nat} {P : Int → sM → sG → Prop} {M : sM} {G : sG}   (kk : P (-1) M G) : sW (sC d) 44 (QI P) 10 [vN, vN, vN] [] M G 0 0 := by
  refine q_iconst 11 rfl (show sCode 44 10 = some (.iconst (-1), 1) by decide +kernel) ⟨by decide, by decide⟩ ?_
  exact q_iret (show sCode 44 11 = some (.ireturn, 1) by decide +kernel) (by decide +kernel) (by decide +kernel) kk
theorem b44_12 {d : Nat} {P : Int → sM → sG → Prop} {M : sM} {G : sG} {a0 : Nat} {x1 : Int} {x2 : Int} (h1 : 0 ≤ M a0 8 ∧ M a0 8 < 400) (h2 : 0 ≤ (sUpd M (a0 + 3) (M a0 8).toNat x1) a0 8 ∧ (sUpd M (a0 + 3) (M a0 8).toNat x1) a0 8 < 400) (h3 : sI (((sUpd (sUpd M (a0 + 3) (M a0 8).toNat x1) (a0 + 4) ((sUpd M (a0 + 3) (M a0 8).toNat x1) a0 8).toNat x2) a0 8) + 1)) (h4 : sI (((sUpd (sUpd (sUpd M (a0 + 3) (M a0 8).toNat x1) (a0 + 4) ((sUpd M (a0 + 3) (M a0 8).toNat x1) a0 8).toNat x2) a0 8 (((sUpd (sUpd M (a0 + 3) (M a0 8).toNat x1) (a0 + 4) ((sUpd M (a0 + 3) (M a0 8).toNat x1) a0 8).toNat x2) a0 8) + 1)) a0 8) - 1)) (kk : P (((sUpd (sUpd (sUpd M (a0 + 3) (M a0 8).toNat x1) (a0 + 4) ((sUpd M (a0 + 3) (M a0 8).toNat x1) a0 8).toNat x2) a0 8 (((sUpd (sUpd M (a0 + 3) (M a0 8).toNat x1) (a0 + 4) ((sUpd M (a0 + 3) (M a0 8).toNat x1) a0 8).toNat x2) a0 8) + 1)) a0 8) - 1) (sUpd (sUpd (sUpd M (a0 + 3) (M a0 8).toNat x1) (a0 + 4) ((sUpd M (a0 + 3) (M a0 8).toNat x1) a0 8).toNat x2) a0 8 (((sUpd (sUpd M (a0 + 3) (M a0 8).toNat x1) (a0 + 4) ((sUpd M (a0 + 3) (M a0 8).toNat x1) a0 8).toNat x2) a0 8) + 1)) G) : sW (sC d) 44 (QI P) 12 [vO 7 a0, vI x1, vI x2] [] M G 0 0 := by
  refine q_aload_n 13 rfl (show sCode 44 12 = some (.aload_n 0, 1) by decide +kernel) rfl (Nat.le_of_ble_eq_true rfl) ?_
  refine q_getR (vA 0 (a0 + 3) 400) 16 rfl (show sCode 44 13 = some (.getfield 18, 3) by decide +kernel) (show sFR (sKo 44).1 18 = some (7, 1) by decide +kernel) (by decide +kernel) (Or.inl (Or.inl rfl)) rfl ?_
  refine q_aload_n 17 rfl (show sCode 44 16 = some (.aload_n 0, 1) by decide +kernel) rfl (Nat.le_of_ble_eq_true rfl) ?_
  refine q_getI 20 rfl (show sCode 44 17 = some (.getfield 42, 3) by decide +kernel) (show sFR (sKo 44).1 42 = some (7, 8) by decide +kernel) (by decide +kernel) (Or.inl (Or.inl rfl)) ?_
  refine q_iload_n 21 rfl (show sCode 44 20 = some (.iload_n 1, 1) by decide +kernel) rfl ?_
  refine q_iast 22 rfl (show sCode 44 21 = some (.iastore, 1) by decide +kernel) h1 ?_
  refine q_aload_n 23 rfl (show sCode 44 22 = some (.aload_n 0, 1) by decide +kernel) rfl (Nat.le_of_ble_eq_true rfl) ?_
  refine q_getR (vA 0 (a0 + 4) 400) 26 rfl (show sCode 44 23 = some (.getfield 22, 3) by decide +kernel) (show sFR (sKo 44).1 22 = some (7, 2) by decide +kernel) (by decide +kernel) (Or.inl (Or.inl rfl)) rfl ?_
  refine q_aload_n 27 rfl (show sCode 44 26 = some (.aload_n 0, 1) by decide +kernel) rfl (Nat.le_of_ble_eq_true rfl) ?_
  refine q_getI 30 rfl (show sCode 44 27 = some (.getfield 42, 3) by decide +kernel) (show sFR (sKo 44).1 42 = some (7, 8) by decide +kernel) (by decide +kernel) (Or.inl (Or.inl rfl)) ?_
  refine q_iload_n 31 rfl (show sCode 44 30 = some (.iload_n 2, 1) by decide +kernel) rfl ?_
  refine q_iast 32 rfl (show sCode 44 31 = some (.iastore, 1) by decide +kernel) h2 ?_
  refine q_aload_n 33 rfl (show sCode 44 32 = some (.aload_n 0, 1) by decide +kernel) rfl (Nat.le_of_ble_eq_true rfl) ?_
  refine q_dup 34 rfl (show sCode 44 33 = some (.dup, 1) by decide +kernel) rfl ?_
  refine q_getI 37 rfl (show sCode 44 34 = some (.getfield 42, 3) by decide +kernel) (show sFR (sKo 44).1 42 = some (7, 8) by decide +kernel) (by decide +kernel) (Or.inl (Or.inl rfl)) ?_
  refine q_iconst 38 rfl (show sCode 44 37 = some (.iconst 1, 1) by decide +kernel) ⟨by decide, by decide⟩ ?_
  refine q_iadd 39 rfl (show sCode 44 38 = some (.iadd, 1) by decide +kernel) h3 ?_
  refine q_putI 42 rfl (show sCode 44 39 = some (.putfield 42, 3) by decide +kernel) (show sFR (sKo 44).1 42 = some (7, 8) by decide +kernel) (by decide +kernel) (Or.inl ⟨Or.inl rfl, by decide +kernel⟩) ?_
  refine q_aload_n 43 rfl (show sCode 44 42 = some (.aload_n 0, 1) by decide +kernel) rfl (Nat.le_of_ble_eq_true rfl) ?_
  refine q_getI 46 rfl (show sCode 44 43 = some (.getfield 42, 3) by decide +kernel) (show sFR (sKo 44).1 42 = some (7, 8) by decide +kernel) (by decide +kernel) (Or.inl (Or.inl rfl)) ?_
  refine q_iconst 47 rfl (show sCode 44 46 = some (.iconst 1, 1) by decide +kernel) ⟨by decide, by decide⟩ ?_
  refine q_isub 48 rfl (show sCode 44 47 = some (.isub, 1) by decide +kernel) h4 ?_
  exact q_iret (show sCode 44 48 = some (.ireturn, 1) by decide +kernel) (by decide +kernel) (by decide +kernel) kk
-- 45 AfterTheLast$RuleReader.readJoining (I)V
theorem b45_0 {d : Nat} {Q : Option sV → sM → sG → Prop} {M : sM} {G : sG} {a0 : Nat} {x1 : Int}  (kk : sC d 26 [vO 4 (a0 + 1), vI 1] M G (QV (fun M1 G1 => sW (sC d) 45 Q 8 [vO 7 a0, vI x1, vN, vN] [] M1 G1 0 0))) : sW (sC d) 45 Q 0 [vO 7 a0, vI x1, vN, vN] [] M G 0 0 := by
  refine q_aload_n 1 rfl (show sCode 45 0 = some (.aload_n 0, 1) by decide +kernel) rfl (Nat.le_of_ble_eq_true rfl) ?_
  refine q_getR (vO 4 (a0 + 1)) 4 rfl (show sCode 45 1 = some (.getfield 12, 3) by decide +kernel) (show sFR (sKo 45).1 12 = some (7, 0) by decide +kernel) (by decide +kernel) (Or.inl (Or.inl rfl)) rfl ?_
  refine q_iconst 5 rfl (show sCode 45 4 = some (.iconst 1, 1) by decide +kernel) ⟨by decide, by decide⟩ ?_
  exact q_virtV [vI 1] 8 rfl (show sCode 45 5 = some (.invokevirtual 116, 3) by decide +kernel) (show sMR (sKo 45).1 116 = some 26 by decide +kernel) (show 26 < 1000 ∧ sStat 26 = false ∧ sIni 26 = false ∧ sKo 26 = (4, 1, 0, 0, 0) by decide +kernel) rfl (Or.inl rfl) rfl (Nat.le_of_ble_eq_true rfl) rfl rfl rfl (by decide +kernel) kk
theorem b45_8 {d : Nat} {Q : Option sV → sM → sG → Prop} {M : sM} {G : sG} {a0 : Nat} {x1 : Int}  (k1 : x1 = 43 → sW (sC d) 45 Q 20 [vO 7 a0, vI x1, vN, vN] [] M G 0 0) (k2 : x1 ≠ 43 → sW (sC d) 45 Q 14 [vO 7 a0, vI x1, vN, vN] [] M G 0 0) : sW (sC d) 45 Q 8 [vO 7 a0, vI x1, vN, vN] [] M G 0 0 := by
  refine q_iload_n 9 rfl (show sCode 45 8 = some (.iload_n 1, 1) by decide +kernel) rfl ?_
  refine q_bipush 11 rfl (show sCode 45 9 = some (.bipush 43, 2) by decide +kernel) ⟨by decide, by decide⟩ (by decide +kernel) ?_
  refine q_icmpeq 20 14 rfl (by decide) (show sCode 45 11 = some (.if_icmp .eq 9, 3) by decide +kernel) ?_ ?_
  · intro q; exact k1 q
  · intro q; exact k2 q
theorem b45_14 {d : Nat} {Q : Option sV → sM → sG → Prop} {M : sM} {G : sG} {a0 : Nat} {x1 : Int}  (k1 : x1 ≠ 45 → sW (sC d) 45 Q 24 [vO 7 a0, vI x1, vN, vN] [] M G 0 0) (k2 : x1 = 45 → sW (sC d) 45 Q 20 [vO 7 a0, vI x1, vN, vN] [] M G 0 0) : sW (sC d) 45 Q 14 [vO 7 a0, vI x1, vN, vN] [] M G 0 0 := by
  refine q_iload_n 15 rfl (show sCode 45 14 = some (.iload_n 1, 1) by decide +kernel) rfl ?_
  refine q_bipush 17 rfl (show sCode 45 15 = some (.bipush 45, 2) by decide +kernel) ⟨by decide, by decide⟩ (by decide +kernel) ?_
  refine q_icmpne 24 20 rfl (by decide) (show sCode 45 17 = some (.if_icmp .ne 7, 3) by decide +kernel) ?_ ?_
  · intro q; exact k1 q
  · intro q; exact k2 q
theorem b45_20 {d : Nat} {Q : Option sV → sM → sG → Prop} {M : sM} {G : sG} {a0 : Nat} {x1 : Int}  (kk : sW (sC d) 45 Q 25 [vO 7 a0, vI x1, vN, vN] [vI 1] M G 0 0) : sW (sC d) 45 Q 20 [vO 7 a0, vI x1, vN, vN] [] M G 0 0 := by
  refine q_iconst 21 rfl (show sCode 45 20 = some (.iconst 1, 1) by decide +kernel) ⟨by decide, by decide⟩ ?_
  refine q_goto 25 (by decide) (show sCode 45 21 = some (.goto 4, 3) by decide +kernel) ?_
  exact kk
theorem b45_24 {d : Nat} {Q : Option sV → sM → sG → Prop} {M : sM} {G : sG} {a0 : Nat} {x1 : Int}  (kk : sW (sC d) 45 Q 25 [vO 7 a0, vI x1, vN, vN] [vI 0] M G 0 0) : sW (sC d) 45 Q 24 [vO 7 a0, vI x1, vN, vN] [] M G 0 0 := by
  refine q_iconst 25 rfl (show sCode 45 24 = some (.iconst 0, 1) by decide +kernel) ⟨by decide, by decide⟩ ?_
  exact kk
theorem b45_25 {d : Nat} {Q : Option sV → sM → sG → Prop} {M : sM} {G : sG} {a0 : Nat} {x1 : Int} {s0 : Int}  (k1 : s0 = 0 → sW (sC d) 45 Q 34 [vO 7 a0, vI x1, vI s0, vN] [] M G 0 0) (k2 : s0 ≠ 0 → sW (sC d) 45 Q 30 [vO 7 a0, vI x1, vI s0, vN] [] M G 0 0) : sW (sC d) 45 Q 25 [vO 7 a0, vI x1, vN, vN] [vI s0] M G 0 0 := by
  refine q_istore_n [vO 7 a0, vI x1, vI s0, vN] 26 rfl (show sCode 45 25 = some (.istore_n 2, 1) by decide +kernel) (Nat.lt_of_lt_of_le (Nat.lt_succ_self _) (Nat.le_of_ble_eq_true rfl)) rfl rfl ?_
  refine q_iload_n 27 rfl (show sCode 45 26 = some (.iload_n 2, 1) by decide +kernel) rfl ?_
  refine q_ifeq 34 30 rfl (by decide) (show sCode 45 27 = some (.ifCond .eq 7, 3) by decide +kernel) ?_ ?_
  · intro q; exact k1 q
  · intro q; exact k2 q
theorem b45_30 {d : Nat} {Q : Option sV → sM → sG → Prop} {M : sM} {G : sG} {a0 : Nat} {x1 : Int} {x2 : Int}  (kk : sW (sC d) 45 Q 36 [vO 7 a0, vI x1, vI x2, vN] [vI 5] M G 0 0) : sW (sC d) 45 Q 30 [vO 7 a0, vI x1, vI x2, vN] [] M G 0 0 := by
  refine q_iconst 31 rfl (show sCode 45 30 = some (.iconst 5, 1) by decide +kernel) ⟨by decide, by decide⟩ ?_
  refine q_goto 36 (by decide) (show sCode 45 31 = some (.goto 5, 3) by decide +kernel) ?_
  exact kk
theorem b45_34 {d : Nat} {Q : Option sV → sM → sG → Prop} {M : sM} {G : sG} {a0 : Nat} {x1 : Int} {x2 : Int}  (kk : sW (sC d) 45 Q 36 [vO 7 a0, vI x1, vI x2, vN] [vI 6] M G 0 0) : sW (sC d) 45 Q 34 [vO 7 a0, vI x1, vI x2, vN] [] M G 0 0 := by
  refine q_bipush 36 rfl (show sCode 45 34 = some (.bipush 6, 2) by decide +kernel) ⟨by decide, by decide⟩ (by decide +kernel) ?_
  exact kk
theorem b45_36 {d : Nat} {Q : Option sV → sM → sG → Prop} {M : sM} {G : sG} {a0 : Nat} {x1 : Int} {x2 : Int} {s0 : Int}  (kk : sC d 46 [vO 7 a0, vI s0] M G (QV (fun M1 G1 => sW (sC d) 45 Q 42 [vO 7 a0, vI x1, vI x2, vI s0] [] M1 G1 0 0))) : sW (sC d) 45 Q 36 [vO 7 a0, vI x1, vI x2, vN] [vI s0] M G 0 0 := by
  refine q_istore_n [vO 7 a0, vI x1, vI x2, vI s0] 37 rfl (show sCode 45 36 = some (.istore_n 3, 1) by decide +kernel) (Nat.lt_of_lt_of_le (Nat.lt_succ_self _) (Nat.le_of_ble_eq_true rfl)) rfl rfl ?_
  refine q_aload_n 38 rfl (show sCode 45 37 = some (.aload_n 0, 1) by decide +kernel) rfl (Nat.le_of_ble_eq_true rfl) ?_
  refine q_iload_n 39 rfl (show sCode 45 38 = some (.iload_n 3, 1) by decide +kernel) rfl ?_
  exact q_virtV [vI s0] 42 rfl (show sCode 45 39 = some (.invokevirtual 167, 3) by decide +kernel) (show sMR (sKo 45).1 167 = some 46 by decide +kernel) (show 46 < 1000 ∧ sStat 46 = false ∧ sIni 46 = false ∧ sKo 46 = (7, 1, 0, 0, 0) by decide +kernel) rfl (Or.inl rfl) rfl (Nat.le_of_ble_eq_true rfl) rfl rfl rfl (by decide +kernel) kk
theorem b45_42 {d : Nat} {Q : Option sV → sM → sG → Prop} {M : sM} {G : sG} {a0 : Nat} {x1 : Int} {x2 : Int} {x3 : Int}  (k1 : x2 = 0 → sW (sC d) 45 Q 66 [vO 7 a0, vI x1, vN, vI x3] [] M G 0 0) (k2 : x2 ≠ 0 → sW (sC d) 45 Q 46 [vO 7 a0, vI x1, vN, vI x3] [] M G 0 0) : sW (sC d) 45 Q 42 [vO 7 a0, vI x1, vI x2, vI x3] [] M G 0 0 := by
  refine q_iload_n 43 rfl (show sCode 45 42 = some (.iload_n 2, 1) by decide +kernel) rfl ?_
  refine q_ifeq 66 46 rfl (by decide) (show sCode 45 43 = some (.ifCond .eq 23, 3) by decide +kernel) ?_ ?_
  · intro q; refine q_forget (L' := [vO 7 a0, vI x1, vN, vI x3]) 2 rfl ?_; exact k1 q
  · intro q; refine q_forget (L' := [vO 7 a0, vI x1, vN, vI x3]) 2 rfl ?_; exact k2 q
theorem b45_46 {d : Nat} {Q : Option sV → sM → sG → Prop} {M : sM} {G : sG} {a0 : Nat} {x1 : Int} {x3 : Int}  (k1 : x1 ≠ 43 → sW (sC d) 45 Q 57 [vO 7 a0, vN, vN, vI x3] [vO 7 a0] M G 0 0) (k2 : x1 = 43 → sW (sC d) 45 Q 53 [vO 7 a0, vN, vN, vI x3] [vO 7 a0] M G 0 0) : sW (sC d) 45 Q 46 [vO 7 a0, vI x1, vN, vI x3] [] M G 0 0 := by
  refine q_aload_n 47 rfl (show sCode 45 46 = some (.aload_n 0, 1) by decide +kernel) rfl (Nat.le_of_ble_eq_true rfl) ?_
  refine q_iload_n 48 rfl (show sCode 45 47 = some (.iload_n 1, 1) by decide +kernel) rfl ?_
  refine q_bipush 50 rfl (show sCode 45 48 = some (.bipush 43, 2) by decide +kernel) ⟨by decide, by decide⟩ (by decide +kernel) ?_
  refine q_icmpne 57 53 rfl (by decide) (show sCode 45 50 = some (.if_icmp .ne 7, 3) by decide +kernel) ?_ ?_
  · intro q; refine q_forget (L' := [vO 7 a0, vN, vN, vI x3]) 1 rfl ?_; exact k1 q
  · intro q; refine q_forget (L' := [vO 7 a0, vN, vN, vI x3]) 1 rfl ?_; exact k2 q
theorem b45_53 {d : Nat} {Q : Option sV → sM → sG → Prop} {M : sM} {G : sG} {a0 : Nat} {x3 : Int} {sa0 : Nat}  (kk : sW (sC d) 45 Q 58 [vO 7 a0, vN, vN, vI x3] [vI 2, vO 7 sa0] M G 0 0) : sW (sC d) 45 Q 53 [vO 7 a0, vN, vN, vI x3] [vO 7 sa0] M G 0 0 := by
  refine q_iconst 54 rfl (show sCode 45 53 = some (.iconst 2, 1) by decide +kernel) ⟨by decide, by decide⟩ ?_
  refine q_goto 58 (by decide) (show sCode 45 54 = some (.goto 4, 3) by decide +kernel) ?_
  exact kk
theorem b45_57 {d : Nat} {Q : Option sV → sM → sG → Prop} {M : sM} {G : sG} {a0 : Nat} {x3 : Int} {sa0 : Nat}  (kk : sW (sC d) 45 Q 58 [vO 7 a0, vN, vN, vI x3] [vI 3, vO 7 sa0] M G 0 0) : sW (sC d) 45 Q 57 [vO 7 a0, vN, vN, vI x3] [vO 7 sa0] M G 0 0 := by
  refine q_iconst 58 rfl (show sCode 45 57 = some (.iconst 3, 1) by decide +kernel) ⟨by decide, by decide⟩ ?_
  exact kk
theorem b45_58 {d : Nat} {Q : Option sV → sM → sG → Prop} {M : sM} {G : sG} {a0 : Nat} {x3 : Int} {s0 : Int} {sa1 : Nat}  (kk : sC d 40 [vO 7 sa1, vI s0, vI x3, vI (-1)] M G (QV (fun M1 G1 => sW (sC d) 45 Q 63 [vO 7 a0, vN, vN, vN] [] M1 G1 0 0))) : sW (sC d) 45 Q 58 [vO 7 a0, vN, vN, vI x3] [vI s0, vO 7 sa1] M G 0 0 := by
  refine q_iload_n 59 rfl (show sCode 45 58 = some (.iload_n 3, 1) by decide +kernel) rfl ?_
  refine q_iconst 60 rfl (show sCode 45 59 = some (.iconst (-1), 1) by decide +kernel) ⟨by decide, by decide⟩ ?_
  refine q_forget (L' := [vO 7 a0, vN, vN, vN]) 3 rfl ?_
  exact q_virtV [vI s0, vI x3, vI (-1)] 63 rfl (show sCode 45 60 = some (.invokevirtual 119, 3) by decide +kernel) (show sMR (sKo 45).1 119 = some 40 by decide +kernel) (show 40 < 1000 ∧ sStat 40 = false ∧ sIni 40 = false ∧ sKo 40 = (7, 3, 0, 0, 0) by decide +kernel) rfl (Or.inl rfl) rfl (Nat.le_of_ble_eq_true rfl) rfl rfl rfl (by decide +kernel) kk
theorem b45_63 {d : Nat} {Q : Option sV → sM → sG → Prop} {M : sM} {G : sG} {a0 : Nat}  (kk : sW (sC d) 45 Q 83 [vO 7 a0, vN, vN, vN] [] M G 0 0) : sW (sC d) 45 Q 63 [vO 7 a0, vN, vN, vN] [] M G 0 0 := by
  refine q_goto 83 (by decide) (show sCode 45 63 = some (.goto 20, 3) by decide +kernel) ?_
  exact kk
theorem b45_66 {d : Nat} {Q : Option sV → sM → sG → Prop} {M : sM} {G : sG} {a0 : Nat} {x1 : Int} {x3 : Int}  (k1 : x1 ≠ 42 → sW (sC d) 45 Q 77 [vO 7 a0, vN, vN, vI x3] [vO 7 a0] M G 0 0) (k2 : x1 = 42 → sW (sC d) 45 Q 73 [vO 7 a0, vN, vN, vI x3] [vO 7 a0] M G 0 0) : sW (sC d) 45 Q 66 [vO 7 a0, vI x1, vN, vI x3] [] M G 0 0 := by
  refine q_aload_n 67 rfl (show sCode 45 66 = some (.aload_n 0, 1) by decide +kernel) rfl (Nat.le_of_ble_eq_true rfl) ?_
  refine q_iload_n 68 rfl (show sCode 45 67 = some (.iload_n 1, 1) by decide +kernel) rfl ?_
  refine q_bipush 70 rfl (show sCode 45 68 = some (.bipush 42, 2) by decide +kernel) ⟨by decide, by decide⟩ (by decide +kernel) ?_
  refine q_icmpne 77 73 rfl (by decide) (show sCode 45 70 = some (.if_icmp .ne 7, 3) by decide +kernel) ?_ ?_
  · intro q; refine q_forget (L' := [vO 7 a0, vN, vN, vI x3]) 1 rfl ?_; exact k1 q
  · intro q; refine q_forget (L' := [vO 7 a0, vN, vN, vI x3]) 1 rfl ?_; exact k2 q
theorem b45_73 {d : Nat} {Q : Option sV → sM → sG → Prop} {M : sM} {G : sG} {a0 : Nat} {x3 : Int} {sa0 : Nat}  (kk : sW (sC d) 45 Q 78 [vO 7 a0, vN, vN, vI x3] [vI 4, vO 7 sa0] M G 0 0) : sW (sC d) 45 Q 73 [vO 7 a0, vN, vN, vI x3] [vO 7 sa0] M G 0 0 := by
  refine q_iconst 74 rfl (show sCode 45 73 = some (.iconst 4, 1) by decide +kernel) ⟨by decide, by decide⟩ ?_
  refine q_goto 78 (by decide) (show sCode 45 74 = some (.goto 4, 3) by decide +kernel) ?_
  exact kk
theorem b45_77 {d : Nat} {Q : Option sV → sM → sG → Prop} {M : sM} {G : sG} {a0 : Nat} {x3 : Int} {sa0 : Nat}  (kk : sW (sC d) 45 Q 78 [vO 7 a0, vN, vN, vI x3] [vI 5, vO 7 sa0] M G 0 0) : sW (sC d) 45 Q 77 [vO 7 a0, vN, vN, vI x3] [vO 7 sa0] M G 0 0 := by
  refine q_iconst 78 rfl (show sCode 45 77 = some (.iconst 5, 1) by decide +kernel) ⟨by decide, by decide⟩ ?_
  exact kk
theorem b45_78 {d : Nat} {Q : Option sV → sM → sG → Prop} {M : sM} {G : sG} {a0 : Nat} {x3 : Int} {s0 : Int} {sa1 : Nat}  (kk : sC d 40 [vO 7 sa1, vI s0, vI x3, vI (-1)] M G (QV (fun M1 G1 => sW (sC d) 45 Q 83 [vO 7 a0, vN, vN, vN] [] M1 G1 0 0))) : sW (sC d) 45 Q 78 [vO 7 a0, vN, vN, vI x3] [vI s0, vO 7 sa1] M G 0 0 := by
  refine q_iload_n 79 rfl (show sCode 45 78 = some (.iload_n 3, 1) by decide +kernel) rfl ?_
  refine q_iconst 80 rfl (show sCode 45 79 = some (.iconst (-1), 1) by decide +kernel) ⟨by decide, by decide⟩ ?_
  refine q_forget (L' := [vO 7 a0, vN, vN, vN]) 3 rfl ?_
  exact q_virtV [vI s0, vI x3, vI (-1)] 83 rfl (show sCode 45 80 = some (.invokevirtual 119, 3) by decide +kernel) (show sMR (sKo 45).1 119 = some 40 by decide +kernel) (show 40 < 1000 ∧ sStat 40 = false ∧ sIni 40 = false ∧ sKo 40 = (7, 3, 0, 0, 0) by decide +kernel) rfl (Or.inl rfl) rfl (Nat.le_of_ble_eq_true rfl) rfl rfl rfl (by decide +kernel) kk
theorem b45_83 {d : Nat} {Q : Option sV → sM → sG → Prop} {M : sM} {G : sG} {a0 : Nat}  (k1 : M a0 14 ≠ 4 → sW (sC d) 45 Q 96 [vN, vN, vN, vN] [vO 7 a0] M G 0 0) (k2 : M a0 14 = 4 → sW (sC d) 45 Q 92 [vN, vN, vN, vN] [vO 7 a0] M G 0 0) : sW (sC d) 45 Q 83 [vO 7 a0, vN, vN, vN] [] M G 0 0 := by
  refine q_aload_n 84 rfl (show sCode 45 83 = some (.aload_n 0, 1) by decide +kernel) rfl (Nat.le_of_ble_eq_true rfl) ?_
  refine q_aload_n 85 rfl (show sCode 45 84 = some (.aload_n 0, 1) by decide +kernel) rfl (Nat.le_of_ble_eq_true rfl) ?_
  refine q_getI 88 rfl (show sCode 45 85 = some (.getfield 61, 3) by decide +kernel) (show sFR (sKo 45).1 61 = some (7, 14) by decide +kernel) (by decide +kernel) (Or.inl (Or.inl rfl)) ?_
  refine q_iconst 89 rfl (show sCode 45 88 = some (.iconst 4, 1) by decide +kernel) ⟨by decide, by decide⟩ ?_
  refine q_icmpne 96 92 rfl (by decide) (show sCode 45 89 = some (.if_icmp .ne 7, 3) by decide +kernel) ?_ ?_
  · intro q; refine q_forget (L' := [vN, vN, vN, vN]) 0 rfl ?_; exact k1 q
  · intro q; refine q_forget (L' := [vN, vN, vN, vN]) 0 rfl ?_; exact k2 q
theorem b45_92 {d : Nat} {Q : Option sV → sM → sG → Prop} {M : sM} {G : sG} {sa0 : Nat}  (kk : sW (sC d) 45 Q 97 [vN, vN, vN, vN] [vI 2, vO 7 sa0] M G 0 0) : sW (sC d) 45 Q 92 [vN, vN, vN, vN] [vO 7 sa0] M G 0 0 := by
  refine q_iconst 93 rfl (show sCode 45 92 = some (.iconst 2, 1) by decide +kernel) ⟨by decide, by decide⟩ ?_
  refine q_goto 97 (by decide) (show sCode 45 93 = some (.goto 4, 3) by decide +kernel) ?_
  exact kk
theorem b45_96 {d : Nat} {Q : Option sV → sM → sG → Prop} {M : sM} {G : sG} {sa0 : Nat}  (kk : sW (sC d) 45 Q 97 [vN, vN, vN, vN] [vI 3, vO 7 sa0] M G 0 0) : sW (sC d) 45 Q 96 [vN, vN, vN, vN] [vO 7 sa0] M G 0 0 := by
  refine q_iconst 97 rfl (show sCode 45 96 = some (.iconst 3, 1) by decide +kernel) ⟨by decide, by decide⟩ ?_
  exact kk
theorem b45_97 {d : Nat} {P : sM → sG → Prop} {M : sM} {G : sG} {s0 : Int} {sa1 : Nat}  (kk : P (sUpd M sa1 14 s0) G) : sW (sC d) 45 (QV P) 97 [vN, vN, vN, vN] [vI s0, vO 7 sa1] M G 0 0 := by
  refine q_putI 100 rfl (show sCode 45 97 = some (.putfield 61, 3) by decide +kernel) (show sFR (sKo 45).1 61 = some (7, 14) by decide +kernel) (by decide +kernel) (Or.inl ⟨Or.inl rfl, by decide +kernel⟩) ?_
  exact q_vret (show sCode 45 100 = some (.return_, 1) by decide +kernel) (by decide +kernel) (by decide +kernel) kk
-- 46 AfterTheLast$RuleReader.settle (I)V
theorem b46_0 {d : Nat} {Q : Option sV → sM → sG → Prop} {M : sM} {G : sG} {a0 : Nat} {x1 : Int}  (k1 : M a0 10 ≤ 0 → sW (sC d) 46 Q 108 [vN, vN, vN] [] M G 0 0) (k2 : 0 < M a0 10 → sW (sC d) 46 Q 7 [vO 7 a0, vI x1, vN] [] M G 0 0) : sW (sC d) 46 Q 0 [vO 7 a0, vI x1, vN] [] M G 0 0 := by
  refine q_aload_n 1 rfl (show sCode 46 0 = some (.aload_n 0, 1) by decide +kernel) rfl (Nat.le_of_ble_eq_true rfl) ?_
  refine q_getI 4 rfl (show sCode 46 1 = some (.getfield 49, 3) by decide +kernel) (show sFR (sKo 46).1 49 = some (7, 10) by decide +kernel) (by decide +kernel) (Or.inl (Or.inl rfl)) ?_
  refine q_ifle 108 7 rfl (by decide) (show sCode 46 4 = some (.ifCond .le 104, 3) by decide +kernel) ?_ ?_
  · intro q; refine q_forget (L' := [vN, vI x1, vN]) 0 rfl ?_; refine q_forget (L' := [vN, vN, vN]) 1 rfl ?_; exact k1 q
  · intro q; exact k2 q
theorem b46_7 {d : Nat} {Q : Option sV → sM → sG → Prop} {M : sM} {G : sG} {a0 : Nat} {x1 : Int} (h1 : sI ((M a0 10) - 1)) (h2 : 0 ≤ (M a0 10) - 1 ∧ (M a0 10) - 1 < 48) (k1 : M (a0 + 9) ((M a0 10) - 1).toNat < x1 → sW (sC d) 46 Q 108 [vN, vN, vN] [] M G 0 0) (k2 : x1 ≤ M (a0 + 9) ((M a0 10) - 1).toNat → sW (sC d) 46 Q 22 [vO 7 a0, vI x1, vN] [] M G 0 0) : sW (sC d) 46 Q 7 [vO 7 a0, vI x1, vN] [] M G 0 0 := by
  refine q_aload_n 8 rfl (show sCode 46 7 = some (.aload_n 0, 1) by decide +kernel) rfl (Nat.le_of_ble_eq_true rfl) ?_
  refine q_getR (vA 0 (a0 + 9) 48) 11 rfl (show sCode 46 8 = some (.getfield 39, 3) by decide +kernel) (show sFR (sKo 46).1 39 = some (7, 7) by decide +kernel) (by decide +kernel) (Or.inl (Or.inl rfl)) rfl ?_
  refine q_aload_n 12 rfl (show sCode 46 11 = some (.aload_n 0, 1) by decide +kernel) rfl (Nat.le_of_ble_eq_true rfl) ?_
  refine q_getI 15 rfl (show sCode 46 12 = some (.getfield 49, 3) by decide +kernel) (show sFR (sKo 46).1 49 = some (7, 10) by decide +kernel) (by decide +kernel) (Or.inl (Or.inl rfl)) ?_
  refine q_iconst 16 rfl (show sCode 46 15 = some (.iconst 1, 1) by decide +kernel) ⟨by decide, by decide⟩ ?_
  refine q_isub 17 rfl (show sCode 46 16 = some (.isub, 1) by decide +kernel) h1 ?_
  refine q_iald 18 rfl (show sCode 46 17 = some (.iaload, 1) by decide +kernel) h2 ?_
  refine q_iload_n 19 rfl (show sCode 46 18 = some (.iload_n 1, 1) by decide +kernel) rfl ?_
  refine q_icmplt 108 22 rfl (by decide) (show sCode 46 19 = some (.if_icmp .lt 89, 3) by decide +kernel) ?_ ?_
  · intro q; refine q_forget (L' := [vN, vI x1, vN]) 0 rfl ?_; refine q_forget (L' := [vN, vN, vN]) 1 rfl ?_; exact k1 q
  · intro q; exact k2 q
theorem b46_22 {d : Nat} {Q : Option sV → sM → sG → Prop} {M : sM} {G : sG} {a0 : Nat} {x1 : Int} (h1 : sI ((M a0 10) - 1)) (h2 : 0 ≤ (sUpd M a0 10 ((M a0 10) - 1)) a0 10 ∧ (sUpd M a0 10 ((M a0 10) - 1)) a0 10 < 48) (k1 : (sUpd M a0 10 ((M a0 10) - 1)) (a0 + 8) ((sUpd M a0 10 ((M a0 10) - 1)) a0 10).toNat < 0 → sW (sC d) 46 Q 66 [vO 7 a0, vI x1, vN] [] (sUpd M a0 10 ((M a0 10) - 1)) G 0 0) (k2 : 0 ≤ (sUpd M a0 10 ((M a0 10) - 1)) (a0 + 8) ((sUpd M a0 10 ((M a0 10) - 1)) a0 10).toNat → sW (sC d) 46 Q 46 [vO 7 a0, vI x1, vI ((sUpd M a0 10 ((M a0 10) - 1)) (a0 + 8) ((sUpd M a0 10 ((M a0 10) - 1)) a0 10).toNat)] [] (sUpd M a0 10 ((M a0 10) - 1)) G 0 0) : sW (sC d) 46 Q 22 [vO 7 a0, vI x1, vN] [] M G 0 0 := by
  refine q_aload_n 23 rfl (show sCode 46 22 = some (.aload_n 0, 1) by decide +kernel) rfl (Nat.le_of_ble_eq_true rfl) ?_
  refine q_dup 24 rfl (show sCode 46 23 = some (.dup, 1) by decide +kernel) rfl ?_
  refine q_getI 27 rfl (show sCode 46 24 = some (.getfield 49, 3) by decide +kernel) (show sFR (sKo 46).1 49 = some (7, 10) by decide +kernel) (by decide +kernel) (Or.inl (Or.inl rfl)) ?_
  refine q_iconst 28 rfl (show sCode 46 27 = some (.iconst 1, 1) by decide +kernel) ⟨by decide, by decide⟩ ?_
  refine q_isub 29 rfl (show sCode 46 28 = some (.isub, 1) by decide +kernel) h1 ?_
  refine q_putI 32 rfl (show sCode 46 29 = some (.putfield 49, 3) by decide +kernel) (show sFR (sKo 46).1 49 = some (7, 10) by decide +kernel) (by decide +kernel) (Or.inl ⟨Or.inl rfl, by decide +kernel⟩) ?_
  refine q_aload_n 33 rfl (show sCode 46 32 = some (.aload_n 0, 1) by decide +kernel) rfl (Nat.le_of_ble_eq_true rfl) ?_
  refine q_getR (vA 0 (a0 + 8) 48) 36 rfl (show sCode 46 33 = some (.getfield 36, 3) by decide +kernel) (show sFR (sKo 46).1 36 = some (7, 6) by decide +kernel) (by decide +kernel) (Or.inl (Or.inl rfl)) rfl ?_
  refine q_aload_n 37 rfl (show sCode 46 36 = some (.aload_n 0, 1) by decide +kernel) rfl (Nat.le_of_ble_eq_true rfl) ?_
  refine q_getI 40 rfl (show sCode 46 37 = some (.getfield 49, 3) by decide +kernel) (show sFR (sKo 46).1 49 = some (7, 10) by decide +kernel) (by decide +kernel) (Or.inl (Or.inl rfl)) ?_
  refine q_iald 41 rfl (show sCode 46 40 = some (.iaload, 1) by decide +kernel) h2 ?_
  refine q_istore_n [vO 7 a0, vI x1, vI ((sUpd M a0 10 ((M a0 10) - 1)) (a0 + 8) ((sUpd M a0 10 ((M a0 10) - 1)) a0 10).toNat)] 42 rfl (show sCode 46 41 = some (.istore_n 2, 1) by decide +kernel) (Nat.lt_of_lt_of_le (Nat.lt_succ_self _) (Nat.le_of_ble_eq_true rfl)) rfl rfl ?_
  refine q_iload_n 43 rfl (show sCode 46 42 = some (.iload_n 2, 1) by decide +kernel) rfl ?_
  refine q_iflt 66 46 rfl (by decide) (show sCode 46 43 = some (.ifCond .lt 23, 3) by decide +kernel) ?_ ?_
  · intro q; refine q_forget (L' := [vO 7 a0, vI x1, vN]) 2 rfl ?_; exact k1 q
  · intro q; exact k2 q
theorem b46_46 {d : Nat} {Q : Option sV → sM → sG → Prop} {M : sM} {G : sG} {a0 : Nat} {x1 : Int} {x2 : Int}  (k1 : 400 ≤ x2 → sW (sC d) 46 Q 66 [vO 7 a0, vI x1, vN] [] M G 0 0) (k2 : x2 < 400 → sW (sC d) 46 Q 53 [vO 7 a0, vI x1, vI x2] [] M G 0 0) : sW (sC d) 46 Q 46 [vO 7 a0, vI x1, vI x2] [] M G 0 0 := by
  refine q_iload_n 47 rfl (show sCode 46 46 = some (.iload_n 2, 1) by decide +kernel) rfl ?_
  refine q_sipush 50 rfl (show sCode 46 47 = some (.sipush 400, 3) by decide +kernel) ⟨by decide, by decide⟩ (by decide +kernel) ?_
  refine q_icmpge 66 53 rfl (by decide) (show sCode 46 50 = some (.if_icmp .ge 16, 3) by decide +kernel) ?_ ?_
  · intro q; refine q_forget (L' := [vO 7 a0, vI x1, vN]) 2 rfl ?_; exact k1 q
  · intro q; exact k2 q
theorem b46_53 {d : Nat} {Q : Option sV → sM → sG → Prop} {M : sM} {G : sG} {a0 : Nat} {x1 : Int} {x2 : Int} (h1 : 0 ≤ x2 ∧ x2 < 400) (kk : sW (sC d) 46 Q 81 [vO 7 a0, vI x1, vN] [] (sUpd M (a0 + 4) x2.toNat (M a0 8)) G 0 0) : sW (sC d) 46 Q 53 [vO 7 a0, vI x1, vI x2] [] M G 0 0 := by
  refine q_aload_n 54 rfl (show sCode 46 53 = some (.aload_n 0, 1) by decide +kernel) rfl (Nat.le_of_ble_eq_true rfl) ?_
  refine q_getR (vA 0 (a0 + 4) 400) 57 rfl (show sCode 46 54 = some (.getfield 22, 3) by decide +kernel) (show sFR (sKo 46).1 22 = some (7, 2) by decide +kernel) (by decide +kernel) (Or.inl (Or.inl rfl)) rfl ?_
  refine q_iload_n 58 rfl (show sCode 46 57 = some (.iload_n 2, 1) by decide +kernel) rfl ?_
  refine q_aload_n 59 rfl (show sCode 46 58 = some (.aload_n 0, 1) by decide +kernel) rfl (Nat.le_of_ble_eq_true rfl) ?_
  refine q_getI 62 rfl (show sCode 46 59 = some (.getfield 42, 3) by decide +kernel) (show sFR (sKo 46).1 42 = some (7, 8) by decide +kernel) (by decide +kernel) (Or.inl (Or.inl rfl)) ?_
  refine q_iast 63 rfl (show sCode 46 62 = some (.iastore, 1) by decide +kernel) h1 ?_
  refine q_goto 81 (by decide) (show sCode 46 63 = some (.goto 18, 3) by decide +kernel) ?_
  refine q_forget (L' := [vO 7 a0, vI x1, vN]) 2 rfl ?_
  exact kk
theorem b46_66 {d : Nat} {Q : Option sV → sM → sG → Prop} {M : sM} {G : sG} {a0 : Nat} {x1 : Int} (h1 : 0 ≤ M a0 10 ∧ M a0 10 < 48) (kk : sC d 44 [vO 7 a0, vI (M (a0 + 7) (M a0 10).toNat), vI 0] M G (QI (fun r M1 G1 => sW (sC d) 46 Q 80 [vO 7 a0, vI x1, vN] (vI r :: []) M1 G1 0 0))) : sW (sC d) 46 Q 66 [vO 7 a0, vI x1, vN] [] M G 0 0 := by
  refine q_aload_n 67 rfl (show sCode 46 66 = some (.aload_n 0, 1) by decide +kernel) rfl (Nat.le_of_ble_eq_true rfl) ?_
  refine q_aload_n 68 rfl (show sCode 46 67 = some (.aload_n 0, 1) by decide +kernel) rfl (Nat.le_of_ble_eq_true rfl) ?_
  refine q_getR (vA 0 (a0 + 7) 48) 71 rfl (show sCode 46 68 = some (.getfield 33, 3) by decide +kernel) (show sFR (sKo 46).1 33 = some (7, 5) by decide +kernel) (by decide +kernel) (Or.inl (Or.inl rfl)) rfl ?_
  refine q_aload_n 72 rfl (show sCode 46 71 = some (.aload_n 0, 1) by decide +kernel) rfl (Nat.le_of_ble_eq_true rfl) ?_
  refine q_getI 75 rfl (show sCode 46 72 = some (.getfield 49, 3) by decide +kernel) (show sFR (sKo 46).1 49 = some (7, 10) by decide +kernel) (by decide +kernel) (Or.inl (Or.inl rfl)) ?_
  refine q_iald 76 rfl (show sCode 46 75 = some (.iaload, 1) by decide +kernel) h1 ?_
  refine q_iconst 77 rfl (show sCode 46 76 = some (.iconst 0, 1) by decide +kernel) ⟨by decide, by decide⟩ ?_
  exact q_virtI [vI (M (a0 + 7) (M a0 10).toNat), vI 0] 80 rfl (show sCode 46 77 = some (.invokevirtual 141, 3) by decide +kernel) (show sMR (sKo 46).1 141 = some 44 by decide +kernel) (show 44 < 1000 ∧ sStat 44 = false ∧ sIni 44 = false ∧ sKo 44 = (7, 2, 1, 0, 0) by decide +kernel) rfl (Or.inl rfl) rfl (Nat.le_of_ble_eq_true rfl) rfl rfl rfl (by decide +kernel) kk
theorem b46_80 {d : Nat} {Q : Option sV → sM → sG → Prop} {M : sM} {G : sG} {a0 : Nat} {x1 : Int} {s0 : Int}  (kk : sW (sC d) 46 Q 81 [vO 7 a0, vI x1, vN] [] M G 0 0) : sW (sC d) 46 Q 80 [vO 7 a0, vI x1, vN] [vI s0] M G 0 0 := by
  refine q_pop 81 rfl (show sCode 46 80 = some (.pop, 1) by decide +kernel) rfl ?_
  exact kk
theorem b46_81 {d : Nat} {Q : Option sV → sM → sG → Prop} {M : sM} {G : sG} {a0 : Nat} {x1 : Int} (h1 : 0 ≤ M a0 10 ∧ M a0 10 < 48) (k1 : M (a0 + 7) (M a0 10).toNat ≠ 11 → sW (sC d) 46 Q 105 [vO 7 a0, vI x1, vN] [] M G 0 0) (k2 : M (a0 + 7) (M a0 10).toNat = 11 → sW (sC d) 46 Q 95 [vO 7 a0, vI x1, vN] [] M G 0 0) : sW (sC d) 46 Q 81 [vO 7 a0, vI x1, vN] [] M G 0 0 := by
  refine q_aload_n 82 rfl (show sCode 46 81 = some (.aload_n 0, 1) by decide +kernel) rfl (Nat.le_of_ble_eq_true rfl) ?_
  refine q_getR (vA 0 (a0 + 7) 48) 85 rfl (show sCode 46 82 = some (.getfield 33, 3) by decide +kernel) (show sFR (sKo 46).1 33 = some (7, 5) by decide +kernel) (by decide +kernel) (Or.inl (Or.inl rfl)) rfl ?_
  refine q_aload_n 86 rfl (show sCode 46 85 = some (.aload_n 0, 1) by decide +kernel) rfl (Nat.le_of_ble_eq_true rfl) ?_
  refine q_getI 89 rfl (show sCode 46 86 = some (.getfield 49, 3) by decide +kernel) (show sFR (sKo 46).1 49 = some (7, 10) by decide +kernel) (by decide +kernel) (Or.inl (Or.inl rfl)) ?_
  refine q_iald 90 rfl (show sCode 46 89 = some (.iaload, 1) by decide +kernel) h1 ?_
  refine q_bipush 92 rfl (show sCode 46 90 = some (.bipush 11, 2) by decide +kernel) ⟨by decide, by decide⟩ (by decide +kernel) ?_
  refine q_icmpne 105 95 rfl (by decide) (show sCode 46 92 = some (.if_icmp .ne 13, 3) by decide +kernel) ?_ ?_
  · intro q; exact k1 q
  · intro q; exact k2 q
theorem b46_95 {d : Nat} {Q : Option sV → sM → sG → Prop} {M : sM} {G : sG} {a0 : Nat} {x1 : Int} (h1 : sI ((M a0 12) - 1)) (kk : sW (sC d) 46 Q 105 [vO 7 a0, vI x1, vN] [] (sUpd M a0 12 ((M a0 12) - 1)) G 0 0) : sW (sC d) 46 Q 95 [vO 7 a0, vI x1, vN] [] M G 0 0 := by
  refine q_aload_n 96 rfl (show sCode 46 95 = some (.aload_n 0, 1) by decide +kernel) rfl (Nat.le_of_ble_eq_true rfl) ?_
  refine q_dup 97 rfl (show sCode 46 96 = some (.dup, 1) by decide +kernel) rfl ?_
  refine q_getI 100 rfl (show sCode 46 97 = some (.getfield 55, 3) by decide +kernel) (show sFR (sKo 46).1 55 = some (7, 12) by decide +kernel) (by decide +kernel) (Or.inl (Or.inl rfl)) ?_
  refine q_iconst 101 rfl (show sCode 46 100 = some (.iconst 1, 1) by decide +kernel) ⟨by decide, by decide⟩ ?_
  refine q_isub 102 rfl (show sCode 46 101 = some (.isub, 1) by decide +kernel) h1 ?_
  refine q_putI 105 rfl (show sCode 46 102 = some (.putfield 55, 3) by decide +kernel) (show sFR (sKo 46).1 55 = some (7, 12) by decide +kernel) (by decide +kernel) (Or.inl ⟨Or.inl rfl, by decide +kernel⟩) ?_
  exact kk
theorem b46_105 {d : Nat} {Q : Option sV → sM → sG → Prop} {M : sM} {G : sG} {a0 : Nat} {x1 : Int}  (kk : sW (sC d) 46 Q 0 [vO 7 a0, vI x1, vN] [] M G 0 0) : sW (sC d) 46 Q 105 [vO 7 a0, vI x1, vN] [] M G 0 0 := by
  refine q_goto 0 (by decide) (show sCode 46 105 = some (.goto (-105), 3) by decide +kernel) ?_
  exact kk
theorem b46_108 {d : Nat} {P : sM → sG → Prop} {M : sM} {G : sG}   (kk : P M G) : sW (sC d) 46 (QV P) 108 [vN, vN, vN] [] M G 0 0 := by
  exact q_vret (show sCode 46 108 = some (.return_, 1) by decide +kernel) (by decide +kernel) (by decide +kernel) kk
-- 47 AfterTheLast$RuleReader.readSign (I)V
theorem b47_0 {d : Nat} {Q : Option sV → sM → sG → Prop} {M : sM} {G : sG} {a0 : Nat} {x1 : Int}  (k1 : x1 = 60 → sW (sC d) 47 Q 27 [vO 7 a0, vI x1, vN] [] M G 0 0) (k2 : x1 ≠ 60 → sW (sC d) 47 Q 6 [vO 7 a0, vI x1, vN] [] M G 0 0) : sW (sC d) 47 Q 0 [vO 7 a0, vI x1, vN] [] M G 0 0 := by
  refine q_iload_n 1 rfl (show sCode 47 0 = some (.iload_n 1, 1) by decide +kernel) rfl ?_
  refine q_bipush 3 rfl (show sCode 47 1 = some (.bipush 60, 2) by decide +kernel) ⟨by decide, by decide⟩ (by decide +kernel) ?_
  refine q_icmpeq 27 6 rfl (by decide) (show sCode 47 3 = some (.if_icmp .eq 24, 3) by decide +kernel) ?_ ?_
  · intro q; exact k1 q
  · intro q; exact k2 q
theorem b47_6 {d : Nat} {Q : Option sV → sM → sG → Prop} {M : sM} {G : sG} {a0 : Nat} {x1 : Int}  (k1 : x1 = 61 → sW (sC d) 47 Q 27 [vO 7 a0, vI x1, vN] [] M G 0 0) (k2 : x1 ≠ 61 → sW (sC d) 47 Q 12 [vO 7 a0, vI x1, vN] [] M G 0 0) : sW (sC d) 47 Q 6 [vO 7 a0, vI x1, vN] [] M G 0 0 := by
  refine q_iload_n 7 rfl (show sCode 47 6 = some (.iload_n 1, 1) by decide +kernel) rfl ?_
  refine q_bipush 9 rfl (show sCode 47 7 = some (.bipush 61, 2) by decide +kernel) ⟨by decide, by decide⟩ (by decide +kernel) ?_
  refine q_icmpeq 27 12 rfl (by decide) (show sCode 47 9 = some (.if_icmp .eq 18, 3) by decide +kernel) ?_ ?_
  · intro q; exact k1 q
  · intro q; exact k2 q
theorem b47_12 {d : Nat} {Q : Option sV → sM → sG → Prop} {M : sM} {G : sG} {a0 : Nat} {x1 : Int}  (k1 : x1 = 62 → sW (sC d) 47 Q 27 [vO 7 a0, vI x1, vN] [] M G 0 0) (k2 : x1 ≠ 62 → sW (sC d) 47 Q 18 [vO 7 a0, vN, vN] [] M G 0 0) : sW (sC d) 47 Q 12 [vO 7 a0, vI x1, vN] [] M G 0 0 := by
  refine q_iload_n 13 rfl (show sCode 47 12 = some (.iload_n 1, 1) by decide +kernel) rfl ?_
  refine q_bipush 15 rfl (show sCode 47 13 = some (.bipush 62, 2) by decide +kernel) ⟨by decide, by decide⟩ (by decide +kernel) ?_
  refine q_icmpeq 27 18 rfl (by decide) (show sCode 47 15 = some (.if_icmp .eq 12, 3) by decide +kernel) ?_ ?_
  · intro q; exact k1 q
  · intro q; refine q_forget (L' := [vO 7 a0, vN, vN]) 1 rfl ?_; exact k2 q
theorem b47_18 {d : Nat} {Q : Option sV → sM → sG → Prop} {M : sM} {G : sG} {a0 : Nat}  (kk : sC d 24 [vO 4 (a0 + 1), vI 0] M G (QV (fun M1 G1 => sW (sC d) 47 Q 26 [vN, vN, vN] [] M1 G1 0 0))) : sW (sC d) 47 Q 18 [vO 7 a0, vN, vN] [] M G 0 0 := by
  refine q_aload_n 19 rfl (show sCode 47 18 = some (.aload_n 0, 1) by decide +kernel) rfl (Nat.le_of_ble_eq_true rfl) ?_
  refine q_getR (vO 4 (a0 + 1)) 22 rfl (show sCode 47 19 = some (.getfield 12, 3) by decide +kernel) (show sFR (sKo 47).1 12 = some (7, 0) by decide +kernel) (by decide +kernel) (Or.inl (Or.inl rfl)) rfl ?_
  refine q_iconst 23 rfl (show sCode 47 22 = some (.iconst 0, 1) by decide +kernel) ⟨by decide, by decide⟩ ?_
  refine q_forget (L' := [vN, vN, vN]) 0 rfl ?_
  exact q_virtV [vI 0] 26 rfl (show sCode 47 23 = some (.invokevirtual 113, 3) by decide +kernel) (show sMR (sKo 47).1 113 = some 24 by decide +kernel) (show 24 < 1000 ∧ sStat 24 = false ∧ sIni 24 = false ∧ sKo 24 = (4, 1, 0, 0, 0) by decide +kernel) rfl (Or.inl rfl) rfl (Nat.le_of_ble_eq_true rfl) rfl rfl rfl (by decide +kernel) kk
theorem b47_26 {d : Nat} {P : sM → sG → Prop} {M : sM} {G : sG}   (kk : P M G) : sW (sC d) 47 (QV P) 26 [vN, vN, vN] [] M G 0 0 := by
  exact q_vret (show sCode 47 26 = some (.return_, 1) by decide +kernel) (by decide +kernel) (by decide +kernel) kk
theorem b47_27 {d : Nat} {Q : Option sV → sM → sG → Prop} {M : sM} {G : sG} {a0 : Nat} {x1 : Int}  (kk : sC d 43 [vO 7 a0, vI (M (a0 + 1) 2)] M G (QV (fun M1 G1 => sW (sC d) 47 Q 38 [vO 7 a0, vI x1, vN] [] M1 G1 0 0))) : sW (sC d) 47 Q 27 [vO 7 a0, vI x1, vN] [] M G 0 0 := by
  refine q_aload_n 28 rfl (show sCode 47 27 = some (.aload_n 0, 1) by decide +kernel) rfl (Nat.le_of_ble_eq_true rfl) ?_
  refine q_aload_n 29 rfl (show sCode 47 28 = some (.aload_n 0, 1) by decide +kernel) rfl (Nat.le_of_ble_eq_true rfl) ?_
  refine q_getR (vO 4 (a0 + 1)) 32 rfl (show sCode 47 29 = some (.getfield 12, 3) by decide +kernel) (show sFR (sKo 47).1 12 = some (7, 0) by decide +kernel) (by decide +kernel) (Or.inl (Or.inl rfl)) rfl ?_
  refine q_getI 35 rfl (show sCode 47 32 = some (.getfield 123, 3) by decide +kernel) (show sFR (sKo 47).1 123 = some (4, 2) by decide +kernel) (by decide +kernel) (Or.inl (Or.inl rfl)) ?_
  exact q_virtV [vI (M (a0 + 1) 2)] 38 rfl (show sCode 47 35 = some (.invokevirtual 138, 3) by decide +kernel) (show sMR (sKo 47).1 138 = some 43 by decide +kernel) (show 43 < 1000 ∧ sStat 43 = false ∧ sIni 43 = false ∧ sKo 43 = (7, 1, 0, 0, 0) by decide +kernel) rfl (Or.inl rfl) rfl (Nat.le_of_ble_eq_true rfl) rfl rfl rfl (by decide +kernel) kk
theorem b47_38 {d : Nat} {Q : Option sV → sM → sG → Prop} {M : sM} {G : sG} {a0 : Nat} {x1 : Int}  (kk : sC d 48 [vO 4 (a0 + 1), vI 60, vI 61] M G (QI (fun r M1 G1 => sW (sC d) 47 Q 52 [vO 7 a0, vI x1, vI 8] (vI r :: []) M1 G1 0 0))) : sW (sC d) 47 Q 38 [vO 7 a0, vI x1, vN] [] M G 0 0 := by
  refine q_bipush 40 rfl (show sCode 47 38 = some (.bipush 8, 2) by decide +kernel) ⟨by decide, by decide⟩ (by decide +kernel) ?_
  refine q_istore_n [vO 7 a0, vI x1, vI 8] 41 rfl (show sCode 47 40 = some (.istore_n 2, 1) by decide +kernel) (Nat.lt_of_lt_of_le (Nat.lt_succ_self _) (Nat.le_of_ble_eq_true rfl)) rfl rfl ?_
  refine q_aload_n 42 rfl (show sCode 47 41 = some (.aload_n 0, 1) by decide +kernel) rfl (Nat.le_of_ble_eq_true rfl) ?_
  refine q_getR (vO 4 (a0 + 1)) 45 rfl (show sCode 47 42 = some (.getfield 12, 3) by decide +kernel) (show sFR (sKo 47).1 12 = some (7, 0) by decide +kernel) (by decide +kernel) (Or.inl (Or.inl rfl)) rfl ?_
  refine q_bipush 47 rfl (show sCode 47 45 = some (.bipush 60, 2) by decide +kernel) ⟨by decide, by decide⟩ (by decide +kernel) ?_
  refine q_bipush 49 rfl (show sCode 47 47 = some (.bipush 61, 2) by decide +kernel) ⟨by decide, by decide⟩ (by decide +kernel) ?_
  exact q_virtI [vI 60, vI 61] 52 rfl (show sCode 47 49 = some (.invokevirtual 170, 3) by decide +kernel) (show sMR (sKo 47).1 170 = some 48 by decide +kernel) (show 48 < 1000 ∧ sStat 48 = false ∧ sIni 48 = false ∧ sKo 48 = (4, 2, 2, 0, 0) by decide +kernel) rfl (Or.inl rfl) rfl (Nat.le_of_ble_eq_true rfl) rfl rfl rfl (by decide +kernel) kk
theorem b47_52 {d : Nat} {Q : Option sV → sM → sG → Prop} {M : sM} {G : sG} {a0 : Nat} {x1 : Int} {x2 : Int} {s0 : Int}  (k1 : s0 = 0 → sW (sC d) 47 Q 61 [vO 7 a0, vI x1, vI x2] [] M G 0 0) (k2 : s0 ≠ 0 → sW (sC d) 47 Q 55 [vO 7 a0, vN, vN] [] M G 0 0) : sW (sC d) 47 Q 52 [vO 7 a0, vI x1, vI x2] [vI s0] M G 0 0 := by
  refine q_ifeq 61 55 rfl (by decide) (show sCode 47 52 = some (.ifCond .eq 9, 3) by decide +kernel) ?_ ?_
  · intro q; exact k1 q
  · intro q; refine q_forget (L' := [vO 7 a0, vN, vI x2]) 1 rfl ?_; refine q_forget (L' := [vO 7 a0, vN, vN]) 2 rfl ?_; exact k2 q
theorem b47_55 {d : Nat} {Q : Option sV → sM → sG → Prop} {M : sM} {G : sG} {a0 : Nat}  (kk : sW (sC d) 47 Q 109 [vO 7 a0, vN, vI 7] [] M G 0 0) : sW (sC d) 47 Q 55 [vO 7 a0, vN, vN] [] M G 0 0 := by
  refine q_bipush 57 rfl (show sCode 47 55 = some (.bipush 7, 2) by decide +kernel) ⟨by decide, by decide⟩ (by decide +kernel) ?_
  refine q_istore_n [vO 7 a0, vN, vI 7] 58 rfl (show sCode 47 57 = some (.istore_n 2, 1) by decide +kernel) (Nat.lt_of_lt_of_le (Nat.lt_succ_self _) (Nat.le_of_ble_eq_true rfl)) rfl rfl ?_
  refine q_goto 109 (by decide) (show sCode 47 58 = some (.goto 51, 3) by decide +kernel) ?_
  exact kk
theorem b47_61 {d : Nat} {Q : Option sV → sM → sG → Prop} {M : sM} {G : sG} {a0 : Nat} {x1 : Int} {x2 : Int}  (kk : sC d 48 [vO 4 (a0 + 1), vI 62, vI 61] M G (QI (fun r M1 G1 => sW (sC d) 47 Q 72 [vO 7 a0, vI x1, vI x2] (vI r :: []) M1 G1 0 0))) : sW (sC d) 47 Q 61 [vO 7 a0, vI x1, vI x2] [] M G 0 0 := by
  refine q_aload_n 62 rfl (show sCode 47 61 = some (.aload_n 0, 1) by decide +kernel) rfl (Nat.le_of_ble_eq_true rfl) ?_
  refine q_getR (vO 4 (a0 + 1)) 65 rfl (show sCode 47 62 = some (.getfield 12, 3) by decide +kernel) (show sFR (sKo 47).1 12 = some (7, 0) by decide +kernel) (by decide +kernel) (Or.inl (Or.inl rfl)) rfl ?_
  refine q_bipush 67 rfl (show sCode 47 65 = some (.bipush 62, 2) by decide +kernel) ⟨by decide, by decide⟩ (by decide +kernel) ?_
  refine q_bipush 69 rfl (show sCode 47 67 = some (.bipush 61, 2) by decide +kernel) ⟨by decide, by decide⟩ (by decide +kernel) ?_
  exact q_virtI [vI 62, vI 61] 72 rfl (show sCode 47 69 = some (.invokevirtual 170, 3) by decide +kernel) (show sMR (sKo 47).1 170 = some 48 by decide +kernel) (show 48 < 1000 ∧ sStat 48 = false ∧ sIni 48 = false ∧ sKo 48 = (4, 2, 2, 0, 0) by decide +kernel) rfl (Or.inl rfl) rfl (Nat.le_of_ble_eq_true rfl) rfl rfl rfl (by decide +kernel) kk
theorem b47_72 {d : Nat} {Q : Option sV → sM → sG → Prop} {M : sM} {G : sG} {a0 : Nat} {x1 : Int} {x2 : Int} {s0 : Int}  (k1 : s0 = 0 → sW (sC d) 47 Q 81 [vO 7 a0, vI x1, vI x2] [] M G 0 0) (k2 : s0 ≠ 0 → sW (sC d) 47 Q 75 [vO 7 a0, vN, vN] [] M G 0 0) : sW (sC d) 47 Q 72 [vO 7 a0, vI x1, vI x2] [vI s0] M G 0 0 := by
  refine q_ifeq 81 75 rfl (by decide) (show sCode 47 72 = some (.ifCond .eq 9, 3) by decide +kernel) ?_ ?_
  · intro q; exact k1 q
  · intro q; refine q_forget (L' := [vO 7 a0, vN, vI x2]) 1 rfl ?_; refine q_forget (L' := [vO 7 a0, vN, vN]) 2 rfl ?_; exact k2 q
theorem b47_75 {d : Nat} {Q : Option sV → sM → sG → Prop} {M : sM} {G : sG} {a0 : Nat}  (kk : sW (sC d) 47 Q 109 [vO 7 a0, vN, vI 9] [] M G 0 0) : sW (sC d) 47 Q 75 [vO 7 a0, vN, vN] [] M G 0 0 := by
  refine q_bipush 77 rfl (show sCode 47 75 = some (.bipush 9, 2) by decide +kernel) ⟨by decide, by decide⟩ (by decide +kernel) ?_
  refine q_istore_n [vO 7 a0, vN, vI 9] 78 rfl (show sCode 47 77 = some (.istore_n 2, 1) by decide +kernel) (Nat.lt_of_lt_of_le (Nat.lt_succ_self _) (Nat.le_of_ble_eq_true rfl)) rfl rfl ?_
  refine q_goto 109 (by decide) (show sCode 47 78 = some (.goto 31, 3) by decide +kernel) ?_
  exact kk
theorem b47_81 {d : Nat} {Q : Option sV → sM → sG → Prop} {M : sM} {G : sG} {a0 : Nat} {x1 : Int} {x2 : Int}  (kk : sC d 26 [vO 4 (a0 + 1), vI 1] M G (QV (fun M1 G1 => sW (sC d) 47 Q 89 [vO 7 a0, vI x1, vI x2] [] M1 G1 0 0))) : sW (sC d) 47 Q 81 [vO 7 a0, vI x1, vI x2] [] M G 0 0 := by
  refine q_aload_n 82 rfl (show sCode 47 81 = some (.aload_n 0, 1) by decide +kernel) rfl (Nat.le_of_ble_eq_true rfl) ?_
  refine q_getR (vO 4 (a0 + 1)) 85 rfl (show sCode 47 82 = some (.getfield 12, 3) by decide +kernel) (show sFR (sKo 47).1 12 = some (7, 0) by decide +kernel) (by decide +kernel) (Or.inl (Or.inl rfl)) rfl ?_
  refine q_iconst 86 rfl (show sCode 47 85 = some (.iconst 1, 1) by decide +kernel) ⟨by decide, by decide⟩ ?_
  exact q_virtV [vI 1] 89 rfl (show sCode 47 86 = some (.invokevirtual 116, 3) by decide +kernel) (show sMR (sKo 47).1 116 = some 26 by decide +kernel) (show 26 < 1000 ∧ sStat 26 = false ∧ sIni 26 = false ∧ sKo 26 = (4, 1, 0, 0, 0) by decide +kernel) rfl (Or.inl rfl) rfl (Nat.le_of_ble_eq_true rfl) rfl rfl rfl (by decide +kernel) kk
theorem b47_89 {d : Nat} {Q : Option sV → sM → sG → Prop} {M : sM} {G : sG} {a0 : Nat} {x1 : Int} {x2 : Int}  (k1 : x1 = 61 → sW (sC d) 47 Q 109 [vO 7 a0, vN, vI x2] [] M G 0 0) (k2 : x1 ≠ 61 → sW (sC d) 47 Q 95 [vO 7 a0, vI x1, vN] [] M G 0 0) : sW (sC d) 47 Q 89 [vO 7 a0, vI x1, vI x2] [] M G 0 0 := by
  refine q_iload_n 90 rfl (show sCode 47 89 = some (.iload_n 1, 1) by decide +kernel) rfl ?_
  refine q_bipush 92 rfl (show sCode 47 90 = some (.bipush 61, 2) by decide +kernel) ⟨by decide, by decide⟩ (by decide +kernel) ?_
  refine q_icmpeq 109 95 rfl (by decide) (show sCode 47 92 = some (.if_icmp .eq 17, 3) by decide +kernel) ?_ ?_
  · intro q; refine q_forget (L' := [vO 7 a0, vN, vI x2]) 1 rfl ?_; exact k1 q
  · intro q; refine q_forget (L' := [vO 7 a0, vI x1, vN]) 2 rfl ?_; exact k2 q
theorem b47_95 {d : Nat} {Q : Option sV → sM → sG → Prop} {M : sM} {G : sG} {a0 : Nat} {x1 : Int}  (k1 : x1 ≠ 60 → sW (sC d) 47 Q 106 [vO 7 a0, vN, vN] [] M G 0 0) (k2 : x1 = 60 → sW (sC d) 47 Q 101 [vO 7 a0, vN, vN] [] M G 0 0) : sW (sC d) 47 Q 95 [vO 7 a0, vI x1, vN] [] M G 0 0 := by
  refine q_iload_n 96 rfl (show sCode 47 95 = some (.iload_n 1, 1) by decide +kernel) rfl ?_
  refine q_bipush 98 rfl (show sCode 47 96 = some (.bipush 60, 2) by decide +kernel) ⟨by decide, by decide⟩ (by decide +kernel) ?_
  refine q_icmpne 106 101 rfl (by decide) (show sCode 47 98 = some (.if_icmp .ne 8, 3) by decide +kernel) ?_ ?_
  · intro q; refine q_forget (L' := [vO 7 a0, vN, vN]) 1 rfl ?_; exact k1 q
  · intro q; refine q_forget (L' := [vO 7 a0, vN, vN]) 1 rfl ?_; exact k2 q
theorem b47_101 {d : Nat} {Q : Option sV → sM → sG → Prop} {M : sM} {G : sG} {a0 : Nat}  (kk : sW (sC d) 47 Q 108 [vO 7 a0, vN, vN] [vI 6] M G 0 0) : sW (sC d) 47 Q 101 [vO 7 a0, vN, vN] [] M G 0 0 := by
  refine q_bipush 103 rfl (show sCode 47 101 = some (.bipush 6, 2) by decide +kernel) ⟨by decide, by decide⟩ (by decide +kernel) ?_
  refine q_goto 108 (by decide) (show sCode 47 103 = some (.goto 5, 3) by decide +kernel) ?_
  exact kk
theorem b47_106 {d : Nat} {Q : Option sV → sM → sG → Prop} {M : sM} {G : sG} {a0 : Nat}  (kk : sW (sC d) 47 Q 108 [vO 7 a0, vN, vN] [vI 10] M G 0 0) : sW (sC d) 47 Q 106 [vO 7 a0, vN, vN] [] M G 0 0 := by
  refine q_bipush 108 rfl (show sCode 47 106 = some (.bipush 10, 2) by decide +kernel) ⟨by decide, by decide⟩ (by decide +kernel) ?_
  exact kk
theorem b47_108 {d : Nat} {Q : Option sV → sM → sG → Prop} {M : sM} {G : sG} {a0 : Nat} {s0 : Int}  (kk : sW (sC d) 47 Q 109 [vO 7 a0, vN, vI s0] [] M G 0 0) : sW (sC d) 47 Q 108 [vO 7 a0, vN, vN] [vI s0] M G 0 0 := by
  refine q_istore_n [vO 7 a0, vN, vI s0] 109 rfl (show sCode 47 108 = some (.istore_n 2, 1) by decide +kernel) (Nat.lt_of_lt_of_le (Nat.lt_succ_self _) (Nat.le_of_ble_eq_true rfl)) rfl rfl ?_
  exact kk
theorem b47_109 {d : Nat} {Q : Option sV → sM → sG → Prop} {M : sM} {G : sG} {a0 : Nat} {x2 : Int}  (kk : sC d 46 [vO 7 a0, vI 4] M G (QV (fun M1 G1 => sW (sC d) 47 Q 114 [vO 7 a0, vN, vI x2] [] M1 G1 0 0))) : sW (sC d) 47 Q 109 [vO 7 a0, vN, vI x2] [] M G 0 0 := by
  refine q_aload_n 110 rfl (show sCode 47 109 = some (.aload_n 0, 1) by decide +kernel) rfl (Nat.le_of_ble_eq_true rfl) ?_
  refine q_iconst 111 rfl (show sCode 47 110 = some (.iconst 4, 1) by decide +kernel) ⟨by decide, by decide⟩ ?_
  exact q_virtV [vI 4] 114 rfl (show sCode 47 111 = some (.invokevirtual 167, 3) by decide +kernel) (show sMR (sKo 47).1 167 = some 46 by decide +kernel) (show 46 < 1000 ∧ sStat 46 = false ∧ sIni 46 = false ∧ sKo 46 = (7, 1, 0, 0, 0) by decide +kernel) rfl (Or.inl rfl) rfl (Nat.le_of_ble_eq_true rfl) rfl rfl rfl (by decide +kernel) kk
theorem b47_114 {d : Nat} {Q : Option sV → sM → sG → Prop} {M : sM} {G : sG} {a0 : Nat} {x2 : Int}  (kk : sC d 40 [vO 7 a0, vI x2, vI 4, vI (-1)] M G (QV (fun M1 G1 => sW (sC d) 47 Q 121 [vO 7 a0, vN, vN] [] M1 G1 0 0))) : sW (sC d) 47 Q 114 [vO 7 a0, vN, vI x2] [] M G 0 0 := by
  refine q_aload_n 115 rfl (show sCode 47 114 = some (.aload_n 0, 1) by decide +kernel) rfl (Nat.le_of_ble_eq_true rfl) ?_
  refine q_iload_n 116 rfl (show sCode 47 115 = some (.iload_n 2, 1) by decide +kernel) rfl ?_
  refine q_iconst 117 rfl (show sCode 47 116 = some (.iconst 4, 1) by decide +kernel) ⟨by decide, by decide⟩ ?_
  refine q_iconst 118 rfl (show sCode 47 117 = some (.iconst (-1), 1) by decide +kernel) ⟨by decide, by decide⟩ ?_
  refine q_forget (L' := [vO 7 a0, vN, vN]) 2 rfl ?_
  exact q_virtV [vI x2, vI 4, vI (-1)] 121 rfl (show sCode 47 118 = some (.invokevirtual 119, 3) by decide +kernel) (show sMR (sKo 47).1 119 = some 40 by decide +kernel) (show 40 < 1000 ∧ sStat 40 = false ∧ sIni 40 = false ∧ sKo 40 = (7, 3, 0, 0, 0) by decide +kernel) rfl (Or.inl rfl) rfl (Nat.le_of_ble_eq_true rfl) rfl rfl rfl (by decide +kernel) kk
theorem b47_121 {d : Nat} {P : sM → sG → Prop} {M : sM} {G : sG} {a0 : Nat}  (kk : P (sUpd M a0 14 3) G) : sW (sC d) 47 (QV P) 121 [vO 7 a0, vN, vN] [] M G 0 0 := by
  refine q_aload_n 122 rfl (show sCode 47 121 = some (.aload_n 0, 1) by decide +kernel) rfl (Nat.le_of_ble_eq_true rfl) ?_
  refine q_iconst 123 rfl (show sCode 47 122 = some (.iconst 3, 1) by decide +kernel) ⟨by decide, by decide⟩ ?_
  refine q_putI 126 rfl (show sCode 47 123 = some (.putfield 61, 3) by decide +kernel) (show sFR (sKo 47).1 61 = some (7, 14) by decide +kernel) (by decide +kernel) (Or.inl ⟨Or.inl rfl, by decide +kernel⟩) ?_
  exact q_vret (show sCode 47 126 = some (.return_, 1) by decide +kernel) (by decide +kernel) (by decide +kernel) kk
-- 48 AfterTheLast$Reader.takePair (CC)Z
theorem b48_0 {d : Nat} {Q : Option sV → sM → sG → Prop} {M : sM} {G : sG} {a0 : Nat} {x1 : Int} {x2 : Int} (h1 : sI ((M a0 2) + 1)) (k1 : M a0 1 ≤ (M a0 2) + 1 → sW (sC d) 48 Q 45 [vO 4 a0, vN, vN, vN] [] M G 0 0) (k2 : (M a0 2) + 1 < M a0 1 → sW (sC d) 48 Q 13 [vO 4 a0, vI x1, vI x2, vN] [] M G 0 0) : sW (sC d) 48 Q 0 [vO 4 a0, vI x1, vI x2, vN] [] M G 0 0 := by
  refine q_aload_n 1 rfl (show sCode 48 0 = some (.aload_n 0, 1) by decide +kernel) rfl (Nat.le_of_ble_eq_true rfl) ?_
  refine q_getI 4 rfl (show sCode 48 1 = some (.getfield 19, 3) by decide +kernel) (show sFR (sKo 48).1 19 = some (4, 2) by decide +kernel) (by decide +kernel) (Or.inl (Or.inl rfl)) ?_
  refine q_iconst 5 rfl (show sCode 48 4 = some (.iconst 1, 1) by decide +kernel) ⟨by decide, by decide⟩ ?_
  refine q_iadd 6 rfl (show sCode 48 5 = some (.iadd, 1) by decide +kernel) h1 ?_
  refine q_aload_n 7 rfl (show sCode 48 6 = some (.aload_n 0, 1) by decide +kernel) rfl (Nat.le_of_ble_eq_true rfl) ?_
  refine q_getI 10 rfl (show sCode 48 7 = some (.getfield 15, 3) by decide +kernel) (show sFR (sKo 48).1 15 = some (4, 1) by decide +kernel) (by decide +kernel) (Or.inl (Or.inl rfl)) ?_
  refine q_icmpge 45 13 rfl (by decide) (show sCode 48 10 = some (.if_icmp .ge 35, 3) by decide +kernel) ?_ ?_
  · intro q; refine q_forget (L' := [vO 4 a0, vN, vI x2, vN]) 1 rfl ?_; refine q_forget (L' := [vO 4 a0, vN, vN, vN]) 2 rfl ?_; exact k1 q
  · intro q; exact k2 q
theorem b48_13 {d : Nat} {Q : Option sV → sM → sG → Prop} {M : sM} {G : sG} {a0 : Nat} {x1 : Int} {x2 : Int} (h1 : 0 ≤ M a0 2 ∧ M a0 2 < 400) (k1 : M (a0 + 1) (M a0 2).toNat ≠ x1 → sW (sC d) 48 Q 45 [vO 4 a0, vN, vN, vN] [] M G 0 0) (k2 : M (a0 + 1) (M a0 2).toNat = x1 → sW (sC d) 48 Q 26 [vO 4 a0, vN, vI x2, vN] [] M G 0 0) : sW (sC d) 48 Q 13 [vO 4 a0, vI x1, vI x2, vN] [] M G 0 0 := by
  refine q_aload_n 14 rfl (show sCode 48 13 = some (.aload_n 0, 1) by decide +kernel) rfl (Nat.le_of_ble_eq_true rfl) ?_
  refine q_getR (vA 0 (a0 + 1) 400) 17 rfl (show sCode 48 14 = some (.getfield 11, 3) by decide +kernel) (show sFR (sKo 48).1 11 = some (4, 0) by decide +kernel) (by decide +kernel) (Or.inl (Or.inl rfl)) rfl ?_
  refine q_aload_n 18 rfl (show sCode 48 17 = some (.aload_n 0, 1) by decide +kernel) rfl (Nat.le_of_ble_eq_true rfl) ?_
  refine q_getI 21 rfl (show sCode 48 18 = some (.getfield 19, 3) by decide +kernel) (show sFR (sKo 48).1 19 = some (4, 2) by decide +kernel) (by decide +kernel) (Or.inl (Or.inl rfl)) ?_
  refine q_iald 22 rfl (show sCode 48 21 = some (.iaload, 1) by decide +kernel) h1 ?_
  refine q_iload_n 23 rfl (show sCode 48 22 = some (.iload_n 1, 1) by decide +kernel) rfl ?_
  refine q_icmpne 45 26 rfl (by decide) (show sCode 48 23 = some (.if_icmp .ne 22, 3) by decide +kernel) ?_ ?_
  · intro q; refine q_forget (L' := [vO 4 a0, vN, vI x2, vN]) 1 rfl ?_; refine q_forget (L' := [vO 4 a0, vN, vN, vN]) 2 rfl ?_; exact k1 q
  · intro q; refine q_forget (L' := [vO 4 a0, vN, vI x2, vN]) 1 rfl ?_; exact k2 q
theorem b48_26 {d : Nat} {Q : Option sV → sM → sG → Prop} {M : sM} {G : sG} {a0 : Nat} {x2 : Int} (h1 : sI ((M a0 2) + 1)) (h2 : 0 ≤ (M a0 2) + 1 ∧ (M a0 2) + 1 < 400) (k1 : M (a0 + 1) ((M a0 2) + 1).toNat ≠ x2 → sW (sC d) 48 Q 45 [vO 4 a0, vN, vN, vN] [] M G 0 0) (k2 : M (a0 + 1) ((M a0 2) + 1).toNat = x2 → sW (sC d) 48 Q 41 [vO 4 a0, vN, vN, vN] [] M G 0 0) : sW (sC d) 48 Q 26 [vO 4 a0, vN, vI x2, vN] [] M G 0 0 := by
  refine q_aload_n 27 rfl (show sCode 48 26 = some (.aload_n 0, 1) by decide +kernel) rfl (Nat.le_of_ble_eq_true rfl) ?_
  refine q_getR (vA 0 (a0 + 1) 400) 30 rfl (show sCode 48 27 = some (.getfield 11, 3) by decide +kernel) (show sFR (sKo 48).1 11 = some (4, 0) by decide +kernel) (by decide +kernel) (Or.inl (Or.inl rfl)) rfl ?_
  refine q_aload_n 31 rfl (show sCode 48 30 = some (.aload_n 0, 1) by decide +kernel) rfl (Nat.le_of_ble_eq_true rfl) ?_
  refine q_getI 34 rfl (show sCode 48 31 = some (.getfield 19, 3) by decide +kernel) (show sFR (sKo 48).1 19 = some (4, 2) by decide +kernel) (by decide +kernel) (Or.inl (Or.inl rfl)) ?_
  refine q_iconst 35 rfl (show sCode 48 34 = some (.iconst 1, 1) by decide +kernel) ⟨by decide, by decide⟩ ?_
  refine q_iadd 36 rfl (show sCode 48 35 = some (.iadd, 1) by decide +kernel) h1 ?_
  refine q_iald 37 rfl (show sCode 48 36 = some (.iaload, 1) by decide +kernel) h2 ?_
  refine q_iload_n 38 rfl (show sCode 48 37 = some (.iload_n 2, 1) by decide +kernel) rfl ?_
  refine q_icmpne 45 41 rfl (by decide) (show sCode 48 38 = some (.if_icmp .ne 7, 3) by decide +kernel) ?_ ?_
  · intro q; refine q_forget (L' := [vO 4 a0, vN, vN, vN]) 2 rfl ?_; exact k1 q
  · intro q; refine q_forget (L' := [vO 4 a0, vN, vN, vN]) 2 rfl ?_; exact k2 q
theorem b48_41 {d : Nat} {Q : Option sV → sM → sG → Prop} {M : sM} {G : sG} {a0 : Nat}  (kk : sW (sC d) 48 Q 46 [vO 4 a0, vN, vN, vN] [vI 1] M G 0 0) : sW (sC d) 48 Q 41 [vO 4 a0, vN, vN, vN] [] M G 0 0 := by
  refine q_iconst 42 rfl (show sCode 48 41 = some (.iconst 1, 1) by decide +kernel) ⟨by decide, by decide⟩ ?_
  refine q_goto 46 (by decide) (show sCode 48 42 = some (.goto 4, 3) by decide +kernel) ?_
  exact kk
theorem b48_45 {d : Nat} {Q : Option sV → sM → sG → Prop} {M : sM} {G : sG} {a0 : Nat}  (kk : sW (sC d) 48 Q 46 [vO 4 a0, vN, vN, vN] [vI 0] M G 0 0) : sW (sC d) 48 Q 45 [vO 4 a0, vN, vN, vN] [] M G 0 0 := by
  refine q_iconst 46 rfl (show sCode 48 45 = some (.iconst 0, 1) by decide +kernel) ⟨by decide, by decide⟩ ?_
  exact kk
theorem b48_46 {d : Nat} {Q : Option sV → sM → sG → Prop} {M : sM} {G : sG} {a0 : Nat} {s0 : Int}  (k1 : s0 = 0 → sW (sC d) 48 Q 56 [vN, vN, vN, vI s0] [] M G 0 0) (k2 : s0 ≠ 0 → sW (sC d) 48 Q 51 [vO 4 a0, vN, vN, vI s0] [] M G 0 0) : sW (sC d) 48 Q 46 [vO 4 a0, vN, vN, vN] [vI s0] M G 0 0 := by
  refine q_istore_n [vO 4 a0, vN, vN, vI s0] 47 rfl (show sCode 48 46 = some (.istore_n 3, 1) by decide +kernel) (Nat.lt_of_lt_of_le (Nat.lt_succ_self _) (Nat.le_of_ble_eq_true rfl)) rfl rfl ?_
  refine q_iload_n 48 rfl (show sCode 48 47 = some (.iload_n 3, 1) by decide +kernel) rfl ?_
  refine q_ifeq 56 51 rfl (by decide) (show sCode 48 48 = some (.ifCond .eq 8, 3) by decide +kernel) ?_ ?_
  · intro q; refine q_forget (L' := [vN, vN, vN, vI s0]) 0 rfl ?_; exact k1 q
  · intro q; exact k2 q
theorem b48_51 {d : Nat} {Q : Option sV → sM → sG → Prop} {M : sM} {G : sG} {a0 : Nat} {x3 : Int}  (kk : sC d 26 [vO 4 a0, vI 2] M G (QV (fun M1 G1 => sW (sC d) 48 Q 56 [vN, vN, vN, vI x3] [] M1 G1 0 0))) : sW (sC d) 48 Q 51 [vO 4 a0, vN, vN, vI x3] [] M G 0 0 := by
  refine q_aload_n 52 rfl (show sCode 48 51 = some (.aload_n 0, 1) by decide +kernel) rfl (Nat.le_of_ble_eq_true rfl) ?_
  refine q_iconst 53 rfl (show sCode 48 52 = some (.iconst 2, 1) by decide +kernel) ⟨by decide, by decide⟩ ?_
  refine q_forget (L' := [vN, vN, vN, vI x3]) 0 rfl ?_
  exact q_virtV [vI 2] 56 rfl (show sCode 48 53 = some (.invokevirtual 42, 3) by decide +kernel) (show sMR (sKo 48).1 42 = some 26 by decide +kernel) (show 26 < 1000 ∧ sStat 26 = false ∧ sIni 26 = false ∧ sKo 26 = (4, 1, 0, 0, 0) by decide +kernel) rfl (Or.inl rfl) rfl (Nat.le_of_ble_eq_true rfl) rfl rfl rfl (by decide +kernel) kk
theorem b48_56 {d : Nat} {P : Int → sM → sG → Prop} {M : sM} {G : sG} {x3 : Int}  (h01 : x3 = 0 ∨ x3 = 1) (kk : P x3 M G) : sW (sC d) 48 (QI P) 56 [vN, vN, vN, vI x3] [] M G 0 0 := by
  refine q_iload_n 57 rfl (show sCode 48 56 = some (.iload_n 3, 1) by decide +kernel) rfl ?_
  exact q_zret (show sCode 48 57 = some (.ireturn, 1) by decide +kernel) (by decide +kernel) h01 (by decide +kernel) kk
-- 49 AfterTheLast$RuleReader.readBehindFact (I)V
theorem b49_0 {d : Nat} {Q : Option sV → sM → sG → Prop} {M : sM} {G : sG} {a0 : Nat} {x1 : Int}  (kk : sC d 23 [vO 4 (a0 + 1), vS 19] M G (QI (fun r M1 G1 => sW (sC d) 49 Q 9 [vO 7 a0, vI x1] (vI r :: []) M1 G1 0 0))) : sW (sC d) 49 Q 0 [vO 7 a0, vI x1] [] M G 0 0 := by
  refine q_aload_n 1 rfl (show sCode 49 0 = some (.aload_n 0, 1) by decide +kernel) rfl (Nat.le_of_ble_eq_true rfl) ?_
  refine q_getR (vO 4 (a0 + 1)) 4 rfl (show sCode 49 1 = some (.getfield 12, 3) by decide +kernel) (show sFR (sKo 49).1 12 = some (7, 0) by decide +kernel) (by decide +kernel) (Or.inl (Or.inl rfl)) rfl ?_
  refine q_ldcS 6 rfl (show sCode 49 4 = some (.ldc 174, 2) by decide +kernel) (show sSR (sKo 49).1 174 = some 19 by decide +kernel) ?_
  exact q_virtI [vS 19] 9 rfl (show sCode 49 6 = some (.invokevirtual 84, 3) by decide +kernel) (show sMR (sKo 49).1 84 = some 23 by decide +kernel) (show 23 < 1000 ∧ sStat 23 = false ∧ sIni 23 = false ∧ sKo 23 = (4, 1, 2, 0, 0) by decide +kernel) rfl (Or.inl rfl) rfl (Nat.le_of_ble_eq_true rfl) rfl rfl rfl (by decide +kernel) kk
theorem b49_9 {d : Nat} {Q : Option sV → sM → sG → Prop} {M : sM} {G : sG} {a0 : Nat} {x1 : Int} {s0 : Int}  (k1 : s0 = 0 → sW (sC d) 49 Q 47 [vO 7 a0, vI x1] [] M G 0 0) (k2 : s0 ≠ 0 → sW (sC d) 49 Q 12 [vO 7 a0, vN] [] M G 0 0) : sW (sC d) 49 Q 9 [vO 7 a0, vI x1] [vI s0] M G 0 0 := by
  refine q_ifeq 47 12 rfl (by decide) (show sCode 49 9 = some (.ifCond .eq 38, 3) by decide +kernel) ?_ ?_
  · intro q; exact k1 q
  · intro q; refine q_forget (L' := [vO 7 a0, vN]) 1 rfl ?_; exact k2 q
theorem b49_12 {d : Nat} {Q : Option sV → sM → sG → Prop} {M : sM} {G : sG} {a0 : Nat}  (kk : sC d 26 [vO 4 (a0 + 1), vI 2] M G (QV (fun M1 G1 => sW (sC d) 49 Q 20 [vO 7 a0, vN] [] M1 G1 0 0))) : sW (sC d) 49 Q 12 [vO 7 a0, vN] [] M G 0 0 := by
  refine q_aload_n 13 rfl (show sCode 49 12 = some (.aload_n 0, 1) by decide +kernel) rfl (Nat.le_of_ble_eq_true rfl) ?_
  refine q_getR (vO 4 (a0 + 1)) 16 rfl (show sCode 49 13 = some (.getfield 12, 3) by decide +kernel) (show sFR (sKo 49).1 12 = some (7, 0) by decide +kernel) (by decide +kernel) (Or.inl (Or.inl rfl)) rfl ?_
  refine q_iconst 17 rfl (show sCode 49 16 = some (.iconst 2, 1) by decide +kernel) ⟨by decide, by decide⟩ ?_
  exact q_virtV [vI 2] 20 rfl (show sCode 49 17 = some (.invokevirtual 116, 3) by decide +kernel) (show sMR (sKo 49).1 116 = some 26 by decide +kernel) (show 26 < 1000 ∧ sStat 26 = false ∧ sIni 26 = false ∧ sKo 26 = (4, 1, 0, 0, 0) by decide +kernel) rfl (Or.inl rfl) rfl (Nat.le_of_ble_eq_true rfl) rfl rfl rfl (by decide +kernel) kk
theorem b49_20 {d : Nat} {Q : Option sV → sM → sG → Prop} {M : sM} {G : sG} {a0 : Nat}  (kk : sC d 46 [vO 7 a0, vI 1] M G (QV (fun M1 G1 => sW (sC d) 49 Q 25 [vO 7 a0, vN] [] M1 G1 0 0))) : sW (sC d) 49 Q 20 [vO 7 a0, vN] [] M G 0 0 := by
  refine q_aload_n 21 rfl (show sCode 49 20 = some (.aload_n 0, 1) by decide +kernel) rfl (Nat.le_of_ble_eq_true rfl) ?_
  refine q_iconst 22 rfl (show sCode 49 21 = some (.iconst 1, 1) by decide +kernel) ⟨by decide, by decide⟩ ?_
  exact q_virtV [vI 1] 25 rfl (show sCode 49 22 = some (.invokevirtual 167, 3) by decide +kernel) (show sMR (sKo 49).1 167 = some 46 by decide +kernel) (show 46 < 1000 ∧ sStat 46 = false ∧ sIni 46 = false ∧ sKo 46 = (7, 1, 0, 0, 0) by decide +kernel) rfl (Or.inl rfl) rfl (Nat.le_of_ble_eq_true rfl) rfl rfl rfl (by decide +kernel) kk
theorem b49_25 {d : Nat} {Q : Option sV → sM → sG → Prop} {M : sM} {G : sG} {a0 : Nat}  (kk : sC d 44 [vO 7 a0, vI 13, vI 0] M G (QI (fun r M1 G1 => sW (sC d) 49 Q 36 [vO 7 a0, vN] (vI r :: [vI 1, vI 13, vO 7 a0]) M1 G1 0 0))) : sW (sC d) 49 Q 25 [vO 7 a0, vN] [] M G 0 0 := by
  refine q_aload_n 26 rfl (show sCode 49 25 = some (.aload_n 0, 1) by decide +kernel) rfl (Nat.le_of_ble_eq_true rfl) ?_
  refine q_bipush 28 rfl (show sCode 49 26 = some (.bipush 13, 2) by decide +kernel) ⟨by decide, by decide⟩ (by decide +kernel) ?_
  refine q_iconst 29 rfl (show sCode 49 28 = some (.iconst 1, 1) by decide +kernel) ⟨by decide, by decide⟩ ?_
  refine q_aload_n 30 rfl (show sCode 49 29 = some (.aload_n 0, 1) by decide +kernel) rfl (Nat.le_of_ble_eq_true rfl) ?_
  refine q_bipush 32 rfl (show sCode 49 30 = some (.bipush 13, 2) by decide +kernel) ⟨by decide, by decide⟩ (by decide +kernel) ?_
  refine q_iconst 33 rfl (show sCode 49 32 = some (.iconst 0, 1) by decide +kernel) ⟨by decide, by decide⟩ ?_
  exact q_virtI [vI 13, vI 0] 36 rfl (show sCode 49 33 = some (.invokevirtual 141, 3) by decide +kernel) (show sMR (sKo 49).1 141 = some 44 by decide +kernel) (show 44 < 1000 ∧ sStat 44 = false ∧ sIni 44 = false ∧ sKo 44 = (7, 2, 1, 0, 0) by decide +kernel) rfl (Or.inl rfl) rfl (Nat.le_of_ble_eq_true rfl) rfl rfl rfl (by decide +kernel) kk
theorem b49_36 {d : Nat} {Q : Option sV → sM → sG → Prop} {M : sM} {G : sG} {a0 : Nat} {s0 : Int} {s1 : Int} {s2 : Int} {sa3 : Nat}  (kk : sC d 40 [vO 7 sa3, vI s2, vI s1, vI s0] M G (QV (fun M1 G1 => sW (sC d) 49 Q 39 [vO 7 a0, vN] [] M1 G1 0 0))) : sW (sC d) 49 Q 36 [vO 7 a0, vN] [vI s0, vI s1, vI s2, vO 7 sa3] M G 0 0 := by
  exact q_virtV [vI s2, vI s1, vI s0] 39 rfl (show sCode 49 36 = some (.invokevirtual 119, 3) by decide +kernel) (show sMR (sKo 49).1 119 = some 40 by decide +kernel) (show 40 < 1000 ∧ sStat 40 = false ∧ sIni 40 = false ∧ sKo 40 = (7, 3, 0, 0, 0) by decide +kernel) rfl (Or.inl rfl) rfl (Nat.le_of_ble_eq_true rfl) rfl rfl rfl (by decide +kernel) kk
theorem b49_39 {d : Nat} {Q : Option sV → sM → sG → Prop} {M : sM} {G : sG} {a0 : Nat}  (kk : sW (sC d) 49 Q 195 [vN, vN] [] (sUpd M a0 14 1) G 0 0) : sW (sC d) 49 Q 39 [vO 7 a0, vN] [] M G 0 0 := by
  refine q_aload_n 40 rfl (show sCode 49 39 = some (.aload_n 0, 1) by decide +kernel) rfl (Nat.le_of_ble_eq_true rfl) ?_
  refine q_iconst 41 rfl (show sCode 49 40 = some (.iconst 1, 1) by decide +kernel) ⟨by decide, by decide⟩ ?_
  refine q_putI 44 rfl (show sCode 49 41 = some (.putfield 61, 3) by decide +kernel) (show sFR (sKo 49).1 61 = some (7, 14) by decide +kernel) (by decide +kernel) (Or.inl ⟨Or.inl rfl, by decide +kernel⟩) ?_
  refine q_goto 195 (by decide) (show sCode 49 44 = some (.goto 151, 3) by decide +kernel) ?_
  refine q_forget (L' := [vN, vN]) 0 rfl ?_
  exact kk
theorem b49_47 {d : Nat} {Q : Option sV → sM → sG → Prop} {M : sM} {G : sG} {a0 : Nat} {x1 : Int}  (kk : sC d 23 [vO 4 (a0 + 1), vS 20] M G (QI (fun r M1 G1 => sW (sC d) 49 Q 56 [vO 7 a0, vI x1] (vI r :: []) M1 G1 0 0))) : sW (sC d) 49 Q 47 [vO 7 a0, vI x1] [] M G 0 0 := by
  refine q_aload_n 48 rfl (show sCode 49 47 = some (.aload_n 0, 1) by decide +kernel) rfl (Nat.le_of_ble_eq_true rfl) ?_
  refine q_getR (vO 4 (a0 + 1)) 51 rfl (show sCode 49 48 = some (.getfield 12, 3) by decide +kernel) (show sFR (sKo 49).1 12 = some (7, 0) by decide +kernel) (by decide +kernel) (Or.inl (Or.inl rfl)) rfl ?_
  refine q_ldcS 53 rfl (show sCode 49 51 = some (.ldc 176, 2) by decide +kernel) (show sSR (sKo 49).1 176 = some 20 by decide +kernel) ?_
  exact q_virtI [vS 20] 56 rfl (show sCode 49 53 = some (.invokevirtual 84, 3) by decide +kernel) (show sMR (sKo 49).1 84 = some 23 by decide +kernel) (show 23 < 1000 ∧ sStat 23 = false ∧ sIni 23 = false ∧ sKo 23 = (4, 1, 2, 0, 0) by decide +kernel) rfl (Or.inl rfl) rfl (Nat.le_of_ble_eq_true rfl) rfl rfl rfl (by decide +kernel) kk
theorem b49_56 {d : Nat} {Q : Option sV → sM → sG → Prop} {M : sM} {G : sG} {a0 : Nat} {x1 : Int} {s0 : Int}  (k1 : s0 = 0 → sW (sC d) 49 Q 94 [vO 7 a0, vI x1] [] M G 0 0) (k2 : s0 ≠ 0 → sW (sC d) 49 Q 59 [vO 7 a0, vN] [] M G 0 0) : sW (sC d) 49 Q 56 [vO 7 a0, vI x1] [vI s0] M G 0 0 := by
  refine q_ifeq 94 59 rfl (by decide) (show sCode 49 56 = some (.ifCond .eq 38, 3) by decide +kernel) ?_ ?_
  · intro q; exact k1 q
  · intro q; refine q_forget (L' := [vO 7 a0, vN]) 1 rfl ?_; exact k2 q
theorem b49_59 {d : Nat} {Q : Option sV → sM → sG → Prop} {M : sM} {G : sG} {a0 : Nat}  (kk : sC d 26 [vO 4 (a0 + 1), vI 3] M G (QV (fun M1 G1 => sW (sC d) 49 Q 67 [vO 7 a0, vN] [] M1 G1 0 0))) : sW (sC d) 49 Q 59 [vO 7 a0, vN] [] M G 0 0 := by
  refine q_aload_n 60 rfl (show sCode 49 59 = some (.aload_n 0, 1) by decide +kernel) rfl (Nat.le_of_ble_eq_true rfl) ?_
  refine q_getR (vO 4 (a0 + 1)) 63 rfl (show sCode 49 60 = some (.getfield 12, 3) by decide +kernel) (show sFR (sKo 49).1 12 = some (7, 0) by decide +kernel) (by decide +kernel) (Or.inl (Or.inl rfl)) rfl ?_
  refine q_iconst 64 rfl (show sCode 49 63 = some (.iconst 3, 1) by decide +kernel) ⟨by decide, by decide⟩ ?_
  exact q_virtV [vI 3] 67 rfl (show sCode 49 64 = some (.invokevirtual 116, 3) by decide +kernel) (show sMR (sKo 49).1 116 = some 26 by decide +kernel) (show 26 < 1000 ∧ sStat 26 = false ∧ sIni 26 = false ∧ sKo 26 = (4, 1, 0, 0, 0) by decide +kernel) rfl (Or.inl rfl) rfl (Nat.le_of_ble_eq_true rfl) rfl rfl rfl (by decide +kernel) kk
theorem b49_67 {d : Nat} {Q : Option sV → sM → sG → Prop} {M : sM} {G : sG} {a0 : Nat}  (kk : sC d 46 [vO 7 a0, vI 2] M G (QV (fun M1 G1 => sW (sC d) 49 Q 72 [vO 7 a0, vN] [] M1 G1 0 0))) : sW (sC d) 49 Q 67 [vO 7 a0, vN] [] M G 0 0 := by
  refine q_aload_n 68 rfl (show sCode 49 67 = some (.aload_n 0, 1) by decide +kernel) rfl (Nat.le_of_ble_eq_true rfl) ?_
  refine q_iconst 69 rfl (show sCode 49 68 = some (.iconst 2, 1) by decide +kernel) ⟨by decide, by decide⟩ ?_
  exact q_virtV [vI 2] 72 rfl (show sCode 49 69 = some (.invokevirtual 167, 3) by decide +kernel) (show sMR (sKo 49).1 167 = some 46 by decide +kernel) (show 46 < 1000 ∧ sStat 46 = false ∧ sIni 46 = false ∧ sKo 46 = (7, 1, 0, 0, 0) by decide +kernel) rfl (Or.inl rfl) rfl (Nat.le_of_ble_eq_true rfl) rfl rfl rfl (by decide +kernel) kk
theorem b49_72 {d : Nat} {Q : Option sV → sM → sG → Prop} {M : sM} {G : sG} {a0 : Nat}  (kk : sC d 44 [vO 7 a0, vI 12, vI 0] M G (QI (fun r M1 G1 => sW (sC d) 49 Q 83 [vO 7 a0, vN] (vI r :: [vI 2, vI 12, vO 7 a0]) M1 G1 0 0))) : sW (sC d) 49 Q 72 [vO 7 a0, vN] [] M G 0 0 := by
  refine q_aload_n 73 rfl (show sCode 49 72 = some (.aload_n 0, 1) by decide +kernel) rfl (Nat.le_of_ble_eq_true rfl) ?_
  refine q_bipush 75 rfl (show sCode 49 73 = some (.bipush 12, 2) by decide +kernel) ⟨by decide, by decide⟩ (by decide +kernel) ?_
  refine q_iconst 76 rfl (show sCode 49 75 = some (.iconst 2, 1) by decide +kernel) ⟨by decide, by decide⟩ ?_
  refine q_aload_n 77 rfl (show sCode 49 76 = some (.aload_n 0, 1) by decide +kernel) rfl (Nat.le_of_ble_eq_true rfl) ?_
  refine q_bipush 79 rfl (show sCode 49 77 = some (.bipush 12, 2) by decide +kernel) ⟨by decide, by decide⟩ (by decide +kernel) ?_
  refine q_iconst 80 rfl (show sCode 49 79 = some (.iconst 0, 1) by decide +kernel) ⟨by decide, by decide⟩ ?_
  exact q_virtI [vI 12, vI 0] 83 rfl (show sCode 49 80 = some (.invokevirtual 141, 3) by decide +kernel) (show sMR (sKo 49).1 141 = some 44 by decide +kernel) (show 44 < 1000 ∧ sStat 44 = false ∧ sIni 44 = false ∧ sKo 44 = (7, 2, 1, 0, 0) by decide +kernel) rfl (Or.inl rfl) rfl (Nat.le_of_ble_eq_true rfl) rfl rfl rfl (by decide +kernel) kk
theorem b49_83 {d : Nat} {Q : Option sV → sM → sG → Prop} {M : sM} {G : sG} {a0 : Nat} {s0 : Int} {s1 : Int} {s2 : Int} {sa3 : Nat}  (kk : sC d 40 [vO 7 sa3, vI s2, vI s1, vI s0] M G (QV (fun M1 G1 => sW (sC d) 49 Q 86 [vO 7 a0, vN] [] M1 G1 0 0))) : sW (sC d) 49 Q 83 [vO 7 a0, vN] [vI s0, vI s1, vI s2, vO 7 sa3] M G 0 0 := by
  exact q_virtV [vI s2, vI s1, vI s0] 86 rfl (show sCode 49 83 = some (.invokevirtual 119, 3) by decide +kernel) (show sMR (sKo 49).1 119 = some 40 by decide +kernel) (show 40 < 1000 ∧ sStat 40 = false ∧ sIni 40 = false ∧ sKo 40 = (7, 3, 0, 0, 0) by decide +kernel) rfl (Or.inl rfl) rfl (Nat.le_of_ble_eq_true rfl) rfl rfl rfl (by decide +kernel) kk
theorem b49_86 {d : Nat} {Q : Option sV → sM → sG → Prop} {M : sM} {G : sG} {a0 : Nat}  (kk : sW (sC d) 49 Q 195 [vN, vN] [] (sUpd M a0 14 1) G 0 0) : sW (sC d) 49 Q 86 [vO 7 a0, vN] [] M G 0 0 := by
  refine q_aload_n 87 rfl (show sCode 49 86 = some (.aload_n 0, 1) by decide +kernel) rfl (Nat.le_of_ble_eq_true rfl) ?_
  refine q_iconst 88 rfl (show sCode 49 87 = some (.iconst 1, 1) by decide +kernel) ⟨by decide, by decide⟩ ?_
  refine q_putI 91 rfl (show sCode 49 88 = some (.putfield 61, 3) by decide +kernel) (show sFR (sKo 49).1 61 = some (7, 14) by decide +kernel) (by decide +kernel) (Or.inl ⟨Or.inl rfl, by decide +kernel⟩) ?_
  refine q_goto 195 (by decide) (show sCode 49 91 = some (.goto 104, 3) by decide +kernel) ?_
  refine q_forget (L' := [vN, vN]) 0 rfl ?_
  exact kk
theorem b49_94 {d : Nat} {Q : Option sV → sM → sG → Prop} {M : sM} {G : sG} {a0 : Nat} {x1 : Int}  (k1 : x1 ≠ 93 → sW (sC d) 49 Q 128 [vO 7 a0, vI x1] [] M G 0 0) (k2 : x1 = 93 → sW (sC d) 49 Q 100 [vO 7 a0, vI x1] [] M G 0 0) : sW (sC d) 49 Q 94 [vO 7 a0, vI x1] [] M G 0 0 := by
  refine q_iload_n 95 rfl (show sCode 49 94 = some (.iload_n 1, 1) by decide +kernel) rfl ?_
  refine q_bipush 97 rfl (show sCode 49 95 = some (.bipush 93, 2) by decide +kernel) ⟨by decide, by decide⟩ (by decide +kernel) ?_
  refine q_icmpne 128 100 rfl (by decide) (show sCode 49 97 = some (.if_icmp .ne 31, 3) by decide +kernel) ?_ ?_
  · intro q; exact k1 q
  · intro q; exact k2 q
theorem b49_100 {d : Nat} {Q : Option sV → sM → sG → Prop} {M : sM} {G : sG} {a0 : Nat} {x1 : Int}  (k1 : M a0 13 ≤ 0 → sW (sC d) 49 Q 128 [vO 7 a0, vI x1] [] M G 0 0) (k2 : 0 < M a0 13 → sW (sC d) 49 Q 107 [vO 7 a0, vN] [] M G 0 0) : sW (sC d) 49 Q 100 [vO 7 a0, vI x1] [] M G 0 0 := by
  refine q_aload_n 101 rfl (show sCode 49 100 = some (.aload_n 0, 1) by decide +kernel) rfl (Nat.le_of_ble_eq_true rfl) ?_
  refine q_getI 104 rfl (show sCode 49 101 = some (.getfield 58, 3) by decide +kernel) (show sFR (sKo 49).1 58 = some (7, 13) by decide +kernel) (by decide +kernel) (Or.inl (Or.inl rfl)) ?_
  refine q_ifle 128 107 rfl (by decide) (show sCode 49 104 = some (.ifCond .le 24, 3) by decide +kernel) ?_ ?_
  · intro q; exact k1 q
  · intro q; refine q_forget (L' := [vO 7 a0, vN]) 1 rfl ?_; exact k2 q
theorem b49_107 {d : Nat} {Q : Option sV → sM → sG → Prop} {M : sM} {G : sG} {a0 : Nat}  (kk : sC d 26 [vO 4 (a0 + 1), vI 1] M G (QV (fun M1 G1 => sW (sC d) 49 Q 115 [vO 7 a0, vN] [] M1 G1 0 0))) : sW (sC d) 49 Q 107 [vO 7 a0, vN] [] M G 0 0 := by
  refine q_aload_n 108 rfl (show sCode 49 107 = some (.aload_n 0, 1) by decide +kernel) rfl (Nat.le_of_ble_eq_true rfl) ?_
  refine q_getR (vO 4 (a0 + 1)) 111 rfl (show sCode 49 108 = some (.getfield 12, 3) by decide +kernel) (show sFR (sKo 49).1 12 = some (7, 0) by decide +kernel) (by decide +kernel) (Or.inl (Or.inl rfl)) rfl ?_
  refine q_iconst 112 rfl (show sCode 49 111 = some (.iconst 1, 1) by decide +kernel) ⟨by decide, by decide⟩ ?_
  exact q_virtV [vI 1] 115 rfl (show sCode 49 112 = some (.invokevirtual 116, 3) by decide +kernel) (show sMR (sKo 49).1 116 = some 26 by decide +kernel) (show 26 < 1000 ∧ sStat 26 = false ∧ sIni 26 = false ∧ sKo 26 = (4, 1, 0, 0, 0) by decide +kernel) rfl (Or.inl rfl) rfl (Nat.le_of_ble_eq_true rfl) rfl rfl rfl (by decide +kernel) kk
theorem b49_115 {d : Nat} {Q : Option sV → sM → sG → Prop} {M : sM} {G : sG} {a0 : Nat}  (kk : sC d 50 [vO 7 a0] M G (QV (fun M1 G1 => sW (sC d) 49 Q 119 [vO 7 a0, vN] [] M1 G1 0 0))) : sW (sC d) 49 Q 115 [vO 7 a0, vN] [] M G 0 0 := by
  refine q_aload_n 116 rfl (show sCode 49 115 = some (.aload_n 0, 1) by decide +kernel) rfl (Nat.le_of_ble_eq_true rfl) ?_
  exact q_virtV [] 119 rfl (show sCode 49 116 = some (.invokevirtual 178, 3) by decide +kernel) (show sMR (sKo 49).1 178 = some 50 by decide +kernel) (show 50 < 1000 ∧ sStat 50 = false ∧ sIni 50 = false ∧ sKo 50 = (7, 0, 0, 0, 0) by decide +kernel) rfl (Or.inl rfl) rfl (Nat.le_of_ble_eq_true rfl) rfl rfl rfl (by decide +kernel) kk
theorem b49_119 {d : Nat} {Q : Option sV → sM → sG → Prop} {M : sM} {G : sG} {a0 : Nat}  (kk : sW (sC d) 49 Q 195 [vN, vN] [] (sUpd M a0 14 6) G 0 0) : sW (sC d) 49 Q 119 [vO 7 a0, vN] [] M G 0 0 := by
  refine q_aload_n 120 rfl (show sCode 49 119 = some (.aload_n 0, 1) by decide +kernel) rfl (Nat.le_of_ble_eq_true rfl) ?_
  refine q_bipush 122 rfl (show sCode 49 120 = some (.bipush 6, 2) by decide +kernel) ⟨by decide, by decide⟩ (by decide +kernel) ?_
  refine q_putI 125 rfl (show sCode 49 122 = some (.putfield 61, 3) by decide +kernel) (show sFR (sKo 49).1 61 = some (7, 14) by decide +kernel) (by decide +kernel) (Or.inl ⟨Or.inl rfl, by decide +kernel⟩) ?_
  refine q_goto 195 (by decide) (show sCode 49 125 = some (.goto 70, 3) by decide +kernel) ?_
  refine q_forget (L' := [vN, vN]) 0 rfl ?_
  exact kk
theorem b49_128 {d : Nat} {Q : Option sV → sM → sG → Prop} {M : sM} {G : sG} {a0 : Nat} {x1 : Int}  (k1 : x1 = 59 → sW (sC d) 49 Q 139 [vO 7 a0, vI x1] [] M G 0 0) (k2 : x1 ≠ 59 → sW (sC d) 49 Q 134 [vO 7 a0, vI x1] [] M G 0 0) : sW (sC d) 49 Q 128 [vO 7 a0, vI x1] [] M G 0 0 := by
  refine q_iload_n 129 rfl (show sCode 49 128 = some (.iload_n 1, 1) by decide +kernel) rfl ?_
  refine q_bipush 131 rfl (show sCode 49 129 = some (.bipush 59, 2) by decide +kernel) ⟨by decide, by decide⟩ (by decide +kernel) ?_
  refine q_icmpeq 139 134 rfl (by decide) (show sCode 49 131 = some (.if_icmp .eq 8, 3) by decide +kernel) ?_ ?_
  · intro q; exact k1 q
  · intro q; exact k2 q
theorem b49_134 {d : Nat} {Q : Option sV → sM → sG → Prop} {M : sM} {G : sG} {a0 : Nat} {x1 : Int}  (k1 : x1 ≠ (-1) → sW (sC d) 49 Q 187 [vO 7 a0, vN] [] M G 0 0) (k2 : x1 = (-1) → sW (sC d) 49 Q 139 [vO 7 a0, vI x1] [] M G 0 0) : sW (sC d) 49 Q 134 [vO 7 a0, vI x1] [] M G 0 0 := by
  refine q_iload_n 135 rfl (show sCode 49 134 = some (.iload_n 1, 1) by decide +kernel) rfl ?_
  refine q_iconst 136 rfl (show sCode 49 135 = some (.iconst (-1), 1) by decide +kernel) ⟨by decide, by decide⟩ ?_
  refine q_icmpne 187 139 rfl (by decide) (show sCode 49 136 = some (.if_icmp .ne 51, 3) by decide +kernel) ?_ ?_
  · intro q; refine q_forget (L' := [vO 7 a0, vN]) 1 rfl ?_; exact k1 q
  · intro q; exact k2 q
theorem b49_139 {d : Nat} {Q : Option sV → sM → sG → Prop} {M : sM} {G : sG} {a0 : Nat} {x1 : Int}  (k1 : M a0 13 ≠ 0 → sW (sC d) 49 Q 187 [vO 7 a0, vN] [] M G 0 0) (k2 : M a0 13 = 0 → sW (sC d) 49 Q 146 [vO 7 a0, vI x1] [] M G 0 0) : sW (sC d) 49 Q 139 [vO 7 a0, vI x1] [] M G 0 0 := by
  refine q_aload_n 140 rfl (show sCode 49 139 = some (.aload_n 0, 1) by decide +kernel) rfl (Nat.le_of_ble_eq_true rfl) ?_
  refine q_getI 143 rfl (show sCode 49 140 = some (.getfield 58, 3) by decide +kernel) (show sFR (sKo 49).1 58 = some (7, 13) by decide +kernel) (by decide +kernel) (Or.inl (Or.inl rfl)) ?_
  refine q_ifne 187 146 rfl (by decide) (show sCode 49 143 = some (.ifCond .ne 44, 3) by decide +kernel) ?_ ?_
  · intro q; refine q_forget (L' := [vO 7 a0, vN]) 1 rfl ?_; exact k1 q
  · intro q; exact k2 q
theorem b49_146 {d : Nat} {Q : Option sV → sM → sG → Prop} {M : sM} {G : sG} {a0 : Nat} {x1 : Int}  (k1 : x1 ≠ 59 → sW (sC d) 49 Q 160 [vO 7 a0, vI x1] [vO 4 (a0 + 1)] M G 0 0) (k2 : x1 = 59 → sW (sC d) 49 Q 156 [vO 7 a0, vI x1] [vO 4 (a0 + 1)] M G 0 0) : sW (sC d) 49 Q 146 [vO 7 a0, vI x1] [] M G 0 0 := by
  refine q_aload_n 147 rfl (show sCode 49 146 = some (.aload_n 0, 1) by decide +kernel) rfl (Nat.le_of_ble_eq_true rfl) ?_
  refine q_getR (vO 4 (a0 + 1)) 150 rfl (show sCode 49 147 = some (.getfield 12, 3) by decide +kernel) (show sFR (sKo 49).1 12 = some (7, 0) by decide +kernel) (by decide +kernel) (Or.inl (Or.inl rfl)) rfl ?_
  refine q_iload_n 151 rfl (show sCode 49 150 = some (.iload_n 1, 1) by decide +kernel) rfl ?_
  refine q_bipush 153 rfl (show sCode 49 151 = some (.bipush 59, 2) by decide +kernel) ⟨by decide, by decide⟩ (by decide +kernel) ?_
  refine q_icmpne 160 156 rfl (by decide) (show sCode 49 153 = some (.if_icmp .ne 7, 3) by decide +kernel) ?_ ?_
  · intro q; exact k1 q
  · intro q; exact k2 q
theorem b49_156 {d : Nat} {Q : Option sV → sM → sG → Prop} {M : sM} {G : sG} {a0 : Nat} {x1 : Int} {sa0 : Nat}  (kk : sW (sC d) 49 Q 161 [vO 7 a0, vI x1] [vI 1, vO 4 sa0] M G 0 0) : sW (sC d) 49 Q 156 [vO 7 a0, vI x1] [vO 4 sa0] M G 0 0 := by
  refine q_iconst 157 rfl (show sCode 49 156 = some (.iconst 1, 1) by decide +kernel) ⟨by decide, by decide⟩ ?_
  refine q_goto 161 (by decide) (show sCode 49 157 = some (.goto 4, 3) by decide +kernel) ?_
  exact kk
theorem b49_160 {d : Nat} {Q : Option sV → sM → sG → Prop} {M : sM} {G : sG} {a0 : Nat} {x1 : Int} {sa0 : Nat}  (kk : sW (sC d) 49 Q 161 [vO 7 a0, vI x1] [vI 0, vO 4 sa0] M G 0 0) : sW (sC d) 49 Q 160 [vO 7 a0, vI x1] [vO 4 sa0] M G 0 0 := by
  refine q_iconst 161 rfl (show sCode 49 160 = some (.iconst 0, 1) by decide +kernel) ⟨by decide, by decide⟩ ?_
  exact kk
theorem b49_161 {d : Nat} {Q : Option sV → sM → sG → Prop} {M : sM} {G : sG} {a0 : Nat} {x1 : Int} {s0 : Int} {sa1 : Nat}  (kk : sC d 26 [vO 4 sa1, vI s0] M G (QV (fun M1 G1 => sW (sC d) 49 Q 164 [vO 7 a0, vI x1] [] M1 G1 0 0))) : sW (sC d) 49 Q 161 [vO 7 a0, vI x1] [vI s0, vO 4 sa1] M G 0 0 := by
  exact q_virtV [vI s0] 164 rfl (show sCode 49 161 = some (.invokevirtual 116, 3) by decide +kernel) (show sMR (sKo 49).1 116 = some 26 by decide +kernel) (show 26 < 1000 ∧ sStat 26 = false ∧ sIni 26 = false ∧ sKo 26 = (4, 1, 0, 0, 0) by decide +kernel) rfl (Or.inl rfl) rfl (Nat.le_of_ble_eq_true rfl) rfl rfl rfl (by decide +kernel) kk
theorem b49_164 {d : Nat} {Q : Option sV → sM → sG → Prop} {M : sM} {G : sG} {a0 : Nat} {x1 : Int}  (kk : sC d 51 [vO 7 a0] M G (QV (fun M1 G1 => sW (sC d) 49 Q 168 [vO 7 a0, vI x1] [] M1 G1 0 0))) : sW (sC d) 49 Q 164 [vO 7 a0, vI x1] [] M G 0 0 := by
  refine q_aload_n 165 rfl (show sCode 49 164 = some (.aload_n 0, 1) by decide +kernel) rfl (Nat.le_of_ble_eq_true rfl) ?_
  exact q_virtV [] 168 rfl (show sCode 49 165 = some (.invokevirtual 181, 3) by decide +kernel) (show sMR (sKo 49).1 181 = some 51 by decide +kernel) (show 51 < 1000 ∧ sStat 51 = false ∧ sIni 51 = false ∧ sKo 51 = (7, 0, 0, 0, 0) by decide +kernel) rfl (Or.inl rfl) rfl (Nat.le_of_ble_eq_true rfl) rfl rfl rfl (by decide +kernel) kk
theorem b49_168 {d : Nat} {Q : Option sV → sM → sG → Prop} {M : sM} {G : sG} {a0 : Nat} {x1 : Int}  (k1 : x1 ≠ 59 → sW (sC d) 49 Q 179 [vN, vN] [vO 7 a0] M G 0 0) (k2 : x1 = 59 → sW (sC d) 49 Q 175 [vN, vN] [vO 7 a0] M G 0 0) : sW (sC d) 49 Q 168 [vO 7 a0, vI x1] [] M G 0 0 := by
  refine q_aload_n 169 rfl (show sCode 49 168 = some (.aload_n 0, 1) by decide +kernel) rfl (Nat.le_of_ble_eq_true rfl) ?_
  refine q_iload_n 170 rfl (show sCode 49 169 = some (.iload_n 1, 1) by decide +kernel) rfl ?_
  refine q_bipush 172 rfl (show sCode 49 170 = some (.bipush 59, 2) by decide +kernel) ⟨by decide, by decide⟩ (by decide +kernel) ?_
  refine q_icmpne 179 175 rfl (by decide) (show sCode 49 172 = some (.if_icmp .ne 7, 3) by decide +kernel) ?_ ?_
  · intro q; refine q_forget (L' := [vN, vI x1]) 0 rfl ?_; refine q_forget (L' := [vN, vN]) 1 rfl ?_; exact k1 q
  · intro q; refine q_forget (L' := [vN, vI x1]) 0 rfl ?_; refine q_forget (L' := [vN, vN]) 1 rfl ?_; exact k2 q
theorem b49_175 {d : Nat} {Q : Option sV → sM → sG → Prop} {M : sM} {G : sG} {sa0 : Nat}  (kk : sW (sC d) 49 Q 181 [vN, vN] [vI 0, vO 7 sa0] M G 0 0) : sW (sC d) 49 Q 175 [vN, vN] [vO 7 sa0] M G 0 0 := by
  refine q_iconst 176 rfl (show sCode 49 175 = some (.iconst 0, 1) by decide +kernel) ⟨by decide, by decide⟩ ?_
  refine q_goto 181 (by decide) (show sCode 49 176 = some (.goto 5, 3) by decide +kernel) ?_
  exact kk
theorem b49_179 {d : Nat} {Q : Option sV → sM → sG → Prop} {M : sM} {G : sG} {sa0 : Nat}  (kk : sW (sC d) 49 Q 181 [vN, vN] [vI 7, vO 7 sa0] M G 0 0) : sW (sC d) 49 Q 179 [vN, vN] [vO 7 sa0] M G 0 0 := by
  refine q_bipush 181 rfl (show sCode 49 179 = some (.bipush 7, 2) by decide +kernel) ⟨by decide, by decide⟩ (by decide +kernel) ?_
  exact kk
theorem b49_181 {d : Nat} {Q : Option sV → sM → sG → Prop} {M : sM} {G : sG} {s0 : Int} {sa1 : Nat}  (kk : sW (sC d) 49 Q 195 [vN, vN] [] (sUpd M sa1 14 s0) G 0 0) : sW (sC d) 49 Q 181 [vN, vN] [vI s0, vO 7 sa1] M G 0 0 := by
  refine q_putI 184 rfl (show sCode 49 181 = some (.putfield 61, 3) by decide +kernel) (show sFR (sKo 49).1 61 = some (7, 14) by decide +kernel) (by decide +kernel) (Or.inl ⟨Or.inl rfl, by decide +kernel⟩) ?_
  refine q_goto 195 (by decide) (show sCode 49 184 = some (.goto 11, 3) by decide +kernel) ?_
  exact kk
theorem b49_187 {d : Nat} {Q : Option sV → sM → sG → Prop} {M : sM} {G : sG} {a0 : Nat}  (kk : sC d 24 [vO 4 (a0 + 1), vI 0] M G (QV (fun M1 G1 => sW (sC d) 49 Q 195 [vN, vN] [] M1 G1 0 0))) : sW (sC d) 49 Q 187 [vO 7 a0, vN] [] M G 0 0 := by
  refine q_aload_n 188 rfl (show sCode 49 187 = some (.aload_n 0, 1) by decide +kernel) rfl (Nat.le_of_ble_eq_true rfl) ?_
  refine q_getR (vO 4 (a0 + 1)) 191 rfl (show sCode 49 188 = some (.getfield 12, 3) by decide +kernel) (show sFR (sKo 49).1 12 = some (7, 0) by decide +kernel) (by decide +kernel) (Or.inl (Or.inl rfl)) rfl ?_
  refine q_iconst 192 rfl (show sCode 49 191 = some (.iconst 0, 1) by decide +kernel) ⟨by decide, by decide⟩ ?_
  refine q_forget (L' := [vN, vN]) 0 rfl ?_
  exact q_virtV [vI 0] 195 rfl (show sCode 49 192 = some (.invokevirtual 113, 3) by decide +kernel) (show sMR (sKo 49).1 113 = some 24 by decide +kernel) (show 24 < 1000 ∧ sStat 24 = false ∧ sIni 24 = false ∧ sKo 24 = (4, 1, 0, 0, 0) by decide +kernel) rfl (Or.inl rfl) rfl (Nat.le_of_ble_eq_true rfl) rfl rfl rfl (by decide +kernel) kk
theorem b49_195 {d : Nat} {P : sM → sG → Prop} {M : sM} {G : sG}   (kk : P M G) : sW (sC d) 49 (QV P) 195 [vN, vN] [] M G 0 0 := by
  exact q_vret (show sCode 49 195 = some (.return_, 1) by decide +kernel) (by decide +kernel) (by decide +kernel) kk
-- 50 AfterTheLast$RuleReader.closeBracket ()V
theorem b50_0 {d : Nat} {Q : Option sV → sM → sG → Prop} {M : sM} {G : sG} {a0 : Nat}  (kk : sC d 46 [vO 7 a0, vI 1] M G (QV (fun M1 G1 => sW (sC d) 50 Q 5 [vO 7 a0] [] M1 G1 0 0))) : sW (sC d) 50 Q 0 [vO 7 a0] [] M G 0 0 := by
  refine q_aload_n 1 rfl (show sCode 50 0 = some (.aload_n 0, 1) by decide +kernel) rfl (Nat.le_of_ble_eq_true rfl) ?_
  refine q_iconst 2 rfl (show sCode 50 1 = some (.iconst 1, 1) by decide +kernel) ⟨by decide, by decide⟩ ?_
  exact q_virtV [vI 1] 5 rfl (show sCode 50 2 = some (.invokevirtual 167, 3) by decide +kernel) (show sMR (sKo 50).1 167 = some 46 by decide +kernel) (show 46 < 1000 ∧ sStat 46 = false ∧ sIni 46 = false ∧ sKo 46 = (7, 1, 0, 0, 0) by decide +kernel) rfl (Or.inl rfl) rfl (Nat.le_of_ble_eq_true rfl) rfl rfl rfl (by decide +kernel) kk
theorem b50_5 {d : Nat} {Q : Option sV → sM → sG → Prop} {M : sM} {G : sG} {a0 : Nat} (h1 : sI ((M a0 13) - 1)) (h2 : sI (((sUpd M a0 13 ((M a0 13) - 1)) a0 12) - 1)) (k1 : (sUpd (sUpd M a0 13 ((M a0 13) - 1)) a0 12 (((sUpd M a0 13 ((M a0 13) - 1)) a0 12) - 1)) a0 10 ≤ 0 → sW (sC d) 50 Q 42 [vN] [] (sUpd (sUpd M a0 13 ((M a0 13) - 1)) a0 12 (((sUpd M a0 13 ((M a0 13) - 1)) a0 12) - 1)) G 0 0) (k2 : 0 < (sUpd (sUpd M a0 13 ((M a0 13) - 1)) a0 12 (((sUpd M a0 13 ((M a0 13) - 1)) a0 12) - 1)) a0 10 → sW (sC d) 50 Q 32 [vO 7 a0] [] (sUpd (sUpd M a0 13 ((M a0 13) - 1)) a0 12 (((sUpd M a0 13 ((M a0 13) - 1)) a0 12) - 1)) G 0 0) : sW (sC d) 50 Q 5 [vO 7 a0] [] M G 0 0 := by
  refine q_aload_n 6 rfl (show sCode 50 5 = some (.aload_n 0, 1) by decide +kernel) rfl (Nat.le_of_ble_eq_true rfl) ?_
  refine q_dup 7 rfl (show sCode 50 6 = some (.dup, 1) by decide +kernel) rfl ?_
  refine q_getI 10 rfl (show sCode 50 7 = some (.getfield 58, 3) by decide +kernel) (show sFR (sKo 50).1 58 = some (7, 13) by decide +kernel) (by decide +kernel) (Or.inl (Or.inl rfl)) ?_
  refine q_iconst 11 rfl (show sCode 50 10 = some (.iconst 1, 1) by decide +kernel) ⟨by decide, by decide⟩ ?_
  refine q_isub 12 rfl (show sCode 50 11 = some (.isub, 1) by decide +kernel) h1 ?_
  refine q_putI 15 rfl (show sCode 50 12 = some (.putfield 58, 3) by decide +kernel) (show sFR (sKo 50).1 58 = some (7, 13) by decide +kernel) (by decide +kernel) (Or.inl ⟨Or.inl rfl, by decide +kernel⟩) ?_
  refine q_aload_n 16 rfl (show sCode 50 15 = some (.aload_n 0, 1) by decide +kernel) rfl (Nat.le_of_ble_eq_true rfl) ?_
  refine q_dup 17 rfl (show sCode 50 16 = some (.dup, 1) by decide +kernel) rfl ?_
  refine q_getI 20 rfl (show sCode 50 17 = some (.getfield 55, 3) by decide +kernel) (show sFR (sKo 50).1 55 = some (7, 12) by decide +kernel) (by decide +kernel) (Or.inl (Or.inl rfl)) ?_
  refine q_iconst 21 rfl (show sCode 50 20 = some (.iconst 1, 1) by decide +kernel) ⟨by decide, by decide⟩ ?_
  refine q_isub 22 rfl (show sCode 50 21 = some (.isub, 1) by decide +kernel) h2 ?_
  refine q_putI 25 rfl (show sCode 50 22 = some (.putfield 55, 3) by decide +kernel) (show sFR (sKo 50).1 55 = some (7, 12) by decide +kernel) (by decide +kernel) (Or.inl ⟨Or.inl rfl, by decide +kernel⟩) ?_
  refine q_aload_n 26 rfl (show sCode 50 25 = some (.aload_n 0, 1) by decide +kernel) rfl (Nat.le_of_ble_eq_true rfl) ?_
  refine q_getI 29 rfl (show sCode 50 26 = some (.getfield 49, 3) by decide +kernel) (show sFR (sKo 50).1 49 = some (7, 10) by decide +kernel) (by decide +kernel) (Or.inl (Or.inl rfl)) ?_
  refine q_ifle 42 32 rfl (by decide) (show sCode 50 29 = some (.ifCond .le 13, 3) by decide +kernel) ?_ ?_
  · intro q; refine q_forget (L' := [vN]) 0 rfl ?_; exact k1 q
  · intro q; exact k2 q
theorem b50_32 {d : Nat} {Q : Option sV → sM → sG → Prop} {M : sM} {G : sG} {a0 : Nat} (h1 : sI ((M a0 10) - 1)) (kk : sW (sC d) 50 Q 42 [vN] [] (sUpd M a0 10 ((M a0 10) - 1)) G 0 0) : sW (sC d) 50 Q 32 [vO 7 a0] [] M G 0 0 := by
  refine q_aload_n 33 rfl (show sCode 50 32 = some (.aload_n 0, 1) by decide +kernel) rfl (Nat.le_of_ble_eq_true rfl) ?_
  refine q_dup 34 rfl (show sCode 50 33 = some (.dup, 1) by decide +kernel) rfl ?_
  refine q_getI 37 rfl (show sCode 50 34 = some (.getfield 49, 3) by decide +kernel) (show sFR (sKo 50).1 49 = some (7, 10) by decide +kernel) (by decide +kernel) (Or.inl (Or.inl rfl)) ?_
  refine q_iconst 38 rfl (show sCode 50 37 = some (.iconst 1, 1) by decide +kernel) ⟨by decide, by decide⟩ ?_
  refine q_isub 39 rfl (show sCode 50 38 = some (.isub, 1) by decide +kernel) h1 ?_
  refine q_putI 42 rfl (show sCode 50 39 = some (.putfield 49, 3) by decide +kernel) (show sFR (sKo 50).1 49 = some (7, 10) by decide +kernel) (by decide +kernel) (Or.inl ⟨Or.inl rfl, by decide +kernel⟩) ?_
  refine q_forget (L' := [vN]) 0 rfl ?_
  exact kk
theorem b50_42 {d : Nat} {P : sM → sG → Prop} {M : sM} {G : sG}   (kk : P M G) : sW (sC d) 50 (QV P) 42 [vN] [] M G 0 0 := by
  exact q_vret (show sCode 50 42 = some (.return_, 1) by decide +kernel) (by decide +kernel) (by decide +kernel) kk
-- 51 AfterTheLast$RuleReader.endClause ()V
theorem b51_0 {d : Nat} {Q : Option sV → sM → sG → Prop} {M : sM} {G : sG} {a0 : Nat}  (kk : sC d 46 [vO 7 a0, vI 1] M G (QV (fun M1 G1 => sW (sC d) 51 Q 5 [vO 7 a0] [] M1 G1 0 0))) : sW (sC d) 51 Q 0 [vO 7 a0] [] M G 0 0 := by
  refine q_aload_n 1 rfl (show sCode 51 0 = some (.aload_n 0, 1) by decide +kernel) rfl (Nat.le_of_ble_eq_true rfl) ?_
  refine q_iconst 2 rfl (show sCode 51 1 = some (.iconst 1, 1) by decide +kernel) ⟨by decide, by decide⟩ ?_
  exact q_virtV [vI 1] 5 rfl (show sCode 51 2 = some (.invokevirtual 167, 3) by decide +kernel) (show sMR (sKo 51).1 167 = some 46 by decide +kernel) (show 46 < 1000 ∧ sStat 46 = false ∧ sIni 46 = false ∧ sKo 46 = (7, 1, 0, 0, 0) by decide +kernel) rfl (Or.inl rfl) rfl (Nat.le_of_ble_eq_true rfl) rfl rfl rfl (by decide +kernel) kk
theorem b51_5 {d : Nat} {Q : Option sV → sM → sG → Prop} {M : sM} {G : sG} {a0 : Nat}  (k1 : 12 ≤ M a0 9 → sW (sC d) 51 Q 37 [vN] [] M G 0 0) (k2 : M a0 9 < 12 → sW (sC d) 51 Q 14 [vO 7 a0] [] M G 0 0) : sW (sC d) 51 Q 5 [vO 7 a0] [] M G 0 0 := by
  refine q_aload_n 6 rfl (show sCode 51 5 = some (.aload_n 0, 1) by decide +kernel) rfl (Nat.le_of_ble_eq_true rfl) ?_
  refine q_getI 9 rfl (show sCode 51 6 = some (.getfield 46, 3) by decide +kernel) (show sFR (sKo 51).1 46 = some (7, 9) by decide +kernel) (by decide +kernel) (Or.inl (Or.inl rfl)) ?_
  refine q_bipush 11 rfl (show sCode 51 9 = some (.bipush 12, 2) by decide +kernel) ⟨by decide, by decide⟩ (by decide +kernel) ?_
  refine q_icmpge 37 14 rfl (by decide) (show sCode 51 11 = some (.if_icmp .ge 26, 3) by decide +kernel) ?_ ?_
  · intro q; refine q_forget (L' := [vN]) 0 rfl ?_; exact k1 q
  · intro q; exact k2 q
theorem b51_14 {d : Nat} {Q : Option sV → sM → sG → Prop} {M : sM} {G : sG} {a0 : Nat} (h1 : 0 ≤ M a0 9 ∧ M a0 9 < 12) (h2 : sI (((sUpd M (a0 + 6) (M a0 9).toNat (M a0 8)) a0 9) + 1)) (kk : sW (sC d) 51 Q 37 [vN] [] (sUpd (sUpd M (a0 + 6) (M a0 9).toNat (M a0 8)) a0 9 (((sUpd M (a0 + 6) (M a0 9).toNat (M a0 8)) a0 9) + 1)) G 0 0) : sW (sC d) 51 Q 14 [vO 7 a0] [] M G 0 0 := by
  refine q_aload_n 15 rfl (show sCode 51 14 = some (.aload_n 0, 1) by decide +kernel) rfl (Nat.le_of_ble_eq_true rfl) ?_
  refine q_getR (vA 0 (a0 + 6) 12) 18 rfl (show sCode 51 15 = some (.getfield 30, 3) by decide +kernel) (show sFR (sKo 51).1 30 = some (7, 4) by decide +kernel) (by decide +kernel) (Or.inl (Or.inl rfl)) rfl ?_
  refine q_aload_n 19 rfl (show sCode 51 18 = some (.aload_n 0, 1) by decide +kernel) rfl (Nat.le_of_ble_eq_true rfl) ?_
  refine q_getI 22 rfl (show sCode 51 19 = some (.getfield 46, 3) by decide +kernel) (show sFR (sKo 51).1 46 = some (7, 9) by decide +kernel) (by decide +kernel) (Or.inl (Or.inl rfl)) ?_
  refine q_aload_n 23 rfl (show sCode 51 22 = some (.aload_n 0, 1) by decide +kernel) rfl (Nat.le_of_ble_eq_true rfl) ?_
  refine q_getI 26 rfl (show sCode 51 23 = some (.getfield 42, 3) by decide +kernel) (show sFR (sKo 51).1 42 = some (7, 8) by decide +kernel) (by decide +kernel) (Or.inl (Or.inl rfl)) ?_
  refine q_iast 27 rfl (show sCode 51 26 = some (.iastore, 1) by decide +kernel) h1 ?_
  refine q_aload_n 28 rfl (show sCode 51 27 = some (.aload_n 0, 1) by decide +kernel) rfl (Nat.le_of_ble_eq_true rfl) ?_
  refine q_dup 29 rfl (show sCode 51 28 = some (.dup, 1) by decide +kernel) rfl ?_
  refine q_getI 32 rfl (show sCode 51 29 = some (.getfield 46, 3) by decide +kernel) (show sFR (sKo 51).1 46 = some (7, 9) by decide +kernel) (by decide +kernel) (Or.inl (Or.inl rfl)) ?_
  refine q_iconst 33 rfl (show sCode 51 32 = some (.iconst 1, 1) by decide +kernel) ⟨by decide, by decide⟩ ?_
  refine q_iadd 34 rfl (show sCode 51 33 = some (.iadd, 1) by decide +kernel) h2 ?_
  refine q_putI 37 rfl (show sCode 51 34 = some (.putfield 46, 3) by decide +kernel) (show sFR (sKo 51).1 46 = some (7, 9) by decide +kernel) (by decide +kernel) (Or.inl ⟨Or.inl rfl, by decide +kernel⟩) ?_
  refine q_forget (L' := [vN]) 0 rfl ?_
  exact kk
theorem b51_37 {d : Nat} {P : sM → sG → Prop} {M : sM} {G : sG}   (kk : P M G) : sW (sC d) 51 (QV P) 37 [vN] [] M G 0 0 := by
  exact q_vret (show sCode 51 37 = some (.return_, 1) by decide +kernel) (by decide +kernel) (by decide +kernel) kk
-- 83 AfterTheLast$Rule.start (I)I
theorem b83_0 {d : Nat} {Q : Option sV → sM → sG → Prop} {M : sM} {G : sG} {a0 : Nat} {x1 : Int}  (k1 : x1 ≤ 0 → sW (sC d) 83 Q 23 [vN, vN] [] M G 0 0) (k2 : 0 < x1 → sW (sC d) 83 Q 4 [vO 6 a0, vI x1] [] M G 0 0) : sW (sC d) 83 Q 0 [vO 6 a0, vI x1] [] M G 0 0 := by
  refine q_iload_n 1 rfl (show sCode 83 0 = some (.iload_n 1, 1) by decide +kernel) rfl ?_
  refine q_ifle 23 4 rfl (by decide) (show sCode 83 1 = some (.ifCond .le 22, 3) by decide +kernel) ?_ ?_
  · intro q; refine q_forget (L' := [vN, vI x1]) 0 rfl ?_; refine q_forget (L' := [vN, vN]) 1 rfl ?_; exact k1 q
  · intro q; exact k2 q
theorem b83_4 {d : Nat} {Q : Option sV → sM → sG → Prop} {M : sM} {G : sG} {a0 : Nat} {x1 : Int}  (k1 : M a0 4 < x1 → sW (sC d) 83 Q 23 [vN, vN] [] M G 0 0) (k2 : x1 ≤ M a0 4 → sW (sC d) 83 Q 12 [vO 6 a0, vI x1] [] M G 0 0) : sW (sC d) 83 Q 4 [vO 6 a0, vI x1] [] M G 0 0 := by
  refine q_iload_n 5 rfl (show sCode 83 4 = some (.iload_n 1, 1) by decide +kernel) rfl ?_
  refine q_aload_n 6 rfl (show sCode 83 5 = some (.aload_n 0, 1) by decide +kernel) rfl (Nat.le_of_ble_eq_true rfl) ?_
  refine q_getI 9 rfl (show sCode 83 6 = some (.getfield 41, 3) by decide +kernel) (show sFR (sKo 83).1 41 = some (6, 4) by decide +kernel) (by decide +kernel) (Or.inl (Or.inl rfl)) ?_
  refine q_icmpgt 23 12 rfl (by decide) (show sCode 83 9 = some (.if_icmp .gt 14, 3) by decide +kernel) ?_ ?_
  · intro q; refine q_forget (L' := [vN, vI x1]) 0 rfl ?_; refine q_forget (L' := [vN, vN]) 1 rfl ?_; exact k1 q
  · intro q; exact k2 q
theorem b83_12 {d : Nat} {Q : Option sV → sM → sG → Prop} {M : sM} {G : sG} {a0 : Nat} {x1 : Int} (h1 : sI (x1 - 1)) (h2 : 0 ≤ x1 - 1 ∧ x1 - 1 < ((G (a0 + 4)).2.1 : Int)) (kk : sW (sC d) 83 Q 24 [vN, vN] [vI (M (a0 + 4) (x1 - 1).toNat)] M G 0 0) : sW (sC d) 83 Q 12 [vO 6 a0, vI x1] [] M G 0 0 := by
  refine q_aload_n 13 rfl (show sCode 83 12 = some (.aload_n 0, 1) by decide +kernel) rfl (Nat.le_of_ble_eq_true rfl) ?_
  refine q_getR (vA 0 (a0 + 4) ((G (a0 + 4)).2.1 : Int)) 16 rfl (show sCode 83 13 = some (.getfield 40, 3) by decide +kernel) (show sFR (sKo 83).1 40 = some (6, 3) by decide +kernel) (by decide +kernel) (Or.inl (Or.inl rfl)) rfl ?_
  refine q_iload_n 17 rfl (show sCode 83 16 = some (.iload_n 1, 1) by decide +kernel) rfl ?_
  refine q_iconst 18 rfl (show sCode 83 17 = some (.iconst 1, 1) by decide +kernel) ⟨by decide, by decide⟩ ?_
  refine q_isub 19 rfl (show sCode 83 18 = some (.isub, 1) by decide +kernel) h1 ?_
  refine q_iald 20 rfl (show sCode 83 19 = some (.iaload, 1) by decide +kernel) h2 ?_
  refine q_goto 24 (by decide) (show sCode 83 20 = some (.goto 4, 3) by decide +kernel) ?_
  refine q_forget (L' := [vN, vI x1]) 0 rfl ?_
  refine q_forget (L' := [vN, vN]) 1 rfl ?_
  exact kk
theorem b83_23 {d : Nat} {Q : Option sV → sM → sG → Prop} {M : sM} {G : sG}   (kk : sW (sC d) 83 Q 24 [vN, vN] [vI 0] M G 0 0) : sW (sC d) 83 Q 23 [vN, vN] [] M G 0 0 := by
  refine q_iconst 24 rfl (show sCode 83 23 = some (.iconst 0, 1) by decide +kernel) ⟨by decide, by decide⟩ ?_
  exact kk
theorem b83_24 {d : Nat} {P : Int → sM → sG → Prop} {M : sM} {G : sG} {s0 : Int}  (kk : P s0 M G) : sW (sC d) 83 (QI P) 24 [vN, vN] [vI s0] M G 0 0 := by
  exact q_iret (show sCode 83 24 = some (.ireturn, 1) by decide +kernel) (by decide +kernel) (by decide +kernel) kk
-- 87 AfterTheLast$Rule.has (I)Z
theorem b87_0 {d : Nat} {Q : Option sV → sM → sG → Prop} {M : sM} {G : sG} {a0 : Nat} {x1 : Int}  (kk : sW (sC d) 87 Q 2 [vO 6 a0, vI x1, vI 0] [] M G 0 0) : sW (sC d) 87 Q 0 [vO 6 a0, vI x1, vN] [] M G 0 0 := by
  refine q_iconst 1 rfl (show sCode 87 0 = some (.iconst 0, 1) by decide +kernel) ⟨by decide, by decide⟩ ?_
  refine q_istore_n [vO 6 a0, vI x1, vI 0] 2 rfl (show sCode 87 1 = some (.istore_n 2, 1) by decide +kernel) (Nat.lt_of_lt_of_le (Nat.lt_succ_self _) (Nat.le_of_ble_eq_true rfl)) rfl rfl ?_
  exact kk
theorem b87_2 {d : Nat} {Q : Option sV → sM → sG → Prop} {M : sM} {G : sG} {a0 : Nat} {x1 : Int} {x2 : Int}  (k1 : M a0 4 ≤ x2 → sW (sC d) 87 Q 28 [vN, vN, vN] [] M G 0 0) (k2 : x2 < M a0 4 → sW (sC d) 87 Q 10 [vO 6 a0, vI x1, vI x2] [] M G 0 0) : sW (sC d) 87 Q 2 [vO 6 a0, vI x1, vI x2] [] M G 0 0 := by
  refine q_iload_n 3 rfl (show sCode 87 2 = some (.iload_n 2, 1) by decide +kernel) rfl ?_
  refine q_aload_n 4 rfl (show sCode 87 3 = some (.aload_n 0, 1) by decide +kernel) rfl (Nat.le_of_ble_eq_true rfl) ?_
  refine q_getI 7 rfl (show sCode 87 4 = some (.getfield 41, 3) by decide +kernel) (show sFR (sKo 87).1 41 = some (6, 4) by decide +kernel) (by decide +kernel) (Or.inl (Or.inl rfl)) ?_
  refine q_icmpge 28 10 rfl (by decide) (show sCode 87 7 = some (.if_icmp .ge 21, 3) by decide +kernel) ?_ ?_
  · intro q; refine q_forget (L' := [vN, vI x1, vI x2]) 0 rfl ?_; refine q_forget (L' := [vN, vN, vI x2]) 1 rfl ?_; refine q_forget (L' := [vN, vN, vN]) 2 rfl ?_; exact k1 q
  · intro q; exact k2 q
theorem b87_10 {d : Nat} {Q : Option sV → sM → sG → Prop} {M : sM} {G : sG} {a0 : Nat} {x1 : Int} {x2 : Int} (h1 : 0 ≤ x2 ∧ x2 < ((G (a0 + 3)).2.1 : Int)) (k1 : M (a0 + 3) x2.toNat ≠ x1 → sW (sC d) 87 Q 22 [vO 6 a0, vI x1, vI x2] [] M G 0 0) (k2 : M (a0 + 3) x2.toNat = x1 → sW (sC d) 87 Q 20 [vN, vN, vN] [] M G 0 0) : sW (sC d) 87 Q 10 [vO 6 a0, vI x1, vI x2] [] M G 0 0 := by
  refine q_aload_n 11 rfl (show sCode 87 10 = some (.aload_n 0, 1) by decide +kernel) rfl (Nat.le_of_ble_eq_true rfl) ?_
  refine q_getR (vA 0 (a0 + 3) ((G (a0 + 3)).2.1 : Int)) 14 rfl (show sCode 87 11 = some (.getfield 36, 3) by decide +kernel) (show sFR (sKo 87).1 36 = some (6, 2) by decide +kernel) (by decide +kernel) (Or.inl (Or.inl rfl)) rfl ?_
  refine q_iload_n 15 rfl (show sCode 87 14 = some (.iload_n 2, 1) by decide +kernel) rfl ?_
  refine q_iald 16 rfl (show sCode 87 15 = some (.iaload, 1) by decide +kernel) h1 ?_
  refine q_iload_n 17 rfl (show sCode 87 16 = some (.iload_n 1, 1) by decide +kernel) rfl ?_
  refine q_icmpne 22 20 rfl (by decide) (show sCode 87 17 = some (.if_icmp .ne 5, 3) by decide +kernel) ?_ ?_
  · intro q; exact k1 q
  · intro q; refine q_forget (L' := [vN, vI x1, vI x2]) 0 rfl ?_; refine q_forget (L' := [vN, vN, vI x2]) 1 rfl ?_; refine q_forget (L' := [vN, vN, vN]) 2 rfl ?_; exact k2 q
theorem b87_20 {d : Nat} {P : Int → sM → sG → Prop} {M : sM} {G : sG}   (kk : P 1 M G) : sW (sC d) 87 (QI P) 20 [vN, vN, vN] [] M G 0 0 := by
  refine q_iconst 21 rfl (show sCode 87 20 = some (.iconst 1, 1) by decide +kernel) ⟨by decide, by decide⟩ ?_
  exact q_zret (show sCode 87 21 = some (.ireturn, 1) by decide +kernel) (by decide +kernel) (by decide) (by decide +kernel) kk
theorem b87_22 {d : Nat} {Q : Option sV → sM → sG → Prop} {M : sM} {G : sG} {a0 : Nat} {x1 : Int} {x2 : Int} (h1 : sI (x2 + 1)) (kk : sW (sC d) 87 Q 2 [vO 6 a0, vI x1, vI (x2 + 1)] [] M G 0 0) : sW (sC d) 87 Q 22 [vO 6 a0, vI x1, vI x2] [] M G 0 0 := by
  refine q_iinc [vO 6 a0, vI x1, vI (x2 + 1)] 25 rfl (show sCode 87 22 = some (.iinc 2 1, 3) by decide +kernel) rfl rfl h1 rfl ?_
  refine q_goto 2 (by decide) (show sCode 87 25 = some (.goto (-23), 3) by decide +kernel) ?_
  exact kk
theorem b87_28 {d : Nat} {P : Int → sM → sG → Prop} {M : sM} {G : sG}   (kk : P 0 M G) : sW (sC d) 87 (QI P) 28 [vN, vN, vN] [] M G 0 0 := by
  refine q_iconst 29 rfl (show sCode 87 28 = some (.iconst 0, 1) by decide +kernel) ⟨by decide, by decide⟩ ?_
  exact q_zret (show sCode 87 29 = some (.ireturn, 1) by decide +kernel) (by decide +kernel) (by decide) (by decide +kernel) kk
