/-! BLOCKS, by program. -/
-- 5 AfterTheLast$Town.clear ()V
theorem b5_0 {d : Nat} {Q : Option sV → sM → sG → Prop} {M : sM} {G : sG} {a0 : Nat}  (kk : sC d 6 [vA 0 (a0 + 4) 6, vI 0] (sUpd (sUpd (sUpd (sUpd M a0 0 0) a0 6 0) a0 13 0) a0 14 0) G (QV (fun M1 G1 => sW (sC d) 5 Q 28 [vO 10 a0] [] M1 G1 0 0))) : sW (sC d) 5 Q 0 [vO 10 a0] [] M G 0 0 := by
  refine q_aload_n 1 rfl (show sCode 5 0 = some (.aload_n 0, 1) by decide +kernel) rfl (Nat.le_of_ble_eq_true rfl) ?_
  refine q_iconst 2 rfl (show sCode 5 1 = some (.iconst 0, 1) by decide +kernel) ⟨by decide, by decide⟩ ?_
  refine q_putI 5 rfl (show sCode 5 2 = some (.putfield 9, 3) by decide +kernel) (show sFR (sKo 5).1 9 = some (10, 0) by decide +kernel) (by decide +kernel) (Or.inl ⟨Or.inl rfl, by decide +kernel⟩) ?_
  refine q_aload_n 6 rfl (show sCode 5 5 = some (.aload_n 0, 1) by decide +kernel) rfl (Nat.le_of_ble_eq_true rfl) ?_
  refine q_iconst 7 rfl (show sCode 5 6 = some (.iconst 0, 1) by decide +kernel) ⟨by decide, by decide⟩ ?_
  refine q_putI 10 rfl (show sCode 5 7 = some (.putfield 31, 3) by decide +kernel) (show sFR (sKo 5).1 31 = some (10, 6) by decide +kernel) (by decide +kernel) (Or.inl ⟨Or.inl rfl, by decide +kernel⟩) ?_
  refine q_aload_n 11 rfl (show sCode 5 10 = some (.aload_n 0, 1) by decide +kernel) rfl (Nat.le_of_ble_eq_true rfl) ?_
  refine q_iconst 12 rfl (show sCode 5 11 = some (.iconst 0, 1) by decide +kernel) ⟨by decide, by decide⟩ ?_
  refine q_putI 15 rfl (show sCode 5 12 = some (.putfield 52, 3) by decide +kernel) (show sFR (sKo 5).1 52 = some (10, 13) by decide +kernel) (by decide +kernel) (Or.inl ⟨Or.inl rfl, by decide +kernel⟩) ?_
  refine q_aload_n 16 rfl (show sCode 5 15 = some (.aload_n 0, 1) by decide +kernel) rfl (Nat.le_of_ble_eq_true rfl) ?_
  refine q_iconst 17 rfl (show sCode 5 16 = some (.iconst 0, 1) by decide +kernel) ⟨by decide, by decide⟩ ?_
  refine q_putI 20 rfl (show sCode 5 17 = some (.putfield 55, 3) by decide +kernel) (show sFR (sKo 5).1 55 = some (10, 14) by decide +kernel) (by decide +kernel) (Or.inl ⟨Or.inl rfl, by decide +kernel⟩) ?_
  refine q_aload_n 21 rfl (show sCode 5 20 = some (.aload_n 0, 1) by decide +kernel) rfl (Nat.le_of_ble_eq_true rfl) ?_
  refine q_getR (vA 0 (a0 + 4) 6) 24 rfl (show sCode 5 21 = some (.getfield 25, 3) by decide +kernel) (show sFR (sKo 5).1 25 = some (10, 4) by decide +kernel) (by decide +kernel) (Or.inl (Or.inl rfl)) rfl ?_
  refine q_iconst 25 rfl (show sCode 5 24 = some (.iconst 0, 1) by decide +kernel) ⟨by decide, by decide⟩ ?_
  exact q_statV [vA 0 (a0 + 4) 6, vI 0] 28 rfl (show sCode 5 25 = some (.invokestatic 70, 3) by decide +kernel) (show sMR (sKo 5).1 70 = some 6 by decide +kernel) (show 6 < 1000 ∧ sStat 6 = true ∧ sKo 6 = (14, 2, 0, 0, 0) by decide +kernel) rfl rfl (Nat.le_of_ble_eq_true rfl) rfl rfl rfl (by decide +kernel) kk
theorem b5_28 {d : Nat} {Q : Option sV → sM → sG → Prop} {M : sM} {G : sG} {a0 : Nat}  (kk : sC d 6 [vA 0 (a0 + 12) 12, vI (-1)] M G (QV (fun M1 G1 => sW (sC d) 5 Q 36 [vO 10 a0] [] M1 G1 0 0))) : sW (sC d) 5 Q 28 [vO 10 a0] [] M G 0 0 := by
  refine q_aload_n 29 rfl (show sCode 5 28 = some (.aload_n 0, 1) by decide +kernel) rfl (Nat.le_of_ble_eq_true rfl) ?_
  refine q_getR (vA 0 (a0 + 12) 12) 32 rfl (show sCode 5 29 = some (.getfield 58, 3) by decide +kernel) (show sFR (sKo 5).1 58 = some (10, 15) by decide +kernel) (by decide +kernel) (Or.inl (Or.inl rfl)) rfl ?_
  refine q_iconst 33 rfl (show sCode 5 32 = some (.iconst (-1), 1) by decide +kernel) ⟨by decide, by decide⟩ ?_
  exact q_statV [vA 0 (a0 + 12) 12, vI (-1)] 36 rfl (show sCode 5 33 = some (.invokestatic 70, 3) by decide +kernel) (show sMR (sKo 5).1 70 = some 6 by decide +kernel) (show 6 < 1000 ∧ sStat 6 = true ∧ sKo 6 = (14, 2, 0, 0, 0) by decide +kernel) rfl rfl (Nat.le_of_ble_eq_true rfl) rfl rfl rfl (by decide +kernel) kk
theorem b5_36 {d : Nat} {Q : Option sV → sM → sG → Prop} {M : sM} {G : sG} {a0 : Nat}  (kk : sC d 6 [vA 0 (a0 + 13) 12, vI (-1)] M G (QV (fun M1 G1 => sW (sC d) 5 Q 44 [vO 10 a0] [] M1 G1 0 0))) : sW (sC d) 5 Q 36 [vO 10 a0] [] M G 0 0 := by
  refine q_aload_n 37 rfl (show sCode 5 36 = some (.aload_n 0, 1) by decide +kernel) rfl (Nat.le_of_ble_eq_true rfl) ?_
  refine q_getR (vA 0 (a0 + 13) 12) 40 rfl (show sCode 5 37 = some (.getfield 61, 3) by decide +kernel) (show sFR (sKo 5).1 61 = some (10, 16) by decide +kernel) (by decide +kernel) (Or.inl (Or.inl rfl)) rfl ?_
  refine q_iconst 41 rfl (show sCode 5 40 = some (.iconst (-1), 1) by decide +kernel) ⟨by decide, by decide⟩ ?_
  exact q_statV [vA 0 (a0 + 13) 12, vI (-1)] 44 rfl (show sCode 5 41 = some (.invokestatic 70, 3) by decide +kernel) (show sMR (sKo 5).1 70 = some 6 by decide +kernel) (show 6 < 1000 ∧ sStat 6 = true ∧ sKo 6 = (14, 2, 0, 0, 0) by decide +kernel) rfl rfl (Nat.le_of_ble_eq_true rfl) rfl rfl rfl (by decide +kernel) kk
theorem b5_44 {d : Nat} {Q : Option sV → sM → sG → Prop} {M : sM} {G : sG} {a0 : Nat}  (kk : sC d 6 [vA 0 (a0 + 14) 12, vI (-1)] M G (QV (fun M1 G1 => sW (sC d) 5 Q 52 [vN] [] M1 G1 0 0))) : sW (sC d) 5 Q 44 [vO 10 a0] [] M G 0 0 := by
  refine q_aload_n 45 rfl (show sCode 5 44 = some (.aload_n 0, 1) by decide +kernel) rfl (Nat.le_of_ble_eq_true rfl) ?_
  refine q_getR (vA 0 (a0 + 14) 12) 48 rfl (show sCode 5 45 = some (.getfield 64, 3) by decide +kernel) (show sFR (sKo 5).1 64 = some (10, 17) by decide +kernel) (by decide +kernel) (Or.inl (Or.inl rfl)) rfl ?_
  refine q_iconst 49 rfl (show sCode 5 48 = some (.iconst (-1), 1) by decide +kernel) ⟨by decide, by decide⟩ ?_
  refine q_forget (L' := [vN]) 0 rfl ?_
  exact q_statV [vA 0 (a0 + 14) 12, vI (-1)] 52 rfl (show sCode 5 49 = some (.invokestatic 70, 3) by decide +kernel) (show sMR (sKo 5).1 70 = some 6 by decide +kernel) (show 6 < 1000 ∧ sStat 6 = true ∧ sKo 6 = (14, 2, 0, 0, 0) by decide +kernel) rfl rfl (Nat.le_of_ble_eq_true rfl) rfl rfl rfl (by decide +kernel) kk
theorem b5_52 {d : Nat} {P : sM → sG → Prop} {M : sM} {G : sG}   (kk : P M G) : sW (sC d) 5 (QV P) 52 [vN] [] M G 0 0 := by
  exact q_vret (show sCode 5 52 = some (.return_, 1) by decide +kernel) (by decide +kernel) (by decide +kernel) kk
-- 6 java/util/Arrays.fill ([II)V
theorem b6_0 {d : Nat} {Q : Option sV → sM → sG → Prop} {M : sM} {G : sG} {a0 : Nat} {a0n : Int} {x1 : Int} (h1 : a0n ≤ 2147483647) (kk : sW (sC d) 6 Q 5 [vA 0 a0 a0n, vI x1, vI 0, vI a0n] [] M G 0 0) : sW (sC d) 6 Q 0 [vA 0 a0 a0n, vI x1, vN, vN] [] M G 0 0 := by
  refine q_iconst 1 rfl (show sCode 6 0 = some (.iconst 0, 1) by decide +kernel) ⟨by decide, by decide⟩ ?_
  refine q_istore_n [vA 0 a0 a0n, vI x1, vI 0, vN] 2 rfl (show sCode 6 1 = some (.istore_n 2, 1) by decide +kernel) (Nat.lt_of_lt_of_le (Nat.lt_succ_self _) (Nat.le_of_ble_eq_true rfl)) rfl rfl ?_
  refine q_aload_n 3 rfl (show sCode 6 2 = some (.aload_n 0, 1) by decide +kernel) rfl (Nat.le_of_ble_eq_true rfl) ?_
  refine q_alen 4 rfl (show sCode 6 3 = some (.arraylength, 1) by decide +kernel) (by decide) h1 ?_
  refine q_istore_n [vA 0 a0 a0n, vI x1, vI 0, vI a0n] 5 rfl (show sCode 6 4 = some (.istore_n 3, 1) by decide +kernel) (Nat.lt_of_lt_of_le (Nat.lt_succ_self _) (Nat.le_of_ble_eq_true rfl)) rfl rfl ?_
  exact kk
theorem b6_5 {d : Nat} {Q : Option sV → sM → sG → Prop} {M : sM} {G : sG} {a0 : Nat} {a0n : Int} {x1 : Int} {x2 : Int} {x3 : Int}  (k1 : x3 ≤ x2 → sW (sC d) 6 Q 20 [vN, vN, vN, vN] [] M G 0 0) (k2 : x2 < x3 → sW (sC d) 6 Q 10 [vA 0 a0 a0n, vI x1, vI x2, vI x3] [] M G 0 0) : sW (sC d) 6 Q 5 [vA 0 a0 a0n, vI x1, vI x2, vI x3] [] M G 0 0 := by
  refine q_iload_n 6 rfl (show sCode 6 5 = some (.iload_n 2, 1) by decide +kernel) rfl ?_
  refine q_iload_n 7 rfl (show sCode 6 6 = some (.iload_n 3, 1) by decide +kernel) rfl ?_
  refine q_icmpge 20 10 rfl (by decide) (show sCode 6 7 = some (.if_icmp .ge 13, 3) by decide +kernel) ?_ ?_
  · intro q; refine q_forget (L' := [vN, vI x1, vI x2, vI x3]) 0 rfl ?_; refine q_forget (L' := [vN, vN, vI x2, vI x3]) 1 rfl ?_; refine q_forget (L' := [vN, vN, vN, vI x3]) 2 rfl ?_; refine q_forget (L' := [vN, vN, vN, vN]) 3 rfl ?_; exact k1 q
  · intro q; exact k2 q
theorem b6_10 {d : Nat} {Q : Option sV → sM → sG → Prop} {M : sM} {G : sG} {a0 : Nat} {a0n : Int} {x1 : Int} {x2 : Int} {x3 : Int} (h1 : 0 ≤ x2 ∧ x2 < a0n) (h2 : sI (x2 + 1)) (kk : sW (sC d) 6 Q 5 [vA 0 a0 a0n, vI x1, vI (x2 + 1), vI x3] [] (sUpd M a0 x2.toNat x1) G 0 0) : sW (sC d) 6 Q 10 [vA 0 a0 a0n, vI x1, vI x2, vI x3] [] M G 0 0 := by
  refine q_aload_n 11 rfl (show sCode 6 10 = some (.aload_n 0, 1) by decide +kernel) rfl (Nat.le_of_ble_eq_true rfl) ?_
  refine q_iload_n 12 rfl (show sCode 6 11 = some (.iload_n 2, 1) by decide +kernel) rfl ?_
  refine q_iload_n 13 rfl (show sCode 6 12 = some (.iload_n 1, 1) by decide +kernel) rfl ?_
  refine q_iast 14 rfl (show sCode 6 13 = some (.iastore, 1) by decide +kernel) h1 ?_
  refine q_iinc [vA 0 a0 a0n, vI x1, vI (x2 + 1), vI x3] 17 rfl (show sCode 6 14 = some (.iinc 2 1, 3) by decide +kernel) rfl rfl h2 rfl ?_
  refine q_goto 5 (by decide) (show sCode 6 17 = some (.goto (-12), 3) by decide +kernel) ?_
  exact kk
theorem b6_20 {d : Nat} {P : sM → sG → Prop} {M : sM} {G : sG}   (kk : P M G) : sW (sC d) 6 (QV P) 20 [vN, vN, vN, vN] [] M G 0 0 := by
  exact q_vret (show sCode 6 20 = some (.return_, 1) by decide +kernel) (by decide +kernel) (by decide +kernel) kk
-- 31 AfterTheLast$Town.addHouse (III)V
theorem b31_0 {d : Nat} {Q : Option sV → sM → sG → Prop} {M : sM} {G : sG} {a0 : Nat} {x1 : Int} {x2 : Int} {x3 : Int}  (k1 : 6 ≤ M a0 0 → sW (sC d) 31 Q 49 [vN, vN, vN, vN] [] M G 0 0) (k2 : M a0 0 < 6 → sW (sC d) 31 Q 9 [vO 10 a0, vI x1, vI x2, vI x3] [] M G 0 0) : sW (sC d) 31 Q 0 [vO 10 a0, vI x1, vI x2, vI x3] [] M G 0 0 := by
  refine q_aload_n 1 rfl (show sCode 31 0 = some (.aload_n 0, 1) by decide +kernel) rfl (Nat.le_of_ble_eq_true rfl) ?_
  refine q_getI 4 rfl (show sCode 31 1 = some (.getfield 9, 3) by decide +kernel) (show sFR (sKo 31).1 9 = some (10, 0) by decide +kernel) (by decide +kernel) (Or.inl (Or.inl rfl)) ?_
  refine q_bipush 6 rfl (show sCode 31 4 = some (.bipush 6, 2) by decide +kernel) ⟨by decide, by decide⟩ (by decide +kernel) ?_
  refine q_icmpge 49 9 rfl (by decide) (show sCode 31 6 = some (.if_icmp .ge 43, 3) by decide +kernel) ?_ ?_
  · intro q; refine q_forget (L' := [vN, vI x1, vI x2, vI x3]) 0 rfl ?_; refine q_forget (L' := [vN, vN, vI x2, vI x3]) 1 rfl ?_; refine q_forget (L' := [vN, vN, vN, vI x3]) 2 rfl ?_; refine q_forget (L' := [vN, vN, vN, vN]) 3 rfl ?_; exact k1 q
  · intro q; exact k2 q
theorem b31_9 {d : Nat} {Q : Option sV → sM → sG → Prop} {M : sM} {G : sG} {a0 : Nat} {x1 : Int} {x2 : Int} {x3 : Int} (h1 : 0 ≤ M a0 0 ∧ M a0 0 < 6) (h2 : 0 ≤ (sUpd M (a0 + 1) (M a0 0).toNat x1) a0 0 ∧ (sUpd M (a0 + 1) (M a0 0).toNat x1) a0 0 < 6) (h3 : 0 ≤ (sUpd (sUpd M (a0 + 1) (M a0 0).toNat x1) (a0 + 2) ((sUpd M (a0 + 1) (M a0 0).toNat x1) a0 0).toNat x2) a0 0 ∧ (sUpd (sUpd M (a0 + 1) (M a0 0).toNat x1) (a0 + 2) ((sUpd M (a0 + 1) (M a0 0).toNat x1) a0 0).toNat x2) a0 0 < 6) (h4 : sI (((sUpd (sUpd (sUpd M (a0 + 1) (M a0 0).toNat x1) (a0 + 2) ((sUpd M (a0 + 1) (M a0 0).toNat x1) a0 0).toNat x2) (a0 + 3) ((sUpd (sUpd M (a0 + 1) (M a0 0).toNat x1) (a0 + 2) ((sUpd M (a0 + 1) (M a0 0).toNat x1) a0 0).toNat x2) a0 0).toNat x3) a0 0) + 1)) (kk : sW (sC d) 31 Q 49 [vN, vN, vN, vN] [] (sUpd (sUpd (sUpd (sUpd M (a0 + 1) (M a0 0).toNat x1) (a0 + 2) ((sUpd M (a0 + 1) (M a0 0).toNat x1) a0 0).toNat x2) (a0 + 3) ((sUpd (sUpd M (a0 + 1) (M a0 0).toNat x1) (a0 + 2) ((sUpd M (a0 + 1) (M a0 0).toNat x1) a0 0).toNat x2) a0 0).toNat x3) a0 0 (((sUpd (sUpd (sUpd M (a0 + 1) (M a0 0).toNat x1) (a0 + 2) ((sUpd M (a0 + 1) (M a0 0).toNat x1) a0 0).toNat x2) (a0 + 3) ((sUpd (sUpd M (a0 + 1) (M a0 0).toNat x1) (a0 + 2) ((sUpd M (a0 + 1) (M a0 0).toNat x1) a0 0).toNat x2) a0 0).toNat x3) a0 0) + 1)) G 0 0) : sW (sC d) 31 Q 9 [vO 10 a0, vI x1, vI x2, vI x3] [] M G 0 0 := by
  refine q_aload_n 10 rfl (show sCode 31 9 = some (.aload_n 0, 1) by decide +kernel) rfl (Nat.le_of_ble_eq_true rfl) ?_
  refine q_getR (vA 0 (a0 + 1) 6) 13 rfl (show sCode 31 10 = some (.getfield 15, 3) by decide +kernel) (show sFR (sKo 31).1 15 = some (10, 1) by decide +kernel) (by decide +kernel) (Or.inl (Or.inl rfl)) rfl ?_
  refine q_aload_n 14 rfl (show sCode 31 13 = some (.aload_n 0, 1) by decide +kernel) rfl (Nat.le_of_ble_eq_true rfl) ?_
  refine q_getI 17 rfl (show sCode 31 14 = some (.getfield 9, 3) by decide +kernel) (show sFR (sKo 31).1 9 = some (10, 0) by decide +kernel) (by decide +kernel) (Or.inl (Or.inl rfl)) ?_
  refine q_iload_n 18 rfl (show sCode 31 17 = some (.iload_n 1, 1) by decide +kernel) rfl ?_
  refine q_iast 19 rfl (show sCode 31 18 = some (.iastore, 1) by decide +kernel) h1 ?_
  refine q_aload_n 20 rfl (show sCode 31 19 = some (.aload_n 0, 1) by decide +kernel) rfl (Nat.le_of_ble_eq_true rfl) ?_
  refine q_getR (vA 0 (a0 + 2) 6) 23 rfl (show sCode 31 20 = some (.getfield 19, 3) by decide +kernel) (show sFR (sKo 31).1 19 = some (10, 2) by decide +kernel) (by decide +kernel) (Or.inl (Or.inl rfl)) rfl ?_
  refine q_aload_n 24 rfl (show sCode 31 23 = some (.aload_n 0, 1) by decide +kernel) rfl (Nat.le_of_ble_eq_true rfl) ?_
  refine q_getI 27 rfl (show sCode 31 24 = some (.getfield 9, 3) by decide +kernel) (show sFR (sKo 31).1 9 = some (10, 0) by decide +kernel) (by decide +kernel) (Or.inl (Or.inl rfl)) ?_
  refine q_iload_n 28 rfl (show sCode 31 27 = some (.iload_n 2, 1) by decide +kernel) rfl ?_
  refine q_iast 29 rfl (show sCode 31 28 = some (.iastore, 1) by decide +kernel) h2 ?_
  refine q_aload_n 30 rfl (show sCode 31 29 = some (.aload_n 0, 1) by decide +kernel) rfl (Nat.le_of_ble_eq_true rfl) ?_
  refine q_getR (vA 0 (a0 + 3) 6) 33 rfl (show sCode 31 30 = some (.getfield 22, 3) by decide +kernel) (show sFR (sKo 31).1 22 = some (10, 3) by decide +kernel) (by decide +kernel) (Or.inl (Or.inl rfl)) rfl ?_
  refine q_aload_n 34 rfl (show sCode 31 33 = some (.aload_n 0, 1) by decide +kernel) rfl (Nat.le_of_ble_eq_true rfl) ?_
  refine q_getI 37 rfl (show sCode 31 34 = some (.getfield 9, 3) by decide +kernel) (show sFR (sKo 31).1 9 = some (10, 0) by decide +kernel) (by decide +kernel) (Or.inl (Or.inl rfl)) ?_
  refine q_iload_n 38 rfl (show sCode 31 37 = some (.iload_n 3, 1) by decide +kernel) rfl ?_
  refine q_iast 39 rfl (show sCode 31 38 = some (.iastore, 1) by decide +kernel) h3 ?_
  refine q_aload_n 40 rfl (show sCode 31 39 = some (.aload_n 0, 1) by decide +kernel) rfl (Nat.le_of_ble_eq_true rfl) ?_
  refine q_dup 41 rfl (show sCode 31 40 = some (.dup, 1) by decide +kernel) rfl ?_
  refine q_getI 44 rfl (show sCode 31 41 = some (.getfield 9, 3) by decide +kernel) (show sFR (sKo 31).1 9 = some (10, 0) by decide +kernel) (by decide +kernel) (Or.inl (Or.inl rfl)) ?_
  refine q_iconst 45 rfl (show sCode 31 44 = some (.iconst 1, 1) by decide +kernel) ⟨by decide, by decide⟩ ?_
  refine q_iadd 46 rfl (show sCode 31 45 = some (.iadd, 1) by decide +kernel) h4 ?_
  refine q_putI 49 rfl (show sCode 31 46 = some (.putfield 9, 3) by decide +kernel) (show sFR (sKo 31).1 9 = some (10, 0) by decide +kernel) (by decide +kernel) (Or.inl ⟨Or.inl rfl, by decide +kernel⟩) ?_
  refine q_forget (L' := [vN, vI x1, vI x2, vI x3]) 0 rfl ?_
  refine q_forget (L' := [vN, vN, vI x2, vI x3]) 1 rfl ?_
  refine q_forget (L' := [vN, vN, vN, vI x3]) 2 rfl ?_
  refine q_forget (L' := [vN, vN, vN, vN]) 3 rfl ?_
  exact kk
theorem b31_49 {d : Nat} {P : sM → sG → Prop} {M : sM} {G : sG}   (kk : P M G) : sW (sC d) 31 (QV P) 49 [vN, vN, vN, vN] [] M G 0 0 := by
  exact q_vret (show sCode 31 49 = some (.return_, 1) by decide +kernel) (by decide +kernel) (by decide +kernel) kk
-- 33 AfterTheLast$Town.addStay (IIIII)V
theorem b33_0 {d : Nat} {Q : Option sV → sM → sG → Prop} {M : sM} {G : sG} {a0 : Nat} {x1 : Int} {x2 : Int} {x3 : Int} {x4 : Int} {x5 : Int}  (k1 : 18 ≤ M a0 6 → sW (sC d) 33 Q 81 [vN, vN, vN, vN, vN, vN] [] M G 0 0) (k2 : M a0 6 < 18 → sW (sC d) 33 Q 9 [vO 10 a0, vI x1, vI x2, vI x3, vI x4, vI x5] [] M G 0 0) : sW (sC d) 33 Q 0 [vO 10 a0, vI x1, vI x2, vI x3, vI x4, vI x5] [] M G 0 0 := by
  refine q_aload_n 1 rfl (show sCode 33 0 = some (.aload_n 0, 1) by decide +kernel) rfl (Nat.le_of_ble_eq_true rfl) ?_
  refine q_getI 4 rfl (show sCode 33 1 = some (.getfield 31, 3) by decide +kernel) (show sFR (sKo 33).1 31 = some (10, 6) by decide +kernel) (by decide +kernel) (Or.inl (Or.inl rfl)) ?_
  refine q_bipush 6 rfl (show sCode 33 4 = some (.bipush 18, 2) by decide +kernel) ⟨by decide, by decide⟩ (by decide +kernel) ?_
  refine q_icmpge 81 9 rfl (by decide) (show sCode 33 6 = some (.if_icmp .ge 75, 3) by decide +kernel) ?_ ?_
  · intro q; refine q_forget (L' := [vN, vI x1, vI x2, vI x3, vI x4, vI x5]) 0 rfl ?_; refine q_forget (L' := [vN, vN, vI x2, vI x3, vI x4, vI x5]) 1 rfl ?_; refine q_forget (L' := [vN, vN, vN, vI x3, vI x4, vI x5]) 2 rfl ?_; refine q_forget (L' := [vN, vN, vN, vN, vI x4, vI x5]) 3 rfl ?_; refine q_forget (L' := [vN, vN, vN, vN, vN, vI x5]) 4 rfl ?_; refine q_forget (L' := [vN, vN, vN, vN, vN, vN]) 5 rfl ?_; exact k1 q
  · intro q; exact k2 q
theorem b33_9 {d : Nat} {Q : Option sV → sM → sG → Prop} {M : sM} {G : sG} {a0 : Nat} {x1 : Int} {x2 : Int} {x3 : Int} {x4 : Int} {x5 : Int} (h1 : 0 ≤ M a0 6 ∧ M a0 6 < 18) (h2 : 0 ≤ (sUpd M (a0 + 6) (M a0 6).toNat x1) a0 6 ∧ (sUpd M (a0 + 6) (M a0 6).toNat x1) a0 6 < 18) (h3 : 0 ≤ (sUpd (sUpd M (a0 + 6) (M a0 6).toNat x1) (a0 + 7) ((sUpd M (a0 + 6) (M a0 6).toNat x1) a0 6).toNat x2) a0 6 ∧ (sUpd (sUpd M (a0 + 6) (M a0 6).toNat x1) (a0 + 7) ((sUpd M (a0 + 6) (M a0 6).toNat x1) a0 6).toNat x2) a0 6 < 18) (h4 : 0 ≤ (sUpd (sUpd (sUpd M (a0 + 6) (M a0 6).toNat x1) (a0 + 7) ((sUpd M (a0 + 6) (M a0 6).toNat x1) a0 6).toNat x2) (a0 + 8) ((sUpd (sUpd M (a0 + 6) (M a0 6).toNat x1) (a0 + 7) ((sUpd M (a0 + 6) (M a0 6).toNat x1) a0 6).toNat x2) a0 6).toNat x3) a0 6 ∧ (sUpd (sUpd (sUpd M (a0 + 6) (M a0 6).toNat x1) (a0 + 7) ((sUpd M (a0 + 6) (M a0 6).toNat x1) a0 6).toNat x2) (a0 + 8) ((sUpd (sUpd M (a0 + 6) (M a0 6).toNat x1) (a0 + 7) ((sUpd M (a0 + 6) (M a0 6).toNat x1) a0 6).toNat x2) a0 6).toNat x3) a0 6 < 18) (h5 : 0 ≤ (sUpd (sUpd (sUpd (sUpd M (a0 + 6) (M a0 6).toNat x1) (a0 + 7) ((sUpd M (a0 + 6) (M a0 6).toNat x1) a0 6).toNat x2) (a0 + 8) ((sUpd (sUpd M (a0 + 6) (M a0 6).toNat x1) (a0 + 7) ((sUpd M (a0 + 6) (M a0 6).toNat x1) a0 6).toNat x2) a0 6).toNat x3) (a0 + 9) ((sUpd (sUpd (sUpd M (a0 + 6) (M a0 6).toNat x1) (a0 + 7) ((sUpd M (a0 + 6) (M a0 6).toNat x1) a0 6).toNat x2) (a0 + 8) ((sUpd (sUpd M (a0 + 6) (M a0 6).toNat x1) (a0 + 7) ((sUpd M (a0 + 6) (M a0 6).toNat x1) a0 6).toNat x2) a0 6).toNat x3) a0 6).toNat x4) a0 6 ∧ (sUpd (sUpd (sUpd (sUpd M (a0 + 6) (M a0 6).toNat x1) (a0 + 7) ((sUpd M (a0 + 6) (M a0 6).toNat x1) a0 6).toNat x2) (a0 + 8) ((sUpd (sUpd M (a0 + 6) (M a0 6).toNat x1) (a0 + 7) ((sUpd M (a0 + 6) (M a0 6).toNat x1) a0 6).toNat x2) a0 6).toNat x3) (a0 + 9) ((sUpd (sUpd (sUpd M (a0 + 6) (M a0 6).toNat x1) (a0 + 7) ((sUpd M (a0 + 6) (M a0 6).toNat x1) a0 6).toNat x2) (a0 + 8) ((sUpd (sUpd M (a0 + 6) (M a0 6).toNat x1) (a0 + 7) ((sUpd M (a0 + 6) (M a0 6).toNat x1) a0 6).toNat x2) a0 6).toNat x3) a0 6).toNat x4) a0 6 < 18) (h6 : 0 ≤ (sUpd (sUpd (sUpd (sUpd (sUpd M (a0 + 6) (M a0 6).toNat x1) (a0 + 7) ((sUpd M (a0 + 6) (M a0 6).toNat x1) a0 6).toNat x2) (a0 + 8) ((sUpd (sUpd M (a0 + 6) (M a0 6).toNat x1) (a0 + 7) ((sUpd M (a0 + 6) (M a0 6).toNat x1) a0 6).toNat x2) a0 6).toNat x3) (a0 + 9) ((sUpd (sUpd (sUpd M (a0 + 6) (M a0 6).toNat x1) (a0 + 7) ((sUpd M (a0 + 6) (M a0 6).toNat x1) a0 6).toNat x2) (a0 + 8) ((sUpd (sUpd M (a0 + 6) (M a0 6).toNat x1) (a0 + 7) ((sUpd M (a0 + 6) (M a0 6).toNat x1) a0 6).toNat x2) a0 6).toNat x3) a0 6).toNat x4) (a0 + 10) ((sUpd (sUpd (sUpd (sUpd M (a0 + 6) (M a0 6).toNat x1) (a0 + 7) ((sUpd M (a0 + 6) (M a0 6).toNat x1) a0 6).toNat x2) (a0 + 8) ((sUpd (sUpd M (a0 + 6) (M a0 6).toNat x1) (a0 + 7) ((sUpd M (a0 + 6) (M a0 6).toNat x1) a0 6).toNat x2) a0 6).toNat x3) (a0 + 9) ((sUpd (sUpd (sUpd M (a0 + 6) (M a0 6).toNat x1) (a0 + 7) ((sUpd M (a0 + 6) (M a0 6).toNat x1) a0 6).toNat x2) (a0 + 8) ((sUpd (sUpd M (a0 + 6) (M a0 6).toNat x1) (a0 + 7) ((sUpd M (a0 + 6) (M a0 6).toNat x1) a0 6).toNat x2) a0 6).toNat x3) a0 6).toNat x4) a0 6).toNat x5) a0 6 ∧ (sUpd (sUpd (sUpd (sUpd (sUpd M (a0 + 6) (M a0 6).toNat x1) (a0 + 7) ((sUpd M (a0 + 6) (M a0 6).toNat x1) a0 6).toNat x2) (a0 + 8) ((sUpd (sUpd M (a0 + 6) (M a0 6).toNat x1) (a0 + 7) ((sUpd M (a0 + 6) (M a0 6).toNat x1) a0 6).toNat x2) a0 6).toNat x3) (a0 + 9) ((sUpd (sUpd (sUpd M (a0 + 6) (M a0 6).toNat x1) (a0 + 7) ((sUpd M (a0 + 6) (M a0 6).toNat x1) a0 6).toNat x2) (a0 + 8) ((sUpd (sUpd M (a0 + 6) (M a0 6).toNat x1) (a0 + 7) ((sUpd M (a0 + 6) (M a0 6).toNat x1) a0 6).toNat x2) a0 6).toNat x3) a0 6).toNat x4) (a0 + 10) ((sUpd (sUpd (sUpd (sUpd M (a0 + 6) (M a0 6).toNat x1) (a0 + 7) ((sUpd M (a0 + 6) (M a0 6).toNat x1) a0 6).toNat x2) (a0 + 8) ((sUpd (sUpd M (a0 + 6) (M a0 6).toNat x1) (a0 + 7) ((sUpd M (a0 + 6) (M a0 6).toNat x1) a0 6).toNat x2) a0 6).toNat x3) (a0 + 9) ((sUpd (sUpd (sUpd M (a0 + 6) (M a0 6).toNat x1) (a0 + 7) ((sUpd M (a0 + 6) (M a0 6).toNat x1) a0 6).toNat x2) (a0 + 8) ((sUpd (sUpd M (a0 + 6) (M a0 6).toNat x1) (a0 + 7) ((sUpd M (a0 + 6) (M a0 6).toNat x1) a0 6).toNat x2) a0 6).toNat x3) a0 6).toNat x4) a0 6).toNat x5) a0 6 < 18) (h7 : sI (((sUpd (sUpd (sUpd (sUpd (sUpd (sUpd M (a0 + 6) (M a0 6).toNat x1) (a0 + 7) ((sUpd M (a0 + 6) (M a0 6).toNat x1) a0 6).toNat x2) (a0 + 8) ((sUpd (sUpd M (a0 + 6) (M a0 6).toNat x1) (a0 + 7) ((sUpd M (a0 + 6) (M a0 6).toNat x1) a0 6).toNat x2) a0 6).toNat x3) (a0 + 9) ((sUpd (sUpd (sUpd M (a0 + 6) (M a0 6).toNat x1) (a0 + 7) ((sUpd M (a0 + 6) (M a0 6).toNat x1) a0 6).toNat x2) (a0 + 8) ((sUpd (sUpd M (a0 + 6) (M a0 6).toNat x1) (a0 + 7) ((sUpd M (a0 + 6) (M a0 6).toNat x1) a0 6).toNat x2) a0 6).toNat x3) a0 6).toNat x4) (a0 + 10) ((sUpd (sUpd (sUpd (sUpd M (a0 + 6) (M a0 6).toNat x1) (a0 + 7) ((sUpd M (a0 + 6) (M a0 6).toNat x1) a0 6).toNat x2) (a0 + 8) ((sUpd (sUpd M (a0 + 6) (M a0 6).toNat x1) (a0 + 7) ((sUpd M (a0 + 6) (M a0 6).toNat x1) a0 6).toNat x2) a0 6).toNat x3) (a0 + 9) ((sUpd (sUpd (sUpd M (a0 + 6) (M a0 6).toNat x1) (a0 + 7) ((sUpd M (a0 + 6) (M a0 6).toNat x1) a0 6).toNat x2) (a0 + 8) ((sUpd (sUpd M (a0 + 6) (M a0 6).toNat x1) (a0 + 7) ((sUpd M (a0 + 6) (M a0 6).toNat x1) a0 6).toNat x2) a0 6).toNat x3) a0 6).toNat x4) a0 6).toNat x5) (a0 + 11) ((sUpd (sUpd (sUpd (sUpd (sUpd M (a0 + 6) (M a0 6).toNat x1) (a0 + 7) ((sUpd M (a0 + 6) (M a0 6).toNat x1) a0 6).toNat x2) (a0 + 8) ((sUpd (sUpd M (a0 + 6) (M a0 6).toNat x1) (a0 + 7) ((sUpd M (a0 + 6) (M a0 6).toNat x1) a0 6).toNat x2) a0 6).toNat x3) (a0 + 9) ((sUpd (sUpd (sUpd M (a0 + 6) (M a0 6).toNat x1) (a0 + 7) ((sUpd M (a0 + 6) (M a0 6).toNat x1) a0 6).toNat x2) (a0 + 8) ((sUpd (sUpd M (a0 + 6) (M a0 6).toNat x1) (a0 + 7) ((sUpd M (a0 + 6) (M a0 6).toNat x1) a0 6).toNat x2) a0 6).toNat x3) a0 6).toNat x4) (a0 + 10) ((sUpd (sUpd (sUpd (sUpd M (a0 + 6) (M a0 6).toNat x1) (a0 + 7) ((sUpd M (a0 + 6) (M a0 6).toNat x1) a0 6).toNat x2) (a0 + 8) ((sUpd (sUpd M (a0 + 6) (M a0 6).toNat x1) (a0 + 7) ((sUpd M (a0 + 6) (M a0 6).toNat x1) a0 6).toNat x2) a0 6).toNat x3) (a0 + 9) ((sUpd (sUpd (sUpd M (a0 + 6) (M a0 6).toNat x1) (a0 + 7) ((sUpd M (a0 + 6) (M a0 6).toNat x1) a0 6).toNat x2) (a0 + 8) ((sUpd (sUpd M (a0 + 6) (M a0 6).toNat x1) (a0 + 7) ((sUpd M (a0 + 6) (M a0 6).toNat x1) a0 6).toNat x2) a0 6).toNat x3) a0 6).toNat x4) a0 6).toNat x5) a0 6).toNat 0) a0 6) + 1)) (kk : sW (sC d) 33 Q 81 [vN, vN, vN, vN, vN, vN] [] (sUpd (sUpd (sUpd (sUpd (sUpd (sUpd (sUpd M (a0 + 6) (M a0 6).toNat x1) (a0 + 7) ((sUpd M (a0 + 6) (M a0 6).toNat x1) a0 6).toNat x2) (a0 + 8) ((sUpd (sUpd M (a0 + 6) (M a0 6).toNat x1) (a0 + 7) ((sUpd M (a0 + 6) (M a0 6).toNat x1) a0 6).toNat x2) a0 6).toNat x3) (a0 + 9) ((sUpd (sUpd (sUpd M (a0 + 6) (M a0 6).toNat x1) (a0 + 7) ((sUpd M (a0 + 6) (M a0 6).toNat x1) a0 6).toNat x2) (a0 + 8) ((sUpd (sUpd M (a0 + 6) (M a0 6).toNat x1) (a0 + 7) ((sUpd M (a0 + 6) (M a0 6).toNat x1) a0 6).toNat x2) a0 6).toNat x3) a0 6).toNat x4) (a0 + 10) ((sUpd (sUpd (sUpd (sUpd M (a0 + 6) (M a0 6).toNat x1) (a0 + 7) ((sUpd M (a0 + 6) (M a0 6).toNat x1) a0 6).toNat x2) (a0 + 8) ((sUpd (sUpd M (a0 + 6) (M a0 6).toNat x1) (a0 + 7) ((sUpd M (a0 + 6) (M a0 6).toNat x1) a0 6).toNat x2) a0 6).toNat x3) (a0 + 9) ((sUpd (sUpd (sUpd M (a0 + 6) (M a0 6).toNat x1) (a0 + 7) ((sUpd M (a0 + 6) (M a0 6).toNat x1) a0 6).toNat x2) (a0 + 8) ((sUpd (sUpd M (a0 + 6) (M a0 6).toNat x1) (a0 + 7) ((sUpd M (a0 + 6) (M a0 6).toNat x1) a0 6).toNat x2) a0 6).toNat x3) a0 6).toNat x4) a0 6).toNat x5) (a0 + 11) ((sUpd (sUpd (sUpd (sUpd (sUpd M (a0 + 6) (M a0 6).toNat x1) (a0 + 7) ((sUpd M (a0 + 6) (M a0 6).toNat x1) a0 6).toNat x2) (a0 + 8) ((sUpd (sUpd M (a0 + 6) (M a0 6).toNat x1) (a0 + 7) ((sUpd M (a0 + 6) (M a0 6).toNat x1) a0 6).toNat x2) a0 6).toNat x3) (a0 + 9) ((sUpd (sUpd (sUpd M (a0 + 6) (M a0 6).toNat x1) (a0 + 7) ((sUpd M (a0 + 6) (M a0 6).toNat x1) a0 6).toNat x2) (a0 + 8) ((sUpd (sUpd M (a0 + 6) (M a0 6).toNat x1) (a0 + 7) ((sUpd M (a0 + 6) (M a0 6).toNat x1) a0 6).toNat x2) a0 6).toNat x3) a0 6).toNat x4) (a0 + 10) ((sUpd (sUpd (sUpd (sUpd M (a0 + 6) (M a0 6).toNat x1) (a0 + 7) ((sUpd M (a0 + 6) (M a0 6).toNat x1) a0 6).toNat x2) (a0 + 8) ((sUpd (sUpd M (a0 + 6) (M a0 6).toNat x1) (a0 + 7) ((sUpd M (a0 + 6) (M a0 6).toNat x1) a0 6).toNat x2) a0 6).toNat x3) (a0 + 9) ((sUpd (sUpd (sUpd M (a0 + 6) (M a0 6).toNat x1) (a0 + 7) ((sUpd M (a0 + 6) (M a0 6).toNat x1) a0 6).toNat x2) (a0 + 8) ((sUpd (sUpd M (a0 + 6) (M a0 6).toNat x1) (a0 + 7) ((sUpd M (a0 + 6) (M a0 6).toNat x1) a0 6).toNat x2) a0 6).toNat x3) a0 6).toNat x4) a0 6).toNat x5) a0 6).toNat 0) a0 6 (((sUpd (sUpd (sUpd (sUpd (sUpd (sUpd M (a0 + 6) (M a0 6).toNat x1) (a0 + 7) ((sUpd M (a0 + 6) (M a0 6).toNat x1) a0 6).toNat x2) (a0 + 8) ((sUpd (sUpd M (a0 + 6) (M a0 6).toNat x1) (a0 + 7) ((sUpd M (a0 + 6) (M a0 6).toNat x1) a0 6).toNat x2) a0 6).toNat x3) (a0 + 9) ((sUpd (sUpd (sUpd M (a0 + 6) (M a0 6).toNat x1) (a0 + 7) ((sUpd M (a0 + 6) (M a0 6).toNat x1) a0 6).toNat x2) (a0 + 8) ((sUpd (sUpd M (a0 + 6) (M a0 6).toNat x1) (a0 + 7) ((sUpd M (a0 + 6) (M a0 6).toNat x1) a0 6).toNat x2) a0 6).toNat x3) a0 6).toNat x4) (a0 + 10) ((sUpd (sUpd (sUpd (sUpd M (a0 + 6) (M a0 6).toNat x1) (a0 + 7) ((sUpd M (a0 + 6) (M a0 6).toNat x1) a0 6).toNat x2) (a0 + 8) ((sUpd (sUpd M (a0 + 6) (M a0 6).toNat x1) (a0 + 7) ((sUpd M (a0 + 6) (M a0 6).toNat x1) a0 6).toNat x2) a0 6).toNat x3) (a0 + 9) ((sUpd (sUpd (sUpd M (a0 + 6) (M a0 6).toNat x1) (a0 + 7) ((sUpd M (a0 + 6) (M a0 6).toNat x1) a0 6).toNat x2) (a0 + 8) ((sUpd (sUpd M (a0 + 6) (M a0 6).toNat x1) (a0 + 7) ((sUpd M (a0 + 6) (M a0 6).toNat x1) a0 6).toNat x2) a0 6).toNat x3) a0 6).toNat x4) a0 6).toNat x5) (a0 + 11) ((sUpd (sUpd (sUpd (sUpd (sUpd M (a0 + 6) (M a0 6).toNat x1) (a0 + 7) ((sUpd M (a0 + 6) (M a0 6).toNat x1) a0 6).toNat x2) (a0 + 8) ((sUpd (sUpd M (a0 + 6) (M a0 6).toNat x1) (a0 + 7) ((sUpd M (a0 + 6) (M a0 6).toNat x1) a0 6).toNat x2) a0 6).toNat x3) (a0 + 9) ((sUpd (sUpd (sUpd M (a0 + 6) (M a0 6).toNat x1) (a0 + 7) ((sUpd M (a0 + 6) (M a0 6).toNat x1) a0 6).toNat x2) (a0 + 8) ((sUpd (sUpd M (a0 + 6) (M a0 6).toNat x1) (a0 + 7) ((sUpd M (a0 + 6) (M a0 6).toNat x1) a0 6).toNat x2) a0 6).toNat x3) a0 6).toNat x4) (a0 + 10) ((sUpd (sUpd (sUpd (sUpd M (a0 + 6) (M a0 6).toNat x1) (a0 + 7) ((sUpd M (a0 + 6) (M a0 6).toNat x1) a0 6).toNat x2) (a0 + 8) ((sUpd (sUpd M (a0 + 6) (M a0 6).toNat x1) (a0 + 7) ((sUpd M (a0 + 6) (M a0 6).toNat x1) a0 6).toNat x2) a0 6).toNat x3) (a0 + 9) ((sUpd (sUpd (sUpd M (a0 + 6) (M a0 6).toNat x1) (a0 + 7) ((sUpd M (a0 + 6) (M a0 6).toNat x1) a0 6).toNat x2) (a0 + 8) ((sUpd (sUpd M (a0 + 6) (M a0 6).toNat x1) (a0 + 7) ((sUpd M (a0 + 6) (M a0 6).toNat x1) a0 6).toNat x2) a0 6).toNat x3) a0 6).toNat x4) a0 6).toNat x5) a0 6).toNat 0) a0 6) + 1)) G 0 0) : sW (sC d) 33 Q 9 [vO 10 a0, vI x1, vI x2, vI x3, vI x4, vI x5] [] M G 0 0 := by
  refine q_aload_n 10 rfl (show sCode 33 9 = some (.aload_n 0, 1) by decide +kernel) rfl (Nat.le_of_ble_eq_true rfl) ?_
  refine q_getR (vA 0 (a0 + 6) 18) 13 rfl (show sCode 33 10 = some (.getfield 34, 3) by decide +kernel) (show sFR (sKo 33).1 34 = some (10, 7) by decide +kernel) (by decide +kernel) (Or.inl (Or.inl rfl)) rfl ?_
  refine q_aload_n 14 rfl (show sCode 33 13 = some (.aload_n 0, 1) by decide +kernel) rfl (Nat.le_of_ble_eq_true rfl) ?_
  refine q_getI 17 rfl (show sCode 33 14 = some (.getfield 31, 3) by decide +kernel) (show sFR (sKo 33).1 31 = some (10, 6) by decide +kernel) (by decide +kernel) (Or.inl (Or.inl rfl)) ?_
  refine q_iload_n 18 rfl (show sCode 33 17 = some (.iload_n 1, 1) by decide +kernel) rfl ?_
  refine q_iast 19 rfl (show sCode 33 18 = some (.iastore, 1) by decide +kernel) h1 ?_
  refine q_aload_n 20 rfl (show sCode 33 19 = some (.aload_n 0, 1) by decide +kernel) rfl (Nat.le_of_ble_eq_true rfl) ?_
  refine q_getR (vA 0 (a0 + 7) 18) 23 rfl (show sCode 33 20 = some (.getfield 37, 3) by decide +kernel) (show sFR (sKo 33).1 37 = some (10, 8) by decide +kernel) (by decide +kernel) (Or.inl (Or.inl rfl)) rfl ?_
  refine q_aload_n 24 rfl (show sCode 33 23 = some (.aload_n 0, 1) by decide +kernel) rfl (Nat.le_of_ble_eq_true rfl) ?_
  refine q_getI 27 rfl (show sCode 33 24 = some (.getfield 31, 3) by decide +kernel) (show sFR (sKo 33).1 31 = some (10, 6) by decide +kernel) (by decide +kernel) (Or.inl (Or.inl rfl)) ?_
  refine q_iload_n 28 rfl (show sCode 33 27 = some (.iload_n 2, 1) by decide +kernel) rfl ?_
  refine q_iast 29 rfl (show sCode 33 28 = some (.iastore, 1) by decide +kernel) h2 ?_
  refine q_aload_n 30 rfl (show sCode 33 29 = some (.aload_n 0, 1) by decide +kernel) rfl (Nat.le_of_ble_eq_true rfl) ?_
  refine q_getR (vA 0 (a0 + 8) 18) 33 rfl (show sCode 33 30 = some (.getfield 40, 3) by decide +kernel) (show sFR (sKo 33).1 40 = some (10, 9) by decide +kernel) (by decide +kernel) (Or.inl (Or.inl rfl)) rfl ?_
  refine q_aload_n 34 rfl (show sCode 33 33 = some (.aload_n 0, 1) by decide +kernel) rfl (Nat.le_of_ble_eq_true rfl) ?_
  refine q_getI 37 rfl (show sCode 33 34 = some (.getfield 31, 3) by decide +kernel) (show sFR (sKo 33).1 31 = some (10, 6) by decide +kernel) (by decide +kernel) (Or.inl (Or.inl rfl)) ?_
  refine q_iload_n 38 rfl (show sCode 33 37 = some (.iload_n 3, 1) by decide +kernel) rfl ?_
  refine q_iast 39 rfl (show sCode 33 38 = some (.iastore, 1) by decide +kernel) h3 ?_
  refine q_aload_n 40 rfl (show sCode 33 39 = some (.aload_n 0, 1) by decide +kernel) rfl (Nat.le_of_ble_eq_true rfl) ?_
  refine q_getR (vA 0 (a0 + 9) 18) 43 rfl (show sCode 33 40 = some (.getfield 43, 3) by decide +kernel) (show sFR (sKo 33).1 43 = some (10, 10) by decide +kernel) (by decide +kernel) (Or.inl (Or.inl rfl)) rfl ?_
  refine q_aload_n 44 rfl (show sCode 33 43 = some (.aload_n 0, 1) by decide +kernel) rfl (Nat.le_of_ble_eq_true rfl) ?_
  refine q_getI 47 rfl (show sCode 33 44 = some (.getfield 31, 3) by decide +kernel) (show sFR (sKo 33).1 31 = some (10, 6) by decide +kernel) (by decide +kernel) (Or.inl (Or.inl rfl)) ?_
  refine q_iload 49 rfl (show sCode 33 47 = some (.iload 4, 2) by decide +kernel) rfl ?_
  refine q_iast 50 rfl (show sCode 33 49 = some (.iastore, 1) by decide +kernel) h4 ?_
  refine q_aload_n 51 rfl (show sCode 33 50 = some (.aload_n 0, 1) by decide +kernel) rfl (Nat.le_of_ble_eq_true rfl) ?_
  refine q_getR (vA 0 (a0 + 10) 18) 54 rfl (show sCode 33 51 = some (.getfield 46, 3) by decide +kernel) (show sFR (sKo 33).1 46 = some (10, 11) by decide +kernel) (by decide +kernel) (Or.inl (Or.inl rfl)) rfl ?_
  refine q_aload_n 55 rfl (show sCode 33 54 = some (.aload_n 0, 1) by decide +kernel) rfl (Nat.le_of_ble_eq_true rfl) ?_
  refine q_getI 58 rfl (show sCode 33 55 = some (.getfield 31, 3) by decide +kernel) (show sFR (sKo 33).1 31 = some (10, 6) by decide +kernel) (by decide +kernel) (Or.inl (Or.inl rfl)) ?_
  refine q_iload 60 rfl (show sCode 33 58 = some (.iload 5, 2) by decide +kernel) rfl ?_
  refine q_iast 61 rfl (show sCode 33 60 = some (.iastore, 1) by decide +kernel) h5 ?_
  refine q_aload_n 62 rfl (show sCode 33 61 = some (.aload_n 0, 1) by decide +kernel) rfl (Nat.le_of_ble_eq_true rfl) ?_
  refine q_getR (vA 0 (a0 + 11) 18) 65 rfl (show sCode 33 62 = some (.getfield 49, 3) by decide +kernel) (show sFR (sKo 33).1 49 = some (10, 12) by decide +kernel) (by decide +kernel) (Or.inl (Or.inl rfl)) rfl ?_
  refine q_aload_n 66 rfl (show sCode 33 65 = some (.aload_n 0, 1) by decide +kernel) rfl (Nat.le_of_ble_eq_true rfl) ?_
  refine q_getI 69 rfl (show sCode 33 66 = some (.getfield 31, 3) by decide +kernel) (show sFR (sKo 33).1 31 = some (10, 6) by decide +kernel) (by decide +kernel) (Or.inl (Or.inl rfl)) ?_
  refine q_iconst 70 rfl (show sCode 33 69 = some (.iconst 0, 1) by decide +kernel) ⟨by decide, by decide⟩ ?_
  refine q_iast 71 rfl (show sCode 33 70 = some (.iastore, 1) by decide +kernel) h6 ?_
  refine q_aload_n 72 rfl (show sCode 33 71 = some (.aload_n 0, 1) by decide +kernel) rfl (Nat.le_of_ble_eq_true rfl) ?_
  refine q_dup 73 rfl (show sCode 33 72 = some (.dup, 1) by decide +kernel) rfl ?_
  refine q_getI 76 rfl (show sCode 33 73 = some (.getfield 31, 3) by decide +kernel) (show sFR (sKo 33).1 31 = some (10, 6) by decide +kernel) (by decide +kernel) (Or.inl (Or.inl rfl)) ?_
  refine q_iconst 77 rfl (show sCode 33 76 = some (.iconst 1, 1) by decide +kernel) ⟨by decide, by decide⟩ ?_
  refine q_iadd 78 rfl (show sCode 33 77 = some (.iadd, 1) by decide +kernel) h7 ?_
  refine q_putI 81 rfl (show sCode 33 78 = some (.putfield 31, 3) by decide +kernel) (show sFR (sKo 33).1 31 = some (10, 6) by decide +kernel) (by decide +kernel) (Or.inl ⟨Or.inl rfl, by decide +kernel⟩) ?_
  refine q_forget (L' := [vN, vI x1, vI x2, vI x3, vI x4, vI x5]) 0 rfl ?_
  refine q_forget (L' := [vN, vN, vI x2, vI x3, vI x4, vI x5]) 1 rfl ?_
  refine q_forget (L' := [vN, vN, vN, vI x3, vI x4, vI x5]) 2 rfl ?_
  refine q_forget (L' := [vN, vN, vN, vN, vI x4, vI x5]) 3 rfl ?_
  refine q_forget (L' := [vN, vN, vN, vN, vN, vI x5]) 4 rfl ?_
  refine q_forget (L' := [vN, vN, vN, vN, vN, vN]) 5 rfl ?_
  exact kk
theorem b33_81 {d : Nat} {P : sM → sG → Prop} {M : sM} {G : sG}   (kk : P M G) : sW (sC d) 33 (QV P) 81 [vN, vN, vN, vN, vN, vN] [] M G 0 0 := by
  exact q_vret (show sCode 33 81 = some (.return_, 1) by decide +kernel) (by decide +kernel) (by decide +kernel) kk
-- 34 AfterTheLast$Town.copyFrom (LAfterTheLast$Town;)V
theorem b34_0 {d : Nat} {P : sM → sG → Prop} {M : sM} {G : sG} {a0 : Nat} {a1 : Nat}  (kk : P (sCpy (sCpy (sCpy (sCpy (sCpy (sCpy (sCpy (sCpy (sCpy (sCpy (sCpy (sCpy (sCpy (sCpy (sUpd (sUpd (sUpd (sUpd M a0 0 (M a1 0)) a0 6 ((sUpd M a0 0 (M a1 0)) a1 6)) a0 13 ((sUpd (sUpd M a0 0 (M a1 0)) a0 6 ((sUpd M a0 0 (M a1 0)) a1 6)) a1 13)) a0 14 ((sUpd (sUpd (sUpd M a0 0 (M a1 0)) a0 6 ((sUpd M a0 0 (M a1 0)) a1 6)) a0 13 ((sUpd (sUpd M a0 0 (M a1 0)) a0 6 ((sUpd M a0 0 (M a1 0)) a1 6)) a1 13)) a1 14)) (a1 + 1) 0 (a0 + 1) 0 6) (a1 + 2) 0 (a0 + 2) 0 6) (a1 + 3) 0 (a0 + 3) 0 6) (a1 + 4) 0 (a0 + 4) 0 6) (a1 + 5) 0 (a0 + 5) 0 72) (a1 + 6) 0 (a0 + 6) 0 18) (a1 + 7) 0 (a0 + 7) 0 18) (a1 + 8) 0 (a0 + 8) 0 18) (a1 + 9) 0 (a0 + 9) 0 18) (a1 + 10) 0 (a0 + 10) 0 18) (a1 + 11) 0 (a0 + 11) 0 18) (a1 + 12) 0 (a0 + 12) 0 12) (a1 + 13) 0 (a0 + 13) 0 12) (a1 + 14) 0 (a0 + 14) 0 12) G) : sW (sC d) 34 (QV P) 0 [vO 10 a0, vO 10 a1] [] M G 0 0 := by
  refine q_aload_n 1 rfl (show sCode 34 0 = some (.aload_n 0, 1) by decide +kernel) rfl (Nat.le_of_ble_eq_true rfl) ?_
  refine q_aload_n 2 rfl (show sCode 34 1 = some (.aload_n 1, 1) by decide +kernel) rfl (Nat.le_of_ble_eq_true rfl) ?_
  refine q_getI 5 rfl (show sCode 34 2 = some (.getfield 9, 3) by decide +kernel) (show sFR (sKo 34).1 9 = some (10, 0) by decide +kernel) (by decide +kernel) (Or.inl (Or.inl rfl)) ?_
  refine q_putI 8 rfl (show sCode 34 5 = some (.putfield 9, 3) by decide +kernel) (show sFR (sKo 34).1 9 = some (10, 0) by decide +kernel) (by decide +kernel) (Or.inl ⟨Or.inl rfl, by decide +kernel⟩) ?_
  refine q_aload_n 9 rfl (show sCode 34 8 = some (.aload_n 0, 1) by decide +kernel) rfl (Nat.le_of_ble_eq_true rfl) ?_
  refine q_aload_n 10 rfl (show sCode 34 9 = some (.aload_n 1, 1) by decide +kernel) rfl (Nat.le_of_ble_eq_true rfl) ?_
  refine q_getI 13 rfl (show sCode 34 10 = some (.getfield 31, 3) by decide +kernel) (show sFR (sKo 34).1 31 = some (10, 6) by decide +kernel) (by decide +kernel) (Or.inl (Or.inl rfl)) ?_
  refine q_putI 16 rfl (show sCode 34 13 = some (.putfield 31, 3) by decide +kernel) (show sFR (sKo 34).1 31 = some (10, 6) by decide +kernel) (by decide +kernel) (Or.inl ⟨Or.inl rfl, by decide +kernel⟩) ?_
  refine q_aload_n 17 rfl (show sCode 34 16 = some (.aload_n 0, 1) by decide +kernel) rfl (Nat.le_of_ble_eq_true rfl) ?_
  refine q_aload_n 18 rfl (show sCode 34 17 = some (.aload_n 1, 1) by decide +kernel) rfl (Nat.le_of_ble_eq_true rfl) ?_
  refine q_getI 21 rfl (show sCode 34 18 = some (.getfield 52, 3) by decide +kernel) (show sFR (sKo 34).1 52 = some (10, 13) by decide +kernel) (by decide +kernel) (Or.inl (Or.inl rfl)) ?_
  refine q_putI 24 rfl (show sCode 34 21 = some (.putfield 52, 3) by decide +kernel) (show sFR (sKo 34).1 52 = some (10, 13) by decide +kernel) (by decide +kernel) (Or.inl ⟨Or.inl rfl, by decide +kernel⟩) ?_
  refine q_aload_n 25 rfl (show sCode 34 24 = some (.aload_n 0, 1) by decide +kernel) rfl (Nat.le_of_ble_eq_true rfl) ?_
  refine q_aload_n 26 rfl (show sCode 34 25 = some (.aload_n 1, 1) by decide +kernel) rfl (Nat.le_of_ble_eq_true rfl) ?_
  refine q_getI 29 rfl (show sCode 34 26 = some (.getfield 55, 3) by decide +kernel) (show sFR (sKo 34).1 55 = some (10, 14) by decide +kernel) (by decide +kernel) (Or.inl (Or.inl rfl)) ?_
  refine q_putI 32 rfl (show sCode 34 29 = some (.putfield 55, 3) by decide +kernel) (show sFR (sKo 34).1 55 = some (10, 14) by decide +kernel) (by decide +kernel) (Or.inl ⟨Or.inl rfl, by decide +kernel⟩) ?_
  refine q_aload_n 33 rfl (show sCode 34 32 = some (.aload_n 1, 1) by decide +kernel) rfl (Nat.le_of_ble_eq_true rfl) ?_
  refine q_getR (vA 0 (a1 + 1) 6) 36 rfl (show sCode 34 33 = some (.getfield 15, 3) by decide +kernel) (show sFR (sKo 34).1 15 = some (10, 1) by decide +kernel) (by decide +kernel) (Or.inl (Or.inl rfl)) rfl ?_
  refine q_iconst 37 rfl (show sCode 34 36 = some (.iconst 0, 1) by decide +kernel) ⟨by decide, by decide⟩ ?_
  refine q_aload_n 38 rfl (show sCode 34 37 = some (.aload_n 0, 1) by decide +kernel) rfl (Nat.le_of_ble_eq_true rfl) ?_
  refine q_getR (vA 0 (a0 + 1) 6) 41 rfl (show sCode 34 38 = some (.getfield 15, 3) by decide +kernel) (show sFR (sKo 34).1 15 = some (10, 1) by decide +kernel) (by decide +kernel) (Or.inl (Or.inl rfl)) rfl ?_
  refine q_iconst 42 rfl (show sCode 34 41 = some (.iconst 0, 1) by decide +kernel) ⟨by decide, by decide⟩ ?_
  refine q_bipush 44 rfl (show sCode 34 42 = some (.bipush 6, 2) by decide +kernel) ⟨by decide, by decide⟩ (by decide +kernel) ?_
  refine q_copy 47 rfl (show sCode 34 44 = some (.invokestatic 76, 3) by decide +kernel) (by decide +kernel) (Nat.le_of_ble_eq_true rfl) (by decide) ?_
  refine q_aload_n 48 rfl (show sCode 34 47 = some (.aload_n 1, 1) by decide +kernel) rfl (Nat.le_of_ble_eq_true rfl) ?_
  refine q_getR (vA 0 (a1 + 2) 6) 51 rfl (show sCode 34 48 = some (.getfield 19, 3) by decide +kernel) (show sFR (sKo 34).1 19 = some (10, 2) by decide +kernel) (by decide +kernel) (Or.inl (Or.inl rfl)) rfl ?_
  refine q_iconst 52 rfl (show sCode 34 51 = some (.iconst 0, 1) by decide +kernel) ⟨by decide, by decide⟩ ?_
  refine q_aload_n 53 rfl (show sCode 34 52 = some (.aload_n 0, 1) by decide +kernel) rfl (Nat.le_of_ble_eq_true rfl) ?_
  refine q_getR (vA 0 (a0 + 2) 6) 56 rfl (show sCode 34 53 = some (.getfield 19, 3) by decide +kernel) (show sFR (sKo 34).1 19 = some (10, 2) by decide +kernel) (by decide +kernel) (Or.inl (Or.inl rfl)) rfl ?_
  refine q_iconst 57 rfl (show sCode 34 56 = some (.iconst 0, 1) by decide +kernel) ⟨by decide, by decide⟩ ?_
  refine q_bipush 59 rfl (show sCode 34 57 = some (.bipush 6, 2) by decide +kernel) ⟨by decide, by decide⟩ (by decide +kernel) ?_
  refine q_copy 62 rfl (show sCode 34 59 = some (.invokestatic 76, 3) by decide +kernel) (by decide +kernel) (Nat.le_of_ble_eq_true rfl) (by decide) ?_
  refine q_aload_n 63 rfl (show sCode 34 62 = some (.aload_n 1, 1) by decide +kernel) rfl (Nat.le_of_ble_eq_true rfl) ?_
  refine q_getR (vA 0 (a1 + 3) 6) 66 rfl (show sCode 34 63 = some (.getfield 22, 3) by decide +kernel) (show sFR (sKo 34).1 22 = some (10, 3) by decide +kernel) (by decide +kernel) (Or.inl (Or.inl rfl)) rfl ?_
  refine q_iconst 67 rfl (show sCode 34 66 = some (.iconst 0, 1) by decide +kernel) ⟨by decide, by decide⟩ ?_
  refine q_aload_n 68 rfl (show sCode 34 67 = some (.aload_n 0, 1) by decide +kernel) rfl (Nat.le_of_ble_eq_true rfl) ?_
  refine q_getR (vA 0 (a0 + 3) 6) 71 rfl (show sCode 34 68 = some (.getfield 22, 3) by decide +kernel) (show sFR (sKo 34).1 22 = some (10, 3) by decide +kernel) (by decide +kernel) (Or.inl (Or.inl rfl)) rfl ?_
  refine q_iconst 72 rfl (show sCode 34 71 = some (.iconst 0, 1) by decide +kernel) ⟨by decide, by decide⟩ ?_
  refine q_bipush 74 rfl (show sCode 34 72 = some (.bipush 6, 2) by decide +kernel) ⟨by decide, by decide⟩ (by decide +kernel) ?_
  refine q_copy 77 rfl (show sCode 34 74 = some (.invokestatic 76, 3) by decide +kernel) (by decide +kernel) (Nat.le_of_ble_eq_true rfl) (by decide) ?_
  refine q_aload_n 78 rfl (show sCode 34 77 = some (.aload_n 1, 1) by decide +kernel) rfl (Nat.le_of_ble_eq_true rfl) ?_
  refine q_getR (vA 0 (a1 + 4) 6) 81 rfl (show sCode 34 78 = some (.getfield 25, 3) by decide +kernel) (show sFR (sKo 34).1 25 = some (10, 4) by decide +kernel) (by decide +kernel) (Or.inl (Or.inl rfl)) rfl ?_
  refine q_iconst 82 rfl (show sCode 34 81 = some (.iconst 0, 1) by decide +kernel) ⟨by decide, by decide⟩ ?_
  refine q_aload_n 83 rfl (show sCode 34 82 = some (.aload_n 0, 1) by decide +kernel) rfl (Nat.le_of_ble_eq_true rfl) ?_
  refine q_getR (vA 0 (a0 + 4) 6) 86 rfl (show sCode 34 83 = some (.getfield 25, 3) by decide +kernel) (show sFR (sKo 34).1 25 = some (10, 4) by decide +kernel) (by decide +kernel) (Or.inl (Or.inl rfl)) rfl ?_
  refine q_iconst 87 rfl (show sCode 34 86 = some (.iconst 0, 1) by decide +kernel) ⟨by decide, by decide⟩ ?_
  refine q_bipush 89 rfl (show sCode 34 87 = some (.bipush 6, 2) by decide +kernel) ⟨by decide, by decide⟩ (by decide +kernel) ?_
  refine q_copy 92 rfl (show sCode 34 89 = some (.invokestatic 76, 3) by decide +kernel) (by decide +kernel) (Nat.le_of_ble_eq_true rfl) (by decide) ?_
  refine q_aload_n 93 rfl (show sCode 34 92 = some (.aload_n 1, 1) by decide +kernel) rfl (Nat.le_of_ble_eq_true rfl) ?_
  refine q_getR (vA 0 (a1 + 5) 72) 96 rfl (show sCode 34 93 = some (.getfield 28, 3) by decide +kernel) (show sFR (sKo 34).1 28 = some (10, 5) by decide +kernel) (by decide +kernel) (Or.inl (Or.inl rfl)) rfl ?_
  refine q_iconst 97 rfl (show sCode 34 96 = some (.iconst 0, 1) by decide +kernel) ⟨by decide, by decide⟩ ?_
  refine q_aload_n 98 rfl (show sCode 34 97 = some (.aload_n 0, 1) by decide +kernel) rfl (Nat.le_of_ble_eq_true rfl) ?_
  refine q_getR (vA 0 (a0 + 5) 72) 101 rfl (show sCode 34 98 = some (.getfield 28, 3) by decide +kernel) (show sFR (sKo 34).1 28 = some (10, 5) by decide +kernel) (by decide +kernel) (Or.inl (Or.inl rfl)) rfl ?_
  refine q_iconst 102 rfl (show sCode 34 101 = some (.iconst 0, 1) by decide +kernel) ⟨by decide, by decide⟩ ?_
  refine q_bipush 104 rfl (show sCode 34 102 = some (.bipush 72, 2) by decide +kernel) ⟨by decide, by decide⟩ (by decide +kernel) ?_
  refine q_copy 107 rfl (show sCode 34 104 = some (.invokestatic 76, 3) by decide +kernel) (by decide +kernel) (Nat.le_of_ble_eq_true rfl) (by decide) ?_
  refine q_aload_n 108 rfl (show sCode 34 107 = some (.aload_n 1, 1) by decide +kernel) rfl (Nat.le_of_ble_eq_true rfl) ?_
  refine q_getR (vA 0 (a1 + 6) 18) 111 rfl (show sCode 34 108 = some (.getfield 34, 3) by decide +kernel) (show sFR (sKo 34).1 34 = some (10, 7) by decide +kernel) (by decide +kernel) (Or.inl (Or.inl rfl)) rfl ?_
  refine q_iconst 112 rfl (show sCode 34 111 = some (.iconst 0, 1) by decide +kernel) ⟨by decide, by decide⟩ ?_
  refine q_aload_n 113 rfl (show sCode 34 112 = some (.aload_n 0, 1) by decide +kernel) rfl (Nat.le_of_ble_eq_true rfl) ?_
  refine q_getR (vA 0 (a0 + 6) 18) 116 rfl (show sCode 34 113 = some (.getfield 34, 3) by decide +kernel) (show sFR (sKo 34).1 34 = some (10, 7) by decide +kernel) (by decide +kernel) (Or.inl (Or.inl rfl)) rfl ?_
  refine q_iconst 117 rfl (show sCode 34 116 = some (.iconst 0, 1) by decide +kernel) ⟨by decide, by decide⟩ ?_
  refine q_bipush 119 rfl (show sCode 34 117 = some (.bipush 18, 2) by decide +kernel) ⟨by decide, by decide⟩ (by decide +kernel) ?_
  refine q_copy 122 rfl (show sCode 34 119 = some (.invokestatic 76, 3) by decide +kernel) (by decide +kernel) (Nat.le_of_ble_eq_true rfl) (by decide) ?_
  refine q_aload_n 123 rfl (show sCode 34 122 = some (.aload_n 1, 1) by decide +kernel) rfl (Nat.le_of_ble_eq_true rfl) ?_
  refine q_getR (vA 0 (a1 + 7) 18) 126 rfl (show sCode 34 123 = some (.getfield 37, 3) by decide +kernel) (show sFR (sKo 34).1 37 = some (10, 8) by decide +kernel) (by decide +kernel) (Or.inl (Or.inl rfl)) rfl ?_
  refine q_iconst 127 rfl (show sCode 34 126 = some (.iconst 0, 1) by decide +kernel) ⟨by decide, by decide⟩ ?_
  refine q_aload_n 128 rfl (show sCode 34 127 = some (.aload_n 0, 1) by decide +kernel) rfl (Nat.le_of_ble_eq_true rfl) ?_
  refine q_getR (vA 0 (a0 + 7) 18) 131 rfl (show sCode 34 128 = some (.getfield 37, 3) by decide +kernel) (show sFR (sKo 34).1 37 = some (10, 8) by decide +kernel) (by decide +kernel) (Or.inl (Or.inl rfl)) rfl ?_
  refine q_iconst 132 rfl (show sCode 34 131 = some (.iconst 0, 1) by decide +kernel) ⟨by decide, by decide⟩ ?_
  refine q_bipush 134 rfl (show sCode 34 132 = some (.bipush 18, 2) by decide +kernel) ⟨by decide, by decide⟩ (by decide +kernel) ?_
  refine q_copy 137 rfl (show sCode 34 134 = some (.invokestatic 76, 3) by decide +kernel) (by decide +kernel) (Nat.le_of_ble_eq_true rfl) (by decide) ?_
  refine q_aload_n 138 rfl (show sCode 34 137 = some (.aload_n 1, 1) by decide +kernel) rfl (Nat.le_of_ble_eq_true rfl) ?_
  refine q_getR (vA 0 (a1 + 8) 18) 141 rfl (show sCode 34 138 = some (.getfield 40, 3) by decide +kernel) (show sFR (sKo 34).1 40 = some (10, 9) by decide +kernel) (by decide +kernel) (Or.inl (Or.inl rfl)) rfl ?_
  refine q_iconst 142 rfl (show sCode 34 141 = some (.iconst 0, 1) by decide +kernel) ⟨by decide, by decide⟩ ?_
  refine q_aload_n 143 rfl (show sCode 34 142 = some (.aload_n 0, 1) by decide +kernel) rfl (Nat.le_of_ble_eq_true rfl) ?_
  refine q_getR (vA 0 (a0 + 8) 18) 146 rfl (show sCode 34 143 = some (.getfield 40, 3) by decide +kernel) (show sFR (sKo 34).1 40 = some (10, 9) by decide +kernel) (by decide +kernel) (Or.inl (Or.inl rfl)) rfl ?_
  refine q_iconst 147 rfl (show sCode 34 146 = some (.iconst 0, 1) by decide +kernel) ⟨by decide, by decide⟩ ?_
  refine q_bipush 149 rfl (show sCode 34 147 = some (.bipush 18, 2) by decide +kernel) ⟨by decide, by decide⟩ (by decide +kernel) ?_
  refine q_copy 152 rfl (show sCode 34 149 = some (.invokestatic 76, 3) by decide +kernel) (by decide +kernel) (Nat.le_of_ble_eq_true rfl) (by decide) ?_
  refine q_aload_n 153 rfl (show sCode 34 152 = some (.aload_n 1, 1) by decide +kernel) rfl (Nat.le_of_ble_eq_true rfl) ?_
  refine q_getR (vA 0 (a1 + 9) 18) 156 rfl (show sCode 34 153 = some (.getfield 43, 3) by decide +kernel) (show sFR (sKo 34).1 43 = some (10, 10) by decide +kernel) (by decide +kernel) (Or.inl (Or.inl rfl)) rfl ?_
  refine q_iconst 157 rfl (show sCode 34 156 = some (.iconst 0, 1) by decide +kernel) ⟨by decide, by decide⟩ ?_
  refine q_aload_n 158 rfl (show sCode 34 157 = some (.aload_n 0, 1) by decide +kernel) rfl (Nat.le_of_ble_eq_true rfl) ?_
  refine q_getR (vA 0 (a0 + 9) 18) 161 rfl (show sCode 34 158 = some (.getfield 43, 3) by decide +kernel) (show sFR (sKo 34).1 43 = some (10, 10) by decide +kernel) (by decide +kernel) (Or.inl (Or.inl rfl)) rfl ?_
  refine q_iconst 162 rfl (show sCode 34 161 = some (.iconst 0, 1) by decide +kernel) ⟨by decide, by decide⟩ ?_
  refine q_bipush 164 rfl (show sCode 34 162 = some (.bipush 18, 2) by decide +kernel) ⟨by decide, by decide⟩ (by decide +kernel) ?_
  refine q_copy 167 rfl (show sCode 34 164 = some (.invokestatic 76, 3) by decide +kernel) (by decide +kernel) (Nat.le_of_ble_eq_true rfl) (by decide) ?_
  refine q_aload_n 168 rfl (show sCode 34 167 = some (.aload_n 1, 1) by decide +kernel) rfl (Nat.le_of_ble_eq_true rfl) ?_
  refine q_getR (vA 0 (a1 + 10) 18) 171 rfl (show sCode 34 168 = some (.getfield 46, 3) by decide +kernel) (show sFR (sKo 34).1 46 = some (10, 11) by decide +kernel) (by decide +kernel) (Or.inl (Or.inl rfl)) rfl ?_
  refine q_iconst 172 rfl (show sCode 34 171 = some (.iconst 0, 1) by decide +kernel) ⟨by decide, by decide⟩ ?_
  refine q_aload_n 173 rfl (show sCode 34 172 = some (.aload_n 0, 1) by decide +kernel) rfl (Nat.le_of_ble_eq_true rfl) ?_
  refine q_getR (vA 0 (a0 + 10) 18) 176 rfl (show sCode 34 173 = some (.getfield 46, 3) by decide +kernel) (show sFR (sKo 34).1 46 = some (10, 11) by decide +kernel) (by decide +kernel) (Or.inl (Or.inl rfl)) rfl ?_
  refine q_iconst 177 rfl (show sCode 34 176 = some (.iconst 0, 1) by decide +kernel) ⟨by decide, by decide⟩ ?_
  refine q_bipush 179 rfl (show sCode 34 177 = some (.bipush 18, 2) by decide +kernel) ⟨by decide, by decide⟩ (by decide +kernel) ?_
  refine q_copy 182 rfl (show sCode 34 179 = some (.invokestatic 76, 3) by decide +kernel) (by decide +kernel) (Nat.le_of_ble_eq_true rfl) (by decide) ?_
  refine q_aload_n 183 rfl (show sCode 34 182 = some (.aload_n 1, 1) by decide +kernel) rfl (Nat.le_of_ble_eq_true rfl) ?_
  refine q_getR (vA 0 (a1 + 11) 18) 186 rfl (show sCode 34 183 = some (.getfield 49, 3) by decide +kernel) (show sFR (sKo 34).1 49 = some (10, 12) by decide +kernel) (by decide +kernel) (Or.inl (Or.inl rfl)) rfl ?_
  refine q_iconst 187 rfl (show sCode 34 186 = some (.iconst 0, 1) by decide +kernel) ⟨by decide, by decide⟩ ?_
  refine q_aload_n 188 rfl (show sCode 34 187 = some (.aload_n 0, 1) by decide +kernel) rfl (Nat.le_of_ble_eq_true rfl) ?_
  refine q_getR (vA 0 (a0 + 11) 18) 191 rfl (show sCode 34 188 = some (.getfield 49, 3) by decide +kernel) (show sFR (sKo 34).1 49 = some (10, 12) by decide +kernel) (by decide +kernel) (Or.inl (Or.inl rfl)) rfl ?_
  refine q_iconst 192 rfl (show sCode 34 191 = some (.iconst 0, 1) by decide +kernel) ⟨by decide, by decide⟩ ?_
  refine q_bipush 194 rfl (show sCode 34 192 = some (.bipush 18, 2) by decide +kernel) ⟨by decide, by decide⟩ (by decide +kernel) ?_
  refine q_copy 197 rfl (show sCode 34 194 = some (.invokestatic 76, 3) by decide +kernel) (by decide +kernel) (Nat.le_of_ble_eq_true rfl) (by decide) ?_
  refine q_aload_n 198 rfl (show sCode 34 197 = some (.aload_n 1, 1) by decide +kernel) rfl (Nat.le_of_ble_eq_true rfl) ?_
  refine q_getR (vA 0 (a1 + 12) 12) 201 rfl (show sCode 34 198 = some (.getfield 58, 3) by decide +kernel) (show sFR (sKo 34).1 58 = some (10, 15) by decide +kernel) (by decide +kernel) (Or.inl (Or.inl rfl)) rfl ?_
  refine q_iconst 202 rfl (show sCode 34 201 = some (.iconst 0, 1) by decide +kernel) ⟨by decide, by decide⟩ ?_
  refine q_aload_n 203 rfl (show sCode 34 202 = some (.aload_n 0, 1) by decide +kernel) rfl (Nat.le_of_ble_eq_true rfl) ?_
  refine q_getR (vA 0 (a0 + 12) 12) 206 rfl (show sCode 34 203 = some (.getfield 58, 3) by decide +kernel) (show sFR (sKo 34).1 58 = some (10, 15) by decide +kernel) (by decide +kernel) (Or.inl (Or.inl rfl)) rfl ?_
  refine q_iconst 207 rfl (show sCode 34 206 = some (.iconst 0, 1) by decide +kernel) ⟨by decide, by decide⟩ ?_
  refine q_bipush 209 rfl (show sCode 34 207 = some (.bipush 12, 2) by decide +kernel) ⟨by decide, by decide⟩ (by decide +kernel) ?_
  refine q_copy 212 rfl (show sCode 34 209 = some (.invokestatic 76, 3) by decide +kernel) (by decide +kernel) (Nat.le_of_ble_eq_true rfl) (by decide) ?_
  refine q_aload_n 213 rfl (show sCode 34 212 = some (.aload_n 1, 1) by decide +kernel) rfl (Nat.le_of_ble_eq_true rfl) ?_
  refine q_getR (vA 0 (a1 + 13) 12) 216 rfl (show sCode 34 213 = some (.getfield 61, 3) by decide +kernel) (show sFR (sKo 34).1 61 = some (10, 16) by decide +kernel) (by decide +kernel) (Or.inl (Or.inl rfl)) rfl ?_
  refine q_iconst 217 rfl (show sCode 34 216 = some (.iconst 0, 1) by decide +kernel) ⟨by decide, by decide⟩ ?_
  refine q_aload_n 218 rfl (show sCode 34 217 = some (.aload_n 0, 1) by decide +kernel) rfl (Nat.le_of_ble_eq_true rfl) ?_
  refine q_getR (vA 0 (a0 + 13) 12) 221 rfl (show sCode 34 218 = some (.getfield 61, 3) by decide +kernel) (show sFR (sKo 34).1 61 = some (10, 16) by decide +kernel) (by decide +kernel) (Or.inl (Or.inl rfl)) rfl ?_
  refine q_iconst 222 rfl (show sCode 34 221 = some (.iconst 0, 1) by decide +kernel) ⟨by decide, by decide⟩ ?_
  refine q_bipush 224 rfl (show sCode 34 222 = some (.bipush 12, 2) by decide +kernel) ⟨by decide, by decide⟩ (by decide +kernel) ?_
  refine q_copy 227 rfl (show sCode 34 224 = some (.invokestatic 76, 3) by decide +kernel) (by decide +kernel) (Nat.le_of_ble_eq_true rfl) (by decide) ?_
  refine q_aload_n 228 rfl (show sCode 34 227 = some (.aload_n 1, 1) by decide +kernel) rfl (Nat.le_of_ble_eq_true rfl) ?_
  refine q_getR (vA 0 (a1 + 14) 12) 231 rfl (show sCode 34 228 = some (.getfield 64, 3) by decide +kernel) (show sFR (sKo 34).1 64 = some (10, 17) by decide +kernel) (by decide +kernel) (Or.inl (Or.inl rfl)) rfl ?_
  refine q_iconst 232 rfl (show sCode 34 231 = some (.iconst 0, 1) by decide +kernel) ⟨by decide, by decide⟩ ?_
  refine q_aload_n 233 rfl (show sCode 34 232 = some (.aload_n 0, 1) by decide +kernel) rfl (Nat.le_of_ble_eq_true rfl) ?_
  refine q_getR (vA 0 (a0 + 14) 12) 236 rfl (show sCode 34 233 = some (.getfield 64, 3) by decide +kernel) (show sFR (sKo 34).1 64 = some (10, 17) by decide +kernel) (by decide +kernel) (Or.inl (Or.inl rfl)) rfl ?_
  refine q_iconst 237 rfl (show sCode 34 236 = some (.iconst 0, 1) by decide +kernel) ⟨by decide, by decide⟩ ?_
  refine q_bipush 239 rfl (show sCode 34 237 = some (.bipush 12, 2) by decide +kernel) ⟨by decide, by decide⟩ (by decide +kernel) ?_
  refine q_copy 242 rfl (show sCode 34 239 = some (.invokestatic 76, 3) by decide +kernel) (by decide +kernel) (Nat.le_of_ble_eq_true rfl) (by decide) ?_
  exact q_vret (show sCode 34 242 = some (.return_, 1) by decide +kernel) (by decide +kernel) (by decide +kernel) kk
-- 55 AfterTheLast$Town.isHouse (I)Z
theorem b55_0 {d : Nat} {Q : Option sV → sM → sG → Prop} {M : sM} {G : sG} {a0 : Nat} {x1 : Int}  (k1 : x1 < 0 → sW (sC d) 55 Q 16 [vN, vN] [] M G 0 0) (k2 : 0 ≤ x1 → sW (sC d) 55 Q 4 [vO 10 a0, vI x1] [] M G 0 0) : sW (sC d) 55 Q 0 [vO 10 a0, vI x1] [] M G 0 0 := by
  refine q_iload_n 1 rfl (show sCode 55 0 = some (.iload_n 1, 1) by decide +kernel) rfl ?_
  refine q_iflt 16 4 rfl (by decide) (show sCode 55 1 = some (.ifCond .lt 15, 3) by decide +kernel) ?_ ?_
  · intro q; refine q_forget (L' := [vN, vI x1]) 0 rfl ?_; refine q_forget (L' := [vN, vN]) 1 rfl ?_; exact k1 q
  · intro q; exact k2 q
theorem b55_4 {d : Nat} {Q : Option sV → sM → sG → Prop} {M : sM} {G : sG} {a0 : Nat} {x1 : Int}  (k1 : M a0 0 ≤ x1 → sW (sC d) 55 Q 16 [vN, vN] [] M G 0 0) (k2 : x1 < M a0 0 → sW (sC d) 55 Q 12 [vN, vN] [] M G 0 0) : sW (sC d) 55 Q 4 [vO 10 a0, vI x1] [] M G 0 0 := by
  refine q_iload_n 5 rfl (show sCode 55 4 = some (.iload_n 1, 1) by decide +kernel) rfl ?_
  refine q_aload_n 6 rfl (show sCode 55 5 = some (.aload_n 0, 1) by decide +kernel) rfl (Nat.le_of_ble_eq_true rfl) ?_
  refine q_getI 9 rfl (show sCode 55 6 = some (.getfield 9, 3) by decide +kernel) (show sFR (sKo 55).1 9 = some (10, 0) by decide +kernel) (by decide +kernel) (Or.inl (Or.inl rfl)) ?_
  refine q_icmpge 16 12 rfl (by decide) (show sCode 55 9 = some (.if_icmp .ge 7, 3) by decide +kernel) ?_ ?_
  · intro q; refine q_forget (L' := [vN, vI x1]) 0 rfl ?_; refine q_forget (L' := [vN, vN]) 1 rfl ?_; exact k1 q
  · intro q; refine q_forget (L' := [vN, vI x1]) 0 rfl ?_; refine q_forget (L' := [vN, vN]) 1 rfl ?_; exact k2 q
theorem b55_12 {d : Nat} {Q : Option sV → sM → sG → Prop} {M : sM} {G : sG}   (kk : sW (sC d) 55 Q 17 [vN, vN] [vI 1] M G 0 0) : sW (sC d) 55 Q 12 [vN, vN] [] M G 0 0 := by
  refine q_iconst 13 rfl (show sCode 55 12 = some (.iconst 1, 1) by decide +kernel) ⟨by decide, by decide⟩ ?_
  refine q_goto 17 (by decide) (show sCode 55 13 = some (.goto 4, 3) by decide +kernel) ?_
  exact kk
theorem b55_16 {d : Nat} {Q : Option sV → sM → sG → Prop} {M : sM} {G : sG}   (kk : sW (sC d) 55 Q 17 [vN, vN] [vI 0] M G 0 0) : sW (sC d) 55 Q 16 [vN, vN] [] M G 0 0 := by
  refine q_iconst 17 rfl (show sCode 55 16 = some (.iconst 0, 1) by decide +kernel) ⟨by decide, by decide⟩ ?_
  exact kk
theorem b55_17 {d : Nat} {P : Int → sM → sG → Prop} {M : sM} {G : sG} {s0 : Int}  (h01 : s0 = 0 ∨ s0 = 1) (kk : P s0 M G) : sW (sC d) 55 (QI P) 17 [vN, vN] [vI s0] M G 0 0 := by
  exact q_zret (show sCode 55 17 = some (.ireturn, 1) by decide +kernel) (by decide +kernel) h01 (by decide +kernel) kk
-- 56 AfterTheLast$Town.lastIn (I)I
theorem b56_0 {d : Nat} {Q : Option sV → sM → sG → Prop} {M : sM} {G : sG} {a0 : Nat} {x1 : Int} (h1 : 0 ≤ x1 ∧ x1 < 6) (k1 : M (a0 + 4) x1.toNat ≤ 0 → sW (sC d) 56 Q 30 [vN, vN] [] M G 0 0) (k2 : 0 < M (a0 + 4) x1.toNat → sW (sC d) 56 Q 9 [vO 10 a0, vI x1] [] M G 0 0) : sW (sC d) 56 Q 0 [vO 10 a0, vI x1] [] M G 0 0 := by
  refine q_aload_n 1 rfl (show sCode 56 0 = some (.aload_n 0, 1) by decide +kernel) rfl (Nat.le_of_ble_eq_true rfl) ?_
  refine q_getR (vA 0 (a0 + 4) 6) 4 rfl (show sCode 56 1 = some (.getfield 25, 3) by decide +kernel) (show sFR (sKo 56).1 25 = some (10, 4) by decide +kernel) (by decide +kernel) (Or.inl (Or.inl rfl)) rfl ?_
  refine q_iload_n 5 rfl (show sCode 56 4 = some (.iload_n 1, 1) by decide +kernel) rfl ?_
  refine q_iald 6 rfl (show sCode 56 5 = some (.iaload, 1) by decide +kernel) h1 ?_
  refine q_ifle 30 9 rfl (by decide) (show sCode 56 6 = some (.ifCond .le 24, 3) by decide +kernel) ?_ ?_
  · intro q; refine q_forget (L' := [vN, vI x1]) 0 rfl ?_; refine q_forget (L' := [vN, vN]) 1 rfl ?_; exact k1 q
  · intro q; exact k2 q
theorem b56_9 {d : Nat} {Q : Option sV → sM → sG → Prop} {M : sM} {G : sG} {a0 : Nat} {x1 : Int} (h1 : sI (x1 * 12)) (h2 : 0 ≤ x1 ∧ x1 < 6) (h3 : sI ((x1 * 12) + (M (a0 + 4) x1.toNat))) (h4 : sI (((x1 * 12) + (M (a0 + 4) x1.toNat)) - 1)) (h5 : 0 ≤ ((x1 * 12) + (M (a0 + 4) x1.toNat)) - 1 ∧ ((x1 * 12) + (M (a0 + 4) x1.toNat)) - 1 < 72) (kk : sW (sC d) 56 Q 31 [vN, vN] [vI (M (a0 + 5) (((x1 * 12) + (M (a0 + 4) x1.toNat)) - 1).toNat)] M G 0 0) : sW (sC d) 56 Q 9 [vO 10 a0, vI x1] [] M G 0 0 := by
  refine q_aload_n 10 rfl (show sCode 56 9 = some (.aload_n 0, 1) by decide +kernel) rfl (Nat.le_of_ble_eq_true rfl) ?_
  refine q_getR (vA 0 (a0 + 5) 72) 13 rfl (show sCode 56 10 = some (.getfield 28, 3) by decide +kernel) (show sFR (sKo 56).1 28 = some (10, 5) by decide +kernel) (by decide +kernel) (Or.inl (Or.inl rfl)) rfl ?_
  refine q_iload_n 14 rfl (show sCode 56 13 = some (.iload_n 1, 1) by decide +kernel) rfl ?_
  refine q_bipush 16 rfl (show sCode 56 14 = some (.bipush 12, 2) by decide +kernel) ⟨by decide, by decide⟩ (by decide +kernel) ?_
  refine q_imul 17 rfl (show sCode 56 16 = some (.imul, 1) by decide +kernel) h1 ?_
  refine q_aload_n 18 rfl (show sCode 56 17 = some (.aload_n 0, 1) by decide +kernel) rfl (Nat.le_of_ble_eq_true rfl) ?_
  refine q_getR (vA 0 (a0 + 4) 6) 21 rfl (show sCode 56 18 = some (.getfield 25, 3) by decide +kernel) (show sFR (sKo 56).1 25 = some (10, 4) by decide +kernel) (by decide +kernel) (Or.inl (Or.inl rfl)) rfl ?_
  refine q_iload_n 22 rfl (show sCode 56 21 = some (.iload_n 1, 1) by decide +kernel) rfl ?_
  refine q_iald 23 rfl (show sCode 56 22 = some (.iaload, 1) by decide +kernel) h2 ?_
  refine q_iadd 24 rfl (show sCode 56 23 = some (.iadd, 1) by decide +kernel) h3 ?_
  refine q_iconst 25 rfl (show sCode 56 24 = some (.iconst 1, 1) by decide +kernel) ⟨by decide, by decide⟩ ?_
  refine q_isub 26 rfl (show sCode 56 25 = some (.isub, 1) by decide +kernel) h4 ?_
  refine q_iald 27 rfl (show sCode 56 26 = some (.iaload, 1) by decide +kernel) h5 ?_
  refine q_goto 31 (by decide) (show sCode 56 27 = some (.goto 4, 3) by decide +kernel) ?_
  refine q_forget (L' := [vN, vI x1]) 0 rfl ?_
  refine q_forget (L' := [vN, vN]) 1 rfl ?_
  exact kk
theorem b56_30 {d : Nat} {Q : Option sV → sM → sG → Prop} {M : sM} {G : sG}   (kk : sW (sC d) 56 Q 31 [vN, vN] [vI (-1)] M G 0 0) : sW (sC d) 56 Q 30 [vN, vN] [] M G 0 0 := by
  refine q_iconst 31 rfl (show sCode 56 30 = some (.iconst (-1), 1) by decide +kernel) ⟨by decide, by decide⟩ ?_
  exact kk
theorem b56_31 {d : Nat} {P : Int → sM → sG → Prop} {M : sM} {G : sG} {s0 : Int}  (kk : P s0 M G) : sW (sC d) 56 (QI P) 31 [vN, vN] [vI s0] M G 0 0 := by
  exact q_iret (show sCode 56 31 = some (.ireturn, 1) by decide +kernel) (by decide +kernel) (by decide +kernel) kk
-- 57 AfterTheLast$Town.firstIn (I)I
theorem b57_0 {d : Nat} {Q : Option sV → sM → sG → Prop} {M : sM} {G : sG} {a0 : Nat} {x1 : Int} (h1 : 0 ≤ x1 ∧ x1 < 6) (k1 : M (a0 + 4) x1.toNat ≤ 0 → sW (sC d) 57 Q 21 [vN, vN] [] M G 0 0) (k2 : 0 < M (a0 + 4) x1.toNat → sW (sC d) 57 Q 9 [vO 10 a0, vI x1] [] M G 0 0) : sW (sC d) 57 Q 0 [vO 10 a0, vI x1] [] M G 0 0 := by
  refine q_aload_n 1 rfl (show sCode 57 0 = some (.aload_n 0, 1) by decide +kernel) rfl (Nat.le_of_ble_eq_true rfl) ?_
  refine q_getR (vA 0 (a0 + 4) 6) 4 rfl (show sCode 57 1 = some (.getfield 25, 3) by decide +kernel) (show sFR (sKo 57).1 25 = some (10, 4) by decide +kernel) (by decide +kernel) (Or.inl (Or.inl rfl)) rfl ?_
  refine q_iload_n 5 rfl (show sCode 57 4 = some (.iload_n 1, 1) by decide +kernel) rfl ?_
  refine q_iald 6 rfl (show sCode 57 5 = some (.iaload, 1) by decide +kernel) h1 ?_
  refine q_ifle 21 9 rfl (by decide) (show sCode 57 6 = some (.ifCond .le 15, 3) by decide +kernel) ?_ ?_
  · intro q; refine q_forget (L' := [vN, vI x1]) 0 rfl ?_; refine q_forget (L' := [vN, vN]) 1 rfl ?_; exact k1 q
  · intro q; exact k2 q
theorem b57_9 {d : Nat} {Q : Option sV → sM → sG → Prop} {M : sM} {G : sG} {a0 : Nat} {x1 : Int} (h1 : sI (x1 * 12)) (h2 : 0 ≤ x1 * 12 ∧ x1 * 12 < 72) (kk : sW (sC d) 57 Q 22 [vN, vN] [vI (M (a0 + 5) (x1 * 12).toNat)] M G 0 0) : sW (sC d) 57 Q 9 [vO 10 a0, vI x1] [] M G 0 0 := by
  refine q_aload_n 10 rfl (show sCode 57 9 = some (.aload_n 0, 1) by decide +kernel) rfl (Nat.le_of_ble_eq_true rfl) ?_
  refine q_getR (vA 0 (a0 + 5) 72) 13 rfl (show sCode 57 10 = some (.getfield 28, 3) by decide +kernel) (show sFR (sKo 57).1 28 = some (10, 5) by decide +kernel) (by decide +kernel) (Or.inl (Or.inl rfl)) rfl ?_
  refine q_iload_n 14 rfl (show sCode 57 13 = some (.iload_n 1, 1) by decide +kernel) rfl ?_
  refine q_bipush 16 rfl (show sCode 57 14 = some (.bipush 12, 2) by decide +kernel) ⟨by decide, by decide⟩ (by decide +kernel) ?_
  refine q_imul 17 rfl (show sCode 57 16 = some (.imul, 1) by decide +kernel) h1 ?_
  refine q_iald 18 rfl (show sCode 57 17 = some (.iaload, 1) by decide +kernel) h2 ?_
  refine q_goto 22 (by decide) (show sCode 57 18 = some (.goto 4, 3) by decide +kernel) ?_
  refine q_forget (L' := [vN, vI x1]) 0 rfl ?_
  refine q_forget (L' := [vN, vN]) 1 rfl ?_
  exact kk
theorem b57_21 {d : Nat} {Q : Option sV → sM → sG → Prop} {M : sM} {G : sG}   (kk : sW (sC d) 57 Q 22 [vN, vN] [vI (-1)] M G 0 0) : sW (sC d) 57 Q 21 [vN, vN] [] M G 0 0 := by
  refine q_iconst 22 rfl (show sCode 57 21 = some (.iconst (-1), 1) by decide +kernel) ⟨by decide, by decide⟩ ?_
  exact kk
theorem b57_22 {d : Nat} {P : Int → sM → sG → Prop} {M : sM} {G : sG} {s0 : Int}  (kk : P s0 M G) : sW (sC d) 57 (QI P) 22 [vN, vN] [vI s0] M G 0 0 := by
  exact q_iret (show sCode 57 22 = some (.ireturn, 1) by decide +kernel) (by decide +kernel) (by decide +kernel) kk
-- 59 AfterTheLast$Town.isStay (I)Z
theorem b59_0 {d : Nat} {Q : Option sV → sM → sG → Prop} {M : sM} {G : sG} {a0 : Nat} {x1 : Int}  (k1 : x1 < 0 → sW (sC d) 59 Q 16 [vN, vN] [] M G 0 0) (k2 : 0 ≤ x1 → sW (sC d) 59 Q 4 [vO 10 a0, vI x1] [] M G 0 0) : sW (sC d) 59 Q 0 [vO 10 a0, vI x1] [] M G 0 0 := by
  refine q_iload_n 1 rfl (show sCode 59 0 = some (.iload_n 1, 1) by decide +kernel) rfl ?_
  refine q_iflt 16 4 rfl (by decide) (show sCode 59 1 = some (.ifCond .lt 15, 3) by decide +kernel) ?_ ?_
  · intro q; refine q_forget (L' := [vN, vI x1]) 0 rfl ?_; refine q_forget (L' := [vN, vN]) 1 rfl ?_; exact k1 q
  · intro q; exact k2 q
theorem b59_4 {d : Nat} {Q : Option sV → sM → sG → Prop} {M : sM} {G : sG} {a0 : Nat} {x1 : Int}  (k1 : M a0 6 ≤ x1 → sW (sC d) 59 Q 16 [vN, vN] [] M G 0 0) (k2 : x1 < M a0 6 → sW (sC d) 59 Q 12 [vN, vN] [] M G 0 0) : sW (sC d) 59 Q 4 [vO 10 a0, vI x1] [] M G 0 0 := by
  refine q_iload_n 5 rfl (show sCode 59 4 = some (.iload_n 1, 1) by decide +kernel) rfl ?_
  refine q_aload_n 6 rfl (show sCode 59 5 = some (.aload_n 0, 1) by decide +kernel) rfl (Nat.le_of_ble_eq_true rfl) ?_
  refine q_getI 9 rfl (show sCode 59 6 = some (.getfield 31, 3) by decide +kernel) (show sFR (sKo 59).1 31 = some (10, 6) by decide +kernel) (by decide +kernel) (Or.inl (Or.inl rfl)) ?_
  refine q_icmpge 16 12 rfl (by decide) (show sCode 59 9 = some (.if_icmp .ge 7, 3) by decide +kernel) ?_ ?_
  · intro q; refine q_forget (L' := [vN, vI x1]) 0 rfl ?_; refine q_forget (L' := [vN, vN]) 1 rfl ?_; exact k1 q
  · intro q; refine q_forget (L' := [vN, vI x1]) 0 rfl ?_; refine q_forget (L' := [vN, vN]) 1 rfl ?_; exact k2 q
theorem b59_12 {d : Nat} {Q : Option sV → sM → sG → Prop} {M : sM} {G : sG}   (kk : sW (sC d) 59 Q 17 [vN, vN] [vI 1] M G 0 0) : sW (sC d) 59 Q 12 [vN, vN] [] M G 0 0 := by
  refine q_iconst 13 rfl (show sCode 59 12 = some (.iconst 1, 1) by decide +kernel) ⟨by decide, by decide⟩ ?_
  refine q_goto 17 (by decide) (show sCode 59 13 = some (.goto 4, 3) by decide +kernel) ?_
  exact kk
theorem b59_16 {d : Nat} {Q : Option sV → sM → sG → Prop} {M : sM} {G : sG}   (kk : sW (sC d) 59 Q 17 [vN, vN] [vI 0] M G 0 0) : sW (sC d) 59 Q 16 [vN, vN] [] M G 0 0 := by
  refine q_iconst 17 rfl (show sCode 59 16 = some (.iconst 0, 1) by decide +kernel) ⟨by decide, by decide⟩ ?_
  exact kk
theorem b59_17 {d : Nat} {P : Int → sM → sG → Prop} {M : sM} {G : sG} {s0 : Int}  (h01 : s0 = 0 ∨ s0 = 1) (kk : P s0 M G) : sW (sC d) 59 (QI P) 17 [vN, vN] [vI s0] M G 0 0 := by
  exact q_zret (show sCode 59 17 = some (.ireturn, 1) by decide +kernel) (by decide +kernel) h01 (by decide +kernel) kk
-- 62 AfterTheLast$Town.mayLeave (I)Z
theorem b62_0 {d : Nat} {Q : Option sV → sM → sG → Prop} {M : sM} {G : sG} {a0 : Nat} {x1 : Int} (h1 : 0 ≤ x1 ∧ x1 < 12) (kk : sC d 55 [vO 10 a0, vI (M (a0 + 12) x1.toNat)] M G (QI (fun r M1 G1 => sW (sC d) 62 Q 12 [vO 10 a0, vI x1, vI (M (a0 + 12) x1.toNat)] (vI r :: []) M1 G1 0 0))) : sW (sC d) 62 Q 0 [vO 10 a0, vI x1, vN] [] M G 0 0 := by
  refine q_aload_n 1 rfl (show sCode 62 0 = some (.aload_n 0, 1) by decide +kernel) rfl (Nat.le_of_ble_eq_true rfl) ?_
  refine q_getR (vA 0 (a0 + 12) 12) 4 rfl (show sCode 62 1 = some (.getfield 58, 3) by decide +kernel) (show sFR (sKo 62).1 58 = some (10, 15) by decide +kernel) (by decide +kernel) (Or.inl (Or.inl rfl)) rfl ?_
  refine q_iload_n 5 rfl (show sCode 62 4 = some (.iload_n 1, 1) by decide +kernel) rfl ?_
  refine q_iald 6 rfl (show sCode 62 5 = some (.iaload, 1) by decide +kernel) h1 ?_
  refine q_istore_n [vO 10 a0, vI x1, vI (M (a0 + 12) x1.toNat)] 7 rfl (show sCode 62 6 = some (.istore_n 2, 1) by decide +kernel) (Nat.lt_of_lt_of_le (Nat.lt_succ_self _) (Nat.le_of_ble_eq_true rfl)) rfl rfl ?_
  refine q_aload_n 8 rfl (show sCode 62 7 = some (.aload_n 0, 1) by decide +kernel) rfl (Nat.le_of_ble_eq_true rfl) ?_
  refine q_iload_n 9 rfl (show sCode 62 8 = some (.iload_n 2, 1) by decide +kernel) rfl ?_
  exact q_virtI [vI (M (a0 + 12) x1.toNat)] 12 rfl (show sCode 62 9 = some (.invokevirtual 82, 3) by decide +kernel) (show sMR (sKo 62).1 82 = some 55 by decide +kernel) (show 55 < 1000 ∧ sStat 55 = false ∧ sIni 55 = false ∧ sKo 55 = (10, 1, 2, 0, 0) by decide +kernel) rfl (Or.inl rfl) rfl (Nat.le_of_ble_eq_true rfl) rfl rfl rfl (by decide +kernel) kk
theorem b62_12 {d : Nat} {Q : Option sV → sM → sG → Prop} {M : sM} {G : sG} {a0 : Nat} {x1 : Int} {x2 : Int} {s0 : Int}  (k1 : s0 ≠ 0 → sW (sC d) 62 Q 17 [vO 10 a0, vI x1, vI x2] [] M G 0 0) (k2 : s0 = 0 → sW (sC d) 62 Q 15 [vN, vN, vN] [] M G 0 0) : sW (sC d) 62 Q 12 [vO 10 a0, vI x1, vI x2] [vI s0] M G 0 0 := by
  refine q_ifne 17 15 rfl (by decide) (show sCode 62 12 = some (.ifCond .ne 5, 3) by decide +kernel) ?_ ?_
  · intro q; exact k1 q
  · intro q; refine q_forget (L' := [vN, vI x1, vI x2]) 0 rfl ?_; refine q_forget (L' := [vN, vN, vI x2]) 1 rfl ?_; refine q_forget (L' := [vN, vN, vN]) 2 rfl ?_; exact k2 q
theorem b62_15 {d : Nat} {P : Int → sM → sG → Prop} {M : sM} {G : sG}   (kk : P 0 M G) : sW (sC d) 62 (QI P) 15 [vN, vN, vN] [] M G 0 0 := by
  refine q_iconst 16 rfl (show sCode 62 15 = some (.iconst 0, 1) by decide +kernel) ⟨by decide, by decide⟩ ?_
  exact q_zret (show sCode 62 16 = some (.ireturn, 1) by decide +kernel) (by decide +kernel) (by decide) (by decide +kernel) kk
theorem b62_17 {d : Nat} {Q : Option sV → sM → sG → Prop} {M : sM} {G : sG} {a0 : Nat} {x1 : Int} {x2 : Int} (h1 : 0 ≤ x2 ∧ x2 < 6) (k1 : M (a0 + 1) x2.toNat ≠ 0 → sW (sC d) 62 Q 41 [vO 10 a0, vI x1, vI x2] [] M G 0 0) (k2 : M (a0 + 1) x2.toNat = 0 → sW (sC d) 62 Q 26 [vO 10 a0, vI x1, vI x2] [] M G 0 0) : sW (sC d) 62 Q 17 [vO 10 a0, vI x1, vI x2] [] M G 0 0 := by
  refine q_aload_n 18 rfl (show sCode 62 17 = some (.aload_n 0, 1) by decide +kernel) rfl (Nat.le_of_ble_eq_true rfl) ?_
  refine q_getR (vA 0 (a0 + 1) 6) 21 rfl (show sCode 62 18 = some (.getfield 15, 3) by decide +kernel) (show sFR (sKo 62).1 15 = some (10, 1) by decide +kernel) (by decide +kernel) (Or.inl (Or.inl rfl)) rfl ?_
  refine q_iload_n 22 rfl (show sCode 62 21 = some (.iload_n 2, 1) by decide +kernel) rfl ?_
  refine q_iald 23 rfl (show sCode 62 22 = some (.iaload, 1) by decide +kernel) h1 ?_
  refine q_ifne 41 26 rfl (by decide) (show sCode 62 23 = some (.ifCond .ne 18, 3) by decide +kernel) ?_ ?_
  · intro q; exact k1 q
  · intro q; exact k2 q
theorem b62_26 {d : Nat} {Q : Option sV → sM → sG → Prop} {M : sM} {G : sG} {a0 : Nat} {x1 : Int} {x2 : Int}  (kk : sC d 56 [vO 10 a0, vI x2] M G (QI (fun r M1 G1 => sW (sC d) 62 Q 31 [vN, vI x1, vN] (vI r :: []) M1 G1 0 0))) : sW (sC d) 62 Q 26 [vO 10 a0, vI x1, vI x2] [] M G 0 0 := by
  refine q_aload_n 27 rfl (show sCode 62 26 = some (.aload_n 0, 1) by decide +kernel) rfl (Nat.le_of_ble_eq_true rfl) ?_
  refine q_iload_n 28 rfl (show sCode 62 27 = some (.iload_n 2, 1) by decide +kernel) rfl ?_
  refine q_forget (L' := [vN, vI x1, vI x2]) 0 rfl ?_
  refine q_forget (L' := [vN, vI x1, vN]) 2 rfl ?_
  exact q_virtI [vI x2] 31 rfl (show sCode 62 28 = some (.invokevirtual 86, 3) by decide +kernel) (show sMR (sKo 62).1 86 = some 56 by decide +kernel) (show 56 < 1000 ∧ sStat 56 = false ∧ sIni 56 = false ∧ sKo 56 = (10, 1, 1, 0, 0) by decide +kernel) rfl (Or.inl rfl) rfl (Nat.le_of_ble_eq_true rfl) rfl rfl rfl (by decide +kernel) kk
theorem b62_31 {d : Nat} {Q : Option sV → sM → sG → Prop} {M : sM} {G : sG} {x1 : Int} {s0 : Int}  (k1 : s0 ≠ x1 → sW (sC d) 62 Q 39 [vN, vN, vN] [] M G 0 0) (k2 : s0 = x1 → sW (sC d) 62 Q 35 [vN, vN, vN] [] M G 0 0) : sW (sC d) 62 Q 31 [vN, vI x1, vN] [vI s0] M G 0 0 := by
  refine q_iload_n 32 rfl (show sCode 62 31 = some (.iload_n 1, 1) by decide +kernel) rfl ?_
  refine q_icmpne 39 35 rfl (by decide) (show sCode 62 32 = some (.if_icmp .ne 7, 3) by decide +kernel) ?_ ?_
  · intro q; refine q_forget (L' := [vN, vN, vN]) 1 rfl ?_; exact k1 q
  · intro q; refine q_forget (L' := [vN, vN, vN]) 1 rfl ?_; exact k2 q
theorem b62_35 {d : Nat} {Q : Option sV → sM → sG → Prop} {M : sM} {G : sG}   (kk : sW (sC d) 62 Q 40 [vN, vN, vN] [vI 1] M G 0 0) : sW (sC d) 62 Q 35 [vN, vN, vN] [] M G 0 0 := by
  refine q_iconst 36 rfl (show sCode 62 35 = some (.iconst 1, 1) by decide +kernel) ⟨by decide, by decide⟩ ?_
  refine q_goto 40 (by decide) (show sCode 62 36 = some (.goto 4, 3) by decide +kernel) ?_
  exact kk
theorem b62_39 {d : Nat} {Q : Option sV → sM → sG → Prop} {M : sM} {G : sG}   (kk : sW (sC d) 62 Q 40 [vN, vN, vN] [vI 0] M G 0 0) : sW (sC d) 62 Q 39 [vN, vN, vN] [] M G 0 0 := by
  refine q_iconst 40 rfl (show sCode 62 39 = some (.iconst 0, 1) by decide +kernel) ⟨by decide, by decide⟩ ?_
  exact kk
theorem b62_40 {d : Nat} {P : Int → sM → sG → Prop} {M : sM} {G : sG} {s0 : Int}  (h01 : s0 = 0 ∨ s0 = 1) (kk : P s0 M G) : sW (sC d) 62 (QI P) 40 [vN, vN, vN] [vI s0] M G 0 0 := by
  exact q_zret (show sCode 62 40 = some (.ireturn, 1) by decide +kernel) (by decide +kernel) h01 (by decide +kernel) kk
theorem b62_41 {d : Nat} {Q : Option sV → sM → sG → Prop} {M : sM} {G : sG} {a0 : Nat} {x1 : Int} {x2 : Int} (h1 : 0 ≤ x2 ∧ x2 < 6) (k1 : M (a0 + 1) x2.toNat = 2 → sW (sC d) 62 Q 60 [vN, vN, vN] [] M G 0 0) (k2 : M (a0 + 1) x2.toNat ≠ 2 → sW (sC d) 62 Q 51 [vO 10 a0, vI x1, vI x2] [] M G 0 0) : sW (sC d) 62 Q 41 [vO 10 a0, vI x1, vI x2] [] M G 0 0 := by
  refine q_aload_n 42 rfl (show sCode 62 41 = some (.aload_n 0, 1) by decide +kernel) rfl (Nat.le_of_ble_eq_true rfl) ?_
  refine q_getR (vA 0 (a0 + 1) 6) 45 rfl (show sCode 62 42 = some (.getfield 15, 3) by decide +kernel) (show sFR (sKo 62).1 15 = some (10, 1) by decide +kernel) (by decide +kernel) (Or.inl (Or.inl rfl)) rfl ?_
  refine q_iload_n 46 rfl (show sCode 62 45 = some (.iload_n 2, 1) by decide +kernel) rfl ?_
  refine q_iald 47 rfl (show sCode 62 46 = some (.iaload, 1) by decide +kernel) h1 ?_
  refine q_iconst 48 rfl (show sCode 62 47 = some (.iconst 2, 1) by decide +kernel) ⟨by decide, by decide⟩ ?_
  refine q_icmpeq 60 51 rfl (by decide) (show sCode 62 48 = some (.if_icmp .eq 12, 3) by decide +kernel) ?_ ?_
  · intro q; refine q_forget (L' := [vN, vI x1, vI x2]) 0 rfl ?_; refine q_forget (L' := [vN, vN, vI x2]) 1 rfl ?_; refine q_forget (L' := [vN, vN, vN]) 2 rfl ?_; exact k1 q
  · intro q; exact k2 q
theorem b62_51 {d : Nat} {Q : Option sV → sM → sG → Prop} {M : sM} {G : sG} {a0 : Nat} {x1 : Int} {x2 : Int}  (kk : sC d 57 [vO 10 a0, vI x2] M G (QI (fun r M1 G1 => sW (sC d) 62 Q 56 [vN, vI x1, vN] (vI r :: []) M1 G1 0 0))) : sW (sC d) 62 Q 51 [vO 10 a0, vI x1, vI x2] [] M G 0 0 := by
  refine q_aload_n 52 rfl (show sCode 62 51 = some (.aload_n 0, 1) by decide +kernel) rfl (Nat.le_of_ble_eq_true rfl) ?_
  refine q_iload_n 53 rfl (show sCode 62 52 = some (.iload_n 2, 1) by decide +kernel) rfl ?_
  refine q_forget (L' := [vN, vI x1, vI x2]) 0 rfl ?_
  refine q_forget (L' := [vN, vI x1, vN]) 2 rfl ?_
  exact q_virtI [vI x2] 56 rfl (show sCode 62 53 = some (.invokevirtual 90, 3) by decide +kernel) (show sMR (sKo 62).1 90 = some 57 by decide +kernel) (show 57 < 1000 ∧ sStat 57 = false ∧ sIni 57 = false ∧ sKo 57 = (10, 1, 1, 0, 0) by decide +kernel) rfl (Or.inl rfl) rfl (Nat.le_of_ble_eq_true rfl) rfl rfl rfl (by decide +kernel) kk
theorem b62_56 {d : Nat} {Q : Option sV → sM → sG → Prop} {M : sM} {G : sG} {x1 : Int} {s0 : Int}  (k1 : s0 ≠ x1 → sW (sC d) 62 Q 64 [vN, vN, vN] [] M G 0 0) (k2 : s0 = x1 → sW (sC d) 62 Q 60 [vN, vN, vN] [] M G 0 0) : sW (sC d) 62 Q 56 [vN, vI x1, vN] [vI s0] M G 0 0 := by
  refine q_iload_n 57 rfl (show sCode 62 56 = some (.iload_n 1, 1) by decide +kernel) rfl ?_
  refine q_icmpne 64 60 rfl (by decide) (show sCode 62 57 = some (.if_icmp .ne 7, 3) by decide +kernel) ?_ ?_
  · intro q; refine q_forget (L' := [vN, vN, vN]) 1 rfl ?_; exact k1 q
  · intro q; refine q_forget (L' := [vN, vN, vN]) 1 rfl ?_; exact k2 q
theorem b62_60 {d : Nat} {Q : Option sV → sM → sG → Prop} {M : sM} {G : sG}   (kk : sW (sC d) 62 Q 65 [vN, vN, vN] [vI 1] M G 0 0) : sW (sC d) 62 Q 60 [vN, vN, vN] [] M G 0 0 := by
  refine q_iconst 61 rfl (show sCode 62 60 = some (.iconst 1, 1) by decide +kernel) ⟨by decide, by decide⟩ ?_
  refine q_goto 65 (by decide) (show sCode 62 61 = some (.goto 4, 3) by decide +kernel) ?_
  exact kk
theorem b62_64 {d : Nat} {Q : Option sV → sM → sG → Prop} {M : sM} {G : sG}   (kk : sW (sC d) 62 Q 65 [vN, vN, vN] [vI 0] M G 0 0) : sW (sC d) 62 Q 64 [vN, vN, vN] [] M G 0 0 := by
  refine q_iconst 65 rfl (show sCode 62 64 = some (.iconst 0, 1) by decide +kernel) ⟨by decide, by decide⟩ ?_
  exact kk
theorem b62_65 {d : Nat} {P : Int → sM → sG → Prop} {M : sM} {G : sG} {s0 : Int}  (h01 : s0 = 0 ∨ s0 = 1) (kk : P s0 M G) : sW (sC d) 62 (QI P) 65 [vN, vN, vN] [vI s0] M G 0 0 := by
  exact q_zret (show sCode 62 65 = some (.ireturn, 1) by decide +kernel) (by decide +kernel) h01 (by decide +kernel) kk
-- 63 AfterTheLast$Town.after (I)I
theorem b63_0 {d : Nat} {Q : Option sV → sM → sG → Prop} {M : sM} {G : sG} {a0 : Nat} {x1 : Int} (h1 : 0 ≤ x1 ∧ x1 < 12) (k1 : M (a0 + 12) x1.toNat < 0 → sW (sC d) 63 Q 19 [vN, vN, vN, vN, vN] [] M G 0 0) (k2 : 0 ≤ M (a0 + 12) x1.toNat → sW (sC d) 63 Q 11 [vO 10 a0, vI x1, vI (M (a0 + 12) x1.toNat), vN, vN] [] M G 0 0) : sW (sC d) 63 Q 0 [vO 10 a0, vI x1, vN, vN, vN] [] M G 0 0 := by
  refine q_aload_n 1 rfl (show sCode 63 0 = some (.aload_n 0, 1) by decide +kernel) rfl (Nat.le_of_ble_eq_true rfl) ?_
  refine q_getR (vA 0 (a0 + 12) 12) 4 rfl (show sCode 63 1 = some (.getfield 58, 3) by decide +kernel) (show sFR (sKo 63).1 58 = some (10, 15) by decide +kernel) (by decide +kernel) (Or.inl (Or.inl rfl)) rfl ?_
  refine q_iload_n 5 rfl (show sCode 63 4 = some (.iload_n 1, 1) by decide +kernel) rfl ?_
  refine q_iald 6 rfl (show sCode 63 5 = some (.iaload, 1) by decide +kernel) h1 ?_
  refine q_istore_n [vO 10 a0, vI x1, vI (M (a0 + 12) x1.toNat), vN, vN] 7 rfl (show sCode 63 6 = some (.istore_n 2, 1) by decide +kernel) (Nat.lt_of_lt_of_le (Nat.lt_succ_self _) (Nat.le_of_ble_eq_true rfl)) rfl rfl ?_
  refine q_iload_n 8 rfl (show sCode 63 7 = some (.iload_n 2, 1) by decide +kernel) rfl ?_
  refine q_iflt 19 11 rfl (by decide) (show sCode 63 8 = some (.ifCond .lt 11, 3) by decide +kernel) ?_ ?_
  · intro q; refine q_forget (L' := [vN, vI x1, vI (M (a0 + 12) x1.toNat), vN, vN]) 0 rfl ?_; refine q_forget (L' := [vN, vN, vI (M (a0 + 12) x1.toNat), vN, vN]) 1 rfl ?_; refine q_forget (L' := [vN, vN, vN, vN, vN]) 2 rfl ?_; exact k1 q
  · intro q; exact k2 q
theorem b63_11 {d : Nat} {Q : Option sV → sM → sG → Prop} {M : sM} {G : sG} {a0 : Nat} {x1 : Int} {x2 : Int}  (k1 : x2 < M a0 0 → sW (sC d) 63 Q 21 [vO 10 a0, vI x1, vI x2, vN, vN] [] M G 0 0) (k2 : M a0 0 ≤ x2 → sW (sC d) 63 Q 19 [vN, vN, vN, vN, vN] [] M G 0 0) : sW (sC d) 63 Q 11 [vO 10 a0, vI x1, vI x2, vN, vN] [] M G 0 0 := by
  refine q_iload_n 12 rfl (show sCode 63 11 = some (.iload_n 2, 1) by decide +kernel) rfl ?_
  refine q_aload_n 13 rfl (show sCode 63 12 = some (.aload_n 0, 1) by decide +kernel) rfl (Nat.le_of_ble_eq_true rfl) ?_
  refine q_getI 16 rfl (show sCode 63 13 = some (.getfield 9, 3) by decide +kernel) (show sFR (sKo 63).1 9 = some (10, 0) by decide +kernel) (by decide +kernel) (Or.inl (Or.inl rfl)) ?_
  refine q_icmplt 21 19 rfl (by decide) (show sCode 63 16 = some (.if_icmp .lt 5, 3) by decide +kernel) ?_ ?_
  · intro q; exact k1 q
  · intro q; refine q_forget (L' := [vN, vI x1, vI x2, vN, vN]) 0 rfl ?_; refine q_forget (L' := [vN, vN, vI x2, vN, vN]) 1 rfl ?_; refine q_forget (L' := [vN, vN, vN, vN, vN]) 2 rfl ?_; exact k2 q
theorem b63_19 {d : Nat} {P : Int → sM → sG → Prop} {M : sM} {G : sG}   (kk : P 0 M G) : sW (sC d) 63 (QI P) 19 [vN, vN, vN, vN, vN] [] M G 0 0 := by
  refine q_iconst 20 rfl (show sCode 63 19 = some (.iconst 0, 1) by decide +kernel) ⟨by decide, by decide⟩ ?_
  exact q_iret (show sCode 63 20 = some (.ireturn, 1) by decide +kernel) (by decide +kernel) (by decide +kernel) kk
theorem b63_21 {d : Nat} {Q : Option sV → sM → sG → Prop} {M : sM} {G : sG} {a0 : Nat} {x1 : Int} {x2 : Int} (h1 : 0 ≤ x2 ∧ x2 < 6) (h2 : sI ((M (a0 + 4) x2.toNat) - 1)) (kk : sW (sC d) 63 Q 33 [vO 10 a0, vI x1, vI x2, vI 0, vI ((M (a0 + 4) x2.toNat) - 1)] [] M G 0 0) : sW (sC d) 63 Q 21 [vO 10 a0, vI x1, vI x2, vN, vN] [] M G 0 0 := by
  refine q_iconst 22 rfl (show sCode 63 21 = some (.iconst 0, 1) by decide +kernel) ⟨by decide, by decide⟩ ?_
  refine q_istore_n [vO 10 a0, vI x1, vI x2, vI 0, vN] 23 rfl (show sCode 63 22 = some (.istore_n 3, 1) by decide +kernel) (Nat.lt_of_lt_of_le (Nat.lt_succ_self _) (Nat.le_of_ble_eq_true rfl)) rfl rfl ?_
  refine q_aload_n 24 rfl (show sCode 63 23 = some (.aload_n 0, 1) by decide +kernel) rfl (Nat.le_of_ble_eq_true rfl) ?_
  refine q_getR (vA 0 (a0 + 4) 6) 27 rfl (show sCode 63 24 = some (.getfield 25, 3) by decide +kernel) (show sFR (sKo 63).1 25 = some (10, 4) by decide +kernel) (by decide +kernel) (Or.inl (Or.inl rfl)) rfl ?_
  refine q_iload_n 28 rfl (show sCode 63 27 = some (.iload_n 2, 1) by decide +kernel) rfl ?_
  refine q_iald 29 rfl (show sCode 63 28 = some (.iaload, 1) by decide +kernel) h1 ?_
  refine q_iconst 30 rfl (show sCode 63 29 = some (.iconst 1, 1) by decide +kernel) ⟨by decide, by decide⟩ ?_
  refine q_isub 31 rfl (show sCode 63 30 = some (.isub, 1) by decide +kernel) h2 ?_
  refine q_istore [vO 10 a0, vI x1, vI x2, vI 0, vI ((M (a0 + 4) x2.toNat) - 1)] 33 rfl (show sCode 63 31 = some (.istore 4, 2) by decide +kernel) (Nat.lt_of_lt_of_le (Nat.lt_succ_self _) (Nat.le_of_ble_eq_true rfl)) rfl rfl ?_
  exact kk
theorem b63_33 {d : Nat} {Q : Option sV → sM → sG → Prop} {M : sM} {G : sG} {a0 : Nat} {x1 : Int} {x2 : Int} {x3 : Int} {x4 : Int}  (k1 : x4 < 0 → sW (sC d) 63 Q 63 [vN, vN, vN, vI x3, vN] [] M G 0 0) (k2 : 0 ≤ x4 → sW (sC d) 63 Q 38 [vO 10 a0, vI x1, vI x2, vI x3, vI x4] [] M G 0 0) : sW (sC d) 63 Q 33 [vO 10 a0, vI x1, vI x2, vI x3, vI x4] [] M G 0 0 := by
  refine q_iload 35 rfl (show sCode 63 33 = some (.iload 4, 2) by decide +kernel) rfl ?_
  refine q_iflt 63 38 rfl (by decide) (show sCode 63 35 = some (.ifCond .lt 28, 3) by decide +kernel) ?_ ?_
  · intro q; refine q_forget (L' := [vN, vI x1, vI x2, vI x3, vI x4]) 0 rfl ?_; refine q_forget (L' := [vN, vN, vI x2, vI x3, vI x4]) 1 rfl ?_; refine q_forget (L' := [vN, vN, vN, vI x3, vI x4]) 2 rfl ?_; refine q_forget (L' := [vN, vN, vN, vI x3, vN]) 4 rfl ?_; exact k1 q
  · intro q; exact k2 q
theorem b63_38 {d : Nat} {Q : Option sV → sM → sG → Prop} {M : sM} {G : sG} {a0 : Nat} {x1 : Int} {x2 : Int} {x3 : Int} {x4 : Int} (h1 : sI (x2 * 12)) (h2 : sI ((x2 * 12) + x4)) (h3 : 0 ≤ (x2 * 12) + x4 ∧ (x2 * 12) + x4 < 72) (k1 : M (a0 + 5) ((x2 * 12) + x4).toNat = x1 → sW (sC d) 63 Q 63 [vN, vN, vN, vI x3, vN] [] M G 0 0) (k2 : M (a0 + 5) ((x2 * 12) + x4).toNat ≠ x1 → sW (sC d) 63 Q 54 [vO 10 a0, vI x1, vI x2, vI x3, vI x4] [] M G 0 0) : sW (sC d) 63 Q 38 [vO 10 a0, vI x1, vI x2, vI x3, vI x4] [] M G 0 0 := by
  refine q_aload_n 39 rfl (show sCode 63 38 = some (.aload_n 0, 1) by decide +kernel) rfl (Nat.le_of_ble_eq_true rfl) ?_
  refine q_getR (vA 0 (a0 + 5) 72) 42 rfl (show sCode 63 39 = some (.getfield 28, 3) by decide +kernel) (show sFR (sKo 63).1 28 = some (10, 5) by decide +kernel) (by decide +kernel) (Or.inl (Or.inl rfl)) rfl ?_
  refine q_iload_n 43 rfl (show sCode 63 42 = some (.iload_n 2, 1) by decide +kernel) rfl ?_
  refine q_bipush 45 rfl (show sCode 63 43 = some (.bipush 12, 2) by decide +kernel) ⟨by decide, by decide⟩ (by decide +kernel) ?_
  refine q_imul 46 rfl (show sCode 63 45 = some (.imul, 1) by decide +kernel) h1 ?_
  refine q_iload 48 rfl (show sCode 63 46 = some (.iload 4, 2) by decide +kernel) rfl ?_
  refine q_iadd 49 rfl (show sCode 63 48 = some (.iadd, 1) by decide +kernel) h2 ?_
  refine q_iald 50 rfl (show sCode 63 49 = some (.iaload, 1) by decide +kernel) h3 ?_
  refine q_iload_n 51 rfl (show sCode 63 50 = some (.iload_n 1, 1) by decide +kernel) rfl ?_
  refine q_icmpeq 63 54 rfl (by decide) (show sCode 63 51 = some (.if_icmp .eq 12, 3) by decide +kernel) ?_ ?_
  · intro q; refine q_forget (L' := [vN, vI x1, vI x2, vI x3, vI x4]) 0 rfl ?_; refine q_forget (L' := [vN, vN, vI x2, vI x3, vI x4]) 1 rfl ?_; refine q_forget (L' := [vN, vN, vN, vI x3, vI x4]) 2 rfl ?_; refine q_forget (L' := [vN, vN, vN, vI x3, vN]) 4 rfl ?_; exact k1 q
  · intro q; exact k2 q
theorem b63_54 {d : Nat} {Q : Option sV → sM → sG → Prop} {M : sM} {G : sG} {a0 : Nat} {x1 : Int} {x2 : Int} {x3 : Int} {x4 : Int} (h1 : sI (x3 + 1)) (h2 : sI (x4 + (-1))) (kk : sW (sC d) 63 Q 33 [vO 10 a0, vI x1, vI x2, vI (x3 + 1), vI (x4 + (-1))] [] M G 0 0) : sW (sC d) 63 Q 54 [vO 10 a0, vI x1, vI x2, vI x3, vI x4] [] M G 0 0 := by
  refine q_iinc [vO 10 a0, vI x1, vI x2, vI (x3 + 1), vI x4] 57 rfl (show sCode 63 54 = some (.iinc 3 1, 3) by decide +kernel) rfl rfl h1 rfl ?_
  refine q_iinc [vO 10 a0, vI x1, vI x2, vI (x3 + 1), vI (x4 + (-1))] 60 rfl (show sCode 63 57 = some (.iinc 4 (-1), 3) by decide +kernel) rfl rfl h2 rfl ?_
  refine q_goto 33 (by decide) (show sCode 63 60 = some (.goto (-27), 3) by decide +kernel) ?_
  exact kk
theorem b63_63 {d : Nat} {P : Int → sM → sG → Prop} {M : sM} {G : sG} {x3 : Int}  (kk : P x3 M G) : sW (sC d) 63 (QI P) 63 [vN, vN, vN, vI x3, vN] [] M G 0 0 := by
  refine q_iload_n 64 rfl (show sCode 63 63 = some (.iload_n 3, 1) by decide +kernel) rfl ?_
  exact q_iret (show sCode 63 64 = some (.ireturn, 1) by decide +kernel) (by decide +kernel) (by decide +kernel) kk
-- 65 AfterTheLast$Town.served ()I
theorem b65_0 {d : Nat} {Q : Option sV → sM → sG → Prop} {M : sM} {G : sG} {a0 : Nat}  (kk : sW (sC d) 65 Q 4 [vO 10 a0, vI 0, vI 0] [] M G 0 0) : sW (sC d) 65 Q 0 [vO 10 a0, vN, vN] [] M G 0 0 := by
  refine q_iconst 1 rfl (show sCode 65 0 = some (.iconst 0, 1) by decide +kernel) ⟨by decide, by decide⟩ ?_
  refine q_istore_n [vO 10 a0, vI 0, vN] 2 rfl (show sCode 65 1 = some (.istore_n 1, 1) by decide +kernel) (Nat.lt_of_lt_of_le (Nat.lt_succ_self _) (Nat.le_of_ble_eq_true rfl)) rfl rfl ?_
  refine q_iconst 3 rfl (show sCode 65 2 = some (.iconst 0, 1) by decide +kernel) ⟨by decide, by decide⟩ ?_
  refine q_istore_n [vO 10 a0, vI 0, vI 0] 4 rfl (show sCode 65 3 = some (.istore_n 2, 1) by decide +kernel) (Nat.lt_of_lt_of_le (Nat.lt_succ_self _) (Nat.le_of_ble_eq_true rfl)) rfl rfl ?_
  exact kk
theorem b65_4 {d : Nat} {Q : Option sV → sM → sG → Prop} {M : sM} {G : sG} {a0 : Nat} {x1 : Int} {x2 : Int}  (k1 : M a0 6 ≤ x2 → sW (sC d) 65 Q 27 [vN, vI x1, vN] [] M G 0 0) (k2 : x2 < M a0 6 → sW (sC d) 65 Q 12 [vO 10 a0, vI x1, vI x2] [] M G 0 0) : sW (sC d) 65 Q 4 [vO 10 a0, vI x1, vI x2] [] M G 0 0 := by
  refine q_iload_n 5 rfl (show sCode 65 4 = some (.iload_n 2, 1) by decide +kernel) rfl ?_
  refine q_aload_n 6 rfl (show sCode 65 5 = some (.aload_n 0, 1) by decide +kernel) rfl (Nat.le_of_ble_eq_true rfl) ?_
  refine q_getI 9 rfl (show sCode 65 6 = some (.getfield 31, 3) by decide +kernel) (show sFR (sKo 65).1 31 = some (10, 6) by decide +kernel) (by decide +kernel) (Or.inl (Or.inl rfl)) ?_
  refine q_icmpge 27 12 rfl (by decide) (show sCode 65 9 = some (.if_icmp .ge 18, 3) by decide +kernel) ?_ ?_
  · intro q; refine q_forget (L' := [vN, vI x1, vI x2]) 0 rfl ?_; refine q_forget (L' := [vN, vI x1, vN]) 2 rfl ?_; exact k1 q
  · intro q; exact k2 q
theorem b65_12 {d : Nat} {Q : Option sV → sM → sG → Prop} {M : sM} {G : sG} {a0 : Nat} {x1 : Int} {x2 : Int} (h1 : 0 ≤ x2 ∧ x2 < 18) (h2 : sI (x1 + (M (a0 + 11) x2.toNat))) (h3 : sI (x2 + 1)) (kk : sW (sC d) 65 Q 4 [vO 10 a0, vI (x1 + (M (a0 + 11) x2.toNat)), vI (x2 + 1)] [] M G 0 0) : sW (sC d) 65 Q 12 [vO 10 a0, vI x1, vI x2] [] M G 0 0 := by
  refine q_iload_n 13 rfl (show sCode 65 12 = some (.iload_n 1, 1) by decide +kernel) rfl ?_
  refine q_aload_n 14 rfl (show sCode 65 13 = some (.aload_n 0, 1) by decide +kernel) rfl (Nat.le_of_ble_eq_true rfl) ?_
  refine q_getR (vA 0 (a0 + 11) 18) 17 rfl (show sCode 65 14 = some (.getfield 49, 3) by decide +kernel) (show sFR (sKo 65).1 49 = some (10, 12) by decide +kernel) (by decide +kernel) (Or.inl (Or.inl rfl)) rfl ?_
  refine q_iload_n 18 rfl (show sCode 65 17 = some (.iload_n 2, 1) by decide +kernel) rfl ?_
  refine q_iald 19 rfl (show sCode 65 18 = some (.iaload, 1) by decide +kernel) h1 ?_
  refine q_iadd 20 rfl (show sCode 65 19 = some (.iadd, 1) by decide +kernel) h2 ?_
  refine q_istore_n [vO 10 a0, vI (x1 + (M (a0 + 11) x2.toNat)), vI x2] 21 rfl (show sCode 65 20 = some (.istore_n 1, 1) by decide +kernel) (Nat.lt_of_lt_of_le (Nat.lt_succ_self _) (Nat.le_of_ble_eq_true rfl)) rfl rfl ?_
  refine q_iinc [vO 10 a0, vI (x1 + (M (a0 + 11) x2.toNat)), vI (x2 + 1)] 24 rfl (show sCode 65 21 = some (.iinc 2 1, 3) by decide +kernel) rfl rfl h3 rfl ?_
  refine q_goto 4 (by decide) (show sCode 65 24 = some (.goto (-20), 3) by decide +kernel) ?_
  exact kk
theorem b65_27 {d : Nat} {P : Int → sM → sG → Prop} {M : sM} {G : sG} {x1 : Int}  (kk : P x1 M G) : sW (sC d) 65 (QI P) 27 [vN, vI x1, vN] [] M G 0 0 := by
  refine q_iload_n 28 rfl (show sCode 65 27 = some (.iload_n 1, 1) by decide +kernel) rfl ?_
  exact q_iret (show sCode 65 28 = some (.ireturn, 1) by decide +kernel) (by decide +kernel) (by decide +kernel) kk
-- 66 AfterTheLast$Town.missed ()I
theorem b66_0 {d : Nat} {Q : Option sV → sM → sG → Prop} {M : sM} {G : sG} {a0 : Nat}  (kk : sW (sC d) 66 Q 4 [vO 10 a0, vI 0, vI 0] [] M G 0 0) : sW (sC d) 66 Q 0 [vO 10 a0, vN, vN] [] M G 0 0 := by
  refine q_iconst 1 rfl (show sCode 66 0 = some (.iconst 0, 1) by decide +kernel) ⟨by decide, by decide⟩ ?_
  refine q_istore_n [vO 10 a0, vI 0, vN] 2 rfl (show sCode 66 1 = some (.istore_n 1, 1) by decide +kernel) (Nat.lt_of_lt_of_le (Nat.lt_succ_self _) (Nat.le_of_ble_eq_true rfl)) rfl rfl ?_
  refine q_iconst 3 rfl (show sCode 66 2 = some (.iconst 0, 1) by decide +kernel) ⟨by decide, by decide⟩ ?_
  refine q_istore_n [vO 10 a0, vI 0, vI 0] 4 rfl (show sCode 66 3 = some (.istore_n 2, 1) by decide +kernel) (Nat.lt_of_lt_of_le (Nat.lt_succ_self _) (Nat.le_of_ble_eq_true rfl)) rfl rfl ?_
  exact kk
theorem b66_4 {d : Nat} {Q : Option sV → sM → sG → Prop} {M : sM} {G : sG} {a0 : Nat} {x1 : Int} {x2 : Int}  (k1 : M a0 6 ≤ x2 → sW (sC d) 66 Q 43 [vN, vI x1, vN] [] M G 0 0) (k2 : x2 < M a0 6 → sW (sC d) 66 Q 12 [vO 10 a0, vI x1, vI x2] [] M G 0 0) : sW (sC d) 66 Q 4 [vO 10 a0, vI x1, vI x2] [] M G 0 0 := by
  refine q_iload_n 5 rfl (show sCode 66 4 = some (.iload_n 2, 1) by decide +kernel) rfl ?_
  refine q_aload_n 6 rfl (show sCode 66 5 = some (.aload_n 0, 1) by decide +kernel) rfl (Nat.le_of_ble_eq_true rfl) ?_
  refine q_getI 9 rfl (show sCode 66 6 = some (.getfield 31, 3) by decide +kernel) (show sFR (sKo 66).1 31 = some (10, 6) by decide +kernel) (by decide +kernel) (Or.inl (Or.inl rfl)) ?_
  refine q_icmpge 43 12 rfl (by decide) (show sCode 66 9 = some (.if_icmp .ge 34, 3) by decide +kernel) ?_ ?_
  · intro q; refine q_forget (L' := [vN, vI x1, vI x2]) 0 rfl ?_; refine q_forget (L' := [vN, vI x1, vN]) 2 rfl ?_; exact k1 q
  · intro q; exact k2 q
theorem b66_12 {d : Nat} {Q : Option sV → sM → sG → Prop} {M : sM} {G : sG} {a0 : Nat} {x1 : Int} {x2 : Int} (h1 : 0 ≤ x2 ∧ x2 < 18) (k1 : M (a0 + 11) x2.toNat ≠ 0 → sW (sC d) 66 Q 37 [vO 10 a0, vI x1, vI x2] [] M G 0 0) (k2 : M (a0 + 11) x2.toNat = 0 → sW (sC d) 66 Q 21 [vO 10 a0, vI x1, vI x2] [] M G 0 0) : sW (sC d) 66 Q 12 [vO 10 a0, vI x1, vI x2] [] M G 0 0 := by
  refine q_aload_n 13 rfl (show sCode 66 12 = some (.aload_n 0, 1) by decide +kernel) rfl (Nat.le_of_ble_eq_true rfl) ?_
  refine q_getR (vA 0 (a0 + 11) 18) 16 rfl (show sCode 66 13 = some (.getfield 49, 3) by decide +kernel) (show sFR (sKo 66).1 49 = some (10, 12) by decide +kernel) (by decide +kernel) (Or.inl (Or.inl rfl)) rfl ?_
  refine q_iload_n 17 rfl (show sCode 66 16 = some (.iload_n 2, 1) by decide +kernel) rfl ?_
  refine q_iald 18 rfl (show sCode 66 17 = some (.iaload, 1) by decide +kernel) h1 ?_
  refine q_ifne 37 21 rfl (by decide) (show sCode 66 18 = some (.ifCond .ne 19, 3) by decide +kernel) ?_ ?_
  · intro q; exact k1 q
  · intro q; exact k2 q
theorem b66_21 {d : Nat} {Q : Option sV → sM → sG → Prop} {M : sM} {G : sG} {a0 : Nat} {x1 : Int} {x2 : Int} (h1 : 0 ≤ x2 ∧ x2 < 18) (k1 : M a0 13 < M (a0 + 9) x2.toNat → sW (sC d) 66 Q 37 [vO 10 a0, vI x1, vI x2] [] M G 0 0) (k2 : M (a0 + 9) x2.toNat ≤ M a0 13 → sW (sC d) 66 Q 34 [vO 10 a0, vI x1, vI x2] [] M G 0 0) : sW (sC d) 66 Q 21 [vO 10 a0, vI x1, vI x2] [] M G 0 0 := by
  refine q_aload_n 22 rfl (show sCode 66 21 = some (.aload_n 0, 1) by decide +kernel) rfl (Nat.le_of_ble_eq_true rfl) ?_
  refine q_getR (vA 0 (a0 + 9) 18) 25 rfl (show sCode 66 22 = some (.getfield 43, 3) by decide +kernel) (show sFR (sKo 66).1 43 = some (10, 10) by decide +kernel) (by decide +kernel) (Or.inl (Or.inl rfl)) rfl ?_
  refine q_iload_n 26 rfl (show sCode 66 25 = some (.iload_n 2, 1) by decide +kernel) rfl ?_
  refine q_iald 27 rfl (show sCode 66 26 = some (.iaload, 1) by decide +kernel) h1 ?_
  refine q_aload_n 28 rfl (show sCode 66 27 = some (.aload_n 0, 1) by decide +kernel) rfl (Nat.le_of_ble_eq_true rfl) ?_
  refine q_getI 31 rfl (show sCode 66 28 = some (.getfield 52, 3) by decide +kernel) (show sFR (sKo 66).1 52 = some (10, 13) by decide +kernel) (by decide +kernel) (Or.inl (Or.inl rfl)) ?_
  refine q_icmpgt 37 34 rfl (by decide) (show sCode 66 31 = some (.if_icmp .gt 6, 3) by decide +kernel) ?_ ?_
  · intro q; exact k1 q
  · intro q; exact k2 q
theorem b66_34 {d : Nat} {Q : Option sV → sM → sG → Prop} {M : sM} {G : sG} {a0 : Nat} {x1 : Int} {x2 : Int} (h1 : sI (x1 + 1)) (kk : sW (sC d) 66 Q 37 [vO 10 a0, vI (x1 + 1), vI x2] [] M G 0 0) : sW (sC d) 66 Q 34 [vO 10 a0, vI x1, vI x2] [] M G 0 0 := by
  refine q_iinc [vO 10 a0, vI (x1 + 1), vI x2] 37 rfl (show sCode 66 34 = some (.iinc 1 1, 3) by decide +kernel) rfl rfl h1 rfl ?_
  exact kk
theorem b66_37 {d : Nat} {Q : Option sV → sM → sG → Prop} {M : sM} {G : sG} {a0 : Nat} {x1 : Int} {x2 : Int} (h1 : sI (x2 + 1)) (kk : sW (sC d) 66 Q 4 [vO 10 a0, vI x1, vI (x2 + 1)] [] M G 0 0) : sW (sC d) 66 Q 37 [vO 10 a0, vI x1, vI x2] [] M G 0 0 := by
  refine q_iinc [vO 10 a0, vI x1, vI (x2 + 1)] 40 rfl (show sCode 66 37 = some (.iinc 2 1, 3) by decide +kernel) rfl rfl h1 rfl ?_
  refine q_goto 4 (by decide) (show sCode 66 40 = some (.goto (-36), 3) by decide +kernel) ?_
  exact kk
theorem b66_43 {d : Nat} {P : Int → sM → sG → Prop} {M : sM} {G : sG} {x1 : Int}  (kk : P x1 M G) : sW (sC d) 66 (QI P) 43 [vN, vI x1, vN] [] M G 0 0 := by
  refine q_iload_n 44 rfl (show sCode 66 43 = some (.iload_n 1, 1) by decide +kernel) rfl ?_
  exact q_iret (show sCode 66 44 = some (.ireturn, 1) by decide +kernel) (by decide +kernel) (by decide +kernel) kk
-- 67 AfterTheLast$Town.allInside ()I
theorem b67_0 {d : Nat} {Q : Option sV → sM → sG → Prop} {M : sM} {G : sG} {a0 : Nat}  (kk : sW (sC d) 67 Q 4 [vO 10 a0, vI 0, vI 0] [] M G 0 0) : sW (sC d) 67 Q 0 [vO 10 a0, vN, vN] [] M G 0 0 := by
  refine q_iconst 1 rfl (show sCode 67 0 = some (.iconst 0, 1) by decide +kernel) ⟨by decide, by decide⟩ ?_
  refine q_istore_n [vO 10 a0, vI 0, vN] 2 rfl (show sCode 67 1 = some (.istore_n 1, 1) by decide +kernel) (Nat.lt_of_lt_of_le (Nat.lt_succ_self _) (Nat.le_of_ble_eq_true rfl)) rfl rfl ?_
  refine q_iconst 3 rfl (show sCode 67 2 = some (.iconst 0, 1) by decide +kernel) ⟨by decide, by decide⟩ ?_
  refine q_istore_n [vO 10 a0, vI 0, vI 0] 4 rfl (show sCode 67 3 = some (.istore_n 2, 1) by decide +kernel) (Nat.lt_of_lt_of_le (Nat.lt_succ_self _) (Nat.le_of_ble_eq_true rfl)) rfl rfl ?_
  exact kk
theorem b67_4 {d : Nat} {Q : Option sV → sM → sG → Prop} {M : sM} {G : sG} {a0 : Nat} {x1 : Int} {x2 : Int}  (k1 : M a0 0 ≤ x2 → sW (sC d) 67 Q 27 [vN, vI x1, vN] [] M G 0 0) (k2 : x2 < M a0 0 → sW (sC d) 67 Q 12 [vO 10 a0, vI x1, vI x2] [] M G 0 0) : sW (sC d) 67 Q 4 [vO 10 a0, vI x1, vI x2] [] M G 0 0 := by
  refine q_iload_n 5 rfl (show sCode 67 4 = some (.iload_n 2, 1) by decide +kernel) rfl ?_
  refine q_aload_n 6 rfl (show sCode 67 5 = some (.aload_n 0, 1) by decide +kernel) rfl (Nat.le_of_ble_eq_true rfl) ?_
  refine q_getI 9 rfl (show sCode 67 6 = some (.getfield 9, 3) by decide +kernel) (show sFR (sKo 67).1 9 = some (10, 0) by decide +kernel) (by decide +kernel) (Or.inl (Or.inl rfl)) ?_
  refine q_icmpge 27 12 rfl (by decide) (show sCode 67 9 = some (.if_icmp .ge 18, 3) by decide +kernel) ?_ ?_
  · intro q; refine q_forget (L' := [vN, vI x1, vI x2]) 0 rfl ?_; refine q_forget (L' := [vN, vI x1, vN]) 2 rfl ?_; exact k1 q
  · intro q; exact k2 q
theorem b67_12 {d : Nat} {Q : Option sV → sM → sG → Prop} {M : sM} {G : sG} {a0 : Nat} {x1 : Int} {x2 : Int} (h1 : 0 ≤ x2 ∧ x2 < 6) (h2 : sI (x1 + (M (a0 + 4) x2.toNat))) (h3 : sI (x2 + 1)) (kk : sW (sC d) 67 Q 4 [vO 10 a0, vI (x1 + (M (a0 + 4) x2.toNat)), vI (x2 + 1)] [] M G 0 0) : sW (sC d) 67 Q 12 [vO 10 a0, vI x1, vI x2] [] M G 0 0 := by
  refine q_iload_n 13 rfl (show sCode 67 12 = some (.iload_n 1, 1) by decide +kernel) rfl ?_
  refine q_aload_n 14 rfl (show sCode 67 13 = some (.aload_n 0, 1) by decide +kernel) rfl (Nat.le_of_ble_eq_true rfl) ?_
  refine q_getR (vA 0 (a0 + 4) 6) 17 rfl (show sCode 67 14 = some (.getfield 25, 3) by decide +kernel) (show sFR (sKo 67).1 25 = some (10, 4) by decide +kernel) (by decide +kernel) (Or.inl (Or.inl rfl)) rfl ?_
  refine q_iload_n 18 rfl (show sCode 67 17 = some (.iload_n 2, 1) by decide +kernel) rfl ?_
  refine q_iald 19 rfl (show sCode 67 18 = some (.iaload, 1) by decide +kernel) h1 ?_
  refine q_iadd 20 rfl (show sCode 67 19 = some (.iadd, 1) by decide +kernel) h2 ?_
  refine q_istore_n [vO 10 a0, vI (x1 + (M (a0 + 4) x2.toNat)), vI x2] 21 rfl (show sCode 67 20 = some (.istore_n 1, 1) by decide +kernel) (Nat.lt_of_lt_of_le (Nat.lt_succ_self _) (Nat.le_of_ble_eq_true rfl)) rfl rfl ?_
  refine q_iinc [vO 10 a0, vI (x1 + (M (a0 + 4) x2.toNat)), vI (x2 + 1)] 24 rfl (show sCode 67 21 = some (.iinc 2 1, 3) by decide +kernel) rfl rfl h3 rfl ?_
  refine q_goto 4 (by decide) (show sCode 67 24 = some (.goto (-20), 3) by decide +kernel) ?_
  exact kk
theorem b67_27 {d : Nat} {P : Int → sM → sG → Prop} {M : sM} {G : sG} {x1 : Int}  (kk : P x1 M G) : sW (sC d) 67 (QI P) 27 [vN, vI x1, vN] [] M G 0 0 := by
  refine q_iload_n 28 rfl (show sCode 67 27 = some (.iload_n 1, 1) by decide +kernel) rfl ?_
  exact q_iret (show sCode 67 28 = some (.ireturn, 1) by decide +kernel) (by decide +kernel) (by decide +kernel) kk
-- 69 AfterTheLast$Town.roomLeft (I)I
theorem b69_0 {d : Nat} {P : Int → sM → sG → Prop} {M : sM} {G : sG} {a0 : Nat} {x1 : Int} (h1 : 0 ≤ x1 ∧ x1 < 6) (h2 : 0 ≤ x1 ∧ x1 < 6) (h3 : sI ((M (a0 + 2) x1.toNat) - (M (a0 + 4) x1.toNat))) (kk : P ((M (a0 + 2) x1.toNat) - (M (a0 + 4) x1.toNat)) M G) : sW (sC d) 69 (QI P) 0 [vO 10 a0, vI x1] [] M G 0 0 := by
  refine q_aload_n 1 rfl (show sCode 69 0 = some (.aload_n 0, 1) by decide +kernel) rfl (Nat.le_of_ble_eq_true rfl) ?_
  refine q_getR (vA 0 (a0 + 2) 6) 4 rfl (show sCode 69 1 = some (.getfield 19, 3) by decide +kernel) (show sFR (sKo 69).1 19 = some (10, 2) by decide +kernel) (by decide +kernel) (Or.inl (Or.inl rfl)) rfl ?_
  refine q_iload_n 5 rfl (show sCode 69 4 = some (.iload_n 1, 1) by decide +kernel) rfl ?_
  refine q_iald 6 rfl (show sCode 69 5 = some (.iaload, 1) by decide +kernel) h1 ?_
  refine q_aload_n 7 rfl (show sCode 69 6 = some (.aload_n 0, 1) by decide +kernel) rfl (Nat.le_of_ble_eq_true rfl) ?_
  refine q_getR (vA 0 (a0 + 4) 6) 10 rfl (show sCode 69 7 = some (.getfield 25, 3) by decide +kernel) (show sFR (sKo 69).1 25 = some (10, 4) by decide +kernel) (by decide +kernel) (Or.inl (Or.inl rfl)) rfl ?_
  refine q_iload_n 11 rfl (show sCode 69 10 = some (.iload_n 1, 1) by decide +kernel) rfl ?_
  refine q_iald 12 rfl (show sCode 69 11 = some (.iaload, 1) by decide +kernel) h2 ?_
  refine q_isub 13 rfl (show sCode 69 12 = some (.isub, 1) by decide +kernel) h3 ?_
  exact q_iret (show sCode 69 13 = some (.ireturn, 1) by decide +kernel) (by decide +kernel) (by decide +kernel) kk
-- 70 AfterTheLast$Town.enter (III)V
theorem b70_0 {d : Nat} {Q : Option sV → sM → sG → Prop} {M : sM} {G : sG} {a0 : Nat} {x1 : Int} {x2 : Int} {x3 : Int}  (kk : sC d 55 [vO 10 a0, vI x2] M G (QI (fun r M1 G1 => sW (sC d) 70 Q 5 [vO 10 a0, vI x1, vI x2, vI x3] (vI r :: []) M1 G1 0 0))) : sW (sC d) 70 Q 0 [vO 10 a0, vI x1, vI x2, vI x3] [] M G 0 0 := by
  refine q_aload_n 1 rfl (show sCode 70 0 = some (.aload_n 0, 1) by decide +kernel) rfl (Nat.le_of_ble_eq_true rfl) ?_
  refine q_iload_n 2 rfl (show sCode 70 1 = some (.iload_n 2, 1) by decide +kernel) rfl ?_
  exact q_virtI [vI x2] 5 rfl (show sCode 70 2 = some (.invokevirtual 82, 3) by decide +kernel) (show sMR (sKo 70).1 82 = some 55 by decide +kernel) (show 55 < 1000 ∧ sStat 55 = false ∧ sIni 55 = false ∧ sKo 55 = (10, 1, 2, 0, 0) by decide +kernel) rfl (Or.inl rfl) rfl (Nat.le_of_ble_eq_true rfl) rfl rfl rfl (by decide +kernel) kk
theorem b70_5 {d : Nat} {Q : Option sV → sM → sG → Prop} {M : sM} {G : sG} {a0 : Nat} {x1 : Int} {x2 : Int} {x3 : Int} {s0 : Int}  (k1 : s0 = 0 → sW (sC d) 70 Q 19 [vN, vN, vN, vN] [] M G 0 0) (k2 : s0 ≠ 0 → sW (sC d) 70 Q 8 [vO 10 a0, vI x1, vI x2, vI x3] [] M G 0 0) : sW (sC d) 70 Q 5 [vO 10 a0, vI x1, vI x2, vI x3] [vI s0] M G 0 0 := by
  refine q_ifeq 19 8 rfl (by decide) (show sCode 70 5 = some (.ifCond .eq 14, 3) by decide +kernel) ?_ ?_
  · intro q; refine q_forget (L' := [vN, vI x1, vI x2, vI x3]) 0 rfl ?_; refine q_forget (L' := [vN, vN, vI x2, vI x3]) 1 rfl ?_; refine q_forget (L' := [vN, vN, vN, vI x3]) 2 rfl ?_; refine q_forget (L' := [vN, vN, vN, vN]) 3 rfl ?_; exact k1 q
  · intro q; exact k2 q
theorem b70_8 {d : Nat} {Q : Option sV → sM → sG → Prop} {M : sM} {G : sG} {a0 : Nat} {x1 : Int} {x2 : Int} {x3 : Int} (h1 : 0 ≤ x2 ∧ x2 < 6) (k1 : M (a0 + 4) x2.toNat < 12 → sW (sC d) 70 Q 20 [vO 10 a0, vI x1, vI x2, vI x3] [] M G 0 0) (k2 : 12 ≤ M (a0 + 4) x2.toNat → sW (sC d) 70 Q 19 [vN, vN, vN, vN] [] M G 0 0) : sW (sC d) 70 Q 8 [vO 10 a0, vI x1, vI x2, vI x3] [] M G 0 0 := by
  refine q_aload_n 9 rfl (show sCode 70 8 = some (.aload_n 0, 1) by decide +kernel) rfl (Nat.le_of_ble_eq_true rfl) ?_
  refine q_getR (vA 0 (a0 + 4) 6) 12 rfl (show sCode 70 9 = some (.getfield 25, 3) by decide +kernel) (show sFR (sKo 70).1 25 = some (10, 4) by decide +kernel) (by decide +kernel) (Or.inl (Or.inl rfl)) rfl ?_
  refine q_iload_n 13 rfl (show sCode 70 12 = some (.iload_n 2, 1) by decide +kernel) rfl ?_
  refine q_iald 14 rfl (show sCode 70 13 = some (.iaload, 1) by decide +kernel) h1 ?_
  refine q_bipush 16 rfl (show sCode 70 14 = some (.bipush 12, 2) by decide +kernel) ⟨by decide, by decide⟩ (by decide +kernel) ?_
  refine q_icmplt 20 19 rfl (by decide) (show sCode 70 16 = some (.if_icmp .lt 4, 3) by decide +kernel) ?_ ?_
  · intro q; exact k1 q
  · intro q; refine q_forget (L' := [vN, vI x1, vI x2, vI x3]) 0 rfl ?_; refine q_forget (L' := [vN, vN, vI x2, vI x3]) 1 rfl ?_; refine q_forget (L' := [vN, vN, vN, vI x3]) 2 rfl ?_; refine q_forget (L' := [vN, vN, vN, vN]) 3 rfl ?_; exact k2 q
theorem b70_19 {d : Nat} {P : sM → sG → Prop} {M : sM} {G : sG}   (kk : P M G) : sW (sC d) 70 (QV P) 19 [vN, vN, vN, vN] [] M G 0 0 := by
  exact q_vret (show sCode 70 19 = some (.return_, 1) by decide +kernel) (by decide +kernel) (by decide +kernel) kk
theorem b70_20 {d : Nat} {Q : Option sV → sM → sG → Prop} {M : sM} {G : sG} {a0 : Nat} {x1 : Int} {x2 : Int} {x3 : Int} (h1 : sI (x2 * 12)) (h2 : 0 ≤ x2 ∧ x2 < 6) (h3 : sI ((x2 * 12) + (M (a0 + 4) x2.toNat))) (h4 : 0 ≤ (x2 * 12) + (M (a0 + 4) x2.toNat) ∧ (x2 * 12) + (M (a0 + 4) x2.toNat) < 72) (h5 : 0 ≤ x2 ∧ x2 < 6) (h6 : sI (((sUpd M (a0 + 5) ((x2 * 12) + (M (a0 + 4) x2.toNat)).toNat x1) (a0 + 4) x2.toNat) + 1)) (h7 : 0 ≤ x2 ∧ x2 < 6) (h8 : 0 ≤ x1 ∧ x1 < 12) (h9 : 0 ≤ x1 ∧ x1 < 12) (kk : sC d 59 [vO 10 a0, vI x3] (sUpd (sUpd (sUpd (sUpd M (a0 + 5) ((x2 * 12) + (M (a0 + 4) x2.toNat)).toNat x1) (a0 + 4) x2.toNat (((sUpd M (a0 + 5) ((x2 * 12) + (M (a0 + 4) x2.toNat)).toNat x1) (a0 + 4) x2.toNat) + 1)) (a0 + 12) x1.toNat x2) (a0 + 13) x1.toNat x3) G (QI (fun r M1 G1 => sW (sC d) 70 Q 66 [vO 10 a0, vI x1, vI x2, vI x3] (vI r :: []) M1 G1 0 0))) : sW (sC d) 70 Q 20 [vO 10 a0, vI x1, vI x2, vI x3] [] M G 0 0 := by
  refine q_aload_n 21 rfl (show sCode 70 20 = some (.aload_n 0, 1) by decide +kernel) rfl (Nat.le_of_ble_eq_true rfl) ?_
  refine q_getR (vA 0 (a0 + 5) 72) 24 rfl (show sCode 70 21 = some (.getfield 28, 3) by decide +kernel) (show sFR (sKo 70).1 28 = some (10, 5) by decide +kernel) (by decide +kernel) (Or.inl (Or.inl rfl)) rfl ?_
  refine q_iload_n 25 rfl (show sCode 70 24 = some (.iload_n 2, 1) by decide +kernel) rfl ?_
  refine q_bipush 27 rfl (show sCode 70 25 = some (.bipush 12, 2) by decide +kernel) ⟨by decide, by decide⟩ (by decide +kernel) ?_
  refine q_imul 28 rfl (show sCode 70 27 = some (.imul, 1) by decide +kernel) h1 ?_
  refine q_aload_n 29 rfl (show sCode 70 28 = some (.aload_n 0, 1) by decide +kernel) rfl (Nat.le_of_ble_eq_true rfl) ?_
  refine q_getR (vA 0 (a0 + 4) 6) 32 rfl (show sCode 70 29 = some (.getfield 25, 3) by decide +kernel) (show sFR (sKo 70).1 25 = some (10, 4) by decide +kernel) (by decide +kernel) (Or.inl (Or.inl rfl)) rfl ?_
  refine q_iload_n 33 rfl (show sCode 70 32 = some (.iload_n 2, 1) by decide +kernel) rfl ?_
  refine q_iald 34 rfl (show sCode 70 33 = some (.iaload, 1) by decide +kernel) h2 ?_
  refine q_iadd 35 rfl (show sCode 70 34 = some (.iadd, 1) by decide +kernel) h3 ?_
  refine q_iload_n 36 rfl (show sCode 70 35 = some (.iload_n 1, 1) by decide +kernel) rfl ?_
  refine q_iast 37 rfl (show sCode 70 36 = some (.iastore, 1) by decide +kernel) h4 ?_
  refine q_aload_n 38 rfl (show sCode 70 37 = some (.aload_n 0, 1) by decide +kernel) rfl (Nat.le_of_ble_eq_true rfl) ?_
  refine q_getR (vA 0 (a0 + 4) 6) 41 rfl (show sCode 70 38 = some (.getfield 25, 3) by decide +kernel) (show sFR (sKo 70).1 25 = some (10, 4) by decide +kernel) (by decide +kernel) (Or.inl (Or.inl rfl)) rfl ?_
  refine q_iload_n 42 rfl (show sCode 70 41 = some (.iload_n 2, 1) by decide +kernel) rfl ?_
  refine q_dup2 43 rfl (show sCode 70 42 = some (.dup2, 1) by decide +kernel) rfl rfl ?_
  refine q_iald 44 rfl (show sCode 70 43 = some (.iaload, 1) by decide +kernel) h5 ?_
  refine q_iconst 45 rfl (show sCode 70 44 = some (.iconst 1, 1) by decide +kernel) ⟨by decide, by decide⟩ ?_
  refine q_iadd 46 rfl (show sCode 70 45 = some (.iadd, 1) by decide +kernel) h6 ?_
  refine q_iast 47 rfl (show sCode 70 46 = some (.iastore, 1) by decide +kernel) h7 ?_
  refine q_aload_n 48 rfl (show sCode 70 47 = some (.aload_n 0, 1) by decide +kernel) rfl (Nat.le_of_ble_eq_true rfl) ?_
  refine q_getR (vA 0 (a0 + 12) 12) 51 rfl (show sCode 70 48 = some (.getfield 58, 3) by decide +kernel) (show sFR (sKo 70).1 58 = some (10, 15) by decide +kernel) (by decide +kernel) (Or.inl (Or.inl rfl)) rfl ?_
  refine q_iload_n 52 rfl (show sCode 70 51 = some (.iload_n 1, 1) by decide +kernel) rfl ?_
  refine q_iload_n 53 rfl (show sCode 70 52 = some (.iload_n 2, 1) by decide +kernel) rfl ?_
  refine q_iast 54 rfl (show sCode 70 53 = some (.iastore, 1) by decide +kernel) h8 ?_
  refine q_aload_n 55 rfl (show sCode 70 54 = some (.aload_n 0, 1) by decide +kernel) rfl (Nat.le_of_ble_eq_true rfl) ?_
  refine q_getR (vA 0 (a0 + 13) 12) 58 rfl (show sCode 70 55 = some (.getfield 61, 3) by decide +kernel) (show sFR (sKo 70).1 61 = some (10, 16) by decide +kernel) (by decide +kernel) (Or.inl (Or.inl rfl)) rfl ?_
  refine q_iload_n 59 rfl (show sCode 70 58 = some (.iload_n 1, 1) by decide +kernel) rfl ?_
  refine q_iload_n 60 rfl (show sCode 70 59 = some (.iload_n 3, 1) by decide +kernel) rfl ?_
  refine q_iast 61 rfl (show sCode 70 60 = some (.iastore, 1) by decide +kernel) h9 ?_
  refine q_aload_n 62 rfl (show sCode 70 61 = some (.aload_n 0, 1) by decide +kernel) rfl (Nat.le_of_ble_eq_true rfl) ?_
  refine q_iload_n 63 rfl (show sCode 70 62 = some (.iload_n 3, 1) by decide +kernel) rfl ?_
  exact q_virtI [vI x3] 66 rfl (show sCode 70 63 = some (.invokevirtual 93, 3) by decide +kernel) (show sMR (sKo 70).1 93 = some 59 by decide +kernel) (show 59 < 1000 ∧ sStat 59 = false ∧ sIni 59 = false ∧ sKo 59 = (10, 1, 2, 0, 0) by decide +kernel) rfl (Or.inl rfl) rfl (Nat.le_of_ble_eq_true rfl) rfl rfl rfl (by decide +kernel) kk
theorem b70_66 {d : Nat} {Q : Option sV → sM → sG → Prop} {M : sM} {G : sG} {a0 : Nat} {x1 : Int} {x2 : Int} {x3 : Int} {s0 : Int}  (k1 : s0 = 0 → sW (sC d) 70 Q 76 [vO 10 a0, vI x1, vI x2, vN] [] M G 0 0) (k2 : s0 ≠ 0 → sW (sC d) 70 Q 69 [vO 10 a0, vI x1, vI x2, vI x3] [] M G 0 0) : sW (sC d) 70 Q 66 [vO 10 a0, vI x1, vI x2, vI x3] [vI s0] M G 0 0 := by
  refine q_ifeq 76 69 rfl (by decide) (show sCode 70 66 = some (.ifCond .eq 10, 3) by decide +kernel) ?_ ?_
  · intro q; refine q_forget (L' := [vO 10 a0, vI x1, vI x2, vN]) 3 rfl ?_; exact k1 q
  · intro q; exact k2 q
theorem b70_69 {d : Nat} {Q : Option sV → sM → sG → Prop} {M : sM} {G : sG} {a0 : Nat} {x1 : Int} {x2 : Int} {x3 : Int} (h1 : 0 ≤ x3 ∧ x3 < 18) (kk : sW (sC d) 70 Q 76 [vO 10 a0, vI x1, vI x2, vN] [] (sUpd M (a0 + 11) x3.toNat 1) G 0 0) : sW (sC d) 70 Q 69 [vO 10 a0, vI x1, vI x2, vI x3] [] M G 0 0 := by
  refine q_aload_n 70 rfl (show sCode 70 69 = some (.aload_n 0, 1) by decide +kernel) rfl (Nat.le_of_ble_eq_true rfl) ?_
  refine q_getR (vA 0 (a0 + 11) 18) 73 rfl (show sCode 70 70 = some (.getfield 49, 3) by decide +kernel) (show sFR (sKo 70).1 49 = some (10, 12) by decide +kernel) (by decide +kernel) (Or.inl (Or.inl rfl)) rfl ?_
  refine q_iload_n 74 rfl (show sCode 70 73 = some (.iload_n 3, 1) by decide +kernel) rfl ?_
  refine q_iconst 75 rfl (show sCode 70 74 = some (.iconst 1, 1) by decide +kernel) ⟨by decide, by decide⟩ ?_
  refine q_iast 76 rfl (show sCode 70 75 = some (.iastore, 1) by decide +kernel) h1 ?_
  refine q_forget (L' := [vO 10 a0, vI x1, vI x2, vN]) 3 rfl ?_
  exact kk
theorem b70_76 {d : Nat} {Q : Option sV → sM → sG → Prop} {M : sM} {G : sG} {a0 : Nat} {x1 : Int} {x2 : Int}  (kk : sC d 71 [vO 10 a0, vI x1, vI x2] M G (QV (fun M1 G1 => sW (sC d) 70 Q 82 [vN, vN, vN, vN] [] M1 G1 0 0))) : sW (sC d) 70 Q 76 [vO 10 a0, vI x1, vI x2, vN] [] M G 0 0 := by
  refine q_aload_n 77 rfl (show sCode 70 76 = some (.aload_n 0, 1) by decide +kernel) rfl (Nat.le_of_ble_eq_true rfl) ?_
  refine q_iload_n 78 rfl (show sCode 70 77 = some (.iload_n 1, 1) by decide +kernel) rfl ?_
  refine q_iload_n 79 rfl (show sCode 70 78 = some (.iload_n 2, 1) by decide +kernel) rfl ?_
  refine q_forget (L' := [vN, vI x1, vI x2, vN]) 0 rfl ?_
  refine q_forget (L' := [vN, vN, vI x2, vN]) 1 rfl ?_
  refine q_forget (L' := [vN, vN, vN, vN]) 2 rfl ?_
  exact q_virtV [vI x1, vI x2] 82 rfl (show sCode 70 79 = some (.invokevirtual 96, 3) by decide +kernel) (show sMR (sKo 70).1 96 = some 71 by decide +kernel) (show 71 < 1000 ∧ sStat 71 = false ∧ sIni 71 = false ∧ sKo 71 = (10, 2, 0, 0, 0) by decide +kernel) rfl (Or.inl rfl) rfl (Nat.le_of_ble_eq_true rfl) rfl rfl rfl (by decide +kernel) kk
theorem b70_82 {d : Nat} {P : sM → sG → Prop} {M : sM} {G : sG}   (kk : P M G) : sW (sC d) 70 (QV P) 82 [vN, vN, vN, vN] [] M G 0 0 := by
  exact q_vret (show sCode 70 82 = some (.return_, 1) by decide +kernel) (by decide +kernel) (by decide +kernel) kk
-- 71 AfterTheLast$Town.endWaits (II)V
theorem b71_0 {d : Nat} {Q : Option sV → sM → sG → Prop} {M : sM} {G : sG} {a0 : Nat} {x1 : Int} {x2 : Int}  (kk : sW (sC d) 71 Q 2 [vO 10 a0, vI x1, vI x2, vI 0] [] M G 0 0) : sW (sC d) 71 Q 0 [vO 10 a0, vI x1, vI x2, vN] [] M G 0 0 := by
  refine q_iconst 1 rfl (show sCode 71 0 = some (.iconst 0, 1) by decide +kernel) ⟨by decide, by decide⟩ ?_
  refine q_istore_n [vO 10 a0, vI x1, vI x2, vI 0] 2 rfl (show sCode 71 1 = some (.istore_n 3, 1) by decide +kernel) (Nat.lt_of_lt_of_le (Nat.lt_succ_self _) (Nat.le_of_ble_eq_true rfl)) rfl rfl ?_
  exact kk
theorem b71_2 {d : Nat} {Q : Option sV → sM → sG → Prop} {M : sM} {G : sG} {a0 : Nat} {x1 : Int} {x2 : Int} {x3 : Int}  (k1 : 12 ≤ x3 → sW (sC d) 71 Q 58 [vN, vN, vN, vN] [] M G 0 0) (k2 : x3 < 12 → sW (sC d) 71 Q 8 [vO 10 a0, vI x1, vI x2, vI x3] [] M G 0 0) : sW (sC d) 71 Q 2 [vO 10 a0, vI x1, vI x2, vI x3] [] M G 0 0 := by
  refine q_iload_n 3 rfl (show sCode 71 2 = some (.iload_n 3, 1) by decide +kernel) rfl ?_
  refine q_bipush 5 rfl (show sCode 71 3 = some (.bipush 12, 2) by decide +kernel) ⟨by decide, by decide⟩ (by decide +kernel) ?_
  refine q_icmpge 58 8 rfl (by decide) (show sCode 71 5 = some (.if_icmp .ge 53, 3) by decide +kernel) ?_ ?_
  · intro q; refine q_forget (L' := [vN, vI x1, vI x2, vI x3]) 0 rfl ?_; refine q_forget (L' := [vN, vN, vI x2, vI x3]) 1 rfl ?_; refine q_forget (L' := [vN, vN, vN, vI x3]) 2 rfl ?_; refine q_forget (L' := [vN, vN, vN, vN]) 3 rfl ?_; exact k1 q
  · intro q; exact k2 q
theorem b71_8 {d : Nat} {Q : Option sV → sM → sG → Prop} {M : sM} {G : sG} {a0 : Nat} {x1 : Int} {x2 : Int} {x3 : Int} (h1 : 0 ≤ x3 ∧ x3 < 12) (k1 : M (a0 + 12) x3.toNat ≠ x2 → sW (sC d) 71 Q 52 [vO 10 a0, vI x1, vI x2, vI x3] [] M G 0 0) (k2 : M (a0 + 12) x3.toNat = x2 → sW (sC d) 71 Q 18 [vO 10 a0, vI x1, vI x2, vI x3] [] M G 0 0) : sW (sC d) 71 Q 8 [vO 10 a0, vI x1, vI x2, vI x3] [] M G 0 0 := by
  refine q_aload_n 9 rfl (show sCode 71 8 = some (.aload_n 0, 1) by decide +kernel) rfl (Nat.le_of_ble_eq_true rfl) ?_
  refine q_getR (vA 0 (a0 + 12) 12) 12 rfl (show sCode 71 9 = some (.getfield 58, 3) by decide +kernel) (show sFR (sKo 71).1 58 = some (10, 15) by decide +kernel) (by decide +kernel) (Or.inl (Or.inl rfl)) rfl ?_
  refine q_iload_n 13 rfl (show sCode 71 12 = some (.iload_n 3, 1) by decide +kernel) rfl ?_
  refine q_iald 14 rfl (show sCode 71 13 = some (.iaload, 1) by decide +kernel) h1 ?_
  refine q_iload_n 15 rfl (show sCode 71 14 = some (.iload_n 2, 1) by decide +kernel) rfl ?_
  refine q_icmpne 52 18 rfl (by decide) (show sCode 71 15 = some (.if_icmp .ne 37, 3) by decide +kernel) ?_ ?_
  · intro q; exact k1 q
  · intro q; exact k2 q
theorem b71_18 {d : Nat} {Q : Option sV → sM → sG → Prop} {M : sM} {G : sG} {a0 : Nat} {x1 : Int} {x2 : Int} {x3 : Int} (h1 : 0 ≤ x3 ∧ x3 < 12) (k1 : M (a0 + 14) x3.toNat ≠ x1 → sW (sC d) 71 Q 35 [vO 10 a0, vI x1, vI x2, vI x3] [] M G 0 0) (k2 : M (a0 + 14) x3.toNat = x1 → sW (sC d) 71 Q 28 [vO 10 a0, vI x1, vI x2, vI x3] [] M G 0 0) : sW (sC d) 71 Q 18 [vO 10 a0, vI x1, vI x2, vI x3] [] M G 0 0 := by
  refine q_aload_n 19 rfl (show sCode 71 18 = some (.aload_n 0, 1) by decide +kernel) rfl (Nat.le_of_ble_eq_true rfl) ?_
  refine q_getR (vA 0 (a0 + 14) 12) 22 rfl (show sCode 71 19 = some (.getfield 64, 3) by decide +kernel) (show sFR (sKo 71).1 64 = some (10, 17) by decide +kernel) (by decide +kernel) (Or.inl (Or.inl rfl)) rfl ?_
  refine q_iload_n 23 rfl (show sCode 71 22 = some (.iload_n 3, 1) by decide +kernel) rfl ?_
  refine q_iald 24 rfl (show sCode 71 23 = some (.iaload, 1) by decide +kernel) h1 ?_
  refine q_iload_n 25 rfl (show sCode 71 24 = some (.iload_n 1, 1) by decide +kernel) rfl ?_
  refine q_icmpne 35 28 rfl (by decide) (show sCode 71 25 = some (.if_icmp .ne 10, 3) by decide +kernel) ?_ ?_
  · intro q; exact k1 q
  · intro q; exact k2 q
theorem b71_28 {d : Nat} {Q : Option sV → sM → sG → Prop} {M : sM} {G : sG} {a0 : Nat} {x1 : Int} {x2 : Int} {x3 : Int} (h1 : 0 ≤ x3 ∧ x3 < 12) (kk : sW (sC d) 71 Q 35 [vO 10 a0, vI x1, vI x2, vI x3] [] (sUpd M (a0 + 14) x3.toNat (-1)) G 0 0) : sW (sC d) 71 Q 28 [vO 10 a0, vI x1, vI x2, vI x3] [] M G 0 0 := by
  refine q_aload_n 29 rfl (show sCode 71 28 = some (.aload_n 0, 1) by decide +kernel) rfl (Nat.le_of_ble_eq_true rfl) ?_
  refine q_getR (vA 0 (a0 + 14) 12) 32 rfl (show sCode 71 29 = some (.getfield 64, 3) by decide +kernel) (show sFR (sKo 71).1 64 = some (10, 17) by decide +kernel) (by decide +kernel) (Or.inl (Or.inl rfl)) rfl ?_
  refine q_iload_n 33 rfl (show sCode 71 32 = some (.iload_n 3, 1) by decide +kernel) rfl ?_
  refine q_iconst 34 rfl (show sCode 71 33 = some (.iconst (-1), 1) by decide +kernel) ⟨by decide, by decide⟩ ?_
  refine q_iast 35 rfl (show sCode 71 34 = some (.iastore, 1) by decide +kernel) h1 ?_
  exact kk
theorem b71_35 {d : Nat} {Q : Option sV → sM → sG → Prop} {M : sM} {G : sG} {a0 : Nat} {x1 : Int} {x2 : Int} {x3 : Int} (h1 : 0 ≤ x1 ∧ x1 < 12) (k1 : M (a0 + 14) x1.toNat ≠ x3 → sW (sC d) 71 Q 52 [vO 10 a0, vI x1, vI x2, vI x3] [] M G 0 0) (k2 : M (a0 + 14) x1.toNat = x3 → sW (sC d) 71 Q 45 [vO 10 a0, vI x1, vI x2, vI x3] [] M G 0 0) : sW (sC d) 71 Q 35 [vO 10 a0, vI x1, vI x2, vI x3] [] M G 0 0 := by
  refine q_aload_n 36 rfl (show sCode 71 35 = some (.aload_n 0, 1) by decide +kernel) rfl (Nat.le_of_ble_eq_true rfl) ?_
  refine q_getR (vA 0 (a0 + 14) 12) 39 rfl (show sCode 71 36 = some (.getfield 64, 3) by decide +kernel) (show sFR (sKo 71).1 64 = some (10, 17) by decide +kernel) (by decide +kernel) (Or.inl (Or.inl rfl)) rfl ?_
  refine q_iload_n 40 rfl (show sCode 71 39 = some (.iload_n 1, 1) by decide +kernel) rfl ?_
  refine q_iald 41 rfl (show sCode 71 40 = some (.iaload, 1) by decide +kernel) h1 ?_
  refine q_iload_n 42 rfl (show sCode 71 41 = some (.iload_n 3, 1) by decide +kernel) rfl ?_
  refine q_icmpne 52 45 rfl (by decide) (show sCode 71 42 = some (.if_icmp .ne 10, 3) by decide +kernel) ?_ ?_
  · intro q; exact k1 q
  · intro q; exact k2 q
theorem b71_45 {d : Nat} {Q : Option sV → sM → sG → Prop} {M : sM} {G : sG} {a0 : Nat} {x1 : Int} {x2 : Int} {x3 : Int} (h1 : 0 ≤ x1 ∧ x1 < 12) (kk : sW (sC d) 71 Q 52 [vO 10 a0, vI x1, vI x2, vI x3] [] (sUpd M (a0 + 14) x1.toNat (-1)) G 0 0) : sW (sC d) 71 Q 45 [vO 10 a0, vI x1, vI x2, vI x3] [] M G 0 0 := by
  refine q_aload_n 46 rfl (show sCode 71 45 = some (.aload_n 0, 1) by decide +kernel) rfl (Nat.le_of_ble_eq_true rfl) ?_
  refine q_getR (vA 0 (a0 + 14) 12) 49 rfl (show sCode 71 46 = some (.getfield 64, 3) by decide +kernel) (show sFR (sKo 71).1 64 = some (10, 17) by decide +kernel) (by decide +kernel) (Or.inl (Or.inl rfl)) rfl ?_
  refine q_iload_n 50 rfl (show sCode 71 49 = some (.iload_n 1, 1) by decide +kernel) rfl ?_
  refine q_iconst 51 rfl (show sCode 71 50 = some (.iconst (-1), 1) by decide +kernel) ⟨by decide, by decide⟩ ?_
  refine q_iast 52 rfl (show sCode 71 51 = some (.iastore, 1) by decide +kernel) h1 ?_
  exact kk
theorem b71_52 {d : Nat} {Q : Option sV → sM → sG → Prop} {M : sM} {G : sG} {a0 : Nat} {x1 : Int} {x2 : Int} {x3 : Int} (h1 : sI (x3 + 1)) (kk : sW (sC d) 71 Q 2 [vO 10 a0, vI x1, vI x2, vI (x3 + 1)] [] M G 0 0) : sW (sC d) 71 Q 52 [vO 10 a0, vI x1, vI x2, vI x3] [] M G 0 0 := by
  refine q_iinc [vO 10 a0, vI x1, vI x2, vI (x3 + 1)] 55 rfl (show sCode 71 52 = some (.iinc 3 1, 3) by decide +kernel) rfl rfl h1 rfl ?_
  refine q_goto 2 (by decide) (show sCode 71 55 = some (.goto (-53), 3) by decide +kernel) ?_
  exact kk
theorem b71_58 {d : Nat} {P : sM → sG → Prop} {M : sM} {G : sG}   (kk : P M G) : sW (sC d) 71 (QV P) 58 [vN, vN, vN, vN] [] M G 0 0 := by
  exact q_vret (show sCode 71 58 = some (.return_, 1) by decide +kernel) (by decide +kernel) (by decide +kernel) kk
-- 73 AfterTheLast$Town.leaveByWindow (I)Z
theorem b73_0 {d : Nat} {Q : Option sV → sM → sG → Prop} {M : sM} {G : sG} {a0 : Nat} {x1 : Int} (h1 : 0 ≤ x1 ∧ x1 < 12) (kk : sC d 55 [vO 10 a0, vI (M (a0 + 12) x1.toNat)] M G (QI (fun r M1 G1 => sW (sC d) 73 Q 12 [vO 10 a0, vI x1, vI (M (a0 + 12) x1.toNat)] (vI r :: []) M1 G1 0 0))) : sW (sC d) 73 Q 0 [vO 10 a0, vI x1, vN] [] M G 0 0 := by
  refine q_aload_n 1 rfl (show sCode 73 0 = some (.aload_n 0, 1) by decide +kernel) rfl (Nat.le_of_ble_eq_true rfl) ?_
  refine q_getR (vA 0 (a0 + 12) 12) 4 rfl (show sCode 73 1 = some (.getfield 58, 3) by decide +kernel) (show sFR (sKo 73).1 58 = some (10, 15) by decide +kernel) (by decide +kernel) (Or.inl (Or.inl rfl)) rfl ?_
  refine q_iload_n 5 rfl (show sCode 73 4 = some (.iload_n 1, 1) by decide +kernel) rfl ?_
  refine q_iald 6 rfl (show sCode 73 5 = some (.iaload, 1) by decide +kernel) h1 ?_
  refine q_istore_n [vO 10 a0, vI x1, vI (M (a0 + 12) x1.toNat)] 7 rfl (show sCode 73 6 = some (.istore_n 2, 1) by decide +kernel) (Nat.lt_of_lt_of_le (Nat.lt_succ_self _) (Nat.le_of_ble_eq_true rfl)) rfl rfl ?_
  refine q_aload_n 8 rfl (show sCode 73 7 = some (.aload_n 0, 1) by decide +kernel) rfl (Nat.le_of_ble_eq_true rfl) ?_
  refine q_iload_n 9 rfl (show sCode 73 8 = some (.iload_n 2, 1) by decide +kernel) rfl ?_
  exact q_virtI [vI (M (a0 + 12) x1.toNat)] 12 rfl (show sCode 73 9 = some (.invokevirtual 82, 3) by decide +kernel) (show sMR (sKo 73).1 82 = some 55 by decide +kernel) (show 55 < 1000 ∧ sStat 55 = false ∧ sIni 55 = false ∧ sKo 55 = (10, 1, 2, 0, 0) by decide +kernel) rfl (Or.inl rfl) rfl (Nat.le_of_ble_eq_true rfl) rfl rfl rfl (by decide +kernel) kk
theorem b73_12 {d : Nat} {Q : Option sV → sM → sG → Prop} {M : sM} {G : sG} {a0 : Nat} {x1 : Int} {x2 : Int} {s0 : Int}  (k1 : s0 = 0 → sW (sC d) 73 Q 24 [vN, vN, vN] [] M G 0 0) (k2 : s0 ≠ 0 → sW (sC d) 73 Q 15 [vO 10 a0, vI x1, vI x2] [] M G 0 0) : sW (sC d) 73 Q 12 [vO 10 a0, vI x1, vI x2] [vI s0] M G 0 0 := by
  refine q_ifeq 24 15 rfl (by decide) (show sCode 73 12 = some (.ifCond .eq 12, 3) by decide +kernel) ?_ ?_
  · intro q; refine q_forget (L' := [vN, vI x1, vI x2]) 0 rfl ?_; refine q_forget (L' := [vN, vN, vI x2]) 1 rfl ?_; refine q_forget (L' := [vN, vN, vN]) 2 rfl ?_; exact k1 q
  · intro q; exact k2 q
theorem b73_15 {d : Nat} {Q : Option sV → sM → sG → Prop} {M : sM} {G : sG} {a0 : Nat} {x1 : Int} {x2 : Int} (h1 : 0 ≤ x2 ∧ x2 < 6) (k1 : 0 < M (a0 + 3) x2.toNat → sW (sC d) 73 Q 26 [vO 10 a0, vI x1, vI x2] [] M G 0 0) (k2 : M (a0 + 3) x2.toNat ≤ 0 → sW (sC d) 73 Q 24 [vN, vN, vN] [] M G 0 0) : sW (sC d) 73 Q 15 [vO 10 a0, vI x1, vI x2] [] M G 0 0 := by
  refine q_aload_n 16 rfl (show sCode 73 15 = some (.aload_n 0, 1) by decide +kernel) rfl (Nat.le_of_ble_eq_true rfl) ?_
  refine q_getR (vA 0 (a0 + 3) 6) 19 rfl (show sCode 73 16 = some (.getfield 22, 3) by decide +kernel) (show sFR (sKo 73).1 22 = some (10, 3) by decide +kernel) (by decide +kernel) (Or.inl (Or.inl rfl)) rfl ?_
  refine q_iload_n 20 rfl (show sCode 73 19 = some (.iload_n 2, 1) by decide +kernel) rfl ?_
  refine q_iald 21 rfl (show sCode 73 20 = some (.iaload, 1) by decide +kernel) h1 ?_
  refine q_ifgt 26 24 rfl (by decide) (show sCode 73 21 = some (.ifCond .gt 5, 3) by decide +kernel) ?_ ?_
  · intro q; exact k1 q
  · intro q; refine q_forget (L' := [vN, vI x1, vI x2]) 0 rfl ?_; refine q_forget (L' := [vN, vN, vI x2]) 1 rfl ?_; refine q_forget (L' := [vN, vN, vN]) 2 rfl ?_; exact k2 q
theorem b73_24 {d : Nat} {P : Int → sM → sG → Prop} {M : sM} {G : sG}   (kk : P 0 M G) : sW (sC d) 73 (QI P) 24 [vN, vN, vN] [] M G 0 0 := by
  refine q_iconst 25 rfl (show sCode 73 24 = some (.iconst 0, 1) by decide +kernel) ⟨by decide, by decide⟩ ?_
  exact q_zret (show sCode 73 25 = some (.ireturn, 1) by decide +kernel) (by decide +kernel) (by decide) (by decide +kernel) kk
theorem b73_26 {d : Nat} {Q : Option sV → sM → sG → Prop} {M : sM} {G : sG} {a0 : Nat} {x1 : Int} {x2 : Int}  (kk : sC d 74 [vO 10 a0, vI x1] M G (QV (fun M1 G1 => sW (sC d) 73 Q 31 [vO 10 a0, vN, vI x2] [] M1 G1 0 0))) : sW (sC d) 73 Q 26 [vO 10 a0, vI x1, vI x2] [] M G 0 0 := by
  refine q_aload_n 27 rfl (show sCode 73 26 = some (.aload_n 0, 1) by decide +kernel) rfl (Nat.le_of_ble_eq_true rfl) ?_
  refine q_iload_n 28 rfl (show sCode 73 27 = some (.iload_n 1, 1) by decide +kernel) rfl ?_
  refine q_forget (L' := [vO 10 a0, vN, vI x2]) 1 rfl ?_
  exact q_virtV [vI x1] 31 rfl (show sCode 73 28 = some (.invokevirtual 103, 3) by decide +kernel) (show sMR (sKo 73).1 103 = some 74 by decide +kernel) (show 74 < 1000 ∧ sStat 74 = false ∧ sIni 74 = false ∧ sKo 74 = (10, 1, 0, 0, 0) by decide +kernel) rfl (Or.inl rfl) rfl (Nat.le_of_ble_eq_true rfl) rfl rfl rfl (by decide +kernel) kk
theorem b73_31 {d : Nat} {P : Int → sM → sG → Prop} {M : sM} {G : sG} {a0 : Nat} {x2 : Int} (h1 : 0 ≤ x2 ∧ x2 < 6) (h2 : sI ((M (a0 + 3) x2.toNat) - 1)) (h3 : 0 ≤ x2 ∧ x2 < 6) (kk : P 1 (sUpd M (a0 + 3) x2.toNat ((M (a0 + 3) x2.toNat) - 1)) G) : sW (sC d) 73 (QI P) 31 [vO 10 a0, vN, vI x2] [] M G 0 0 := by
  refine q_aload_n 32 rfl (show sCode 73 31 = some (.aload_n 0, 1) by decide +kernel) rfl (Nat.le_of_ble_eq_true rfl) ?_
  refine q_getR (vA 0 (a0 + 3) 6) 35 rfl (show sCode 73 32 = some (.getfield 22, 3) by decide +kernel) (show sFR (sKo 73).1 22 = some (10, 3) by decide +kernel) (by decide +kernel) (Or.inl (Or.inl rfl)) rfl ?_
  refine q_iload_n 36 rfl (show sCode 73 35 = some (.iload_n 2, 1) by decide +kernel) rfl ?_
  refine q_dup2 37 rfl (show sCode 73 36 = some (.dup2, 1) by decide +kernel) rfl rfl ?_
  refine q_iald 38 rfl (show sCode 73 37 = some (.iaload, 1) by decide +kernel) h1 ?_
  refine q_iconst 39 rfl (show sCode 73 38 = some (.iconst 1, 1) by decide +kernel) ⟨by decide, by decide⟩ ?_
  refine q_isub 40 rfl (show sCode 73 39 = some (.isub, 1) by decide +kernel) h2 ?_
  refine q_iast 41 rfl (show sCode 73 40 = some (.iastore, 1) by decide +kernel) h3 ?_
  refine q_iconst 42 rfl (show sCode 73 41 = some (.iconst 1, 1) by decide +kernel) ⟨by decide, by decide⟩ ?_
  exact q_zret (show sCode 73 42 = some (.ireturn, 1) by decide +kernel) (by decide +kernel) (by decide) (by decide +kernel) kk
-- 74 AfterTheLast$Town.leave (I)V
theorem b74_0 {d : Nat} {Q : Option sV → sM → sG → Prop} {M : sM} {G : sG} {a0 : Nat} {x1 : Int}  (kk : sC d 75 [vO 10 a0, vI x1] M G (QI (fun r M1 G1 => sW (sC d) 74 Q 5 [vO 10 a0, vI x1, vN, vN, vN] (vI r :: []) M1 G1 0 0))) : sW (sC d) 74 Q 0 [vO 10 a0, vI x1, vN, vN, vN] [] M G 0 0 := by
  refine q_aload_n 1 rfl (show sCode 74 0 = some (.aload_n 0, 1) by decide +kernel) rfl (Nat.le_of_ble_eq_true rfl) ?_
  refine q_iload_n 2 rfl (show sCode 74 1 = some (.iload_n 1, 1) by decide +kernel) rfl ?_
  exact q_virtI [vI x1] 5 rfl (show sCode 74 2 = some (.invokevirtual 100, 3) by decide +kernel) (show sMR (sKo 74).1 100 = some 75 by decide +kernel) (show 75 < 1000 ∧ sStat 75 = false ∧ sIni 75 = false ∧ sKo 75 = (10, 1, 1, 0, 0) by decide +kernel) rfl (Or.inl rfl) rfl (Nat.le_of_ble_eq_true rfl) rfl rfl rfl (by decide +kernel) kk
theorem b74_5 {d : Nat} {Q : Option sV → sM → sG → Prop} {M : sM} {G : sG} {a0 : Nat} {x1 : Int} {s0 : Int}  (k1 : s0 ≠ (-1) → sW (sC d) 74 Q 12 [vO 10 a0, vI x1, vI s0, vN, vN] [] M G 0 0) (k2 : s0 = (-1) → sW (sC d) 74 Q 11 [vN, vN, vN, vN, vN] [] M G 0 0) : sW (sC d) 74 Q 5 [vO 10 a0, vI x1, vN, vN, vN] [vI s0] M G 0 0 := by
  refine q_istore_n [vO 10 a0, vI x1, vI s0, vN, vN] 6 rfl (show sCode 74 5 = some (.istore_n 2, 1) by decide +kernel) (Nat.lt_of_lt_of_le (Nat.lt_succ_self _) (Nat.le_of_ble_eq_true rfl)) rfl rfl ?_
  refine q_iload_n 7 rfl (show sCode 74 6 = some (.iload_n 2, 1) by decide +kernel) rfl ?_
  refine q_iconst 8 rfl (show sCode 74 7 = some (.iconst (-1), 1) by decide +kernel) ⟨by decide, by decide⟩ ?_
  refine q_icmpne 12 11 rfl (by decide) (show sCode 74 8 = some (.if_icmp .ne 4, 3) by decide +kernel) ?_ ?_
  · intro q; exact k1 q
  · intro q; refine q_forget (L' := [vN, vI x1, vI s0, vN, vN]) 0 rfl ?_; refine q_forget (L' := [vN, vN, vI s0, vN, vN]) 1 rfl ?_; refine q_forget (L' := [vN, vN, vN, vN, vN]) 2 rfl ?_; exact k2 q
theorem b74_11 {d : Nat} {P : sM → sG → Prop} {M : sM} {G : sG}   (kk : P M G) : sW (sC d) 74 (QV P) 11 [vN, vN, vN, vN, vN] [] M G 0 0 := by
  exact q_vret (show sCode 74 11 = some (.return_, 1) by decide +kernel) (by decide +kernel) (by decide +kernel) kk
theorem b74_12 {d : Nat} {Q : Option sV → sM → sG → Prop} {M : sM} {G : sG} {a0 : Nat} {x1 : Int} {x2 : Int} (h1 : 0 ≤ x1 ∧ x1 < 12) (kk : sW (sC d) 74 Q 22 [vO 10 a0, vI x1, vN, vI (M (a0 + 12) x1.toNat), vI x2] [] M G 0 0) : sW (sC d) 74 Q 12 [vO 10 a0, vI x1, vI x2, vN, vN] [] M G 0 0 := by
  refine q_aload_n 13 rfl (show sCode 74 12 = some (.aload_n 0, 1) by decide +kernel) rfl (Nat.le_of_ble_eq_true rfl) ?_
  refine q_getR (vA 0 (a0 + 12) 12) 16 rfl (show sCode 74 13 = some (.getfield 58, 3) by decide +kernel) (show sFR (sKo 74).1 58 = some (10, 15) by decide +kernel) (by decide +kernel) (Or.inl (Or.inl rfl)) rfl ?_
  refine q_iload_n 17 rfl (show sCode 74 16 = some (.iload_n 1, 1) by decide +kernel) rfl ?_
  refine q_iald 18 rfl (show sCode 74 17 = some (.iaload, 1) by decide +kernel) h1 ?_
  refine q_istore_n [vO 10 a0, vI x1, vI x2, vI (M (a0 + 12) x1.toNat), vN] 19 rfl (show sCode 74 18 = some (.istore_n 3, 1) by decide +kernel) (Nat.lt_of_lt_of_le (Nat.lt_succ_self _) (Nat.le_of_ble_eq_true rfl)) rfl rfl ?_
  refine q_iload_n 20 rfl (show sCode 74 19 = some (.iload_n 2, 1) by decide +kernel) rfl ?_
  refine q_istore [vO 10 a0, vI x1, vI x2, vI (M (a0 + 12) x1.toNat), vI x2] 22 rfl (show sCode 74 20 = some (.istore 4, 2) by decide +kernel) (Nat.lt_of_lt_of_le (Nat.lt_succ_self _) (Nat.le_of_ble_eq_true rfl)) rfl rfl ?_
  refine q_forget (L' := [vO 10 a0, vI x1, vN, vI (M (a0 + 12) x1.toNat), vI x2]) 2 rfl ?_
  exact kk
theorem b74_22 {d : Nat} {Q : Option sV → sM → sG → Prop} {M : sM} {G : sG} {a0 : Nat} {x1 : Int} {x3 : Int} {x4 : Int} (h1 : 0 ≤ x3 ∧ x3 < 6) (h2 : sI ((M (a0 + 4) x3.toNat) - 1)) (k1 : (M (a0 + 4) x3.toNat) - 1 ≤ x4 → sW (sC d) 74 Q 67 [vO 10 a0, vI x1, vN, vI x3, vN] [] M G 0 0) (k2 : x4 < (M (a0 + 4) x3.toNat) - 1 → sW (sC d) 74 Q 35 [vO 10 a0, vI x1, vN, vI x3, vI x4] [] M G 0 0) : sW (sC d) 74 Q 22 [vO 10 a0, vI x1, vN, vI x3, vI x4] [] M G 0 0 := by
  refine q_iload 24 rfl (show sCode 74 22 = some (.iload 4, 2) by decide +kernel) rfl ?_
  refine q_aload_n 25 rfl (show sCode 74 24 = some (.aload_n 0, 1) by decide +kernel) rfl (Nat.le_of_ble_eq_true rfl) ?_
  refine q_getR (vA 0 (a0 + 4) 6) 28 rfl (show sCode 74 25 = some (.getfield 25, 3) by decide +kernel) (show sFR (sKo 74).1 25 = some (10, 4) by decide +kernel) (by decide +kernel) (Or.inl (Or.inl rfl)) rfl ?_
  refine q_iload_n 29 rfl (show sCode 74 28 = some (.iload_n 3, 1) by decide +kernel) rfl ?_
  refine q_iald 30 rfl (show sCode 74 29 = some (.iaload, 1) by decide +kernel) h1 ?_
  refine q_iconst 31 rfl (show sCode 74 30 = some (.iconst 1, 1) by decide +kernel) ⟨by decide, by decide⟩ ?_
  refine q_isub 32 rfl (show sCode 74 31 = some (.isub, 1) by decide +kernel) h2 ?_
  refine q_icmpge 67 35 rfl (by decide) (show sCode 74 32 = some (.if_icmp .ge 35, 3) by decide +kernel) ?_ ?_
  · intro q; refine q_forget (L' := [vO 10 a0, vI x1, vN, vI x3, vN]) 4 rfl ?_; exact k1 q
  · intro q; exact k2 q
theorem b74_35 {d : Nat} {Q : Option sV → sM → sG → Prop} {M : sM} {G : sG} {a0 : Nat} {x1 : Int} {x3 : Int} {x4 : Int} (h1 : sI (x3 * 12)) (h2 : sI ((x3 * 12) + x4)) (h3 : sI (x3 * 12)) (h4 : sI ((x3 * 12) + x4)) (h5 : sI (((x3 * 12) + x4) + 1)) (h6 : 0 ≤ ((x3 * 12) + x4) + 1 ∧ ((x3 * 12) + x4) + 1 < 72) (h7 : 0 ≤ (x3 * 12) + x4 ∧ (x3 * 12) + x4 < 72) (h8 : sI (x4 + 1)) (kk : sW (sC d) 74 Q 22 [vO 10 a0, vI x1, vN, vI x3, vI (x4 + 1)] [] (sUpd M (a0 + 5) ((x3 * 12) + x4).toNat (M (a0 + 5) (((x3 * 12) + x4) + 1).toNat)) G 0 0) : sW (sC d) 74 Q 35 [vO 10 a0, vI x1, vN, vI x3, vI x4] [] M G 0 0 := by
  refine q_aload_n 36 rfl (show sCode 74 35 = some (.aload_n 0, 1) by decide +kernel) rfl (Nat.le_of_ble_eq_true rfl) ?_
  refine q_getR (vA 0 (a0 + 5) 72) 39 rfl (show sCode 74 36 = some (.getfield 28, 3) by decide +kernel) (show sFR (sKo 74).1 28 = some (10, 5) by decide +kernel) (by decide +kernel) (Or.inl (Or.inl rfl)) rfl ?_
  refine q_iload_n 40 rfl (show sCode 74 39 = some (.iload_n 3, 1) by decide +kernel) rfl ?_
  refine q_bipush 42 rfl (show sCode 74 40 = some (.bipush 12, 2) by decide +kernel) ⟨by decide, by decide⟩ (by decide +kernel) ?_
  refine q_imul 43 rfl (show sCode 74 42 = some (.imul, 1) by decide +kernel) h1 ?_
  refine q_iload 45 rfl (show sCode 74 43 = some (.iload 4, 2) by decide +kernel) rfl ?_
  refine q_iadd 46 rfl (show sCode 74 45 = some (.iadd, 1) by decide +kernel) h2 ?_
  refine q_aload_n 47 rfl (show sCode 74 46 = some (.aload_n 0, 1) by decide +kernel) rfl (Nat.le_of_ble_eq_true rfl) ?_
  refine q_getR (vA 0 (a0 + 5) 72) 50 rfl (show sCode 74 47 = some (.getfield 28, 3) by decide +kernel) (show sFR (sKo 74).1 28 = some (10, 5) by decide +kernel) (by decide +kernel) (Or.inl (Or.inl rfl)) rfl ?_
  refine q_iload_n 51 rfl (show sCode 74 50 = some (.iload_n 3, 1) by decide +kernel) rfl ?_
  refine q_bipush 53 rfl (show sCode 74 51 = some (.bipush 12, 2) by decide +kernel) ⟨by decide, by decide⟩ (by decide +kernel) ?_
  refine q_imul 54 rfl (show sCode 74 53 = some (.imul, 1) by decide +kernel) h3 ?_
  refine q_iload 56 rfl (show sCode 74 54 = some (.iload 4, 2) by decide +kernel) rfl ?_
  refine q_iadd 57 rfl (show sCode 74 56 = some (.iadd, 1) by decide +kernel) h4 ?_
  refine q_iconst 58 rfl (show sCode 74 57 = some (.iconst 1, 1) by decide +kernel) ⟨by decide, by decide⟩ ?_
  refine q_iadd 59 rfl (show sCode 74 58 = some (.iadd, 1) by decide +kernel) h5 ?_
  refine q_iald 60 rfl (show sCode 74 59 = some (.iaload, 1) by decide +kernel) h6 ?_
  refine q_iast 61 rfl (show sCode 74 60 = some (.iastore, 1) by decide +kernel) h7 ?_
  refine q_iinc [vO 10 a0, vI x1, vN, vI x3, vI (x4 + 1)] 64 rfl (show sCode 74 61 = some (.iinc 4 1, 3) by decide +kernel) rfl rfl h8 rfl ?_
  refine q_goto 22 (by decide) (show sCode 74 64 = some (.goto (-42), 3) by decide +kernel) ?_
  exact kk
theorem b74_67 {d : Nat} {P : sM → sG → Prop} {M : sM} {G : sG} {a0 : Nat} {x1 : Int} {x3 : Int} (h1 : 0 ≤ x3 ∧ x3 < 6) (h2 : sI ((M (a0 + 4) x3.toNat) - 1)) (h3 : 0 ≤ x3 ∧ x3 < 6) (h4 : 0 ≤ x1 ∧ x1 < 12) (h5 : 0 ≤ x1 ∧ x1 < 12) (kk : P (sUpd (sUpd (sUpd M (a0 + 4) x3.toNat ((M (a0 + 4) x3.toNat) - 1)) (a0 + 12) x1.toNat (-1)) (a0 + 13) x1.toNat (-1)) G) : sW (sC d) 74 (QV P) 67 [vO 10 a0, vI x1, vN, vI x3, vN] [] M G 0 0 := by
  refine q_aload_n 68 rfl (show sCode 74 67 = some (.aload_n 0, 1) by decide +kernel) rfl (Nat.le_of_ble_eq_true rfl) ?_
  refine q_getR (vA 0 (a0 + 4) 6) 71 rfl (show sCode 74 68 = some (.getfield 25, 3) by decide +kernel) (show sFR (sKo 74).1 25 = some (10, 4) by decide +kernel) (by decide +kernel) (Or.inl (Or.inl rfl)) rfl ?_
  refine q_iload_n 72 rfl (show sCode 74 71 = some (.iload_n 3, 1) by decide +kernel) rfl ?_
  refine q_dup2 73 rfl (show sCode 74 72 = some (.dup2, 1) by decide +kernel) rfl rfl ?_
  refine q_iald 74 rfl (show sCode 74 73 = some (.iaload, 1) by decide +kernel) h1 ?_
  refine q_iconst 75 rfl (show sCode 74 74 = some (.iconst 1, 1) by decide +kernel) ⟨by decide, by decide⟩ ?_
  refine q_isub 76 rfl (show sCode 74 75 = some (.isub, 1) by decide +kernel) h2 ?_
  refine q_iast 77 rfl (show sCode 74 76 = some (.iastore, 1) by decide +kernel) h3 ?_
  refine q_aload_n 78 rfl (show sCode 74 77 = some (.aload_n 0, 1) by decide +kernel) rfl (Nat.le_of_ble_eq_true rfl) ?_
  refine q_getR (vA 0 (a0 + 12) 12) 81 rfl (show sCode 74 78 = some (.getfield 58, 3) by decide +kernel) (show sFR (sKo 74).1 58 = some (10, 15) by decide +kernel) (by decide +kernel) (Or.inl (Or.inl rfl)) rfl ?_
  refine q_iload_n 82 rfl (show sCode 74 81 = some (.iload_n 1, 1) by decide +kernel) rfl ?_
  refine q_iconst 83 rfl (show sCode 74 82 = some (.iconst (-1), 1) by decide +kernel) ⟨by decide, by decide⟩ ?_
  refine q_iast 84 rfl (show sCode 74 83 = some (.iastore, 1) by decide +kernel) h4 ?_
  refine q_aload_n 85 rfl (show sCode 74 84 = some (.aload_n 0, 1) by decide +kernel) rfl (Nat.le_of_ble_eq_true rfl) ?_
  refine q_getR (vA 0 (a0 + 13) 12) 88 rfl (show sCode 74 85 = some (.getfield 61, 3) by decide +kernel) (show sFR (sKo 74).1 61 = some (10, 16) by decide +kernel) (by decide +kernel) (Or.inl (Or.inl rfl)) rfl ?_
  refine q_iload_n 89 rfl (show sCode 74 88 = some (.iload_n 1, 1) by decide +kernel) rfl ?_
  refine q_iconst 90 rfl (show sCode 74 89 = some (.iconst (-1), 1) by decide +kernel) ⟨by decide, by decide⟩ ?_
  refine q_iast 91 rfl (show sCode 74 90 = some (.iastore, 1) by decide +kernel) h5 ?_
  exact q_vret (show sCode 74 91 = some (.return_, 1) by decide +kernel) (by decide +kernel) (by decide +kernel) kk
-- 75 AfterTheLast$Town.placeOf (I)I
theorem b75_0 {d : Nat} {Q : Option sV → sM → sG → Prop} {M : sM} {G : sG} {a0 : Nat} {x1 : Int} (h1 : 0 ≤ x1 ∧ x1 < 12) (kk : sC d 55 [vO 10 a0, vI (M (a0 + 12) x1.toNat)] M G (QI (fun r M1 G1 => sW (sC d) 75 Q 12 [vO 10 a0, vI x1, vI (M (a0 + 12) x1.toNat), vN] (vI r :: []) M1 G1 0 0))) : sW (sC d) 75 Q 0 [vO 10 a0, vI x1, vN, vN] [] M G 0 0 := by
  refine q_aload_n 1 rfl (show sCode 75 0 = some (.aload_n 0, 1) by decide +kernel) rfl (Nat.le_of_ble_eq_true rfl) ?_
  refine q_getR (vA 0 (a0 + 12) 12) 4 rfl (show sCode 75 1 = some (.getfield 58, 3) by decide +kernel) (show sFR (sKo 75).1 58 = some (10, 15) by decide +kernel) (by decide +kernel) (Or.inl (Or.inl rfl)) rfl ?_
  refine q_iload_n 5 rfl (show sCode 75 4 = some (.iload_n 1, 1) by decide +kernel) rfl ?_
  refine q_iald 6 rfl (show sCode 75 5 = some (.iaload, 1) by decide +kernel) h1 ?_
  refine q_istore_n [vO 10 a0, vI x1, vI (M (a0 + 12) x1.toNat), vN] 7 rfl (show sCode 75 6 = some (.istore_n 2, 1) by decide +kernel) (Nat.lt_of_lt_of_le (Nat.lt_succ_self _) (Nat.le_of_ble_eq_true rfl)) rfl rfl ?_
  refine q_aload_n 8 rfl (show sCode 75 7 = some (.aload_n 0, 1) by decide +kernel) rfl (Nat.le_of_ble_eq_true rfl) ?_
  refine q_iload_n 9 rfl (show sCode 75 8 = some (.iload_n 2, 1) by decide +kernel) rfl ?_
  exact q_virtI [vI (M (a0 + 12) x1.toNat)] 12 rfl (show sCode 75 9 = some (.invokevirtual 82, 3) by decide +kernel) (show sMR (sKo 75).1 82 = some 55 by decide +kernel) (show 55 < 1000 ∧ sStat 55 = false ∧ sIni 55 = false ∧ sKo 55 = (10, 1, 2, 0, 0) by decide +kernel) rfl (Or.inl rfl) rfl (Nat.le_of_ble_eq_true rfl) rfl rfl rfl (by decide +kernel) kk
theorem b75_12 {d : Nat} {Q : Option sV → sM → sG → Prop} {M : sM} {G : sG} {a0 : Nat} {x1 : Int} {x2 : Int} {s0 : Int}  (k1 : s0 ≠ 0 → sW (sC d) 75 Q 17 [vO 10 a0, vI x1, vI x2, vN] [] M G 0 0) (k2 : s0 = 0 → sW (sC d) 75 Q 15 [vN, vN, vN, vN] [] M G 0 0) : sW (sC d) 75 Q 12 [vO 10 a0, vI x1, vI x2, vN] [vI s0] M G 0 0 := by
  refine q_ifne 17 15 rfl (by decide) (show sCode 75 12 = some (.ifCond .ne 5, 3) by decide +kernel) ?_ ?_
  · intro q; exact k1 q
  · intro q; refine q_forget (L' := [vN, vI x1, vI x2, vN]) 0 rfl ?_; refine q_forget (L' := [vN, vN, vI x2, vN]) 1 rfl ?_; refine q_forget (L' := [vN, vN, vN, vN]) 2 rfl ?_; exact k2 q
theorem b75_15 {d : Nat} {P : Int → sM → sG → Prop} {M : sM} {G : sG}   (kk : P (-1) M G) : sW (sC d) 75 (QI P) 15 [vN, vN, vN, vN] [] M G 0 0 := by
  refine q_iconst 16 rfl (show sCode 75 15 = some (.iconst (-1), 1) by decide +kernel) ⟨by decide, by decide⟩ ?_
  exact q_iret (show sCode 75 16 = some (.ireturn, 1) by decide +kernel) (by decide +kernel) (by decide +kernel) kk
theorem b75_17 {d : Nat} {Q : Option sV → sM → sG → Prop} {M : sM} {G : sG} {a0 : Nat} {x1 : Int} {x2 : Int}  (kk : sW (sC d) 75 Q 19 [vO 10 a0, vI x1, vI x2, vI 0] [] M G 0 0) : sW (sC d) 75 Q 17 [vO 10 a0, vI x1, vI x2, vN] [] M G 0 0 := by
  refine q_iconst 18 rfl (show sCode 75 17 = some (.iconst 0, 1) by decide +kernel) ⟨by decide, by decide⟩ ?_
  refine q_istore_n [vO 10 a0, vI x1, vI x2, vI 0] 19 rfl (show sCode 75 18 = some (.istore_n 3, 1) by decide +kernel) (Nat.lt_of_lt_of_le (Nat.lt_succ_self _) (Nat.le_of_ble_eq_true rfl)) rfl rfl ?_
  exact kk
theorem b75_19 {d : Nat} {Q : Option sV → sM → sG → Prop} {M : sM} {G : sG} {a0 : Nat} {x1 : Int} {x2 : Int} {x3 : Int} (h1 : 0 ≤ x2 ∧ x2 < 6) (k1 : M (a0 + 4) x2.toNat ≤ x3 → sW (sC d) 75 Q 52 [vN, vN, vN, vN] [] M G 0 0) (k2 : x3 < M (a0 + 4) x2.toNat → sW (sC d) 75 Q 29 [vO 10 a0, vI x1, vI x2, vI x3] [] M G 0 0) : sW (sC d) 75 Q 19 [vO 10 a0, vI x1, vI x2, vI x3] [] M G 0 0 := by
  refine q_iload_n 20 rfl (show sCode 75 19 = some (.iload_n 3, 1) by decide +kernel) rfl ?_
  refine q_aload_n 21 rfl (show sCode 75 20 = some (.aload_n 0, 1) by decide +kernel) rfl (Nat.le_of_ble_eq_true rfl) ?_
  refine q_getR (vA 0 (a0 + 4) 6) 24 rfl (show sCode 75 21 = some (.getfield 25, 3) by decide +kernel) (show sFR (sKo 75).1 25 = some (10, 4) by decide +kernel) (by decide +kernel) (Or.inl (Or.inl rfl)) rfl ?_
  refine q_iload_n 25 rfl (show sCode 75 24 = some (.iload_n 2, 1) by decide +kernel) rfl ?_
  refine q_iald 26 rfl (show sCode 75 25 = some (.iaload, 1) by decide +kernel) h1 ?_
  refine q_icmpge 52 29 rfl (by decide) (show sCode 75 26 = some (.if_icmp .ge 26, 3) by decide +kernel) ?_ ?_
  · intro q; refine q_forget (L' := [vN, vI x1, vI x2, vI x3]) 0 rfl ?_; refine q_forget (L' := [vN, vN, vI x2, vI x3]) 1 rfl ?_; refine q_forget (L' := [vN, vN, vN, vI x3]) 2 rfl ?_; refine q_forget (L' := [vN, vN, vN, vN]) 3 rfl ?_; exact k1 q
  · intro q; exact k2 q
theorem b75_29 {d : Nat} {Q : Option sV → sM → sG → Prop} {M : sM} {G : sG} {a0 : Nat} {x1 : Int} {x2 : Int} {x3 : Int} (h1 : sI (x2 * 12)) (h2 : sI ((x2 * 12) + x3)) (h3 : 0 ≤ (x2 * 12) + x3 ∧ (x2 * 12) + x3 < 72) (k1 : M (a0 + 5) ((x2 * 12) + x3).toNat ≠ x1 → sW (sC d) 75 Q 46 [vO 10 a0, vI x1, vI x2, vI x3] [] M G 0 0) (k2 : M (a0 + 5) ((x2 * 12) + x3).toNat = x1 → sW (sC d) 75 Q 44 [vN, vN, vN, vI x3] [] M G 0 0) : sW (sC d) 75 Q 29 [vO 10 a0, vI x1, vI x2, vI x3] [] M G 0 0 := by
  refine q_aload_n 30 rfl (show sCode 75 29 = some (.aload_n 0, 1) by decide +kernel) rfl (Nat.le_of_ble_eq_true rfl) ?_
  refine q_getR (vA 0 (a0 + 5) 72) 33 rfl (show sCode 75 30 = some (.getfield 28, 3) by decide +kernel) (show sFR (sKo 75).1 28 = some (10, 5) by decide +kernel) (by decide +kernel) (Or.inl (Or.inl rfl)) rfl ?_
  refine q_iload_n 34 rfl (show sCode 75 33 = some (.iload_n 2, 1) by decide +kernel) rfl ?_
  refine q_bipush 36 rfl (show sCode 75 34 = some (.bipush 12, 2) by decide +kernel) ⟨by decide, by decide⟩ (by decide +kernel) ?_
  refine q_imul 37 rfl (show sCode 75 36 = some (.imul, 1) by decide +kernel) h1 ?_
  refine q_iload_n 38 rfl (show sCode 75 37 = some (.iload_n 3, 1) by decide +kernel) rfl ?_
  refine q_iadd 39 rfl (show sCode 75 38 = some (.iadd, 1) by decide +kernel) h2 ?_
  refine q_iald 40 rfl (show sCode 75 39 = some (.iaload, 1) by decide +kernel) h3 ?_
  refine q_iload_n 41 rfl (show sCode 75 40 = some (.iload_n 1, 1) by decide +kernel) rfl ?_
  refine q_icmpne 46 44 rfl (by decide) (show sCode 75 41 = some (.if_icmp .ne 5, 3) by decide +kernel) ?_ ?_
  · intro q; exact k1 q
  · intro q; refine q_forget (L' := [vN, vI x1, vI x2, vI x3]) 0 rfl ?_; refine q_forget (L' := [vN, vN, vI x2, vI x3]) 1 rfl ?_; refine q_forget (L' := [vN, vN, vN, vI x3]) 2 rfl ?_; exact k2 q
theorem b75_44 {d : Nat} {P : Int → sM → sG → Prop} {M : sM} {G : sG} {x3 : Int}  (kk : P x3 M G) : sW (sC d) 75 (QI P) 44 [vN, vN, vN, vI x3] [] M G 0 0 := by
  refine q_iload_n 45 rfl (show sCode 75 44 = some (.iload_n 3, 1) by decide +kernel) rfl ?_
  exact q_iret (show sCode 75 45 = some (.ireturn, 1) by decide +kernel) (by decide +kernel) (by decide +kernel) kk
theorem b75_46 {d : Nat} {Q : Option sV → sM → sG → Prop} {M : sM} {G : sG} {a0 : Nat} {x1 : Int} {x2 : Int} {x3 : Int} (h1 : sI (x3 + 1)) (kk : sW (sC d) 75 Q 19 [vO 10 a0, vI x1, vI x2, vI (x3 + 1)] [] M G 0 0) : sW (sC d) 75 Q 46 [vO 10 a0, vI x1, vI x2, vI x3] [] M G 0 0 := by
  refine q_iinc [vO 10 a0, vI x1, vI x2, vI (x3 + 1)] 49 rfl (show sCode 75 46 = some (.iinc 3 1, 3) by decide +kernel) rfl rfl h1 rfl ?_
  refine q_goto 19 (by decide) (show sCode 75 49 = some (.goto (-30), 3) by decide +kernel) ?_
  exact kk
theorem b75_52 {d : Nat} {P : Int → sM → sG → Prop} {M : sM} {G : sG}   (kk : P (-1) M G) : sW (sC d) 75 (QI P) 52 [vN, vN, vN, vN] [] M G 0 0 := by
  refine q_iconst 53 rfl (show sCode 75 52 = some (.iconst (-1), 1) by decide +kernel) ⟨by decide, by decide⟩ ?_
  exact q_iret (show sCode 75 53 = some (.ireturn, 1) by decide +kernel) (by decide +kernel) (by decide +kernel) kk
-- 80 AfterTheLast$Town.isDue (I)Z
theorem b80_0 {d : Nat} {Q : Option sV → sM → sG → Prop} {M : sM} {G : sG} {a0 : Nat} {x1 : Int} (h1 : 0 ≤ x1 ∧ x1 < 12) (kk : sC d 59 [vO 10 a0, vI (M (a0 + 13) x1.toNat)] M G (QI (fun r M1 G1 => sW (sC d) 80 Q 12 [vO 10 a0, vN, vI (M (a0 + 13) x1.toNat)] (vI r :: []) M1 G1 0 0))) : sW (sC d) 80 Q 0 [vO 10 a0, vI x1, vN] [] M G 0 0 := by
  refine q_aload_n 1 rfl (show sCode 80 0 = some (.aload_n 0, 1) by decide +kernel) rfl (Nat.le_of_ble_eq_true rfl) ?_
  refine q_getR (vA 0 (a0 + 13) 12) 4 rfl (show sCode 80 1 = some (.getfield 61, 3) by decide +kernel) (show sFR (sKo 80).1 61 = some (10, 16) by decide +kernel) (by decide +kernel) (Or.inl (Or.inl rfl)) rfl ?_
  refine q_iload_n 5 rfl (show sCode 80 4 = some (.iload_n 1, 1) by decide +kernel) rfl ?_
  refine q_iald 6 rfl (show sCode 80 5 = some (.iaload, 1) by decide +kernel) h1 ?_
  refine q_istore_n [vO 10 a0, vI x1, vI (M (a0 + 13) x1.toNat)] 7 rfl (show sCode 80 6 = some (.istore_n 2, 1) by decide +kernel) (Nat.lt_of_lt_of_le (Nat.lt_succ_self _) (Nat.le_of_ble_eq_true rfl)) rfl rfl ?_
  refine q_aload_n 8 rfl (show sCode 80 7 = some (.aload_n 0, 1) by decide +kernel) rfl (Nat.le_of_ble_eq_true rfl) ?_
  refine q_iload_n 9 rfl (show sCode 80 8 = some (.iload_n 2, 1) by decide +kernel) rfl ?_
  refine q_forget (L' := [vO 10 a0, vN, vI (M (a0 + 13) x1.toNat)]) 1 rfl ?_
  exact q_virtI [vI (M (a0 + 13) x1.toNat)] 12 rfl (show sCode 80 9 = some (.invokevirtual 93, 3) by decide +kernel) (show sMR (sKo 80).1 93 = some 59 by decide +kernel) (show 59 < 1000 ∧ sStat 59 = false ∧ sIni 59 = false ∧ sKo 59 = (10, 1, 2, 0, 0) by decide +kernel) rfl (Or.inl rfl) rfl (Nat.le_of_ble_eq_true rfl) rfl rfl rfl (by decide +kernel) kk
theorem b80_12 {d : Nat} {Q : Option sV → sM → sG → Prop} {M : sM} {G : sG} {a0 : Nat} {x2 : Int} {s0 : Int}  (k1 : s0 = 0 → sW (sC d) 80 Q 32 [vN, vN, vN] [] M G 0 0) (k2 : s0 ≠ 0 → sW (sC d) 80 Q 15 [vO 10 a0, vN, vI x2] [] M G 0 0) : sW (sC d) 80 Q 12 [vO 10 a0, vN, vI x2] [vI s0] M G 0 0 := by
  refine q_ifeq 32 15 rfl (by decide) (show sCode 80 12 = some (.ifCond .eq 20, 3) by decide +kernel) ?_ ?_
  · intro q; refine q_forget (L' := [vN, vN, vI x2]) 0 rfl ?_; refine q_forget (L' := [vN, vN, vN]) 2 rfl ?_; exact k1 q
  · intro q; exact k2 q
theorem b80_15 {d : Nat} {Q : Option sV → sM → sG → Prop} {M : sM} {G : sG} {a0 : Nat} {x2 : Int} (h1 : 0 ≤ x2 ∧ x2 < 18) (k1 : M a0 13 < M (a0 + 9) x2.toNat → sW (sC d) 80 Q 32 [vN, vN, vN] [] M G 0 0) (k2 : M (a0 + 9) x2.toNat ≤ M a0 13 → sW (sC d) 80 Q 28 [vN, vN, vN] [] M G 0 0) : sW (sC d) 80 Q 15 [vO 10 a0, vN, vI x2] [] M G 0 0 := by
  refine q_aload_n 16 rfl (show sCode 80 15 = some (.aload_n 0, 1) by decide +kernel) rfl (Nat.le_of_ble_eq_true rfl) ?_
  refine q_getR (vA 0 (a0 + 9) 18) 19 rfl (show sCode 80 16 = some (.getfield 43, 3) by decide +kernel) (show sFR (sKo 80).1 43 = some (10, 10) by decide +kernel) (by decide +kernel) (Or.inl (Or.inl rfl)) rfl ?_
  refine q_iload_n 20 rfl (show sCode 80 19 = some (.iload_n 2, 1) by decide +kernel) rfl ?_
  refine q_iald 21 rfl (show sCode 80 20 = some (.iaload, 1) by decide +kernel) h1 ?_
  refine q_aload_n 22 rfl (show sCode 80 21 = some (.aload_n 0, 1) by decide +kernel) rfl (Nat.le_of_ble_eq_true rfl) ?_
  refine q_getI 25 rfl (show sCode 80 22 = some (.getfield 52, 3) by decide +kernel) (show sFR (sKo 80).1 52 = some (10, 13) by decide +kernel) (by decide +kernel) (Or.inl (Or.inl rfl)) ?_
  refine q_icmpgt 32 28 rfl (by decide) (show sCode 80 25 = some (.if_icmp .gt 7, 3) by decide +kernel) ?_ ?_
  · intro q; refine q_forget (L' := [vN, vN, vI x2]) 0 rfl ?_; refine q_forget (L' := [vN, vN, vN]) 2 rfl ?_; exact k1 q
  · intro q; refine q_forget (L' := [vN, vN, vI x2]) 0 rfl ?_; refine q_forget (L' := [vN, vN, vN]) 2 rfl ?_; exact k2 q
theorem b80_28 {d : Nat} {Q : Option sV → sM → sG → Prop} {M : sM} {G : sG}   (kk : sW (sC d) 80 Q 33 [vN, vN, vN] [vI 1] M G 0 0) : sW (sC d) 80 Q 28 [vN, vN, vN] [] M G 0 0 := by
  refine q_iconst 29 rfl (show sCode 80 28 = some (.iconst 1, 1) by decide +kernel) ⟨by decide, by decide⟩ ?_
  refine q_goto 33 (by decide) (show sCode 80 29 = some (.goto 4, 3) by decide +kernel) ?_
  exact kk
theorem b80_32 {d : Nat} {Q : Option sV → sM → sG → Prop} {M : sM} {G : sG}   (kk : sW (sC d) 80 Q 33 [vN, vN, vN] [vI 0] M G 0 0) : sW (sC d) 80 Q 32 [vN, vN, vN] [] M G 0 0 := by
  refine q_iconst 33 rfl (show sCode 80 32 = some (.iconst 0, 1) by decide +kernel) ⟨by decide, by decide⟩ ?_
  exact kk
theorem b80_33 {d : Nat} {P : Int → sM → sG → Prop} {M : sM} {G : sG} {s0 : Int}  (h01 : s0 = 0 ∨ s0 = 1) (kk : P s0 M G) : sW (sC d) 80 (QI P) 33 [vN, vN, vN] [vI s0] M G 0 0 := by
  exact q_zret (show sCode 80 33 = some (.ireturn, 1) by decide +kernel) (by decide +kernel) h01 (by decide +kernel) kk
-- 89 AfterTheLast$Town.findStaysToBegin ([I)V
theorem b89_0 {d : Nat} {Q : Option sV → sM → sG → Prop} {M : sM} {G : sG} {a0 : Nat} {a1 : Nat} {a1n : Int}  (kk : sC d 6 [vA 0 a1 a1n, vI (-1)] M G (QV (fun M1 G1 => sW (sC d) 89 Q 5 [vO 10 a0, vA 0 a1 a1n, vN] [] M1 G1 0 0))) : sW (sC d) 89 Q 0 [vO 10 a0, vA 0 a1 a1n, vN] [] M G 0 0 := by
  refine q_aload_n 1 rfl (show sCode 89 0 = some (.aload_n 1, 1) by decide +kernel) rfl (Nat.le_of_ble_eq_true rfl) ?_
  refine q_iconst 2 rfl (show sCode 89 1 = some (.iconst (-1), 1) by decide +kernel) ⟨by decide, by decide⟩ ?_
  exact q_statV [vA 0 a1 a1n, vI (-1)] 5 rfl (show sCode 89 2 = some (.invokestatic 70, 3) by decide +kernel) (show sMR (sKo 89).1 70 = some 6 by decide +kernel) (show 6 < 1000 ∧ sStat 6 = true ∧ sKo 6 = (14, 2, 0, 0, 0) by decide +kernel) rfl rfl (Nat.le_of_ble_eq_true rfl) rfl rfl rfl (by decide +kernel) kk
theorem b89_5 {d : Nat} {Q : Option sV → sM → sG → Prop} {M : sM} {G : sG} {a0 : Nat} {a1 : Nat} {a1n : Int} (h1 : sI ((M a0 6) - 1)) (kk : sW (sC d) 89 Q 12 [vO 10 a0, vA 0 a1 a1n, vI ((M a0 6) - 1)] [] M G 0 0) : sW (sC d) 89 Q 5 [vO 10 a0, vA 0 a1 a1n, vN] [] M G 0 0 := by
  refine q_aload_n 6 rfl (show sCode 89 5 = some (.aload_n 0, 1) by decide +kernel) rfl (Nat.le_of_ble_eq_true rfl) ?_
  refine q_getI 9 rfl (show sCode 89 6 = some (.getfield 31, 3) by decide +kernel) (show sFR (sKo 89).1 31 = some (10, 6) by decide +kernel) (by decide +kernel) (Or.inl (Or.inl rfl)) ?_
  refine q_iconst 10 rfl (show sCode 89 9 = some (.iconst 1, 1) by decide +kernel) ⟨by decide, by decide⟩ ?_
  refine q_isub 11 rfl (show sCode 89 10 = some (.isub, 1) by decide +kernel) h1 ?_
  refine q_istore_n [vO 10 a0, vA 0 a1 a1n, vI ((M a0 6) - 1)] 12 rfl (show sCode 89 11 = some (.istore_n 2, 1) by decide +kernel) (Nat.lt_of_lt_of_le (Nat.lt_succ_self _) (Nat.le_of_ble_eq_true rfl)) rfl rfl ?_
  exact kk
theorem b89_12 {d : Nat} {Q : Option sV → sM → sG → Prop} {M : sM} {G : sG} {a0 : Nat} {a1 : Nat} {a1n : Int} {x2 : Int}  (k1 : x2 < 0 → sW (sC d) 89 Q 66 [vN, vN, vN] [] M G 0 0) (k2 : 0 ≤ x2 → sW (sC d) 89 Q 16 [vO 10 a0, vA 0 a1 a1n, vI x2] [] M G 0 0) : sW (sC d) 89 Q 12 [vO 10 a0, vA 0 a1 a1n, vI x2] [] M G 0 0 := by
  refine q_iload_n 13 rfl (show sCode 89 12 = some (.iload_n 2, 1) by decide +kernel) rfl ?_
  refine q_iflt 66 16 rfl (by decide) (show sCode 89 13 = some (.ifCond .lt 53, 3) by decide +kernel) ?_ ?_
  · intro q; refine q_forget (L' := [vN, vA 0 a1 a1n, vI x2]) 0 rfl ?_; refine q_forget (L' := [vN, vN, vI x2]) 1 rfl ?_; refine q_forget (L' := [vN, vN, vN]) 2 rfl ?_; exact k1 q
  · intro q; exact k2 q
theorem b89_16 {d : Nat} {Q : Option sV → sM → sG → Prop} {M : sM} {G : sG} {a0 : Nat} {a1 : Nat} {a1n : Int} {x2 : Int} (h1 : 0 ≤ x2 ∧ x2 < 18) (k1 : M (a0 + 11) x2.toNat ≠ 0 → sW (sC d) 89 Q 60 [vO 10 a0, vA 0 a1 a1n, vI x2] [] M G 0 0) (k2 : M (a0 + 11) x2.toNat = 0 → sW (sC d) 89 Q 25 [vO 10 a0, vA 0 a1 a1n, vI x2] [] M G 0 0) : sW (sC d) 89 Q 16 [vO 10 a0, vA 0 a1 a1n, vI x2] [] M G 0 0 := by
  refine q_aload_n 17 rfl (show sCode 89 16 = some (.aload_n 0, 1) by decide +kernel) rfl (Nat.le_of_ble_eq_true rfl) ?_
  refine q_getR (vA 0 (a0 + 11) 18) 20 rfl (show sCode 89 17 = some (.getfield 49, 3) by decide +kernel) (show sFR (sKo 89).1 49 = some (10, 12) by decide +kernel) (by decide +kernel) (Or.inl (Or.inl rfl)) rfl ?_
  refine q_iload_n 21 rfl (show sCode 89 20 = some (.iload_n 2, 1) by decide +kernel) rfl ?_
  refine q_iald 22 rfl (show sCode 89 21 = some (.iaload, 1) by decide +kernel) h1 ?_
  refine q_ifne 60 25 rfl (by decide) (show sCode 89 22 = some (.ifCond .ne 38, 3) by decide +kernel) ?_ ?_
  · intro q; exact k1 q
  · intro q; exact k2 q
theorem b89_25 {d : Nat} {Q : Option sV → sM → sG → Prop} {M : sM} {G : sG} {a0 : Nat} {a1 : Nat} {a1n : Int} {x2 : Int} (h1 : 0 ≤ x2 ∧ x2 < 18) (k1 : M a0 13 < M (a0 + 8) x2.toNat → sW (sC d) 89 Q 60 [vO 10 a0, vA 0 a1 a1n, vI x2] [] M G 0 0) (k2 : M (a0 + 8) x2.toNat ≤ M a0 13 → sW (sC d) 89 Q 38 [vO 10 a0, vA 0 a1 a1n, vI x2] [] M G 0 0) : sW (sC d) 89 Q 25 [vO 10 a0, vA 0 a1 a1n, vI x2] [] M G 0 0 := by
  refine q_aload_n 26 rfl (show sCode 89 25 = some (.aload_n 0, 1) by decide +kernel) rfl (Nat.le_of_ble_eq_true rfl) ?_
  refine q_getR (vA 0 (a0 + 8) 18) 29 rfl (show sCode 89 26 = some (.getfield 40, 3) by decide +kernel) (show sFR (sKo 89).1 40 = some (10, 9) by decide +kernel) (by decide +kernel) (Or.inl (Or.inl rfl)) rfl ?_
  refine q_iload_n 30 rfl (show sCode 89 29 = some (.iload_n 2, 1) by decide +kernel) rfl ?_
  refine q_iald 31 rfl (show sCode 89 30 = some (.iaload, 1) by decide +kernel) h1 ?_
  refine q_aload_n 32 rfl (show sCode 89 31 = some (.aload_n 0, 1) by decide +kernel) rfl (Nat.le_of_ble_eq_true rfl) ?_
  refine q_getI 35 rfl (show sCode 89 32 = some (.getfield 52, 3) by decide +kernel) (show sFR (sKo 89).1 52 = some (10, 13) by decide +kernel) (by decide +kernel) (Or.inl (Or.inl rfl)) ?_
  refine q_icmpgt 60 38 rfl (by decide) (show sCode 89 35 = some (.if_icmp .gt 25, 3) by decide +kernel) ?_ ?_
  · intro q; exact k1 q
  · intro q; exact k2 q
theorem b89_38 {d : Nat} {Q : Option sV → sM → sG → Prop} {M : sM} {G : sG} {a0 : Nat} {a1 : Nat} {a1n : Int} {x2 : Int} (h1 : 0 ≤ x2 ∧ x2 < 18) (k1 : M (a0 + 9) x2.toNat ≤ M a0 13 → sW (sC d) 89 Q 60 [vO 10 a0, vA 0 a1 a1n, vI x2] [] M G 0 0) (k2 : M a0 13 < M (a0 + 9) x2.toNat → sW (sC d) 89 Q 51 [vO 10 a0, vA 0 a1 a1n, vI x2] [] M G 0 0) : sW (sC d) 89 Q 38 [vO 10 a0, vA 0 a1 a1n, vI x2] [] M G 0 0 := by
  refine q_aload_n 39 rfl (show sCode 89 38 = some (.aload_n 0, 1) by decide +kernel) rfl (Nat.le_of_ble_eq_true rfl) ?_
  refine q_getR (vA 0 (a0 + 9) 18) 42 rfl (show sCode 89 39 = some (.getfield 43, 3) by decide +kernel) (show sFR (sKo 89).1 43 = some (10, 10) by decide +kernel) (by decide +kernel) (Or.inl (Or.inl rfl)) rfl ?_
  refine q_iload_n 43 rfl (show sCode 89 42 = some (.iload_n 2, 1) by decide +kernel) rfl ?_
  refine q_iald 44 rfl (show sCode 89 43 = some (.iaload, 1) by decide +kernel) h1 ?_
  refine q_aload_n 45 rfl (show sCode 89 44 = some (.aload_n 0, 1) by decide +kernel) rfl (Nat.le_of_ble_eq_true rfl) ?_
  refine q_getI 48 rfl (show sCode 89 45 = some (.getfield 52, 3) by decide +kernel) (show sFR (sKo 89).1 52 = some (10, 13) by decide +kernel) (by decide +kernel) (Or.inl (Or.inl rfl)) ?_
  refine q_icmple 60 51 rfl (by decide) (show sCode 89 48 = some (.if_icmp .le 12, 3) by decide +kernel) ?_ ?_
  · intro q; exact k1 q
  · intro q; exact k2 q
theorem b89_51 {d : Nat} {Q : Option sV → sM → sG → Prop} {M : sM} {G : sG} {a0 : Nat} {a1 : Nat} {a1n : Int} {x2 : Int} (h1 : 0 ≤ x2 ∧ x2 < 18) (h2 : 0 ≤ M (a0 + 6) x2.toNat ∧ M (a0 + 6) x2.toNat < a1n) (kk : sW (sC d) 89 Q 60 [vO 10 a0, vA 0 a1 a1n, vI x2] [] (sUpd M a1 (M (a0 + 6) x2.toNat).toNat x2) G 0 0) : sW (sC d) 89 Q 51 [vO 10 a0, vA 0 a1 a1n, vI x2] [] M G 0 0 := by
  refine q_aload_n 52 rfl (show sCode 89 51 = some (.aload_n 1, 1) by decide +kernel) rfl (Nat.le_of_ble_eq_true rfl) ?_
  refine q_aload_n 53 rfl (show sCode 89 52 = some (.aload_n 0, 1) by decide +kernel) rfl (Nat.le_of_ble_eq_true rfl) ?_
  refine q_getR (vA 0 (a0 + 6) 18) 56 rfl (show sCode 89 53 = some (.getfield 34, 3) by decide +kernel) (show sFR (sKo 89).1 34 = some (10, 7) by decide +kernel) (by decide +kernel) (Or.inl (Or.inl rfl)) rfl ?_
  refine q_iload_n 57 rfl (show sCode 89 56 = some (.iload_n 2, 1) by decide +kernel) rfl ?_
  refine q_iald 58 rfl (show sCode 89 57 = some (.iaload, 1) by decide +kernel) h1 ?_
  refine q_iload_n 59 rfl (show sCode 89 58 = some (.iload_n 2, 1) by decide +kernel) rfl ?_
  refine q_iast 60 rfl (show sCode 89 59 = some (.iastore, 1) by decide +kernel) h2 ?_
  exact kk
theorem b89_60 {d : Nat} {Q : Option sV → sM → sG → Prop} {M : sM} {G : sG} {a0 : Nat} {a1 : Nat} {a1n : Int} {x2 : Int} (h1 : sI (x2 + (-1))) (kk : sW (sC d) 89 Q 12 [vO 10 a0, vA 0 a1 a1n, vI (x2 + (-1))] [] M G 0 0) : sW (sC d) 89 Q 60 [vO 10 a0, vA 0 a1 a1n, vI x2] [] M G 0 0 := by
  refine q_iinc [vO 10 a0, vA 0 a1 a1n, vI (x2 + (-1))] 63 rfl (show sCode 89 60 = some (.iinc 2 (-1), 3) by decide +kernel) rfl rfl h1 rfl ?_
  refine q_goto 12 (by decide) (show sCode 89 63 = some (.goto (-51), 3) by decide +kernel) ?_
  exact kk
theorem b89_66 {d : Nat} {P : sM → sG → Prop} {M : sM} {G : sG}   (kk : P M G) : sW (sC d) 89 (QV P) 66 [vN, vN, vN] [] M G 0 0 := by
  exact q_vret (show sCode 89 66 = some (.return_, 1) by decide +kernel) (by decide +kernel) (by decide +kernel) kk
-- 92 AfterTheLast$Town.windowsLeft ()I
theorem b92_0 {d : Nat} {Q : Option sV → sM → sG → Prop} {M : sM} {G : sG} {a0 : Nat}  (kk : sW (sC d) 92 Q 4 [vO 10 a0, vI 0, vI 0] [] M G 0 0) : sW (sC d) 92 Q 0 [vO 10 a0, vN, vN] [] M G 0 0 := by
  refine q_iconst 1 rfl (show sCode 92 0 = some (.iconst 0, 1) by decide +kernel) ⟨by decide, by decide⟩ ?_
  refine q_istore_n [vO 10 a0, vI 0, vN] 2 rfl (show sCode 92 1 = some (.istore_n 1, 1) by decide +kernel) (Nat.lt_of_lt_of_le (Nat.lt_succ_self _) (Nat.le_of_ble_eq_true rfl)) rfl rfl ?_
  refine q_iconst 3 rfl (show sCode 92 2 = some (.iconst 0, 1) by decide +kernel) ⟨by decide, by decide⟩ ?_
  refine q_istore_n [vO 10 a0, vI 0, vI 0] 4 rfl (show sCode 92 3 = some (.istore_n 2, 1) by decide +kernel) (Nat.lt_of_lt_of_le (Nat.lt_succ_self _) (Nat.le_of_ble_eq_true rfl)) rfl rfl ?_
  exact kk
theorem b92_4 {d : Nat} {Q : Option sV → sM → sG → Prop} {M : sM} {G : sG} {a0 : Nat} {x1 : Int} {x2 : Int}  (k1 : M a0 0 ≤ x2 → sW (sC d) 92 Q 27 [vN, vI x1, vN] [] M G 0 0) (k2 : x2 < M a0 0 → sW (sC d) 92 Q 12 [vO 10 a0, vI x1, vI x2] [] M G 0 0) : sW (sC d) 92 Q 4 [vO 10 a0, vI x1, vI x2] [] M G 0 0 := by
  refine q_iload_n 5 rfl (show sCode 92 4 = some (.iload_n 2, 1) by decide +kernel) rfl ?_
  refine q_aload_n 6 rfl (show sCode 92 5 = some (.aload_n 0, 1) by decide +kernel) rfl (Nat.le_of_ble_eq_true rfl) ?_
  refine q_getI 9 rfl (show sCode 92 6 = some (.getfield 9, 3) by decide +kernel) (show sFR (sKo 92).1 9 = some (10, 0) by decide +kernel) (by decide +kernel) (Or.inl (Or.inl rfl)) ?_
  refine q_icmpge 27 12 rfl (by decide) (show sCode 92 9 = some (.if_icmp .ge 18, 3) by decide +kernel) ?_ ?_
  · intro q; refine q_forget (L' := [vN, vI x1, vI x2]) 0 rfl ?_; refine q_forget (L' := [vN, vI x1, vN]) 2 rfl ?_; exact k1 q
  · intro q; exact k2 q
theorem b92_12 {d : Nat} {Q : Option sV → sM → sG → Prop} {M : sM} {G : sG} {a0 : Nat} {x1 : Int} {x2 : Int} (h1 : 0 ≤ x2 ∧ x2 < 6) (h2 : sI (x1 + (M (a0 + 3) x2.toNat))) (h3 : sI (x2 + 1)) (kk : sW (sC d) 92 Q 4 [vO 10 a0, vI (x1 + (M (a0 + 3) x2.toNat)), vI (x2 + 1)] [] M G 0 0) : sW (sC d) 92 Q 12 [vO 10 a0, vI x1, vI x2] [] M G 0 0 := by
  refine q_iload_n 13 rfl (show sCode 92 12 = some (.iload_n 1, 1) by decide +kernel) rfl ?_
  refine q_aload_n 14 rfl (show sCode 92 13 = some (.aload_n 0, 1) by decide +kernel) rfl (Nat.le_of_ble_eq_true rfl) ?_
  refine q_getR (vA 0 (a0 + 3) 6) 17 rfl (show sCode 92 14 = some (.getfield 22, 3) by decide +kernel) (show sFR (sKo 92).1 22 = some (10, 3) by decide +kernel) (by decide +kernel) (Or.inl (Or.inl rfl)) rfl ?_
  refine q_iload_n 18 rfl (show sCode 92 17 = some (.iload_n 2, 1) by decide +kernel) rfl ?_
  refine q_iald 19 rfl (show sCode 92 18 = some (.iaload, 1) by decide +kernel) h1 ?_
  refine q_iadd 20 rfl (show sCode 92 19 = some (.iadd, 1) by decide +kernel) h2 ?_
  refine q_istore_n [vO 10 a0, vI (x1 + (M (a0 + 3) x2.toNat)), vI x2] 21 rfl (show sCode 92 20 = some (.istore_n 1, 1) by decide +kernel) (Nat.lt_of_lt_of_le (Nat.lt_succ_self _) (Nat.le_of_ble_eq_true rfl)) rfl rfl ?_
  refine q_iinc [vO 10 a0, vI (x1 + (M (a0 + 3) x2.toNat)), vI (x2 + 1)] 24 rfl (show sCode 92 21 = some (.iinc 2 1, 3) by decide +kernel) rfl rfl h3 rfl ?_
  refine q_goto 4 (by decide) (show sCode 92 24 = some (.goto (-20), 3) by decide +kernel) ?_
  exact kk
theorem b92_27 {d : Nat} {P : Int → sM → sG → Prop} {M : sM} {G : sG} {x1 : Int}  (kk : P x1 M G) : sW (sC d) 92 (QI P) 27 [vN, vI x1, vN] [] M G 0 0 := by
  refine q_iload_n 28 rfl (show sCode 92 27 = some (.iload_n 1, 1) by decide +kernel) rfl ?_
  exact q_iret (show sCode 92 28 = some (.ireturn, 1) by decide +kernel) (by decide +kernel) (by decide +kernel) kk
-- 102 AfterTheLast$Town.isSetOfStays (I)Z
theorem b102_0 {d : Nat} {Q : Option sV → sM → sG → Prop} {M : sM} {G : sG} {a0 : Nat} {x1 : Int}  (k1 : x1 < 0 → sW (sC d) 102 Q 18 [vN, vN] [] M G 0 0) (k2 : 0 ≤ x1 → sW (sC d) 102 Q 4 [vO 10 a0, vI x1] [] M G 0 0) : sW (sC d) 102 Q 0 [vO 10 a0, vI x1] [] M G 0 0 := by
  refine q_iload_n 1 rfl (show sCode 102 0 = some (.iload_n 1, 1) by decide +kernel) rfl ?_
  refine q_iflt 18 4 rfl (by decide) (show sCode 102 1 = some (.ifCond .lt 17, 3) by decide +kernel) ?_ ?_
  · intro q; refine q_forget (L' := [vN, vI x1]) 0 rfl ?_; refine q_forget (L' := [vN, vN]) 1 rfl ?_; exact k1 q
  · intro q; exact k2 q
theorem b102_4 {d : Nat} {Q : Option sV → sM → sG → Prop} {M : sM} {G : sG} {a0 : Nat} {x1 : Int}  (k1 : iShl 1 (M a0 6) ≤ x1 → sW (sC d) 102 Q 18 [vN, vN] [] M G 0 0) (k2 : x1 < iShl 1 (M a0 6) → sW (sC d) 102 Q 14 [vN, vN] [] M G 0 0) : sW (sC d) 102 Q 4 [vO 10 a0, vI x1] [] M G 0 0 := by
  refine q_iload_n 5 rfl (show sCode 102 4 = some (.iload_n 1, 1) by decide +kernel) rfl ?_
  refine q_iconst 6 rfl (show sCode 102 5 = some (.iconst 1, 1) by decide +kernel) ⟨by decide, by decide⟩ ?_
  refine q_aload_n 7 rfl (show sCode 102 6 = some (.aload_n 0, 1) by decide +kernel) rfl (Nat.le_of_ble_eq_true rfl) ?_
  refine q_getI 10 rfl (show sCode 102 7 = some (.getfield 31, 3) by decide +kernel) (show sFR (sKo 102).1 31 = some (10, 6) by decide +kernel) (by decide +kernel) (Or.inl (Or.inl rfl)) ?_
  refine q_ishl 11 rfl (show sCode 102 10 = some (.ishl, 1) by decide +kernel) ?_
  refine q_icmpge 18 14 rfl (by decide) (show sCode 102 11 = some (.if_icmp .ge 7, 3) by decide +kernel) ?_ ?_
  · intro q; refine q_forget (L' := [vN, vI x1]) 0 rfl ?_; refine q_forget (L' := [vN, vN]) 1 rfl ?_; exact k1 q
  · intro q; refine q_forget (L' := [vN, vI x1]) 0 rfl ?_; refine q_forget (L' := [vN, vN]) 1 rfl ?_; exact k2 q
theorem b102_14 {d : Nat} {Q : Option sV → sM → sG → Prop} {M : sM} {G : sG}   (kk : sW (sC d) 102 Q 19 [vN, vN] [vI 1] M G 0 0) : sW (sC d) 102 Q 14 [vN, vN] [] M G 0 0 := by
  refine q_iconst 15 rfl (show sCode 102 14 = some (.iconst 1, 1) by decide +kernel) ⟨by decide, by decide⟩ ?_
  refine q_goto 19 (by decide) (show sCode 102 15 = some (.goto 4, 3) by decide +kernel) ?_
  exact kk
theorem b102_18 {d : Nat} {Q : Option sV → sM → sG → Prop} {M : sM} {G : sG}   (kk : sW (sC d) 102 Q 19 [vN, vN] [vI 0] M G 0 0) : sW (sC d) 102 Q 18 [vN, vN] [] M G 0 0 := by
  refine q_iconst 19 rfl (show sCode 102 18 = some (.iconst 0, 1) by decide +kernel) ⟨by decide, by decide⟩ ?_
  exact kk
theorem b102_19 {d : Nat} {P : Int → sM → sG → Prop} {M : sM} {G : sG} {s0 : Int}  (h01 : s0 = 0 ∨ s0 = 1) (kk : P s0 M G) : sW (sC d) 102 (QI P) 19 [vN, vN] [vI s0] M G 0 0 := by
  exact q_zret (show sCode 102 19 = some (.ireturn, 1) by decide +kernel) (by decide +kernel) h01 (by decide +kernel) kk
-- 113 java/lang/Integer.bitCount (I)I
theorem b113_0 {d : Nat} {P : Int → sM → sG → Prop} {M : sM} {G : sG} {x0 : Int} (h1 : sI (x0 - (iAnd (iUshr x0 1) 1431655765))) (h2 : sI ((iAnd (x0 - (iAnd (iUshr x0 1) 1431655765)) 858993459) + (iAnd (iUshr (x0 - (iAnd (iUshr x0 1) 1431655765)) 2) 858993459))) (h3 : sI (((iAnd (x0 - (iAnd (iUshr x0 1) 1431655765)) 858993459) + (iAnd (iUshr (x0 - (iAnd (iUshr x0 1) 1431655765)) 2) 858993459)) + (iUshr ((iAnd (x0 - (iAnd (iUshr x0 1) 1431655765)) 858993459) + (iAnd (iUshr (x0 - (iAnd (iUshr x0 1) 1431655765)) 2) 858993459)) 4))) (h4 : sI ((iAnd (((iAnd (x0 - (iAnd (iUshr x0 1) 1431655765)) 858993459) + (iAnd (iUshr (x0 - (iAnd (iUshr x0 1) 1431655765)) 2) 858993459)) + (iUshr ((iAnd (x0 - (iAnd (iUshr x0 1) 1431655765)) 858993459) + (iAnd (iUshr (x0 - (iAnd (iUshr x0 1) 1431655765)) 2) 858993459)) 4)) 252645135) + (iUshr (iAnd (((iAnd (x0 - (iAnd (iUshr x0 1) 1431655765)) 858993459) + (iAnd (iUshr (x0 - (iAnd (iUshr x0 1) 1431655765)) 2) 858993459)) + (iUshr ((iAnd (x0 - (iAnd (iUshr x0 1) 1431655765)) 858993459) + (iAnd (iUshr (x0 - (iAnd (iUshr x0 1) 1431655765)) 2) 858993459)) 4)) 252645135) 8))) (h5 : sI (((iAnd (((iAnd (x0 - (iAnd (iUshr x0 1) 1431655765)) 858993459) + (iAnd (iUshr (x0 - (iAnd (iUshr x0 1) 1431655765)) 2) 858993459)) + (iUshr ((iAnd (x0 - (iAnd (iUshr x0 1) 1431655765)) 858993459) + (iAnd (iUshr (x0 - (iAnd (iUshr x0 1) 1431655765)) 2) 858993459)) 4)) 252645135) + (iUshr (iAnd (((iAnd (x0 - (iAnd (iUshr x0 1) 1431655765)) 858993459) + (iAnd (iUshr (x0 - (iAnd (iUshr x0 1) 1431655765)) 2) 858993459)) + (iUshr ((iAnd (x0 - (iAnd (iUshr x0 1) 1431655765)) 858993459) + (iAnd (iUshr (x0 - (iAnd (iUshr x0 1) 1431655765)) 2) 858993459)) 4)) 252645135) 8)) + (iUshr ((iAnd (((iAnd (x0 - (iAnd (iUshr x0 1) 1431655765)) 858993459) + (iAnd (iUshr (x0 - (iAnd (iUshr x0 1) 1431655765)) 2) 858993459)) + (iUshr ((iAnd (x0 - (iAnd (iUshr x0 1) 1431655765)) 858993459) + (iAnd (iUshr (x0 - (iAnd (iUshr x0 1) 1431655765)) 2) 858993459)) 4)) 252645135) + (iUshr (iAnd (((iAnd (x0 - (iAnd (iUshr x0 1) 1431655765)) 858993459) + (iAnd (iUshr (x0 - (iAnd (iUshr x0 1) 1431655765)) 2) 858993459)) + (iUshr ((iAnd (x0 - (iAnd (iUshr x0 1) 1431655765)) 858993459) + (iAnd (iUshr (x0 - (iAnd (iUshr x0 1) 1431655765)) 2) 858993459)) 4)) 252645135) 8)) 16))) (kk : P (iAnd (((iAnd (((iAnd (x0 - (iAnd (iUshr x0 1) 1431655765)) 858993459) + (iAnd (iUshr (x0 - (iAnd (iUshr x0 1) 1431655765)) 2) 858993459)) + (iUshr ((iAnd (x0 - (iAnd (iUshr x0 1) 1431655765)) 858993459) + (iAnd (iUshr (x0 - (iAnd (iUshr x0 1) 1431655765)) 2) 858993459)) 4)) 252645135) + (iUshr (iAnd (((iAnd (x0 - (iAnd (iUshr x0 1) 1431655765)) 858993459) + (iAnd (iUshr (x0 - (iAnd (iUshr x0 1) 1431655765)) 2) 858993459)) + (iUshr ((iAnd (x0 - (iAnd (iUshr x0 1) 1431655765)) 858993459) + (iAnd (iUshr (x0 - (iAnd (iUshr x0 1) 1431655765)) 2) 858993459)) 4)) 252645135) 8)) + (iUshr ((iAnd (((iAnd (x0 - (iAnd (iUshr x0 1) 1431655765)) 858993459) + (iAnd (iUshr (x0 - (iAnd (iUshr x0 1) 1431655765)) 2) 858993459)) + (iUshr ((iAnd (x0 - (iAnd (iUshr x0 1) 1431655765)) 858993459) + (iAnd (iUshr (x0 - (iAnd (iUshr x0 1) 1431655765)) 2) 858993459)) 4)) 252645135) + (iUshr (iAnd (((iAnd (x0 - (iAnd (iUshr x0 1) 1431655765)) 858993459) + (iAnd (iUshr (x0 - (iAnd (iUshr x0 1) 1431655765)) 2) 858993459)) + (iUshr ((iAnd (x0 - (iAnd (iUshr x0 1) 1431655765)) 858993459) + (iAnd (iUshr (x0 - (iAnd (iUshr x0 1) 1431655765)) 2) 858993459)) 4)) 252645135) 8)) 16)) 63) M G) : sW (sC d) 113 (QI P) 0 [vI x0] [] M G 0 0 := by
  refine q_iload_n 1 rfl (show sCode 113 0 = some (.iload_n 0, 1) by decide +kernel) rfl ?_
  refine q_iload_n 2 rfl (show sCode 113 1 = some (.iload_n 0, 1) by decide +kernel) rfl ?_
  refine q_iconst 3 rfl (show sCode 113 2 = some (.iconst 1, 1) by decide +kernel) ⟨by decide, by decide⟩ ?_
  refine q_iushr 4 rfl (show sCode 113 3 = some (.iushr, 1) by decide +kernel) ?_
  refine q_ldc_w 7 rfl (show sCode 113 4 = some (.ldc_w 265, 3) by decide +kernel) (show sIR (sKo 113).1 265 = some 1431655765 by decide +kernel) ⟨by decide, by decide⟩ ?_
  refine q_iand 8 rfl (show sCode 113 7 = some (.iand, 1) by decide +kernel) ?_
  refine q_isub 9 rfl (show sCode 113 8 = some (.isub, 1) by decide +kernel) h1 ?_
  refine q_istore_n [vI (x0 - (iAnd (iUshr x0 1) 1431655765))] 10 rfl (show sCode 113 9 = some (.istore_n 0, 1) by decide +kernel) (Nat.lt_of_lt_of_le (Nat.lt_succ_self _) (Nat.le_of_ble_eq_true rfl)) rfl rfl ?_
  refine q_iload_n 11 rfl (show sCode 113 10 = some (.iload_n 0, 1) by decide +kernel) rfl ?_
  refine q_ldc_w 14 rfl (show sCode 113 11 = some (.ldc_w 266, 3) by decide +kernel) (show sIR (sKo 113).1 266 = some 858993459 by decide +kernel) ⟨by decide, by decide⟩ ?_
  refine q_iand 15 rfl (show sCode 113 14 = some (.iand, 1) by decide +kernel) ?_
  refine q_iload_n 16 rfl (show sCode 113 15 = some (.iload_n 0, 1) by decide +kernel) rfl ?_
  refine q_iconst 17 rfl (show sCode 113 16 = some (.iconst 2, 1) by decide +kernel) ⟨by decide, by decide⟩ ?_
  refine q_iushr 18 rfl (show sCode 113 17 = some (.iushr, 1) by decide +kernel) ?_
  refine q_ldc_w 21 rfl (show sCode 113 18 = some (.ldc_w 266, 3) by decide +kernel) (show sIR (sKo 113).1 266 = some 858993459 by decide +kernel) ⟨by decide, by decide⟩ ?_
  refine q_iand 22 rfl (show sCode 113 21 = some (.iand, 1) by decide +kernel) ?_
  refine q_iadd 23 rfl (show sCode 113 22 = some (.iadd, 1) by decide +kernel) h2 ?_
  refine q_istore_n [vI ((iAnd (x0 - (iAnd (iUshr x0 1) 1431655765)) 858993459) + (iAnd (iUshr (x0 - (iAnd (iUshr x0 1) 1431655765)) 2) 858993459))] 24 rfl (show sCode 113 23 = some (.istore_n 0, 1) by decide +kernel) (Nat.lt_of_lt_of_le (Nat.lt_succ_self _) (Nat.le_of_ble_eq_true rfl)) rfl rfl ?_
  refine q_iload_n 25 rfl (show sCode 113 24 = some (.iload_n 0, 1) by decide +kernel) rfl ?_
  refine q_iload_n 26 rfl (show sCode 113 25 = some (.iload_n 0, 1) by decide +kernel) rfl ?_
  refine q_iconst 27 rfl (show sCode 113 26 = some (.iconst 4, 1) by decide +kernel) ⟨by decide, by decide⟩ ?_
  refine q_iushr 28 rfl (show sCode 113 27 = some (.iushr, 1) by decide +kernel) ?_
  refine q_iadd 29 rfl (show sCode 113 28 = some (.iadd, 1) by decide +kernel) h3 ?_
  refine q_ldc_w 32 rfl (show sCode 113 29 = some (.ldc_w 267, 3) by decide +kernel) (show sIR (sKo 113).1 267 = some 252645135 by decide +kernel) ⟨by decide, by decide⟩ ?_
  refine q_iand 33 rfl (show sCode 113 32 = some (.iand, 1) by decide +kernel) ?_
  refine q_istore_n [vI (iAnd (((iAnd (x0 - (iAnd (iUshr x0 1) 1431655765)) 858993459) + (iAnd (iUshr (x0 - (iAnd (iUshr x0 1) 1431655765)) 2) 858993459)) + (iUshr ((iAnd (x0 - (iAnd (iUshr x0 1) 1431655765)) 858993459) + (iAnd (iUshr (x0 - (iAnd (iUshr x0 1) 1431655765)) 2) 858993459)) 4)) 252645135)] 34 rfl (show sCode 113 33 = some (.istore_n 0, 1) by decide +kernel) (Nat.lt_of_lt_of_le (Nat.lt_succ_self _) (Nat.le_of_ble_eq_true rfl)) rfl rfl ?_
  refine q_iload_n 35 rfl (show sCode 113 34 = some (.iload_n 0, 1) by decide +kernel) rfl ?_
  refine q_iload_n 36 rfl (show sCode 113 35 = some (.iload_n 0, 1) by decide +kernel) rfl ?_
  refine q_bipush 38 rfl (show sCode 113 36 = some (.bipush 8, 2) by decide +kernel) ⟨by decide, by decide⟩ (by decide +kernel) ?_
  refine q_iushr 39 rfl (show sCode 113 38 = some (.iushr, 1) by decide +kernel) ?_
  refine q_iadd 40 rfl (show sCode 113 39 = some (.iadd, 1) by decide +kernel) h4 ?_
  refine q_istore_n [vI ((iAnd (((iAnd (x0 - (iAnd (iUshr x0 1) 1431655765)) 858993459) + (iAnd (iUshr (x0 - (iAnd (iUshr x0 1) 1431655765)) 2) 858993459)) + (iUshr ((iAnd (x0 - (iAnd (iUshr x0 1) 1431655765)) 858993459) + (iAnd (iUshr (x0 - (iAnd (iUshr x0 1) 1431655765)) 2) 858993459)) 4)) 252645135) + (iUshr (iAnd (((iAnd (x0 - (iAnd (iUshr x0 1) 1431655765)) 858993459) + (iAnd (iUshr (x0 - (iAnd (iUshr x0 1) 1431655765)) 2) 858993459)) + (iUshr ((iAnd (x0 - (iAnd (iUshr x0 1) 1431655765)) 858993459) + (iAnd (iUshr (x0 - (iAnd (iUshr x0 1) 1431655765)) 2) 858993459)) 4)) 252645135) 8))] 41 rfl (show sCode 113 40 = some (.istore_n 0, 1) by decide +kernel) (Nat.lt_of_lt_of_le (Nat.lt_succ_self _) (Nat.le_of_ble_eq_true rfl)) rfl rfl ?_
  refine q_iload_n 42 rfl (show sCode 113 41 = some (.iload_n 0, 1) by decide +kernel) rfl ?_
  refine q_iload_n 43 rfl (show sCode 113 42 = some (.iload_n 0, 1) by decide +kernel) rfl ?_
  refine q_bipush 45 rfl (show sCode 113 43 = some (.bipush 16, 2) by decide +kernel) ⟨by decide, by decide⟩ (by decide +kernel) ?_
  refine q_iushr 46 rfl (show sCode 113 45 = some (.iushr, 1) by decide +kernel) ?_
  refine q_iadd 47 rfl (show sCode 113 46 = some (.iadd, 1) by decide +kernel) h5 ?_
  refine q_istore_n [vI (((iAnd (((iAnd (x0 - (iAnd (iUshr x0 1) 1431655765)) 858993459) + (iAnd (iUshr (x0 - (iAnd (iUshr x0 1) 1431655765)) 2) 858993459)) + (iUshr ((iAnd (x0 - (iAnd (iUshr x0 1) 1431655765)) 858993459) + (iAnd (iUshr (x0 - (iAnd (iUshr x0 1) 1431655765)) 2) 858993459)) 4)) 252645135) + (iUshr (iAnd (((iAnd (x0 - (iAnd (iUshr x0 1) 1431655765)) 858993459) + (iAnd (iUshr (x0 - (iAnd (iUshr x0 1) 1431655765)) 2) 858993459)) + (iUshr ((iAnd (x0 - (iAnd (iUshr x0 1) 1431655765)) 858993459) + (iAnd (iUshr (x0 - (iAnd (iUshr x0 1) 1431655765)) 2) 858993459)) 4)) 252645135) 8)) + (iUshr ((iAnd (((iAnd (x0 - (iAnd (iUshr x0 1) 1431655765)) 858993459) + (iAnd (iUshr (x0 - (iAnd (iUshr x0 1) 1431655765)) 2) 858993459)) + (iUshr ((iAnd (x0 - (iAnd (iUshr x0 1) 1431655765)) 858993459) + (iAnd (iUshr (x0 - (iAnd (iUshr x0 1) 1431655765)) 2) 858993459)) 4)) 252645135) + (iUshr (iAnd (((iAnd (x0 - (iAnd (iUshr x0 1) 1431655765)) 858993459) + (iAnd (iUshr (x0 - (iAnd (iUshr x0 1) 1431655765)) 2) 858993459)) + (iUshr ((iAnd (x0 - (iAnd (iUshr x0 1) 1431655765)) 858993459) + (iAnd (iUshr (x0 - (iAnd (iUshr x0 1) 1431655765)) 2) 858993459)) 4)) 252645135) 8)) 16))] 48 rfl (show sCode 113 47 = some (.istore_n 0, 1) by decide +kernel) (Nat.lt_of_lt_of_le (Nat.lt_succ_self _) (Nat.le_of_ble_eq_true rfl)) rfl rfl ?_
  refine q_iload_n 49 rfl (show sCode 113 48 = some (.iload_n 0, 1) by decide +kernel) rfl ?_
  refine q_bipush 51 rfl (show sCode 113 49 = some (.bipush 63, 2) by decide +kernel) ⟨by decide, by decide⟩ (by decide +kernel) ?_
  refine q_iand 52 rfl (show sCode 113 51 = some (.iand, 1) by decide +kernel) ?_
  exact q_iret (show sCode 113 52 = some (.ireturn, 1) by decide +kernel) (by decide +kernel) (by decide +kernel) kk
-- 121 AfterTheLast$Told.addWish (IIIII)V
theorem b121_0 {d : Nat} {Q : Option sV → sM → sG → Prop} {M : sM} {G : sG} {a0 : Nat} {x1 : Int} {x2 : Int} {x3 : Int} {x4 : Int} {x5 : Int}  (k1 : 6 ≤ M a0 1 → sW (sC d) 121 Q 71 [vN, vN, vN, vN, vN, vN] [] M G 0 0) (k2 : M a0 1 < 6 → sW (sC d) 121 Q 9 [vO 9 a0, vI x1, vI x2, vI x3, vI x4, vI x5] [] M G 0 0) : sW (sC d) 121 Q 0 [vO 9 a0, vI x1, vI x2, vI x3, vI x4, vI x5] [] M G 0 0 := by
  refine q_aload_n 1 rfl (show sCode 121 0 = some (.aload_n 0, 1) by decide +kernel) rfl (Nat.le_of_ble_eq_true rfl) ?_
  refine q_getI 4 rfl (show sCode 121 1 = some (.getfield 15, 3) by decide +kernel) (show sFR (sKo 121).1 15 = some (9, 1) by decide +kernel) (by decide +kernel) (Or.inl (Or.inl rfl)) ?_
  refine q_bipush 6 rfl (show sCode 121 4 = some (.bipush 6, 2) by decide +kernel) ⟨by decide, by decide⟩ (by decide +kernel) ?_
  refine q_icmpge 71 9 rfl (by decide) (show sCode 121 6 = some (.if_icmp .ge 65, 3) by decide +kernel) ?_ ?_
  · intro q; refine q_forget (L' := [vN, vI x1, vI x2, vI x3, vI x4, vI x5]) 0 rfl ?_; refine q_forget (L' := [vN, vN, vI x2, vI x3, vI x4, vI x5]) 1 rfl ?_; refine q_forget (L' := [vN, vN, vN, vI x3, vI x4, vI x5]) 2 rfl ?_; refine q_forget (L' := [vN, vN, vN, vN, vI x4, vI x5]) 3 rfl ?_; refine q_forget (L' := [vN, vN, vN, vN, vN, vI x5]) 4 rfl ?_; refine q_forget (L' := [vN, vN, vN, vN, vN, vN]) 5 rfl ?_; exact k1 q
  · intro q; exact k2 q
theorem b121_9 {d : Nat} {Q : Option sV → sM → sG → Prop} {M : sM} {G : sG} {a0 : Nat} {x1 : Int} {x2 : Int} {x3 : Int} {x4 : Int} {x5 : Int} (h1 : 0 ≤ M a0 1 ∧ M a0 1 < 6) (h2 : 0 ≤ (sUpd M (a0 + 2) (M a0 1).toNat x1) a0 1 ∧ (sUpd M (a0 + 2) (M a0 1).toNat x1) a0 1 < 6) (h3 : 0 ≤ (sUpd (sUpd M (a0 + 2) (M a0 1).toNat x1) (a0 + 3) ((sUpd M (a0 + 2) (M a0 1).toNat x1) a0 1).toNat x2) a0 1 ∧ (sUpd (sUpd M (a0 + 2) (M a0 1).toNat x1) (a0 + 3) ((sUpd M (a0 + 2) (M a0 1).toNat x1) a0 1).toNat x2) a0 1 < 6) (h4 : 0 ≤ (sUpd (sUpd (sUpd M (a0 + 2) (M a0 1).toNat x1) (a0 + 3) ((sUpd M (a0 + 2) (M a0 1).toNat x1) a0 1).toNat x2) (a0 + 4) ((sUpd (sUpd M (a0 + 2) (M a0 1).toNat x1) (a0 + 3) ((sUpd M (a0 + 2) (M a0 1).toNat x1) a0 1).toNat x2) a0 1).toNat x3) a0 1 ∧ (sUpd (sUpd (sUpd M (a0 + 2) (M a0 1).toNat x1) (a0 + 3) ((sUpd M (a0 + 2) (M a0 1).toNat x1) a0 1).toNat x2) (a0 + 4) ((sUpd (sUpd M (a0 + 2) (M a0 1).toNat x1) (a0 + 3) ((sUpd M (a0 + 2) (M a0 1).toNat x1) a0 1).toNat x2) a0 1).toNat x3) a0 1 < 6) (h5 : 0 ≤ (sUpd (sUpd (sUpd (sUpd M (a0 + 2) (M a0 1).toNat x1) (a0 + 3) ((sUpd M (a0 + 2) (M a0 1).toNat x1) a0 1).toNat x2) (a0 + 4) ((sUpd (sUpd M (a0 + 2) (M a0 1).toNat x1) (a0 + 3) ((sUpd M (a0 + 2) (M a0 1).toNat x1) a0 1).toNat x2) a0 1).toNat x3) (a0 + 5) ((sUpd (sUpd (sUpd M (a0 + 2) (M a0 1).toNat x1) (a0 + 3) ((sUpd M (a0 + 2) (M a0 1).toNat x1) a0 1).toNat x2) (a0 + 4) ((sUpd (sUpd M (a0 + 2) (M a0 1).toNat x1) (a0 + 3) ((sUpd M (a0 + 2) (M a0 1).toNat x1) a0 1).toNat x2) a0 1).toNat x3) a0 1).toNat x4) a0 1 ∧ (sUpd (sUpd (sUpd (sUpd M (a0 + 2) (M a0 1).toNat x1) (a0 + 3) ((sUpd M (a0 + 2) (M a0 1).toNat x1) a0 1).toNat x2) (a0 + 4) ((sUpd (sUpd M (a0 + 2) (M a0 1).toNat x1) (a0 + 3) ((sUpd M (a0 + 2) (M a0 1).toNat x1) a0 1).toNat x2) a0 1).toNat x3) (a0 + 5) ((sUpd (sUpd (sUpd M (a0 + 2) (M a0 1).toNat x1) (a0 + 3) ((sUpd M (a0 + 2) (M a0 1).toNat x1) a0 1).toNat x2) (a0 + 4) ((sUpd (sUpd M (a0 + 2) (M a0 1).toNat x1) (a0 + 3) ((sUpd M (a0 + 2) (M a0 1).toNat x1) a0 1).toNat x2) a0 1).toNat x3) a0 1).toNat x4) a0 1 < 6) (h6 : sI (((sUpd (sUpd (sUpd (sUpd (sUpd M (a0 + 2) (M a0 1).toNat x1) (a0 + 3) ((sUpd M (a0 + 2) (M a0 1).toNat x1) a0 1).toNat x2) (a0 + 4) ((sUpd (sUpd M (a0 + 2) (M a0 1).toNat x1) (a0 + 3) ((sUpd M (a0 + 2) (M a0 1).toNat x1) a0 1).toNat x2) a0 1).toNat x3) (a0 + 5) ((sUpd (sUpd (sUpd M (a0 + 2) (M a0 1).toNat x1) (a0 + 3) ((sUpd M (a0 + 2) (M a0 1).toNat x1) a0 1).toNat x2) (a0 + 4) ((sUpd (sUpd M (a0 + 2) (M a0 1).toNat x1) (a0 + 3) ((sUpd M (a0 + 2) (M a0 1).toNat x1) a0 1).toNat x2) a0 1).toNat x3) a0 1).toNat x4) (a0 + 6) ((sUpd (sUpd (sUpd (sUpd M (a0 + 2) (M a0 1).toNat x1) (a0 + 3) ((sUpd M (a0 + 2) (M a0 1).toNat x1) a0 1).toNat x2) (a0 + 4) ((sUpd (sUpd M (a0 + 2) (M a0 1).toNat x1) (a0 + 3) ((sUpd M (a0 + 2) (M a0 1).toNat x1) a0 1).toNat x2) a0 1).toNat x3) (a0 + 5) ((sUpd (sUpd (sUpd M (a0 + 2) (M a0 1).toNat x1) (a0 + 3) ((sUpd M (a0 + 2) (M a0 1).toNat x1) a0 1).toNat x2) (a0 + 4) ((sUpd (sUpd M (a0 + 2) (M a0 1).toNat x1) (a0 + 3) ((sUpd M (a0 + 2) (M a0 1).toNat x1) a0 1).toNat x2) a0 1).toNat x3) a0 1).toNat x4) a0 1).toNat x5) a0 1) + 1)) (kk : sW (sC d) 121 Q 71 [vN, vN, vN, vN, vN, vN] [] (sUpd (sUpd (sUpd (sUpd (sUpd (sUpd M (a0 + 2) (M a0 1).toNat x1) (a0 + 3) ((sUpd M (a0 + 2) (M a0 1).toNat x1) a0 1).toNat x2) (a0 + 4) ((sUpd (sUpd M (a0 + 2) (M a0 1).toNat x1) (a0 + 3) ((sUpd M (a0 + 2) (M a0 1).toNat x1) a0 1).toNat x2) a0 1).toNat x3) (a0 + 5) ((sUpd (sUpd (sUpd M (a0 + 2) (M a0 1).toNat x1) (a0 + 3) ((sUpd M (a0 + 2) (M a0 1).toNat x1) a0 1).toNat x2) (a0 + 4) ((sUpd (sUpd M (a0 + 2) (M a0 1).toNat x1) (a0 + 3) ((sUpd M (a0 + 2) (M a0 1).toNat x1) a0 1).toNat x2) a0 1).toNat x3) a0 1).toNat x4) (a0 + 6) ((sUpd (sUpd (sUpd (sUpd M (a0 + 2) (M a0 1).toNat x1) (a0 + 3) ((sUpd M (a0 + 2) (M a0 1).toNat x1) a0 1).toNat x2) (a0 + 4) ((sUpd (sUpd M (a0 + 2) (M a0 1).toNat x1) (a0 + 3) ((sUpd M (a0 + 2) (M a0 1).toNat x1) a0 1).toNat x2) a0 1).toNat x3) (a0 + 5) ((sUpd (sUpd (sUpd M (a0 + 2) (M a0 1).toNat x1) (a0 + 3) ((sUpd M (a0 + 2) (M a0 1).toNat x1) a0 1).toNat x2) (a0 + 4) ((sUpd (sUpd M (a0 + 2) (M a0 1).toNat x1) (a0 + 3) ((sUpd M (a0 + 2) (M a0 1).toNat x1) a0 1).toNat x2) a0 1).toNat x3) a0 1).toNat x4) a0 1).toNat x5) a0 1 (((sUpd (sUpd (sUpd (sUpd (sUpd M (a0 + 2) (M a0 1).toNat x1) (a0 + 3) ((sUpd M (a0 + 2) (M a0 1).toNat x1) a0 1).toNat x2) (a0 + 4) ((sUpd (sUpd M (a0 + 2) (M a0 1).toNat x1) (a0 + 3) ((sUpd M (a0 + 2) (M a0 1).toNat x1) a0 1).toNat x2) a0 1).toNat x3) (a0 + 5) ((sUpd (sUpd (sUpd M (a0 + 2) (M a0 1).toNat x1) (a0 + 3) ((sUpd M (a0 + 2) (M a0 1).toNat x1) a0 1).toNat x2) (a0 + 4) ((sUpd (sUpd M (a0 + 2) (M a0 1).toNat x1) (a0 + 3) ((sUpd M (a0 + 2) (M a0 1).toNat x1) a0 1).toNat x2) a0 1).toNat x3) a0 1).toNat x4) (a0 + 6) ((sUpd (sUpd (sUpd (sUpd M (a0 + 2) (M a0 1).toNat x1) (a0 + 3) ((sUpd M (a0 + 2) (M a0 1).toNat x1) a0 1).toNat x2) (a0 + 4) ((sUpd (sUpd M (a0 + 2) (M a0 1).toNat x1) (a0 + 3) ((sUpd M (a0 + 2) (M a0 1).toNat x1) a0 1).toNat x2) a0 1).toNat x3) (a0 + 5) ((sUpd (sUpd (sUpd M (a0 + 2) (M a0 1).toNat x1) (a0 + 3) ((sUpd M (a0 + 2) (M a0 1).toNat x1) a0 1).toNat x2) (a0 + 4) ((sUpd (sUpd M (a0 + 2) (M a0 1).toNat x1) (a0 + 3) ((sUpd M (a0 + 2) (M a0 1).toNat x1) a0 1).toNat x2) a0 1).toNat x3) a0 1).toNat x4) a0 1).toNat x5) a0 1) + 1)) G 0 0) : sW (sC d) 121 Q 9 [vO 9 a0, vI x1, vI x2, vI x3, vI x4, vI x5] [] M G 0 0 := by
  refine q_aload_n 10 rfl (show sCode 121 9 = some (.aload_n 0, 1) by decide +kernel) rfl (Nat.le_of_ble_eq_true rfl) ?_
  refine q_getR (vA 0 (a0 + 2) 6) 13 rfl (show sCode 121 10 = some (.getfield 19, 3) by decide +kernel) (show sFR (sKo 121).1 19 = some (9, 2) by decide +kernel) (by decide +kernel) (Or.inl (Or.inl rfl)) rfl ?_
  refine q_aload_n 14 rfl (show sCode 121 13 = some (.aload_n 0, 1) by decide +kernel) rfl (Nat.le_of_ble_eq_true rfl) ?_
  refine q_getI 17 rfl (show sCode 121 14 = some (.getfield 15, 3) by decide +kernel) (show sFR (sKo 121).1 15 = some (9, 1) by decide +kernel) (by decide +kernel) (Or.inl (Or.inl rfl)) ?_
  refine q_iload_n 18 rfl (show sCode 121 17 = some (.iload_n 1, 1) by decide +kernel) rfl ?_
  refine q_iast 19 rfl (show sCode 121 18 = some (.iastore, 1) by decide +kernel) h1 ?_
  refine q_aload_n 20 rfl (show sCode 121 19 = some (.aload_n 0, 1) by decide +kernel) rfl (Nat.le_of_ble_eq_true rfl) ?_
  refine q_getR (vA 0 (a0 + 3) 6) 23 rfl (show sCode 121 20 = some (.getfield 22, 3) by decide +kernel) (show sFR (sKo 121).1 22 = some (9, 3) by decide +kernel) (by decide +kernel) (Or.inl (Or.inl rfl)) rfl ?_
  refine q_aload_n 24 rfl (show sCode 121 23 = some (.aload_n 0, 1) by decide +kernel) rfl (Nat.le_of_ble_eq_true rfl) ?_
  refine q_getI 27 rfl (show sCode 121 24 = some (.getfield 15, 3) by decide +kernel) (show sFR (sKo 121).1 15 = some (9, 1) by decide +kernel) (by decide +kernel) (Or.inl (Or.inl rfl)) ?_
  refine q_iload_n 28 rfl (show sCode 121 27 = some (.iload_n 2, 1) by decide +kernel) rfl ?_
  refine q_iast 29 rfl (show sCode 121 28 = some (.iastore, 1) by decide +kernel) h2 ?_
  refine q_aload_n 30 rfl (show sCode 121 29 = some (.aload_n 0, 1) by decide +kernel) rfl (Nat.le_of_ble_eq_true rfl) ?_
  refine q_getR (vA 0 (a0 + 4) 6) 33 rfl (show sCode 121 30 = some (.getfield 25, 3) by decide +kernel) (show sFR (sKo 121).1 25 = some (9, 4) by decide +kernel) (by decide +kernel) (Or.inl (Or.inl rfl)) rfl ?_
  refine q_aload_n 34 rfl (show sCode 121 33 = some (.aload_n 0, 1) by decide +kernel) rfl (Nat.le_of_ble_eq_true rfl) ?_
  refine q_getI 37 rfl (show sCode 121 34 = some (.getfield 15, 3) by decide +kernel) (show sFR (sKo 121).1 15 = some (9, 1) by decide +kernel) (by decide +kernel) (Or.inl (Or.inl rfl)) ?_
  refine q_iload_n 38 rfl (show sCode 121 37 = some (.iload_n 3, 1) by decide +kernel) rfl ?_
  refine q_iast 39 rfl (show sCode 121 38 = some (.iastore, 1) by decide +kernel) h3 ?_
  refine q_aload_n 40 rfl (show sCode 121 39 = some (.aload_n 0, 1) by decide +kernel) rfl (Nat.le_of_ble_eq_true rfl) ?_
  refine q_getR (vA 0 (a0 + 5) 6) 43 rfl (show sCode 121 40 = some (.getfield 28, 3) by decide +kernel) (show sFR (sKo 121).1 28 = some (9, 5) by decide +kernel) (by decide +kernel) (Or.inl (Or.inl rfl)) rfl ?_
  refine q_aload_n 44 rfl (show sCode 121 43 = some (.aload_n 0, 1) by decide +kernel) rfl (Nat.le_of_ble_eq_true rfl) ?_
  refine q_getI 47 rfl (show sCode 121 44 = some (.getfield 15, 3) by decide +kernel) (show sFR (sKo 121).1 15 = some (9, 1) by decide +kernel) (by decide +kernel) (Or.inl (Or.inl rfl)) ?_
  refine q_iload 49 rfl (show sCode 121 47 = some (.iload 4, 2) by decide +kernel) rfl ?_
  refine q_iast 50 rfl (show sCode 121 49 = some (.iastore, 1) by decide +kernel) h4 ?_
  refine q_aload_n 51 rfl (show sCode 121 50 = some (.aload_n 0, 1) by decide +kernel) rfl (Nat.le_of_ble_eq_true rfl) ?_
  refine q_getR (vA 0 (a0 + 6) 6) 54 rfl (show sCode 121 51 = some (.getfield 31, 3) by decide +kernel) (show sFR (sKo 121).1 31 = some (9, 6) by decide +kernel) (by decide +kernel) (Or.inl (Or.inl rfl)) rfl ?_
  refine q_aload_n 55 rfl (show sCode 121 54 = some (.aload_n 0, 1) by decide +kernel) rfl (Nat.le_of_ble_eq_true rfl) ?_
  refine q_getI 58 rfl (show sCode 121 55 = some (.getfield 15, 3) by decide +kernel) (show sFR (sKo 121).1 15 = some (9, 1) by decide +kernel) (by decide +kernel) (Or.inl (Or.inl rfl)) ?_
  refine q_iload 60 rfl (show sCode 121 58 = some (.iload 5, 2) by decide +kernel) rfl ?_
  refine q_iast 61 rfl (show sCode 121 60 = some (.iastore, 1) by decide +kernel) h5 ?_
  refine q_aload_n 62 rfl (show sCode 121 61 = some (.aload_n 0, 1) by decide +kernel) rfl (Nat.le_of_ble_eq_true rfl) ?_
  refine q_dup 63 rfl (show sCode 121 62 = some (.dup, 1) by decide +kernel) rfl ?_
  refine q_getI 66 rfl (show sCode 121 63 = some (.getfield 15, 3) by decide +kernel) (show sFR (sKo 121).1 15 = some (9, 1) by decide +kernel) (by decide +kernel) (Or.inl (Or.inl rfl)) ?_
  refine q_iconst 67 rfl (show sCode 121 66 = some (.iconst 1, 1) by decide +kernel) ⟨by decide, by decide⟩ ?_
  refine q_iadd 68 rfl (show sCode 121 67 = some (.iadd, 1) by decide +kernel) h6 ?_
  refine q_putI 71 rfl (show sCode 121 68 = some (.putfield 15, 3) by decide +kernel) (show sFR (sKo 121).1 15 = some (9, 1) by decide +kernel) (by decide +kernel) (Or.inl ⟨Or.inl rfl, by decide +kernel⟩) ?_
  refine q_forget (L' := [vN, vI x1, vI x2, vI x3, vI x4, vI x5]) 0 rfl ?_
  refine q_forget (L' := [vN, vN, vI x2, vI x3, vI x4, vI x5]) 1 rfl ?_
  refine q_forget (L' := [vN, vN, vN, vI x3, vI x4, vI x5]) 2 rfl ?_
  refine q_forget (L' := [vN, vN, vN, vN, vI x4, vI x5]) 3 rfl ?_
  refine q_forget (L' := [vN, vN, vN, vN, vN, vI x5]) 4 rfl ?_
  refine q_forget (L' := [vN, vN, vN, vN, vN, vN]) 5 rfl ?_
  exact kk
theorem b121_71 {d : Nat} {P : sM → sG → Prop} {M : sM} {G : sG}   (kk : P M G) : sW (sC d) 121 (QV P) 71 [vN, vN, vN, vN, vN, vN] [] M G 0 0 := by
  exact q_vret (show sCode 121 71 = some (.return_, 1) by decide +kernel) (by decide +kernel) (by decide +kernel) kk
-- 147 AfterTheLast$Told.placeInRow (I)I
theorem b147_0 {d : Nat} {Q : Option sV → sM → sG → Prop} {M : sM} {G : sG} {a0 : Nat} {x1 : Int}  (kk : sW (sC d) 147 Q 2 [vO 9 a0, vI x1, vI 0] [] M G 0 0) : sW (sC d) 147 Q 0 [vO 9 a0, vI x1, vN] [] M G 0 0 := by
  refine q_iconst 1 rfl (show sCode 147 0 = some (.iconst 0, 1) by decide +kernel) ⟨by decide, by decide⟩ ?_
  refine q_istore_n [vO 9 a0, vI x1, vI 0] 2 rfl (show sCode 147 1 = some (.istore_n 2, 1) by decide +kernel) (Nat.lt_of_lt_of_le (Nat.lt_succ_self _) (Nat.le_of_ble_eq_true rfl)) rfl rfl ?_
  exact kk
theorem b147_2 {d : Nat} {Q : Option sV → sM → sG → Prop} {M : sM} {G : sG} {a0 : Nat} {x1 : Int} {x2 : Int}  (k1 : M a0 7 ≤ x2 → sW (sC d) 147 Q 28 [vN, vN, vN] [] M G 0 0) (k2 : x2 < M a0 7 → sW (sC d) 147 Q 10 [vO 9 a0, vI x1, vI x2] [] M G 0 0) : sW (sC d) 147 Q 2 [vO 9 a0, vI x1, vI x2] [] M G 0 0 := by
  refine q_iload_n 3 rfl (show sCode 147 2 = some (.iload_n 2, 1) by decide +kernel) rfl ?_
  refine q_aload_n 4 rfl (show sCode 147 3 = some (.aload_n 0, 1) by decide +kernel) rfl (Nat.le_of_ble_eq_true rfl) ?_
  refine q_getI 7 rfl (show sCode 147 4 = some (.getfield 34, 3) by decide +kernel) (show sFR (sKo 147).1 34 = some (9, 7) by decide +kernel) (by decide +kernel) (Or.inl (Or.inl rfl)) ?_
  refine q_icmpge 28 10 rfl (by decide) (show sCode 147 7 = some (.if_icmp .ge 21, 3) by decide +kernel) ?_ ?_
  · intro q; refine q_forget (L' := [vN, vI x1, vI x2]) 0 rfl ?_; refine q_forget (L' := [vN, vN, vI x2]) 1 rfl ?_; refine q_forget (L' := [vN, vN, vN]) 2 rfl ?_; exact k1 q
  · intro q; exact k2 q
theorem b147_10 {d : Nat} {Q : Option sV → sM → sG → Prop} {M : sM} {G : sG} {a0 : Nat} {x1 : Int} {x2 : Int} (h1 : 0 ≤ x2 ∧ x2 < 8) (k1 : M (a0 + 7) x2.toNat ≠ x1 → sW (sC d) 147 Q 22 [vO 9 a0, vI x1, vI x2] [] M G 0 0) (k2 : M (a0 + 7) x2.toNat = x1 → sW (sC d) 147 Q 20 [vN, vN, vI x2] [] M G 0 0) : sW (sC d) 147 Q 10 [vO 9 a0, vI x1, vI x2] [] M G 0 0 := by
  refine q_aload_n 11 rfl (show sCode 147 10 = some (.aload_n 0, 1) by decide +kernel) rfl (Nat.le_of_ble_eq_true rfl) ?_
  refine q_getR (vA 0 (a0 + 7) 8) 14 rfl (show sCode 147 11 = some (.getfield 37, 3) by decide +kernel) (show sFR (sKo 147).1 37 = some (9, 8) by decide +kernel) (by decide +kernel) (Or.inl (Or.inl rfl)) rfl ?_
  refine q_iload_n 15 rfl (show sCode 147 14 = some (.iload_n 2, 1) by decide +kernel) rfl ?_
  refine q_iald 16 rfl (show sCode 147 15 = some (.iaload, 1) by decide +kernel) h1 ?_
  refine q_iload_n 17 rfl (show sCode 147 16 = some (.iload_n 1, 1) by decide +kernel) rfl ?_
  refine q_icmpne 22 20 rfl (by decide) (show sCode 147 17 = some (.if_icmp .ne 5, 3) by decide +kernel) ?_ ?_
  · intro q; exact k1 q
  · intro q; refine q_forget (L' := [vN, vI x1, vI x2]) 0 rfl ?_; refine q_forget (L' := [vN, vN, vI x2]) 1 rfl ?_; exact k2 q
theorem b147_20 {d : Nat} {P : Int → sM → sG → Prop} {M : sM} {G : sG} {x2 : Int}  (kk : P x2 M G) : sW (sC d) 147 (QI P) 20 [vN, vN, vI x2] [] M G 0 0 := by
  refine q_iload_n 21 rfl (show sCode 147 20 = some (.iload_n 2, 1) by decide +kernel) rfl ?_
  exact q_iret (show sCode 147 21 = some (.ireturn, 1) by decide +kernel) (by decide +kernel) (by decide +kernel) kk
theorem b147_22 {d : Nat} {Q : Option sV → sM → sG → Prop} {M : sM} {G : sG} {a0 : Nat} {x1 : Int} {x2 : Int} (h1 : sI (x2 + 1)) (kk : sW (sC d) 147 Q 2 [vO 9 a0, vI x1, vI (x2 + 1)] [] M G 0 0) : sW (sC d) 147 Q 22 [vO 9 a0, vI x1, vI x2] [] M G 0 0 := by
  refine q_iinc [vO 9 a0, vI x1, vI (x2 + 1)] 25 rfl (show sCode 147 22 = some (.iinc 2 1, 3) by decide +kernel) rfl rfl h1 rfl ?_
  refine q_goto 2 (by decide) (show sCode 147 25 = some (.goto (-23), 3) by decide +kernel) ?_
  exact kk
theorem b147_28 {d : Nat} {P : Int → sM → sG → Prop} {M : sM} {G : sG}   (kk : P (-1) M G) : sW (sC d) 147 (QI P) 28 [vN, vN, vN] [] M G 0 0 := by
  refine q_iconst 29 rfl (show sCode 147 28 = some (.iconst (-1), 1) by decide +kernel) ⟨by decide, by decide⟩ ?_
  exact q_iret (show sCode 147 29 = some (.ireturn, 1) by decide +kernel) (by decide +kernel) (by decide +kernel) kk
-- 165 AfterTheLast$Scene.copyFrom (LAfterTheLast$Scene;)V
theorem b165_0 {d : Nat} {Q : Option sV → sM → sG → Prop} {M : sM} {G : sG} {a0 : Nat} {a1 : Nat}  (kk : sC d 34 [vO 10 (a0 + 1), vO 10 (a1 + 1)] M G (QV (fun M1 G1 => sW (sC d) 165 Q 11 [vO 8 a0, vO 8 a1] [] M1 G1 0 0))) : sW (sC d) 165 Q 0 [vO 8 a0, vO 8 a1] [] M G 0 0 := by
  refine q_aload_n 1 rfl (show sCode 165 0 = some (.aload_n 0, 1) by decide +kernel) rfl (Nat.le_of_ble_eq_true rfl) ?_
  refine q_getR (vO 10 (a0 + 1)) 4 rfl (show sCode 165 1 = some (.getfield 10, 3) by decide +kernel) (show sFR (sKo 165).1 10 = some (8, 0) by decide +kernel) (by decide +kernel) (Or.inl (Or.inl rfl)) rfl ?_
  refine q_aload_n 5 rfl (show sCode 165 4 = some (.aload_n 1, 1) by decide +kernel) rfl (Nat.le_of_ble_eq_true rfl) ?_
  refine q_getR (vO 10 (a1 + 1)) 8 rfl (show sCode 165 5 = some (.getfield 10, 3) by decide +kernel) (show sFR (sKo 165).1 10 = some (8, 0) by decide +kernel) (by decide +kernel) (Or.inl (Or.inl rfl)) rfl ?_
  exact q_virtV [vO 10 (a1 + 1)] 11 rfl (show sCode 165 8 = some (.invokevirtual 23, 3) by decide +kernel) (show sMR (sKo 165).1 23 = some 34 by decide +kernel) (show 34 < 1000 ∧ sStat 34 = false ∧ sIni 34 = false ∧ sKo 34 = (10, 1, 0, 0, 0) by decide +kernel) rfl (Or.inl rfl) rfl (Nat.le_of_ble_eq_true rfl) rfl rfl rfl (by decide +kernel) kk
theorem b165_11 {d : Nat} {Q : Option sV → sM → sG → Prop} {M : sM} {G : sG} {a0 : Nat} {a1 : Nat}  (kk : sC d 166 [vO 9 (a0 + 16), vO 9 (a1 + 16)] M G (QV (fun M1 G1 => sW (sC d) 165 Q 22 [vN, vN] [] M1 G1 0 0))) : sW (sC d) 165 Q 11 [vO 8 a0, vO 8 a1] [] M G 0 0 := by
  refine q_aload_n 12 rfl (show sCode 165 11 = some (.aload_n 0, 1) by decide +kernel) rfl (Nat.le_of_ble_eq_true rfl) ?_
  refine q_getR (vO 9 (a0 + 16)) 15 rfl (show sCode 165 12 = some (.getfield 19, 3) by decide +kernel) (show sFR (sKo 165).1 19 = some (8, 1) by decide +kernel) (by decide +kernel) (Or.inl (Or.inl rfl)) rfl ?_
  refine q_aload_n 16 rfl (show sCode 165 15 = some (.aload_n 1, 1) by decide +kernel) rfl (Nat.le_of_ble_eq_true rfl) ?_
  refine q_getR (vO 9 (a1 + 16)) 19 rfl (show sCode 165 16 = some (.getfield 19, 3) by decide +kernel) (show sFR (sKo 165).1 19 = some (8, 1) by decide +kernel) (by decide +kernel) (Or.inl (Or.inl rfl)) rfl ?_
  refine q_forget (L' := [vN, vO 8 a1]) 0 rfl ?_
  refine q_forget (L' := [vN, vN]) 1 rfl ?_
  exact q_virtV [vO 9 (a1 + 16)] 22 rfl (show sCode 165 19 = some (.invokevirtual 27, 3) by decide +kernel) (show sMR (sKo 165).1 27 = some 166 by decide +kernel) (show 166 < 1000 ∧ sStat 166 = false ∧ sIni 166 = false ∧ sKo 166 = (9, 1, 0, 0, 0) by decide +kernel) rfl (Or.inl rfl) rfl (Nat.le_of_ble_eq_true rfl) rfl rfl rfl (by decide +kernel) kk
theorem b165_22 {d : Nat} {P : sM → sG → Prop} {M : sM} {G : sG}   (kk : P M G) : sW (sC d) 165 (QV P) 22 [vN, vN] [] M G 0 0 := by
  exact q_vret (show sCode 165 22 = some (.return_, 1) by decide +kernel) (by decide +kernel) (by decide +kernel) kk
-- 166 AfterTheLast$Told.copyFrom (LAfterTheLast$Told;)V
theorem b166_0 {d : Nat} {P : sM → sG → Prop} {M : sM} {G : sG} {a0 : Nat} {a1 : Nat}  (kk : P (sCpy (sCpy (sCpy (sCpy (sCpy (sCpy (sCpy (sCpy (sCpy (sCpy (sCpy (sUpd (sUpd (sUpd (sUpd (sUpd M a0 1 (M a1 1)) a0 7 ((sUpd M a0 1 (M a1 1)) a1 7)) a0 9 ((sUpd (sUpd M a0 1 (M a1 1)) a0 7 ((sUpd M a0 1 (M a1 1)) a1 7)) a1 9)) a0 12 ((sUpd (sUpd (sUpd M a0 1 (M a1 1)) a0 7 ((sUpd M a0 1 (M a1 1)) a1 7)) a0 9 ((sUpd (sUpd M a0 1 (M a1 1)) a0 7 ((sUpd M a0 1 (M a1 1)) a1 7)) a1 9)) a1 12)) a0 15 ((sUpd (sUpd (sUpd (sUpd M a0 1 (M a1 1)) a0 7 ((sUpd M a0 1 (M a1 1)) a1 7)) a0 9 ((sUpd (sUpd M a0 1 (M a1 1)) a0 7 ((sUpd M a0 1 (M a1 1)) a1 7)) a1 9)) a0 12 ((sUpd (sUpd (sUpd M a0 1 (M a1 1)) a0 7 ((sUpd M a0 1 (M a1 1)) a1 7)) a0 9 ((sUpd (sUpd M a0 1 (M a1 1)) a0 7 ((sUpd M a0 1 (M a1 1)) a1 7)) a1 9)) a1 12)) a1 15)) (a1 + 1) 0 (a0 + 1) 0 12) (a1 + 2) 0 (a0 + 2) 0 6) (a1 + 3) 0 (a0 + 3) 0 6) (a1 + 4) 0 (a0 + 4) 0 6) (a1 + 5) 0 (a0 + 5) 0 6) (a1 + 6) 0 (a0 + 6) 0 6) (a1 + 7) 0 (a0 + 7) 0 8) (a1 + 8) 0 (a0 + 8) 0 8) (a1 + 9) 0 (a0 + 9) 0 8) (a1 + 10) 0 (a0 + 10) 0 12) (a1 + 11) 0 (a0 + 11) 0 12) G) : sW (sC d) 166 (QV P) 0 [vO 9 a0, vO 9 a1] [] M G 0 0 := by
  refine q_aload_n 1 rfl (show sCode 166 0 = some (.aload_n 0, 1) by decide +kernel) rfl (Nat.le_of_ble_eq_true rfl) ?_
  refine q_aload_n 2 rfl (show sCode 166 1 = some (.aload_n 1, 1) by decide +kernel) rfl (Nat.le_of_ble_eq_true rfl) ?_
  refine q_getI 5 rfl (show sCode 166 2 = some (.getfield 15, 3) by decide +kernel) (show sFR (sKo 166).1 15 = some (9, 1) by decide +kernel) (by decide +kernel) (Or.inl (Or.inl rfl)) ?_
  refine q_putI 8 rfl (show sCode 166 5 = some (.putfield 15, 3) by decide +kernel) (show sFR (sKo 166).1 15 = some (9, 1) by decide +kernel) (by decide +kernel) (Or.inl ⟨Or.inl rfl, by decide +kernel⟩) ?_
  refine q_aload_n 9 rfl (show sCode 166 8 = some (.aload_n 0, 1) by decide +kernel) rfl (Nat.le_of_ble_eq_true rfl) ?_
  refine q_aload_n 10 rfl (show sCode 166 9 = some (.aload_n 1, 1) by decide +kernel) rfl (Nat.le_of_ble_eq_true rfl) ?_
  refine q_getI 13 rfl (show sCode 166 10 = some (.getfield 34, 3) by decide +kernel) (show sFR (sKo 166).1 34 = some (9, 7) by decide +kernel) (by decide +kernel) (Or.inl (Or.inl rfl)) ?_
  refine q_putI 16 rfl (show sCode 166 13 = some (.putfield 34, 3) by decide +kernel) (show sFR (sKo 166).1 34 = some (9, 7) by decide +kernel) (by decide +kernel) (Or.inl ⟨Or.inl rfl, by decide +kernel⟩) ?_
  refine q_aload_n 17 rfl (show sCode 166 16 = some (.aload_n 0, 1) by decide +kernel) rfl (Nat.le_of_ble_eq_true rfl) ?_
  refine q_aload_n 18 rfl (show sCode 166 17 = some (.aload_n 1, 1) by decide +kernel) rfl (Nat.le_of_ble_eq_true rfl) ?_
  refine q_getI 21 rfl (show sCode 166 18 = some (.getfield 40, 3) by decide +kernel) (show sFR (sKo 166).1 40 = some (9, 9) by decide +kernel) (by decide +kernel) (Or.inl (Or.inl rfl)) ?_
  refine q_putI 24 rfl (show sCode 166 21 = some (.putfield 40, 3) by decide +kernel) (show sFR (sKo 166).1 40 = some (9, 9) by decide +kernel) (by decide +kernel) (Or.inl ⟨Or.inl rfl, by decide +kernel⟩) ?_
  refine q_aload_n 25 rfl (show sCode 166 24 = some (.aload_n 0, 1) by decide +kernel) rfl (Nat.le_of_ble_eq_true rfl) ?_
  refine q_aload_n 26 rfl (show sCode 166 25 = some (.aload_n 1, 1) by decide +kernel) rfl (Nat.le_of_ble_eq_true rfl) ?_
  refine q_getI 29 rfl (show sCode 166 26 = some (.getfield 49, 3) by decide +kernel) (show sFR (sKo 166).1 49 = some (9, 12) by decide +kernel) (by decide +kernel) (Or.inl (Or.inl rfl)) ?_
  refine q_putI 32 rfl (show sCode 166 29 = some (.putfield 49, 3) by decide +kernel) (show sFR (sKo 166).1 49 = some (9, 12) by decide +kernel) (by decide +kernel) (Or.inl ⟨Or.inl rfl, by decide +kernel⟩) ?_
  refine q_aload_n 33 rfl (show sCode 166 32 = some (.aload_n 0, 1) by decide +kernel) rfl (Nat.le_of_ble_eq_true rfl) ?_
  refine q_aload_n 34 rfl (show sCode 166 33 = some (.aload_n 1, 1) by decide +kernel) rfl (Nat.le_of_ble_eq_true rfl) ?_
  refine q_getI 37 rfl (show sCode 166 34 = some (.getfield 58, 3) by decide +kernel) (show sFR (sKo 166).1 58 = some (9, 15) by decide +kernel) (by decide +kernel) (Or.inl (Or.inl rfl)) ?_
  refine q_putI 40 rfl (show sCode 166 37 = some (.putfield 58, 3) by decide +kernel) (show sFR (sKo 166).1 58 = some (9, 15) by decide +kernel) (by decide +kernel) (Or.inl ⟨Or.inl rfl, by decide +kernel⟩) ?_
  refine q_aload_n 41 rfl (show sCode 166 40 = some (.aload_n 1, 1) by decide +kernel) rfl (Nat.le_of_ble_eq_true rfl) ?_
  refine q_getR (vA 0 (a1 + 1) 12) 44 rfl (show sCode 166 41 = some (.getfield 9, 3) by decide +kernel) (show sFR (sKo 166).1 9 = some (9, 0) by decide +kernel) (by decide +kernel) (Or.inl (Or.inl rfl)) rfl ?_
  refine q_iconst 45 rfl (show sCode 166 44 = some (.iconst 0, 1) by decide +kernel) ⟨by decide, by decide⟩ ?_
  refine q_aload_n 46 rfl (show sCode 166 45 = some (.aload_n 0, 1) by decide +kernel) rfl (Nat.le_of_ble_eq_true rfl) ?_
  refine q_getR (vA 0 (a0 + 1) 12) 49 rfl (show sCode 166 46 = some (.getfield 9, 3) by decide +kernel) (show sFR (sKo 166).1 9 = some (9, 0) by decide +kernel) (by decide +kernel) (Or.inl (Or.inl rfl)) rfl ?_
  refine q_iconst 50 rfl (show sCode 166 49 = some (.iconst 0, 1) by decide +kernel) ⟨by decide, by decide⟩ ?_
  refine q_bipush 52 rfl (show sCode 166 50 = some (.bipush 12, 2) by decide +kernel) ⟨by decide, by decide⟩ (by decide +kernel) ?_
  refine q_copy 55 rfl (show sCode 166 52 = some (.invokestatic 61, 3) by decide +kernel) (by decide +kernel) (Nat.le_of_ble_eq_true rfl) (by decide) ?_
  refine q_aload_n 56 rfl (show sCode 166 55 = some (.aload_n 1, 1) by decide +kernel) rfl (Nat.le_of_ble_eq_true rfl) ?_
  refine q_getR (vA 0 (a1 + 2) 6) 59 rfl (show sCode 166 56 = some (.getfield 19, 3) by decide +kernel) (show sFR (sKo 166).1 19 = some (9, 2) by decide +kernel) (by decide +kernel) (Or.inl (Or.inl rfl)) rfl ?_
  refine q_iconst 60 rfl (show sCode 166 59 = some (.iconst 0, 1) by decide +kernel) ⟨by decide, by decide⟩ ?_
  refine q_aload_n 61 rfl (show sCode 166 60 = some (.aload_n 0, 1) by decide +kernel) rfl (Nat.le_of_ble_eq_true rfl) ?_
  refine q_getR (vA 0 (a0 + 2) 6) 64 rfl (show sCode 166 61 = some (.getfield 19, 3) by decide +kernel) (show sFR (sKo 166).1 19 = some (9, 2) by decide +kernel) (by decide +kernel) (Or.inl (Or.inl rfl)) rfl ?_
  refine q_iconst 65 rfl (show sCode 166 64 = some (.iconst 0, 1) by decide +kernel) ⟨by decide, by decide⟩ ?_
  refine q_bipush 67 rfl (show sCode 166 65 = some (.bipush 6, 2) by decide +kernel) ⟨by decide, by decide⟩ (by decide +kernel) ?_
  refine q_copy 70 rfl (show sCode 166 67 = some (.invokestatic 61, 3) by decide +kernel) (by decide +kernel) (Nat.le_of_ble_eq_true rfl) (by decide) ?_
  refine q_aload_n 71 rfl (show sCode 166 70 = some (.aload_n 1, 1) by decide +kernel) rfl (Nat.le_of_ble_eq_true rfl) ?_
  refine q_getR (vA 0 (a1 + 3) 6) 74 rfl (show sCode 166 71 = some (.getfield 22, 3) by decide +kernel) (show sFR (sKo 166).1 22 = some (9, 3) by decide +kernel) (by decide +kernel) (Or.inl (Or.inl rfl)) rfl ?_
  refine q_iconst 75 rfl (show sCode 166 74 = some (.iconst 0, 1) by decide +kernel) ⟨by decide, by decide⟩ ?_
  refine q_aload_n 76 rfl (show sCode 166 75 = some (.aload_n 0, 1) by decide +kernel) rfl (Nat.le_of_ble_eq_true rfl) ?_
  refine q_getR (vA 0 (a0 + 3) 6) 79 rfl (show sCode 166 76 = some (.getfield 22, 3) by decide +kernel) (show sFR (sKo 166).1 22 = some (9, 3) by decide +kernel) (by decide +kernel) (Or.inl (Or.inl rfl)) rfl ?_
  refine q_iconst 80 rfl (show sCode 166 79 = some (.iconst 0, 1) by decide +kernel) ⟨by decide, by decide⟩ ?_
  refine q_bipush 82 rfl (show sCode 166 80 = some (.bipush 6, 2) by decide +kernel) ⟨by decide, by decide⟩ (by decide +kernel) ?_
  refine q_copy 85 rfl (show sCode 166 82 = some (.invokestatic 61, 3) by decide +kernel) (by decide +kernel) (Nat.le_of_ble_eq_true rfl) (by decide) ?_
  refine q_aload_n 86 rfl (show sCode 166 85 = some (.aload_n 1, 1) by decide +kernel) rfl (Nat.le_of_ble_eq_true rfl) ?_
  refine q_getR (vA 0 (a1 + 4) 6) 89 rfl (show sCode 166 86 = some (.getfield 25, 3) by decide +kernel) (show sFR (sKo 166).1 25 = some (9, 4) by decide +kernel) (by decide +kernel) (Or.inl (Or.inl rfl)) rfl ?_
  refine q_iconst 90 rfl (show sCode 166 89 = some (.iconst 0, 1) by decide +kernel) ⟨by decide, by decide⟩ ?_
  refine q_aload_n 91 rfl (show sCode 166 90 = some (.aload_n 0, 1) by decide +kernel) rfl (Nat.le_of_ble_eq_true rfl) ?_
  refine q_getR (vA 0 (a0 + 4) 6) 94 rfl (show sCode 166 91 = some (.getfield 25, 3) by decide +kernel) (show sFR (sKo 166).1 25 = some (9, 4) by decide +kernel) (by decide +kernel) (Or.inl (Or.inl rfl)) rfl ?_
  refine q_iconst 95 rfl (show sCode 166 94 = some (.iconst 0, 1) by decide +kernel) ⟨by decide, by decide⟩ ?_
  refine q_bipush 97 rfl (show sCode 166 95 = some (.bipush 6, 2) by decide +kernel) ⟨by decide, by decide⟩ (by decide +kernel) ?_
  refine q_copy 100 rfl (show sCode 166 97 = some (.invokestatic 61, 3) by decide +kernel) (by decide +kernel) (Nat.le_of_ble_eq_true rfl) (by decide) ?_
  refine q_aload_n 101 rfl (show sCode 166 100 = some (.aload_n 1, 1) by decide +kernel) rfl (Nat.le_of_ble_eq_true rfl) ?_
  refine q_getR (vA 0 (a1 + 5) 6) 104 rfl (show sCode 166 101 = some (.getfield 28, 3) by decide +kernel) (show sFR (sKo 166).1 28 = some (9, 5) by decide +kernel) (by decide +kernel) (Or.inl (Or.inl rfl)) rfl ?_
  refine q_iconst 105 rfl (show sCode 166 104 = some (.iconst 0, 1) by decide +kernel) ⟨by decide, by decide⟩ ?_
  refine q_aload_n 106 rfl (show sCode 166 105 = some (.aload_n 0, 1) by decide +kernel) rfl (Nat.le_of_ble_eq_true rfl) ?_
  refine q_getR (vA 0 (a0 + 5) 6) 109 rfl (show sCode 166 106 = some (.getfield 28, 3) by decide +kernel) (show sFR (sKo 166).1 28 = some (9, 5) by decide +kernel) (by decide +kernel) (Or.inl (Or.inl rfl)) rfl ?_
  refine q_iconst 110 rfl (show sCode 166 109 = some (.iconst 0, 1) by decide +kernel) ⟨by decide, by decide⟩ ?_
  refine q_bipush 112 rfl (show sCode 166 110 = some (.bipush 6, 2) by decide +kernel) ⟨by decide, by decide⟩ (by decide +kernel) ?_
  refine q_copy 115 rfl (show sCode 166 112 = some (.invokestatic 61, 3) by decide +kernel) (by decide +kernel) (Nat.le_of_ble_eq_true rfl) (by decide) ?_
  refine q_aload_n 116 rfl (show sCode 166 115 = some (.aload_n 1, 1) by decide +kernel) rfl (Nat.le_of_ble_eq_true rfl) ?_
  refine q_getR (vA 0 (a1 + 6) 6) 119 rfl (show sCode 166 116 = some (.getfield 31, 3) by decide +kernel) (show sFR (sKo 166).1 31 = some (9, 6) by decide +kernel) (by decide +kernel) (Or.inl (Or.inl rfl)) rfl ?_
  refine q_iconst 120 rfl (show sCode 166 119 = some (.iconst 0, 1) by decide +kernel) ⟨by decide, by decide⟩ ?_
  refine q_aload_n 121 rfl (show sCode 166 120 = some (.aload_n 0, 1) by decide +kernel) rfl (Nat.le_of_ble_eq_true rfl) ?_
  refine q_getR (vA 0 (a0 + 6) 6) 124 rfl (show sCode 166 121 = some (.getfield 31, 3) by decide +kernel) (show sFR (sKo 166).1 31 = some (9, 6) by decide +kernel) (by decide +kernel) (Or.inl (Or.inl rfl)) rfl ?_
  refine q_iconst 125 rfl (show sCode 166 124 = some (.iconst 0, 1) by decide +kernel) ⟨by decide, by decide⟩ ?_
  refine q_bipush 127 rfl (show sCode 166 125 = some (.bipush 6, 2) by decide +kernel) ⟨by decide, by decide⟩ (by decide +kernel) ?_
  refine q_copy 130 rfl (show sCode 166 127 = some (.invokestatic 61, 3) by decide +kernel) (by decide +kernel) (Nat.le_of_ble_eq_true rfl) (by decide) ?_
  refine q_aload_n 131 rfl (show sCode 166 130 = some (.aload_n 1, 1) by decide +kernel) rfl (Nat.le_of_ble_eq_true rfl) ?_
  refine q_getR (vA 0 (a1 + 7) 8) 134 rfl (show sCode 166 131 = some (.getfield 37, 3) by decide +kernel) (show sFR (sKo 166).1 37 = some (9, 8) by decide +kernel) (by decide +kernel) (Or.inl (Or.inl rfl)) rfl ?_
  refine q_iconst 135 rfl (show sCode 166 134 = some (.iconst 0, 1) by decide +kernel) ⟨by decide, by decide⟩ ?_
  refine q_aload_n 136 rfl (show sCode 166 135 = some (.aload_n 0, 1) by decide +kernel) rfl (Nat.le_of_ble_eq_true rfl) ?_
  refine q_getR (vA 0 (a0 + 7) 8) 139 rfl (show sCode 166 136 = some (.getfield 37, 3) by decide +kernel) (show sFR (sKo 166).1 37 = some (9, 8) by decide +kernel) (by decide +kernel) (Or.inl (Or.inl rfl)) rfl ?_
  refine q_iconst 140 rfl (show sCode 166 139 = some (.iconst 0, 1) by decide +kernel) ⟨by decide, by decide⟩ ?_
  refine q_bipush 142 rfl (show sCode 166 140 = some (.bipush 8, 2) by decide +kernel) ⟨by decide, by decide⟩ (by decide +kernel) ?_
  refine q_copy 145 rfl (show sCode 166 142 = some (.invokestatic 61, 3) by decide +kernel) (by decide +kernel) (Nat.le_of_ble_eq_true rfl) (by decide) ?_
  refine q_aload_n 146 rfl (show sCode 166 145 = some (.aload_n 1, 1) by decide +kernel) rfl (Nat.le_of_ble_eq_true rfl) ?_
  refine q_getR (vA 0 (a1 + 8) 8) 149 rfl (show sCode 166 146 = some (.getfield 43, 3) by decide +kernel) (show sFR (sKo 166).1 43 = some (9, 10) by decide +kernel) (by decide +kernel) (Or.inl (Or.inl rfl)) rfl ?_
  refine q_iconst 150 rfl (show sCode 166 149 = some (.iconst 0, 1) by decide +kernel) ⟨by decide, by decide⟩ ?_
  refine q_aload_n 151 rfl (show sCode 166 150 = some (.aload_n 0, 1) by decide +kernel) rfl (Nat.le_of_ble_eq_true rfl) ?_
  refine q_getR (vA 0 (a0 + 8) 8) 154 rfl (show sCode 166 151 = some (.getfield 43, 3) by decide +kernel) (show sFR (sKo 166).1 43 = some (9, 10) by decide +kernel) (by decide +kernel) (Or.inl (Or.inl rfl)) rfl ?_
  refine q_iconst 155 rfl (show sCode 166 154 = some (.iconst 0, 1) by decide +kernel) ⟨by decide, by decide⟩ ?_
  refine q_bipush 157 rfl (show sCode 166 155 = some (.bipush 8, 2) by decide +kernel) ⟨by decide, by decide⟩ (by decide +kernel) ?_
  refine q_copy 160 rfl (show sCode 166 157 = some (.invokestatic 61, 3) by decide +kernel) (by decide +kernel) (Nat.le_of_ble_eq_true rfl) (by decide) ?_
  refine q_aload_n 161 rfl (show sCode 166 160 = some (.aload_n 1, 1) by decide +kernel) rfl (Nat.le_of_ble_eq_true rfl) ?_
  refine q_getR (vA 0 (a1 + 9) 8) 164 rfl (show sCode 166 161 = some (.getfield 46, 3) by decide +kernel) (show sFR (sKo 166).1 46 = some (9, 11) by decide +kernel) (by decide +kernel) (Or.inl (Or.inl rfl)) rfl ?_
  refine q_iconst 165 rfl (show sCode 166 164 = some (.iconst 0, 1) by decide +kernel) ⟨by decide, by decide⟩ ?_
  refine q_aload_n 166 rfl (show sCode 166 165 = some (.aload_n 0, 1) by decide +kernel) rfl (Nat.le_of_ble_eq_true rfl) ?_
  refine q_getR (vA 0 (a0 + 9) 8) 169 rfl (show sCode 166 166 = some (.getfield 46, 3) by decide +kernel) (show sFR (sKo 166).1 46 = some (9, 11) by decide +kernel) (by decide +kernel) (Or.inl (Or.inl rfl)) rfl ?_
  refine q_iconst 170 rfl (show sCode 166 169 = some (.iconst 0, 1) by decide +kernel) ⟨by decide, by decide⟩ ?_
  refine q_bipush 172 rfl (show sCode 166 170 = some (.bipush 8, 2) by decide +kernel) ⟨by decide, by decide⟩ (by decide +kernel) ?_
  refine q_copy 175 rfl (show sCode 166 172 = some (.invokestatic 61, 3) by decide +kernel) (by decide +kernel) (Nat.le_of_ble_eq_true rfl) (by decide) ?_
  refine q_aload_n 176 rfl (show sCode 166 175 = some (.aload_n 1, 1) by decide +kernel) rfl (Nat.le_of_ble_eq_true rfl) ?_
  refine q_getR (vA 0 (a1 + 10) 12) 179 rfl (show sCode 166 176 = some (.getfield 52, 3) by decide +kernel) (show sFR (sKo 166).1 52 = some (9, 13) by decide +kernel) (by decide +kernel) (Or.inl (Or.inl rfl)) rfl ?_
  refine q_iconst 180 rfl (show sCode 166 179 = some (.iconst 0, 1) by decide +kernel) ⟨by decide, by decide⟩ ?_
  refine q_aload_n 181 rfl (show sCode 166 180 = some (.aload_n 0, 1) by decide +kernel) rfl (Nat.le_of_ble_eq_true rfl) ?_
  refine q_getR (vA 0 (a0 + 10) 12) 184 rfl (show sCode 166 181 = some (.getfield 52, 3) by decide +kernel) (show sFR (sKo 166).1 52 = some (9, 13) by decide +kernel) (by decide +kernel) (Or.inl (Or.inl rfl)) rfl ?_
  refine q_iconst 185 rfl (show sCode 166 184 = some (.iconst 0, 1) by decide +kernel) ⟨by decide, by decide⟩ ?_
  refine q_bipush 187 rfl (show sCode 166 185 = some (.bipush 12, 2) by decide +kernel) ⟨by decide, by decide⟩ (by decide +kernel) ?_
  refine q_copy 190 rfl (show sCode 166 187 = some (.invokestatic 61, 3) by decide +kernel) (by decide +kernel) (Nat.le_of_ble_eq_true rfl) (by decide) ?_
  refine q_aload_n 191 rfl (show sCode 166 190 = some (.aload_n 1, 1) by decide +kernel) rfl (Nat.le_of_ble_eq_true rfl) ?_
  refine q_getR (vA 0 (a1 + 11) 12) 194 rfl (show sCode 166 191 = some (.getfield 55, 3) by decide +kernel) (show sFR (sKo 166).1 55 = some (9, 14) by decide +kernel) (by decide +kernel) (Or.inl (Or.inl rfl)) rfl ?_
  refine q_iconst 195 rfl (show sCode 166 194 = some (.iconst 0, 1) by decide +kernel) ⟨by decide, by decide⟩ ?_
  refine q_aload_n 196 rfl (show sCode 166 195 = some (.aload_n 0, 1) by decide +kernel) rfl (Nat.le_of_ble_eq_true rfl) ?_
  refine q_getR (vA 0 (a0 + 11) 12) 199 rfl (show sCode 166 196 = some (.getfield 55, 3) by decide +kernel) (show sFR (sKo 166).1 55 = some (9, 14) by decide +kernel) (by decide +kernel) (Or.inl (Or.inl rfl)) rfl ?_
  refine q_iconst 200 rfl (show sCode 166 199 = some (.iconst 0, 1) by decide +kernel) ⟨by decide, by decide⟩ ?_
  refine q_bipush 202 rfl (show sCode 166 200 = some (.bipush 12, 2) by decide +kernel) ⟨by decide, by decide⟩ (by decide +kernel) ?_
  refine q_copy 205 rfl (show sCode 166 202 = some (.invokestatic 61, 3) by decide +kernel) (by decide +kernel) (Nat.le_of_ble_eq_true rfl) (by decide) ?_
  exact q_vret (show sCode 166 205 = some (.return_, 1) by decide +kernel) (by decide +kernel) (by decide +kernel) kk
