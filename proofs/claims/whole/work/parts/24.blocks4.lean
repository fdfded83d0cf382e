/-! BLOCKS, by program. -/
-- 13 AfterTheLast.feed (IIIII)I
theorem b13_0 {d : Nat} {Q : Option sV → sM → sG → Prop} {M : sM} {G : sG} {a0 : Nat} {x1 : Int} {x2 : Int} {x3 : Int} {x4 : Int} {x5 : Int}  (kk : sC d 14 [vO 4 (a0 + 2), vI 20] M G (QI (fun r M1 G1 => sW (sC d) 13 Q 9 [vO 11 a0, vI x1, vI x2, vI x3, vI x4, vI x5] (vI r :: []) M1 G1 0 0))) : sW (sC d) 13 Q 0 [vO 11 a0, vI x1, vI x2, vI x3, vI x4, vI x5] [] M G 0 0 := by
  refine q_aload_n 1 rfl (show sCode 13 0 = some (.aload_n 0, 1) by decide +kernel) rfl (Nat.le_of_ble_eq_true rfl) ?_
  refine q_getR (vO 4 (a0 + 2)) 4 rfl (show sCode 13 1 = some (.getfield 20, 3) by decide +kernel) (show sFR (sKo 13).1 20 = some (11, 0) by decide +kernel) (by decide +kernel) (Or.inl (Or.inl rfl)) rfl ?_
  refine q_bipush 6 rfl (show sCode 13 4 = some (.bipush 20, 2) by decide +kernel) ⟨by decide, by decide⟩ (by decide +kernel) ?_
  exact q_virtI [vI 20] 9 rfl (show sCode 13 6 = some (.invokevirtual 86, 3) by decide +kernel) (show sMR (sKo 13).1 86 = some 14 by decide +kernel) (show 14 < 1000 ∧ sStat 14 = false ∧ sIni 14 = false ∧ sKo 14 = (4, 1, 2, 0, 0) by decide +kernel) rfl (Or.inl rfl) rfl (Nat.le_of_ble_eq_true rfl) rfl rfl rfl (by decide +kernel) kk
theorem b13_9 {d : Nat} {Q : Option sV → sM → sG → Prop} {M : sM} {G : sG} {a0 : Nat} {x1 : Int} {x2 : Int} {x3 : Int} {x4 : Int} {x5 : Int} {s0 : Int}  (k1 : s0 ≠ 0 → sW (sC d) 13 Q 14 [vO 11 a0, vI x1, vI x2, vI x3, vI x4, vI x5] [] M G 0 0) (k2 : s0 = 0 → sW (sC d) 13 Q 12 [vN, vN, vN, vN, vN, vN] [] M G 0 0) : sW (sC d) 13 Q 9 [vO 11 a0, vI x1, vI x2, vI x3, vI x4, vI x5] [vI s0] M G 0 0 := by
  refine q_ifne 14 12 rfl (by decide) (show sCode 13 9 = some (.ifCond .ne 5, 3) by decide +kernel) ?_ ?_
  · intro q; exact k1 q
  · intro q; refine q_forget (L' := [vN, vI x1, vI x2, vI x3, vI x4, vI x5]) 0 rfl ?_; refine q_forget (L' := [vN, vN, vI x2, vI x3, vI x4, vI x5]) 1 rfl ?_; refine q_forget (L' := [vN, vN, vN, vI x3, vI x4, vI x5]) 2 rfl ?_; refine q_forget (L' := [vN, vN, vN, vN, vI x4, vI x5]) 3 rfl ?_; refine q_forget (L' := [vN, vN, vN, vN, vN, vI x5]) 4 rfl ?_; refine q_forget (L' := [vN, vN, vN, vN, vN, vN]) 5 rfl ?_; exact k2 q
theorem b13_12 {d : Nat} {P : Int → sM → sG → Prop} {M : sM} {G : sG}   (kk : P (-1) M G) : sW (sC d) 13 (QI P) 12 [vN, vN, vN, vN, vN, vN] [] M G 0 0 := by
  refine q_iconst 13 rfl (show sCode 13 12 = some (.iconst (-1), 1) by decide +kernel) ⟨by decide, by decide⟩ ?_
  exact q_iret (show sCode 13 13 = some (.ireturn, 1) by decide +kernel) (by decide +kernel) (by decide +kernel) kk
theorem b13_14 {d : Nat} {Q : Option sV → sM → sG → Prop} {M : sM} {G : sG} {a0 : Nat} {x1 : Int} {x2 : Int} {x3 : Int} {x4 : Int} {x5 : Int}  (kk : sC d 15 [vO 4 (a0 + 2), vI x1] M G (QV (fun M1 G1 => sW (sC d) 13 Q 22 [vO 11 a0, vN, vI x2, vI x3, vI x4, vI x5] [] M1 G1 0 0))) : sW (sC d) 13 Q 14 [vO 11 a0, vI x1, vI x2, vI x3, vI x4, vI x5] [] M G 0 0 := by
  refine q_aload_n 15 rfl (show sCode 13 14 = some (.aload_n 0, 1) by decide +kernel) rfl (Nat.le_of_ble_eq_true rfl) ?_
  refine q_getR (vO 4 (a0 + 2)) 18 rfl (show sCode 13 15 = some (.getfield 20, 3) by decide +kernel) (show sFR (sKo 13).1 20 = some (11, 0) by decide +kernel) (by decide +kernel) (Or.inl (Or.inl rfl)) rfl ?_
  refine q_iload_n 19 rfl (show sCode 13 18 = some (.iload_n 1, 1) by decide +kernel) rfl ?_
  refine q_forget (L' := [vO 11 a0, vN, vI x2, vI x3, vI x4, vI x5]) 1 rfl ?_
  exact q_virtV [vI x1] 22 rfl (show sCode 13 19 = some (.invokevirtual 92, 3) by decide +kernel) (show sMR (sKo 13).1 92 = some 15 by decide +kernel) (show 15 < 1000 ∧ sStat 15 = false ∧ sIni 15 = false ∧ sKo 15 = (4, 1, 0, 0, 0) by decide +kernel) rfl (Or.inl rfl) rfl (Nat.le_of_ble_eq_true rfl) rfl rfl rfl (by decide +kernel) kk
theorem b13_22 {d : Nat} {Q : Option sV → sM → sG → Prop} {M : sM} {G : sG} {a0 : Nat} {x2 : Int} {x3 : Int} {x4 : Int} {x5 : Int}  (kk : sC d 15 [vO 4 (a0 + 2), vI x2] M G (QV (fun M1 G1 => sW (sC d) 13 Q 30 [vO 11 a0, vN, vN, vI x3, vI x4, vI x5] [] M1 G1 0 0))) : sW (sC d) 13 Q 22 [vO 11 a0, vN, vI x2, vI x3, vI x4, vI x5] [] M G 0 0 := by
  refine q_aload_n 23 rfl (show sCode 13 22 = some (.aload_n 0, 1) by decide +kernel) rfl (Nat.le_of_ble_eq_true rfl) ?_
  refine q_getR (vO 4 (a0 + 2)) 26 rfl (show sCode 13 23 = some (.getfield 20, 3) by decide +kernel) (show sFR (sKo 13).1 20 = some (11, 0) by decide +kernel) (by decide +kernel) (Or.inl (Or.inl rfl)) rfl ?_
  refine q_iload_n 27 rfl (show sCode 13 26 = some (.iload_n 2, 1) by decide +kernel) rfl ?_
  refine q_forget (L' := [vO 11 a0, vN, vN, vI x3, vI x4, vI x5]) 2 rfl ?_
  exact q_virtV [vI x2] 30 rfl (show sCode 13 27 = some (.invokevirtual 92, 3) by decide +kernel) (show sMR (sKo 13).1 92 = some 15 by decide +kernel) (show 15 < 1000 ∧ sStat 15 = false ∧ sIni 15 = false ∧ sKo 15 = (4, 1, 0, 0, 0) by decide +kernel) rfl (Or.inl rfl) rfl (Nat.le_of_ble_eq_true rfl) rfl rfl rfl (by decide +kernel) kk
theorem b13_30 {d : Nat} {Q : Option sV → sM → sG → Prop} {M : sM} {G : sG} {a0 : Nat} {x3 : Int} {x4 : Int} {x5 : Int}  (kk : sC d 15 [vO 4 (a0 + 2), vI x3] M G (QV (fun M1 G1 => sW (sC d) 13 Q 38 [vO 11 a0, vN, vN, vN, vI x4, vI x5] [] M1 G1 0 0))) : sW (sC d) 13 Q 30 [vO 11 a0, vN, vN, vI x3, vI x4, vI x5] [] M G 0 0 := by
  refine q_aload_n 31 rfl (show sCode 13 30 = some (.aload_n 0, 1) by decide +kernel) rfl (Nat.le_of_ble_eq_true rfl) ?_
  refine q_getR (vO 4 (a0 + 2)) 34 rfl (show sCode 13 31 = some (.getfield 20, 3) by decide +kernel) (show sFR (sKo 13).1 20 = some (11, 0) by decide +kernel) (by decide +kernel) (Or.inl (Or.inl rfl)) rfl ?_
  refine q_iload_n 35 rfl (show sCode 13 34 = some (.iload_n 3, 1) by decide +kernel) rfl ?_
  refine q_forget (L' := [vO 11 a0, vN, vN, vN, vI x4, vI x5]) 3 rfl ?_
  exact q_virtV [vI x3] 38 rfl (show sCode 13 35 = some (.invokevirtual 92, 3) by decide +kernel) (show sMR (sKo 13).1 92 = some 15 by decide +kernel) (show 15 < 1000 ∧ sStat 15 = false ∧ sIni 15 = false ∧ sKo 15 = (4, 1, 0, 0, 0) by decide +kernel) rfl (Or.inl rfl) rfl (Nat.le_of_ble_eq_true rfl) rfl rfl rfl (by decide +kernel) kk
theorem b13_38 {d : Nat} {Q : Option sV → sM → sG → Prop} {M : sM} {G : sG} {a0 : Nat} {x4 : Int} {x5 : Int}  (kk : sC d 15 [vO 4 (a0 + 2), vI x4] M G (QV (fun M1 G1 => sW (sC d) 13 Q 47 [vO 11 a0, vN, vN, vN, vN, vI x5] [] M1 G1 0 0))) : sW (sC d) 13 Q 38 [vO 11 a0, vN, vN, vN, vI x4, vI x5] [] M G 0 0 := by
  refine q_aload_n 39 rfl (show sCode 13 38 = some (.aload_n 0, 1) by decide +kernel) rfl (Nat.le_of_ble_eq_true rfl) ?_
  refine q_getR (vO 4 (a0 + 2)) 42 rfl (show sCode 13 39 = some (.getfield 20, 3) by decide +kernel) (show sFR (sKo 13).1 20 = some (11, 0) by decide +kernel) (by decide +kernel) (Or.inl (Or.inl rfl)) rfl ?_
  refine q_iload 44 rfl (show sCode 13 42 = some (.iload 4, 2) by decide +kernel) rfl ?_
  refine q_forget (L' := [vO 11 a0, vN, vN, vN, vN, vI x5]) 4 rfl ?_
  exact q_virtV [vI x4] 47 rfl (show sCode 13 44 = some (.invokevirtual 92, 3) by decide +kernel) (show sMR (sKo 13).1 92 = some 15 by decide +kernel) (show 15 < 1000 ∧ sStat 15 = false ∧ sIni 15 = false ∧ sKo 15 = (4, 1, 0, 0, 0) by decide +kernel) rfl (Or.inl rfl) rfl (Nat.le_of_ble_eq_true rfl) rfl rfl rfl (by decide +kernel) kk
theorem b13_47 {d : Nat} {Q : Option sV → sM → sG → Prop} {M : sM} {G : sG} {a0 : Nat} {x5 : Int}  (kk : sC d 15 [vO 4 (a0 + 2), vI x5] M G (QV (fun M1 G1 => sW (sC d) 13 Q 56 [vO 11 a0, vN, vN, vN, vN, vN] [] M1 G1 0 0))) : sW (sC d) 13 Q 47 [vO 11 a0, vN, vN, vN, vN, vI x5] [] M G 0 0 := by
  refine q_aload_n 48 rfl (show sCode 13 47 = some (.aload_n 0, 1) by decide +kernel) rfl (Nat.le_of_ble_eq_true rfl) ?_
  refine q_getR (vO 4 (a0 + 2)) 51 rfl (show sCode 13 48 = some (.getfield 20, 3) by decide +kernel) (show sFR (sKo 13).1 20 = some (11, 0) by decide +kernel) (by decide +kernel) (Or.inl (Or.inl rfl)) rfl ?_
  refine q_iload 53 rfl (show sCode 13 51 = some (.iload 5, 2) by decide +kernel) rfl ?_
  refine q_forget (L' := [vO 11 a0, vN, vN, vN, vN, vN]) 5 rfl ?_
  exact q_virtV [vI x5] 56 rfl (show sCode 13 53 = some (.invokevirtual 92, 3) by decide +kernel) (show sMR (sKo 13).1 92 = some 15 by decide +kernel) (show 15 < 1000 ∧ sStat 15 = false ∧ sIni 15 = false ∧ sKo 15 = (4, 1, 0, 0, 0) by decide +kernel) rfl (Or.inl rfl) rfl (Nat.le_of_ble_eq_true rfl) rfl rfl rfl (by decide +kernel) kk
theorem b13_56 {d : Nat} {P : Int → sM → sG → Prop} {M : sM} {G : sG} {a0 : Nat}  (kk : P (M (a0 + 2) 1) M G) : sW (sC d) 13 (QI P) 56 [vO 11 a0, vN, vN, vN, vN, vN] [] M G 0 0 := by
  refine q_aload_n 57 rfl (show sCode 13 56 = some (.aload_n 0, 1) by decide +kernel) rfl (Nat.le_of_ble_eq_true rfl) ?_
  refine q_getR (vO 4 (a0 + 2)) 60 rfl (show sCode 13 57 = some (.getfield 20, 3) by decide +kernel) (show sFR (sKo 13).1 20 = some (11, 0) by decide +kernel) (by decide +kernel) (Or.inl (Or.inl rfl)) rfl ?_
  refine q_getI 63 rfl (show sCode 13 60 = some (.getfield 96, 3) by decide +kernel) (show sFR (sKo 13).1 96 = some (4, 1) by decide +kernel) (by decide +kernel) (Or.inl (Or.inl rfl)) ?_
  exact q_iret (show sCode 13 63 = some (.ireturn, 1) by decide +kernel) (by decide +kernel) (by decide +kernel) kk
-- 16 AfterTheLast.end (I)I
theorem b16_0 {d : Nat} {Q : Option sV → sM → sG → Prop} {M : sM} {G : sG} {a0 : Nat} {x1 : Int}  (k1 : x1 < 0 → sW (sC d) 16 Q 15 [vN, vN] [] M G 0 0) (k2 : 0 ≤ x1 → sW (sC d) 16 Q 4 [vO 11 a0, vI x1] [] M G 0 0) : sW (sC d) 16 Q 0 [vO 11 a0, vI x1] [] M G 0 0 := by
  refine q_iload_n 1 rfl (show sCode 16 0 = some (.iload_n 1, 1) by decide +kernel) rfl ?_
  refine q_iflt 15 4 rfl (by decide) (show sCode 16 1 = some (.ifCond .lt 14, 3) by decide +kernel) ?_ ?_
  · intro q; refine q_forget (L' := [vN, vI x1]) 0 rfl ?_; refine q_forget (L' := [vN, vN]) 1 rfl ?_; exact k1 q
  · intro q; exact k2 q
theorem b16_4 {d : Nat} {Q : Option sV → sM → sG → Prop} {M : sM} {G : sG} {a0 : Nat} {x1 : Int}  (k1 : x1 ≤ M (a0 + 2) 1 → sW (sC d) 16 Q 17 [vO 11 a0, vI x1] [] M G 0 0) (k2 : M (a0 + 2) 1 < x1 → sW (sC d) 16 Q 15 [vN, vN] [] M G 0 0) : sW (sC d) 16 Q 4 [vO 11 a0, vI x1] [] M G 0 0 := by
  refine q_iload_n 5 rfl (show sCode 16 4 = some (.iload_n 1, 1) by decide +kernel) rfl ?_
  refine q_aload_n 6 rfl (show sCode 16 5 = some (.aload_n 0, 1) by decide +kernel) rfl (Nat.le_of_ble_eq_true rfl) ?_
  refine q_getR (vO 4 (a0 + 2)) 9 rfl (show sCode 16 6 = some (.getfield 20, 3) by decide +kernel) (show sFR (sKo 16).1 20 = some (11, 0) by decide +kernel) (by decide +kernel) (Or.inl (Or.inl rfl)) rfl ?_
  refine q_getI 12 rfl (show sCode 16 9 = some (.getfield 96, 3) by decide +kernel) (show sFR (sKo 16).1 96 = some (4, 1) by decide +kernel) (by decide +kernel) (Or.inl (Or.inl rfl)) ?_
  refine q_icmple 17 15 rfl (by decide) (show sCode 16 12 = some (.if_icmp .le 5, 3) by decide +kernel) ?_ ?_
  · intro q; exact k1 q
  · intro q; refine q_forget (L' := [vN, vI x1]) 0 rfl ?_; refine q_forget (L' := [vN, vN]) 1 rfl ?_; exact k2 q
theorem b16_15 {d : Nat} {P : Int → sM → sG → Prop} {M : sM} {G : sG}   (kk : P (-1) M G) : sW (sC d) 16 (QI P) 15 [vN, vN] [] M G 0 0 := by
  refine q_iconst 16 rfl (show sCode 16 15 = some (.iconst (-1), 1) by decide +kernel) ⟨by decide, by decide⟩ ?_
  exact q_iret (show sCode 16 16 = some (.ireturn, 1) by decide +kernel) (by decide +kernel) (by decide +kernel) kk
theorem b16_17 {d : Nat} {P : Int → sM → sG → Prop} {M : sM} {G : sG} {a0 : Nat} {x1 : Int}  (kk : P x1 (sUpd M (a0 + 2) 1 x1) G) : sW (sC d) 16 (QI P) 17 [vO 11 a0, vI x1] [] M G 0 0 := by
  refine q_aload_n 18 rfl (show sCode 16 17 = some (.aload_n 0, 1) by decide +kernel) rfl (Nat.le_of_ble_eq_true rfl) ?_
  refine q_getR (vO 4 (a0 + 2)) 21 rfl (show sCode 16 18 = some (.getfield 20, 3) by decide +kernel) (show sFR (sKo 16).1 20 = some (11, 0) by decide +kernel) (by decide +kernel) (Or.inl (Or.inl rfl)) rfl ?_
  refine q_iload_n 22 rfl (show sCode 16 21 = some (.iload_n 1, 1) by decide +kernel) rfl ?_
  refine q_putI 25 rfl (show sCode 16 22 = some (.putfield 96, 3) by decide +kernel) (show sFR (sKo 16).1 96 = some (4, 1) by decide +kernel) (by decide +kernel) (Or.inl ⟨Or.inl rfl, by decide +kernel⟩) ?_
  refine q_iload_n 26 rfl (show sCode 16 25 = some (.iload_n 1, 1) by decide +kernel) rfl ?_
  exact q_iret (show sCode 16 26 = some (.ireturn, 1) by decide +kernel) (by decide +kernel) (by decide +kernel) kk
-- 17 AfterTheLast.street ()I
theorem b17_0 {d : Nat} {Q : Option sV → sM → sG → Prop} {M : sM} {G : sG} {a0 : Nat}  (kk : sC d 18 [vO 4 (a0 + 2), vO 10 (a0 + 41)] M G (QI (fun r M1 G1 => sW (sC d) 17 Q 11 [vO 11 a0, vN] (vI r :: []) M1 G1 0 0))) : sW (sC d) 17 Q 0 [vO 11 a0, vN] [] M G 0 0 := by
  refine q_aload_n 1 rfl (show sCode 17 0 = some (.aload_n 0, 1) by decide +kernel) rfl (Nat.le_of_ble_eq_true rfl) ?_
  refine q_getR (vO 4 (a0 + 2)) 4 rfl (show sCode 17 1 = some (.getfield 20, 3) by decide +kernel) (show sFR (sKo 17).1 20 = some (11, 0) by decide +kernel) (by decide +kernel) (Or.inl (Or.inl rfl)) rfl ?_
  refine q_aload_n 5 rfl (show sCode 17 4 = some (.aload_n 0, 1) by decide +kernel) rfl (Nat.le_of_ble_eq_true rfl) ?_
  refine q_getR (vO 10 (a0 + 41)) 8 rfl (show sCode 17 5 = some (.getfield 43, 3) by decide +kernel) (show sFR (sKo 17).1 43 = some (11, 5) by decide +kernel) (by decide +kernel) (Or.inl (Or.inl rfl)) rfl ?_
  exact q_virtI [vO 10 (a0 + 41)] 11 rfl (show sCode 17 8 = some (.invokevirtual 99, 3) by decide +kernel) (show sMR (sKo 17).1 99 = some 18 by decide +kernel) (show 18 < 1000 ∧ sStat 18 = false ∧ sIni 18 = false ∧ sKo 18 = (4, 1, 1, 0, 0) by decide +kernel) rfl (Or.inl rfl) rfl (Nat.le_of_ble_eq_true rfl) rfl rfl rfl (by decide +kernel) kk
theorem b17_11 {d : Nat} {Q : Option sV → sM → sG → Prop} {M : sM} {G : sG} {a0 : Nat} {s0 : Int}  (k1 : s0 = 0 → sW (sC d) 17 Q 29 [vO 11 a0, vN] [] (sUpd M (a0 + 2) 1 0) G 0 0) (k2 : s0 ≠ 0 → sW (sC d) 17 Q 24 [vN, vI s0] [] (sUpd M (a0 + 2) 1 0) G 0 0) : sW (sC d) 17 Q 11 [vO 11 a0, vN] [vI s0] M G 0 0 := by
  refine q_istore_n [vO 11 a0, vI s0] 12 rfl (show sCode 17 11 = some (.istore_n 1, 1) by decide +kernel) (Nat.lt_of_lt_of_le (Nat.lt_succ_self _) (Nat.le_of_ble_eq_true rfl)) rfl rfl ?_
  refine q_aload_n 13 rfl (show sCode 17 12 = some (.aload_n 0, 1) by decide +kernel) rfl (Nat.le_of_ble_eq_true rfl) ?_
  refine q_getR (vO 4 (a0 + 2)) 16 rfl (show sCode 17 13 = some (.getfield 20, 3) by decide +kernel) (show sFR (sKo 17).1 20 = some (11, 0) by decide +kernel) (by decide +kernel) (Or.inl (Or.inl rfl)) rfl ?_
  refine q_iconst 17 rfl (show sCode 17 16 = some (.iconst 0, 1) by decide +kernel) ⟨by decide, by decide⟩ ?_
  refine q_putI 20 rfl (show sCode 17 17 = some (.putfield 96, 3) by decide +kernel) (show sFR (sKo 17).1 96 = some (4, 1) by decide +kernel) (by decide +kernel) (Or.inl ⟨Or.inl rfl, by decide +kernel⟩) ?_
  refine q_iload_n 21 rfl (show sCode 17 20 = some (.iload_n 1, 1) by decide +kernel) rfl ?_
  refine q_ifeq 29 24 rfl (by decide) (show sCode 17 21 = some (.ifCond .eq 8, 3) by decide +kernel) ?_ ?_
  · intro q; refine q_forget (L' := [vO 11 a0, vN]) 1 rfl ?_; exact k1 q
  · intro q; refine q_forget (L' := [vN, vI s0]) 0 rfl ?_; exact k2 q
theorem b17_24 {d : Nat} {P : Int → sM → sG → Prop} {M : sM} {G : sG} {x1 : Int} (h1 : sI ((-2) - x1)) (kk : P ((-2) - x1) M G) : sW (sC d) 17 (QI P) 24 [vN, vI x1] [] M G 0 0 := by
  refine q_bipush 26 rfl (show sCode 17 24 = some (.bipush (-2), 2) by decide +kernel) ⟨by decide, by decide⟩ (by decide +kernel) ?_
  refine q_iload_n 27 rfl (show sCode 17 26 = some (.iload_n 1, 1) by decide +kernel) rfl ?_
  refine q_isub 28 rfl (show sCode 17 27 = some (.isub, 1) by decide +kernel) h1 ?_
  exact q_iret (show sCode 17 28 = some (.ireturn, 1) by decide +kernel) (by decide +kernel) (by decide +kernel) kk
theorem b17_29 {d : Nat} {Q : Option sV → sM → sG → Prop} {M : sM} {G : sG} {a0 : Nat}  (kk : sC d 34 [vO 10 (a0 + 13), vO 10 (a0 + 41)] M G (QV (fun M1 G1 => sW (sC d) 17 Q 43 [vO 11 a0, vN] [] M1 G1 0 0))) : sW (sC d) 17 Q 29 [vO 11 a0, vN] [] M G 0 0 := by
  refine q_aload_n 30 rfl (show sCode 17 29 = some (.aload_n 0, 1) by decide +kernel) rfl (Nat.le_of_ble_eq_true rfl) ?_
  refine q_getR (vO 8 (a0 + 12)) 33 rfl (show sCode 17 30 = some (.getfield 32, 3) by decide +kernel) (show sFR (sKo 17).1 32 = some (11, 3) by decide +kernel) (by decide +kernel) (Or.inl (Or.inl rfl)) rfl ?_
  refine q_getR (vO 10 (a0 + 13)) 36 rfl (show sCode 17 33 = some (.getfield 103, 3) by decide +kernel) (show sFR (sKo 17).1 103 = some (8, 0) by decide +kernel) (by decide +kernel) (Or.inl (Or.inl rfl)) rfl ?_
  refine q_aload_n 37 rfl (show sCode 17 36 = some (.aload_n 0, 1) by decide +kernel) rfl (Nat.le_of_ble_eq_true rfl) ?_
  refine q_getR (vO 10 (a0 + 41)) 40 rfl (show sCode 17 37 = some (.getfield 43, 3) by decide +kernel) (show sFR (sKo 17).1 43 = some (11, 5) by decide +kernel) (by decide +kernel) (Or.inl (Or.inl rfl)) rfl ?_
  exact q_virtV [vO 10 (a0 + 41)] 43 rfl (show sCode 17 40 = some (.invokevirtual 106, 3) by decide +kernel) (show sMR (sKo 17).1 106 = some 34 by decide +kernel) (show 34 < 1000 ∧ sStat 34 = false ∧ sIni 34 = false ∧ sKo 34 = (10, 1, 0, 0, 0) by decide +kernel) rfl (Or.inl rfl) rfl (Nat.le_of_ble_eq_true rfl) rfl rfl rfl (by decide +kernel) kk
theorem b17_43 {d : Nat} {P : Int → sM → sG → Prop} {M : sM} {G : sG} {a0 : Nat}  (kk : P (M (a0 + 13) 0) M G) : sW (sC d) 17 (QI P) 43 [vO 11 a0, vN] [] M G 0 0 := by
  refine q_aload_n 44 rfl (show sCode 17 43 = some (.aload_n 0, 1) by decide +kernel) rfl (Nat.le_of_ble_eq_true rfl) ?_
  refine q_getR (vO 8 (a0 + 12)) 47 rfl (show sCode 17 44 = some (.getfield 32, 3) by decide +kernel) (show sFR (sKo 17).1 32 = some (11, 3) by decide +kernel) (by decide +kernel) (Or.inl (Or.inl rfl)) rfl ?_
  refine q_getR (vO 10 (a0 + 13)) 50 rfl (show sCode 17 47 = some (.getfield 103, 3) by decide +kernel) (show sFR (sKo 17).1 103 = some (8, 0) by decide +kernel) (by decide +kernel) (Or.inl (Or.inl rfl)) rfl ?_
  refine q_getI 53 rfl (show sCode 17 50 = some (.getfield 110, 3) by decide +kernel) (show sFR (sKo 17).1 110 = some (10, 0) by decide +kernel) (by decide +kernel) (Or.inl (Or.inl rfl)) ?_
  exact q_iret (show sCode 17 53 = some (.ireturn, 1) by decide +kernel) (by decide +kernel) (by decide +kernel) kk
-- 54 AfterTheLast.house (II)I
theorem b54_0 {d : Nat} {Q : Option sV → sM → sG → Prop} {M : sM} {G : sG} {a0 : Nat} {x1 : Int} {x2 : Int}  (kk : sC d 55 [vO 10 (a0 + 13), vI x1] M G (QI (fun r M1 G1 => sW (sC d) 54 Q 13 [vN, vI x1, vI x2, vO 10 (a0 + 13)] (vI r :: []) M1 G1 0 0))) : sW (sC d) 54 Q 0 [vO 11 a0, vI x1, vI x2, vN] [] M G 0 0 := by
  refine q_aload_n 1 rfl (show sCode 54 0 = some (.aload_n 0, 1) by decide +kernel) rfl (Nat.le_of_ble_eq_true rfl) ?_
  refine q_getR (vO 8 (a0 + 12)) 4 rfl (show sCode 54 1 = some (.getfield 32, 3) by decide +kernel) (show sFR (sKo 54).1 32 = some (11, 3) by decide +kernel) (by decide +kernel) (Or.inl (Or.inl rfl)) rfl ?_
  refine q_getR (vO 10 (a0 + 13)) 7 rfl (show sCode 54 4 = some (.getfield 103, 3) by decide +kernel) (show sFR (sKo 54).1 103 = some (8, 0) by decide +kernel) (by decide +kernel) (Or.inl (Or.inl rfl)) rfl ?_
  refine q_astore_n [vO 11 a0, vI x1, vI x2, vO 10 (a0 + 13)] 8 rfl (show sCode 54 7 = some (.astore_n 3, 1) by decide +kernel) (by first | exact ⟨Nat.le_of_ble_eq_true rfl, Or.inl (Nat.lt_of_lt_of_le (Nat.lt_succ_self _) (Nat.le_of_ble_eq_true rfl))⟩ | exact ⟨Nat.le_of_ble_eq_true rfl, Or.inr (Nat.le_of_ble_eq_true rfl)⟩) (Nat.lt_of_lt_of_le (Nat.lt_succ_self _) (Nat.le_of_ble_eq_true rfl)) rfl rfl ?_
  refine q_aload_n 9 rfl (show sCode 54 8 = some (.aload_n 3, 1) by decide +kernel) rfl (Nat.le_of_ble_eq_true rfl) ?_
  refine q_iload_n 10 rfl (show sCode 54 9 = some (.iload_n 1, 1) by decide +kernel) rfl ?_
  refine q_forget (L' := [vN, vI x1, vI x2, vO 10 (a0 + 13)]) 0 rfl ?_
  exact q_virtI [vI x1] 13 rfl (show sCode 54 10 = some (.invokevirtual 120, 3) by decide +kernel) (show sMR (sKo 54).1 120 = some 55 by decide +kernel) (show 55 < 1000 ∧ sStat 55 = false ∧ sIni 55 = false ∧ sKo 55 = (10, 1, 2, 0, 0) by decide +kernel) rfl (Or.inl rfl) rfl (Nat.le_of_ble_eq_true rfl) rfl rfl rfl (by decide +kernel) kk
theorem b54_13 {d : Nat} {Q : Option sV → sM → sG → Prop} {M : sM} {G : sG} {x1 : Int} {x2 : Int} {a3 : Nat} {s0 : Int}  (k1 : s0 ≠ 0 → sW (sC d) 54 Q 18 [vN, vI x1, vI x2, vO 10 a3] [] M G 0 0) (k2 : s0 = 0 → sW (sC d) 54 Q 16 [vN, vN, vN, vN] [] M G 0 0) : sW (sC d) 54 Q 13 [vN, vI x1, vI x2, vO 10 a3] [vI s0] M G 0 0 := by
  refine q_ifne 18 16 rfl (by decide) (show sCode 54 13 = some (.ifCond .ne 5, 3) by decide +kernel) ?_ ?_
  · intro q; exact k1 q
  · intro q; refine q_forget (L' := [vN, vN, vI x2, vO 10 a3]) 1 rfl ?_; refine q_forget (L' := [vN, vN, vN, vO 10 a3]) 2 rfl ?_; refine q_forget (L' := [vN, vN, vN, vN]) 3 rfl ?_; exact k2 q
theorem b54_16 {d : Nat} {P : Int → sM → sG → Prop} {M : sM} {G : sG}   (kk : P (-1) M G) : sW (sC d) 54 (QI P) 16 [vN, vN, vN, vN] [] M G 0 0 := by
  refine q_iconst 17 rfl (show sCode 54 16 = some (.iconst (-1), 1) by decide +kernel) ⟨by decide, by decide⟩ ?_
  exact q_iret (show sCode 54 17 = some (.ireturn, 1) by decide +kernel) (by decide +kernel) (by decide +kernel) kk
theorem b54_18 {d : Nat} {Q : Option sV → sM → sG → Prop} {M : sM} {G : sG} {x1 : Int} {x2 : Int} {a3 : Nat}  (kd : x2 < 0 ∨ 5 < x2 → sW (sC d) 54 Q 96 [vN, vN, vN, vN] [] M G 0 0) (k0 : x2 = 0 → sW (sC d) 54 Q 56 [vN, vI x1, vN, vO 10 a3] [] M G 0 0) (k1 : x2 = 1 → sW (sC d) 54 Q 63 [vN, vI x1, vN, vO 10 a3] [] M G 0 0) (k2 : x2 = 2 → sW (sC d) 54 Q 70 [vN, vI x1, vN, vO 10 a3] [] M G 0 0) (k3 : x2 = 3 → sW (sC d) 54 Q 77 [vN, vI x1, vN, vO 10 a3] [] M G 0 0) (k4 : x2 = 4 → sW (sC d) 54 Q 84 [vN, vI x1, vN, vO 10 a3] [] M G 0 0) (k5 : x2 = 5 → sW (sC d) 54 Q 90 [vN, vI x1, vN, vO 10 a3] [] M G 0 0) : sW (sC d) 54 Q 18 [vN, vI x1, vI x2, vO 10 a3] [] M G 0 0 := by
  refine q_iload_n 19 rfl (show sCode 54 18 = some (.iload_n 2, 1) by decide +kernel) rfl ?_
  refine q_switch (show sCode 54 19 = some (.tableswitch 77 0 5 #[37, 44, 51, 58, 65, 71], 37) by decide +kernel) (fun q => ⟨96, by decide, ?_⟩) (fun q1 q2 => ?_)
  · refine q_forget (L' := [vN, vN, vI x2, vO 10 a3]) 1 rfl ?_; refine q_forget (L' := [vN, vN, vN, vO 10 a3]) 2 rfl ?_; refine q_forget (L' := [vN, vN, vN, vN]) 3 rfl ?_; exact kd q
  · have q3 : x2 = 0 ∨ x2 = 1 ∨ x2 = 2 ∨ x2 = 3 ∨ x2 = 4 ∨ x2 = 5 := by omega
    rcases q3 with q | q | q | q | q | q
    · refine ⟨37, 56, by rw [q]; rfl, by decide, ?_⟩; refine q_forget (L' := [vN, vI x1, vN, vO 10 a3]) 2 rfl ?_; exact k0 q
    · refine ⟨44, 63, by rw [q]; rfl, by decide, ?_⟩; refine q_forget (L' := [vN, vI x1, vN, vO 10 a3]) 2 rfl ?_; exact k1 q
    · refine ⟨51, 70, by rw [q]; rfl, by decide, ?_⟩; refine q_forget (L' := [vN, vI x1, vN, vO 10 a3]) 2 rfl ?_; exact k2 q
    · refine ⟨58, 77, by rw [q]; rfl, by decide, ?_⟩; refine q_forget (L' := [vN, vI x1, vN, vO 10 a3]) 2 rfl ?_; exact k3 q
    · refine ⟨65, 84, by rw [q]; rfl, by decide, ?_⟩; refine q_forget (L' := [vN, vI x1, vN, vO 10 a3]) 2 rfl ?_; exact k4 q
    · refine ⟨71, 90, by rw [q]; rfl, by decide, ?_⟩; refine q_forget (L' := [vN, vI x1, vN, vO 10 a3]) 2 rfl ?_; exact k5 q
theorem b54_56 {d : Nat} {P : Int → sM → sG → Prop} {M : sM} {G : sG} {x1 : Int} {a3 : Nat} (h1 : 0 ≤ x1 ∧ x1 < 6) (kk : P (M (a3 + 1) x1.toNat) M G) : sW (sC d) 54 (QI P) 56 [vN, vI x1, vN, vO 10 a3] [] M G 0 0 := by
  refine q_aload_n 57 rfl (show sCode 54 56 = some (.aload_n 3, 1) by decide +kernel) rfl (Nat.le_of_ble_eq_true rfl) ?_
  refine q_getR (vA 0 (a3 + 1) 6) 60 rfl (show sCode 54 57 = some (.getfield 123, 3) by decide +kernel) (show sFR (sKo 54).1 123 = some (10, 1) by decide +kernel) (by decide +kernel) (Or.inl (Or.inl rfl)) rfl ?_
  refine q_iload_n 61 rfl (show sCode 54 60 = some (.iload_n 1, 1) by decide +kernel) rfl ?_
  refine q_iald 62 rfl (show sCode 54 61 = some (.iaload, 1) by decide +kernel) h1 ?_
  exact q_iret (show sCode 54 62 = some (.ireturn, 1) by decide +kernel) (by decide +kernel) (by decide +kernel) kk
theorem b54_63 {d : Nat} {P : Int → sM → sG → Prop} {M : sM} {G : sG} {x1 : Int} {a3 : Nat} (h1 : 0 ≤ x1 ∧ x1 < 6) (kk : P (M (a3 + 2) x1.toNat) M G) : sW (sC d) 54 (QI P) 63 [vN, vI x1, vN, vO 10 a3] [] M G 0 0 := by
  refine q_aload_n 64 rfl (show sCode 54 63 = some (.aload_n 3, 1) by decide +kernel) rfl (Nat.le_of_ble_eq_true rfl) ?_
  refine q_getR (vA 0 (a3 + 2) 6) 67 rfl (show sCode 54 64 = some (.getfield 127, 3) by decide +kernel) (show sFR (sKo 54).1 127 = some (10, 2) by decide +kernel) (by decide +kernel) (Or.inl (Or.inl rfl)) rfl ?_
  refine q_iload_n 68 rfl (show sCode 54 67 = some (.iload_n 1, 1) by decide +kernel) rfl ?_
  refine q_iald 69 rfl (show sCode 54 68 = some (.iaload, 1) by decide +kernel) h1 ?_
  exact q_iret (show sCode 54 69 = some (.ireturn, 1) by decide +kernel) (by decide +kernel) (by decide +kernel) kk
theorem b54_70 {d : Nat} {P : Int → sM → sG → Prop} {M : sM} {G : sG} {x1 : Int} {a3 : Nat} (h1 : 0 ≤ x1 ∧ x1 < 6) (kk : P (M (a3 + 3) x1.toNat) M G) : sW (sC d) 54 (QI P) 70 [vN, vI x1, vN, vO 10 a3] [] M G 0 0 := by
  refine q_aload_n 71 rfl (show sCode 54 70 = some (.aload_n 3, 1) by decide +kernel) rfl (Nat.le_of_ble_eq_true rfl) ?_
  refine q_getR (vA 0 (a3 + 3) 6) 74 rfl (show sCode 54 71 = some (.getfield 130, 3) by decide +kernel) (show sFR (sKo 54).1 130 = some (10, 3) by decide +kernel) (by decide +kernel) (Or.inl (Or.inl rfl)) rfl ?_
  refine q_iload_n 75 rfl (show sCode 54 74 = some (.iload_n 1, 1) by decide +kernel) rfl ?_
  refine q_iald 76 rfl (show sCode 54 75 = some (.iaload, 1) by decide +kernel) h1 ?_
  exact q_iret (show sCode 54 76 = some (.ireturn, 1) by decide +kernel) (by decide +kernel) (by decide +kernel) kk
theorem b54_77 {d : Nat} {P : Int → sM → sG → Prop} {M : sM} {G : sG} {x1 : Int} {a3 : Nat} (h1 : 0 ≤ x1 ∧ x1 < 6) (kk : P (M (a3 + 4) x1.toNat) M G) : sW (sC d) 54 (QI P) 77 [vN, vI x1, vN, vO 10 a3] [] M G 0 0 := by
  refine q_aload_n 78 rfl (show sCode 54 77 = some (.aload_n 3, 1) by decide +kernel) rfl (Nat.le_of_ble_eq_true rfl) ?_
  refine q_getR (vA 0 (a3 + 4) 6) 81 rfl (show sCode 54 78 = some (.getfield 133, 3) by decide +kernel) (show sFR (sKo 54).1 133 = some (10, 4) by decide +kernel) (by decide +kernel) (Or.inl (Or.inl rfl)) rfl ?_
  refine q_iload_n 82 rfl (show sCode 54 81 = some (.iload_n 1, 1) by decide +kernel) rfl ?_
  refine q_iald 83 rfl (show sCode 54 82 = some (.iaload, 1) by decide +kernel) h1 ?_
  exact q_iret (show sCode 54 83 = some (.ireturn, 1) by decide +kernel) (by decide +kernel) (by decide +kernel) kk
theorem b54_84 {d : Nat} {Q : Option sV → sM → sG → Prop} {M : sM} {G : sG} {x1 : Int} {a3 : Nat}  (kk : sC d 56 [vO 10 a3, vI x1] M G (QI (fun r M1 G1 => sW (sC d) 54 Q 89 [vN, vN, vN, vN] (vI r :: []) M1 G1 0 0))) : sW (sC d) 54 Q 84 [vN, vI x1, vN, vO 10 a3] [] M G 0 0 := by
  refine q_aload_n 85 rfl (show sCode 54 84 = some (.aload_n 3, 1) by decide +kernel) rfl (Nat.le_of_ble_eq_true rfl) ?_
  refine q_iload_n 86 rfl (show sCode 54 85 = some (.iload_n 1, 1) by decide +kernel) rfl ?_
  refine q_forget (L' := [vN, vN, vN, vO 10 a3]) 1 rfl ?_
  refine q_forget (L' := [vN, vN, vN, vN]) 3 rfl ?_
  exact q_virtI [vI x1] 89 rfl (show sCode 54 86 = some (.invokevirtual 136, 3) by decide +kernel) (show sMR (sKo 54).1 136 = some 56 by decide +kernel) (show 56 < 1000 ∧ sStat 56 = false ∧ sIni 56 = false ∧ sKo 56 = (10, 1, 1, 0, 0) by decide +kernel) rfl (Or.inl rfl) rfl (Nat.le_of_ble_eq_true rfl) rfl rfl rfl (by decide +kernel) kk
theorem b54_89 {d : Nat} {P : Int → sM → sG → Prop} {M : sM} {G : sG} {s0 : Int}  (kk : P s0 M G) : sW (sC d) 54 (QI P) 89 [vN, vN, vN, vN] [vI s0] M G 0 0 := by
  exact q_iret (show sCode 54 89 = some (.ireturn, 1) by decide +kernel) (by decide +kernel) (by decide +kernel) kk
theorem b54_90 {d : Nat} {Q : Option sV → sM → sG → Prop} {M : sM} {G : sG} {x1 : Int} {a3 : Nat}  (kk : sC d 57 [vO 10 a3, vI x1] M G (QI (fun r M1 G1 => sW (sC d) 54 Q 95 [vN, vN, vN, vN] (vI r :: []) M1 G1 0 0))) : sW (sC d) 54 Q 90 [vN, vI x1, vN, vO 10 a3] [] M G 0 0 := by
  refine q_aload_n 91 rfl (show sCode 54 90 = some (.aload_n 3, 1) by decide +kernel) rfl (Nat.le_of_ble_eq_true rfl) ?_
  refine q_iload_n 92 rfl (show sCode 54 91 = some (.iload_n 1, 1) by decide +kernel) rfl ?_
  refine q_forget (L' := [vN, vN, vN, vO 10 a3]) 1 rfl ?_
  refine q_forget (L' := [vN, vN, vN, vN]) 3 rfl ?_
  exact q_virtI [vI x1] 95 rfl (show sCode 54 92 = some (.invokevirtual 140, 3) by decide +kernel) (show sMR (sKo 54).1 140 = some 57 by decide +kernel) (show 57 < 1000 ∧ sStat 57 = false ∧ sIni 57 = false ∧ sKo 57 = (10, 1, 1, 0, 0) by decide +kernel) rfl (Or.inl rfl) rfl (Nat.le_of_ble_eq_true rfl) rfl rfl rfl (by decide +kernel) kk
theorem b54_95 {d : Nat} {P : Int → sM → sG → Prop} {M : sM} {G : sG} {s0 : Int}  (kk : P s0 M G) : sW (sC d) 54 (QI P) 95 [vN, vN, vN, vN] [vI s0] M G 0 0 := by
  exact q_iret (show sCode 54 95 = some (.ireturn, 1) by decide +kernel) (by decide +kernel) (by decide +kernel) kk
theorem b54_96 {d : Nat} {P : Int → sM → sG → Prop} {M : sM} {G : sG}   (kk : P (-1) M G) : sW (sC d) 54 (QI P) 96 [vN, vN, vN, vN] [] M G 0 0 := by
  refine q_iconst 97 rfl (show sCode 54 96 = some (.iconst (-1), 1) by decide +kernel) ⟨by decide, by decide⟩ ?_
  exact q_iret (show sCode 54 97 = some (.ireturn, 1) by decide +kernel) (by decide +kernel) (by decide +kernel) kk
-- 58 AfterTheLast.stay (II)I
theorem b58_0 {d : Nat} {Q : Option sV → sM → sG → Prop} {M : sM} {G : sG} {a0 : Nat} {x1 : Int} {x2 : Int}  (kk : sC d 59 [vO 10 (a0 + 13), vI x1] M G (QI (fun r M1 G1 => sW (sC d) 58 Q 13 [vN, vI x1, vI x2, vO 10 (a0 + 13)] (vI r :: []) M1 G1 0 0))) : sW (sC d) 58 Q 0 [vO 11 a0, vI x1, vI x2, vN] [] M G 0 0 := by
  refine q_aload_n 1 rfl (show sCode 58 0 = some (.aload_n 0, 1) by decide +kernel) rfl (Nat.le_of_ble_eq_true rfl) ?_
  refine q_getR (vO 8 (a0 + 12)) 4 rfl (show sCode 58 1 = some (.getfield 32, 3) by decide +kernel) (show sFR (sKo 58).1 32 = some (11, 3) by decide +kernel) (by decide +kernel) (Or.inl (Or.inl rfl)) rfl ?_
  refine q_getR (vO 10 (a0 + 13)) 7 rfl (show sCode 58 4 = some (.getfield 103, 3) by decide +kernel) (show sFR (sKo 58).1 103 = some (8, 0) by decide +kernel) (by decide +kernel) (Or.inl (Or.inl rfl)) rfl ?_
  refine q_astore_n [vO 11 a0, vI x1, vI x2, vO 10 (a0 + 13)] 8 rfl (show sCode 58 7 = some (.astore_n 3, 1) by decide +kernel) (by first | exact ⟨Nat.le_of_ble_eq_true rfl, Or.inl (Nat.lt_of_lt_of_le (Nat.lt_succ_self _) (Nat.le_of_ble_eq_true rfl))⟩ | exact ⟨Nat.le_of_ble_eq_true rfl, Or.inr (Nat.le_of_ble_eq_true rfl)⟩) (Nat.lt_of_lt_of_le (Nat.lt_succ_self _) (Nat.le_of_ble_eq_true rfl)) rfl rfl ?_
  refine q_aload_n 9 rfl (show sCode 58 8 = some (.aload_n 3, 1) by decide +kernel) rfl (Nat.le_of_ble_eq_true rfl) ?_
  refine q_iload_n 10 rfl (show sCode 58 9 = some (.iload_n 1, 1) by decide +kernel) rfl ?_
  refine q_forget (L' := [vN, vI x1, vI x2, vO 10 (a0 + 13)]) 0 rfl ?_
  exact q_virtI [vI x1] 13 rfl (show sCode 58 10 = some (.invokevirtual 143, 3) by decide +kernel) (show sMR (sKo 58).1 143 = some 59 by decide +kernel) (show 59 < 1000 ∧ sStat 59 = false ∧ sIni 59 = false ∧ sKo 59 = (10, 1, 2, 0, 0) by decide +kernel) rfl (Or.inl rfl) rfl (Nat.le_of_ble_eq_true rfl) rfl rfl rfl (by decide +kernel) kk
theorem b58_13 {d : Nat} {Q : Option sV → sM → sG → Prop} {M : sM} {G : sG} {x1 : Int} {x2 : Int} {a3 : Nat} {s0 : Int}  (k1 : s0 ≠ 0 → sW (sC d) 58 Q 18 [vN, vI x1, vI x2, vO 10 a3] [] M G 0 0) (k2 : s0 = 0 → sW (sC d) 58 Q 16 [vN, vN, vN, vN] [] M G 0 0) : sW (sC d) 58 Q 13 [vN, vI x1, vI x2, vO 10 a3] [vI s0] M G 0 0 := by
  refine q_ifne 18 16 rfl (by decide) (show sCode 58 13 = some (.ifCond .ne 5, 3) by decide +kernel) ?_ ?_
  · intro q; exact k1 q
  · intro q; refine q_forget (L' := [vN, vN, vI x2, vO 10 a3]) 1 rfl ?_; refine q_forget (L' := [vN, vN, vN, vO 10 a3]) 2 rfl ?_; refine q_forget (L' := [vN, vN, vN, vN]) 3 rfl ?_; exact k2 q
theorem b58_16 {d : Nat} {P : Int → sM → sG → Prop} {M : sM} {G : sG}   (kk : P (-1) M G) : sW (sC d) 58 (QI P) 16 [vN, vN, vN, vN] [] M G 0 0 := by
  refine q_iconst 17 rfl (show sCode 58 16 = some (.iconst (-1), 1) by decide +kernel) ⟨by decide, by decide⟩ ?_
  exact q_iret (show sCode 58 17 = some (.ireturn, 1) by decide +kernel) (by decide +kernel) (by decide +kernel) kk
theorem b58_18 {d : Nat} {Q : Option sV → sM → sG → Prop} {M : sM} {G : sG} {x1 : Int} {x2 : Int} {a3 : Nat}  (kd : x2 < 0 ∨ 5 < x2 → sW (sC d) 58 Q 98 [vN, vN, vN, vN] [] M G 0 0) (k0 : x2 = 0 → sW (sC d) 58 Q 56 [vN, vI x1, vN, vO 10 a3] [] M G 0 0) (k1 : x2 = 1 → sW (sC d) 58 Q 63 [vN, vI x1, vN, vO 10 a3] [] M G 0 0) (k2 : x2 = 2 → sW (sC d) 58 Q 70 [vN, vI x1, vN, vO 10 a3] [] M G 0 0) (k3 : x2 = 3 → sW (sC d) 58 Q 77 [vN, vI x1, vN, vO 10 a3] [] M G 0 0) (k4 : x2 = 4 → sW (sC d) 58 Q 84 [vN, vI x1, vN, vO 10 a3] [] M G 0 0) (k5 : x2 = 5 → sW (sC d) 58 Q 91 [vN, vI x1, vN, vO 10 a3] [] M G 0 0) : sW (sC d) 58 Q 18 [vN, vI x1, vI x2, vO 10 a3] [] M G 0 0 := by
  refine q_iload_n 19 rfl (show sCode 58 18 = some (.iload_n 2, 1) by decide +kernel) rfl ?_
  refine q_switch (show sCode 58 19 = some (.tableswitch 79 0 5 #[37, 44, 51, 58, 65, 72], 37) by decide +kernel) (fun q => ⟨98, by decide, ?_⟩) (fun q1 q2 => ?_)
  · refine q_forget (L' := [vN, vN, vI x2, vO 10 a3]) 1 rfl ?_; refine q_forget (L' := [vN, vN, vN, vO 10 a3]) 2 rfl ?_; refine q_forget (L' := [vN, vN, vN, vN]) 3 rfl ?_; exact kd q
  · have q3 : x2 = 0 ∨ x2 = 1 ∨ x2 = 2 ∨ x2 = 3 ∨ x2 = 4 ∨ x2 = 5 := by omega
    rcases q3 with q | q | q | q | q | q
    · refine ⟨37, 56, by rw [q]; rfl, by decide, ?_⟩; refine q_forget (L' := [vN, vI x1, vN, vO 10 a3]) 2 rfl ?_; exact k0 q
    · refine ⟨44, 63, by rw [q]; rfl, by decide, ?_⟩; refine q_forget (L' := [vN, vI x1, vN, vO 10 a3]) 2 rfl ?_; exact k1 q
    · refine ⟨51, 70, by rw [q]; rfl, by decide, ?_⟩; refine q_forget (L' := [vN, vI x1, vN, vO 10 a3]) 2 rfl ?_; exact k2 q
    · refine ⟨58, 77, by rw [q]; rfl, by decide, ?_⟩; refine q_forget (L' := [vN, vI x1, vN, vO 10 a3]) 2 rfl ?_; exact k3 q
    · refine ⟨65, 84, by rw [q]; rfl, by decide, ?_⟩; refine q_forget (L' := [vN, vI x1, vN, vO 10 a3]) 2 rfl ?_; exact k4 q
    · refine ⟨72, 91, by rw [q]; rfl, by decide, ?_⟩; refine q_forget (L' := [vN, vI x1, vN, vO 10 a3]) 2 rfl ?_; exact k5 q
theorem b58_56 {d : Nat} {P : Int → sM → sG → Prop} {M : sM} {G : sG} {x1 : Int} {a3 : Nat} (h1 : 0 ≤ x1 ∧ x1 < 18) (kk : P (M (a3 + 6) x1.toNat) M G) : sW (sC d) 58 (QI P) 56 [vN, vI x1, vN, vO 10 a3] [] M G 0 0 := by
  refine q_aload_n 57 rfl (show sCode 58 56 = some (.aload_n 3, 1) by decide +kernel) rfl (Nat.le_of_ble_eq_true rfl) ?_
  refine q_getR (vA 0 (a3 + 6) 18) 60 rfl (show sCode 58 57 = some (.getfield 146, 3) by decide +kernel) (show sFR (sKo 58).1 146 = some (10, 7) by decide +kernel) (by decide +kernel) (Or.inl (Or.inl rfl)) rfl ?_
  refine q_iload_n 61 rfl (show sCode 58 60 = some (.iload_n 1, 1) by decide +kernel) rfl ?_
  refine q_iald 62 rfl (show sCode 58 61 = some (.iaload, 1) by decide +kernel) h1 ?_
  exact q_iret (show sCode 58 62 = some (.ireturn, 1) by decide +kernel) (by decide +kernel) (by decide +kernel) kk
theorem b58_63 {d : Nat} {P : Int → sM → sG → Prop} {M : sM} {G : sG} {x1 : Int} {a3 : Nat} (h1 : 0 ≤ x1 ∧ x1 < 18) (kk : P (M (a3 + 7) x1.toNat) M G) : sW (sC d) 58 (QI P) 63 [vN, vI x1, vN, vO 10 a3] [] M G 0 0 := by
  refine q_aload_n 64 rfl (show sCode 58 63 = some (.aload_n 3, 1) by decide +kernel) rfl (Nat.le_of_ble_eq_true rfl) ?_
  refine q_getR (vA 0 (a3 + 7) 18) 67 rfl (show sCode 58 64 = some (.getfield 149, 3) by decide +kernel) (show sFR (sKo 58).1 149 = some (10, 8) by decide +kernel) (by decide +kernel) (Or.inl (Or.inl rfl)) rfl ?_
  refine q_iload_n 68 rfl (show sCode 58 67 = some (.iload_n 1, 1) by decide +kernel) rfl ?_
  refine q_iald 69 rfl (show sCode 58 68 = some (.iaload, 1) by decide +kernel) h1 ?_
  exact q_iret (show sCode 58 69 = some (.ireturn, 1) by decide +kernel) (by decide +kernel) (by decide +kernel) kk
theorem b58_70 {d : Nat} {P : Int → sM → sG → Prop} {M : sM} {G : sG} {x1 : Int} {a3 : Nat} (h1 : 0 ≤ x1 ∧ x1 < 18) (kk : P (M (a3 + 8) x1.toNat) M G) : sW (sC d) 58 (QI P) 70 [vN, vI x1, vN, vO 10 a3] [] M G 0 0 := by
  refine q_aload_n 71 rfl (show sCode 58 70 = some (.aload_n 3, 1) by decide +kernel) rfl (Nat.le_of_ble_eq_true rfl) ?_
  refine q_getR (vA 0 (a3 + 8) 18) 74 rfl (show sCode 58 71 = some (.getfield 152, 3) by decide +kernel) (show sFR (sKo 58).1 152 = some (10, 9) by decide +kernel) (by decide +kernel) (Or.inl (Or.inl rfl)) rfl ?_
  refine q_iload_n 75 rfl (show sCode 58 74 = some (.iload_n 1, 1) by decide +kernel) rfl ?_
  refine q_iald 76 rfl (show sCode 58 75 = some (.iaload, 1) by decide +kernel) h1 ?_
  exact q_iret (show sCode 58 76 = some (.ireturn, 1) by decide +kernel) (by decide +kernel) (by decide +kernel) kk
theorem b58_77 {d : Nat} {P : Int → sM → sG → Prop} {M : sM} {G : sG} {x1 : Int} {a3 : Nat} (h1 : 0 ≤ x1 ∧ x1 < 18) (kk : P (M (a3 + 9) x1.toNat) M G) : sW (sC d) 58 (QI P) 77 [vN, vI x1, vN, vO 10 a3] [] M G 0 0 := by
  refine q_aload_n 78 rfl (show sCode 58 77 = some (.aload_n 3, 1) by decide +kernel) rfl (Nat.le_of_ble_eq_true rfl) ?_
  refine q_getR (vA 0 (a3 + 9) 18) 81 rfl (show sCode 58 78 = some (.getfield 155, 3) by decide +kernel) (show sFR (sKo 58).1 155 = some (10, 10) by decide +kernel) (by decide +kernel) (Or.inl (Or.inl rfl)) rfl ?_
  refine q_iload_n 82 rfl (show sCode 58 81 = some (.iload_n 1, 1) by decide +kernel) rfl ?_
  refine q_iald 83 rfl (show sCode 58 82 = some (.iaload, 1) by decide +kernel) h1 ?_
  exact q_iret (show sCode 58 83 = some (.ireturn, 1) by decide +kernel) (by decide +kernel) (by decide +kernel) kk
theorem b58_84 {d : Nat} {P : Int → sM → sG → Prop} {M : sM} {G : sG} {x1 : Int} {a3 : Nat} (h1 : 0 ≤ x1 ∧ x1 < 18) (kk : P (M (a3 + 10) x1.toNat) M G) : sW (sC d) 58 (QI P) 84 [vN, vI x1, vN, vO 10 a3] [] M G 0 0 := by
  refine q_aload_n 85 rfl (show sCode 58 84 = some (.aload_n 3, 1) by decide +kernel) rfl (Nat.le_of_ble_eq_true rfl) ?_
  refine q_getR (vA 0 (a3 + 10) 18) 88 rfl (show sCode 58 85 = some (.getfield 158, 3) by decide +kernel) (show sFR (sKo 58).1 158 = some (10, 11) by decide +kernel) (by decide +kernel) (Or.inl (Or.inl rfl)) rfl ?_
  refine q_iload_n 89 rfl (show sCode 58 88 = some (.iload_n 1, 1) by decide +kernel) rfl ?_
  refine q_iald 90 rfl (show sCode 58 89 = some (.iaload, 1) by decide +kernel) h1 ?_
  exact q_iret (show sCode 58 90 = some (.ireturn, 1) by decide +kernel) (by decide +kernel) (by decide +kernel) kk
theorem b58_91 {d : Nat} {P : Int → sM → sG → Prop} {M : sM} {G : sG} {x1 : Int} {a3 : Nat} (h1 : 0 ≤ x1 ∧ x1 < 18) (kk : P (M (a3 + 11) x1.toNat) M G) : sW (sC d) 58 (QI P) 91 [vN, vI x1, vN, vO 10 a3] [] M G 0 0 := by
  refine q_aload_n 92 rfl (show sCode 58 91 = some (.aload_n 3, 1) by decide +kernel) rfl (Nat.le_of_ble_eq_true rfl) ?_
  refine q_getR (vA 0 (a3 + 11) 18) 95 rfl (show sCode 58 92 = some (.getfield 161, 3) by decide +kernel) (show sFR (sKo 58).1 161 = some (10, 12) by decide +kernel) (by decide +kernel) (Or.inl (Or.inl rfl)) rfl ?_
  refine q_iload_n 96 rfl (show sCode 58 95 = some (.iload_n 1, 1) by decide +kernel) rfl ?_
  refine q_iald 97 rfl (show sCode 58 96 = some (.iaload, 1) by decide +kernel) h1 ?_
  exact q_iret (show sCode 58 97 = some (.ireturn, 1) by decide +kernel) (by decide +kernel) (by decide +kernel) kk
theorem b58_98 {d : Nat} {P : Int → sM → sG → Prop} {M : sM} {G : sG}   (kk : P (-1) M G) : sW (sC d) 58 (QI P) 98 [vN, vN, vN, vN] [] M G 0 0 := by
  refine q_iconst 99 rfl (show sCode 58 98 = some (.iconst (-1), 1) by decide +kernel) ⟨by decide, by decide⟩ ?_
  exact q_iret (show sCode 58 99 = some (.ireturn, 1) by decide +kernel) (by decide +kernel) (by decide +kernel) kk
-- 60 AfterTheLast.person (II)I
theorem b60_0 {d : Nat} {Q : Option sV → sM → sG → Prop} {M : sM} {G : sG} {a0 : Nat} {x1 : Int} {x2 : Int}  (kk : sC d 61 [vI x1] M G (QI (fun r M1 G1 => sW (sC d) 60 Q 4 [vO 11 a0, vI x1, vI x2, vN] (vI r :: []) M1 G1 0 0))) : sW (sC d) 60 Q 0 [vO 11 a0, vI x1, vI x2, vN] [] M G 0 0 := by
  refine q_iload_n 1 rfl (show sCode 60 0 = some (.iload_n 1, 1) by decide +kernel) rfl ?_
  exact q_statI [vI x1] 4 rfl (show sCode 60 1 = some (.invokestatic 164, 3) by decide +kernel) (show sMR (sKo 60).1 164 = some 61 by decide +kernel) (show 61 < 1000 ∧ sStat 61 = true ∧ sKo 61 = (11, 1, 2, 0, 0) by decide +kernel) rfl rfl (Nat.le_of_ble_eq_true rfl) rfl rfl rfl (by decide +kernel) kk
theorem b60_4 {d : Nat} {Q : Option sV → sM → sG → Prop} {M : sM} {G : sG} {a0 : Nat} {x1 : Int} {x2 : Int} {s0 : Int}  (k1 : s0 ≠ 0 → sW (sC d) 60 Q 10 [vO 11 a0, vI x1, vI x2, vN] [] M G 0 0) (k2 : s0 = 0 → sW (sC d) 60 Q 7 [vN, vN, vN, vN] [] M G 0 0) : sW (sC d) 60 Q 4 [vO 11 a0, vI x1, vI x2, vN] [vI s0] M G 0 0 := by
  refine q_ifne 10 7 rfl (by decide) (show sCode 60 4 = some (.ifCond .ne 6, 3) by decide +kernel) ?_ ?_
  · intro q; exact k1 q
  · intro q; refine q_forget (L' := [vN, vI x1, vI x2, vN]) 0 rfl ?_; refine q_forget (L' := [vN, vN, vI x2, vN]) 1 rfl ?_; refine q_forget (L' := [vN, vN, vN, vN]) 2 rfl ?_; exact k2 q
theorem b60_7 {d : Nat} {P : Int → sM → sG → Prop} {M : sM} {G : sG}   (kk : P (-2) M G) : sW (sC d) 60 (QI P) 7 [vN, vN, vN, vN] [] M G 0 0 := by
  refine q_bipush 9 rfl (show sCode 60 7 = some (.bipush (-2), 2) by decide +kernel) ⟨by decide, by decide⟩ (by decide +kernel) ?_
  exact q_iret (show sCode 60 9 = some (.ireturn, 1) by decide +kernel) (by decide +kernel) (by decide +kernel) kk
theorem b60_10 {d : Nat} {Q : Option sV → sM → sG → Prop} {M : sM} {G : sG} {a0 : Nat} {x1 : Int} {x2 : Int}  (kd : x2 < 0 ∨ 5 < x2 → sW (sC d) 60 Q 110 [vN, vN, vN, vN] [] M G 0 0) (k0 : x2 = 0 → sW (sC d) 60 Q 56 [vN, vI x1, vN, vO 10 (a0 + 13)] [] M G 0 0) (k1 : x2 = 1 → sW (sC d) 60 Q 63 [vN, vI x1, vN, vO 10 (a0 + 13)] [] M G 0 0) (k2 : x2 = 2 → sW (sC d) 60 Q 70 [vN, vI x1, vN, vO 10 (a0 + 13)] [] M G 0 0) (k3 : x2 = 3 → sW (sC d) 60 Q 84 [vN, vI x1, vN, vO 10 (a0 + 13)] [] M G 0 0) (k4 : x2 = 4 → sW (sC d) 60 Q 90 [vN, vI x1, vN, vO 10 (a0 + 13)] [] M G 0 0) (k5 : x2 = 5 → sW (sC d) 60 Q 97 [vO 11 a0, vI x1, vN, vN] [] M G 0 0) : sW (sC d) 60 Q 10 [vO 11 a0, vI x1, vI x2, vN] [] M G 0 0 := by
  refine q_aload_n 11 rfl (show sCode 60 10 = some (.aload_n 0, 1) by decide +kernel) rfl (Nat.le_of_ble_eq_true rfl) ?_
  refine q_getR (vO 8 (a0 + 12)) 14 rfl (show sCode 60 11 = some (.getfield 32, 3) by decide +kernel) (show sFR (sKo 60).1 32 = some (11, 3) by decide +kernel) (by decide +kernel) (Or.inl (Or.inl rfl)) rfl ?_
  refine q_getR (vO 10 (a0 + 13)) 17 rfl (show sCode 60 14 = some (.getfield 103, 3) by decide +kernel) (show sFR (sKo 60).1 103 = some (8, 0) by decide +kernel) (by decide +kernel) (Or.inl (Or.inl rfl)) rfl ?_
  refine q_astore_n [vO 11 a0, vI x1, vI x2, vO 10 (a0 + 13)] 18 rfl (show sCode 60 17 = some (.astore_n 3, 1) by decide +kernel) (by first | exact ⟨Nat.le_of_ble_eq_true rfl, Or.inl (Nat.lt_of_lt_of_le (Nat.lt_succ_self _) (Nat.le_of_ble_eq_true rfl))⟩ | exact ⟨Nat.le_of_ble_eq_true rfl, Or.inr (Nat.le_of_ble_eq_true rfl)⟩) (Nat.lt_of_lt_of_le (Nat.lt_succ_self _) (Nat.le_of_ble_eq_true rfl)) rfl rfl ?_
  refine q_iload_n 19 rfl (show sCode 60 18 = some (.iload_n 2, 1) by decide +kernel) rfl ?_
  refine q_switch (show sCode 60 19 = some (.tableswitch 91 0 5 #[37, 44, 51, 65, 71, 78], 37) by decide +kernel) (fun q => ⟨110, by decide, ?_⟩) (fun q1 q2 => ?_)
  · refine q_forget (L' := [vN, vI x1, vI x2, vO 10 (a0 + 13)]) 0 rfl ?_; refine q_forget (L' := [vN, vN, vI x2, vO 10 (a0 + 13)]) 1 rfl ?_; refine q_forget (L' := [vN, vN, vN, vO 10 (a0 + 13)]) 2 rfl ?_; refine q_forget (L' := [vN, vN, vN, vN]) 3 rfl ?_; exact kd q
  · have q3 : x2 = 0 ∨ x2 = 1 ∨ x2 = 2 ∨ x2 = 3 ∨ x2 = 4 ∨ x2 = 5 := by omega
    rcases q3 with q | q | q | q | q | q
    · refine ⟨37, 56, by rw [q]; rfl, by decide, ?_⟩; refine q_forget (L' := [vN, vI x1, vI x2, vO 10 (a0 + 13)]) 0 rfl ?_; refine q_forget (L' := [vN, vI x1, vN, vO 10 (a0 + 13)]) 2 rfl ?_; exact k0 q
    · refine ⟨44, 63, by rw [q]; rfl, by decide, ?_⟩; refine q_forget (L' := [vN, vI x1, vI x2, vO 10 (a0 + 13)]) 0 rfl ?_; refine q_forget (L' := [vN, vI x1, vN, vO 10 (a0 + 13)]) 2 rfl ?_; exact k1 q
    · refine ⟨51, 70, by rw [q]; rfl, by decide, ?_⟩; refine q_forget (L' := [vN, vI x1, vI x2, vO 10 (a0 + 13)]) 0 rfl ?_; refine q_forget (L' := [vN, vI x1, vN, vO 10 (a0 + 13)]) 2 rfl ?_; exact k2 q
    · refine ⟨65, 84, by rw [q]; rfl, by decide, ?_⟩; refine q_forget (L' := [vN, vI x1, vI x2, vO 10 (a0 + 13)]) 0 rfl ?_; refine q_forget (L' := [vN, vI x1, vN, vO 10 (a0 + 13)]) 2 rfl ?_; exact k3 q
    · refine ⟨71, 90, by rw [q]; rfl, by decide, ?_⟩; refine q_forget (L' := [vN, vI x1, vI x2, vO 10 (a0 + 13)]) 0 rfl ?_; refine q_forget (L' := [vN, vI x1, vN, vO 10 (a0 + 13)]) 2 rfl ?_; exact k4 q
    · refine ⟨78, 97, by rw [q]; rfl, by decide, ?_⟩; refine q_forget (L' := [vO 11 a0, vI x1, vN, vO 10 (a0 + 13)]) 2 rfl ?_; refine q_forget (L' := [vO 11 a0, vI x1, vN, vN]) 3 rfl ?_; exact k5 q
theorem b60_56 {d : Nat} {P : Int → sM → sG → Prop} {M : sM} {G : sG} {x1 : Int} {a3 : Nat} (h1 : 0 ≤ x1 ∧ x1 < 12) (kk : P (M (a3 + 12) x1.toNat) M G) : sW (sC d) 60 (QI P) 56 [vN, vI x1, vN, vO 10 a3] [] M G 0 0 := by
  refine q_aload_n 57 rfl (show sCode 60 56 = some (.aload_n 3, 1) by decide +kernel) rfl (Nat.le_of_ble_eq_true rfl) ?_
  refine q_getR (vA 0 (a3 + 12) 12) 60 rfl (show sCode 60 57 = some (.getfield 167, 3) by decide +kernel) (show sFR (sKo 60).1 167 = some (10, 15) by decide +kernel) (by decide +kernel) (Or.inl (Or.inl rfl)) rfl ?_
  refine q_iload_n 61 rfl (show sCode 60 60 = some (.iload_n 1, 1) by decide +kernel) rfl ?_
  refine q_iald 62 rfl (show sCode 60 61 = some (.iaload, 1) by decide +kernel) h1 ?_
  exact q_iret (show sCode 60 62 = some (.ireturn, 1) by decide +kernel) (by decide +kernel) (by decide +kernel) kk
theorem b60_63 {d : Nat} {P : Int → sM → sG → Prop} {M : sM} {G : sG} {x1 : Int} {a3 : Nat} (h1 : 0 ≤ x1 ∧ x1 < 12) (kk : P (M (a3 + 13) x1.toNat) M G) : sW (sC d) 60 (QI P) 63 [vN, vI x1, vN, vO 10 a3] [] M G 0 0 := by
  refine q_aload_n 64 rfl (show sCode 60 63 = some (.aload_n 3, 1) by decide +kernel) rfl (Nat.le_of_ble_eq_true rfl) ?_
  refine q_getR (vA 0 (a3 + 13) 12) 67 rfl (show sCode 60 64 = some (.getfield 170, 3) by decide +kernel) (show sFR (sKo 60).1 170 = some (10, 16) by decide +kernel) (by decide +kernel) (Or.inl (Or.inl rfl)) rfl ?_
  refine q_iload_n 68 rfl (show sCode 60 67 = some (.iload_n 1, 1) by decide +kernel) rfl ?_
  refine q_iald 69 rfl (show sCode 60 68 = some (.iaload, 1) by decide +kernel) h1 ?_
  exact q_iret (show sCode 60 69 = some (.ireturn, 1) by decide +kernel) (by decide +kernel) (by decide +kernel) kk
theorem b60_70 {d : Nat} {Q : Option sV → sM → sG → Prop} {M : sM} {G : sG} {x1 : Int} {a3 : Nat}  (kk : sC d 62 [vO 10 a3, vI x1] M G (QI (fun r M1 G1 => sW (sC d) 60 Q 75 [vN, vN, vN, vN] (vI r :: []) M1 G1 0 0))) : sW (sC d) 60 Q 70 [vN, vI x1, vN, vO 10 a3] [] M G 0 0 := by
  refine q_aload_n 71 rfl (show sCode 60 70 = some (.aload_n 3, 1) by decide +kernel) rfl (Nat.le_of_ble_eq_true rfl) ?_
  refine q_iload_n 72 rfl (show sCode 60 71 = some (.iload_n 1, 1) by decide +kernel) rfl ?_
  refine q_forget (L' := [vN, vN, vN, vO 10 a3]) 1 rfl ?_
  refine q_forget (L' := [vN, vN, vN, vN]) 3 rfl ?_
  exact q_virtI [vI x1] 75 rfl (show sCode 60 72 = some (.invokevirtual 173, 3) by decide +kernel) (show sMR (sKo 60).1 173 = some 62 by decide +kernel) (show 62 < 1000 ∧ sStat 62 = false ∧ sIni 62 = false ∧ sKo 62 = (10, 1, 2, 0, 0) by decide +kernel) rfl (Or.inl rfl) rfl (Nat.le_of_ble_eq_true rfl) rfl rfl rfl (by decide +kernel) kk
theorem b60_75 {d : Nat} {Q : Option sV → sM → sG → Prop} {M : sM} {G : sG} {s0 : Int}  (k1 : s0 = 0 → sW (sC d) 60 Q 82 [vN, vN, vN, vN] [] M G 0 0) (k2 : s0 ≠ 0 → sW (sC d) 60 Q 78 [vN, vN, vN, vN] [] M G 0 0) : sW (sC d) 60 Q 75 [vN, vN, vN, vN] [vI s0] M G 0 0 := by
  refine q_ifeq 82 78 rfl (by decide) (show sCode 60 75 = some (.ifCond .eq 7, 3) by decide +kernel) ?_ ?_
  · intro q; exact k1 q
  · intro q; exact k2 q
theorem b60_78 {d : Nat} {Q : Option sV → sM → sG → Prop} {M : sM} {G : sG}   (kk : sW (sC d) 60 Q 83 [vN, vN, vN, vN] [vI 1] M G 0 0) : sW (sC d) 60 Q 78 [vN, vN, vN, vN] [] M G 0 0 := by
  refine q_iconst 79 rfl (show sCode 60 78 = some (.iconst 1, 1) by decide +kernel) ⟨by decide, by decide⟩ ?_
  refine q_goto 83 (by decide) (show sCode 60 79 = some (.goto 4, 3) by decide +kernel) ?_
  exact kk
theorem b60_82 {d : Nat} {Q : Option sV → sM → sG → Prop} {M : sM} {G : sG}   (kk : sW (sC d) 60 Q 83 [vN, vN, vN, vN] [vI 0] M G 0 0) : sW (sC d) 60 Q 82 [vN, vN, vN, vN] [] M G 0 0 := by
  refine q_iconst 83 rfl (show sCode 60 82 = some (.iconst 0, 1) by decide +kernel) ⟨by decide, by decide⟩ ?_
  exact kk
theorem b60_83 {d : Nat} {P : Int → sM → sG → Prop} {M : sM} {G : sG} {s0 : Int}  (kk : P s0 M G) : sW (sC d) 60 (QI P) 83 [vN, vN, vN, vN] [vI s0] M G 0 0 := by
  exact q_iret (show sCode 60 83 = some (.ireturn, 1) by decide +kernel) (by decide +kernel) (by decide +kernel) kk
theorem b60_84 {d : Nat} {Q : Option sV → sM → sG → Prop} {M : sM} {G : sG} {x1 : Int} {a3 : Nat}  (kk : sC d 63 [vO 10 a3, vI x1] M G (QI (fun r M1 G1 => sW (sC d) 60 Q 89 [vN, vN, vN, vN] (vI r :: []) M1 G1 0 0))) : sW (sC d) 60 Q 84 [vN, vI x1, vN, vO 10 a3] [] M G 0 0 := by
  refine q_aload_n 85 rfl (show sCode 60 84 = some (.aload_n 3, 1) by decide +kernel) rfl (Nat.le_of_ble_eq_true rfl) ?_
  refine q_iload_n 86 rfl (show sCode 60 85 = some (.iload_n 1, 1) by decide +kernel) rfl ?_
  refine q_forget (L' := [vN, vN, vN, vO 10 a3]) 1 rfl ?_
  refine q_forget (L' := [vN, vN, vN, vN]) 3 rfl ?_
  exact q_virtI [vI x1] 89 rfl (show sCode 60 86 = some (.invokevirtual 176, 3) by decide +kernel) (show sMR (sKo 60).1 176 = some 63 by decide +kernel) (show 63 < 1000 ∧ sStat 63 = false ∧ sIni 63 = false ∧ sKo 63 = (10, 1, 1, 0, 0) by decide +kernel) rfl (Or.inl rfl) rfl (Nat.le_of_ble_eq_true rfl) rfl rfl rfl (by decide +kernel) kk
theorem b60_89 {d : Nat} {P : Int → sM → sG → Prop} {M : sM} {G : sG} {s0 : Int}  (kk : P s0 M G) : sW (sC d) 60 (QI P) 89 [vN, vN, vN, vN] [vI s0] M G 0 0 := by
  exact q_iret (show sCode 60 89 = some (.ireturn, 1) by decide +kernel) (by decide +kernel) (by decide +kernel) kk
theorem b60_90 {d : Nat} {P : Int → sM → sG → Prop} {M : sM} {G : sG} {x1 : Int} {a3 : Nat} (h1 : 0 ≤ x1 ∧ x1 < 12) (kk : P (M (a3 + 14) x1.toNat) M G) : sW (sC d) 60 (QI P) 90 [vN, vI x1, vN, vO 10 a3] [] M G 0 0 := by
  refine q_aload_n 91 rfl (show sCode 60 90 = some (.aload_n 3, 1) by decide +kernel) rfl (Nat.le_of_ble_eq_true rfl) ?_
  refine q_getR (vA 0 (a3 + 14) 12) 94 rfl (show sCode 60 91 = some (.getfield 179, 3) by decide +kernel) (show sFR (sKo 60).1 179 = some (10, 17) by decide +kernel) (by decide +kernel) (Or.inl (Or.inl rfl)) rfl ?_
  refine q_iload_n 95 rfl (show sCode 60 94 = some (.iload_n 1, 1) by decide +kernel) rfl ?_
  refine q_iald 96 rfl (show sCode 60 95 = some (.iaload, 1) by decide +kernel) h1 ?_
  exact q_iret (show sCode 60 96 = some (.ireturn, 1) by decide +kernel) (by decide +kernel) (by decide +kernel) kk
theorem b60_97 {d : Nat} {P : Int → sM → sG → Prop} {M : sM} {G : sG} {a0 : Nat} {x1 : Int} (h1 : 0 ≤ x1 ∧ x1 < 12) (kk : P (M (a0 + 29) x1.toNat) M G) : sW (sC d) 60 (QI P) 97 [vO 11 a0, vI x1, vN, vN] [] M G 0 0 := by
  refine q_aload_n 98 rfl (show sCode 60 97 = some (.aload_n 0, 1) by decide +kernel) rfl (Nat.le_of_ble_eq_true rfl) ?_
  refine q_getR (vO 8 (a0 + 12)) 101 rfl (show sCode 60 98 = some (.getfield 32, 3) by decide +kernel) (show sFR (sKo 60).1 32 = some (11, 3) by decide +kernel) (by decide +kernel) (Or.inl (Or.inl rfl)) rfl ?_
  refine q_getR (vO 9 (a0 + 28)) 104 rfl (show sCode 60 101 = some (.getfield 182, 3) by decide +kernel) (show sFR (sKo 60).1 182 = some (8, 1) by decide +kernel) (by decide +kernel) (Or.inl (Or.inl rfl)) rfl ?_
  refine q_getR (vA 0 (a0 + 29) 12) 107 rfl (show sCode 60 104 = some (.getfield 186, 3) by decide +kernel) (show sFR (sKo 60).1 186 = some (9, 0) by decide +kernel) (by decide +kernel) (Or.inl (Or.inl rfl)) rfl ?_
  refine q_iload_n 108 rfl (show sCode 60 107 = some (.iload_n 1, 1) by decide +kernel) rfl ?_
  refine q_iald 109 rfl (show sCode 60 108 = some (.iaload, 1) by decide +kernel) h1 ?_
  exact q_iret (show sCode 60 109 = some (.ireturn, 1) by decide +kernel) (by decide +kernel) (by decide +kernel) kk
theorem b60_110 {d : Nat} {P : Int → sM → sG → Prop} {M : sM} {G : sG}   (kk : P (-2) M G) : sW (sC d) 60 (QI P) 110 [vN, vN, vN, vN] [] M G 0 0 := by
  refine q_bipush 112 rfl (show sCode 60 110 = some (.bipush (-2), 2) by decide +kernel) ⟨by decide, by decide⟩ (by decide +kernel) ?_
  exact q_iret (show sCode 60 112 = some (.ireturn, 1) by decide +kernel) (by decide +kernel) (by decide +kernel) kk
-- 61 AfterTheLast.isPerson (I)Z
theorem b61_0 {d : Nat} {Q : Option sV → sM → sG → Prop} {M : sM} {G : sG} {x0 : Int}  (k1 : x0 < 0 → sW (sC d) 61 Q 14 [vN] [] M G 0 0) (k2 : 0 ≤ x0 → sW (sC d) 61 Q 4 [vI x0] [] M G 0 0) : sW (sC d) 61 Q 0 [vI x0] [] M G 0 0 := by
  refine q_iload_n 1 rfl (show sCode 61 0 = some (.iload_n 0, 1) by decide +kernel) rfl ?_
  refine q_iflt 14 4 rfl (by decide) (show sCode 61 1 = some (.ifCond .lt 13, 3) by decide +kernel) ?_ ?_
  · intro q; refine q_forget (L' := [vN]) 0 rfl ?_; exact k1 q
  · intro q; exact k2 q
theorem b61_4 {d : Nat} {Q : Option sV → sM → sG → Prop} {M : sM} {G : sG} {x0 : Int}  (k1 : 12 ≤ x0 → sW (sC d) 61 Q 14 [vN] [] M G 0 0) (k2 : x0 < 12 → sW (sC d) 61 Q 10 [vN] [] M G 0 0) : sW (sC d) 61 Q 4 [vI x0] [] M G 0 0 := by
  refine q_iload_n 5 rfl (show sCode 61 4 = some (.iload_n 0, 1) by decide +kernel) rfl ?_
  refine q_bipush 7 rfl (show sCode 61 5 = some (.bipush 12, 2) by decide +kernel) ⟨by decide, by decide⟩ (by decide +kernel) ?_
  refine q_icmpge 14 10 rfl (by decide) (show sCode 61 7 = some (.if_icmp .ge 7, 3) by decide +kernel) ?_ ?_
  · intro q; refine q_forget (L' := [vN]) 0 rfl ?_; exact k1 q
  · intro q; refine q_forget (L' := [vN]) 0 rfl ?_; exact k2 q
theorem b61_10 {d : Nat} {Q : Option sV → sM → sG → Prop} {M : sM} {G : sG}   (kk : sW (sC d) 61 Q 15 [vN] [vI 1] M G 0 0) : sW (sC d) 61 Q 10 [vN] [] M G 0 0 := by
  refine q_iconst 11 rfl (show sCode 61 10 = some (.iconst 1, 1) by decide +kernel) ⟨by decide, by decide⟩ ?_
  refine q_goto 15 (by decide) (show sCode 61 11 = some (.goto 4, 3) by decide +kernel) ?_
  exact kk
theorem b61_14 {d : Nat} {Q : Option sV → sM → sG → Prop} {M : sM} {G : sG}   (kk : sW (sC d) 61 Q 15 [vN] [vI 0] M G 0 0) : sW (sC d) 61 Q 14 [vN] [] M G 0 0 := by
  refine q_iconst 15 rfl (show sCode 61 14 = some (.iconst 0, 1) by decide +kernel) ⟨by decide, by decide⟩ ?_
  exact kk
theorem b61_15 {d : Nat} {P : Int → sM → sG → Prop} {M : sM} {G : sG} {s0 : Int}  (h01 : s0 = 0 ∨ s0 = 1) (kk : P s0 M G) : sW (sC d) 61 (QI P) 15 [vN] [vI s0] M G 0 0 := by
  exact q_zret (show sCode 61 15 = some (.ireturn, 1) by decide +kernel) (by decide +kernel) h01 (by decide +kernel) kk
-- 64 AfterTheLast.count (I)I
theorem b64_0 {d : Nat} {Q : Option sV → sM → sG → Prop} {M : sM} {G : sG} {a0 : Nat} {x1 : Int}  (kd : x1 < 0 ∨ 13 < x1 → sW (sC d) 64 Q 161 [vN, vN, vN, vN] [] M G 0 0) (k0 : x1 = 0 → sW (sC d) 64 Q 88 [vN, vN, vO 10 (a0 + 13), vN] [] M G 0 0) (k1 : x1 = 1 → sW (sC d) 64 Q 93 [vN, vN, vO 10 (a0 + 13), vN] [] M G 0 0) (k2 : x1 = 2 → sW (sC d) 64 Q 98 [vO 11 a0, vN, vN, vN] [] M G 0 0) (k3 : x1 = 3 → sW (sC d) 64 Q 103 [vN, vN, vO 10 (a0 + 13), vN] [] M G 0 0) (k4 : x1 = 4 → sW (sC d) 64 Q 108 [vN, vN, vO 10 (a0 + 13), vN] [] M G 0 0) (k5 : x1 = 5 → sW (sC d) 64 Q 113 [vN, vN, vO 10 (a0 + 13), vN] [] M G 0 0) (k6 : x1 = 6 → sW (sC d) 64 Q 118 [vN, vN, vO 10 (a0 + 13), vN] [] M G 0 0) (k7 : x1 = 7 → sW (sC d) 64 Q 123 [vN, vN, vO 10 (a0 + 13), vN] [] M G 0 0) (k8 : x1 = 8 → sW (sC d) 64 Q 128 [vN, vN, vN, vO 9 (a0 + 28)] [] M G 0 0) (k9 : x1 = 9 → sW (sC d) 64 Q 133 [vN, vN, vN, vO 9 (a0 + 28)] [] M G 0 0) (k10 : x1 = 10 → sW (sC d) 64 Q 138 [vN, vN, vN, vO 9 (a0 + 28)] [] M G 0 0) (k11 : x1 = 11 → sW (sC d) 64 Q 143 [vN, vN, vN, vO 9 (a0 + 28)] [] M G 0 0) (k12 : x1 = 12 → sW (sC d) 64 Q 148 [vN, vN, vN, vO 9 (a0 + 28)] [] M G 0 0) (k13 : x1 = 13 → sW (sC d) 64 Q 153 [vO 11 a0, vN, vN, vN] [] M G 0 0) : sW (sC d) 64 Q 0 [vO 11 a0, vI x1, vN, vN] [] M G 0 0 := by
  refine q_aload_n 1 rfl (show sCode 64 0 = some (.aload_n 0, 1) by decide +kernel) rfl (Nat.le_of_ble_eq_true rfl) ?_
  refine q_getR (vO 8 (a0 + 12)) 4 rfl (show sCode 64 1 = some (.getfield 32, 3) by decide +kernel) (show sFR (sKo 64).1 32 = some (11, 3) by decide +kernel) (by decide +kernel) (Or.inl (Or.inl rfl)) rfl ?_
  refine q_getR (vO 10 (a0 + 13)) 7 rfl (show sCode 64 4 = some (.getfield 103, 3) by decide +kernel) (show sFR (sKo 64).1 103 = some (8, 0) by decide +kernel) (by decide +kernel) (Or.inl (Or.inl rfl)) rfl ?_
  refine q_astore_n [vO 11 a0, vI x1, vO 10 (a0 + 13), vN] 8 rfl (show sCode 64 7 = some (.astore_n 2, 1) by decide +kernel) (by first | exact ⟨Nat.le_of_ble_eq_true rfl, Or.inl (Nat.lt_of_lt_of_le (Nat.lt_succ_self _) (Nat.le_of_ble_eq_true rfl))⟩ | exact ⟨Nat.le_of_ble_eq_true rfl, Or.inr (Nat.le_of_ble_eq_true rfl)⟩) (Nat.lt_of_lt_of_le (Nat.lt_succ_self _) (Nat.le_of_ble_eq_true rfl)) rfl rfl ?_
  refine q_aload_n 9 rfl (show sCode 64 8 = some (.aload_n 0, 1) by decide +kernel) rfl (Nat.le_of_ble_eq_true rfl) ?_
  refine q_getR (vO 8 (a0 + 12)) 12 rfl (show sCode 64 9 = some (.getfield 32, 3) by decide +kernel) (show sFR (sKo 64).1 32 = some (11, 3) by decide +kernel) (by decide +kernel) (Or.inl (Or.inl rfl)) rfl ?_
  refine q_getR (vO 9 (a0 + 28)) 15 rfl (show sCode 64 12 = some (.getfield 182, 3) by decide +kernel) (show sFR (sKo 64).1 182 = some (8, 1) by decide +kernel) (by decide +kernel) (Or.inl (Or.inl rfl)) rfl ?_
  refine q_astore_n [vO 11 a0, vI x1, vO 10 (a0 + 13), vO 9 (a0 + 28)] 16 rfl (show sCode 64 15 = some (.astore_n 3, 1) by decide +kernel) (by first | exact ⟨Nat.le_of_ble_eq_true rfl, Or.inl (Nat.lt_of_lt_of_le (Nat.lt_succ_self _) (Nat.le_of_ble_eq_true rfl))⟩ | exact ⟨Nat.le_of_ble_eq_true rfl, Or.inr (Nat.le_of_ble_eq_true rfl)⟩) (Nat.lt_of_lt_of_le (Nat.lt_succ_self _) (Nat.le_of_ble_eq_true rfl)) rfl rfl ?_
  refine q_iload_n 17 rfl (show sCode 64 16 = some (.iload_n 1, 1) by decide +kernel) rfl ?_
  refine q_switch (show sCode 64 17 = some (.tableswitch 144 0 13 #[71, 76, 81, 86, 91, 96, 101, 106, 111, 116, 121, 126, 131, 136], 71) by decide +kernel) (fun q => ⟨161, by decide, ?_⟩) (fun q1 q2 => ?_)
  · refine q_forget (L' := [vN, vI x1, vO 10 (a0 + 13), vO 9 (a0 + 28)]) 0 rfl ?_; refine q_forget (L' := [vN, vN, vO 10 (a0 + 13), vO 9 (a0 + 28)]) 1 rfl ?_; refine q_forget (L' := [vN, vN, vN, vO 9 (a0 + 28)]) 2 rfl ?_; refine q_forget (L' := [vN, vN, vN, vN]) 3 rfl ?_; exact kd q
  · have q3 : x1 = 0 ∨ x1 = 1 ∨ x1 = 2 ∨ x1 = 3 ∨ x1 = 4 ∨ x1 = 5 ∨ x1 = 6 ∨ x1 = 7 ∨ x1 = 8 ∨ x1 = 9 ∨ x1 = 10 ∨ x1 = 11 ∨ x1 = 12 ∨ x1 = 13 := by omega
    rcases q3 with q | q | q | q | q | q | q | q | q | q | q | q | q | q
    · refine ⟨71, 88, by rw [q]; rfl, by decide, ?_⟩; refine q_forget (L' := [vN, vI x1, vO 10 (a0 + 13), vO 9 (a0 + 28)]) 0 rfl ?_; refine q_forget (L' := [vN, vN, vO 10 (a0 + 13), vO 9 (a0 + 28)]) 1 rfl ?_; refine q_forget (L' := [vN, vN, vO 10 (a0 + 13), vN]) 3 rfl ?_; exact k0 q
    · refine ⟨76, 93, by rw [q]; rfl, by decide, ?_⟩; refine q_forget (L' := [vN, vI x1, vO 10 (a0 + 13), vO 9 (a0 + 28)]) 0 rfl ?_; refine q_forget (L' := [vN, vN, vO 10 (a0 + 13), vO 9 (a0 + 28)]) 1 rfl ?_; refine q_forget (L' := [vN, vN, vO 10 (a0 + 13), vN]) 3 rfl ?_; exact k1 q
    · refine ⟨81, 98, by rw [q]; rfl, by decide, ?_⟩; refine q_forget (L' := [vO 11 a0, vN, vO 10 (a0 + 13), vO 9 (a0 + 28)]) 1 rfl ?_; refine q_forget (L' := [vO 11 a0, vN, vN, vO 9 (a0 + 28)]) 2 rfl ?_; refine q_forget (L' := [vO 11 a0, vN, vN, vN]) 3 rfl ?_; exact k2 q
    · refine ⟨86, 103, by rw [q]; rfl, by decide, ?_⟩; refine q_forget (L' := [vN, vI x1, vO 10 (a0 + 13), vO 9 (a0 + 28)]) 0 rfl ?_; refine q_forget (L' := [vN, vN, vO 10 (a0 + 13), vO 9 (a0 + 28)]) 1 rfl ?_; refine q_forget (L' := [vN, vN, vO 10 (a0 + 13), vN]) 3 rfl ?_; exact k3 q
    · refine ⟨91, 108, by rw [q]; rfl, by decide, ?_⟩; refine q_forget (L' := [vN, vI x1, vO 10 (a0 + 13), vO 9 (a0 + 28)]) 0 rfl ?_; refine q_forget (L' := [vN, vN, vO 10 (a0 + 13), vO 9 (a0 + 28)]) 1 rfl ?_; refine q_forget (L' := [vN, vN, vO 10 (a0 + 13), vN]) 3 rfl ?_; exact k4 q
    · refine ⟨96, 113, by rw [q]; rfl, by decide, ?_⟩; refine q_forget (L' := [vN, vI x1, vO 10 (a0 + 13), vO 9 (a0 + 28)]) 0 rfl ?_; refine q_forget (L' := [vN, vN, vO 10 (a0 + 13), vO 9 (a0 + 28)]) 1 rfl ?_; refine q_forget (L' := [vN, vN, vO 10 (a0 + 13), vN]) 3 rfl ?_; exact k5 q
    · refine ⟨101, 118, by rw [q]; rfl, by decide, ?_⟩; refine q_forget (L' := [vN, vI x1, vO 10 (a0 + 13), vO 9 (a0 + 28)]) 0 rfl ?_; refine q_forget (L' := [vN, vN, vO 10 (a0 + 13), vO 9 (a0 + 28)]) 1 rfl ?_; refine q_forget (L' := [vN, vN, vO 10 (a0 + 13), vN]) 3 rfl ?_; exact k6 q
    · refine ⟨106, 123, by rw [q]; rfl, by decide, ?_⟩; refine q_forget (L' := [vN, vI x1, vO 10 (a0 + 13), vO 9 (a0 + 28)]) 0 rfl ?_; refine q_forget (L' := [vN, vN, vO 10 (a0 + 13), vO 9 (a0 + 28)]) 1 rfl ?_; refine q_forget (L' := [vN, vN, vO 10 (a0 + 13), vN]) 3 rfl ?_; exact k7 q
    · refine ⟨111, 128, by rw [q]; rfl, by decide, ?_⟩; refine q_forget (L' := [vN, vI x1, vO 10 (a0 + 13), vO 9 (a0 + 28)]) 0 rfl ?_; refine q_forget (L' := [vN, vN, vO 10 (a0 + 13), vO 9 (a0 + 28)]) 1 rfl ?_; refine q_forget (L' := [vN, vN, vN, vO 9 (a0 + 28)]) 2 rfl ?_; exact k8 q
    · refine ⟨116, 133, by rw [q]; rfl, by decide, ?_⟩; refine q_forget (L' := [vN, vI x1, vO 10 (a0 + 13), vO 9 (a0 + 28)]) 0 rfl ?_; refine q_forget (L' := [vN, vN, vO 10 (a0 + 13), vO 9 (a0 + 28)]) 1 rfl ?_; refine q_forget (L' := [vN, vN, vN, vO 9 (a0 + 28)]) 2 rfl ?_; exact k9 q
    · refine ⟨121, 138, by rw [q]; rfl, by decide, ?_⟩; refine q_forget (L' := [vN, vI x1, vO 10 (a0 + 13), vO 9 (a0 + 28)]) 0 rfl ?_; refine q_forget (L' := [vN, vN, vO 10 (a0 + 13), vO 9 (a0 + 28)]) 1 rfl ?_; refine q_forget (L' := [vN, vN, vN, vO 9 (a0 + 28)]) 2 rfl ?_; exact k10 q
    · refine ⟨126, 143, by rw [q]; rfl, by decide, ?_⟩; refine q_forget (L' := [vN, vI x1, vO 10 (a0 + 13), vO 9 (a0 + 28)]) 0 rfl ?_; refine q_forget (L' := [vN, vN, vO 10 (a0 + 13), vO 9 (a0 + 28)]) 1 rfl ?_; refine q_forget (L' := [vN, vN, vN, vO 9 (a0 + 28)]) 2 rfl ?_; exact k11 q
    · refine ⟨131, 148, by rw [q]; rfl, by decide, ?_⟩; refine q_forget (L' := [vN, vI x1, vO 10 (a0 + 13), vO 9 (a0 + 28)]) 0 rfl ?_; refine q_forget (L' := [vN, vN, vO 10 (a0 + 13), vO 9 (a0 + 28)]) 1 rfl ?_; refine q_forget (L' := [vN, vN, vN, vO 9 (a0 + 28)]) 2 rfl ?_; exact k12 q
    · refine ⟨136, 153, by rw [q]; rfl, by decide, ?_⟩; refine q_forget (L' := [vO 11 a0, vN, vO 10 (a0 + 13), vO 9 (a0 + 28)]) 1 rfl ?_; refine q_forget (L' := [vO 11 a0, vN, vN, vO 9 (a0 + 28)]) 2 rfl ?_; refine q_forget (L' := [vO 11 a0, vN, vN, vN]) 3 rfl ?_; exact k13 q
theorem b64_88 {d : Nat} {P : Int → sM → sG → Prop} {M : sM} {G : sG} {a2 : Nat}  (kk : P (M a2 0) M G) : sW (sC d) 64 (QI P) 88 [vN, vN, vO 10 a2, vN] [] M G 0 0 := by
  refine q_aload_n 89 rfl (show sCode 64 88 = some (.aload_n 2, 1) by decide +kernel) rfl (Nat.le_of_ble_eq_true rfl) ?_
  refine q_getI 92 rfl (show sCode 64 89 = some (.getfield 110, 3) by decide +kernel) (show sFR (sKo 64).1 110 = some (10, 0) by decide +kernel) (by decide +kernel) (Or.inl (Or.inl rfl)) ?_
  exact q_iret (show sCode 64 92 = some (.ireturn, 1) by decide +kernel) (by decide +kernel) (by decide +kernel) kk
theorem b64_93 {d : Nat} {P : Int → sM → sG → Prop} {M : sM} {G : sG} {a2 : Nat}  (kk : P (M a2 6) M G) : sW (sC d) 64 (QI P) 93 [vN, vN, vO 10 a2, vN] [] M G 0 0 := by
  refine q_aload_n 94 rfl (show sCode 64 93 = some (.aload_n 2, 1) by decide +kernel) rfl (Nat.le_of_ble_eq_true rfl) ?_
  refine q_getI 97 rfl (show sCode 64 94 = some (.getfield 191, 3) by decide +kernel) (show sFR (sKo 64).1 191 = some (10, 6) by decide +kernel) (by decide +kernel) (Or.inl (Or.inl rfl)) ?_
  exact q_iret (show sCode 64 97 = some (.ireturn, 1) by decide +kernel) (by decide +kernel) (by decide +kernel) kk
theorem b64_98 {d : Nat} {P : Int → sM → sG → Prop} {M : sM} {G : sG} {a0 : Nat}  (kk : P (M a0 11) M G) : sW (sC d) 64 (QI P) 98 [vO 11 a0, vN, vN, vN] [] M G 0 0 := by
  refine q_aload_n 99 rfl (show sCode 64 98 = some (.aload_n 0, 1) by decide +kernel) rfl (Nat.le_of_ble_eq_true rfl) ?_
  refine q_getI 102 rfl (show sCode 64 99 = some (.getfield 82, 3) by decide +kernel) (show sFR (sKo 64).1 82 = some (11, 11) by decide +kernel) (by decide +kernel) (Or.inl (Or.inl rfl)) ?_
  exact q_iret (show sCode 64 102 = some (.ireturn, 1) by decide +kernel) (by decide +kernel) (by decide +kernel) kk
theorem b64_103 {d : Nat} {P : Int → sM → sG → Prop} {M : sM} {G : sG} {a2 : Nat}  (kk : P (M a2 13) M G) : sW (sC d) 64 (QI P) 103 [vN, vN, vO 10 a2, vN] [] M G 0 0 := by
  refine q_aload_n 104 rfl (show sCode 64 103 = some (.aload_n 2, 1) by decide +kernel) rfl (Nat.le_of_ble_eq_true rfl) ?_
  refine q_getI 107 rfl (show sCode 64 104 = some (.getfield 194, 3) by decide +kernel) (show sFR (sKo 64).1 194 = some (10, 13) by decide +kernel) (by decide +kernel) (Or.inl (Or.inl rfl)) ?_
  exact q_iret (show sCode 64 107 = some (.ireturn, 1) by decide +kernel) (by decide +kernel) (by decide +kernel) kk
theorem b64_108 {d : Nat} {P : Int → sM → sG → Prop} {M : sM} {G : sG} {a2 : Nat}  (kk : P (M a2 14) M G) : sW (sC d) 64 (QI P) 108 [vN, vN, vO 10 a2, vN] [] M G 0 0 := by
  refine q_aload_n 109 rfl (show sCode 64 108 = some (.aload_n 2, 1) by decide +kernel) rfl (Nat.le_of_ble_eq_true rfl) ?_
  refine q_getI 112 rfl (show sCode 64 109 = some (.getfield 197, 3) by decide +kernel) (show sFR (sKo 64).1 197 = some (10, 14) by decide +kernel) (by decide +kernel) (Or.inl (Or.inl rfl)) ?_
  exact q_iret (show sCode 64 112 = some (.ireturn, 1) by decide +kernel) (by decide +kernel) (by decide +kernel) kk
theorem b64_113 {d : Nat} {Q : Option sV → sM → sG → Prop} {M : sM} {G : sG} {a2 : Nat}  (kk : sC d 65 [vO 10 a2] M G (QI (fun r M1 G1 => sW (sC d) 64 Q 117 [vN, vN, vN, vN] (vI r :: []) M1 G1 0 0))) : sW (sC d) 64 Q 113 [vN, vN, vO 10 a2, vN] [] M G 0 0 := by
  refine q_aload_n 114 rfl (show sCode 64 113 = some (.aload_n 2, 1) by decide +kernel) rfl (Nat.le_of_ble_eq_true rfl) ?_
  refine q_forget (L' := [vN, vN, vN, vN]) 2 rfl ?_
  exact q_virtI [] 117 rfl (show sCode 64 114 = some (.invokevirtual 200, 3) by decide +kernel) (show sMR (sKo 64).1 200 = some 65 by decide +kernel) (show 65 < 1000 ∧ sStat 65 = false ∧ sIni 65 = false ∧ sKo 65 = (10, 0, 1, 0, 0) by decide +kernel) rfl (Or.inl rfl) rfl (Nat.le_of_ble_eq_true rfl) rfl rfl rfl (by decide +kernel) kk
theorem b64_117 {d : Nat} {P : Int → sM → sG → Prop} {M : sM} {G : sG} {s0 : Int}  (kk : P s0 M G) : sW (sC d) 64 (QI P) 117 [vN, vN, vN, vN] [vI s0] M G 0 0 := by
  exact q_iret (show sCode 64 117 = some (.ireturn, 1) by decide +kernel) (by decide +kernel) (by decide +kernel) kk
theorem b64_118 {d : Nat} {Q : Option sV → sM → sG → Prop} {M : sM} {G : sG} {a2 : Nat}  (kk : sC d 66 [vO 10 a2] M G (QI (fun r M1 G1 => sW (sC d) 64 Q 122 [vN, vN, vN, vN] (vI r :: []) M1 G1 0 0))) : sW (sC d) 64 Q 118 [vN, vN, vO 10 a2, vN] [] M G 0 0 := by
  refine q_aload_n 119 rfl (show sCode 64 118 = some (.aload_n 2, 1) by decide +kernel) rfl (Nat.le_of_ble_eq_true rfl) ?_
  refine q_forget (L' := [vN, vN, vN, vN]) 2 rfl ?_
  exact q_virtI [] 122 rfl (show sCode 64 119 = some (.invokevirtual 204, 3) by decide +kernel) (show sMR (sKo 64).1 204 = some 66 by decide +kernel) (show 66 < 1000 ∧ sStat 66 = false ∧ sIni 66 = false ∧ sKo 66 = (10, 0, 1, 0, 0) by decide +kernel) rfl (Or.inl rfl) rfl (Nat.le_of_ble_eq_true rfl) rfl rfl rfl (by decide +kernel) kk
theorem b64_122 {d : Nat} {P : Int → sM → sG → Prop} {M : sM} {G : sG} {s0 : Int}  (kk : P s0 M G) : sW (sC d) 64 (QI P) 122 [vN, vN, vN, vN] [vI s0] M G 0 0 := by
  exact q_iret (show sCode 64 122 = some (.ireturn, 1) by decide +kernel) (by decide +kernel) (by decide +kernel) kk
theorem b64_123 {d : Nat} {Q : Option sV → sM → sG → Prop} {M : sM} {G : sG} {a2 : Nat}  (kk : sC d 67 [vO 10 a2] M G (QI (fun r M1 G1 => sW (sC d) 64 Q 127 [vN, vN, vN, vN] (vI r :: []) M1 G1 0 0))) : sW (sC d) 64 Q 123 [vN, vN, vO 10 a2, vN] [] M G 0 0 := by
  refine q_aload_n 124 rfl (show sCode 64 123 = some (.aload_n 2, 1) by decide +kernel) rfl (Nat.le_of_ble_eq_true rfl) ?_
  refine q_forget (L' := [vN, vN, vN, vN]) 2 rfl ?_
  exact q_virtI [] 127 rfl (show sCode 64 124 = some (.invokevirtual 207, 3) by decide +kernel) (show sMR (sKo 64).1 207 = some 67 by decide +kernel) (show 67 < 1000 ∧ sStat 67 = false ∧ sIni 67 = false ∧ sKo 67 = (10, 0, 1, 0, 0) by decide +kernel) rfl (Or.inl rfl) rfl (Nat.le_of_ble_eq_true rfl) rfl rfl rfl (by decide +kernel) kk
theorem b64_127 {d : Nat} {P : Int → sM → sG → Prop} {M : sM} {G : sG} {s0 : Int}  (kk : P s0 M G) : sW (sC d) 64 (QI P) 127 [vN, vN, vN, vN] [vI s0] M G 0 0 := by
  exact q_iret (show sCode 64 127 = some (.ireturn, 1) by decide +kernel) (by decide +kernel) (by decide +kernel) kk
theorem b64_128 {d : Nat} {P : Int → sM → sG → Prop} {M : sM} {G : sG} {a3 : Nat}  (kk : P (M a3 1) M G) : sW (sC d) 64 (QI P) 128 [vN, vN, vN, vO 9 a3] [] M G 0 0 := by
  refine q_aload_n 129 rfl (show sCode 64 128 = some (.aload_n 3, 1) by decide +kernel) rfl (Nat.le_of_ble_eq_true rfl) ?_
  refine q_getI 132 rfl (show sCode 64 129 = some (.getfield 210, 3) by decide +kernel) (show sFR (sKo 64).1 210 = some (9, 1) by decide +kernel) (by decide +kernel) (Or.inl (Or.inl rfl)) ?_
  exact q_iret (show sCode 64 132 = some (.ireturn, 1) by decide +kernel) (by decide +kernel) (by decide +kernel) kk
theorem b64_133 {d : Nat} {P : Int → sM → sG → Prop} {M : sM} {G : sG} {a3 : Nat}  (kk : P (M a3 7) M G) : sW (sC d) 64 (QI P) 133 [vN, vN, vN, vO 9 a3] [] M G 0 0 := by
  refine q_aload_n 134 rfl (show sCode 64 133 = some (.aload_n 3, 1) by decide +kernel) rfl (Nat.le_of_ble_eq_true rfl) ?_
  refine q_getI 137 rfl (show sCode 64 134 = some (.getfield 213, 3) by decide +kernel) (show sFR (sKo 64).1 213 = some (9, 7) by decide +kernel) (by decide +kernel) (Or.inl (Or.inl rfl)) ?_
  exact q_iret (show sCode 64 137 = some (.ireturn, 1) by decide +kernel) (by decide +kernel) (by decide +kernel) kk
theorem b64_138 {d : Nat} {P : Int → sM → sG → Prop} {M : sM} {G : sG} {a3 : Nat}  (kk : P (M a3 9) M G) : sW (sC d) 64 (QI P) 138 [vN, vN, vN, vO 9 a3] [] M G 0 0 := by
  refine q_aload_n 139 rfl (show sCode 64 138 = some (.aload_n 3, 1) by decide +kernel) rfl (Nat.le_of_ble_eq_true rfl) ?_
  refine q_getI 142 rfl (show sCode 64 139 = some (.getfield 216, 3) by decide +kernel) (show sFR (sKo 64).1 216 = some (9, 9) by decide +kernel) (by decide +kernel) (Or.inl (Or.inl rfl)) ?_
  exact q_iret (show sCode 64 142 = some (.ireturn, 1) by decide +kernel) (by decide +kernel) (by decide +kernel) kk
theorem b64_143 {d : Nat} {P : Int → sM → sG → Prop} {M : sM} {G : sG} {a3 : Nat}  (kk : P (M a3 12) M G) : sW (sC d) 64 (QI P) 143 [vN, vN, vN, vO 9 a3] [] M G 0 0 := by
  refine q_aload_n 144 rfl (show sCode 64 143 = some (.aload_n 3, 1) by decide +kernel) rfl (Nat.le_of_ble_eq_true rfl) ?_
  refine q_getI 147 rfl (show sCode 64 144 = some (.getfield 219, 3) by decide +kernel) (show sFR (sKo 64).1 219 = some (9, 12) by decide +kernel) (by decide +kernel) (Or.inl (Or.inl rfl)) ?_
  exact q_iret (show sCode 64 147 = some (.ireturn, 1) by decide +kernel) (by decide +kernel) (by decide +kernel) kk
theorem b64_148 {d : Nat} {P : Int → sM → sG → Prop} {M : sM} {G : sG} {a3 : Nat}  (kk : P (M a3 15) M G) : sW (sC d) 64 (QI P) 148 [vN, vN, vN, vO 9 a3] [] M G 0 0 := by
  refine q_aload_n 149 rfl (show sCode 64 148 = some (.aload_n 3, 1) by decide +kernel) rfl (Nat.le_of_ble_eq_true rfl) ?_
  refine q_getI 152 rfl (show sCode 64 149 = some (.getfield 222, 3) by decide +kernel) (show sFR (sKo 64).1 222 = some (9, 15) by decide +kernel) (by decide +kernel) (Or.inl (Or.inl rfl)) ?_
  exact q_iret (show sCode 64 152 = some (.ireturn, 1) by decide +kernel) (by decide +kernel) (by decide +kernel) kk
theorem b64_153 {d : Nat} {P : Int → sM → sG → Prop} {M : sM} {G : sG} {a0 : Nat}  (kk : P (M (a0 + 2) 1) M G) : sW (sC d) 64 (QI P) 153 [vO 11 a0, vN, vN, vN] [] M G 0 0 := by
  refine q_aload_n 154 rfl (show sCode 64 153 = some (.aload_n 0, 1) by decide +kernel) rfl (Nat.le_of_ble_eq_true rfl) ?_
  refine q_getR (vO 4 (a0 + 2)) 157 rfl (show sCode 64 154 = some (.getfield 20, 3) by decide +kernel) (show sFR (sKo 64).1 20 = some (11, 0) by decide +kernel) (by decide +kernel) (Or.inl (Or.inl rfl)) rfl ?_
  refine q_getI 160 rfl (show sCode 64 157 = some (.getfield 96, 3) by decide +kernel) (show sFR (sKo 64).1 96 = some (4, 1) by decide +kernel) (by decide +kernel) (Or.inl (Or.inl rfl)) ?_
  exact q_iret (show sCode 64 160 = some (.ireturn, 1) by decide +kernel) (by decide +kernel) (by decide +kernel) kk
theorem b64_161 {d : Nat} {P : Int → sM → sG → Prop} {M : sM} {G : sG}   (kk : P (-1) M G) : sW (sC d) 64 (QI P) 161 [vN, vN, vN, vN] [] M G 0 0 := by
  refine q_iconst 162 rfl (show sCode 64 161 = some (.iconst (-1), 1) by decide +kernel) ⟨by decide, by decide⟩ ?_
  exact q_iret (show sCode 64 162 = some (.ireturn, 1) by decide +kernel) (by decide +kernel) (by decide +kernel) kk
-- 68 AfterTheLast.come (II)Z
theorem b68_0 {d : Nat} {Q : Option sV → sM → sG → Prop} {M : sM} {G : sG} {a0 : Nat} {x1 : Int} {x2 : Int}  (kk : sC d 61 [vI x1] M G (QI (fun r M1 G1 => sW (sC d) 68 Q 12 [vN, vI x1, vI x2, vO 10 (a0 + 13)] (vI r :: []) M1 G1 0 0))) : sW (sC d) 68 Q 0 [vO 11 a0, vI x1, vI x2, vN] [] M G 0 0 := by
  refine q_aload_n 1 rfl (show sCode 68 0 = some (.aload_n 0, 1) by decide +kernel) rfl (Nat.le_of_ble_eq_true rfl) ?_
  refine q_getR (vO 8 (a0 + 12)) 4 rfl (show sCode 68 1 = some (.getfield 32, 3) by decide +kernel) (show sFR (sKo 68).1 32 = some (11, 3) by decide +kernel) (by decide +kernel) (Or.inl (Or.inl rfl)) rfl ?_
  refine q_getR (vO 10 (a0 + 13)) 7 rfl (show sCode 68 4 = some (.getfield 103, 3) by decide +kernel) (show sFR (sKo 68).1 103 = some (8, 0) by decide +kernel) (by decide +kernel) (Or.inl (Or.inl rfl)) rfl ?_
  refine q_astore_n [vO 11 a0, vI x1, vI x2, vO 10 (a0 + 13)] 8 rfl (show sCode 68 7 = some (.astore_n 3, 1) by decide +kernel) (by first | exact ⟨Nat.le_of_ble_eq_true rfl, Or.inl (Nat.lt_of_lt_of_le (Nat.lt_succ_self _) (Nat.le_of_ble_eq_true rfl))⟩ | exact ⟨Nat.le_of_ble_eq_true rfl, Or.inr (Nat.le_of_ble_eq_true rfl)⟩) (Nat.lt_of_lt_of_le (Nat.lt_succ_self _) (Nat.le_of_ble_eq_true rfl)) rfl rfl ?_
  refine q_iload_n 9 rfl (show sCode 68 8 = some (.iload_n 1, 1) by decide +kernel) rfl ?_
  refine q_forget (L' := [vN, vI x1, vI x2, vO 10 (a0 + 13)]) 0 rfl ?_
  exact q_statI [vI x1] 12 rfl (show sCode 68 9 = some (.invokestatic 164, 3) by decide +kernel) (show sMR (sKo 68).1 164 = some 61 by decide +kernel) (show 61 < 1000 ∧ sStat 61 = true ∧ sKo 61 = (11, 1, 2, 0, 0) by decide +kernel) rfl rfl (Nat.le_of_ble_eq_true rfl) rfl rfl rfl (by decide +kernel) kk
theorem b68_12 {d : Nat} {Q : Option sV → sM → sG → Prop} {M : sM} {G : sG} {x1 : Int} {x2 : Int} {a3 : Nat} {s0 : Int}  (k1 : s0 = 0 → sW (sC d) 68 Q 23 [vN, vN, vN, vN] [] M G 0 0) (k2 : s0 ≠ 0 → sW (sC d) 68 Q 15 [vN, vI x1, vI x2, vO 10 a3] [] M G 0 0) : sW (sC d) 68 Q 12 [vN, vI x1, vI x2, vO 10 a3] [vI s0] M G 0 0 := by
  refine q_ifeq 23 15 rfl (by decide) (show sCode 68 12 = some (.ifCond .eq 11, 3) by decide +kernel) ?_ ?_
  · intro q; refine q_forget (L' := [vN, vN, vI x2, vO 10 a3]) 1 rfl ?_; refine q_forget (L' := [vN, vN, vN, vO 10 a3]) 2 rfl ?_; refine q_forget (L' := [vN, vN, vN, vN]) 3 rfl ?_; exact k1 q
  · intro q; exact k2 q
theorem b68_15 {d : Nat} {Q : Option sV → sM → sG → Prop} {M : sM} {G : sG} {x1 : Int} {x2 : Int} {a3 : Nat}  (kk : sC d 55 [vO 10 a3, vI x2] M G (QI (fun r M1 G1 => sW (sC d) 68 Q 20 [vN, vI x1, vI x2, vO 10 a3] (vI r :: []) M1 G1 0 0))) : sW (sC d) 68 Q 15 [vN, vI x1, vI x2, vO 10 a3] [] M G 0 0 := by
  refine q_aload_n 16 rfl (show sCode 68 15 = some (.aload_n 3, 1) by decide +kernel) rfl (Nat.le_of_ble_eq_true rfl) ?_
  refine q_iload_n 17 rfl (show sCode 68 16 = some (.iload_n 2, 1) by decide +kernel) rfl ?_
  exact q_virtI [vI x2] 20 rfl (show sCode 68 17 = some (.invokevirtual 120, 3) by decide +kernel) (show sMR (sKo 68).1 120 = some 55 by decide +kernel) (show 55 < 1000 ∧ sStat 55 = false ∧ sIni 55 = false ∧ sKo 55 = (10, 1, 2, 0, 0) by decide +kernel) rfl (Or.inl rfl) rfl (Nat.le_of_ble_eq_true rfl) rfl rfl rfl (by decide +kernel) kk
theorem b68_20 {d : Nat} {Q : Option sV → sM → sG → Prop} {M : sM} {G : sG} {x1 : Int} {x2 : Int} {a3 : Nat} {s0 : Int}  (k1 : s0 ≠ 0 → sW (sC d) 68 Q 25 [vN, vI x1, vI x2, vO 10 a3] [] M G 0 0) (k2 : s0 = 0 → sW (sC d) 68 Q 23 [vN, vN, vN, vN] [] M G 0 0) : sW (sC d) 68 Q 20 [vN, vI x1, vI x2, vO 10 a3] [vI s0] M G 0 0 := by
  refine q_ifne 25 23 rfl (by decide) (show sCode 68 20 = some (.ifCond .ne 5, 3) by decide +kernel) ?_ ?_
  · intro q; exact k1 q
  · intro q; refine q_forget (L' := [vN, vN, vI x2, vO 10 a3]) 1 rfl ?_; refine q_forget (L' := [vN, vN, vN, vO 10 a3]) 2 rfl ?_; refine q_forget (L' := [vN, vN, vN, vN]) 3 rfl ?_; exact k2 q
theorem b68_23 {d : Nat} {P : Int → sM → sG → Prop} {M : sM} {G : sG}   (kk : P 0 M G) : sW (sC d) 68 (QI P) 23 [vN, vN, vN, vN] [] M G 0 0 := by
  refine q_iconst 24 rfl (show sCode 68 23 = some (.iconst 0, 1) by decide +kernel) ⟨by decide, by decide⟩ ?_
  exact q_zret (show sCode 68 24 = some (.ireturn, 1) by decide +kernel) (by decide +kernel) (by decide) (by decide +kernel) kk
theorem b68_25 {d : Nat} {Q : Option sV → sM → sG → Prop} {M : sM} {G : sG} {x1 : Int} {x2 : Int} {a3 : Nat} (h1 : 0 ≤ x1 ∧ x1 < 12) (k1 : M (a3 + 12) x1.toNat ≠ (-1) → sW (sC d) 68 Q 43 [vN, vN, vN, vN] [] M G 0 0) (k2 : M (a3 + 12) x1.toNat = (-1) → sW (sC d) 68 Q 35 [vN, vI x1, vI x2, vO 10 a3] [] M G 0 0) : sW (sC d) 68 Q 25 [vN, vI x1, vI x2, vO 10 a3] [] M G 0 0 := by
  refine q_aload_n 26 rfl (show sCode 68 25 = some (.aload_n 3, 1) by decide +kernel) rfl (Nat.le_of_ble_eq_true rfl) ?_
  refine q_getR (vA 0 (a3 + 12) 12) 29 rfl (show sCode 68 26 = some (.getfield 167, 3) by decide +kernel) (show sFR (sKo 68).1 167 = some (10, 15) by decide +kernel) (by decide +kernel) (Or.inl (Or.inl rfl)) rfl ?_
  refine q_iload_n 30 rfl (show sCode 68 29 = some (.iload_n 1, 1) by decide +kernel) rfl ?_
  refine q_iald 31 rfl (show sCode 68 30 = some (.iaload, 1) by decide +kernel) h1 ?_
  refine q_iconst 32 rfl (show sCode 68 31 = some (.iconst (-1), 1) by decide +kernel) ⟨by decide, by decide⟩ ?_
  refine q_icmpne 43 35 rfl (by decide) (show sCode 68 32 = some (.if_icmp .ne 11, 3) by decide +kernel) ?_ ?_
  · intro q; refine q_forget (L' := [vN, vN, vI x2, vO 10 a3]) 1 rfl ?_; refine q_forget (L' := [vN, vN, vN, vO 10 a3]) 2 rfl ?_; refine q_forget (L' := [vN, vN, vN, vN]) 3 rfl ?_; exact k1 q
  · intro q; exact k2 q
theorem b68_35 {d : Nat} {Q : Option sV → sM → sG → Prop} {M : sM} {G : sG} {x1 : Int} {x2 : Int} {a3 : Nat}  (kk : sC d 69 [vO 10 a3, vI x2] M G (QI (fun r M1 G1 => sW (sC d) 68 Q 40 [vN, vI x1, vI x2, vO 10 a3] (vI r :: []) M1 G1 0 0))) : sW (sC d) 68 Q 35 [vN, vI x1, vI x2, vO 10 a3] [] M G 0 0 := by
  refine q_aload_n 36 rfl (show sCode 68 35 = some (.aload_n 3, 1) by decide +kernel) rfl (Nat.le_of_ble_eq_true rfl) ?_
  refine q_iload_n 37 rfl (show sCode 68 36 = some (.iload_n 2, 1) by decide +kernel) rfl ?_
  exact q_virtI [vI x2] 40 rfl (show sCode 68 37 = some (.invokevirtual 225, 3) by decide +kernel) (show sMR (sKo 68).1 225 = some 69 by decide +kernel) (show 69 < 1000 ∧ sStat 69 = false ∧ sIni 69 = false ∧ sKo 69 = (10, 1, 1, 0, 0) by decide +kernel) rfl (Or.inl rfl) rfl (Nat.le_of_ble_eq_true rfl) rfl rfl rfl (by decide +kernel) kk
theorem b68_40 {d : Nat} {Q : Option sV → sM → sG → Prop} {M : sM} {G : sG} {x1 : Int} {x2 : Int} {a3 : Nat} {s0 : Int}  (k1 : 0 < s0 → sW (sC d) 68 Q 45 [vN, vI x1, vI x2, vO 10 a3] [] M G 0 0) (k2 : s0 ≤ 0 → sW (sC d) 68 Q 43 [vN, vN, vN, vN] [] M G 0 0) : sW (sC d) 68 Q 40 [vN, vI x1, vI x2, vO 10 a3] [vI s0] M G 0 0 := by
  refine q_ifgt 45 43 rfl (by decide) (show sCode 68 40 = some (.ifCond .gt 5, 3) by decide +kernel) ?_ ?_
  · intro q; exact k1 q
  · intro q; refine q_forget (L' := [vN, vN, vI x2, vO 10 a3]) 1 rfl ?_; refine q_forget (L' := [vN, vN, vN, vO 10 a3]) 2 rfl ?_; refine q_forget (L' := [vN, vN, vN, vN]) 3 rfl ?_; exact k2 q
theorem b68_43 {d : Nat} {P : Int → sM → sG → Prop} {M : sM} {G : sG}   (kk : P 0 M G) : sW (sC d) 68 (QI P) 43 [vN, vN, vN, vN] [] M G 0 0 := by
  refine q_iconst 44 rfl (show sCode 68 43 = some (.iconst 0, 1) by decide +kernel) ⟨by decide, by decide⟩ ?_
  exact q_zret (show sCode 68 44 = some (.ireturn, 1) by decide +kernel) (by decide +kernel) (by decide) (by decide +kernel) kk
theorem b68_45 {d : Nat} {Q : Option sV → sM → sG → Prop} {M : sM} {G : sG} {x1 : Int} {x2 : Int} {a3 : Nat}  (kk : sC d 70 [vO 10 a3, vI x1, vI x2, vI (-1)] M G (QV (fun M1 G1 => sW (sC d) 68 Q 52 [vN, vN, vN, vN] [] M1 G1 0 0))) : sW (sC d) 68 Q 45 [vN, vI x1, vI x2, vO 10 a3] [] M G 0 0 := by
  refine q_aload_n 46 rfl (show sCode 68 45 = some (.aload_n 3, 1) by decide +kernel) rfl (Nat.le_of_ble_eq_true rfl) ?_
  refine q_iload_n 47 rfl (show sCode 68 46 = some (.iload_n 1, 1) by decide +kernel) rfl ?_
  refine q_iload_n 48 rfl (show sCode 68 47 = some (.iload_n 2, 1) by decide +kernel) rfl ?_
  refine q_iconst 49 rfl (show sCode 68 48 = some (.iconst (-1), 1) by decide +kernel) ⟨by decide, by decide⟩ ?_
  refine q_forget (L' := [vN, vN, vI x2, vO 10 a3]) 1 rfl ?_
  refine q_forget (L' := [vN, vN, vN, vO 10 a3]) 2 rfl ?_
  refine q_forget (L' := [vN, vN, vN, vN]) 3 rfl ?_
  exact q_virtV [vI x1, vI x2, vI (-1)] 52 rfl (show sCode 68 49 = some (.invokevirtual 228, 3) by decide +kernel) (show sMR (sKo 68).1 228 = some 70 by decide +kernel) (show 70 < 1000 ∧ sStat 70 = false ∧ sIni 70 = false ∧ sKo 70 = (10, 3, 0, 0, 0) by decide +kernel) rfl (Or.inl rfl) rfl (Nat.le_of_ble_eq_true rfl) rfl rfl rfl (by decide +kernel) kk
theorem b68_52 {d : Nat} {P : Int → sM → sG → Prop} {M : sM} {G : sG}   (kk : P 1 M G) : sW (sC d) 68 (QI P) 52 [vN, vN, vN, vN] [] M G 0 0 := by
  refine q_iconst 53 rfl (show sCode 68 52 = some (.iconst 1, 1) by decide +kernel) ⟨by decide, by decide⟩ ?_
  exact q_zret (show sCode 68 53 = some (.ireturn, 1) by decide +kernel) (by decide +kernel) (by decide) (by decide +kernel) kk
-- 72 AfterTheLast.go (IZ)Z
theorem b72_0 {d : Nat} {Q : Option sV → sM → sG → Prop} {M : sM} {G : sG} {a0 : Nat} {x1 : Int} {x2 : Int}  (kk : sC d 61 [vI x1] M G (QI (fun r M1 G1 => sW (sC d) 72 Q 12 [vN, vI x1, vI x2, vO 10 (a0 + 13)] (vI r :: []) M1 G1 0 0))) : sW (sC d) 72 Q 0 [vO 11 a0, vI x1, vI x2, vN] [] M G 0 0 := by
  refine q_aload_n 1 rfl (show sCode 72 0 = some (.aload_n 0, 1) by decide +kernel) rfl (Nat.le_of_ble_eq_true rfl) ?_
  refine q_getR (vO 8 (a0 + 12)) 4 rfl (show sCode 72 1 = some (.getfield 32, 3) by decide +kernel) (show sFR (sKo 72).1 32 = some (11, 3) by decide +kernel) (by decide +kernel) (Or.inl (Or.inl rfl)) rfl ?_
  refine q_getR (vO 10 (a0 + 13)) 7 rfl (show sCode 72 4 = some (.getfield 103, 3) by decide +kernel) (show sFR (sKo 72).1 103 = some (8, 0) by decide +kernel) (by decide +kernel) (Or.inl (Or.inl rfl)) rfl ?_
  refine q_astore_n [vO 11 a0, vI x1, vI x2, vO 10 (a0 + 13)] 8 rfl (show sCode 72 7 = some (.astore_n 3, 1) by decide +kernel) (by first | exact ⟨Nat.le_of_ble_eq_true rfl, Or.inl (Nat.lt_of_lt_of_le (Nat.lt_succ_self _) (Nat.le_of_ble_eq_true rfl))⟩ | exact ⟨Nat.le_of_ble_eq_true rfl, Or.inr (Nat.le_of_ble_eq_true rfl)⟩) (Nat.lt_of_lt_of_le (Nat.lt_succ_self _) (Nat.le_of_ble_eq_true rfl)) rfl rfl ?_
  refine q_iload_n 9 rfl (show sCode 72 8 = some (.iload_n 1, 1) by decide +kernel) rfl ?_
  refine q_forget (L' := [vN, vI x1, vI x2, vO 10 (a0 + 13)]) 0 rfl ?_
  exact q_statI [vI x1] 12 rfl (show sCode 72 9 = some (.invokestatic 164, 3) by decide +kernel) (show sMR (sKo 72).1 164 = some 61 by decide +kernel) (show 61 < 1000 ∧ sStat 61 = true ∧ sKo 61 = (11, 1, 2, 0, 0) by decide +kernel) rfl rfl (Nat.le_of_ble_eq_true rfl) rfl rfl rfl (by decide +kernel) kk
theorem b72_12 {d : Nat} {Q : Option sV → sM → sG → Prop} {M : sM} {G : sG} {x1 : Int} {x2 : Int} {a3 : Nat} {s0 : Int}  (k1 : s0 ≠ 0 → sW (sC d) 72 Q 17 [vN, vI x1, vI x2, vO 10 a3] [] M G 0 0) (k2 : s0 = 0 → sW (sC d) 72 Q 15 [vN, vN, vN, vN] [] M G 0 0) : sW (sC d) 72 Q 12 [vN, vI x1, vI x2, vO 10 a3] [vI s0] M G 0 0 := by
  refine q_ifne 17 15 rfl (by decide) (show sCode 72 12 = some (.ifCond .ne 5, 3) by decide +kernel) ?_ ?_
  · intro q; exact k1 q
  · intro q; refine q_forget (L' := [vN, vN, vI x2, vO 10 a3]) 1 rfl ?_; refine q_forget (L' := [vN, vN, vN, vO 10 a3]) 2 rfl ?_; refine q_forget (L' := [vN, vN, vN, vN]) 3 rfl ?_; exact k2 q
theorem b72_15 {d : Nat} {P : Int → sM → sG → Prop} {M : sM} {G : sG}   (kk : P 0 M G) : sW (sC d) 72 (QI P) 15 [vN, vN, vN, vN] [] M G 0 0 := by
  refine q_iconst 16 rfl (show sCode 72 15 = some (.iconst 0, 1) by decide +kernel) ⟨by decide, by decide⟩ ?_
  exact q_zret (show sCode 72 16 = some (.ireturn, 1) by decide +kernel) (by decide +kernel) (by decide) (by decide +kernel) kk
theorem b72_17 {d : Nat} {Q : Option sV → sM → sG → Prop} {M : sM} {G : sG} {x1 : Int} {x2 : Int} {a3 : Nat}  (k1 : x2 = 0 → sW (sC d) 72 Q 27 [vN, vI x1, vN, vO 10 a3] [] M G 0 0) (k2 : x2 ≠ 0 → sW (sC d) 72 Q 21 [vN, vI x1, vN, vO 10 a3] [] M G 0 0) : sW (sC d) 72 Q 17 [vN, vI x1, vI x2, vO 10 a3] [] M G 0 0 := by
  refine q_iload_n 18 rfl (show sCode 72 17 = some (.iload_n 2, 1) by decide +kernel) rfl ?_
  refine q_ifeq 27 21 rfl (by decide) (show sCode 72 18 = some (.ifCond .eq 9, 3) by decide +kernel) ?_ ?_
  · intro q; refine q_forget (L' := [vN, vI x1, vN, vO 10 a3]) 2 rfl ?_; exact k1 q
  · intro q; refine q_forget (L' := [vN, vI x1, vN, vO 10 a3]) 2 rfl ?_; exact k2 q
theorem b72_21 {d : Nat} {Q : Option sV → sM → sG → Prop} {M : sM} {G : sG} {x1 : Int} {a3 : Nat}  (kk : sC d 73 [vO 10 a3, vI x1] M G (QI (fun r M1 G1 => sW (sC d) 72 Q 26 [vN, vN, vN, vN] (vI r :: []) M1 G1 0 0))) : sW (sC d) 72 Q 21 [vN, vI x1, vN, vO 10 a3] [] M G 0 0 := by
  refine q_aload_n 22 rfl (show sCode 72 21 = some (.aload_n 3, 1) by decide +kernel) rfl (Nat.le_of_ble_eq_true rfl) ?_
  refine q_iload_n 23 rfl (show sCode 72 22 = some (.iload_n 1, 1) by decide +kernel) rfl ?_
  refine q_forget (L' := [vN, vN, vN, vO 10 a3]) 1 rfl ?_
  refine q_forget (L' := [vN, vN, vN, vN]) 3 rfl ?_
  exact q_virtI [vI x1] 26 rfl (show sCode 72 23 = some (.invokevirtual 232, 3) by decide +kernel) (show sMR (sKo 72).1 232 = some 73 by decide +kernel) (show 73 < 1000 ∧ sStat 73 = false ∧ sIni 73 = false ∧ sKo 73 = (10, 1, 2, 0, 0) by decide +kernel) rfl (Or.inl rfl) rfl (Nat.le_of_ble_eq_true rfl) rfl rfl rfl (by decide +kernel) kk
theorem b72_26 {d : Nat} {P : Int → sM → sG → Prop} {M : sM} {G : sG} {s0 : Int}  (h01 : s0 = 0 ∨ s0 = 1) (kk : P s0 M G) : sW (sC d) 72 (QI P) 26 [vN, vN, vN, vN] [vI s0] M G 0 0 := by
  exact q_zret (show sCode 72 26 = some (.ireturn, 1) by decide +kernel) (by decide +kernel) h01 (by decide +kernel) kk
theorem b72_27 {d : Nat} {Q : Option sV → sM → sG → Prop} {M : sM} {G : sG} {x1 : Int} {a3 : Nat}  (kk : sC d 62 [vO 10 a3, vI x1] M G (QI (fun r M1 G1 => sW (sC d) 72 Q 32 [vN, vI x1, vN, vO 10 a3] (vI r :: []) M1 G1 0 0))) : sW (sC d) 72 Q 27 [vN, vI x1, vN, vO 10 a3] [] M G 0 0 := by
  refine q_aload_n 28 rfl (show sCode 72 27 = some (.aload_n 3, 1) by decide +kernel) rfl (Nat.le_of_ble_eq_true rfl) ?_
  refine q_iload_n 29 rfl (show sCode 72 28 = some (.iload_n 1, 1) by decide +kernel) rfl ?_
  exact q_virtI [vI x1] 32 rfl (show sCode 72 29 = some (.invokevirtual 173, 3) by decide +kernel) (show sMR (sKo 72).1 173 = some 62 by decide +kernel) (show 62 < 1000 ∧ sStat 62 = false ∧ sIni 62 = false ∧ sKo 62 = (10, 1, 2, 0, 0) by decide +kernel) rfl (Or.inl rfl) rfl (Nat.le_of_ble_eq_true rfl) rfl rfl rfl (by decide +kernel) kk
theorem b72_32 {d : Nat} {Q : Option sV → sM → sG → Prop} {M : sM} {G : sG} {x1 : Int} {a3 : Nat} {s0 : Int}  (k1 : s0 ≠ 0 → sW (sC d) 72 Q 37 [vN, vI x1, vN, vO 10 a3] [] M G 0 0) (k2 : s0 = 0 → sW (sC d) 72 Q 35 [vN, vN, vN, vN] [] M G 0 0) : sW (sC d) 72 Q 32 [vN, vI x1, vN, vO 10 a3] [vI s0] M G 0 0 := by
  refine q_ifne 37 35 rfl (by decide) (show sCode 72 32 = some (.ifCond .ne 5, 3) by decide +kernel) ?_ ?_
  · intro q; exact k1 q
  · intro q; refine q_forget (L' := [vN, vN, vN, vO 10 a3]) 1 rfl ?_; refine q_forget (L' := [vN, vN, vN, vN]) 3 rfl ?_; exact k2 q
theorem b72_35 {d : Nat} {P : Int → sM → sG → Prop} {M : sM} {G : sG}   (kk : P 0 M G) : sW (sC d) 72 (QI P) 35 [vN, vN, vN, vN] [] M G 0 0 := by
  refine q_iconst 36 rfl (show sCode 72 35 = some (.iconst 0, 1) by decide +kernel) ⟨by decide, by decide⟩ ?_
  exact q_zret (show sCode 72 36 = some (.ireturn, 1) by decide +kernel) (by decide +kernel) (by decide) (by decide +kernel) kk
theorem b72_37 {d : Nat} {Q : Option sV → sM → sG → Prop} {M : sM} {G : sG} {x1 : Int} {a3 : Nat}  (kk : sC d 74 [vO 10 a3, vI x1] M G (QV (fun M1 G1 => sW (sC d) 72 Q 42 [vN, vN, vN, vN] [] M1 G1 0 0))) : sW (sC d) 72 Q 37 [vN, vI x1, vN, vO 10 a3] [] M G 0 0 := by
  refine q_aload_n 38 rfl (show sCode 72 37 = some (.aload_n 3, 1) by decide +kernel) rfl (Nat.le_of_ble_eq_true rfl) ?_
  refine q_iload_n 39 rfl (show sCode 72 38 = some (.iload_n 1, 1) by decide +kernel) rfl ?_
  refine q_forget (L' := [vN, vN, vN, vO 10 a3]) 1 rfl ?_
  refine q_forget (L' := [vN, vN, vN, vN]) 3 rfl ?_
  exact q_virtV [vI x1] 42 rfl (show sCode 72 39 = some (.invokevirtual 235, 3) by decide +kernel) (show sMR (sKo 72).1 235 = some 74 by decide +kernel) (show 74 < 1000 ∧ sStat 74 = false ∧ sIni 74 = false ∧ sKo 74 = (10, 1, 0, 0, 0) by decide +kernel) rfl (Or.inl rfl) rfl (Nat.le_of_ble_eq_true rfl) rfl rfl rfl (by decide +kernel) kk
theorem b72_42 {d : Nat} {P : Int → sM → sG → Prop} {M : sM} {G : sG}   (kk : P 1 M G) : sW (sC d) 72 (QI P) 42 [vN, vN, vN, vN] [] M G 0 0 := by
  refine q_iconst 43 rfl (show sCode 72 42 = some (.iconst 1, 1) by decide +kernel) ⟨by decide, by decide⟩ ?_
  exact q_zret (show sCode 72 43 = some (.ireturn, 1) by decide +kernel) (by decide +kernel) (by decide) (by decide +kernel) kk
-- 76 AfterTheLast.tick (II)I
theorem b76_0 {d : Nat} {Q : Option sV → sM → sG → Prop} {M : sM} {G : sG} {a0 : Nat} {x1 : Int} {x2 : Int}  (kk : sC d 77 [vO 11 a0, vI x1] M G (QR (fun r M1 G1 => sW (sC d) 76 Q 5 [vO 11 a0, vN, vI x2, vN, vN] (r :: []) M1 G1 0 0))) : sW (sC d) 76 Q 0 [vO 11 a0, vI x1, vI x2, vN, vN] [] M G 0 0 := by
  refine q_aload_n 1 rfl (show sCode 76 0 = some (.aload_n 0, 1) by decide +kernel) rfl (Nat.le_of_ble_eq_true rfl) ?_
  refine q_iload_n 2 rfl (show sCode 76 1 = some (.iload_n 1, 1) by decide +kernel) rfl ?_
  refine q_forget (L' := [vO 11 a0, vN, vI x2, vN, vN]) 1 rfl ?_
  exact q_virtR [vI x1] 5 rfl (show sCode 76 2 = some (.invokevirtual 238, 3) by decide +kernel) (show sMR (sKo 76).1 238 = some 77 by decide +kernel) (show 77 < 1000 ∧ sStat 77 = false ∧ sIni 77 = false ∧ sKo 77 = (11, 1, 4, 0, 0) by decide +kernel) rfl (Or.inl rfl) rfl (Nat.le_of_ble_eq_true rfl) rfl rfl rfl (by decide +kernel) kk
theorem b76_5 {d : Nat} {Q : Option sV → sM → sG → Prop} {M : sM} {G : sG} {a0 : Nat} {x2 : Int} {sa0 : Nat}  (k1 : sa0 = 0 → sW (sC d) 76 Q 42 [vN, vN, vN, vN, vN] [] M G 0 0) (k2 : sa0 ≠ 0 → sW (sC d) 76 Q 19 [vO 11 a0, vN, vI x2, vQ 6 sa0, vO 10 (a0 + 13)] [] M G 0 0) : sW (sC d) 76 Q 5 [vO 11 a0, vN, vI x2, vN, vN] [vQ 6 sa0] M G 0 0 := by
  refine q_astore_n [vO 11 a0, vN, vI x2, vQ 6 sa0, vN] 6 rfl (show sCode 76 5 = some (.astore_n 3, 1) by decide +kernel) (by first | exact ⟨Nat.le_of_ble_eq_true rfl, Or.inl (Nat.lt_of_lt_of_le (Nat.lt_succ_self _) (Nat.le_of_ble_eq_true rfl))⟩ | exact ⟨Nat.le_of_ble_eq_true rfl, Or.inr (Nat.le_of_ble_eq_true rfl)⟩) (Nat.lt_of_lt_of_le (Nat.lt_succ_self _) (Nat.le_of_ble_eq_true rfl)) rfl rfl ?_
  refine q_aload_n 7 rfl (show sCode 76 6 = some (.aload_n 0, 1) by decide +kernel) rfl (Nat.le_of_ble_eq_true rfl) ?_
  refine q_getR (vO 8 (a0 + 12)) 10 rfl (show sCode 76 7 = some (.getfield 32, 3) by decide +kernel) (show sFR (sKo 76).1 32 = some (11, 3) by decide +kernel) (by decide +kernel) (Or.inl (Or.inl rfl)) rfl ?_
  refine q_getR (vO 10 (a0 + 13)) 13 rfl (show sCode 76 10 = some (.getfield 103, 3) by decide +kernel) (show sFR (sKo 76).1 103 = some (8, 0) by decide +kernel) (by decide +kernel) (Or.inl (Or.inl rfl)) rfl ?_
  refine q_astore [vO 11 a0, vN, vI x2, vQ 6 sa0, vO 10 (a0 + 13)] 15 rfl (show sCode 76 13 = some (.astore 4, 2) by decide +kernel) (by first | exact ⟨Nat.le_of_ble_eq_true rfl, Or.inl (Nat.lt_of_lt_of_le (Nat.lt_succ_self _) (Nat.le_of_ble_eq_true rfl))⟩ | exact ⟨Nat.le_of_ble_eq_true rfl, Or.inr (Nat.le_of_ble_eq_true rfl)⟩) (Nat.lt_of_lt_of_le (Nat.lt_succ_self _) (Nat.le_of_ble_eq_true rfl)) rfl rfl ?_
  refine q_aload_n 16 rfl (show sCode 76 15 = some (.aload_n 3, 1) by decide +kernel) rfl (Nat.le_of_ble_eq_true rfl) ?_
  refine q_ifnull 42 19 rfl (by decide) (show sCode 76 16 = some (.ifnull 26, 3) by decide +kernel) ?_ ?_
  · intro q; refine q_forget (L' := [vN, vN, vI x2, vQ 6 sa0, vO 10 (a0 + 13)]) 0 rfl ?_; refine q_forget (L' := [vN, vN, vN, vQ 6 sa0, vO 10 (a0 + 13)]) 2 rfl ?_; refine q_forget (L' := [vN, vN, vN, vN, vO 10 (a0 + 13)]) 3 rfl ?_; refine q_forget (L' := [vN, vN, vN, vN, vN]) 4 rfl ?_; exact k1 q
  · intro q; exact k2 q
theorem b76_19 {d : Nat} {Q : Option sV → sM → sG → Prop} {M : sM} {G : sG} {a0 : Nat} {x2 : Int} {a3 : Nat} {a4 : Nat}  (k1 : x2 < 1 → sW (sC d) 76 Q 42 [vN, vN, vN, vN, vN] [] M G 0 0) (k2 : 1 ≤ x2 → sW (sC d) 76 Q 24 [vO 11 a0, vN, vI x2, vQ 6 a3, vO 10 a4] [] M G 0 0) : sW (sC d) 76 Q 19 [vO 11 a0, vN, vI x2, vQ 6 a3, vO 10 a4] [] M G 0 0 := by
  refine q_iload_n 20 rfl (show sCode 76 19 = some (.iload_n 2, 1) by decide +kernel) rfl ?_
  refine q_iconst 21 rfl (show sCode 76 20 = some (.iconst 1, 1) by decide +kernel) ⟨by decide, by decide⟩ ?_
  refine q_icmplt 42 24 rfl (by decide) (show sCode 76 21 = some (.if_icmp .lt 21, 3) by decide +kernel) ?_ ?_
  · intro q; refine q_forget (L' := [vN, vN, vI x2, vQ 6 a3, vO 10 a4]) 0 rfl ?_; refine q_forget (L' := [vN, vN, vN, vQ 6 a3, vO 10 a4]) 2 rfl ?_; refine q_forget (L' := [vN, vN, vN, vN, vO 10 a4]) 3 rfl ?_; refine q_forget (L' := [vN, vN, vN, vN, vN]) 4 rfl ?_; exact k1 q
  · intro q; exact k2 q
theorem b76_24 {d : Nat} {Q : Option sV → sM → sG → Prop} {M : sM} {G : sG} {a0 : Nat} {x2 : Int} {a3 : Nat} {a4 : Nat}  (k1 : 96 < x2 → sW (sC d) 76 Q 42 [vN, vN, vN, vN, vN] [] M G 0 0) (k2 : x2 ≤ 96 → sW (sC d) 76 Q 30 [vO 11 a0, vN, vI x2, vQ 6 a3, vO 10 a4] [] M G 0 0) : sW (sC d) 76 Q 24 [vO 11 a0, vN, vI x2, vQ 6 a3, vO 10 a4] [] M G 0 0 := by
  refine q_iload_n 25 rfl (show sCode 76 24 = some (.iload_n 2, 1) by decide +kernel) rfl ?_
  refine q_bipush 27 rfl (show sCode 76 25 = some (.bipush 96, 2) by decide +kernel) ⟨by decide, by decide⟩ (by decide +kernel) ?_
  refine q_icmpgt 42 30 rfl (by decide) (show sCode 76 27 = some (.if_icmp .gt 15, 3) by decide +kernel) ?_ ?_
  · intro q; refine q_forget (L' := [vN, vN, vI x2, vQ 6 a3, vO 10 a4]) 0 rfl ?_; refine q_forget (L' := [vN, vN, vN, vQ 6 a3, vO 10 a4]) 2 rfl ?_; refine q_forget (L' := [vN, vN, vN, vN, vO 10 a4]) 3 rfl ?_; refine q_forget (L' := [vN, vN, vN, vN, vN]) 4 rfl ?_; exact k1 q
  · intro q; exact k2 q
theorem b76_30 {d : Nat} {Q : Option sV → sM → sG → Prop} {M : sM} {G : sG} {a0 : Nat} {x2 : Int} {a3 : Nat} {a4 : Nat} (h1 : sI ((M a4 13) + x2)) (k1 : (M a4 13) + x2 ≤ 96 → sW (sC d) 76 Q 44 [vO 11 a0, vN, vI x2, vQ 6 a3, vO 10 a4] [] M G 0 0) (k2 : 96 < (M a4 13) + x2 → sW (sC d) 76 Q 42 [vN, vN, vN, vN, vN] [] M G 0 0) : sW (sC d) 76 Q 30 [vO 11 a0, vN, vI x2, vQ 6 a3, vO 10 a4] [] M G 0 0 := by
  refine q_aload 32 rfl (show sCode 76 30 = some (.aload 4, 2) by decide +kernel) rfl (Nat.le_of_ble_eq_true rfl) ?_
  refine q_getI 35 rfl (show sCode 76 32 = some (.getfield 194, 3) by decide +kernel) (show sFR (sKo 76).1 194 = some (10, 13) by decide +kernel) (by decide +kernel) (Or.inl (Or.inl rfl)) ?_
  refine q_iload_n 36 rfl (show sCode 76 35 = some (.iload_n 2, 1) by decide +kernel) rfl ?_
  refine q_iadd 37 rfl (show sCode 76 36 = some (.iadd, 1) by decide +kernel) h1 ?_
  refine q_bipush 39 rfl (show sCode 76 37 = some (.bipush 96, 2) by decide +kernel) ⟨by decide, by decide⟩ (by decide +kernel) ?_
  refine q_icmple 44 42 rfl (by decide) (show sCode 76 39 = some (.if_icmp .le 5, 3) by decide +kernel) ?_ ?_
  · intro q; exact k1 q
  · intro q; refine q_forget (L' := [vN, vN, vI x2, vQ 6 a3, vO 10 a4]) 0 rfl ?_; refine q_forget (L' := [vN, vN, vN, vQ 6 a3, vO 10 a4]) 2 rfl ?_; refine q_forget (L' := [vN, vN, vN, vN, vO 10 a4]) 3 rfl ?_; refine q_forget (L' := [vN, vN, vN, vN, vN]) 4 rfl ?_; exact k2 q
theorem b76_42 {d : Nat} {P : Int → sM → sG → Prop} {M : sM} {G : sG}   (kk : P (-1) M G) : sW (sC d) 76 (QI P) 42 [vN, vN, vN, vN, vN] [] M G 0 0 := by
  refine q_iconst 43 rfl (show sCode 76 42 = some (.iconst (-1), 1) by decide +kernel) ⟨by decide, by decide⟩ ?_
  exact q_iret (show sCode 76 43 = some (.ireturn, 1) by decide +kernel) (by decide +kernel) (by decide +kernel) kk
theorem b76_44 {d : Nat} {Q : Option sV → sM → sG → Prop} {M : sM} {G : sG} {a0 : Nat} {x2 : Int} {a3 : Nat} {a4 : Nat}  (kk : sC d 78 [vO 0 (a0 + 56), vQ 6 a3, vO 10 a4, vI x2] M G (QV (fun M1 G1 => sW (sC d) 76 Q 55 [vN, vN, vN, vN, vO 10 a4] [] M1 G1 0 0))) : sW (sC d) 76 Q 44 [vO 11 a0, vN, vI x2, vQ 6 a3, vO 10 a4] [] M G 0 0 := by
  refine q_aload_n 45 rfl (show sCode 76 44 = some (.aload_n 0, 1) by decide +kernel) rfl (Nat.le_of_ble_eq_true rfl) ?_
  refine q_getR (vO 0 (a0 + 56)) 48 rfl (show sCode 76 45 = some (.getfield 50, 3) by decide +kernel) (show sFR (sKo 76).1 50 = some (11, 6) by decide +kernel) (by decide +kernel) (Or.inl (Or.inl rfl)) rfl ?_
  refine q_aload_n 49 rfl (show sCode 76 48 = some (.aload_n 3, 1) by decide +kernel) rfl (Nat.le_of_ble_eq_true rfl) ?_
  refine q_aload 51 rfl (show sCode 76 49 = some (.aload 4, 2) by decide +kernel) rfl (Nat.le_of_ble_eq_true rfl) ?_
  refine q_iload_n 52 rfl (show sCode 76 51 = some (.iload_n 2, 1) by decide +kernel) rfl ?_
  refine q_forget (L' := [vN, vN, vI x2, vQ 6 a3, vO 10 a4]) 0 rfl ?_
  refine q_forget (L' := [vN, vN, vN, vQ 6 a3, vO 10 a4]) 2 rfl ?_
  refine q_forget (L' := [vN, vN, vN, vN, vO 10 a4]) 3 rfl ?_
  exact q_virtV [vQ 6 a3, vO 10 a4, vI x2] 55 rfl (show sCode 76 52 = some (.invokevirtual 242, 3) by decide +kernel) (show sMR (sKo 76).1 242 = some 78 by decide +kernel) (show 78 < 1000 ∧ sStat 78 = false ∧ sIni 78 = false ∧ sKo 78 = (0, 3, 0, 0, 0) by decide +kernel) rfl (Or.inl rfl) rfl (Nat.le_of_ble_eq_true rfl) rfl rfl rfl (by decide +kernel) kk
theorem b76_55 {d : Nat} {P : Int → sM → sG → Prop} {M : sM} {G : sG} {a4 : Nat}  (kk : P (M a4 13) M G) : sW (sC d) 76 (QI P) 55 [vN, vN, vN, vN, vO 10 a4] [] M G 0 0 := by
  refine q_aload 57 rfl (show sCode 76 55 = some (.aload 4, 2) by decide +kernel) rfl (Nat.le_of_ble_eq_true rfl) ?_
  refine q_getI 60 rfl (show sCode 76 57 = some (.getfield 194, 3) by decide +kernel) (show sFR (sKo 76).1 194 = some (10, 13) by decide +kernel) (by decide +kernel) (Or.inl (Or.inl rfl)) ?_
  exact q_iret (show sCode 76 60 = some (.ireturn, 1) by decide +kernel) (by decide +kernel) (by decide +kernel) kk
-- 77 AfterTheLast.ruleAt (I)LAfterTheLast$Rule;
theorem b77_0 {d : Nat} {Q : Option sV → sM → sG → Prop} {M : sM} {G : sG} {a0 : Nat} {x1 : Int}  (k1 : x1 < 0 → sW (sC d) 77 Q 21 [vN, vN] [] M G 0 0) (k2 : 0 ≤ x1 → sW (sC d) 77 Q 4 [vO 11 a0, vI x1] [] M G 0 0) : sW (sC d) 77 Q 0 [vO 11 a0, vI x1] [] M G 0 0 := by
  refine q_iload_n 1 rfl (show sCode 77 0 = some (.iload_n 1, 1) by decide +kernel) rfl ?_
  refine q_iflt 21 4 rfl (by decide) (show sCode 77 1 = some (.ifCond .lt 20, 3) by decide +kernel) ?_ ?_
  · intro q; refine q_forget (L' := [vN, vI x1]) 0 rfl ?_; refine q_forget (L' := [vN, vN]) 1 rfl ?_; exact k1 q
  · intro q; exact k2 q
theorem b77_4 {d : Nat} {Q : Option sV → sM → sG → Prop} {M : sM} {G : sG} {a0 : Nat} {x1 : Int}  (k1 : M a0 11 ≤ x1 → sW (sC d) 77 Q 21 [vN, vN] [] M G 0 0) (k2 : x1 < M a0 11 → sW (sC d) 77 Q 12 [vO 11 a0, vI x1] [] M G 0 0) : sW (sC d) 77 Q 4 [vO 11 a0, vI x1] [] M G 0 0 := by
  refine q_iload_n 5 rfl (show sCode 77 4 = some (.iload_n 1, 1) by decide +kernel) rfl ?_
  refine q_aload_n 6 rfl (show sCode 77 5 = some (.aload_n 0, 1) by decide +kernel) rfl (Nat.le_of_ble_eq_true rfl) ?_
  refine q_getI 9 rfl (show sCode 77 6 = some (.getfield 82, 3) by decide +kernel) (show sFR (sKo 77).1 82 = some (11, 11) by decide +kernel) (by decide +kernel) (Or.inl (Or.inl rfl)) ?_
  refine q_icmpge 21 12 rfl (by decide) (show sCode 77 9 = some (.if_icmp .ge 12, 3) by decide +kernel) ?_ ?_
  · intro q; refine q_forget (L' := [vN, vI x1]) 0 rfl ?_; refine q_forget (L' := [vN, vN]) 1 rfl ?_; exact k1 q
  · intro q; exact k2 q
theorem b77_12 {d : Nat} {Q : Option sV → sM → sG → Prop} {M : sM} {G : sG} {a0 : Nat} {x1 : Int} (h1 : 0 ≤ x1 ∧ x1 < 6) (kk : sW (sC d) 77 Q 22 [vN, vN] [vQ 6 ((M (a0 + 11) x1.toNat).toNat)] M G 0 0) : sW (sC d) 77 Q 12 [vO 11 a0, vI x1] [] M G 0 0 := by
  refine q_aload_n 13 rfl (show sCode 77 12 = some (.aload_n 0, 1) by decide +kernel) rfl (Nat.le_of_ble_eq_true rfl) ?_
  refine q_getR (vB 6 (a0 + 11) 6) 16 rfl (show sCode 77 13 = some (.getfield 25, 3) by decide +kernel) (show sFR (sKo 77).1 25 = some (11, 2) by decide +kernel) (by decide +kernel) (Or.inl (Or.inl rfl)) rfl ?_
  refine q_iload_n 17 rfl (show sCode 77 16 = some (.iload_n 1, 1) by decide +kernel) rfl ?_
  refine q_aald 18 rfl (show sCode 77 17 = some (.aaload, 1) by decide +kernel) h1 ?_
  refine q_goto 22 (by decide) (show sCode 77 18 = some (.goto 4, 3) by decide +kernel) ?_
  refine q_forget (L' := [vN, vI x1]) 0 rfl ?_
  refine q_forget (L' := [vN, vN]) 1 rfl ?_
  exact kk
theorem b77_21 {d : Nat} {Q : Option sV → sM → sG → Prop} {M : sM} {G : sG}   (kk : sW (sC d) 77 Q 22 [vN, vN] [vQ 6 0] M G 0 0) : sW (sC d) 77 Q 21 [vN, vN] [] M G 0 0 := by
  refine q_null 6 22 rfl (show sCode 77 21 = some (.aconst_null, 1) by decide +kernel) (by decide) ?_
  exact kk
theorem b77_22 {d : Nat} {P : sV → sM → sG → Prop} {M : sM} {G : sG} {sa0 : Nat}  (kk : P (vQ 6 sa0) M G) : sW (sC d) 77 (QR P) 22 [vN, vN] [vQ 6 sa0] M G 0 0 := by
  exact q_aret (show sCode 77 22 = some (.areturn, 1) by decide +kernel) (by decide +kernel) (Nat.le_of_ble_eq_true rfl) (Or.inl (Nat.lt_of_lt_of_le (Nat.lt_succ_self _) (Nat.le_of_ble_eq_true rfl))) (by decide +kernel) kk
-- 91 AfterTheLast.ahead (III)I
theorem b91_0 {d : Nat} {Q : Option sV → sM → sG → Prop} {M : sM} {G : sG} {a0 : Nat} {x1 : Int} {x2 : Int} {x3 : Int}  (kk : sC d 77 [vO 11 a0, vI x1] M G (QR (fun r M1 G1 => sW (sC d) 91 Q 5 [vO 11 a0, vN, vI x2, vI x3, vN, vN] (r :: []) M1 G1 0 0))) : sW (sC d) 91 Q 0 [vO 11 a0, vI x1, vI x2, vI x3, vN, vN] [] M G 0 0 := by
  refine q_aload_n 1 rfl (show sCode 91 0 = some (.aload_n 0, 1) by decide +kernel) rfl (Nat.le_of_ble_eq_true rfl) ?_
  refine q_iload_n 2 rfl (show sCode 91 1 = some (.iload_n 1, 1) by decide +kernel) rfl ?_
  refine q_forget (L' := [vO 11 a0, vN, vI x2, vI x3, vN, vN]) 1 rfl ?_
  exact q_virtR [vI x1] 5 rfl (show sCode 91 2 = some (.invokevirtual 238, 3) by decide +kernel) (show sMR (sKo 91).1 238 = some 77 by decide +kernel) (show 77 < 1000 ∧ sStat 77 = false ∧ sIni 77 = false ∧ sKo 77 = (11, 1, 4, 0, 0) by decide +kernel) rfl (Or.inl rfl) rfl (Nat.le_of_ble_eq_true rfl) rfl rfl rfl (by decide +kernel) kk
theorem b91_5 {d : Nat} {Q : Option sV → sM → sG → Prop} {M : sM} {G : sG} {a0 : Nat} {x2 : Int} {x3 : Int} {sa0 : Nat}  (k1 : sa0 = 0 → sW (sC d) 91 Q 30 [vN, vN, vN, vN, vN, vN] [] M G 0 0) (k2 : sa0 ≠ 0 → sW (sC d) 91 Q 21 [vO 11 a0, vN, vI x2, vI x3, vQ 6 sa0, vO 10 (a0 + 13)] [] M G 0 0) : sW (sC d) 91 Q 5 [vO 11 a0, vN, vI x2, vI x3, vN, vN] [vQ 6 sa0] M G 0 0 := by
  refine q_astore [vO 11 a0, vN, vI x2, vI x3, vQ 6 sa0, vN] 7 rfl (show sCode 91 5 = some (.astore 4, 2) by decide +kernel) (by first | exact ⟨Nat.le_of_ble_eq_true rfl, Or.inl (Nat.lt_of_lt_of_le (Nat.lt_succ_self _) (Nat.le_of_ble_eq_true rfl))⟩ | exact ⟨Nat.le_of_ble_eq_true rfl, Or.inr (Nat.le_of_ble_eq_true rfl)⟩) (Nat.lt_of_lt_of_le (Nat.lt_succ_self _) (Nat.le_of_ble_eq_true rfl)) rfl rfl ?_
  refine q_aload_n 8 rfl (show sCode 91 7 = some (.aload_n 0, 1) by decide +kernel) rfl (Nat.le_of_ble_eq_true rfl) ?_
  refine q_getR (vO 8 (a0 + 12)) 11 rfl (show sCode 91 8 = some (.getfield 32, 3) by decide +kernel) (show sFR (sKo 91).1 32 = some (11, 3) by decide +kernel) (by decide +kernel) (Or.inl (Or.inl rfl)) rfl ?_
  refine q_getR (vO 10 (a0 + 13)) 14 rfl (show sCode 91 11 = some (.getfield 103, 3) by decide +kernel) (show sFR (sKo 91).1 103 = some (8, 0) by decide +kernel) (by decide +kernel) (Or.inl (Or.inl rfl)) rfl ?_
  refine q_astore [vO 11 a0, vN, vI x2, vI x3, vQ 6 sa0, vO 10 (a0 + 13)] 16 rfl (show sCode 91 14 = some (.astore 5, 2) by decide +kernel) (by first | exact ⟨Nat.le_of_ble_eq_true rfl, Or.inl (Nat.lt_of_lt_of_le (Nat.lt_succ_self _) (Nat.le_of_ble_eq_true rfl))⟩ | exact ⟨Nat.le_of_ble_eq_true rfl, Or.inr (Nat.le_of_ble_eq_true rfl)⟩) (Nat.lt_of_lt_of_le (Nat.lt_succ_self _) (Nat.le_of_ble_eq_true rfl)) rfl rfl ?_
  refine q_aload 18 rfl (show sCode 91 16 = some (.aload 4, 2) by decide +kernel) rfl (Nat.le_of_ble_eq_true rfl) ?_
  refine q_ifnull 30 21 rfl (by decide) (show sCode 91 18 = some (.ifnull 12, 3) by decide +kernel) ?_ ?_
  · intro q; refine q_forget (L' := [vN, vN, vI x2, vI x3, vQ 6 sa0, vO 10 (a0 + 13)]) 0 rfl ?_; refine q_forget (L' := [vN, vN, vN, vI x3, vQ 6 sa0, vO 10 (a0 + 13)]) 2 rfl ?_; refine q_forget (L' := [vN, vN, vN, vN, vQ 6 sa0, vO 10 (a0 + 13)]) 3 rfl ?_; refine q_forget (L' := [vN, vN, vN, vN, vN, vO 10 (a0 + 13)]) 4 rfl ?_; refine q_forget (L' := [vN, vN, vN, vN, vN, vN]) 5 rfl ?_; exact k1 q
  · intro q; exact k2 q
theorem b91_21 {d : Nat} {Q : Option sV → sM → sG → Prop} {M : sM} {G : sG} {a0 : Nat} {x2 : Int} {x3 : Int} {a4 : Nat} {a5 : Nat}  (k1 : x3 < 0 → sW (sC d) 91 Q 30 [vN, vN, vN, vN, vN, vN] [] M G 0 0) (k2 : 0 ≤ x3 → sW (sC d) 91 Q 25 [vO 11 a0, vN, vI x2, vI x3, vQ 6 a4, vO 10 a5] [] M G 0 0) : sW (sC d) 91 Q 21 [vO 11 a0, vN, vI x2, vI x3, vQ 6 a4, vO 10 a5] [] M G 0 0 := by
  refine q_iload_n 22 rfl (show sCode 91 21 = some (.iload_n 3, 1) by decide +kernel) rfl ?_
  refine q_iflt 30 25 rfl (by decide) (show sCode 91 22 = some (.ifCond .lt 8, 3) by decide +kernel) ?_ ?_
  · intro q; refine q_forget (L' := [vN, vN, vI x2, vI x3, vQ 6 a4, vO 10 a5]) 0 rfl ?_; refine q_forget (L' := [vN, vN, vN, vI x3, vQ 6 a4, vO 10 a5]) 2 rfl ?_; refine q_forget (L' := [vN, vN, vN, vN, vQ 6 a4, vO 10 a5]) 3 rfl ?_; refine q_forget (L' := [vN, vN, vN, vN, vN, vO 10 a5]) 4 rfl ?_; refine q_forget (L' := [vN, vN, vN, vN, vN, vN]) 5 rfl ?_; exact k1 q
  · intro q; exact k2 q
theorem b91_25 {d : Nat} {Q : Option sV → sM → sG → Prop} {M : sM} {G : sG} {a0 : Nat} {x2 : Int} {x3 : Int} {a4 : Nat} {a5 : Nat}  (k1 : x3 ≤ 3 → sW (sC d) 91 Q 32 [vO 11 a0, vN, vI x2, vI x3, vQ 6 a4, vO 10 a5] [] M G 0 0) (k2 : 3 < x3 → sW (sC d) 91 Q 30 [vN, vN, vN, vN, vN, vN] [] M G 0 0) : sW (sC d) 91 Q 25 [vO 11 a0, vN, vI x2, vI x3, vQ 6 a4, vO 10 a5] [] M G 0 0 := by
  refine q_iload_n 26 rfl (show sCode 91 25 = some (.iload_n 3, 1) by decide +kernel) rfl ?_
  refine q_iconst 27 rfl (show sCode 91 26 = some (.iconst 3, 1) by decide +kernel) ⟨by decide, by decide⟩ ?_
  refine q_icmple 32 30 rfl (by decide) (show sCode 91 27 = some (.if_icmp .le 5, 3) by decide +kernel) ?_ ?_
  · intro q; exact k1 q
  · intro q; refine q_forget (L' := [vN, vN, vI x2, vI x3, vQ 6 a4, vO 10 a5]) 0 rfl ?_; refine q_forget (L' := [vN, vN, vN, vI x3, vQ 6 a4, vO 10 a5]) 2 rfl ?_; refine q_forget (L' := [vN, vN, vN, vN, vQ 6 a4, vO 10 a5]) 3 rfl ?_; refine q_forget (L' := [vN, vN, vN, vN, vN, vO 10 a5]) 4 rfl ?_; refine q_forget (L' := [vN, vN, vN, vN, vN, vN]) 5 rfl ?_; exact k2 q
theorem b91_30 {d : Nat} {P : Int → sM → sG → Prop} {M : sM} {G : sG}   (kk : P (-1) M G) : sW (sC d) 91 (QI P) 30 [vN, vN, vN, vN, vN, vN] [] M G 0 0 := by
  refine q_iconst 31 rfl (show sCode 91 30 = some (.iconst (-1), 1) by decide +kernel) ⟨by decide, by decide⟩ ?_
  exact q_iret (show sCode 91 31 = some (.ireturn, 1) by decide +kernel) (by decide +kernel) (by decide +kernel) kk
theorem b91_32 {d : Nat} {Q : Option sV → sM → sG → Prop} {M : sM} {G : sG} {a0 : Nat} {x2 : Int} {x3 : Int} {a4 : Nat} {a5 : Nat}  (k1 : x2 < 0 → sW (sC d) 91 Q 54 [vN, vN, vN, vN, vN, vN] [] M G 0 0) (k2 : 0 ≤ x2 → sW (sC d) 91 Q 36 [vO 11 a0, vN, vI x2, vI x3, vQ 6 a4, vO 10 a5] [] M G 0 0) : sW (sC d) 91 Q 32 [vO 11 a0, vN, vI x2, vI x3, vQ 6 a4, vO 10 a5] [] M G 0 0 := by
  refine q_iload_n 33 rfl (show sCode 91 32 = some (.iload_n 2, 1) by decide +kernel) rfl ?_
  refine q_iflt 54 36 rfl (by decide) (show sCode 91 33 = some (.ifCond .lt 21, 3) by decide +kernel) ?_ ?_
  · intro q; refine q_forget (L' := [vN, vN, vI x2, vI x3, vQ 6 a4, vO 10 a5]) 0 rfl ?_; refine q_forget (L' := [vN, vN, vN, vI x3, vQ 6 a4, vO 10 a5]) 2 rfl ?_; refine q_forget (L' := [vN, vN, vN, vN, vQ 6 a4, vO 10 a5]) 3 rfl ?_; refine q_forget (L' := [vN, vN, vN, vN, vN, vO 10 a5]) 4 rfl ?_; refine q_forget (L' := [vN, vN, vN, vN, vN, vN]) 5 rfl ?_; exact k1 q
  · intro q; exact k2 q
theorem b91_36 {d : Nat} {Q : Option sV → sM → sG → Prop} {M : sM} {G : sG} {a0 : Nat} {x2 : Int} {x3 : Int} {a4 : Nat} {a5 : Nat}  (k1 : 96 < x2 → sW (sC d) 91 Q 54 [vN, vN, vN, vN, vN, vN] [] M G 0 0) (k2 : x2 ≤ 96 → sW (sC d) 91 Q 42 [vO 11 a0, vN, vI x2, vI x3, vQ 6 a4, vO 10 a5] [] M G 0 0) : sW (sC d) 91 Q 36 [vO 11 a0, vN, vI x2, vI x3, vQ 6 a4, vO 10 a5] [] M G 0 0 := by
  refine q_iload_n 37 rfl (show sCode 91 36 = some (.iload_n 2, 1) by decide +kernel) rfl ?_
  refine q_bipush 39 rfl (show sCode 91 37 = some (.bipush 96, 2) by decide +kernel) ⟨by decide, by decide⟩ (by decide +kernel) ?_
  refine q_icmpgt 54 42 rfl (by decide) (show sCode 91 39 = some (.if_icmp .gt 15, 3) by decide +kernel) ?_ ?_
  · intro q; refine q_forget (L' := [vN, vN, vI x2, vI x3, vQ 6 a4, vO 10 a5]) 0 rfl ?_; refine q_forget (L' := [vN, vN, vN, vI x3, vQ 6 a4, vO 10 a5]) 2 rfl ?_; refine q_forget (L' := [vN, vN, vN, vN, vQ 6 a4, vO 10 a5]) 3 rfl ?_; refine q_forget (L' := [vN, vN, vN, vN, vN, vO 10 a5]) 4 rfl ?_; refine q_forget (L' := [vN, vN, vN, vN, vN, vN]) 5 rfl ?_; exact k1 q
  · intro q; exact k2 q
theorem b91_42 {d : Nat} {Q : Option sV → sM → sG → Prop} {M : sM} {G : sG} {a0 : Nat} {x2 : Int} {x3 : Int} {a4 : Nat} {a5 : Nat} (h1 : sI ((M a5 13) + x2)) (k1 : (M a5 13) + x2 ≤ 96 → sW (sC d) 91 Q 56 [vO 11 a0, vN, vI x2, vI x3, vQ 6 a4, vO 10 a5] [] M G 0 0) (k2 : 96 < (M a5 13) + x2 → sW (sC d) 91 Q 54 [vN, vN, vN, vN, vN, vN] [] M G 0 0) : sW (sC d) 91 Q 42 [vO 11 a0, vN, vI x2, vI x3, vQ 6 a4, vO 10 a5] [] M G 0 0 := by
  refine q_aload 44 rfl (show sCode 91 42 = some (.aload 5, 2) by decide +kernel) rfl (Nat.le_of_ble_eq_true rfl) ?_
  refine q_getI 47 rfl (show sCode 91 44 = some (.getfield 194, 3) by decide +kernel) (show sFR (sKo 91).1 194 = some (10, 13) by decide +kernel) (by decide +kernel) (Or.inl (Or.inl rfl)) ?_
  refine q_iload_n 48 rfl (show sCode 91 47 = some (.iload_n 2, 1) by decide +kernel) rfl ?_
  refine q_iadd 49 rfl (show sCode 91 48 = some (.iadd, 1) by decide +kernel) h1 ?_
  refine q_bipush 51 rfl (show sCode 91 49 = some (.bipush 96, 2) by decide +kernel) ⟨by decide, by decide⟩ (by decide +kernel) ?_
  refine q_icmple 56 54 rfl (by decide) (show sCode 91 51 = some (.if_icmp .le 5, 3) by decide +kernel) ?_ ?_
  · intro q; exact k1 q
  · intro q; refine q_forget (L' := [vN, vN, vI x2, vI x3, vQ 6 a4, vO 10 a5]) 0 rfl ?_; refine q_forget (L' := [vN, vN, vN, vI x3, vQ 6 a4, vO 10 a5]) 2 rfl ?_; refine q_forget (L' := [vN, vN, vN, vN, vQ 6 a4, vO 10 a5]) 3 rfl ?_; refine q_forget (L' := [vN, vN, vN, vN, vN, vO 10 a5]) 4 rfl ?_; refine q_forget (L' := [vN, vN, vN, vN, vN, vN]) 5 rfl ?_; exact k2 q
theorem b91_54 {d : Nat} {P : Int → sM → sG → Prop} {M : sM} {G : sG}   (kk : P (-1) M G) : sW (sC d) 91 (QI P) 54 [vN, vN, vN, vN, vN, vN] [] M G 0 0 := by
  refine q_iconst 55 rfl (show sCode 91 54 = some (.iconst (-1), 1) by decide +kernel) ⟨by decide, by decide⟩ ?_
  exact q_iret (show sCode 91 55 = some (.ireturn, 1) by decide +kernel) (by decide +kernel) (by decide +kernel) kk
theorem b91_56 {d : Nat} {Q : Option sV → sM → sG → Prop} {M : sM} {G : sG} {a0 : Nat} {x2 : Int} {x3 : Int} {a4 : Nat} {a5 : Nat}  (kk : sC d 34 [vO 10 (a0 + 41), vO 10 a5] M G (QV (fun M1 G1 => sW (sC d) 91 Q 65 [vO 11 a0, vN, vI x2, vI x3, vQ 6 a4, vO 10 a5] [] M1 G1 0 0))) : sW (sC d) 91 Q 56 [vO 11 a0, vN, vI x2, vI x3, vQ 6 a4, vO 10 a5] [] M G 0 0 := by
  refine q_aload_n 57 rfl (show sCode 91 56 = some (.aload_n 0, 1) by decide +kernel) rfl (Nat.le_of_ble_eq_true rfl) ?_
  refine q_getR (vO 10 (a0 + 41)) 60 rfl (show sCode 91 57 = some (.getfield 43, 3) by decide +kernel) (show sFR (sKo 91).1 43 = some (11, 5) by decide +kernel) (by decide +kernel) (Or.inl (Or.inl rfl)) rfl ?_
  refine q_aload 62 rfl (show sCode 91 60 = some (.aload 5, 2) by decide +kernel) rfl (Nat.le_of_ble_eq_true rfl) ?_
  exact q_virtV [vO 10 a5] 65 rfl (show sCode 91 62 = some (.invokevirtual 106, 3) by decide +kernel) (show sMR (sKo 91).1 106 = some 34 by decide +kernel) (show 34 < 1000 ∧ sStat 34 = false ∧ sIni 34 = false ∧ sKo 34 = (10, 1, 0, 0, 0) by decide +kernel) rfl (Or.inl rfl) rfl (Nat.le_of_ble_eq_true rfl) rfl rfl rfl (by decide +kernel) kk
theorem b91_65 {d : Nat} {Q : Option sV → sM → sG → Prop} {M : sM} {G : sG} {a0 : Nat} {x2 : Int} {x3 : Int} {a4 : Nat} {a5 : Nat}  (kk : sC d 78 [vO 0 (a0 + 56), vQ 6 a4, vO 10 (a0 + 41), vI x2] M G (QV (fun M1 G1 => sW (sC d) 91 Q 79 [vO 11 a0, vN, vN, vI x3, vN, vO 10 a5] [] M1 G1 0 0))) : sW (sC d) 91 Q 65 [vO 11 a0, vN, vI x2, vI x3, vQ 6 a4, vO 10 a5] [] M G 0 0 := by
  refine q_aload_n 66 rfl (show sCode 91 65 = some (.aload_n 0, 1) by decide +kernel) rfl (Nat.le_of_ble_eq_true rfl) ?_
  refine q_getR (vO 0 (a0 + 56)) 69 rfl (show sCode 91 66 = some (.getfield 50, 3) by decide +kernel) (show sFR (sKo 91).1 50 = some (11, 6) by decide +kernel) (by decide +kernel) (Or.inl (Or.inl rfl)) rfl ?_
  refine q_aload 71 rfl (show sCode 91 69 = some (.aload 4, 2) by decide +kernel) rfl (Nat.le_of_ble_eq_true rfl) ?_
  refine q_aload_n 72 rfl (show sCode 91 71 = some (.aload_n 0, 1) by decide +kernel) rfl (Nat.le_of_ble_eq_true rfl) ?_
  refine q_getR (vO 10 (a0 + 41)) 75 rfl (show sCode 91 72 = some (.getfield 43, 3) by decide +kernel) (show sFR (sKo 91).1 43 = some (11, 5) by decide +kernel) (by decide +kernel) (Or.inl (Or.inl rfl)) rfl ?_
  refine q_iload_n 76 rfl (show sCode 91 75 = some (.iload_n 2, 1) by decide +kernel) rfl ?_
  refine q_forget (L' := [vO 11 a0, vN, vN, vI x3, vQ 6 a4, vO 10 a5]) 2 rfl ?_
  refine q_forget (L' := [vO 11 a0, vN, vN, vI x3, vN, vO 10 a5]) 4 rfl ?_
  exact q_virtV [vQ 6 a4, vO 10 (a0 + 41), vI x2] 79 rfl (show sCode 91 76 = some (.invokevirtual 242, 3) by decide +kernel) (show sMR (sKo 91).1 242 = some 78 by decide +kernel) (show 78 < 1000 ∧ sStat 78 = false ∧ sIni 78 = false ∧ sKo 78 = (0, 3, 0, 0, 0) by decide +kernel) rfl (Or.inl rfl) rfl (Nat.le_of_ble_eq_true rfl) rfl rfl rfl (by decide +kernel) kk
theorem b91_79 {d : Nat} {Q : Option sV → sM → sG → Prop} {M : sM} {G : sG} {a0 : Nat} {x3 : Int} {a5 : Nat}  (kd : x3 < 0 ∨ 2 < x3 → sW (sC d) 91 Q 138 [vO 11 a0, vN, vN, vN, vN, vN] [] M G 0 0) (k0 : x3 = 0 → sW (sC d) 91 Q 108 [vO 11 a0, vN, vN, vN, vN, vN] [] M G 0 0) (k1 : x3 = 1 → sW (sC d) 91 Q 116 [vO 11 a0, vN, vN, vN, vN, vO 10 a5] [] M G 0 0) (k2 : x3 = 2 → sW (sC d) 91 Q 130 [vO 11 a0, vN, vN, vN, vN, vN] [] M G 0 0) : sW (sC d) 91 Q 79 [vO 11 a0, vN, vN, vI x3, vN, vO 10 a5] [] M G 0 0 := by
  refine q_iload_n 80 rfl (show sCode 91 79 = some (.iload_n 3, 1) by decide +kernel) rfl ?_
  refine q_switch (show sCode 91 80 = some (.tableswitch 58 0 2 #[28, 36, 50], 28) by decide +kernel) (fun q => ⟨138, by decide, ?_⟩) (fun q1 q2 => ?_)
  · refine q_forget (L' := [vO 11 a0, vN, vN, vN, vN, vO 10 a5]) 3 rfl ?_; refine q_forget (L' := [vO 11 a0, vN, vN, vN, vN, vN]) 5 rfl ?_; exact kd q
  · have q3 : x3 = 0 ∨ x3 = 1 ∨ x3 = 2 := by omega
    rcases q3 with q | q | q
    · refine ⟨28, 108, by rw [q]; rfl, by decide, ?_⟩; refine q_forget (L' := [vO 11 a0, vN, vN, vN, vN, vO 10 a5]) 3 rfl ?_; refine q_forget (L' := [vO 11 a0, vN, vN, vN, vN, vN]) 5 rfl ?_; exact k0 q
    · refine ⟨36, 116, by rw [q]; rfl, by decide, ?_⟩; refine q_forget (L' := [vO 11 a0, vN, vN, vN, vN, vO 10 a5]) 3 rfl ?_; exact k1 q
    · refine ⟨50, 130, by rw [q]; rfl, by decide, ?_⟩; refine q_forget (L' := [vO 11 a0, vN, vN, vN, vN, vO 10 a5]) 3 rfl ?_; refine q_forget (L' := [vO 11 a0, vN, vN, vN, vN, vN]) 5 rfl ?_; exact k2 q
theorem b91_108 {d : Nat} {Q : Option sV → sM → sG → Prop} {M : sM} {G : sG} {a0 : Nat}  (kk : sC d 67 [vO 10 (a0 + 41)] M G (QI (fun r M1 G1 => sW (sC d) 91 Q 115 [vN, vN, vN, vN, vN, vN] (vI r :: []) M1 G1 0 0))) : sW (sC d) 91 Q 108 [vO 11 a0, vN, vN, vN, vN, vN] [] M G 0 0 := by
  refine q_aload_n 109 rfl (show sCode 91 108 = some (.aload_n 0, 1) by decide +kernel) rfl (Nat.le_of_ble_eq_true rfl) ?_
  refine q_getR (vO 10 (a0 + 41)) 112 rfl (show sCode 91 109 = some (.getfield 43, 3) by decide +kernel) (show sFR (sKo 91).1 43 = some (11, 5) by decide +kernel) (by decide +kernel) (Or.inl (Or.inl rfl)) rfl ?_
  refine q_forget (L' := [vN, vN, vN, vN, vN, vN]) 0 rfl ?_
  exact q_virtI [] 115 rfl (show sCode 91 112 = some (.invokevirtual 207, 3) by decide +kernel) (show sMR (sKo 91).1 207 = some 67 by decide +kernel) (show 67 < 1000 ∧ sStat 67 = false ∧ sIni 67 = false ∧ sKo 67 = (10, 0, 1, 0, 0) by decide +kernel) rfl (Or.inl rfl) rfl (Nat.le_of_ble_eq_true rfl) rfl rfl rfl (by decide +kernel) kk
theorem b91_115 {d : Nat} {P : Int → sM → sG → Prop} {M : sM} {G : sG} {s0 : Int}  (kk : P s0 M G) : sW (sC d) 91 (QI P) 115 [vN, vN, vN, vN, vN, vN] [vI s0] M G 0 0 := by
  exact q_iret (show sCode 91 115 = some (.ireturn, 1) by decide +kernel) (by decide +kernel) (by decide +kernel) kk
theorem b91_116 {d : Nat} {P : Int → sM → sG → Prop} {M : sM} {G : sG} {a0 : Nat} {a5 : Nat} (h1 : sI ((M (a0 + 41) 14) - (M a5 14))) (kk : P ((M (a0 + 41) 14) - (M a5 14)) M G) : sW (sC d) 91 (QI P) 116 [vO 11 a0, vN, vN, vN, vN, vO 10 a5] [] M G 0 0 := by
  refine q_aload_n 117 rfl (show sCode 91 116 = some (.aload_n 0, 1) by decide +kernel) rfl (Nat.le_of_ble_eq_true rfl) ?_
  refine q_getR (vO 10 (a0 + 41)) 120 rfl (show sCode 91 117 = some (.getfield 43, 3) by decide +kernel) (show sFR (sKo 91).1 43 = some (11, 5) by decide +kernel) (by decide +kernel) (Or.inl (Or.inl rfl)) rfl ?_
  refine q_getI 123 rfl (show sCode 91 120 = some (.getfield 197, 3) by decide +kernel) (show sFR (sKo 91).1 197 = some (10, 14) by decide +kernel) (by decide +kernel) (Or.inl (Or.inl rfl)) ?_
  refine q_aload 125 rfl (show sCode 91 123 = some (.aload 5, 2) by decide +kernel) rfl (Nat.le_of_ble_eq_true rfl) ?_
  refine q_getI 128 rfl (show sCode 91 125 = some (.getfield 197, 3) by decide +kernel) (show sFR (sKo 91).1 197 = some (10, 14) by decide +kernel) (by decide +kernel) (Or.inl (Or.inl rfl)) ?_
  refine q_isub 129 rfl (show sCode 91 128 = some (.isub, 1) by decide +kernel) h1 ?_
  exact q_iret (show sCode 91 129 = some (.ireturn, 1) by decide +kernel) (by decide +kernel) (by decide +kernel) kk
theorem b91_130 {d : Nat} {Q : Option sV → sM → sG → Prop} {M : sM} {G : sG} {a0 : Nat}  (kk : sC d 65 [vO 10 (a0 + 41)] M G (QI (fun r M1 G1 => sW (sC d) 91 Q 137 [vN, vN, vN, vN, vN, vN] (vI r :: []) M1 G1 0 0))) : sW (sC d) 91 Q 130 [vO 11 a0, vN, vN, vN, vN, vN] [] M G 0 0 := by
  refine q_aload_n 131 rfl (show sCode 91 130 = some (.aload_n 0, 1) by decide +kernel) rfl (Nat.le_of_ble_eq_true rfl) ?_
  refine q_getR (vO 10 (a0 + 41)) 134 rfl (show sCode 91 131 = some (.getfield 43, 3) by decide +kernel) (show sFR (sKo 91).1 43 = some (11, 5) by decide +kernel) (by decide +kernel) (Or.inl (Or.inl rfl)) rfl ?_
  refine q_forget (L' := [vN, vN, vN, vN, vN, vN]) 0 rfl ?_
  exact q_virtI [] 137 rfl (show sCode 91 134 = some (.invokevirtual 200, 3) by decide +kernel) (show sMR (sKo 91).1 200 = some 65 by decide +kernel) (show 65 < 1000 ∧ sStat 65 = false ∧ sIni 65 = false ∧ sKo 65 = (10, 0, 1, 0, 0) by decide +kernel) rfl (Or.inl rfl) rfl (Nat.le_of_ble_eq_true rfl) rfl rfl rfl (by decide +kernel) kk
theorem b91_137 {d : Nat} {P : Int → sM → sG → Prop} {M : sM} {G : sG} {s0 : Int}  (kk : P s0 M G) : sW (sC d) 91 (QI P) 137 [vN, vN, vN, vN, vN, vN] [vI s0] M G 0 0 := by
  exact q_iret (show sCode 91 137 = some (.ireturn, 1) by decide +kernel) (by decide +kernel) (by decide +kernel) kk
theorem b91_138 {d : Nat} {Q : Option sV → sM → sG → Prop} {M : sM} {G : sG} {a0 : Nat}  (kk : sC d 92 [vO 10 (a0 + 41)] M G (QI (fun r M1 G1 => sW (sC d) 91 Q 145 [vN, vN, vN, vN, vN, vN] (vI r :: []) M1 G1 0 0))) : sW (sC d) 91 Q 138 [vO 11 a0, vN, vN, vN, vN, vN] [] M G 0 0 := by
  refine q_aload_n 139 rfl (show sCode 91 138 = some (.aload_n 0, 1) by decide +kernel) rfl (Nat.le_of_ble_eq_true rfl) ?_
  refine q_getR (vO 10 (a0 + 41)) 142 rfl (show sCode 91 139 = some (.getfield 43, 3) by decide +kernel) (show sFR (sKo 91).1 43 = some (11, 5) by decide +kernel) (by decide +kernel) (Or.inl (Or.inl rfl)) rfl ?_
  refine q_forget (L' := [vN, vN, vN, vN, vN, vN]) 0 rfl ?_
  exact q_virtI [] 145 rfl (show sCode 91 142 = some (.invokevirtual 246, 3) by decide +kernel) (show sMR (sKo 91).1 246 = some 92 by decide +kernel) (show 92 < 1000 ∧ sStat 92 = false ∧ sIni 92 = false ∧ sKo 92 = (10, 0, 1, 0, 0) by decide +kernel) rfl (Or.inl rfl) rfl (Nat.le_of_ble_eq_true rfl) rfl rfl rfl (by decide +kernel) kk
theorem b91_145 {d : Nat} {P : Int → sM → sG → Prop} {M : sM} {G : sG} {s0 : Int}  (kk : P s0 M G) : sW (sC d) 91 (QI P) 145 [vN, vN, vN, vN, vN, vN] [vI s0] M G 0 0 := by
  exact q_iret (show sCode 91 145 = some (.ireturn, 1) by decide +kernel) (by decide +kernel) (by decide +kernel) kk
-- 93 AfterTheLast.bestRule ()I
theorem b93_0 {d : Nat} {Q : Option sV → sM → sG → Prop} {M : sM} {G : sG} {a0 : Nat}  (kk : sW (sC d) 93 Q 10 [vO 11 a0, vI (-2), vI 0, vI 0, vI 0, vN, vN] [] M G 0 0) : sW (sC d) 93 Q 0 [vO 11 a0, vN, vN, vN, vN, vN, vN] [] M G 0 0 := by
  refine q_bipush 2 rfl (show sCode 93 0 = some (.bipush (-2), 2) by decide +kernel) ⟨by decide, by decide⟩ (by decide +kernel) ?_
  refine q_istore_n [vO 11 a0, vI (-2), vN, vN, vN, vN, vN] 3 rfl (show sCode 93 2 = some (.istore_n 1, 1) by decide +kernel) (Nat.lt_of_lt_of_le (Nat.lt_succ_self _) (Nat.le_of_ble_eq_true rfl)) rfl rfl ?_
  refine q_iconst 4 rfl (show sCode 93 3 = some (.iconst 0, 1) by decide +kernel) ⟨by decide, by decide⟩ ?_
  refine q_istore_n [vO 11 a0, vI (-2), vI 0, vN, vN, vN, vN] 5 rfl (show sCode 93 4 = some (.istore_n 2, 1) by decide +kernel) (Nat.lt_of_lt_of_le (Nat.lt_succ_self _) (Nat.le_of_ble_eq_true rfl)) rfl rfl ?_
  refine q_iconst 6 rfl (show sCode 93 5 = some (.iconst 0, 1) by decide +kernel) ⟨by decide, by decide⟩ ?_
  refine q_istore_n [vO 11 a0, vI (-2), vI 0, vI 0, vN, vN, vN] 7 rfl (show sCode 93 6 = some (.istore_n 3, 1) by decide +kernel) (Nat.lt_of_lt_of_le (Nat.lt_succ_self _) (Nat.le_of_ble_eq_true rfl)) rfl rfl ?_
  refine q_iconst 8 rfl (show sCode 93 7 = some (.iconst 0, 1) by decide +kernel) ⟨by decide, by decide⟩ ?_
  refine q_istore [vO 11 a0, vI (-2), vI 0, vI 0, vI 0, vN, vN] 10 rfl (show sCode 93 8 = some (.istore 4, 2) by decide +kernel) (Nat.lt_of_lt_of_le (Nat.lt_succ_self _) (Nat.le_of_ble_eq_true rfl)) rfl rfl ?_
  exact kk
theorem b93_10 {d : Nat} {Q : Option sV → sM → sG → Prop} {M : sM} {G : sG} {a0 : Nat} {x1 : Int} {x2 : Int} {x3 : Int} {x4 : Int}  (k1 : M a0 11 ≤ x4 → sW (sC d) 93 Q 115 [vN, vI x1, vN, vN, vN, vN, vN] [] M G 0 0) (k2 : x4 < M a0 11 → sW (sC d) 93 Q 19 [vO 11 a0, vI x1, vI x2, vI x3, vI x4, vN, vN] [] M G 0 0) : sW (sC d) 93 Q 10 [vO 11 a0, vI x1, vI x2, vI x3, vI x4, vN, vN] [] M G 0 0 := by
  refine q_iload 12 rfl (show sCode 93 10 = some (.iload 4, 2) by decide +kernel) rfl ?_
  refine q_aload_n 13 rfl (show sCode 93 12 = some (.aload_n 0, 1) by decide +kernel) rfl (Nat.le_of_ble_eq_true rfl) ?_
  refine q_getI 16 rfl (show sCode 93 13 = some (.getfield 82, 3) by decide +kernel) (show sFR (sKo 93).1 82 = some (11, 11) by decide +kernel) (by decide +kernel) (Or.inl (Or.inl rfl)) ?_
  refine q_icmpge 115 19 rfl (by decide) (show sCode 93 16 = some (.if_icmp .ge 99, 3) by decide +kernel) ?_ ?_
  · intro q; refine q_forget (L' := [vN, vI x1, vI x2, vI x3, vI x4, vN, vN]) 0 rfl ?_; refine q_forget (L' := [vN, vI x1, vN, vI x3, vI x4, vN, vN]) 2 rfl ?_; refine q_forget (L' := [vN, vI x1, vN, vN, vI x4, vN, vN]) 3 rfl ?_; refine q_forget (L' := [vN, vI x1, vN, vN, vN, vN, vN]) 4 rfl ?_; exact k1 q
  · intro q; exact k2 q
theorem b93_19 {d : Nat} {Q : Option sV → sM → sG → Prop} {M : sM} {G : sG} {a0 : Nat} {x1 : Int} {x2 : Int} {x3 : Int} {x4 : Int}  (kk : sC d 34 [vO 10 (a0 + 41), vO 10 (a0 + 13)] M G (QV (fun M1 G1 => sW (sC d) 93 Q 33 [vO 11 a0, vI x1, vI x2, vI x3, vI x4, vN, vN] [] M1 G1 0 0))) : sW (sC d) 93 Q 19 [vO 11 a0, vI x1, vI x2, vI x3, vI x4, vN, vN] [] M G 0 0 := by
  refine q_aload_n 20 rfl (show sCode 93 19 = some (.aload_n 0, 1) by decide +kernel) rfl (Nat.le_of_ble_eq_true rfl) ?_
  refine q_getR (vO 10 (a0 + 41)) 23 rfl (show sCode 93 20 = some (.getfield 43, 3) by decide +kernel) (show sFR (sKo 93).1 43 = some (11, 5) by decide +kernel) (by decide +kernel) (Or.inl (Or.inl rfl)) rfl ?_
  refine q_aload_n 24 rfl (show sCode 93 23 = some (.aload_n 0, 1) by decide +kernel) rfl (Nat.le_of_ble_eq_true rfl) ?_
  refine q_getR (vO 8 (a0 + 12)) 27 rfl (show sCode 93 24 = some (.getfield 32, 3) by decide +kernel) (show sFR (sKo 93).1 32 = some (11, 3) by decide +kernel) (by decide +kernel) (Or.inl (Or.inl rfl)) rfl ?_
  refine q_getR (vO 10 (a0 + 13)) 30 rfl (show sCode 93 27 = some (.getfield 103, 3) by decide +kernel) (show sFR (sKo 93).1 103 = some (8, 0) by decide +kernel) (by decide +kernel) (Or.inl (Or.inl rfl)) rfl ?_
  exact q_virtV [vO 10 (a0 + 13)] 33 rfl (show sCode 93 30 = some (.invokevirtual 106, 3) by decide +kernel) (show sMR (sKo 93).1 106 = some 34 by decide +kernel) (show 34 < 1000 ∧ sStat 34 = false ∧ sIni 34 = false ∧ sKo 34 = (10, 1, 0, 0, 0) by decide +kernel) rfl (Or.inl rfl) rfl (Nat.le_of_ble_eq_true rfl) rfl rfl rfl (by decide +kernel) kk
theorem b93_33 {d : Nat} {Q : Option sV → sM → sG → Prop} {M : sM} {G : sG} {a0 : Nat} {x1 : Int} {x2 : Int} {x3 : Int} {x4 : Int}  (kk : sC d 77 [vO 11 a0, vI x4] M G (QR (fun r M1 G1 => sW (sC d) 93 Q 43 [vO 11 a0, vI x1, vI x2, vI x3, vI x4, vN, vN] (r :: [vO 0 (a0 + 56)]) M1 G1 0 0))) : sW (sC d) 93 Q 33 [vO 11 a0, vI x1, vI x2, vI x3, vI x4, vN, vN] [] M G 0 0 := by
  refine q_aload_n 34 rfl (show sCode 93 33 = some (.aload_n 0, 1) by decide +kernel) rfl (Nat.le_of_ble_eq_true rfl) ?_
  refine q_getR (vO 0 (a0 + 56)) 37 rfl (show sCode 93 34 = some (.getfield 50, 3) by decide +kernel) (show sFR (sKo 93).1 50 = some (11, 6) by decide +kernel) (by decide +kernel) (Or.inl (Or.inl rfl)) rfl ?_
  refine q_aload_n 38 rfl (show sCode 93 37 = some (.aload_n 0, 1) by decide +kernel) rfl (Nat.le_of_ble_eq_true rfl) ?_
  refine q_iload 40 rfl (show sCode 93 38 = some (.iload 4, 2) by decide +kernel) rfl ?_
  exact q_virtR [vI x4] 43 rfl (show sCode 93 40 = some (.invokevirtual 238, 3) by decide +kernel) (show sMR (sKo 93).1 238 = some 77 by decide +kernel) (show 77 < 1000 ∧ sStat 77 = false ∧ sIni 77 = false ∧ sKo 77 = (11, 1, 4, 0, 0) by decide +kernel) rfl (Or.inl rfl) rfl (Nat.le_of_ble_eq_true rfl) rfl rfl rfl (by decide +kernel) kk
theorem b93_43 {d : Nat} {Q : Option sV → sM → sG → Prop} {M : sM} {G : sG} {a0 : Nat} {x1 : Int} {x2 : Int} {x3 : Int} {x4 : Int} {sa0 : Nat} {sa1 : Nat} (h1 : sI (96 - (M (a0 + 41) 13))) (kk : sC d 78 [vO 0 sa1, vQ 6 sa0, vO 10 (a0 + 41), vI (96 - (M (a0 + 41) 13))] M G (QV (fun M1 G1 => sW (sC d) 93 Q 60 [vO 11 a0, vI x1, vI x2, vI x3, vI x4, vN, vN] [] M1 G1 0 0))) : sW (sC d) 93 Q 43 [vO 11 a0, vI x1, vI x2, vI x3, vI x4, vN, vN] [vQ 6 sa0, vO 0 sa1] M G 0 0 := by
  refine q_aload_n 44 rfl (show sCode 93 43 = some (.aload_n 0, 1) by decide +kernel) rfl (Nat.le_of_ble_eq_true rfl) ?_
  refine q_getR (vO 10 (a0 + 41)) 47 rfl (show sCode 93 44 = some (.getfield 43, 3) by decide +kernel) (show sFR (sKo 93).1 43 = some (11, 5) by decide +kernel) (by decide +kernel) (Or.inl (Or.inl rfl)) rfl ?_
  refine q_bipush 49 rfl (show sCode 93 47 = some (.bipush 96, 2) by decide +kernel) ⟨by decide, by decide⟩ (by decide +kernel) ?_
  refine q_aload_n 50 rfl (show sCode 93 49 = some (.aload_n 0, 1) by decide +kernel) rfl (Nat.le_of_ble_eq_true rfl) ?_
  refine q_getR (vO 10 (a0 + 41)) 53 rfl (show sCode 93 50 = some (.getfield 43, 3) by decide +kernel) (show sFR (sKo 93).1 43 = some (11, 5) by decide +kernel) (by decide +kernel) (Or.inl (Or.inl rfl)) rfl ?_
  refine q_getI 56 rfl (show sCode 93 53 = some (.getfield 194, 3) by decide +kernel) (show sFR (sKo 93).1 194 = some (10, 13) by decide +kernel) (by decide +kernel) (Or.inl (Or.inl rfl)) ?_
  refine q_isub 57 rfl (show sCode 93 56 = some (.isub, 1) by decide +kernel) h1 ?_
  exact q_virtV [vQ 6 sa0, vO 10 (a0 + 41), vI (96 - (M (a0 + 41) 13))] 60 rfl (show sCode 93 57 = some (.invokevirtual 242, 3) by decide +kernel) (show sMR (sKo 93).1 242 = some 78 by decide +kernel) (show 78 < 1000 ∧ sStat 78 = false ∧ sIni 78 = false ∧ sKo 78 = (0, 3, 0, 0, 0) by decide +kernel) rfl (Or.inl rfl) rfl (Nat.le_of_ble_eq_true rfl) rfl rfl rfl (by decide +kernel) kk
theorem b93_60 {d : Nat} {Q : Option sV → sM → sG → Prop} {M : sM} {G : sG} {a0 : Nat} {x1 : Int} {x2 : Int} {x3 : Int} {x4 : Int}  (kk : sC d 65 [vO 10 (a0 + 41)] M G (QI (fun r M1 G1 => sW (sC d) 93 Q 76 [vO 11 a0, vI x1, vI x2, vI x3, vI x4, vI (M (a0 + 41) 14), vN] (vI r :: []) M1 G1 0 0))) : sW (sC d) 93 Q 60 [vO 11 a0, vI x1, vI x2, vI x3, vI x4, vN, vN] [] M G 0 0 := by
  refine q_aload_n 61 rfl (show sCode 93 60 = some (.aload_n 0, 1) by decide +kernel) rfl (Nat.le_of_ble_eq_true rfl) ?_
  refine q_getR (vO 10 (a0 + 41)) 64 rfl (show sCode 93 61 = some (.getfield 43, 3) by decide +kernel) (show sFR (sKo 93).1 43 = some (11, 5) by decide +kernel) (by decide +kernel) (Or.inl (Or.inl rfl)) rfl ?_
  refine q_getI 67 rfl (show sCode 93 64 = some (.getfield 197, 3) by decide +kernel) (show sFR (sKo 93).1 197 = some (10, 14) by decide +kernel) (by decide +kernel) (Or.inl (Or.inl rfl)) ?_
  refine q_istore [vO 11 a0, vI x1, vI x2, vI x3, vI x4, vI (M (a0 + 41) 14), vN] 69 rfl (show sCode 93 67 = some (.istore 5, 2) by decide +kernel) (Nat.lt_of_lt_of_le (Nat.lt_succ_self _) (Nat.le_of_ble_eq_true rfl)) rfl rfl ?_
  refine q_aload_n 70 rfl (show sCode 93 69 = some (.aload_n 0, 1) by decide +kernel) rfl (Nat.le_of_ble_eq_true rfl) ?_
  refine q_getR (vO 10 (a0 + 41)) 73 rfl (show sCode 93 70 = some (.getfield 43, 3) by decide +kernel) (show sFR (sKo 93).1 43 = some (11, 5) by decide +kernel) (by decide +kernel) (Or.inl (Or.inl rfl)) rfl ?_
  exact q_virtI [] 76 rfl (show sCode 93 73 = some (.invokevirtual 200, 3) by decide +kernel) (show sMR (sKo 93).1 200 = some 65 by decide +kernel) (show 65 < 1000 ∧ sStat 65 = false ∧ sIni 65 = false ∧ sKo 65 = (10, 0, 1, 0, 0) by decide +kernel) rfl (Or.inl rfl) rfl (Nat.le_of_ble_eq_true rfl) rfl rfl rfl (by decide +kernel) kk
theorem b93_76 {d : Nat} {Q : Option sV → sM → sG → Prop} {M : sM} {G : sG} {a0 : Nat} {x1 : Int} {x2 : Int} {x3 : Int} {x4 : Int} {x5 : Int} {s0 : Int}  (k1 : x1 < 0 → sW (sC d) 93 Q 100 [vO 11 a0, vN, vN, vN, vI x4, vI x5, vI s0] [] M G 0 0) (k2 : 0 ≤ x1 → sW (sC d) 93 Q 82 [vO 11 a0, vI x1, vI x2, vI x3, vI x4, vI x5, vI s0] [] M G 0 0) : sW (sC d) 93 Q 76 [vO 11 a0, vI x1, vI x2, vI x3, vI x4, vI x5, vN] [vI s0] M G 0 0 := by
  refine q_istore [vO 11 a0, vI x1, vI x2, vI x3, vI x4, vI x5, vI s0] 78 rfl (show sCode 93 76 = some (.istore 6, 2) by decide +kernel) (Nat.lt_of_lt_of_le (Nat.lt_succ_self _) (Nat.le_of_ble_eq_true rfl)) rfl rfl ?_
  refine q_iload_n 79 rfl (show sCode 93 78 = some (.iload_n 1, 1) by decide +kernel) rfl ?_
  refine q_iflt 100 82 rfl (by decide) (show sCode 93 79 = some (.ifCond .lt 21, 3) by decide +kernel) ?_ ?_
  · intro q; refine q_forget (L' := [vO 11 a0, vN, vI x2, vI x3, vI x4, vI x5, vI s0]) 1 rfl ?_; refine q_forget (L' := [vO 11 a0, vN, vN, vI x3, vI x4, vI x5, vI s0]) 2 rfl ?_; refine q_forget (L' := [vO 11 a0, vN, vN, vN, vI x4, vI x5, vI s0]) 3 rfl ?_; exact k1 q
  · intro q; exact k2 q
theorem b93_82 {d : Nat} {Q : Option sV → sM → sG → Prop} {M : sM} {G : sG} {a0 : Nat} {x1 : Int} {x2 : Int} {x3 : Int} {x4 : Int} {x5 : Int} {x6 : Int}  (k1 : x5 < x2 → sW (sC d) 93 Q 100 [vO 11 a0, vN, vN, vN, vI x4, vI x5, vI x6] [] M G 0 0) (k2 : x2 ≤ x5 → sW (sC d) 93 Q 88 [vO 11 a0, vI x1, vI x2, vI x3, vI x4, vI x5, vI x6] [] M G 0 0) : sW (sC d) 93 Q 82 [vO 11 a0, vI x1, vI x2, vI x3, vI x4, vI x5, vI x6] [] M G 0 0 := by
  refine q_iload 84 rfl (show sCode 93 82 = some (.iload 5, 2) by decide +kernel) rfl ?_
  refine q_iload_n 85 rfl (show sCode 93 84 = some (.iload_n 2, 1) by decide +kernel) rfl ?_
  refine q_icmplt 100 88 rfl (by decide) (show sCode 93 85 = some (.if_icmp .lt 15, 3) by decide +kernel) ?_ ?_
  · intro q; refine q_forget (L' := [vO 11 a0, vN, vI x2, vI x3, vI x4, vI x5, vI x6]) 1 rfl ?_; refine q_forget (L' := [vO 11 a0, vN, vN, vI x3, vI x4, vI x5, vI x6]) 2 rfl ?_; refine q_forget (L' := [vO 11 a0, vN, vN, vN, vI x4, vI x5, vI x6]) 3 rfl ?_; exact k1 q
  · intro q; exact k2 q
theorem b93_88 {d : Nat} {Q : Option sV → sM → sG → Prop} {M : sM} {G : sG} {a0 : Nat} {x1 : Int} {x2 : Int} {x3 : Int} {x4 : Int} {x5 : Int} {x6 : Int}  (k1 : x5 ≠ x2 → sW (sC d) 93 Q 109 [vO 11 a0, vI x1, vI x2, vI x3, vI x4, vN, vN] [] M G 0 0) (k2 : x5 = x2 → sW (sC d) 93 Q 94 [vO 11 a0, vI x1, vI x2, vI x3, vI x4, vI x5, vI x6] [] M G 0 0) : sW (sC d) 93 Q 88 [vO 11 a0, vI x1, vI x2, vI x3, vI x4, vI x5, vI x6] [] M G 0 0 := by
  refine q_iload 90 rfl (show sCode 93 88 = some (.iload 5, 2) by decide +kernel) rfl ?_
  refine q_iload_n 91 rfl (show sCode 93 90 = some (.iload_n 2, 1) by decide +kernel) rfl ?_
  refine q_icmpne 109 94 rfl (by decide) (show sCode 93 91 = some (.if_icmp .ne 18, 3) by decide +kernel) ?_ ?_
  · intro q; refine q_forget (L' := [vO 11 a0, vI x1, vI x2, vI x3, vI x4, vN, vI x6]) 5 rfl ?_; refine q_forget (L' := [vO 11 a0, vI x1, vI x2, vI x3, vI x4, vN, vN]) 6 rfl ?_; exact k1 q
  · intro q; exact k2 q
theorem b93_94 {d : Nat} {Q : Option sV → sM → sG → Prop} {M : sM} {G : sG} {a0 : Nat} {x1 : Int} {x2 : Int} {x3 : Int} {x4 : Int} {x5 : Int} {x6 : Int}  (k1 : x6 ≤ x3 → sW (sC d) 93 Q 109 [vO 11 a0, vI x1, vI x2, vI x3, vI x4, vN, vN] [] M G 0 0) (k2 : x3 < x6 → sW (sC d) 93 Q 100 [vO 11 a0, vN, vN, vN, vI x4, vI x5, vI x6] [] M G 0 0) : sW (sC d) 93 Q 94 [vO 11 a0, vI x1, vI x2, vI x3, vI x4, vI x5, vI x6] [] M G 0 0 := by
  refine q_iload 96 rfl (show sCode 93 94 = some (.iload 6, 2) by decide +kernel) rfl ?_
  refine q_iload_n 97 rfl (show sCode 93 96 = some (.iload_n 3, 1) by decide +kernel) rfl ?_
  refine q_icmple 109 100 rfl (by decide) (show sCode 93 97 = some (.if_icmp .le 12, 3) by decide +kernel) ?_ ?_
  · intro q; refine q_forget (L' := [vO 11 a0, vI x1, vI x2, vI x3, vI x4, vN, vI x6]) 5 rfl ?_; refine q_forget (L' := [vO 11 a0, vI x1, vI x2, vI x3, vI x4, vN, vN]) 6 rfl ?_; exact k1 q
  · intro q; refine q_forget (L' := [vO 11 a0, vN, vI x2, vI x3, vI x4, vI x5, vI x6]) 1 rfl ?_; refine q_forget (L' := [vO 11 a0, vN, vN, vI x3, vI x4, vI x5, vI x6]) 2 rfl ?_; refine q_forget (L' := [vO 11 a0, vN, vN, vN, vI x4, vI x5, vI x6]) 3 rfl ?_; exact k2 q
theorem b93_100 {d : Nat} {Q : Option sV → sM → sG → Prop} {M : sM} {G : sG} {a0 : Nat} {x4 : Int} {x5 : Int} {x6 : Int}  (kk : sW (sC d) 93 Q 109 [vO 11 a0, vI x4, vI x5, vI x6, vI x4, vN, vN] [] M G 0 0) : sW (sC d) 93 Q 100 [vO 11 a0, vN, vN, vN, vI x4, vI x5, vI x6] [] M G 0 0 := by
  refine q_iload 102 rfl (show sCode 93 100 = some (.iload 4, 2) by decide +kernel) rfl ?_
  refine q_istore_n [vO 11 a0, vI x4, vN, vN, vI x4, vI x5, vI x6] 103 rfl (show sCode 93 102 = some (.istore_n 1, 1) by decide +kernel) (Nat.lt_of_lt_of_le (Nat.lt_succ_self _) (Nat.le_of_ble_eq_true rfl)) rfl rfl ?_
  refine q_iload 105 rfl (show sCode 93 103 = some (.iload 5, 2) by decide +kernel) rfl ?_
  refine q_istore_n [vO 11 a0, vI x4, vI x5, vN, vI x4, vI x5, vI x6] 106 rfl (show sCode 93 105 = some (.istore_n 2, 1) by decide +kernel) (Nat.lt_of_lt_of_le (Nat.lt_succ_self _) (Nat.le_of_ble_eq_true rfl)) rfl rfl ?_
  refine q_iload 108 rfl (show sCode 93 106 = some (.iload 6, 2) by decide +kernel) rfl ?_
  refine q_istore_n [vO 11 a0, vI x4, vI x5, vI x6, vI x4, vI x5, vI x6] 109 rfl (show sCode 93 108 = some (.istore_n 3, 1) by decide +kernel) (Nat.lt_of_lt_of_le (Nat.lt_succ_self _) (Nat.le_of_ble_eq_true rfl)) rfl rfl ?_
  refine q_forget (L' := [vO 11 a0, vI x4, vI x5, vI x6, vI x4, vN, vI x6]) 5 rfl ?_
  refine q_forget (L' := [vO 11 a0, vI x4, vI x5, vI x6, vI x4, vN, vN]) 6 rfl ?_
  exact kk
theorem b93_109 {d : Nat} {Q : Option sV → sM → sG → Prop} {M : sM} {G : sG} {a0 : Nat} {x1 : Int} {x2 : Int} {x3 : Int} {x4 : Int} (h1 : sI (x4 + 1)) (kk : sW (sC d) 93 Q 10 [vO 11 a0, vI x1, vI x2, vI x3, vI (x4 + 1), vN, vN] [] M G 0 0) : sW (sC d) 93 Q 109 [vO 11 a0, vI x1, vI x2, vI x3, vI x4, vN, vN] [] M G 0 0 := by
  refine q_iinc [vO 11 a0, vI x1, vI x2, vI x3, vI (x4 + 1), vN, vN] 112 rfl (show sCode 93 109 = some (.iinc 4 1, 3) by decide +kernel) rfl rfl h1 rfl ?_
  refine q_goto 10 (by decide) (show sCode 93 112 = some (.goto (-102), 3) by decide +kernel) ?_
  exact kk
theorem b93_115 {d : Nat} {P : Int → sM → sG → Prop} {M : sM} {G : sG} {x1 : Int}  (kk : P x1 M G) : sW (sC d) 93 (QI P) 115 [vN, vI x1, vN, vN, vN, vN, vN] [] M G 0 0 := by
  refine q_iload_n 116 rfl (show sCode 93 115 = some (.iload_n 1, 1) by decide +kernel) rfl ?_
  exact q_iret (show sCode 93 116 = some (.ireturn, 1) by decide +kernel) (by decide +kernel) (by decide +kernel) kk
-- 94 AfterTheLast.evenings (III)I
theorem b94_0 {d : Nat} {Q : Option sV → sM → sG → Prop} {M : sM} {G : sG} {a0 : Nat} {x1 : Int} {x2 : Int} {x3 : Int}  (kk : sC d 77 [vO 11 a0, vI x1] M G (QR (fun r M1 G1 => sW (sC d) 94 Q 5 [vO 11 a0, vN, vI x2, vI x3, vN, vN, vN, vN, vN] (r :: []) M1 G1 0 0))) : sW (sC d) 94 Q 0 [vO 11 a0, vI x1, vI x2, vI x3, vN, vN, vN, vN, vN] [] M G 0 0 := by
  refine q_aload_n 1 rfl (show sCode 94 0 = some (.aload_n 0, 1) by decide +kernel) rfl (Nat.le_of_ble_eq_true rfl) ?_
  refine q_iload_n 2 rfl (show sCode 94 1 = some (.iload_n 1, 1) by decide +kernel) rfl ?_
  refine q_forget (L' := [vO 11 a0, vN, vI x2, vI x3, vN, vN, vN, vN, vN]) 1 rfl ?_
  exact q_virtR [vI x1] 5 rfl (show sCode 94 2 = some (.invokevirtual 238, 3) by decide +kernel) (show sMR (sKo 94).1 238 = some 77 by decide +kernel) (show 77 < 1000 ∧ sStat 77 = false ∧ sIni 77 = false ∧ sKo 77 = (11, 1, 4, 0, 0) by decide +kernel) rfl (Or.inl rfl) rfl (Nat.le_of_ble_eq_true rfl) rfl rfl rfl (by decide +kernel) kk
theorem b94_5 {d : Nat} {Q : Option sV → sM → sG → Prop} {M : sM} {G : sG} {a0 : Nat} {x2 : Int} {x3 : Int} {sa0 : Nat}  (k1 : sa0 = 0 → sW (sC d) 94 Q 32 [vN, vN, vN, vN, vN, vN, vN, vN, vN] [] M G 0 0) (k2 : sa0 ≠ 0 → sW (sC d) 94 Q 12 [vO 11 a0, vN, vI x2, vI x3, vQ 6 sa0, vN, vN, vN, vN] [] M G 0 0) : sW (sC d) 94 Q 5 [vO 11 a0, vN, vI x2, vI x3, vN, vN, vN, vN, vN] [vQ 6 sa0] M G 0 0 := by
  refine q_astore [vO 11 a0, vN, vI x2, vI x3, vQ 6 sa0, vN, vN, vN, vN] 7 rfl (show sCode 94 5 = some (.astore 4, 2) by decide +kernel) (by first | exact ⟨Nat.le_of_ble_eq_true rfl, Or.inl (Nat.lt_of_lt_of_le (Nat.lt_succ_self _) (Nat.le_of_ble_eq_true rfl))⟩ | exact ⟨Nat.le_of_ble_eq_true rfl, Or.inr (Nat.le_of_ble_eq_true rfl)⟩) (Nat.lt_of_lt_of_le (Nat.lt_succ_self _) (Nat.le_of_ble_eq_true rfl)) rfl rfl ?_
  refine q_aload 9 rfl (show sCode 94 7 = some (.aload 4, 2) by decide +kernel) rfl (Nat.le_of_ble_eq_true rfl) ?_
  refine q_ifnull 32 12 rfl (by decide) (show sCode 94 9 = some (.ifnull 23, 3) by decide +kernel) ?_ ?_
  · intro q; refine q_forget (L' := [vN, vN, vI x2, vI x3, vQ 6 sa0, vN, vN, vN, vN]) 0 rfl ?_; refine q_forget (L' := [vN, vN, vN, vI x3, vQ 6 sa0, vN, vN, vN, vN]) 2 rfl ?_; refine q_forget (L' := [vN, vN, vN, vN, vQ 6 sa0, vN, vN, vN, vN]) 3 rfl ?_; refine q_forget (L' := [vN, vN, vN, vN, vN, vN, vN, vN, vN]) 4 rfl ?_; exact k1 q
  · intro q; exact k2 q
theorem b94_12 {d : Nat} {Q : Option sV → sM → sG → Prop} {M : sM} {G : sG} {a0 : Nat} {x2 : Int} {x3 : Int} {a4 : Nat}  (k1 : x2 < 1 → sW (sC d) 94 Q 32 [vN, vN, vN, vN, vN, vN, vN, vN, vN] [] M G 0 0) (k2 : 1 ≤ x2 → sW (sC d) 94 Q 17 [vO 11 a0, vN, vI x2, vI x3, vQ 6 a4, vN, vN, vN, vN] [] M G 0 0) : sW (sC d) 94 Q 12 [vO 11 a0, vN, vI x2, vI x3, vQ 6 a4, vN, vN, vN, vN] [] M G 0 0 := by
  refine q_iload_n 13 rfl (show sCode 94 12 = some (.iload_n 2, 1) by decide +kernel) rfl ?_
  refine q_iconst 14 rfl (show sCode 94 13 = some (.iconst 1, 1) by decide +kernel) ⟨by decide, by decide⟩ ?_
  refine q_icmplt 32 17 rfl (by decide) (show sCode 94 14 = some (.if_icmp .lt 18, 3) by decide +kernel) ?_ ?_
  · intro q; refine q_forget (L' := [vN, vN, vI x2, vI x3, vQ 6 a4, vN, vN, vN, vN]) 0 rfl ?_; refine q_forget (L' := [vN, vN, vN, vI x3, vQ 6 a4, vN, vN, vN, vN]) 2 rfl ?_; refine q_forget (L' := [vN, vN, vN, vN, vQ 6 a4, vN, vN, vN, vN]) 3 rfl ?_; refine q_forget (L' := [vN, vN, vN, vN, vN, vN, vN, vN, vN]) 4 rfl ?_; exact k1 q
  · intro q; exact k2 q
theorem b94_17 {d : Nat} {Q : Option sV → sM → sG → Prop} {M : sM} {G : sG} {a0 : Nat} {x2 : Int} {x3 : Int} {a4 : Nat}  (k1 : 20 < x2 → sW (sC d) 94 Q 32 [vN, vN, vN, vN, vN, vN, vN, vN, vN] [] M G 0 0) (k2 : x2 ≤ 20 → sW (sC d) 94 Q 23 [vO 11 a0, vN, vI x2, vI x3, vQ 6 a4, vN, vN, vN, vN] [] M G 0 0) : sW (sC d) 94 Q 17 [vO 11 a0, vN, vI x2, vI x3, vQ 6 a4, vN, vN, vN, vN] [] M G 0 0 := by
  refine q_iload_n 18 rfl (show sCode 94 17 = some (.iload_n 2, 1) by decide +kernel) rfl ?_
  refine q_bipush 20 rfl (show sCode 94 18 = some (.bipush 20, 2) by decide +kernel) ⟨by decide, by decide⟩ (by decide +kernel) ?_
  refine q_icmpgt 32 23 rfl (by decide) (show sCode 94 20 = some (.if_icmp .gt 12, 3) by decide +kernel) ?_ ?_
  · intro q; refine q_forget (L' := [vN, vN, vI x2, vI x3, vQ 6 a4, vN, vN, vN, vN]) 0 rfl ?_; refine q_forget (L' := [vN, vN, vN, vI x3, vQ 6 a4, vN, vN, vN, vN]) 2 rfl ?_; refine q_forget (L' := [vN, vN, vN, vN, vQ 6 a4, vN, vN, vN, vN]) 3 rfl ?_; refine q_forget (L' := [vN, vN, vN, vN, vN, vN, vN, vN, vN]) 4 rfl ?_; exact k1 q
  · intro q; exact k2 q
theorem b94_23 {d : Nat} {Q : Option sV → sM → sG → Prop} {M : sM} {G : sG} {a0 : Nat} {x2 : Int} {x3 : Int} {a4 : Nat}  (k1 : x3 < 0 → sW (sC d) 94 Q 32 [vN, vN, vN, vN, vN, vN, vN, vN, vN] [] M G 0 0) (k2 : 0 ≤ x3 → sW (sC d) 94 Q 27 [vO 11 a0, vN, vI x2, vI x3, vQ 6 a4, vN, vN, vN, vN] [] M G 0 0) : sW (sC d) 94 Q 23 [vO 11 a0, vN, vI x2, vI x3, vQ 6 a4, vN, vN, vN, vN] [] M G 0 0 := by
  refine q_iload_n 24 rfl (show sCode 94 23 = some (.iload_n 3, 1) by decide +kernel) rfl ?_
  refine q_iflt 32 27 rfl (by decide) (show sCode 94 24 = some (.ifCond .lt 8, 3) by decide +kernel) ?_ ?_
  · intro q; refine q_forget (L' := [vN, vN, vI x2, vI x3, vQ 6 a4, vN, vN, vN, vN]) 0 rfl ?_; refine q_forget (L' := [vN, vN, vN, vI x3, vQ 6 a4, vN, vN, vN, vN]) 2 rfl ?_; refine q_forget (L' := [vN, vN, vN, vN, vQ 6 a4, vN, vN, vN, vN]) 3 rfl ?_; refine q_forget (L' := [vN, vN, vN, vN, vN, vN, vN, vN, vN]) 4 rfl ?_; exact k1 q
  · intro q; exact k2 q
theorem b94_27 {d : Nat} {Q : Option sV → sM → sG → Prop} {M : sM} {G : sG} {a0 : Nat} {x2 : Int} {x3 : Int} {a4 : Nat}  (k1 : x3 ≤ 2 → sW (sC d) 94 Q 34 [vO 11 a0, vN, vI x2, vI x3, vQ 6 a4, vN, vN, vN, vN] [] M G 0 0) (k2 : 2 < x3 → sW (sC d) 94 Q 32 [vN, vN, vN, vN, vN, vN, vN, vN, vN] [] M G 0 0) : sW (sC d) 94 Q 27 [vO 11 a0, vN, vI x2, vI x3, vQ 6 a4, vN, vN, vN, vN] [] M G 0 0 := by
  refine q_iload_n 28 rfl (show sCode 94 27 = some (.iload_n 3, 1) by decide +kernel) rfl ?_
  refine q_iconst 29 rfl (show sCode 94 28 = some (.iconst 2, 1) by decide +kernel) ⟨by decide, by decide⟩ ?_
  refine q_icmple 34 32 rfl (by decide) (show sCode 94 29 = some (.if_icmp .le 5, 3) by decide +kernel) ?_ ?_
  · intro q; exact k1 q
  · intro q; refine q_forget (L' := [vN, vN, vI x2, vI x3, vQ 6 a4, vN, vN, vN, vN]) 0 rfl ?_; refine q_forget (L' := [vN, vN, vN, vI x3, vQ 6 a4, vN, vN, vN, vN]) 2 rfl ?_; refine q_forget (L' := [vN, vN, vN, vN, vQ 6 a4, vN, vN, vN, vN]) 3 rfl ?_; refine q_forget (L' := [vN, vN, vN, vN, vN, vN, vN, vN, vN]) 4 rfl ?_; exact k2 q
theorem b94_32 {d : Nat} {P : Int → sM → sG → Prop} {M : sM} {G : sG}   (kk : P (-1) M G) : sW (sC d) 94 (QI P) 32 [vN, vN, vN, vN, vN, vN, vN, vN, vN] [] M G 0 0 := by
  refine q_iconst 33 rfl (show sCode 94 32 = some (.iconst (-1), 1) by decide +kernel) ⟨by decide, by decide⟩ ?_
  exact q_iret (show sCode 94 33 = some (.ireturn, 1) by decide +kernel) (by decide +kernel) (by decide +kernel) kk
theorem b94_34 {d : Nat} {Q : Option sV → sM → sG → Prop} {M : sM} {G : sG} {a0 : Nat} {x2 : Int} {x3 : Int} {a4 : Nat}  (kk : sW (sC d) 94 Q 61 [vO 11 a0, vN, vI x2, vI x3, vQ 6 a4, vO 10 (a0 + 13), vI (M (a0 + 28) 15), vI 0, vI 0] [] M G 0 0) : sW (sC d) 94 Q 34 [vO 11 a0, vN, vI x2, vI x3, vQ 6 a4, vN, vN, vN, vN] [] M G 0 0 := by
  refine q_aload_n 35 rfl (show sCode 94 34 = some (.aload_n 0, 1) by decide +kernel) rfl (Nat.le_of_ble_eq_true rfl) ?_
  refine q_getR (vO 8 (a0 + 12)) 38 rfl (show sCode 94 35 = some (.getfield 32, 3) by decide +kernel) (show sFR (sKo 94).1 32 = some (11, 3) by decide +kernel) (by decide +kernel) (Or.inl (Or.inl rfl)) rfl ?_
  refine q_getR (vO 10 (a0 + 13)) 41 rfl (show sCode 94 38 = some (.getfield 103, 3) by decide +kernel) (show sFR (sKo 94).1 103 = some (8, 0) by decide +kernel) (by decide +kernel) (Or.inl (Or.inl rfl)) rfl ?_
  refine q_astore [vO 11 a0, vN, vI x2, vI x3, vQ 6 a4, vO 10 (a0 + 13), vN, vN, vN] 43 rfl (show sCode 94 41 = some (.astore 5, 2) by decide +kernel) (by first | exact ⟨Nat.le_of_ble_eq_true rfl, Or.inl (Nat.lt_of_lt_of_le (Nat.lt_succ_self _) (Nat.le_of_ble_eq_true rfl))⟩ | exact ⟨Nat.le_of_ble_eq_true rfl, Or.inr (Nat.le_of_ble_eq_true rfl)⟩) (Nat.lt_of_lt_of_le (Nat.lt_succ_self _) (Nat.le_of_ble_eq_true rfl)) rfl rfl ?_
  refine q_aload_n 44 rfl (show sCode 94 43 = some (.aload_n 0, 1) by decide +kernel) rfl (Nat.le_of_ble_eq_true rfl) ?_
  refine q_getR (vO 8 (a0 + 12)) 47 rfl (show sCode 94 44 = some (.getfield 32, 3) by decide +kernel) (show sFR (sKo 94).1 32 = some (11, 3) by decide +kernel) (by decide +kernel) (Or.inl (Or.inl rfl)) rfl ?_
  refine q_getR (vO 9 (a0 + 28)) 50 rfl (show sCode 94 47 = some (.getfield 182, 3) by decide +kernel) (show sFR (sKo 94).1 182 = some (8, 1) by decide +kernel) (by decide +kernel) (Or.inl (Or.inl rfl)) rfl ?_
  refine q_getI 53 rfl (show sCode 94 50 = some (.getfield 222, 3) by decide +kernel) (show sFR (sKo 94).1 222 = some (9, 15) by decide +kernel) (by decide +kernel) (Or.inl (Or.inl rfl)) ?_
  refine q_istore [vO 11 a0, vN, vI x2, vI x3, vQ 6 a4, vO 10 (a0 + 13), vI (M (a0 + 28) 15), vN, vN] 55 rfl (show sCode 94 53 = some (.istore 6, 2) by decide +kernel) (Nat.lt_of_lt_of_le (Nat.lt_succ_self _) (Nat.le_of_ble_eq_true rfl)) rfl rfl ?_
  refine q_iconst 56 rfl (show sCode 94 55 = some (.iconst 0, 1) by decide +kernel) ⟨by decide, by decide⟩ ?_
  refine q_istore [vO 11 a0, vN, vI x2, vI x3, vQ 6 a4, vO 10 (a0 + 13), vI (M (a0 + 28) 15), vI 0, vN] 58 rfl (show sCode 94 56 = some (.istore 7, 2) by decide +kernel) (Nat.lt_of_lt_of_le (Nat.lt_succ_self _) (Nat.le_of_ble_eq_true rfl)) rfl rfl ?_
  refine q_iconst 59 rfl (show sCode 94 58 = some (.iconst 0, 1) by decide +kernel) ⟨by decide, by decide⟩ ?_
  refine q_istore [vO 11 a0, vN, vI x2, vI x3, vQ 6 a4, vO 10 (a0 + 13), vI (M (a0 + 28) 15), vI 0, vI 0] 61 rfl (show sCode 94 59 = some (.istore 8, 2) by decide +kernel) (Nat.lt_of_lt_of_le (Nat.lt_succ_self _) (Nat.le_of_ble_eq_true rfl)) rfl rfl ?_
  exact kk
theorem b94_61 {d : Nat} {Q : Option sV → sM → sG → Prop} {M : sM} {G : sG} {a0 : Nat} {x2 : Int} {x3 : Int} {a4 : Nat} {a5 : Nat} {x6 : Int} {x7 : Int} {x8 : Int}  (k1 : x2 ≤ x8 → sW (sC d) 94 Q 174 [vN, vN, vN, vN, vN, vN, vN, vI x7, vN] [] M G 0 0) (k2 : x8 < x2 → sW (sC d) 94 Q 67 [vO 11 a0, vN, vI x2, vI x3, vQ 6 a4, vO 10 a5, vI x6, vI x7, vI x8] [] M G 0 0) : sW (sC d) 94 Q 61 [vO 11 a0, vN, vI x2, vI x3, vQ 6 a4, vO 10 a5, vI x6, vI x7, vI x8] [] M G 0 0 := by
  refine q_iload 63 rfl (show sCode 94 61 = some (.iload 8, 2) by decide +kernel) rfl ?_
  refine q_iload_n 64 rfl (show sCode 94 63 = some (.iload_n 2, 1) by decide +kernel) rfl ?_
  refine q_icmpge 174 67 rfl (by decide) (show sCode 94 64 = some (.if_icmp .ge 110, 3) by decide +kernel) ?_ ?_
  · intro q; refine q_forget (L' := [vN, vN, vI x2, vI x3, vQ 6 a4, vO 10 a5, vI x6, vI x7, vI x8]) 0 rfl ?_; refine q_forget (L' := [vN, vN, vN, vI x3, vQ 6 a4, vO 10 a5, vI x6, vI x7, vI x8]) 2 rfl ?_; refine q_forget (L' := [vN, vN, vN, vN, vQ 6 a4, vO 10 a5, vI x6, vI x7, vI x8]) 3 rfl ?_; refine q_forget (L' := [vN, vN, vN, vN, vN, vO 10 a5, vI x6, vI x7, vI x8]) 4 rfl ?_; refine q_forget (L' := [vN, vN, vN, vN, vN, vN, vI x6, vI x7, vI x8]) 5 rfl ?_; refine q_forget (L' := [vN, vN, vN, vN, vN, vN, vN, vI x7, vI x8]) 6 rfl ?_; refine q_forget (L' := [vN, vN, vN, vN, vN, vN, vN, vI x7, vN]) 8 rfl ?_; exact k1 q
  · intro q; exact k2 q
theorem b94_67 {d : Nat} {Q : Option sV → sM → sG → Prop} {M : sM} {G : sG} {a0 : Nat} {x2 : Int} {x3 : Int} {a4 : Nat} {a5 : Nat} {x6 : Int} {x7 : Int} {x8 : Int}  (kk : sC d 34 [vO 10 (a0 + 41), vO 10 a5] M G (QV (fun M1 G1 => sW (sC d) 94 Q 76 [vO 11 a0, vN, vI x2, vI x3, vQ 6 a4, vO 10 a5, vI x6, vI x7, vI x8] [] M1 G1 0 0))) : sW (sC d) 94 Q 67 [vO 11 a0, vN, vI x2, vI x3, vQ 6 a4, vO 10 a5, vI x6, vI x7, vI x8] [] M G 0 0 := by
  refine q_aload_n 68 rfl (show sCode 94 67 = some (.aload_n 0, 1) by decide +kernel) rfl (Nat.le_of_ble_eq_true rfl) ?_
  refine q_getR (vO 10 (a0 + 41)) 71 rfl (show sCode 94 68 = some (.getfield 43, 3) by decide +kernel) (show sFR (sKo 94).1 43 = some (11, 5) by decide +kernel) (by decide +kernel) (Or.inl (Or.inl rfl)) rfl ?_
  refine q_aload 73 rfl (show sCode 94 71 = some (.aload 5, 2) by decide +kernel) rfl (Nat.le_of_ble_eq_true rfl) ?_
  exact q_virtV [vO 10 a5] 76 rfl (show sCode 94 73 = some (.invokevirtual 106, 3) by decide +kernel) (show sMR (sKo 94).1 106 = some 34 by decide +kernel) (show 34 < 1000 ∧ sStat 34 = false ∧ sIni 34 = false ∧ sKo 34 = (10, 1, 0, 0, 0) by decide +kernel) rfl (Or.inl rfl) rfl (Nat.le_of_ble_eq_true rfl) rfl rfl rfl (by decide +kernel) kk
theorem b94_76 {d : Nat} {Q : Option sV → sM → sG → Prop} {M : sM} {G : sG} {a0 : Nat} {x2 : Int} {x3 : Int} {a4 : Nat} {a5 : Nat} {x6 : Int} {x7 : Int} {x8 : Int}  (kk : sC d 95 [vO 10 (a0 + 41), vI x6] M G (QI (fun r M1 G1 => sW (sC d) 94 Q 85 [vO 11 a0, vN, vI x2, vI x3, vQ 6 a4, vO 10 a5, vN, vI x7, vI x8] (vI r :: []) M1 G1 0 0))) : sW (sC d) 94 Q 76 [vO 11 a0, vN, vI x2, vI x3, vQ 6 a4, vO 10 a5, vI x6, vI x7, vI x8] [] M G 0 0 := by
  refine q_aload_n 77 rfl (show sCode 94 76 = some (.aload_n 0, 1) by decide +kernel) rfl (Nat.le_of_ble_eq_true rfl) ?_
  refine q_getR (vO 10 (a0 + 41)) 80 rfl (show sCode 94 77 = some (.getfield 43, 3) by decide +kernel) (show sFR (sKo 94).1 43 = some (11, 5) by decide +kernel) (by decide +kernel) (Or.inl (Or.inl rfl)) rfl ?_
  refine q_iload 82 rfl (show sCode 94 80 = some (.iload 6, 2) by decide +kernel) rfl ?_
  refine q_forget (L' := [vO 11 a0, vN, vI x2, vI x3, vQ 6 a4, vO 10 a5, vN, vI x7, vI x8]) 6 rfl ?_
  exact q_statI [vO 10 (a0 + 41), vI x6] 85 rfl (show sCode 94 82 = some (.invokestatic 249, 3) by decide +kernel) (show sMR (sKo 94).1 249 = some 95 by decide +kernel) (show 95 < 1000 ∧ sStat 95 = true ∧ sKo 95 = (11, 2, 1, 0, 0) by decide +kernel) rfl rfl (Nat.le_of_ble_eq_true rfl) rfl rfl rfl (by decide +kernel) kk
theorem b94_85 {d : Nat} {Q : Option sV → sM → sG → Prop} {M : sM} {G : sG} {a0 : Nat} {x2 : Int} {x3 : Int} {a4 : Nat} {a5 : Nat} {x7 : Int} {x8 : Int} {s0 : Int} (h1 : sI (96 - (M (a0 + 41) 13))) (kk : sC d 78 [vO 0 (a0 + 56), vQ 6 a4, vO 10 (a0 + 41), vI (96 - (M (a0 + 41) 13))] M G (QV (fun M1 G1 => sW (sC d) 94 Q 110 [vO 11 a0, vN, vI x2, vI x3, vQ 6 a4, vO 10 a5, vI s0, vI x7, vI x8] [] M1 G1 0 0))) : sW (sC d) 94 Q 85 [vO 11 a0, vN, vI x2, vI x3, vQ 6 a4, vO 10 a5, vN, vI x7, vI x8] [vI s0] M G 0 0 := by
  refine q_istore [vO 11 a0, vN, vI x2, vI x3, vQ 6 a4, vO 10 a5, vI s0, vI x7, vI x8] 87 rfl (show sCode 94 85 = some (.istore 6, 2) by decide +kernel) (Nat.lt_of_lt_of_le (Nat.lt_succ_self _) (Nat.le_of_ble_eq_true rfl)) rfl rfl ?_
  refine q_aload_n 88 rfl (show sCode 94 87 = some (.aload_n 0, 1) by decide +kernel) rfl (Nat.le_of_ble_eq_true rfl) ?_
  refine q_getR (vO 0 (a0 + 56)) 91 rfl (show sCode 94 88 = some (.getfield 50, 3) by decide +kernel) (show sFR (sKo 94).1 50 = some (11, 6) by decide +kernel) (by decide +kernel) (Or.inl (Or.inl rfl)) rfl ?_
  refine q_aload 93 rfl (show sCode 94 91 = some (.aload 4, 2) by decide +kernel) rfl (Nat.le_of_ble_eq_true rfl) ?_
  refine q_aload_n 94 rfl (show sCode 94 93 = some (.aload_n 0, 1) by decide +kernel) rfl (Nat.le_of_ble_eq_true rfl) ?_
  refine q_getR (vO 10 (a0 + 41)) 97 rfl (show sCode 94 94 = some (.getfield 43, 3) by decide +kernel) (show sFR (sKo 94).1 43 = some (11, 5) by decide +kernel) (by decide +kernel) (Or.inl (Or.inl rfl)) rfl ?_
  refine q_bipush 99 rfl (show sCode 94 97 = some (.bipush 96, 2) by decide +kernel) ⟨by decide, by decide⟩ (by decide +kernel) ?_
  refine q_aload_n 100 rfl (show sCode 94 99 = some (.aload_n 0, 1) by decide +kernel) rfl (Nat.le_of_ble_eq_true rfl) ?_
  refine q_getR (vO 10 (a0 + 41)) 103 rfl (show sCode 94 100 = some (.getfield 43, 3) by decide +kernel) (show sFR (sKo 94).1 43 = some (11, 5) by decide +kernel) (by decide +kernel) (Or.inl (Or.inl rfl)) rfl ?_
  refine q_getI 106 rfl (show sCode 94 103 = some (.getfield 194, 3) by decide +kernel) (show sFR (sKo 94).1 194 = some (10, 13) by decide +kernel) (by decide +kernel) (Or.inl (Or.inl rfl)) ?_
  refine q_isub 107 rfl (show sCode 94 106 = some (.isub, 1) by decide +kernel) h1 ?_
  exact q_virtV [vQ 6 a4, vO 10 (a0 + 41), vI (96 - (M (a0 + 41) 13))] 110 rfl (show sCode 94 107 = some (.invokevirtual 242, 3) by decide +kernel) (show sMR (sKo 94).1 242 = some 78 by decide +kernel) (show 78 < 1000 ∧ sStat 78 = false ∧ sIni 78 = false ∧ sKo 78 = (0, 3, 0, 0, 0) by decide +kernel) rfl (Or.inl rfl) rfl (Nat.le_of_ble_eq_true rfl) rfl rfl rfl (by decide +kernel) kk
theorem b94_110 {d : Nat} {Q : Option sV → sM → sG → Prop} {M : sM} {G : sG} {a0 : Nat} {x2 : Int} {x3 : Int} {a4 : Nat} {a5 : Nat} {x6 : Int} {x7 : Int} {x8 : Int}  (k1 : x3 ≠ 0 → sW (sC d) 94 Q 135 [vO 11 a0, vN, vI x2, vI x3, vQ 6 a4, vO 10 a5, vI x6, vI x7, vI x8] [] M G 0 0) (k2 : x3 = 0 → sW (sC d) 94 Q 114 [vO 11 a0, vN, vI x2, vI x3, vQ 6 a4, vO 10 a5, vI x6, vI x7, vI x8] [] M G 0 0) : sW (sC d) 94 Q 110 [vO 11 a0, vN, vI x2, vI x3, vQ 6 a4, vO 10 a5, vI x6, vI x7, vI x8] [] M G 0 0 := by
  refine q_iload_n 111 rfl (show sCode 94 110 = some (.iload_n 3, 1) by decide +kernel) rfl ?_
  refine q_ifne 135 114 rfl (by decide) (show sCode 94 111 = some (.ifCond .ne 24, 3) by decide +kernel) ?_ ?_
  · intro q; exact k1 q
  · intro q; exact k2 q
theorem b94_114 {d : Nat} {Q : Option sV → sM → sG → Prop} {M : sM} {G : sG} {a0 : Nat} {x2 : Int} {x3 : Int} {a4 : Nat} {a5 : Nat} {x6 : Int} {x7 : Int} {x8 : Int} (h1 : sI ((M (a0 + 41) 14) - (M a5 14))) (h2 : sI (x7 + ((M (a0 + 41) 14) - (M a5 14)))) (kk : sW (sC d) 94 Q 168 [vO 11 a0, vN, vI x2, vI x3, vQ 6 a4, vO 10 a5, vI x6, vI (x7 + ((M (a0 + 41) 14) - (M a5 14))), vI x8] [] M G 0 0) : sW (sC d) 94 Q 114 [vO 11 a0, vN, vI x2, vI x3, vQ 6 a4, vO 10 a5, vI x6, vI x7, vI x8] [] M G 0 0 := by
  refine q_iload 116 rfl (show sCode 94 114 = some (.iload 7, 2) by decide +kernel) rfl ?_
  refine q_aload_n 117 rfl (show sCode 94 116 = some (.aload_n 0, 1) by decide +kernel) rfl (Nat.le_of_ble_eq_true rfl) ?_
  refine q_getR (vO 10 (a0 + 41)) 120 rfl (show sCode 94 117 = some (.getfield 43, 3) by decide +kernel) (show sFR (sKo 94).1 43 = some (11, 5) by decide +kernel) (by decide +kernel) (Or.inl (Or.inl rfl)) rfl ?_
  refine q_getI 123 rfl (show sCode 94 120 = some (.getfield 197, 3) by decide +kernel) (show sFR (sKo 94).1 197 = some (10, 14) by decide +kernel) (by decide +kernel) (Or.inl (Or.inl rfl)) ?_
  refine q_aload 125 rfl (show sCode 94 123 = some (.aload 5, 2) by decide +kernel) rfl (Nat.le_of_ble_eq_true rfl) ?_
  refine q_getI 128 rfl (show sCode 94 125 = some (.getfield 197, 3) by decide +kernel) (show sFR (sKo 94).1 197 = some (10, 14) by decide +kernel) (by decide +kernel) (Or.inl (Or.inl rfl)) ?_
  refine q_isub 129 rfl (show sCode 94 128 = some (.isub, 1) by decide +kernel) h1 ?_
  refine q_iadd 130 rfl (show sCode 94 129 = some (.iadd, 1) by decide +kernel) h2 ?_
  refine q_istore [vO 11 a0, vN, vI x2, vI x3, vQ 6 a4, vO 10 a5, vI x6, vI (x7 + ((M (a0 + 41) 14) - (M a5 14))), vI x8] 132 rfl (show sCode 94 130 = some (.istore 7, 2) by decide +kernel) (Nat.lt_of_lt_of_le (Nat.lt_succ_self _) (Nat.le_of_ble_eq_true rfl)) rfl rfl ?_
  refine q_goto 168 (by decide) (show sCode 94 132 = some (.goto 36, 3) by decide +kernel) ?_
  exact kk
theorem b94_135 {d : Nat} {Q : Option sV → sM → sG → Prop} {M : sM} {G : sG} {a0 : Nat} {x2 : Int} {x3 : Int} {a4 : Nat} {a5 : Nat} {x6 : Int} {x7 : Int} {x8 : Int}  (k1 : x3 ≠ 1 → sW (sC d) 94 Q 155 [vO 11 a0, vN, vI x2, vI x3, vQ 6 a4, vO 10 a5, vI x6, vI x7, vI x8] [] M G 0 0) (k2 : x3 = 1 → sW (sC d) 94 Q 140 [vO 11 a0, vN, vI x2, vI x3, vQ 6 a4, vO 10 a5, vI x6, vI x7, vI x8] [] M G 0 0) : sW (sC d) 94 Q 135 [vO 11 a0, vN, vI x2, vI x3, vQ 6 a4, vO 10 a5, vI x6, vI x7, vI x8] [] M G 0 0 := by
  refine q_iload_n 136 rfl (show sCode 94 135 = some (.iload_n 3, 1) by decide +kernel) rfl ?_
  refine q_iconst 137 rfl (show sCode 94 136 = some (.iconst 1, 1) by decide +kernel) ⟨by decide, by decide⟩ ?_
  refine q_icmpne 155 140 rfl (by decide) (show sCode 94 137 = some (.if_icmp .ne 18, 3) by decide +kernel) ?_ ?_
  · intro q; exact k1 q
  · intro q; exact k2 q
theorem b94_140 {d : Nat} {Q : Option sV → sM → sG → Prop} {M : sM} {G : sG} {a0 : Nat} {x2 : Int} {x3 : Int} {a4 : Nat} {a5 : Nat} {x6 : Int} {x7 : Int} {x8 : Int}  (kk : sC d 65 [vO 10 (a0 + 41)] M G (QI (fun r M1 G1 => sW (sC d) 94 Q 149 [vO 11 a0, vN, vI x2, vI x3, vQ 6 a4, vO 10 a5, vI x6, vN, vI x8] (vI r :: [vI x7]) M1 G1 0 0))) : sW (sC d) 94 Q 140 [vO 11 a0, vN, vI x2, vI x3, vQ 6 a4, vO 10 a5, vI x6, vI x7, vI x8] [] M G 0 0 := by
  refine q_iload 142 rfl (show sCode 94 140 = some (.iload 7, 2) by decide +kernel) rfl ?_
  refine q_aload_n 143 rfl (show sCode 94 142 = some (.aload_n 0, 1) by decide +kernel) rfl (Nat.le_of_ble_eq_true rfl) ?_
  refine q_getR (vO 10 (a0 + 41)) 146 rfl (show sCode 94 143 = some (.getfield 43, 3) by decide +kernel) (show sFR (sKo 94).1 43 = some (11, 5) by decide +kernel) (by decide +kernel) (Or.inl (Or.inl rfl)) rfl ?_
  refine q_forget (L' := [vO 11 a0, vN, vI x2, vI x3, vQ 6 a4, vO 10 a5, vI x6, vN, vI x8]) 7 rfl ?_
  exact q_virtI [] 149 rfl (show sCode 94 146 = some (.invokevirtual 200, 3) by decide +kernel) (show sMR (sKo 94).1 200 = some 65 by decide +kernel) (show 65 < 1000 ∧ sStat 65 = false ∧ sIni 65 = false ∧ sKo 65 = (10, 0, 1, 0, 0) by decide +kernel) rfl (Or.inl rfl) rfl (Nat.le_of_ble_eq_true rfl) rfl rfl rfl (by decide +kernel) kk
theorem b94_149 {d : Nat} {Q : Option sV → sM → sG → Prop} {M : sM} {G : sG} {a0 : Nat} {x2 : Int} {x3 : Int} {a4 : Nat} {a5 : Nat} {x6 : Int} {x8 : Int} {s0 : Int} {s1 : Int} (h1 : sI (s1 + s0)) (kk : sW (sC d) 94 Q 168 [vO 11 a0, vN, vI x2, vI x3, vQ 6 a4, vO 10 a5, vI x6, vI (s1 + s0), vI x8] [] M G 0 0) : sW (sC d) 94 Q 149 [vO 11 a0, vN, vI x2, vI x3, vQ 6 a4, vO 10 a5, vI x6, vN, vI x8] [vI s0, vI s1] M G 0 0 := by
  refine q_iadd 150 rfl (show sCode 94 149 = some (.iadd, 1) by decide +kernel) h1 ?_
  refine q_istore [vO 11 a0, vN, vI x2, vI x3, vQ 6 a4, vO 10 a5, vI x6, vI (s1 + s0), vI x8] 152 rfl (show sCode 94 150 = some (.istore 7, 2) by decide +kernel) (Nat.lt_of_lt_of_le (Nat.lt_succ_self _) (Nat.le_of_ble_eq_true rfl)) rfl rfl ?_
  refine q_goto 168 (by decide) (show sCode 94 152 = some (.goto 16, 3) by decide +kernel) ?_
  exact kk
theorem b94_155 {d : Nat} {Q : Option sV → sM → sG → Prop} {M : sM} {G : sG} {a0 : Nat} {x2 : Int} {x3 : Int} {a4 : Nat} {a5 : Nat} {x6 : Int} {x7 : Int} {x8 : Int}  (kk : sC d 67 [vO 10 (a0 + 41)] M G (QI (fun r M1 G1 => sW (sC d) 94 Q 162 [vO 11 a0, vN, vI x2, vI x3, vQ 6 a4, vO 10 a5, vI x6, vI x7, vI x8] (vI r :: []) M1 G1 0 0))) : sW (sC d) 94 Q 155 [vO 11 a0, vN, vI x2, vI x3, vQ 6 a4, vO 10 a5, vI x6, vI x7, vI x8] [] M G 0 0 := by
  refine q_aload_n 156 rfl (show sCode 94 155 = some (.aload_n 0, 1) by decide +kernel) rfl (Nat.le_of_ble_eq_true rfl) ?_
  refine q_getR (vO 10 (a0 + 41)) 159 rfl (show sCode 94 156 = some (.getfield 43, 3) by decide +kernel) (show sFR (sKo 94).1 43 = some (11, 5) by decide +kernel) (by decide +kernel) (Or.inl (Or.inl rfl)) rfl ?_
  exact q_virtI [] 162 rfl (show sCode 94 159 = some (.invokevirtual 207, 3) by decide +kernel) (show sMR (sKo 94).1 207 = some 67 by decide +kernel) (show 67 < 1000 ∧ sStat 67 = false ∧ sIni 67 = false ∧ sKo 67 = (10, 0, 1, 0, 0) by decide +kernel) rfl (Or.inl rfl) rfl (Nat.le_of_ble_eq_true rfl) rfl rfl rfl (by decide +kernel) kk
theorem b94_162 {d : Nat} {Q : Option sV → sM → sG → Prop} {M : sM} {G : sG} {a0 : Nat} {x2 : Int} {x3 : Int} {a4 : Nat} {a5 : Nat} {x6 : Int} {x7 : Int} {x8 : Int} {s0 : Int}  (k1 : s0 ≠ 0 → sW (sC d) 94 Q 168 [vO 11 a0, vN, vI x2, vI x3, vQ 6 a4, vO 10 a5, vI x6, vI x7, vI x8] [] M G 0 0) (k2 : s0 = 0 → sW (sC d) 94 Q 165 [vO 11 a0, vN, vI x2, vI x3, vQ 6 a4, vO 10 a5, vI x6, vI x7, vI x8] [] M G 0 0) : sW (sC d) 94 Q 162 [vO 11 a0, vN, vI x2, vI x3, vQ 6 a4, vO 10 a5, vI x6, vI x7, vI x8] [vI s0] M G 0 0 := by
  refine q_ifne 168 165 rfl (by decide) (show sCode 94 162 = some (.ifCond .ne 6, 3) by decide +kernel) ?_ ?_
  · intro q; exact k1 q
  · intro q; exact k2 q
theorem b94_165 {d : Nat} {Q : Option sV → sM → sG → Prop} {M : sM} {G : sG} {a0 : Nat} {x2 : Int} {x3 : Int} {a4 : Nat} {a5 : Nat} {x6 : Int} {x7 : Int} {x8 : Int} (h1 : sI (x7 + 1)) (kk : sW (sC d) 94 Q 168 [vO 11 a0, vN, vI x2, vI x3, vQ 6 a4, vO 10 a5, vI x6, vI (x7 + 1), vI x8] [] M G 0 0) : sW (sC d) 94 Q 165 [vO 11 a0, vN, vI x2, vI x3, vQ 6 a4, vO 10 a5, vI x6, vI x7, vI x8] [] M G 0 0 := by
  refine q_iinc [vO 11 a0, vN, vI x2, vI x3, vQ 6 a4, vO 10 a5, vI x6, vI (x7 + 1), vI x8] 168 rfl (show sCode 94 165 = some (.iinc 7 1, 3) by decide +kernel) rfl rfl h1 rfl ?_
  exact kk
theorem b94_168 {d : Nat} {Q : Option sV → sM → sG → Prop} {M : sM} {G : sG} {a0 : Nat} {x2 : Int} {x3 : Int} {a4 : Nat} {a5 : Nat} {x6 : Int} {x7 : Int} {x8 : Int} (h1 : sI (x8 + 1)) (kk : sW (sC d) 94 Q 61 [vO 11 a0, vN, vI x2, vI x3, vQ 6 a4, vO 10 a5, vI x6, vI x7, vI (x8 + 1)] [] M G 0 0) : sW (sC d) 94 Q 168 [vO 11 a0, vN, vI x2, vI x3, vQ 6 a4, vO 10 a5, vI x6, vI x7, vI x8] [] M G 0 0 := by
  refine q_iinc [vO 11 a0, vN, vI x2, vI x3, vQ 6 a4, vO 10 a5, vI x6, vI x7, vI (x8 + 1)] 171 rfl (show sCode 94 168 = some (.iinc 8 1, 3) by decide +kernel) rfl rfl h1 rfl ?_
  refine q_goto 61 (by decide) (show sCode 94 171 = some (.goto (-110), 3) by decide +kernel) ?_
  exact kk
theorem b94_174 {d : Nat} {P : Int → sM → sG → Prop} {M : sM} {G : sG} {x7 : Int}  (kk : P x7 M G) : sW (sC d) 94 (QI P) 174 [vN, vN, vN, vN, vN, vN, vN, vI x7, vN] [] M G 0 0 := by
  refine q_iload 176 rfl (show sCode 94 174 = some (.iload 7, 2) by decide +kernel) rfl ?_
  exact q_iret (show sCode 94 176 = some (.ireturn, 1) by decide +kernel) (by decide +kernel) (by decide +kernel) kk
-- 95 AfterTheLast.drawTills (LAfterTheLast$Town;I)I
theorem b95_0 {d : Nat} {Q : Option sV → sM → sG → Prop} {M : sM} {G : sG} {a0 : Nat} {x1 : Int}  (kk : sW (sC d) 95 Q 4 [vO 10 a0, vN, vI x1, vI 0] [] M G 0 0) : sW (sC d) 95 Q 0 [vO 10 a0, vI x1, vN, vN] [] M G 0 0 := by
  refine q_iload_n 1 rfl (show sCode 95 0 = some (.iload_n 1, 1) by decide +kernel) rfl ?_
  refine q_istore_n [vO 10 a0, vI x1, vI x1, vN] 2 rfl (show sCode 95 1 = some (.istore_n 2, 1) by decide +kernel) (Nat.lt_of_lt_of_le (Nat.lt_succ_self _) (Nat.le_of_ble_eq_true rfl)) rfl rfl ?_
  refine q_iconst 3 rfl (show sCode 95 2 = some (.iconst 0, 1) by decide +kernel) ⟨by decide, by decide⟩ ?_
  refine q_istore_n [vO 10 a0, vI x1, vI x1, vI 0] 4 rfl (show sCode 95 3 = some (.istore_n 3, 1) by decide +kernel) (Nat.lt_of_lt_of_le (Nat.lt_succ_self _) (Nat.le_of_ble_eq_true rfl)) rfl rfl ?_
  refine q_forget (L' := [vO 10 a0, vN, vI x1, vI 0]) 1 rfl ?_
  exact kk
theorem b95_4 {d : Nat} {Q : Option sV → sM → sG → Prop} {M : sM} {G : sG} {a0 : Nat} {x2 : Int} {x3 : Int}  (k1 : M a0 6 ≤ x3 → sW (sC d) 95 Q 58 [vN, vN, vI x2, vN] [] M G 0 0) (k2 : x3 < M a0 6 → sW (sC d) 95 Q 12 [vO 10 a0, vN, vI x2, vI x3] [] M G 0 0) : sW (sC d) 95 Q 4 [vO 10 a0, vN, vI x2, vI x3] [] M G 0 0 := by
  refine q_iload_n 5 rfl (show sCode 95 4 = some (.iload_n 3, 1) by decide +kernel) rfl ?_
  refine q_aload_n 6 rfl (show sCode 95 5 = some (.aload_n 0, 1) by decide +kernel) rfl (Nat.le_of_ble_eq_true rfl) ?_
  refine q_getI 9 rfl (show sCode 95 6 = some (.getfield 191, 3) by decide +kernel) (show sFR (sKo 95).1 191 = some (10, 6) by decide +kernel) (by decide +kernel) (Or.inl (Or.inl rfl)) ?_
  refine q_icmpge 58 12 rfl (by decide) (show sCode 95 9 = some (.if_icmp .ge 49, 3) by decide +kernel) ?_ ?_
  · intro q; refine q_forget (L' := [vN, vN, vI x2, vI x3]) 0 rfl ?_; refine q_forget (L' := [vN, vN, vI x2, vN]) 3 rfl ?_; exact k1 q
  · intro q; exact k2 q
theorem b95_12 {d : Nat} {Q : Option sV → sM → sG → Prop} {M : sM} {G : sG} {a0 : Nat} {x2 : Int} {x3 : Int} (h1 : 0 ≤ x3 ∧ x3 < 18) (h2 : sI ((M (a0 + 9) x3.toNat) + (iRem (iShr (jInt (jAnd (jWrap ((jWrap (x2 * 1103515245)) + 12345)) 2147483647)) 16) 4))) (h3 : 0 ≤ x3 ∧ x3 < 18) (h4 : sI (x3 + 1)) (kk : sW (sC d) 95 Q 4 [vO 10 a0, vN, vI (jInt (jAnd (jWrap ((jWrap (x2 * 1103515245)) + 12345)) 2147483647)), vI (x3 + 1)] [] (sUpd M (a0 + 9) x3.toNat (if (M (a0 + 9) x3.toNat) + (iRem (iShr (jInt (jAnd (jWrap ((jWrap (x2 * 1103515245)) + 12345)) 2147483647)) 16) 4) < 95 then (M (a0 + 9) x3.toNat) + (iRem (iShr (jInt (jAnd (jWrap ((jWrap (x2 * 1103515245)) + 12345)) 2147483647)) 16) 4) else 95)) G 0 0) : sW (sC d) 95 Q 12 [vO 10 a0, vN, vI x2, vI x3] [] M G 0 0 := by
  refine q_iload_n 13 rfl (show sCode 95 12 = some (.iload_n 2, 1) by decide +kernel) rfl ?_
  refine q_i2l 14 rfl (show sCode 95 13 = some (.i2l, 1) by decide +kernel) ?_
  refine q_ldc2_w 17 rfl (show sCode 95 14 = some (.ldc2_w 373, 3) by decide +kernel) (show sLR (sKo 95).1 373 = some 1103515245 by decide +kernel) ⟨by decide, by decide⟩ ?_
  refine q_lmul 18 rfl (show sCode 95 17 = some (.lmul, 1) by decide +kernel) ?_
  refine q_ldc2_w 21 rfl (show sCode 95 18 = some (.ldc2_w 375, 3) by decide +kernel) (show sLR (sKo 95).1 375 = some 12345 by decide +kernel) ⟨by decide, by decide⟩ ?_
  refine q_ladd 22 rfl (show sCode 95 21 = some (.ladd, 1) by decide +kernel) ?_
  refine q_ldc2_w 25 rfl (show sCode 95 22 = some (.ldc2_w 377, 3) by decide +kernel) (show sLR (sKo 95).1 377 = some 2147483647 by decide +kernel) ⟨by decide, by decide⟩ ?_
  refine q_land 26 rfl (show sCode 95 25 = some (.land, 1) by decide +kernel) ?_
  refine q_l2i 27 rfl (show sCode 95 26 = some (.l2i, 1) by decide +kernel) ?_
  refine q_istore_n [vO 10 a0, vN, vI (jInt (jAnd (jWrap ((jWrap (x2 * 1103515245)) + 12345)) 2147483647)), vI x3] 28 rfl (show sCode 95 27 = some (.istore_n 2, 1) by decide +kernel) (Nat.lt_of_lt_of_le (Nat.lt_succ_self _) (Nat.le_of_ble_eq_true rfl)) rfl rfl ?_
  refine q_aload_n 29 rfl (show sCode 95 28 = some (.aload_n 0, 1) by decide +kernel) rfl (Nat.le_of_ble_eq_true rfl) ?_
  refine q_getR (vA 0 (a0 + 9) 18) 32 rfl (show sCode 95 29 = some (.getfield 155, 3) by decide +kernel) (show sFR (sKo 95).1 155 = some (10, 10) by decide +kernel) (by decide +kernel) (Or.inl (Or.inl rfl)) rfl ?_
  refine q_iload_n 33 rfl (show sCode 95 32 = some (.iload_n 3, 1) by decide +kernel) rfl ?_
  refine q_bipush 35 rfl (show sCode 95 33 = some (.bipush 95, 2) by decide +kernel) ⟨by decide, by decide⟩ (by decide +kernel) ?_
  refine q_aload_n 36 rfl (show sCode 95 35 = some (.aload_n 0, 1) by decide +kernel) rfl (Nat.le_of_ble_eq_true rfl) ?_
  refine q_getR (vA 0 (a0 + 9) 18) 39 rfl (show sCode 95 36 = some (.getfield 155, 3) by decide +kernel) (show sFR (sKo 95).1 155 = some (10, 10) by decide +kernel) (by decide +kernel) (Or.inl (Or.inl rfl)) rfl ?_
  refine q_iload_n 40 rfl (show sCode 95 39 = some (.iload_n 3, 1) by decide +kernel) rfl ?_
  refine q_iald 41 rfl (show sCode 95 40 = some (.iaload, 1) by decide +kernel) h1 ?_
  refine q_iload_n 42 rfl (show sCode 95 41 = some (.iload_n 2, 1) by decide +kernel) rfl ?_
  refine q_bipush 44 rfl (show sCode 95 42 = some (.bipush 16, 2) by decide +kernel) ⟨by decide, by decide⟩ (by decide +kernel) ?_
  refine q_ishr 45 rfl (show sCode 95 44 = some (.ishr, 1) by decide +kernel) ?_
  refine q_iconst 46 rfl (show sCode 95 45 = some (.iconst 4, 1) by decide +kernel) ⟨by decide, by decide⟩ ?_
  refine q_irem 47 rfl (show sCode 95 46 = some (.irem, 1) by decide +kernel) (by decide) ?_
  refine q_iadd 48 rfl (show sCode 95 47 = some (.iadd, 1) by decide +kernel) h2 ?_
  refine q_min 51 rfl (show sCode 95 48 = some (.invokestatic 379, 3) by decide +kernel) (by decide +kernel) (Nat.le_of_ble_eq_true rfl) ?_
  refine q_iast 52 rfl (show sCode 95 51 = some (.iastore, 1) by decide +kernel) h3 ?_
  refine q_iinc [vO 10 a0, vN, vI (jInt (jAnd (jWrap ((jWrap (x2 * 1103515245)) + 12345)) 2147483647)), vI (x3 + 1)] 55 rfl (show sCode 95 52 = some (.iinc 3 1, 3) by decide +kernel) rfl rfl h4 rfl ?_
  refine q_goto 4 (by decide) (show sCode 95 55 = some (.goto (-51), 3) by decide +kernel) ?_
  exact kk
theorem b95_58 {d : Nat} {P : Int → sM → sG → Prop} {M : sM} {G : sG} {x2 : Int}  (kk : P x2 M G) : sW (sC d) 95 (QI P) 58 [vN, vN, vI x2, vN] [] M G 0 0 := by
  refine q_iload_n 59 rfl (show sCode 95 58 = some (.iload_n 2, 1) by decide +kernel) rfl ?_
  exact q_iret (show sCode 95 59 = some (.ireturn, 1) by decide +kernel) (by decide +kernel) (by decide +kernel) kk
-- 96 AfterTheLast.seed (I)I
theorem b96_0 {d : Nat} {Q : Option sV → sM → sG → Prop} {M : sM} {G : sG} {a0 : Nat} {x1 : Int}  (k1 : 0 ≤ x1 → sW (sC d) 96 Q 6 [vO 11 a0, vI x1, vN] [] M G 0 0) (k2 : x1 < 0 → sW (sC d) 96 Q 4 [vN, vN, vN] [] M G 0 0) : sW (sC d) 96 Q 0 [vO 11 a0, vI x1, vN] [] M G 0 0 := by
  refine q_iload_n 1 rfl (show sCode 96 0 = some (.iload_n 1, 1) by decide +kernel) rfl ?_
  refine q_ifge 6 4 rfl (by decide) (show sCode 96 1 = some (.ifCond .ge 5, 3) by decide +kernel) ?_ ?_
  · intro q; exact k1 q
  · intro q; refine q_forget (L' := [vN, vI x1, vN]) 0 rfl ?_; refine q_forget (L' := [vN, vN, vN]) 1 rfl ?_; exact k2 q
theorem b96_4 {d : Nat} {P : Int → sM → sG → Prop} {M : sM} {G : sG}   (kk : P (-1) M G) : sW (sC d) 96 (QI P) 4 [vN, vN, vN] [] M G 0 0 := by
  refine q_iconst 5 rfl (show sCode 96 4 = some (.iconst (-1), 1) by decide +kernel) ⟨by decide, by decide⟩ ?_
  exact q_iret (show sCode 96 5 = some (.ireturn, 1) by decide +kernel) (by decide +kernel) (by decide +kernel) kk
theorem b96_6 {d : Nat} {P : Int → sM → sG → Prop} {M : sM} {G : sG} {a0 : Nat} {x1 : Int}  (kk : P (M (a0 + 28) 15) (sUpd M (a0 + 28) 15 x1) G) : sW (sC d) 96 (QI P) 6 [vO 11 a0, vI x1, vN] [] M G 0 0 := by
  refine q_aload_n 7 rfl (show sCode 96 6 = some (.aload_n 0, 1) by decide +kernel) rfl (Nat.le_of_ble_eq_true rfl) ?_
  refine q_getR (vO 8 (a0 + 12)) 10 rfl (show sCode 96 7 = some (.getfield 32, 3) by decide +kernel) (show sFR (sKo 96).1 32 = some (11, 3) by decide +kernel) (by decide +kernel) (Or.inl (Or.inl rfl)) rfl ?_
  refine q_getR (vO 9 (a0 + 28)) 13 rfl (show sCode 96 10 = some (.getfield 182, 3) by decide +kernel) (show sFR (sKo 96).1 182 = some (8, 1) by decide +kernel) (by decide +kernel) (Or.inl (Or.inl rfl)) rfl ?_
  refine q_getI 16 rfl (show sCode 96 13 = some (.getfield 222, 3) by decide +kernel) (show sFR (sKo 96).1 222 = some (9, 15) by decide +kernel) (by decide +kernel) (Or.inl (Or.inl rfl)) ?_
  refine q_istore_n [vO 11 a0, vI x1, vI (M (a0 + 28) 15)] 17 rfl (show sCode 96 16 = some (.istore_n 2, 1) by decide +kernel) (Nat.lt_of_lt_of_le (Nat.lt_succ_self _) (Nat.le_of_ble_eq_true rfl)) rfl rfl ?_
  refine q_aload_n 18 rfl (show sCode 96 17 = some (.aload_n 0, 1) by decide +kernel) rfl (Nat.le_of_ble_eq_true rfl) ?_
  refine q_getR (vO 8 (a0 + 12)) 21 rfl (show sCode 96 18 = some (.getfield 32, 3) by decide +kernel) (show sFR (sKo 96).1 32 = some (11, 3) by decide +kernel) (by decide +kernel) (Or.inl (Or.inl rfl)) rfl ?_
  refine q_getR (vO 9 (a0 + 28)) 24 rfl (show sCode 96 21 = some (.getfield 182, 3) by decide +kernel) (show sFR (sKo 96).1 182 = some (8, 1) by decide +kernel) (by decide +kernel) (Or.inl (Or.inl rfl)) rfl ?_
  refine q_iload_n 25 rfl (show sCode 96 24 = some (.iload_n 1, 1) by decide +kernel) rfl ?_
  refine q_putI 28 rfl (show sCode 96 25 = some (.putfield 222, 3) by decide +kernel) (show sFR (sKo 96).1 222 = some (9, 15) by decide +kernel) (by decide +kernel) (Or.inl ⟨Or.inl rfl, by decide +kernel⟩) ?_
  refine q_iload_n 29 rfl (show sCode 96 28 = some (.iload_n 2, 1) by decide +kernel) rfl ?_
  exact q_iret (show sCode 96 29 = some (.ireturn, 1) by decide +kernel) (by decide +kernel) (by decide +kernel) kk
-- 97 AfterTheLast.cross (III)I
theorem b97_0 {d : Nat} {Q : Option sV → sM → sG → Prop} {M : sM} {G : sG} {a0 : Nat} {x1 : Int} {x2 : Int} {x3 : Int}  (kk : sC d 59 [vO 10 (a0 + 13), vI x1] M G (QI (fun r M1 G1 => sW (sC d) 97 Q 15 [vN, vI x1, vI x2, vI x3, vO 10 (a0 + 13)] (vI r :: []) M1 G1 0 0))) : sW (sC d) 97 Q 0 [vO 11 a0, vI x1, vI x2, vI x3, vN] [] M G 0 0 := by
  refine q_aload_n 1 rfl (show sCode 97 0 = some (.aload_n 0, 1) by decide +kernel) rfl (Nat.le_of_ble_eq_true rfl) ?_
  refine q_getR (vO 8 (a0 + 12)) 4 rfl (show sCode 97 1 = some (.getfield 32, 3) by decide +kernel) (show sFR (sKo 97).1 32 = some (11, 3) by decide +kernel) (by decide +kernel) (Or.inl (Or.inl rfl)) rfl ?_
  refine q_getR (vO 10 (a0 + 13)) 7 rfl (show sCode 97 4 = some (.getfield 103, 3) by decide +kernel) (show sFR (sKo 97).1 103 = some (8, 0) by decide +kernel) (by decide +kernel) (Or.inl (Or.inl rfl)) rfl ?_
  refine q_astore [vO 11 a0, vI x1, vI x2, vI x3, vO 10 (a0 + 13)] 9 rfl (show sCode 97 7 = some (.astore 4, 2) by decide +kernel) (by first | exact ⟨Nat.le_of_ble_eq_true rfl, Or.inl (Nat.lt_of_lt_of_le (Nat.lt_succ_self _) (Nat.le_of_ble_eq_true rfl))⟩ | exact ⟨Nat.le_of_ble_eq_true rfl, Or.inr (Nat.le_of_ble_eq_true rfl)⟩) (Nat.lt_of_lt_of_le (Nat.lt_succ_self _) (Nat.le_of_ble_eq_true rfl)) rfl rfl ?_
  refine q_aload 11 rfl (show sCode 97 9 = some (.aload 4, 2) by decide +kernel) rfl (Nat.le_of_ble_eq_true rfl) ?_
  refine q_iload_n 12 rfl (show sCode 97 11 = some (.iload_n 1, 1) by decide +kernel) rfl ?_
  refine q_forget (L' := [vN, vI x1, vI x2, vI x3, vO 10 (a0 + 13)]) 0 rfl ?_
  exact q_virtI [vI x1] 15 rfl (show sCode 97 12 = some (.invokevirtual 143, 3) by decide +kernel) (show sMR (sKo 97).1 143 = some 59 by decide +kernel) (show 59 < 1000 ∧ sStat 59 = false ∧ sIni 59 = false ∧ sKo 59 = (10, 1, 2, 0, 0) by decide +kernel) rfl (Or.inl rfl) rfl (Nat.le_of_ble_eq_true rfl) rfl rfl rfl (by decide +kernel) kk
theorem b97_15 {d : Nat} {Q : Option sV → sM → sG → Prop} {M : sM} {G : sG} {x1 : Int} {x2 : Int} {x3 : Int} {a4 : Nat} {s0 : Int}  (k1 : s0 = 0 → sW (sC d) 97 Q 39 [vN, vN, vN, vN, vN] [] M G 0 0) (k2 : s0 ≠ 0 → sW (sC d) 97 Q 18 [vN, vI x1, vI x2, vI x3, vO 10 a4] [] M G 0 0) : sW (sC d) 97 Q 15 [vN, vI x1, vI x2, vI x3, vO 10 a4] [vI s0] M G 0 0 := by
  refine q_ifeq 39 18 rfl (by decide) (show sCode 97 15 = some (.ifCond .eq 24, 3) by decide +kernel) ?_ ?_
  · intro q; refine q_forget (L' := [vN, vN, vI x2, vI x3, vO 10 a4]) 1 rfl ?_; refine q_forget (L' := [vN, vN, vN, vI x3, vO 10 a4]) 2 rfl ?_; refine q_forget (L' := [vN, vN, vN, vN, vO 10 a4]) 3 rfl ?_; refine q_forget (L' := [vN, vN, vN, vN, vN]) 4 rfl ?_; exact k1 q
  · intro q; exact k2 q
theorem b97_18 {d : Nat} {Q : Option sV → sM → sG → Prop} {M : sM} {G : sG} {x1 : Int} {x2 : Int} {x3 : Int} {a4 : Nat}  (kk : sC d 59 [vO 10 a4, vI x2] M G (QI (fun r M1 G1 => sW (sC d) 97 Q 24 [vN, vI x1, vI x2, vI x3, vO 10 a4] (vI r :: []) M1 G1 0 0))) : sW (sC d) 97 Q 18 [vN, vI x1, vI x2, vI x3, vO 10 a4] [] M G 0 0 := by
  refine q_aload 20 rfl (show sCode 97 18 = some (.aload 4, 2) by decide +kernel) rfl (Nat.le_of_ble_eq_true rfl) ?_
  refine q_iload_n 21 rfl (show sCode 97 20 = some (.iload_n 2, 1) by decide +kernel) rfl ?_
  exact q_virtI [vI x2] 24 rfl (show sCode 97 21 = some (.invokevirtual 143, 3) by decide +kernel) (show sMR (sKo 97).1 143 = some 59 by decide +kernel) (show 59 < 1000 ∧ sStat 59 = false ∧ sIni 59 = false ∧ sKo 59 = (10, 1, 2, 0, 0) by decide +kernel) rfl (Or.inl rfl) rfl (Nat.le_of_ble_eq_true rfl) rfl rfl rfl (by decide +kernel) kk
theorem b97_24 {d : Nat} {Q : Option sV → sM → sG → Prop} {M : sM} {G : sG} {x1 : Int} {x2 : Int} {x3 : Int} {a4 : Nat} {s0 : Int}  (k1 : s0 = 0 → sW (sC d) 97 Q 39 [vN, vN, vN, vN, vN] [] M G 0 0) (k2 : s0 ≠ 0 → sW (sC d) 97 Q 27 [vN, vI x1, vI x2, vI x3, vO 10 a4] [] M G 0 0) : sW (sC d) 97 Q 24 [vN, vI x1, vI x2, vI x3, vO 10 a4] [vI s0] M G 0 0 := by
  refine q_ifeq 39 27 rfl (by decide) (show sCode 97 24 = some (.ifCond .eq 15, 3) by decide +kernel) ?_ ?_
  · intro q; refine q_forget (L' := [vN, vN, vI x2, vI x3, vO 10 a4]) 1 rfl ?_; refine q_forget (L' := [vN, vN, vN, vI x3, vO 10 a4]) 2 rfl ?_; refine q_forget (L' := [vN, vN, vN, vN, vO 10 a4]) 3 rfl ?_; refine q_forget (L' := [vN, vN, vN, vN, vN]) 4 rfl ?_; exact k1 q
  · intro q; exact k2 q
theorem b97_27 {d : Nat} {Q : Option sV → sM → sG → Prop} {M : sM} {G : sG} {x1 : Int} {x2 : Int} {x3 : Int} {a4 : Nat}  (k1 : x1 = x2 → sW (sC d) 97 Q 39 [vN, vN, vN, vN, vN] [] M G 0 0) (k2 : x1 ≠ x2 → sW (sC d) 97 Q 32 [vN, vI x1, vI x2, vI x3, vO 10 a4] [] M G 0 0) : sW (sC d) 97 Q 27 [vN, vI x1, vI x2, vI x3, vO 10 a4] [] M G 0 0 := by
  refine q_iload_n 28 rfl (show sCode 97 27 = some (.iload_n 1, 1) by decide +kernel) rfl ?_
  refine q_iload_n 29 rfl (show sCode 97 28 = some (.iload_n 2, 1) by decide +kernel) rfl ?_
  refine q_icmpeq 39 32 rfl (by decide) (show sCode 97 29 = some (.if_icmp .eq 10, 3) by decide +kernel) ?_ ?_
  · intro q; refine q_forget (L' := [vN, vN, vI x2, vI x3, vO 10 a4]) 1 rfl ?_; refine q_forget (L' := [vN, vN, vN, vI x3, vO 10 a4]) 2 rfl ?_; refine q_forget (L' := [vN, vN, vN, vN, vO 10 a4]) 3 rfl ?_; refine q_forget (L' := [vN, vN, vN, vN, vN]) 4 rfl ?_; exact k1 q
  · intro q; exact k2 q
theorem b97_32 {d : Nat} {Q : Option sV → sM → sG → Prop} {M : sM} {G : sG} {x1 : Int} {x2 : Int} {x3 : Int} {a4 : Nat}  (kk : sC d 98 [vI x3] M G (QI (fun r M1 G1 => sW (sC d) 97 Q 36 [vN, vI x1, vI x2, vI x3, vO 10 a4] (vI r :: []) M1 G1 0 0))) : sW (sC d) 97 Q 32 [vN, vI x1, vI x2, vI x3, vO 10 a4] [] M G 0 0 := by
  refine q_iload_n 33 rfl (show sCode 97 32 = some (.iload_n 3, 1) by decide +kernel) rfl ?_
  exact q_statI [vI x3] 36 rfl (show sCode 97 33 = some (.invokestatic 253, 3) by decide +kernel) (show sMR (sKo 97).1 253 = some 98 by decide +kernel) (show 98 < 1000 ∧ sStat 98 = true ∧ sKo 98 = (11, 1, 2, 0, 0) by decide +kernel) rfl rfl (Nat.le_of_ble_eq_true rfl) rfl rfl rfl (by decide +kernel) kk
theorem b97_36 {d : Nat} {Q : Option sV → sM → sG → Prop} {M : sM} {G : sG} {x1 : Int} {x2 : Int} {x3 : Int} {a4 : Nat} {s0 : Int}  (k1 : s0 ≠ 0 → sW (sC d) 97 Q 41 [vN, vI x1, vI x2, vI x3, vO 10 a4] [] M G 0 0) (k2 : s0 = 0 → sW (sC d) 97 Q 39 [vN, vN, vN, vN, vN] [] M G 0 0) : sW (sC d) 97 Q 36 [vN, vI x1, vI x2, vI x3, vO 10 a4] [vI s0] M G 0 0 := by
  refine q_ifne 41 39 rfl (by decide) (show sCode 97 36 = some (.ifCond .ne 5, 3) by decide +kernel) ?_ ?_
  · intro q; exact k1 q
  · intro q; refine q_forget (L' := [vN, vN, vI x2, vI x3, vO 10 a4]) 1 rfl ?_; refine q_forget (L' := [vN, vN, vN, vI x3, vO 10 a4]) 2 rfl ?_; refine q_forget (L' := [vN, vN, vN, vN, vO 10 a4]) 3 rfl ?_; refine q_forget (L' := [vN, vN, vN, vN, vN]) 4 rfl ?_; exact k2 q
theorem b97_39 {d : Nat} {P : Int → sM → sG → Prop} {M : sM} {G : sG}   (kk : P (-1) M G) : sW (sC d) 97 (QI P) 39 [vN, vN, vN, vN, vN] [] M G 0 0 := by
  refine q_iconst 40 rfl (show sCode 97 39 = some (.iconst (-1), 1) by decide +kernel) ⟨by decide, by decide⟩ ?_
  exact q_iret (show sCode 97 40 = some (.ireturn, 1) by decide +kernel) (by decide +kernel) (by decide +kernel) kk
theorem b97_41 {d : Nat} {Q : Option sV → sM → sG → Prop} {M : sM} {G : sG} {x1 : Int} {x2 : Int} {x3 : Int} {a4 : Nat}  (kk : sC d 99 [vO 10 a4, vI x1, vI x2, vI x3] M G (QI (fun r M1 G1 => sW (sC d) 97 Q 49 [vN, vN, vN, vN, vN] (vI r :: []) M1 G1 0 0))) : sW (sC d) 97 Q 41 [vN, vI x1, vI x2, vI x3, vO 10 a4] [] M G 0 0 := by
  refine q_aload 43 rfl (show sCode 97 41 = some (.aload 4, 2) by decide +kernel) rfl (Nat.le_of_ble_eq_true rfl) ?_
  refine q_iload_n 44 rfl (show sCode 97 43 = some (.iload_n 1, 1) by decide +kernel) rfl ?_
  refine q_iload_n 45 rfl (show sCode 97 44 = some (.iload_n 2, 1) by decide +kernel) rfl ?_
  refine q_iload_n 46 rfl (show sCode 97 45 = some (.iload_n 3, 1) by decide +kernel) rfl ?_
  refine q_forget (L' := [vN, vN, vI x2, vI x3, vO 10 a4]) 1 rfl ?_
  refine q_forget (L' := [vN, vN, vN, vI x3, vO 10 a4]) 2 rfl ?_
  refine q_forget (L' := [vN, vN, vN, vN, vO 10 a4]) 3 rfl ?_
  refine q_forget (L' := [vN, vN, vN, vN, vN]) 4 rfl ?_
  exact q_statI [vO 10 a4, vI x1, vI x2, vI x3] 49 rfl (show sCode 97 46 = some (.invokestatic 256, 3) by decide +kernel) (show sMR (sKo 97).1 256 = some 99 by decide +kernel) (show 99 < 1000 ∧ sStat 99 = true ∧ sKo 99 = (1, 4, 2, 0, 0) by decide +kernel) rfl rfl (Nat.le_of_ble_eq_true rfl) rfl rfl rfl (by decide +kernel) kk
theorem b97_49 {d : Nat} {Q : Option sV → sM → sG → Prop} {M : sM} {G : sG} {s0 : Int}  (k1 : s0 = 0 → sW (sC d) 97 Q 56 [vN, vN, vN, vN, vN] [] M G 0 0) (k2 : s0 ≠ 0 → sW (sC d) 97 Q 52 [vN, vN, vN, vN, vN] [] M G 0 0) : sW (sC d) 97 Q 49 [vN, vN, vN, vN, vN] [vI s0] M G 0 0 := by
  refine q_ifeq 56 52 rfl (by decide) (show sCode 97 49 = some (.ifCond .eq 7, 3) by decide +kernel) ?_ ?_
  · intro q; exact k1 q
  · intro q; exact k2 q
theorem b97_52 {d : Nat} {Q : Option sV → sM → sG → Prop} {M : sM} {G : sG}   (kk : sW (sC d) 97 Q 57 [vN, vN, vN, vN, vN] [vI 1] M G 0 0) : sW (sC d) 97 Q 52 [vN, vN, vN, vN, vN] [] M G 0 0 := by
  refine q_iconst 53 rfl (show sCode 97 52 = some (.iconst 1, 1) by decide +kernel) ⟨by decide, by decide⟩ ?_
  refine q_goto 57 (by decide) (show sCode 97 53 = some (.goto 4, 3) by decide +kernel) ?_
  exact kk
theorem b97_56 {d : Nat} {Q : Option sV → sM → sG → Prop} {M : sM} {G : sG}   (kk : sW (sC d) 97 Q 57 [vN, vN, vN, vN, vN] [vI 0] M G 0 0) : sW (sC d) 97 Q 56 [vN, vN, vN, vN, vN] [] M G 0 0 := by
  refine q_iconst 57 rfl (show sCode 97 56 = some (.iconst 0, 1) by decide +kernel) ⟨by decide, by decide⟩ ?_
  exact kk
theorem b97_57 {d : Nat} {P : Int → sM → sG → Prop} {M : sM} {G : sG} {s0 : Int}  (kk : P s0 M G) : sW (sC d) 97 (QI P) 57 [vN, vN, vN, vN, vN] [vI s0] M G 0 0 := by
  exact q_iret (show sCode 97 57 = some (.ireturn, 1) by decide +kernel) (by decide +kernel) (by decide +kernel) kk
-- 98 AfterTheLast.isLaw (I)Z
theorem b98_0 {d : Nat} {Q : Option sV → sM → sG → Prop} {M : sM} {G : sG} {x0 : Int}  (k1 : x0 < 0 → sW (sC d) 98 Q 13 [vN] [] M G 0 0) (k2 : 0 ≤ x0 → sW (sC d) 98 Q 4 [vI x0] [] M G 0 0) : sW (sC d) 98 Q 0 [vI x0] [] M G 0 0 := by
  refine q_iload_n 1 rfl (show sCode 98 0 = some (.iload_n 0, 1) by decide +kernel) rfl ?_
  refine q_iflt 13 4 rfl (by decide) (show sCode 98 1 = some (.ifCond .lt 12, 3) by decide +kernel) ?_ ?_
  · intro q; refine q_forget (L' := [vN]) 0 rfl ?_; exact k1 q
  · intro q; exact k2 q
theorem b98_4 {d : Nat} {Q : Option sV → sM → sG → Prop} {M : sM} {G : sG} {x0 : Int}  (k1 : 2 < x0 → sW (sC d) 98 Q 13 [vN] [] M G 0 0) (k2 : x0 ≤ 2 → sW (sC d) 98 Q 9 [vN] [] M G 0 0) : sW (sC d) 98 Q 4 [vI x0] [] M G 0 0 := by
  refine q_iload_n 5 rfl (show sCode 98 4 = some (.iload_n 0, 1) by decide +kernel) rfl ?_
  refine q_iconst 6 rfl (show sCode 98 5 = some (.iconst 2, 1) by decide +kernel) ⟨by decide, by decide⟩ ?_
  refine q_icmpgt 13 9 rfl (by decide) (show sCode 98 6 = some (.if_icmp .gt 7, 3) by decide +kernel) ?_ ?_
  · intro q; refine q_forget (L' := [vN]) 0 rfl ?_; exact k1 q
  · intro q; refine q_forget (L' := [vN]) 0 rfl ?_; exact k2 q
theorem b98_9 {d : Nat} {Q : Option sV → sM → sG → Prop} {M : sM} {G : sG}   (kk : sW (sC d) 98 Q 14 [vN] [vI 1] M G 0 0) : sW (sC d) 98 Q 9 [vN] [] M G 0 0 := by
  refine q_iconst 10 rfl (show sCode 98 9 = some (.iconst 1, 1) by decide +kernel) ⟨by decide, by decide⟩ ?_
  refine q_goto 14 (by decide) (show sCode 98 10 = some (.goto 4, 3) by decide +kernel) ?_
  exact kk
theorem b98_13 {d : Nat} {Q : Option sV → sM → sG → Prop} {M : sM} {G : sG}   (kk : sW (sC d) 98 Q 14 [vN] [vI 0] M G 0 0) : sW (sC d) 98 Q 13 [vN] [] M G 0 0 := by
  refine q_iconst 14 rfl (show sCode 98 13 = some (.iconst 0, 1) by decide +kernel) ⟨by decide, by decide⟩ ?_
  exact kk
theorem b98_14 {d : Nat} {P : Int → sM → sG → Prop} {M : sM} {G : sG} {s0 : Int}  (h01 : s0 = 0 ∨ s0 = 1) (kk : P s0 M G) : sW (sC d) 98 (QI P) 14 [vN] [vI s0] M G 0 0 := by
  exact q_zret (show sCode 98 14 = some (.ireturn, 1) by decide +kernel) (by decide +kernel) h01 (by decide +kernel) kk
-- 101 AfterTheLast.fits (III)I
theorem b101_0 {d : Nat} {Q : Option sV → sM → sG → Prop} {M : sM} {G : sG} {a0 : Nat} {x1 : Int} {x2 : Int} {x3 : Int}  (kk : sC d 102 [vO 10 (a0 + 13), vI x1] M G (QI (fun r M1 G1 => sW (sC d) 101 Q 15 [vN, vI x1, vI x2, vI x3, vO 10 (a0 + 13), vN] (vI r :: []) M1 G1 0 0))) : sW (sC d) 101 Q 0 [vO 11 a0, vI x1, vI x2, vI x3, vN, vN] [] M G 0 0 := by
  refine q_aload_n 1 rfl (show sCode 101 0 = some (.aload_n 0, 1) by decide +kernel) rfl (Nat.le_of_ble_eq_true rfl) ?_
  refine q_getR (vO 8 (a0 + 12)) 4 rfl (show sCode 101 1 = some (.getfield 32, 3) by decide +kernel) (show sFR (sKo 101).1 32 = some (11, 3) by decide +kernel) (by decide +kernel) (Or.inl (Or.inl rfl)) rfl ?_
  refine q_getR (vO 10 (a0 + 13)) 7 rfl (show sCode 101 4 = some (.getfield 103, 3) by decide +kernel) (show sFR (sKo 101).1 103 = some (8, 0) by decide +kernel) (by decide +kernel) (Or.inl (Or.inl rfl)) rfl ?_
  refine q_astore [vO 11 a0, vI x1, vI x2, vI x3, vO 10 (a0 + 13), vN] 9 rfl (show sCode 101 7 = some (.astore 4, 2) by decide +kernel) (by first | exact ⟨Nat.le_of_ble_eq_true rfl, Or.inl (Nat.lt_of_lt_of_le (Nat.lt_succ_self _) (Nat.le_of_ble_eq_true rfl))⟩ | exact ⟨Nat.le_of_ble_eq_true rfl, Or.inr (Nat.le_of_ble_eq_true rfl)⟩) (Nat.lt_of_lt_of_le (Nat.lt_succ_self _) (Nat.le_of_ble_eq_true rfl)) rfl rfl ?_
  refine q_aload 11 rfl (show sCode 101 9 = some (.aload 4, 2) by decide +kernel) rfl (Nat.le_of_ble_eq_true rfl) ?_
  refine q_iload_n 12 rfl (show sCode 101 11 = some (.iload_n 1, 1) by decide +kernel) rfl ?_
  refine q_forget (L' := [vN, vI x1, vI x2, vI x3, vO 10 (a0 + 13), vN]) 0 rfl ?_
  exact q_virtI [vI x1] 15 rfl (show sCode 101 12 = some (.invokevirtual 260, 3) by decide +kernel) (show sMR (sKo 101).1 260 = some 102 by decide +kernel) (show 102 < 1000 ∧ sStat 102 = false ∧ sIni 102 = false ∧ sKo 102 = (10, 1, 2, 0, 0) by decide +kernel) rfl (Or.inl rfl) rfl (Nat.le_of_ble_eq_true rfl) rfl rfl rfl (by decide +kernel) kk
theorem b101_15 {d : Nat} {Q : Option sV → sM → sG → Prop} {M : sM} {G : sG} {x1 : Int} {x2 : Int} {x3 : Int} {a4 : Nat} {s0 : Int}  (k1 : s0 = 0 → sW (sC d) 101 Q 34 [vN, vN, vN, vN, vN, vN] [] M G 0 0) (k2 : s0 ≠ 0 → sW (sC d) 101 Q 18 [vN, vI x1, vI x2, vI x3, vO 10 a4, vN] [] M G 0 0) : sW (sC d) 101 Q 15 [vN, vI x1, vI x2, vI x3, vO 10 a4, vN] [vI s0] M G 0 0 := by
  refine q_ifeq 34 18 rfl (by decide) (show sCode 101 15 = some (.ifCond .eq 19, 3) by decide +kernel) ?_ ?_
  · intro q; refine q_forget (L' := [vN, vN, vI x2, vI x3, vO 10 a4, vN]) 1 rfl ?_; refine q_forget (L' := [vN, vN, vN, vI x3, vO 10 a4, vN]) 2 rfl ?_; refine q_forget (L' := [vN, vN, vN, vN, vO 10 a4, vN]) 3 rfl ?_; refine q_forget (L' := [vN, vN, vN, vN, vN, vN]) 4 rfl ?_; exact k1 q
  · intro q; exact k2 q
theorem b101_18 {d : Nat} {Q : Option sV → sM → sG → Prop} {M : sM} {G : sG} {x1 : Int} {x2 : Int} {x3 : Int} {a4 : Nat}  (kk : sC d 98 [vI x2] M G (QI (fun r M1 G1 => sW (sC d) 101 Q 22 [vN, vI x1, vI x2, vI x3, vO 10 a4, vN] (vI r :: []) M1 G1 0 0))) : sW (sC d) 101 Q 18 [vN, vI x1, vI x2, vI x3, vO 10 a4, vN] [] M G 0 0 := by
  refine q_iload_n 19 rfl (show sCode 101 18 = some (.iload_n 2, 1) by decide +kernel) rfl ?_
  exact q_statI [vI x2] 22 rfl (show sCode 101 19 = some (.invokestatic 253, 3) by decide +kernel) (show sMR (sKo 101).1 253 = some 98 by decide +kernel) (show 98 < 1000 ∧ sStat 98 = true ∧ sKo 98 = (11, 1, 2, 0, 0) by decide +kernel) rfl rfl (Nat.le_of_ble_eq_true rfl) rfl rfl rfl (by decide +kernel) kk
theorem b101_22 {d : Nat} {Q : Option sV → sM → sG → Prop} {M : sM} {G : sG} {x1 : Int} {x2 : Int} {x3 : Int} {a4 : Nat} {s0 : Int}  (k1 : s0 = 0 → sW (sC d) 101 Q 34 [vN, vN, vN, vN, vN, vN] [] M G 0 0) (k2 : s0 ≠ 0 → sW (sC d) 101 Q 25 [vN, vI x1, vI x2, vI x3, vO 10 a4, vN] [] M G 0 0) : sW (sC d) 101 Q 22 [vN, vI x1, vI x2, vI x3, vO 10 a4, vN] [vI s0] M G 0 0 := by
  refine q_ifeq 34 25 rfl (by decide) (show sCode 101 22 = some (.ifCond .eq 12, 3) by decide +kernel) ?_ ?_
  · intro q; refine q_forget (L' := [vN, vN, vI x2, vI x3, vO 10 a4, vN]) 1 rfl ?_; refine q_forget (L' := [vN, vN, vN, vI x3, vO 10 a4, vN]) 2 rfl ?_; refine q_forget (L' := [vN, vN, vN, vN, vO 10 a4, vN]) 3 rfl ?_; refine q_forget (L' := [vN, vN, vN, vN, vN, vN]) 4 rfl ?_; exact k1 q
  · intro q; exact k2 q
theorem b101_25 {d : Nat} {Q : Option sV → sM → sG → Prop} {M : sM} {G : sG} {x1 : Int} {x2 : Int} {x3 : Int} {a4 : Nat}  (k1 : x3 < 0 → sW (sC d) 101 Q 34 [vN, vN, vN, vN, vN, vN] [] M G 0 0) (k2 : 0 ≤ x3 → sW (sC d) 101 Q 29 [vN, vI x1, vI x2, vI x3, vO 10 a4, vN] [] M G 0 0) : sW (sC d) 101 Q 25 [vN, vI x1, vI x2, vI x3, vO 10 a4, vN] [] M G 0 0 := by
  refine q_iload_n 26 rfl (show sCode 101 25 = some (.iload_n 3, 1) by decide +kernel) rfl ?_
  refine q_iflt 34 29 rfl (by decide) (show sCode 101 26 = some (.ifCond .lt 8, 3) by decide +kernel) ?_ ?_
  · intro q; refine q_forget (L' := [vN, vN, vI x2, vI x3, vO 10 a4, vN]) 1 rfl ?_; refine q_forget (L' := [vN, vN, vN, vI x3, vO 10 a4, vN]) 2 rfl ?_; refine q_forget (L' := [vN, vN, vN, vN, vO 10 a4, vN]) 3 rfl ?_; refine q_forget (L' := [vN, vN, vN, vN, vN, vN]) 4 rfl ?_; exact k1 q
  · intro q; exact k2 q
theorem b101_29 {d : Nat} {Q : Option sV → sM → sG → Prop} {M : sM} {G : sG} {x1 : Int} {x2 : Int} {x3 : Int} {a4 : Nat}  (k1 : x3 ≤ 1 → sW (sC d) 101 Q 36 [vN, vI x1, vI x2, vI x3, vO 10 a4, vN] [] M G 0 0) (k2 : 1 < x3 → sW (sC d) 101 Q 34 [vN, vN, vN, vN, vN, vN] [] M G 0 0) : sW (sC d) 101 Q 29 [vN, vI x1, vI x2, vI x3, vO 10 a4, vN] [] M G 0 0 := by
  refine q_iload_n 30 rfl (show sCode 101 29 = some (.iload_n 3, 1) by decide +kernel) rfl ?_
  refine q_iconst 31 rfl (show sCode 101 30 = some (.iconst 1, 1) by decide +kernel) ⟨by decide, by decide⟩ ?_
  refine q_icmple 36 34 rfl (by decide) (show sCode 101 31 = some (.if_icmp .le 5, 3) by decide +kernel) ?_ ?_
  · intro q; exact k1 q
  · intro q; refine q_forget (L' := [vN, vN, vI x2, vI x3, vO 10 a4, vN]) 1 rfl ?_; refine q_forget (L' := [vN, vN, vN, vI x3, vO 10 a4, vN]) 2 rfl ?_; refine q_forget (L' := [vN, vN, vN, vN, vO 10 a4, vN]) 3 rfl ?_; refine q_forget (L' := [vN, vN, vN, vN, vN, vN]) 4 rfl ?_; exact k2 q
theorem b101_34 {d : Nat} {P : Int → sM → sG → Prop} {M : sM} {G : sG}   (kk : P (-1) M G) : sW (sC d) 101 (QI P) 34 [vN, vN, vN, vN, vN, vN] [] M G 0 0 := by
  refine q_iconst 35 rfl (show sCode 101 34 = some (.iconst (-1), 1) by decide +kernel) ⟨by decide, by decide⟩ ?_
  exact q_iret (show sCode 101 35 = some (.ireturn, 1) by decide +kernel) (by decide +kernel) (by decide +kernel) kk
theorem b101_36 {d : Nat} {Q : Option sV → sM → sG → Prop} {M : sM} {G : sG} {x1 : Int} {x2 : Int} {x3 : Int} {a4 : Nat}  (kk : sC d 103 [vO 10 a4, vI x1, vI x2] M G (QI (fun r M1 G1 => sW (sC d) 101 Q 43 [vN, vN, vN, vI x3, vN, vN] (vI r :: []) M1 G1 0 0))) : sW (sC d) 101 Q 36 [vN, vI x1, vI x2, vI x3, vO 10 a4, vN] [] M G 0 0 := by
  refine q_aload 38 rfl (show sCode 101 36 = some (.aload 4, 2) by decide +kernel) rfl (Nat.le_of_ble_eq_true rfl) ?_
  refine q_iload_n 39 rfl (show sCode 101 38 = some (.iload_n 1, 1) by decide +kernel) rfl ?_
  refine q_iload_n 40 rfl (show sCode 101 39 = some (.iload_n 2, 1) by decide +kernel) rfl ?_
  refine q_forget (L' := [vN, vN, vI x2, vI x3, vO 10 a4, vN]) 1 rfl ?_
  refine q_forget (L' := [vN, vN, vN, vI x3, vO 10 a4, vN]) 2 rfl ?_
  refine q_forget (L' := [vN, vN, vN, vI x3, vN, vN]) 4 rfl ?_
  exact q_statI [vO 10 a4, vI x1, vI x2] 43 rfl (show sCode 101 40 = some (.invokestatic 263, 3) by decide +kernel) (show sMR (sKo 101).1 263 = some 103 by decide +kernel) (show 103 < 1000 ∧ sStat 103 = true ∧ sKo 103 = (1, 3, 1, 0, 0) by decide +kernel) rfl rfl (Nat.le_of_ble_eq_true rfl) rfl rfl rfl (by decide +kernel) kk
theorem b101_43 {d : Nat} {Q : Option sV → sM → sG → Prop} {M : sM} {G : sG} {x3 : Int} {s0 : Int}  (k1 : x3 ≠ 1 → sW (sC d) 101 Q 53 [vN, vN, vN, vN, vN, vI s0] [] M G 0 0) (k2 : x3 = 1 → sW (sC d) 101 Q 50 [vN, vN, vN, vN, vN, vI s0] [] M G 0 0) : sW (sC d) 101 Q 43 [vN, vN, vN, vI x3, vN, vN] [vI s0] M G 0 0 := by
  refine q_istore [vN, vN, vN, vI x3, vN, vI s0] 45 rfl (show sCode 101 43 = some (.istore 5, 2) by decide +kernel) (Nat.lt_of_lt_of_le (Nat.lt_succ_self _) (Nat.le_of_ble_eq_true rfl)) rfl rfl ?_
  refine q_iload_n 46 rfl (show sCode 101 45 = some (.iload_n 3, 1) by decide +kernel) rfl ?_
  refine q_iconst 47 rfl (show sCode 101 46 = some (.iconst 1, 1) by decide +kernel) ⟨by decide, by decide⟩ ?_
  refine q_icmpne 53 50 rfl (by decide) (show sCode 101 47 = some (.if_icmp .ne 6, 3) by decide +kernel) ?_ ?_
  · intro q; refine q_forget (L' := [vN, vN, vN, vN, vN, vI s0]) 3 rfl ?_; exact k1 q
  · intro q; refine q_forget (L' := [vN, vN, vN, vN, vN, vI s0]) 3 rfl ?_; exact k2 q
theorem b101_50 {d : Nat} {P : Int → sM → sG → Prop} {M : sM} {G : sG} {x5 : Int}  (kk : P x5 M G) : sW (sC d) 101 (QI P) 50 [vN, vN, vN, vN, vN, vI x5] [] M G 0 0 := by
  refine q_iload 52 rfl (show sCode 101 50 = some (.iload 5, 2) by decide +kernel) rfl ?_
  exact q_iret (show sCode 101 52 = some (.ireturn, 1) by decide +kernel) (by decide +kernel) (by decide +kernel) kk
theorem b101_53 {d : Nat} {Q : Option sV → sM → sG → Prop} {M : sM} {G : sG} {x5 : Int}  (k1 : x5 ≠ 0 → sW (sC d) 101 Q 62 [vN, vN, vN, vN, vN, vN] [] M G 0 0) (k2 : x5 = 0 → sW (sC d) 101 Q 58 [vN, vN, vN, vN, vN, vN] [] M G 0 0) : sW (sC d) 101 Q 53 [vN, vN, vN, vN, vN, vI x5] [] M G 0 0 := by
  refine q_iload 55 rfl (show sCode 101 53 = some (.iload 5, 2) by decide +kernel) rfl ?_
  refine q_ifne 62 58 rfl (by decide) (show sCode 101 55 = some (.ifCond .ne 7, 3) by decide +kernel) ?_ ?_
  · intro q; refine q_forget (L' := [vN, vN, vN, vN, vN, vN]) 5 rfl ?_; exact k1 q
  · intro q; refine q_forget (L' := [vN, vN, vN, vN, vN, vN]) 5 rfl ?_; exact k2 q
theorem b101_58 {d : Nat} {Q : Option sV → sM → sG → Prop} {M : sM} {G : sG}   (kk : sW (sC d) 101 Q 63 [vN, vN, vN, vN, vN, vN] [vI 1] M G 0 0) : sW (sC d) 101 Q 58 [vN, vN, vN, vN, vN, vN] [] M G 0 0 := by
  refine q_iconst 59 rfl (show sCode 101 58 = some (.iconst 1, 1) by decide +kernel) ⟨by decide, by decide⟩ ?_
  refine q_goto 63 (by decide) (show sCode 101 59 = some (.goto 4, 3) by decide +kernel) ?_
  exact kk
theorem b101_62 {d : Nat} {Q : Option sV → sM → sG → Prop} {M : sM} {G : sG}   (kk : sW (sC d) 101 Q 63 [vN, vN, vN, vN, vN, vN] [vI 0] M G 0 0) : sW (sC d) 101 Q 62 [vN, vN, vN, vN, vN, vN] [] M G 0 0 := by
  refine q_iconst 63 rfl (show sCode 101 62 = some (.iconst 0, 1) by decide +kernel) ⟨by decide, by decide⟩ ?_
  exact kk
theorem b101_63 {d : Nat} {P : Int → sM → sG → Prop} {M : sM} {G : sG} {s0 : Int}  (kk : P s0 M G) : sW (sC d) 101 (QI P) 63 [vN, vN, vN, vN, vN, vN] [vI s0] M G 0 0 := by
  exact q_iret (show sCode 101 63 = some (.ireturn, 1) by decide +kernel) (by decide +kernel) (by decide +kernel) kk
-- 104 AfterTheLast.most (II)I
theorem b104_0 {d : Nat} {Q : Option sV → sM → sG → Prop} {M : sM} {G : sG} {a0 : Nat} {x1 : Int} {x2 : Int}  (kk : sC d 55 [vO 10 (a0 + 13), vI x1] M G (QI (fun r M1 G1 => sW (sC d) 104 Q 11 [vO 11 a0, vI x1, vI x2, vN] (vI r :: []) M1 G1 0 0))) : sW (sC d) 104 Q 0 [vO 11 a0, vI x1, vI x2, vN] [] M G 0 0 := by
  refine q_aload_n 1 rfl (show sCode 104 0 = some (.aload_n 0, 1) by decide +kernel) rfl (Nat.le_of_ble_eq_true rfl) ?_
  refine q_getR (vO 8 (a0 + 12)) 4 rfl (show sCode 104 1 = some (.getfield 32, 3) by decide +kernel) (show sFR (sKo 104).1 32 = some (11, 3) by decide +kernel) (by decide +kernel) (Or.inl (Or.inl rfl)) rfl ?_
  refine q_getR (vO 10 (a0 + 13)) 7 rfl (show sCode 104 4 = some (.getfield 103, 3) by decide +kernel) (show sFR (sKo 104).1 103 = some (8, 0) by decide +kernel) (by decide +kernel) (Or.inl (Or.inl rfl)) rfl ?_
  refine q_iload_n 8 rfl (show sCode 104 7 = some (.iload_n 1, 1) by decide +kernel) rfl ?_
  exact q_virtI [vI x1] 11 rfl (show sCode 104 8 = some (.invokevirtual 120, 3) by decide +kernel) (show sMR (sKo 104).1 120 = some 55 by decide +kernel) (show 55 < 1000 ∧ sStat 55 = false ∧ sIni 55 = false ∧ sKo 55 = (10, 1, 2, 0, 0) by decide +kernel) rfl (Or.inl rfl) rfl (Nat.le_of_ble_eq_true rfl) rfl rfl rfl (by decide +kernel) kk
theorem b104_11 {d : Nat} {Q : Option sV → sM → sG → Prop} {M : sM} {G : sG} {a0 : Nat} {x1 : Int} {x2 : Int} {s0 : Int}  (k1 : s0 = 0 → sW (sC d) 104 Q 23 [vN, vN, vN, vN] [] M G 0 0) (k2 : s0 ≠ 0 → sW (sC d) 104 Q 14 [vO 11 a0, vI x1, vI x2, vN] [] M G 0 0) : sW (sC d) 104 Q 11 [vO 11 a0, vI x1, vI x2, vN] [vI s0] M G 0 0 := by
  refine q_ifeq 23 14 rfl (by decide) (show sCode 104 11 = some (.ifCond .eq 12, 3) by decide +kernel) ?_ ?_
  · intro q; refine q_forget (L' := [vN, vI x1, vI x2, vN]) 0 rfl ?_; refine q_forget (L' := [vN, vN, vI x2, vN]) 1 rfl ?_; refine q_forget (L' := [vN, vN, vN, vN]) 2 rfl ?_; exact k1 q
  · intro q; exact k2 q
theorem b104_14 {d : Nat} {Q : Option sV → sM → sG → Prop} {M : sM} {G : sG} {a0 : Nat} {x1 : Int} {x2 : Int}  (k1 : x2 < 0 → sW (sC d) 104 Q 23 [vN, vN, vN, vN] [] M G 0 0) (k2 : 0 ≤ x2 → sW (sC d) 104 Q 18 [vO 11 a0, vI x1, vI x2, vN] [] M G 0 0) : sW (sC d) 104 Q 14 [vO 11 a0, vI x1, vI x2, vN] [] M G 0 0 := by
  refine q_iload_n 15 rfl (show sCode 104 14 = some (.iload_n 2, 1) by decide +kernel) rfl ?_
  refine q_iflt 23 18 rfl (by decide) (show sCode 104 15 = some (.ifCond .lt 8, 3) by decide +kernel) ?_ ?_
  · intro q; refine q_forget (L' := [vN, vI x1, vI x2, vN]) 0 rfl ?_; refine q_forget (L' := [vN, vN, vI x2, vN]) 1 rfl ?_; refine q_forget (L' := [vN, vN, vN, vN]) 2 rfl ?_; exact k1 q
  · intro q; exact k2 q
theorem b104_18 {d : Nat} {Q : Option sV → sM → sG → Prop} {M : sM} {G : sG} {a0 : Nat} {x1 : Int} {x2 : Int}  (k1 : x2 ≤ 1 → sW (sC d) 104 Q 25 [vO 11 a0, vI x1, vI x2, vN] [] M G 0 0) (k2 : 1 < x2 → sW (sC d) 104 Q 23 [vN, vN, vN, vN] [] M G 0 0) : sW (sC d) 104 Q 18 [vO 11 a0, vI x1, vI x2, vN] [] M G 0 0 := by
  refine q_iload_n 19 rfl (show sCode 104 18 = some (.iload_n 2, 1) by decide +kernel) rfl ?_
  refine q_iconst 20 rfl (show sCode 104 19 = some (.iconst 1, 1) by decide +kernel) ⟨by decide, by decide⟩ ?_
  refine q_icmple 25 23 rfl (by decide) (show sCode 104 20 = some (.if_icmp .le 5, 3) by decide +kernel) ?_ ?_
  · intro q; exact k1 q
  · intro q; refine q_forget (L' := [vN, vI x1, vI x2, vN]) 0 rfl ?_; refine q_forget (L' := [vN, vN, vI x2, vN]) 1 rfl ?_; refine q_forget (L' := [vN, vN, vN, vN]) 2 rfl ?_; exact k2 q
theorem b104_23 {d : Nat} {P : Int → sM → sG → Prop} {M : sM} {G : sG}   (kk : P (-1) M G) : sW (sC d) 104 (QI P) 23 [vN, vN, vN, vN] [] M G 0 0 := by
  refine q_iconst 24 rfl (show sCode 104 23 = some (.iconst (-1), 1) by decide +kernel) ⟨by decide, by decide⟩ ?_
  exact q_iret (show sCode 104 24 = some (.ireturn, 1) by decide +kernel) (by decide +kernel) (by decide +kernel) kk
theorem b104_25 {d : Nat} {Q : Option sV → sM → sG → Prop} {M : sM} {G : sG} {a0 : Nat} {x1 : Int} {x2 : Int}  (kk : sC d 105 [vO 1 (a0 + 59), vO 10 (a0 + 13), vI x1] M G (QI (fun r M1 G1 => sW (sC d) 104 Q 40 [vN, vN, vI x2, vN] (vI r :: []) M1 G1 0 0))) : sW (sC d) 104 Q 25 [vO 11 a0, vI x1, vI x2, vN] [] M G 0 0 := by
  refine q_aload_n 26 rfl (show sCode 104 25 = some (.aload_n 0, 1) by decide +kernel) rfl (Nat.le_of_ble_eq_true rfl) ?_
  refine q_getR (vO 1 (a0 + 59)) 29 rfl (show sCode 104 26 = some (.getfield 57, 3) by decide +kernel) (show sFR (sKo 104).1 57 = some (11, 7) by decide +kernel) (by decide +kernel) (Or.inl (Or.inl rfl)) rfl ?_
  refine q_aload_n 30 rfl (show sCode 104 29 = some (.aload_n 0, 1) by decide +kernel) rfl (Nat.le_of_ble_eq_true rfl) ?_
  refine q_getR (vO 8 (a0 + 12)) 33 rfl (show sCode 104 30 = some (.getfield 32, 3) by decide +kernel) (show sFR (sKo 104).1 32 = some (11, 3) by decide +kernel) (by decide +kernel) (Or.inl (Or.inl rfl)) rfl ?_
  refine q_getR (vO 10 (a0 + 13)) 36 rfl (show sCode 104 33 = some (.getfield 103, 3) by decide +kernel) (show sFR (sKo 104).1 103 = some (8, 0) by decide +kernel) (by decide +kernel) (Or.inl (Or.inl rfl)) rfl ?_
  refine q_iload_n 37 rfl (show sCode 104 36 = some (.iload_n 1, 1) by decide +kernel) rfl ?_
  refine q_forget (L' := [vN, vI x1, vI x2, vN]) 0 rfl ?_
  refine q_forget (L' := [vN, vN, vI x2, vN]) 1 rfl ?_
  exact q_virtI [vO 10 (a0 + 13), vI x1] 40 rfl (show sCode 104 37 = some (.invokevirtual 267, 3) by decide +kernel) (show sMR (sKo 104).1 267 = some 105 by decide +kernel) (show 105 < 1000 ∧ sStat 105 = false ∧ sIni 105 = false ∧ sKo 105 = (1, 2, 1, 0, 0) by decide +kernel) rfl (Or.inl rfl) rfl (Nat.le_of_ble_eq_true rfl) rfl rfl rfl (by decide +kernel) kk
theorem b104_40 {d : Nat} {Q : Option sV → sM → sG → Prop} {M : sM} {G : sG} {x2 : Int} {s0 : Int}  (k1 : x2 ≠ 0 → sW (sC d) 104 Q 52 [vN, vN, vN, vI s0] [] M G 0 0) (k2 : x2 = 0 → sW (sC d) 104 Q 45 [vN, vN, vN, vI s0] [] M G 0 0) : sW (sC d) 104 Q 40 [vN, vN, vI x2, vN] [vI s0] M G 0 0 := by
  refine q_istore_n [vN, vN, vI x2, vI s0] 41 rfl (show sCode 104 40 = some (.istore_n 3, 1) by decide +kernel) (Nat.lt_of_lt_of_le (Nat.lt_succ_self _) (Nat.le_of_ble_eq_true rfl)) rfl rfl ?_
  refine q_iload_n 42 rfl (show sCode 104 41 = some (.iload_n 2, 1) by decide +kernel) rfl ?_
  refine q_ifne 52 45 rfl (by decide) (show sCode 104 42 = some (.ifCond .ne 10, 3) by decide +kernel) ?_ ?_
  · intro q; refine q_forget (L' := [vN, vN, vN, vI s0]) 2 rfl ?_; exact k1 q
  · intro q; refine q_forget (L' := [vN, vN, vN, vI s0]) 2 rfl ?_; exact k2 q
theorem b104_45 {d : Nat} {Q : Option sV → sM → sG → Prop} {M : sM} {G : sG} {x3 : Int}  (kk : sC d 110 [vI x3] M G (QI (fun r M1 G1 => sW (sC d) 104 Q 49 [vN, vN, vN, vN] (vI r :: []) M1 G1 0 0))) : sW (sC d) 104 Q 45 [vN, vN, vN, vI x3] [] M G 0 0 := by
  refine q_iload_n 46 rfl (show sCode 104 45 = some (.iload_n 3, 1) by decide +kernel) rfl ?_
  refine q_forget (L' := [vN, vN, vN, vN]) 3 rfl ?_
  exact q_statI [vI x3] 49 rfl (show sCode 104 46 = some (.invokestatic 270, 3) by decide +kernel) (show sMR (sKo 104).1 270 = some 110 by decide +kernel) (show 110 < 1000 ∧ sStat 110 = true ∧ sKo 110 = (1, 1, 1, 0, 0) by decide +kernel) rfl rfl (Nat.le_of_ble_eq_true rfl) rfl rfl rfl (by decide +kernel) kk
theorem b104_49 {d : Nat} {Q : Option sV → sM → sG → Prop} {M : sM} {G : sG} {s0 : Int}  (kk : sW (sC d) 104 Q 56 [vN, vN, vN, vN] [vI s0] M G 0 0) : sW (sC d) 104 Q 49 [vN, vN, vN, vN] [vI s0] M G 0 0 := by
  refine q_goto 56 (by decide) (show sCode 104 49 = some (.goto 7, 3) by decide +kernel) ?_
  exact kk
theorem b104_52 {d : Nat} {Q : Option sV → sM → sG → Prop} {M : sM} {G : sG} {x3 : Int}  (kk : sC d 111 [vI x3] M G (QI (fun r M1 G1 => sW (sC d) 104 Q 56 [vN, vN, vN, vN] (vI r :: []) M1 G1 0 0))) : sW (sC d) 104 Q 52 [vN, vN, vN, vI x3] [] M G 0 0 := by
  refine q_iload_n 53 rfl (show sCode 104 52 = some (.iload_n 3, 1) by decide +kernel) rfl ?_
  refine q_forget (L' := [vN, vN, vN, vN]) 3 rfl ?_
  exact q_statI [vI x3] 56 rfl (show sCode 104 53 = some (.invokestatic 273, 3) by decide +kernel) (show sMR (sKo 104).1 273 = some 111 by decide +kernel) (show 111 < 1000 ∧ sStat 111 = true ∧ sKo 111 = (1, 1, 1, 0, 0) by decide +kernel) rfl rfl (Nat.le_of_ble_eq_true rfl) rfl rfl rfl (by decide +kernel) kk
theorem b104_56 {d : Nat} {P : Int → sM → sG → Prop} {M : sM} {G : sG} {s0 : Int}  (kk : P s0 M G) : sW (sC d) 104 (QI P) 56 [vN, vN, vN, vN] [vI s0] M G 0 0 := by
  exact q_iret (show sCode 104 56 = some (.ireturn, 1) by decide +kernel) (by decide +kernel) (by decide +kernel) kk
-- 112 AfterTheLast.houses (III)I
theorem b112_0 {d : Nat} {Q : Option sV → sM → sG → Prop} {M : sM} {G : sG} {a0 : Nat} {x1 : Int} {x2 : Int} {x3 : Int}  (kk : sC d 102 [vO 10 (a0 + 13), vI x1] M G (QI (fun r M1 G1 => sW (sC d) 112 Q 15 [vO 11 a0, vI x1, vI x2, vI x3, vO 10 (a0 + 13), vN] (vI r :: []) M1 G1 0 0))) : sW (sC d) 112 Q 0 [vO 11 a0, vI x1, vI x2, vI x3, vN, vN] [] M G 0 0 := by
  refine q_aload_n 1 rfl (show sCode 112 0 = some (.aload_n 0, 1) by decide +kernel) rfl (Nat.le_of_ble_eq_true rfl) ?_
  refine q_getR (vO 8 (a0 + 12)) 4 rfl (show sCode 112 1 = some (.getfield 32, 3) by decide +kernel) (show sFR (sKo 112).1 32 = some (11, 3) by decide +kernel) (by decide +kernel) (Or.inl (Or.inl rfl)) rfl ?_
  refine q_getR (vO 10 (a0 + 13)) 7 rfl (show sCode 112 4 = some (.getfield 103, 3) by decide +kernel) (show sFR (sKo 112).1 103 = some (8, 0) by decide +kernel) (by decide +kernel) (Or.inl (Or.inl rfl)) rfl ?_
  refine q_astore [vO 11 a0, vI x1, vI x2, vI x3, vO 10 (a0 + 13), vN] 9 rfl (show sCode 112 7 = some (.astore 4, 2) by decide +kernel) (by first | exact ⟨Nat.le_of_ble_eq_true rfl, Or.inl (Nat.lt_of_lt_of_le (Nat.lt_succ_self _) (Nat.le_of_ble_eq_true rfl))⟩ | exact ⟨Nat.le_of_ble_eq_true rfl, Or.inr (Nat.le_of_ble_eq_true rfl)⟩) (Nat.lt_of_lt_of_le (Nat.lt_succ_self _) (Nat.le_of_ble_eq_true rfl)) rfl rfl ?_
  refine q_aload 11 rfl (show sCode 112 9 = some (.aload 4, 2) by decide +kernel) rfl (Nat.le_of_ble_eq_true rfl) ?_
  refine q_iload_n 12 rfl (show sCode 112 11 = some (.iload_n 1, 1) by decide +kernel) rfl ?_
  exact q_virtI [vI x1] 15 rfl (show sCode 112 12 = some (.invokevirtual 260, 3) by decide +kernel) (show sMR (sKo 112).1 260 = some 102 by decide +kernel) (show 102 < 1000 ∧ sStat 102 = false ∧ sIni 102 = false ∧ sKo 102 = (10, 1, 2, 0, 0) by decide +kernel) rfl (Or.inl rfl) rfl (Nat.le_of_ble_eq_true rfl) rfl rfl rfl (by decide +kernel) kk
theorem b112_15 {d : Nat} {Q : Option sV → sM → sG → Prop} {M : sM} {G : sG} {a0 : Nat} {x1 : Int} {x2 : Int} {x3 : Int} {a4 : Nat} {s0 : Int}  (k1 : s0 = 0 → sW (sC d) 112 Q 34 [vN, vN, vN, vN, vN, vN] [] M G 0 0) (k2 : s0 ≠ 0 → sW (sC d) 112 Q 18 [vO 11 a0, vI x1, vI x2, vI x3, vO 10 a4, vN] [] M G 0 0) : sW (sC d) 112 Q 15 [vO 11 a0, vI x1, vI x2, vI x3, vO 10 a4, vN] [vI s0] M G 0 0 := by
  refine q_ifeq 34 18 rfl (by decide) (show sCode 112 15 = some (.ifCond .eq 19, 3) by decide +kernel) ?_ ?_
  · intro q; refine q_forget (L' := [vN, vI x1, vI x2, vI x3, vO 10 a4, vN]) 0 rfl ?_; refine q_forget (L' := [vN, vN, vI x2, vI x3, vO 10 a4, vN]) 1 rfl ?_; refine q_forget (L' := [vN, vN, vN, vI x3, vO 10 a4, vN]) 2 rfl ?_; refine q_forget (L' := [vN, vN, vN, vN, vO 10 a4, vN]) 3 rfl ?_; refine q_forget (L' := [vN, vN, vN, vN, vN, vN]) 4 rfl ?_; exact k1 q
  · intro q; exact k2 q
theorem b112_18 {d : Nat} {Q : Option sV → sM → sG → Prop} {M : sM} {G : sG} {a0 : Nat} {x1 : Int} {x2 : Int} {x3 : Int} {a4 : Nat}  (kk : sC d 98 [vI x2] M G (QI (fun r M1 G1 => sW (sC d) 112 Q 22 [vO 11 a0, vI x1, vI x2, vI x3, vO 10 a4, vN] (vI r :: []) M1 G1 0 0))) : sW (sC d) 112 Q 18 [vO 11 a0, vI x1, vI x2, vI x3, vO 10 a4, vN] [] M G 0 0 := by
  refine q_iload_n 19 rfl (show sCode 112 18 = some (.iload_n 2, 1) by decide +kernel) rfl ?_
  exact q_statI [vI x2] 22 rfl (show sCode 112 19 = some (.invokestatic 253, 3) by decide +kernel) (show sMR (sKo 112).1 253 = some 98 by decide +kernel) (show 98 < 1000 ∧ sStat 98 = true ∧ sKo 98 = (11, 1, 2, 0, 0) by decide +kernel) rfl rfl (Nat.le_of_ble_eq_true rfl) rfl rfl rfl (by decide +kernel) kk
theorem b112_22 {d : Nat} {Q : Option sV → sM → sG → Prop} {M : sM} {G : sG} {a0 : Nat} {x1 : Int} {x2 : Int} {x3 : Int} {a4 : Nat} {s0 : Int}  (k1 : s0 = 0 → sW (sC d) 112 Q 34 [vN, vN, vN, vN, vN, vN] [] M G 0 0) (k2 : s0 ≠ 0 → sW (sC d) 112 Q 25 [vO 11 a0, vI x1, vI x2, vI x3, vO 10 a4, vN] [] M G 0 0) : sW (sC d) 112 Q 22 [vO 11 a0, vI x1, vI x2, vI x3, vO 10 a4, vN] [vI s0] M G 0 0 := by
  refine q_ifeq 34 25 rfl (by decide) (show sCode 112 22 = some (.ifCond .eq 12, 3) by decide +kernel) ?_ ?_
  · intro q; refine q_forget (L' := [vN, vI x1, vI x2, vI x3, vO 10 a4, vN]) 0 rfl ?_; refine q_forget (L' := [vN, vN, vI x2, vI x3, vO 10 a4, vN]) 1 rfl ?_; refine q_forget (L' := [vN, vN, vN, vI x3, vO 10 a4, vN]) 2 rfl ?_; refine q_forget (L' := [vN, vN, vN, vN, vO 10 a4, vN]) 3 rfl ?_; refine q_forget (L' := [vN, vN, vN, vN, vN, vN]) 4 rfl ?_; exact k1 q
  · intro q; exact k2 q
theorem b112_25 {d : Nat} {Q : Option sV → sM → sG → Prop} {M : sM} {G : sG} {a0 : Nat} {x1 : Int} {x2 : Int} {x3 : Int} {a4 : Nat}  (k1 : x3 < 0 → sW (sC d) 112 Q 34 [vN, vN, vN, vN, vN, vN] [] M G 0 0) (k2 : 0 ≤ x3 → sW (sC d) 112 Q 29 [vO 11 a0, vI x1, vI x2, vI x3, vO 10 a4, vN] [] M G 0 0) : sW (sC d) 112 Q 25 [vO 11 a0, vI x1, vI x2, vI x3, vO 10 a4, vN] [] M G 0 0 := by
  refine q_iload_n 26 rfl (show sCode 112 25 = some (.iload_n 3, 1) by decide +kernel) rfl ?_
  refine q_iflt 34 29 rfl (by decide) (show sCode 112 26 = some (.ifCond .lt 8, 3) by decide +kernel) ?_ ?_
  · intro q; refine q_forget (L' := [vN, vI x1, vI x2, vI x3, vO 10 a4, vN]) 0 rfl ?_; refine q_forget (L' := [vN, vN, vI x2, vI x3, vO 10 a4, vN]) 1 rfl ?_; refine q_forget (L' := [vN, vN, vN, vI x3, vO 10 a4, vN]) 2 rfl ?_; refine q_forget (L' := [vN, vN, vN, vN, vO 10 a4, vN]) 3 rfl ?_; refine q_forget (L' := [vN, vN, vN, vN, vN, vN]) 4 rfl ?_; exact k1 q
  · intro q; exact k2 q
theorem b112_29 {d : Nat} {Q : Option sV → sM → sG → Prop} {M : sM} {G : sG} {a0 : Nat} {x1 : Int} {x2 : Int} {x3 : Int} {a4 : Nat}  (k1 : x3 ≤ 1 → sW (sC d) 112 Q 36 [vO 11 a0, vI x1, vI x2, vI x3, vO 10 a4, vN] [] M G 0 0) (k2 : 1 < x3 → sW (sC d) 112 Q 34 [vN, vN, vN, vN, vN, vN] [] M G 0 0) : sW (sC d) 112 Q 29 [vO 11 a0, vI x1, vI x2, vI x3, vO 10 a4, vN] [] M G 0 0 := by
  refine q_iload_n 30 rfl (show sCode 112 29 = some (.iload_n 3, 1) by decide +kernel) rfl ?_
  refine q_iconst 31 rfl (show sCode 112 30 = some (.iconst 1, 1) by decide +kernel) ⟨by decide, by decide⟩ ?_
  refine q_icmple 36 34 rfl (by decide) (show sCode 112 31 = some (.if_icmp .le 5, 3) by decide +kernel) ?_ ?_
  · intro q; exact k1 q
  · intro q; refine q_forget (L' := [vN, vI x1, vI x2, vI x3, vO 10 a4, vN]) 0 rfl ?_; refine q_forget (L' := [vN, vN, vI x2, vI x3, vO 10 a4, vN]) 1 rfl ?_; refine q_forget (L' := [vN, vN, vN, vI x3, vO 10 a4, vN]) 2 rfl ?_; refine q_forget (L' := [vN, vN, vN, vN, vO 10 a4, vN]) 3 rfl ?_; refine q_forget (L' := [vN, vN, vN, vN, vN, vN]) 4 rfl ?_; exact k2 q
theorem b112_34 {d : Nat} {P : Int → sM → sG → Prop} {M : sM} {G : sG}   (kk : P (-1) M G) : sW (sC d) 112 (QI P) 34 [vN, vN, vN, vN, vN, vN] [] M G 0 0 := by
  refine q_iconst 35 rfl (show sCode 112 34 = some (.iconst (-1), 1) by decide +kernel) ⟨by decide, by decide⟩ ?_
  exact q_iret (show sCode 112 35 = some (.ireturn, 1) by decide +kernel) (by decide +kernel) (by decide +kernel) kk
theorem b112_36 {d : Nat} {Q : Option sV → sM → sG → Prop} {M : sM} {G : sG} {a0 : Nat} {x1 : Int} {x2 : Int} {x3 : Int} {a4 : Nat}  (kk : sC d 113 [vI x1] M G (QI (fun r M1 G1 => sW (sC d) 112 Q 40 [vO 11 a0, vI x1, vI x2, vI x3, vO 10 a4, vN] (vI r :: []) M1 G1 0 0))) : sW (sC d) 112 Q 36 [vO 11 a0, vI x1, vI x2, vI x3, vO 10 a4, vN] [] M G 0 0 := by
  refine q_iload_n 37 rfl (show sCode 112 36 = some (.iload_n 1, 1) by decide +kernel) rfl ?_
  exact q_statI [vI x1] 40 rfl (show sCode 112 37 = some (.invokestatic 276, 3) by decide +kernel) (show sMR (sKo 112).1 276 = some 113 by decide +kernel) (show 113 < 1000 ∧ sStat 113 = true ∧ sKo 113 = (15, 1, 1, 0, 0) by decide +kernel) rfl rfl (Nat.le_of_ble_eq_true rfl) rfl rfl rfl (by decide +kernel) kk
theorem b112_40 {d : Nat} {Q : Option sV → sM → sG → Prop} {M : sM} {G : sG} {a0 : Nat} {x1 : Int} {x2 : Int} {x3 : Int} {a4 : Nat} {s0 : Int}  (k1 : s0 < 1 → sW (sC d) 112 Q 55 [vN, vN, vN, vN, vN, vN] [] M G 0 0) (k2 : 1 ≤ s0 → sW (sC d) 112 Q 48 [vO 11 a0, vI x1, vI x2, vI x3, vO 10 a4, vI s0] [] M G 0 0) : sW (sC d) 112 Q 40 [vO 11 a0, vI x1, vI x2, vI x3, vO 10 a4, vN] [vI s0] M G 0 0 := by
  refine q_istore [vO 11 a0, vI x1, vI x2, vI x3, vO 10 a4, vI s0] 42 rfl (show sCode 112 40 = some (.istore 5, 2) by decide +kernel) (Nat.lt_of_lt_of_le (Nat.lt_succ_self _) (Nat.le_of_ble_eq_true rfl)) rfl rfl ?_
  refine q_iload 44 rfl (show sCode 112 42 = some (.iload 5, 2) by decide +kernel) rfl ?_
  refine q_iconst 45 rfl (show sCode 112 44 = some (.iconst 1, 1) by decide +kernel) ⟨by decide, by decide⟩ ?_
  refine q_icmplt 55 48 rfl (by decide) (show sCode 112 45 = some (.if_icmp .lt 10, 3) by decide +kernel) ?_ ?_
  · intro q; refine q_forget (L' := [vN, vI x1, vI x2, vI x3, vO 10 a4, vI s0]) 0 rfl ?_; refine q_forget (L' := [vN, vN, vI x2, vI x3, vO 10 a4, vI s0]) 1 rfl ?_; refine q_forget (L' := [vN, vN, vN, vI x3, vO 10 a4, vI s0]) 2 rfl ?_; refine q_forget (L' := [vN, vN, vN, vN, vO 10 a4, vI s0]) 3 rfl ?_; refine q_forget (L' := [vN, vN, vN, vN, vN, vI s0]) 4 rfl ?_; refine q_forget (L' := [vN, vN, vN, vN, vN, vN]) 5 rfl ?_; exact k1 q
  · intro q; exact k2 q
theorem b112_48 {d : Nat} {Q : Option sV → sM → sG → Prop} {M : sM} {G : sG} {a0 : Nat} {x1 : Int} {x2 : Int} {x3 : Int} {a4 : Nat} {x5 : Int}  (k1 : x5 ≤ 12 → sW (sC d) 112 Q 57 [vO 11 a0, vI x1, vI x2, vI x3, vO 10 a4, vN] [] M G 0 0) (k2 : 12 < x5 → sW (sC d) 112 Q 55 [vN, vN, vN, vN, vN, vN] [] M G 0 0) : sW (sC d) 112 Q 48 [vO 11 a0, vI x1, vI x2, vI x3, vO 10 a4, vI x5] [] M G 0 0 := by
  refine q_iload 50 rfl (show sCode 112 48 = some (.iload 5, 2) by decide +kernel) rfl ?_
  refine q_bipush 52 rfl (show sCode 112 50 = some (.bipush 12, 2) by decide +kernel) ⟨by decide, by decide⟩ (by decide +kernel) ?_
  refine q_icmple 57 55 rfl (by decide) (show sCode 112 52 = some (.if_icmp .le 5, 3) by decide +kernel) ?_ ?_
  · intro q; refine q_forget (L' := [vO 11 a0, vI x1, vI x2, vI x3, vO 10 a4, vN]) 5 rfl ?_; exact k1 q
  · intro q; refine q_forget (L' := [vN, vI x1, vI x2, vI x3, vO 10 a4, vI x5]) 0 rfl ?_; refine q_forget (L' := [vN, vN, vI x2, vI x3, vO 10 a4, vI x5]) 1 rfl ?_; refine q_forget (L' := [vN, vN, vN, vI x3, vO 10 a4, vI x5]) 2 rfl ?_; refine q_forget (L' := [vN, vN, vN, vN, vO 10 a4, vI x5]) 3 rfl ?_; refine q_forget (L' := [vN, vN, vN, vN, vN, vI x5]) 4 rfl ?_; refine q_forget (L' := [vN, vN, vN, vN, vN, vN]) 5 rfl ?_; exact k2 q
theorem b112_55 {d : Nat} {P : Int → sM → sG → Prop} {M : sM} {G : sG}   (kk : P (-1) M G) : sW (sC d) 112 (QI P) 55 [vN, vN, vN, vN, vN, vN] [] M G 0 0 := by
  refine q_iconst 56 rfl (show sCode 112 55 = some (.iconst (-1), 1) by decide +kernel) ⟨by decide, by decide⟩ ?_
  exact q_iret (show sCode 112 56 = some (.ireturn, 1) by decide +kernel) (by decide +kernel) (by decide +kernel) kk
theorem b112_57 {d : Nat} {Q : Option sV → sM → sG → Prop} {M : sM} {G : sG} {a0 : Nat} {x1 : Int} {x2 : Int} {x3 : Int} {a4 : Nat}  (kk : sC d 114 [vO 1 (a0 + 59), vO 10 a4, vI x1, vI x2] M G (QV (fun M1 G1 => sW (sC d) 112 Q 68 [vO 11 a0, vN, vN, vI x3, vN, vN] [] M1 G1 0 0))) : sW (sC d) 112 Q 57 [vO 11 a0, vI x1, vI x2, vI x3, vO 10 a4, vN] [] M G 0 0 := by
  refine q_aload_n 58 rfl (show sCode 112 57 = some (.aload_n 0, 1) by decide +kernel) rfl (Nat.le_of_ble_eq_true rfl) ?_
  refine q_getR (vO 1 (a0 + 59)) 61 rfl (show sCode 112 58 = some (.getfield 57, 3) by decide +kernel) (show sFR (sKo 112).1 57 = some (11, 7) by decide +kernel) (by decide +kernel) (Or.inl (Or.inl rfl)) rfl ?_
  refine q_aload 63 rfl (show sCode 112 61 = some (.aload 4, 2) by decide +kernel) rfl (Nat.le_of_ble_eq_true rfl) ?_
  refine q_iload_n 64 rfl (show sCode 112 63 = some (.iload_n 1, 1) by decide +kernel) rfl ?_
  refine q_iload_n 65 rfl (show sCode 112 64 = some (.iload_n 2, 1) by decide +kernel) rfl ?_
  refine q_forget (L' := [vO 11 a0, vN, vI x2, vI x3, vO 10 a4, vN]) 1 rfl ?_
  refine q_forget (L' := [vO 11 a0, vN, vN, vI x3, vO 10 a4, vN]) 2 rfl ?_
  refine q_forget (L' := [vO 11 a0, vN, vN, vI x3, vN, vN]) 4 rfl ?_
  exact q_virtV [vO 10 a4, vI x1, vI x2] 68 rfl (show sCode 112 65 = some (.invokevirtual 281, 3) by decide +kernel) (show sMR (sKo 112).1 281 = some 114 by decide +kernel) (show 114 < 1000 ∧ sStat 114 = false ∧ sIni 114 = false ∧ sKo 114 = (1, 3, 0, 0, 0) by decide +kernel) rfl (Or.inl rfl) rfl (Nat.le_of_ble_eq_true rfl) rfl rfl rfl (by decide +kernel) kk
theorem b112_68 {d : Nat} {Q : Option sV → sM → sG → Prop} {M : sM} {G : sG} {a0 : Nat} {x3 : Int}  (k1 : x3 ≠ 0 → sW (sC d) 112 Q 82 [vO 11 a0, vN, vN, vN, vN, vN] [] M G 0 0) (k2 : x3 = 0 → sW (sC d) 112 Q 72 [vO 11 a0, vN, vN, vN, vN, vN] [] M G 0 0) : sW (sC d) 112 Q 68 [vO 11 a0, vN, vN, vI x3, vN, vN] [] M G 0 0 := by
  refine q_iload_n 69 rfl (show sCode 112 68 = some (.iload_n 3, 1) by decide +kernel) rfl ?_
  refine q_ifne 82 72 rfl (by decide) (show sCode 112 69 = some (.ifCond .ne 13, 3) by decide +kernel) ?_ ?_
  · intro q; refine q_forget (L' := [vO 11 a0, vN, vN, vN, vN, vN]) 3 rfl ?_; exact k1 q
  · intro q; refine q_forget (L' := [vO 11 a0, vN, vN, vN, vN, vN]) 3 rfl ?_; exact k2 q
theorem b112_72 {d : Nat} {Q : Option sV → sM → sG → Prop} {M : sM} {G : sG} {a0 : Nat}  (kk : sC d 115 [vO 1 (a0 + 59)] M G (QI (fun r M1 G1 => sW (sC d) 112 Q 79 [vN, vN, vN, vN, vN, vN] (vI r :: []) M1 G1 0 0))) : sW (sC d) 112 Q 72 [vO 11 a0, vN, vN, vN, vN, vN] [] M G 0 0 := by
  refine q_aload_n 73 rfl (show sCode 112 72 = some (.aload_n 0, 1) by decide +kernel) rfl (Nat.le_of_ble_eq_true rfl) ?_
  refine q_getR (vO 1 (a0 + 59)) 76 rfl (show sCode 112 73 = some (.getfield 57, 3) by decide +kernel) (show sFR (sKo 112).1 57 = some (11, 7) by decide +kernel) (by decide +kernel) (Or.inl (Or.inl rfl)) rfl ?_
  refine q_forget (L' := [vN, vN, vN, vN, vN, vN]) 0 rfl ?_
  exact q_virtI [] 79 rfl (show sCode 112 76 = some (.invokevirtual 285, 3) by decide +kernel) (show sMR (sKo 112).1 285 = some 115 by decide +kernel) (show 115 < 1000 ∧ sStat 115 = false ∧ sIni 115 = false ∧ sKo 115 = (1, 0, 1, 0, 0) by decide +kernel) rfl (Or.inl rfl) rfl (Nat.le_of_ble_eq_true rfl) rfl rfl rfl (by decide +kernel) kk
theorem b112_79 {d : Nat} {Q : Option sV → sM → sG → Prop} {M : sM} {G : sG} {s0 : Int}  (kk : sW (sC d) 112 Q 89 [vN, vN, vN, vN, vN, vN] [vI s0] M G 0 0) : sW (sC d) 112 Q 79 [vN, vN, vN, vN, vN, vN] [vI s0] M G 0 0 := by
  refine q_goto 89 (by decide) (show sCode 112 79 = some (.goto 10, 3) by decide +kernel) ?_
  exact kk
theorem b112_82 {d : Nat} {Q : Option sV → sM → sG → Prop} {M : sM} {G : sG} {a0 : Nat}  (kk : sC d 116 [vO 1 (a0 + 59)] M G (QI (fun r M1 G1 => sW (sC d) 112 Q 89 [vN, vN, vN, vN, vN, vN] (vI r :: []) M1 G1 0 0))) : sW (sC d) 112 Q 82 [vO 11 a0, vN, vN, vN, vN, vN] [] M G 0 0 := by
  refine q_aload_n 83 rfl (show sCode 112 82 = some (.aload_n 0, 1) by decide +kernel) rfl (Nat.le_of_ble_eq_true rfl) ?_
  refine q_getR (vO 1 (a0 + 59)) 86 rfl (show sCode 112 83 = some (.getfield 57, 3) by decide +kernel) (show sFR (sKo 112).1 57 = some (11, 7) by decide +kernel) (by decide +kernel) (Or.inl (Or.inl rfl)) rfl ?_
  refine q_forget (L' := [vN, vN, vN, vN, vN, vN]) 0 rfl ?_
  exact q_virtI [] 89 rfl (show sCode 112 86 = some (.invokevirtual 288, 3) by decide +kernel) (show sMR (sKo 112).1 288 = some 116 by decide +kernel) (show 116 < 1000 ∧ sStat 116 = false ∧ sIni 116 = false ∧ sKo 116 = (1, 0, 1, 0, 0) by decide +kernel) rfl (Or.inl rfl) rfl (Nat.le_of_ble_eq_true rfl) rfl rfl rfl (by decide +kernel) kk
theorem b112_89 {d : Nat} {P : Int → sM → sG → Prop} {M : sM} {G : sG} {s0 : Int}  (kk : P s0 M G) : sW (sC d) 112 (QI P) 89 [vN, vN, vN, vN, vN, vN] [vI s0] M G 0 0 := by
  exact q_iret (show sCode 112 89 = some (.ireturn, 1) by decide +kernel) (by decide +kernel) (by decide +kernel) kk
-- 119 AfterTheLast.wishes (IIIII)I
theorem b119_0 {d : Nat} {Q : Option sV → sM → sG → Prop} {M : sM} {G : sG} {a0 : Nat} {x1 : Int} {x2 : Int} {x3 : Int} {x4 : Int} {x5 : Int}  (k1 : x1 ≠ (-1) → sW (sC d) 119 Q 22 [vN, vI x1, vI x2, vI x3, vI x4, vI x5, vO 9 (a0 + 28)] [] M G 0 0) (k2 : x1 = (-1) → sW (sC d) 119 Q 14 [vN, vN, vN, vN, vN, vN, vO 9 (a0 + 28)] [] M G 0 0) : sW (sC d) 119 Q 0 [vO 11 a0, vI x1, vI x2, vI x3, vI x4, vI x5, vN] [] M G 0 0 := by
  refine q_aload_n 1 rfl (show sCode 119 0 = some (.aload_n 0, 1) by decide +kernel) rfl (Nat.le_of_ble_eq_true rfl) ?_
  refine q_getR (vO 8 (a0 + 12)) 4 rfl (show sCode 119 1 = some (.getfield 32, 3) by decide +kernel) (show sFR (sKo 119).1 32 = some (11, 3) by decide +kernel) (by decide +kernel) (Or.inl (Or.inl rfl)) rfl ?_
  refine q_getR (vO 9 (a0 + 28)) 7 rfl (show sCode 119 4 = some (.getfield 182, 3) by decide +kernel) (show sFR (sKo 119).1 182 = some (8, 1) by decide +kernel) (by decide +kernel) (Or.inl (Or.inl rfl)) rfl ?_
  refine q_astore [vO 11 a0, vI x1, vI x2, vI x3, vI x4, vI x5, vO 9 (a0 + 28)] 9 rfl (show sCode 119 7 = some (.astore 6, 2) by decide +kernel) (by first | exact ⟨Nat.le_of_ble_eq_true rfl, Or.inl (Nat.lt_of_lt_of_le (Nat.lt_succ_self _) (Nat.le_of_ble_eq_true rfl))⟩ | exact ⟨Nat.le_of_ble_eq_true rfl, Or.inr (Nat.le_of_ble_eq_true rfl)⟩) (Nat.lt_of_lt_of_le (Nat.lt_succ_self _) (Nat.le_of_ble_eq_true rfl)) rfl rfl ?_
  refine q_iload_n 10 rfl (show sCode 119 9 = some (.iload_n 1, 1) by decide +kernel) rfl ?_
  refine q_iconst 11 rfl (show sCode 119 10 = some (.iconst (-1), 1) by decide +kernel) ⟨by decide, by decide⟩ ?_
  refine q_icmpne 22 14 rfl (by decide) (show sCode 119 11 = some (.if_icmp .ne 11, 3) by decide +kernel) ?_ ?_
  · intro q; refine q_forget (L' := [vN, vI x1, vI x2, vI x3, vI x4, vI x5, vO 9 (a0 + 28)]) 0 rfl ?_; exact k1 q
  · intro q; refine q_forget (L' := [vN, vI x1, vI x2, vI x3, vI x4, vI x5, vO 9 (a0 + 28)]) 0 rfl ?_; refine q_forget (L' := [vN, vN, vI x2, vI x3, vI x4, vI x5, vO 9 (a0 + 28)]) 1 rfl ?_; refine q_forget (L' := [vN, vN, vN, vI x3, vI x4, vI x5, vO 9 (a0 + 28)]) 2 rfl ?_; refine q_forget (L' := [vN, vN, vN, vN, vI x4, vI x5, vO 9 (a0 + 28)]) 3 rfl ?_; refine q_forget (L' := [vN, vN, vN, vN, vN, vI x5, vO 9 (a0 + 28)]) 4 rfl ?_; refine q_forget (L' := [vN, vN, vN, vN, vN, vN, vO 9 (a0 + 28)]) 5 rfl ?_; exact k2 q
theorem b119_14 {d : Nat} {P : Int → sM → sG → Prop} {M : sM} {G : sG} {a6 : Nat}  (kk : P 0 (sUpd M a6 1 0) G) : sW (sC d) 119 (QI P) 14 [vN, vN, vN, vN, vN, vN, vO 9 a6] [] M G 0 0 := by
  refine q_aload 16 rfl (show sCode 119 14 = some (.aload 6, 2) by decide +kernel) rfl (Nat.le_of_ble_eq_true rfl) ?_
  refine q_iconst 17 rfl (show sCode 119 16 = some (.iconst 0, 1) by decide +kernel) ⟨by decide, by decide⟩ ?_
  refine q_putI 20 rfl (show sCode 119 17 = some (.putfield 210, 3) by decide +kernel) (show sFR (sKo 119).1 210 = some (9, 1) by decide +kernel) (by decide +kernel) (Or.inl ⟨Or.inl rfl, by decide +kernel⟩) ?_
  refine q_iconst 21 rfl (show sCode 119 20 = some (.iconst 0, 1) by decide +kernel) ⟨by decide, by decide⟩ ?_
  exact q_iret (show sCode 119 21 = some (.ireturn, 1) by decide +kernel) (by decide +kernel) (by decide +kernel) kk
theorem b119_22 {d : Nat} {Q : Option sV → sM → sG → Prop} {M : sM} {G : sG} {x1 : Int} {x2 : Int} {x3 : Int} {x4 : Int} {x5 : Int} {a6 : Nat}  (kk : sC d 61 [vI x1] M G (QI (fun r M1 G1 => sW (sC d) 119 Q 26 [vN, vI x1, vI x2, vI x3, vI x4, vI x5, vO 9 a6] (vI r :: []) M1 G1 0 0))) : sW (sC d) 119 Q 22 [vN, vI x1, vI x2, vI x3, vI x4, vI x5, vO 9 a6] [] M G 0 0 := by
  refine q_iload_n 23 rfl (show sCode 119 22 = some (.iload_n 1, 1) by decide +kernel) rfl ?_
  exact q_statI [vI x1] 26 rfl (show sCode 119 23 = some (.invokestatic 164, 3) by decide +kernel) (show sMR (sKo 119).1 164 = some 61 by decide +kernel) (show 61 < 1000 ∧ sStat 61 = true ∧ sKo 61 = (11, 1, 2, 0, 0) by decide +kernel) rfl rfl (Nat.le_of_ble_eq_true rfl) rfl rfl rfl (by decide +kernel) kk
theorem b119_26 {d : Nat} {Q : Option sV → sM → sG → Prop} {M : sM} {G : sG} {x1 : Int} {x2 : Int} {x3 : Int} {x4 : Int} {x5 : Int} {a6 : Nat} {s0 : Int}  (k1 : s0 = 0 → sW (sC d) 119 Q 49 [vN, vN, vN, vN, vN, vN, vN] [] M G 0 0) (k2 : s0 ≠ 0 → sW (sC d) 119 Q 29 [vN, vI x1, vI x2, vI x3, vI x4, vI x5, vO 9 a6] [] M G 0 0) : sW (sC d) 119 Q 26 [vN, vI x1, vI x2, vI x3, vI x4, vI x5, vO 9 a6] [vI s0] M G 0 0 := by
  refine q_ifeq 49 29 rfl (by decide) (show sCode 119 26 = some (.ifCond .eq 23, 3) by decide +kernel) ?_ ?_
  · intro q; refine q_forget (L' := [vN, vN, vI x2, vI x3, vI x4, vI x5, vO 9 a6]) 1 rfl ?_; refine q_forget (L' := [vN, vN, vN, vI x3, vI x4, vI x5, vO 9 a6]) 2 rfl ?_; refine q_forget (L' := [vN, vN, vN, vN, vI x4, vI x5, vO 9 a6]) 3 rfl ?_; refine q_forget (L' := [vN, vN, vN, vN, vN, vI x5, vO 9 a6]) 4 rfl ?_; refine q_forget (L' := [vN, vN, vN, vN, vN, vN, vO 9 a6]) 5 rfl ?_; refine q_forget (L' := [vN, vN, vN, vN, vN, vN, vN]) 6 rfl ?_; exact k1 q
  · intro q; exact k2 q
theorem b119_29 {d : Nat} {Q : Option sV → sM → sG → Prop} {M : sM} {G : sG} {x1 : Int} {x2 : Int} {x3 : Int} {x4 : Int} {x5 : Int} {a6 : Nat}  (k1 : x2 < 0 → sW (sC d) 119 Q 49 [vN, vN, vN, vN, vN, vN, vN] [] M G 0 0) (k2 : 0 ≤ x2 → sW (sC d) 119 Q 33 [vN, vI x1, vI x2, vI x3, vI x4, vI x5, vO 9 a6] [] M G 0 0) : sW (sC d) 119 Q 29 [vN, vI x1, vI x2, vI x3, vI x4, vI x5, vO 9 a6] [] M G 0 0 := by
  refine q_iload_n 30 rfl (show sCode 119 29 = some (.iload_n 2, 1) by decide +kernel) rfl ?_
  refine q_iflt 49 33 rfl (by decide) (show sCode 119 30 = some (.ifCond .lt 19, 3) by decide +kernel) ?_ ?_
  · intro q; refine q_forget (L' := [vN, vN, vI x2, vI x3, vI x4, vI x5, vO 9 a6]) 1 rfl ?_; refine q_forget (L' := [vN, vN, vN, vI x3, vI x4, vI x5, vO 9 a6]) 2 rfl ?_; refine q_forget (L' := [vN, vN, vN, vN, vI x4, vI x5, vO 9 a6]) 3 rfl ?_; refine q_forget (L' := [vN, vN, vN, vN, vN, vI x5, vO 9 a6]) 4 rfl ?_; refine q_forget (L' := [vN, vN, vN, vN, vN, vN, vO 9 a6]) 5 rfl ?_; refine q_forget (L' := [vN, vN, vN, vN, vN, vN, vN]) 6 rfl ?_; exact k1 q
  · intro q; exact k2 q
theorem b119_33 {d : Nat} {Q : Option sV → sM → sG → Prop} {M : sM} {G : sG} {x1 : Int} {x2 : Int} {x3 : Int} {x4 : Int} {x5 : Int} {a6 : Nat}  (k1 : 6 ≤ x2 → sW (sC d) 119 Q 49 [vN, vN, vN, vN, vN, vN, vN] [] M G 0 0) (k2 : x2 < 6 → sW (sC d) 119 Q 39 [vN, vI x1, vI x2, vI x3, vI x4, vI x5, vO 9 a6] [] M G 0 0) : sW (sC d) 119 Q 33 [vN, vI x1, vI x2, vI x3, vI x4, vI x5, vO 9 a6] [] M G 0 0 := by
  refine q_iload_n 34 rfl (show sCode 119 33 = some (.iload_n 2, 1) by decide +kernel) rfl ?_
  refine q_bipush 36 rfl (show sCode 119 34 = some (.bipush 6, 2) by decide +kernel) ⟨by decide, by decide⟩ (by decide +kernel) ?_
  refine q_icmpge 49 39 rfl (by decide) (show sCode 119 36 = some (.if_icmp .ge 13, 3) by decide +kernel) ?_ ?_
  · intro q; refine q_forget (L' := [vN, vN, vI x2, vI x3, vI x4, vI x5, vO 9 a6]) 1 rfl ?_; refine q_forget (L' := [vN, vN, vN, vI x3, vI x4, vI x5, vO 9 a6]) 2 rfl ?_; refine q_forget (L' := [vN, vN, vN, vN, vI x4, vI x5, vO 9 a6]) 3 rfl ?_; refine q_forget (L' := [vN, vN, vN, vN, vN, vI x5, vO 9 a6]) 4 rfl ?_; refine q_forget (L' := [vN, vN, vN, vN, vN, vN, vO 9 a6]) 5 rfl ?_; refine q_forget (L' := [vN, vN, vN, vN, vN, vN, vN]) 6 rfl ?_; exact k1 q
  · intro q; exact k2 q
theorem b119_39 {d : Nat} {Q : Option sV → sM → sG → Prop} {M : sM} {G : sG} {x1 : Int} {x2 : Int} {x3 : Int} {x4 : Int} {x5 : Int} {a6 : Nat}  (k1 : M a6 1 < 6 → sW (sC d) 119 Q 52 [vN, vI x1, vI x2, vI x3, vI x4, vI x5, vO 9 a6] [] M G 0 0) (k2 : 6 ≤ M a6 1 → sW (sC d) 119 Q 49 [vN, vN, vN, vN, vN, vN, vN] [] M G 0 0) : sW (sC d) 119 Q 39 [vN, vI x1, vI x2, vI x3, vI x4, vI x5, vO 9 a6] [] M G 0 0 := by
  refine q_aload 41 rfl (show sCode 119 39 = some (.aload 6, 2) by decide +kernel) rfl (Nat.le_of_ble_eq_true rfl) ?_
  refine q_getI 44 rfl (show sCode 119 41 = some (.getfield 210, 3) by decide +kernel) (show sFR (sKo 119).1 210 = some (9, 1) by decide +kernel) (by decide +kernel) (Or.inl (Or.inl rfl)) ?_
  refine q_bipush 46 rfl (show sCode 119 44 = some (.bipush 6, 2) by decide +kernel) ⟨by decide, by decide⟩ (by decide +kernel) ?_
  refine q_icmplt 52 49 rfl (by decide) (show sCode 119 46 = some (.if_icmp .lt 6, 3) by decide +kernel) ?_ ?_
  · intro q; exact k1 q
  · intro q; refine q_forget (L' := [vN, vN, vI x2, vI x3, vI x4, vI x5, vO 9 a6]) 1 rfl ?_; refine q_forget (L' := [vN, vN, vN, vI x3, vI x4, vI x5, vO 9 a6]) 2 rfl ?_; refine q_forget (L' := [vN, vN, vN, vN, vI x4, vI x5, vO 9 a6]) 3 rfl ?_; refine q_forget (L' := [vN, vN, vN, vN, vN, vI x5, vO 9 a6]) 4 rfl ?_; refine q_forget (L' := [vN, vN, vN, vN, vN, vN, vO 9 a6]) 5 rfl ?_; refine q_forget (L' := [vN, vN, vN, vN, vN, vN, vN]) 6 rfl ?_; exact k2 q
theorem b119_49 {d : Nat} {P : Int → sM → sG → Prop} {M : sM} {G : sG}   (kk : P (-2) M G) : sW (sC d) 119 (QI P) 49 [vN, vN, vN, vN, vN, vN, vN] [] M G 0 0 := by
  refine q_bipush 51 rfl (show sCode 119 49 = some (.bipush (-2), 2) by decide +kernel) ⟨by decide, by decide⟩ (by decide +kernel) ?_
  exact q_iret (show sCode 119 51 = some (.ireturn, 1) by decide +kernel) (by decide +kernel) (by decide +kernel) kk
theorem b119_52 {d : Nat} {Q : Option sV → sM → sG → Prop} {M : sM} {G : sG} {x1 : Int} {x2 : Int} {x3 : Int} {x4 : Int} {x5 : Int} {a6 : Nat}  (kk : sC d 120 [vI x3] M G (QI (fun r M1 G1 => sW (sC d) 119 Q 56 [vN, vI x1, vI x2, vI x3, vI x4, vI x5, vO 9 a6] (vI r :: []) M1 G1 0 0))) : sW (sC d) 119 Q 52 [vN, vI x1, vI x2, vI x3, vI x4, vI x5, vO 9 a6] [] M G 0 0 := by
  refine q_iload_n 53 rfl (show sCode 119 52 = some (.iload_n 3, 1) by decide +kernel) rfl ?_
  exact q_statI [vI x3] 56 rfl (show sCode 119 53 = some (.invokestatic 291, 3) by decide +kernel) (show sMR (sKo 119).1 291 = some 120 by decide +kernel) (show 120 < 1000 ∧ sStat 120 = true ∧ sKo 120 = (11, 1, 2, 0, 0) by decide +kernel) rfl rfl (Nat.le_of_ble_eq_true rfl) rfl rfl rfl (by decide +kernel) kk
theorem b119_56 {d : Nat} {Q : Option sV → sM → sG → Prop} {M : sM} {G : sG} {x1 : Int} {x2 : Int} {x3 : Int} {x4 : Int} {x5 : Int} {a6 : Nat} {s0 : Int}  (k1 : s0 = 0 → sW (sC d) 119 Q 79 [vN, vN, vN, vN, vN, vN, vN] [] M G 0 0) (k2 : s0 ≠ 0 → sW (sC d) 119 Q 59 [vN, vI x1, vI x2, vI x3, vI x4, vI x5, vO 9 a6] [] M G 0 0) : sW (sC d) 119 Q 56 [vN, vI x1, vI x2, vI x3, vI x4, vI x5, vO 9 a6] [vI s0] M G 0 0 := by
  refine q_ifeq 79 59 rfl (by decide) (show sCode 119 56 = some (.ifCond .eq 23, 3) by decide +kernel) ?_ ?_
  · intro q; refine q_forget (L' := [vN, vN, vI x2, vI x3, vI x4, vI x5, vO 9 a6]) 1 rfl ?_; refine q_forget (L' := [vN, vN, vN, vI x3, vI x4, vI x5, vO 9 a6]) 2 rfl ?_; refine q_forget (L' := [vN, vN, vN, vN, vI x4, vI x5, vO 9 a6]) 3 rfl ?_; refine q_forget (L' := [vN, vN, vN, vN, vN, vI x5, vO 9 a6]) 4 rfl ?_; refine q_forget (L' := [vN, vN, vN, vN, vN, vN, vO 9 a6]) 5 rfl ?_; refine q_forget (L' := [vN, vN, vN, vN, vN, vN, vN]) 6 rfl ?_; exact k1 q
  · intro q; exact k2 q
theorem b119_59 {d : Nat} {Q : Option sV → sM → sG → Prop} {M : sM} {G : sG} {x1 : Int} {x2 : Int} {x3 : Int} {x4 : Int} {x5 : Int} {a6 : Nat}  (kk : sC d 120 [vI x4] M G (QI (fun r M1 G1 => sW (sC d) 119 Q 64 [vN, vI x1, vI x2, vI x3, vI x4, vI x5, vO 9 a6] (vI r :: []) M1 G1 0 0))) : sW (sC d) 119 Q 59 [vN, vI x1, vI x2, vI x3, vI x4, vI x5, vO 9 a6] [] M G 0 0 := by
  refine q_iload 61 rfl (show sCode 119 59 = some (.iload 4, 2) by decide +kernel) rfl ?_
  exact q_statI [vI x4] 64 rfl (show sCode 119 61 = some (.invokestatic 291, 3) by decide +kernel) (show sMR (sKo 119).1 291 = some 120 by decide +kernel) (show 120 < 1000 ∧ sStat 120 = true ∧ sKo 120 = (11, 1, 2, 0, 0) by decide +kernel) rfl rfl (Nat.le_of_ble_eq_true rfl) rfl rfl rfl (by decide +kernel) kk
theorem b119_64 {d : Nat} {Q : Option sV → sM → sG → Prop} {M : sM} {G : sG} {x1 : Int} {x2 : Int} {x3 : Int} {x4 : Int} {x5 : Int} {a6 : Nat} {s0 : Int}  (k1 : s0 = 0 → sW (sC d) 119 Q 79 [vN, vN, vN, vN, vN, vN, vN] [] M G 0 0) (k2 : s0 ≠ 0 → sW (sC d) 119 Q 67 [vN, vI x1, vI x2, vI x3, vI x4, vI x5, vO 9 a6] [] M G 0 0) : sW (sC d) 119 Q 64 [vN, vI x1, vI x2, vI x3, vI x4, vI x5, vO 9 a6] [vI s0] M G 0 0 := by
  refine q_ifeq 79 67 rfl (by decide) (show sCode 119 64 = some (.ifCond .eq 15, 3) by decide +kernel) ?_ ?_
  · intro q; refine q_forget (L' := [vN, vN, vI x2, vI x3, vI x4, vI x5, vO 9 a6]) 1 rfl ?_; refine q_forget (L' := [vN, vN, vN, vI x3, vI x4, vI x5, vO 9 a6]) 2 rfl ?_; refine q_forget (L' := [vN, vN, vN, vN, vI x4, vI x5, vO 9 a6]) 3 rfl ?_; refine q_forget (L' := [vN, vN, vN, vN, vN, vI x5, vO 9 a6]) 4 rfl ?_; refine q_forget (L' := [vN, vN, vN, vN, vN, vN, vO 9 a6]) 5 rfl ?_; refine q_forget (L' := [vN, vN, vN, vN, vN, vN, vN]) 6 rfl ?_; exact k1 q
  · intro q; exact k2 q
theorem b119_67 {d : Nat} {Q : Option sV → sM → sG → Prop} {M : sM} {G : sG} {x1 : Int} {x2 : Int} {x3 : Int} {x4 : Int} {x5 : Int} {a6 : Nat}  (k1 : x4 ≤ x3 → sW (sC d) 119 Q 79 [vN, vN, vN, vN, vN, vN, vN] [] M G 0 0) (k2 : x3 < x4 → sW (sC d) 119 Q 73 [vN, vI x1, vI x2, vI x3, vI x4, vI x5, vO 9 a6] [] M G 0 0) : sW (sC d) 119 Q 67 [vN, vI x1, vI x2, vI x3, vI x4, vI x5, vO 9 a6] [] M G 0 0 := by
  refine q_iload 69 rfl (show sCode 119 67 = some (.iload 4, 2) by decide +kernel) rfl ?_
  refine q_iload_n 70 rfl (show sCode 119 69 = some (.iload_n 3, 1) by decide +kernel) rfl ?_
  refine q_icmple 79 73 rfl (by decide) (show sCode 119 70 = some (.if_icmp .le 9, 3) by decide +kernel) ?_ ?_
  · intro q; refine q_forget (L' := [vN, vN, vI x2, vI x3, vI x4, vI x5, vO 9 a6]) 1 rfl ?_; refine q_forget (L' := [vN, vN, vN, vI x3, vI x4, vI x5, vO 9 a6]) 2 rfl ?_; refine q_forget (L' := [vN, vN, vN, vN, vI x4, vI x5, vO 9 a6]) 3 rfl ?_; refine q_forget (L' := [vN, vN, vN, vN, vN, vI x5, vO 9 a6]) 4 rfl ?_; refine q_forget (L' := [vN, vN, vN, vN, vN, vN, vO 9 a6]) 5 rfl ?_; refine q_forget (L' := [vN, vN, vN, vN, vN, vN, vN]) 6 rfl ?_; exact k1 q
  · intro q; exact k2 q
theorem b119_73 {d : Nat} {Q : Option sV → sM → sG → Prop} {M : sM} {G : sG} {x1 : Int} {x2 : Int} {x3 : Int} {x4 : Int} {x5 : Int} {a6 : Nat}  (k1 : 1 ≤ x5 → sW (sC d) 119 Q 82 [vN, vI x1, vI x2, vI x3, vI x4, vI x5, vO 9 a6] [] M G 0 0) (k2 : x5 < 1 → sW (sC d) 119 Q 79 [vN, vN, vN, vN, vN, vN, vN] [] M G 0 0) : sW (sC d) 119 Q 73 [vN, vI x1, vI x2, vI x3, vI x4, vI x5, vO 9 a6] [] M G 0 0 := by
  refine q_iload 75 rfl (show sCode 119 73 = some (.iload 5, 2) by decide +kernel) rfl ?_
  refine q_iconst 76 rfl (show sCode 119 75 = some (.iconst 1, 1) by decide +kernel) ⟨by decide, by decide⟩ ?_
  refine q_icmpge 82 79 rfl (by decide) (show sCode 119 76 = some (.if_icmp .ge 6, 3) by decide +kernel) ?_ ?_
  · intro q; exact k1 q
  · intro q; refine q_forget (L' := [vN, vN, vI x2, vI x3, vI x4, vI x5, vO 9 a6]) 1 rfl ?_; refine q_forget (L' := [vN, vN, vN, vI x3, vI x4, vI x5, vO 9 a6]) 2 rfl ?_; refine q_forget (L' := [vN, vN, vN, vN, vI x4, vI x5, vO 9 a6]) 3 rfl ?_; refine q_forget (L' := [vN, vN, vN, vN, vN, vI x5, vO 9 a6]) 4 rfl ?_; refine q_forget (L' := [vN, vN, vN, vN, vN, vN, vO 9 a6]) 5 rfl ?_; refine q_forget (L' := [vN, vN, vN, vN, vN, vN, vN]) 6 rfl ?_; exact k2 q
theorem b119_79 {d : Nat} {P : Int → sM → sG → Prop} {M : sM} {G : sG}   (kk : P (-2) M G) : sW (sC d) 119 (QI P) 79 [vN, vN, vN, vN, vN, vN, vN] [] M G 0 0 := by
  refine q_bipush 81 rfl (show sCode 119 79 = some (.bipush (-2), 2) by decide +kernel) ⟨by decide, by decide⟩ (by decide +kernel) ?_
  exact q_iret (show sCode 119 81 = some (.ireturn, 1) by decide +kernel) (by decide +kernel) (by decide +kernel) kk
theorem b119_82 {d : Nat} {Q : Option sV → sM → sG → Prop} {M : sM} {G : sG} {x1 : Int} {x2 : Int} {x3 : Int} {x4 : Int} {x5 : Int} {a6 : Nat} (h1 : sI (x4 - x3)) (k1 : x4 - x3 < x5 → sW (sC d) 119 Q 103 [vN, vN, vN, vN, vN, vN, vN] [] M G 0 0) (k2 : x5 ≤ x4 - x3 → sW (sC d) 119 Q 91 [vN, vI x1, vI x2, vI x3, vI x4, vI x5, vO 9 a6] [] M G 0 0) : sW (sC d) 119 Q 82 [vN, vI x1, vI x2, vI x3, vI x4, vI x5, vO 9 a6] [] M G 0 0 := by
  refine q_iload 84 rfl (show sCode 119 82 = some (.iload 5, 2) by decide +kernel) rfl ?_
  refine q_iload 86 rfl (show sCode 119 84 = some (.iload 4, 2) by decide +kernel) rfl ?_
  refine q_iload_n 87 rfl (show sCode 119 86 = some (.iload_n 3, 1) by decide +kernel) rfl ?_
  refine q_isub 88 rfl (show sCode 119 87 = some (.isub, 1) by decide +kernel) h1 ?_
  refine q_icmpgt 103 91 rfl (by decide) (show sCode 119 88 = some (.if_icmp .gt 15, 3) by decide +kernel) ?_ ?_
  · intro q; refine q_forget (L' := [vN, vN, vI x2, vI x3, vI x4, vI x5, vO 9 a6]) 1 rfl ?_; refine q_forget (L' := [vN, vN, vN, vI x3, vI x4, vI x5, vO 9 a6]) 2 rfl ?_; refine q_forget (L' := [vN, vN, vN, vN, vI x4, vI x5, vO 9 a6]) 3 rfl ?_; refine q_forget (L' := [vN, vN, vN, vN, vN, vI x5, vO 9 a6]) 4 rfl ?_; refine q_forget (L' := [vN, vN, vN, vN, vN, vN, vO 9 a6]) 5 rfl ?_; refine q_forget (L' := [vN, vN, vN, vN, vN, vN, vN]) 6 rfl ?_; exact k1 q
  · intro q; exact k2 q
theorem b119_91 {d : Nat} {Q : Option sV → sM → sG → Prop} {M : sM} {G : sG} {x1 : Int} {x2 : Int} {x3 : Int} {x4 : Int} {x5 : Int} {a6 : Nat} (h1 : sI (x4 - x3)) (h2 : sI ((x4 - x3) - x5)) (k1 : (x4 - x3) - x5 ≤ 11 → sW (sC d) 119 Q 106 [vN, vI x1, vI x2, vI x3, vI x4, vI x5, vO 9 a6] [] M G 0 0) (k2 : 11 < (x4 - x3) - x5 → sW (sC d) 119 Q 103 [vN, vN, vN, vN, vN, vN, vN] [] M G 0 0) : sW (sC d) 119 Q 91 [vN, vI x1, vI x2, vI x3, vI x4, vI x5, vO 9 a6] [] M G 0 0 := by
  refine q_iload 93 rfl (show sCode 119 91 = some (.iload 4, 2) by decide +kernel) rfl ?_
  refine q_iload_n 94 rfl (show sCode 119 93 = some (.iload_n 3, 1) by decide +kernel) rfl ?_
  refine q_isub 95 rfl (show sCode 119 94 = some (.isub, 1) by decide +kernel) h1 ?_
  refine q_iload 97 rfl (show sCode 119 95 = some (.iload 5, 2) by decide +kernel) rfl ?_
  refine q_isub 98 rfl (show sCode 119 97 = some (.isub, 1) by decide +kernel) h2 ?_
  refine q_bipush 100 rfl (show sCode 119 98 = some (.bipush 11, 2) by decide +kernel) ⟨by decide, by decide⟩ (by decide +kernel) ?_
  refine q_icmple 106 103 rfl (by decide) (show sCode 119 100 = some (.if_icmp .le 6, 3) by decide +kernel) ?_ ?_
  · intro q; exact k1 q
  · intro q; refine q_forget (L' := [vN, vN, vI x2, vI x3, vI x4, vI x5, vO 9 a6]) 1 rfl ?_; refine q_forget (L' := [vN, vN, vN, vI x3, vI x4, vI x5, vO 9 a6]) 2 rfl ?_; refine q_forget (L' := [vN, vN, vN, vN, vI x4, vI x5, vO 9 a6]) 3 rfl ?_; refine q_forget (L' := [vN, vN, vN, vN, vN, vI x5, vO 9 a6]) 4 rfl ?_; refine q_forget (L' := [vN, vN, vN, vN, vN, vN, vO 9 a6]) 5 rfl ?_; refine q_forget (L' := [vN, vN, vN, vN, vN, vN, vN]) 6 rfl ?_; exact k2 q
theorem b119_103 {d : Nat} {P : Int → sM → sG → Prop} {M : sM} {G : sG}   (kk : P (-2) M G) : sW (sC d) 119 (QI P) 103 [vN, vN, vN, vN, vN, vN, vN] [] M G 0 0 := by
  refine q_bipush 105 rfl (show sCode 119 103 = some (.bipush (-2), 2) by decide +kernel) ⟨by decide, by decide⟩ (by decide +kernel) ?_
  exact q_iret (show sCode 119 105 = some (.ireturn, 1) by decide +kernel) (by decide +kernel) (by decide +kernel) kk
theorem b119_106 {d : Nat} {Q : Option sV → sM → sG → Prop} {M : sM} {G : sG} {x1 : Int} {x2 : Int} {x3 : Int} {x4 : Int} {x5 : Int} {a6 : Nat}  (kk : sC d 121 [vO 9 a6, vI x1, vI x2, vI x3, vI x4, vI x5] M G (QV (fun M1 G1 => sW (sC d) 119 Q 118 [vN, vN, vN, vN, vN, vN, vO 9 a6] [] M1 G1 0 0))) : sW (sC d) 119 Q 106 [vN, vI x1, vI x2, vI x3, vI x4, vI x5, vO 9 a6] [] M G 0 0 := by
  refine q_aload 108 rfl (show sCode 119 106 = some (.aload 6, 2) by decide +kernel) rfl (Nat.le_of_ble_eq_true rfl) ?_
  refine q_iload_n 109 rfl (show sCode 119 108 = some (.iload_n 1, 1) by decide +kernel) rfl ?_
  refine q_iload_n 110 rfl (show sCode 119 109 = some (.iload_n 2, 1) by decide +kernel) rfl ?_
  refine q_iload_n 111 rfl (show sCode 119 110 = some (.iload_n 3, 1) by decide +kernel) rfl ?_
  refine q_iload 113 rfl (show sCode 119 111 = some (.iload 4, 2) by decide +kernel) rfl ?_
  refine q_iload 115 rfl (show sCode 119 113 = some (.iload 5, 2) by decide +kernel) rfl ?_
  refine q_forget (L' := [vN, vN, vI x2, vI x3, vI x4, vI x5, vO 9 a6]) 1 rfl ?_
  refine q_forget (L' := [vN, vN, vN, vI x3, vI x4, vI x5, vO 9 a6]) 2 rfl ?_
  refine q_forget (L' := [vN, vN, vN, vN, vI x4, vI x5, vO 9 a6]) 3 rfl ?_
  refine q_forget (L' := [vN, vN, vN, vN, vN, vI x5, vO 9 a6]) 4 rfl ?_
  refine q_forget (L' := [vN, vN, vN, vN, vN, vN, vO 9 a6]) 5 rfl ?_
  exact q_virtV [vI x1, vI x2, vI x3, vI x4, vI x5] 118 rfl (show sCode 119 115 = some (.invokevirtual 294, 3) by decide +kernel) (show sMR (sKo 119).1 294 = some 121 by decide +kernel) (show 121 < 1000 ∧ sStat 121 = false ∧ sIni 121 = false ∧ sKo 121 = (9, 5, 0, 0, 0) by decide +kernel) rfl (Or.inl rfl) rfl (Nat.le_of_ble_eq_true rfl) rfl rfl rfl (by decide +kernel) kk
theorem b119_118 {d : Nat} {P : Int → sM → sG → Prop} {M : sM} {G : sG} {a6 : Nat}  (kk : P (M a6 1) M G) : sW (sC d) 119 (QI P) 118 [vN, vN, vN, vN, vN, vN, vO 9 a6] [] M G 0 0 := by
  refine q_aload 120 rfl (show sCode 119 118 = some (.aload 6, 2) by decide +kernel) rfl (Nat.le_of_ble_eq_true rfl) ?_
  refine q_getI 123 rfl (show sCode 119 120 = some (.getfield 210, 3) by decide +kernel) (show sFR (sKo 119).1 210 = some (9, 1) by decide +kernel) (by decide +kernel) (Or.inl (Or.inl rfl)) ?_
  exact q_iret (show sCode 119 123 = some (.ireturn, 1) by decide +kernel) (by decide +kernel) (by decide +kernel) kk
-- 120 AfterTheLast.isQuarter (I)Z
theorem b120_0 {d : Nat} {Q : Option sV → sM → sG → Prop} {M : sM} {G : sG} {x0 : Int}  (k1 : x0 < 0 → sW (sC d) 120 Q 14 [vN] [] M G 0 0) (k2 : 0 ≤ x0 → sW (sC d) 120 Q 4 [vI x0] [] M G 0 0) : sW (sC d) 120 Q 0 [vI x0] [] M G 0 0 := by
  refine q_iload_n 1 rfl (show sCode 120 0 = some (.iload_n 0, 1) by decide +kernel) rfl ?_
  refine q_iflt 14 4 rfl (by decide) (show sCode 120 1 = some (.ifCond .lt 13, 3) by decide +kernel) ?_ ?_
  · intro q; refine q_forget (L' := [vN]) 0 rfl ?_; exact k1 q
  · intro q; exact k2 q
theorem b120_4 {d : Nat} {Q : Option sV → sM → sG → Prop} {M : sM} {G : sG} {x0 : Int}  (k1 : 95 < x0 → sW (sC d) 120 Q 14 [vN] [] M G 0 0) (k2 : x0 ≤ 95 → sW (sC d) 120 Q 10 [vN] [] M G 0 0) : sW (sC d) 120 Q 4 [vI x0] [] M G 0 0 := by
  refine q_iload_n 5 rfl (show sCode 120 4 = some (.iload_n 0, 1) by decide +kernel) rfl ?_
  refine q_bipush 7 rfl (show sCode 120 5 = some (.bipush 95, 2) by decide +kernel) ⟨by decide, by decide⟩ (by decide +kernel) ?_
  refine q_icmpgt 14 10 rfl (by decide) (show sCode 120 7 = some (.if_icmp .gt 7, 3) by decide +kernel) ?_ ?_
  · intro q; refine q_forget (L' := [vN]) 0 rfl ?_; exact k1 q
  · intro q; refine q_forget (L' := [vN]) 0 rfl ?_; exact k2 q
theorem b120_10 {d : Nat} {Q : Option sV → sM → sG → Prop} {M : sM} {G : sG}   (kk : sW (sC d) 120 Q 15 [vN] [vI 1] M G 0 0) : sW (sC d) 120 Q 10 [vN] [] M G 0 0 := by
  refine q_iconst 11 rfl (show sCode 120 10 = some (.iconst 1, 1) by decide +kernel) ⟨by decide, by decide⟩ ?_
  refine q_goto 15 (by decide) (show sCode 120 11 = some (.goto 4, 3) by decide +kernel) ?_
  exact kk
theorem b120_14 {d : Nat} {Q : Option sV → sM → sG → Prop} {M : sM} {G : sG}   (kk : sW (sC d) 120 Q 15 [vN] [vI 0] M G 0 0) : sW (sC d) 120 Q 14 [vN] [] M G 0 0 := by
  refine q_iconst 15 rfl (show sCode 120 14 = some (.iconst 0, 1) by decide +kernel) ⟨by decide, by decide⟩ ?_
  exact kk
theorem b120_15 {d : Nat} {P : Int → sM → sG → Prop} {M : sM} {G : sG} {s0 : Int}  (h01 : s0 = 0 ∨ s0 = 1) (kk : P s0 M G) : sW (sC d) 120 (QI P) 15 [vN] [vI s0] M G 0 0 := by
  exact q_zret (show sCode 120 15 = some (.ireturn, 1) by decide +kernel) (by decide +kernel) h01 (by decide +kernel) kk
-- 122 AfterTheLast.plan (I)I
theorem b122_0 {d : Nat} {Q : Option sV → sM → sG → Prop} {M : sM} {G : sG} {a0 : Nat} {x1 : Int}  (k1 : x1 < 0 → sW (sC d) 122 Q 32 [vN, vN, vN] [] M G 0 0) (k2 : 0 ≤ x1 → sW (sC d) 122 Q 12 [vO 11 a0, vI x1, vO 9 (a0 + 28)] [] M G 0 0) : sW (sC d) 122 Q 0 [vO 11 a0, vI x1, vN] [] M G 0 0 := by
  refine q_aload_n 1 rfl (show sCode 122 0 = some (.aload_n 0, 1) by decide +kernel) rfl (Nat.le_of_ble_eq_true rfl) ?_
  refine q_getR (vO 8 (a0 + 12)) 4 rfl (show sCode 122 1 = some (.getfield 32, 3) by decide +kernel) (show sFR (sKo 122).1 32 = some (11, 3) by decide +kernel) (by decide +kernel) (Or.inl (Or.inl rfl)) rfl ?_
  refine q_getR (vO 9 (a0 + 28)) 7 rfl (show sCode 122 4 = some (.getfield 182, 3) by decide +kernel) (show sFR (sKo 122).1 182 = some (8, 1) by decide +kernel) (by decide +kernel) (Or.inl (Or.inl rfl)) rfl ?_
  refine q_astore_n [vO 11 a0, vI x1, vO 9 (a0 + 28)] 8 rfl (show sCode 122 7 = some (.astore_n 2, 1) by decide +kernel) (by first | exact ⟨Nat.le_of_ble_eq_true rfl, Or.inl (Nat.lt_of_lt_of_le (Nat.lt_succ_self _) (Nat.le_of_ble_eq_true rfl))⟩ | exact ⟨Nat.le_of_ble_eq_true rfl, Or.inr (Nat.le_of_ble_eq_true rfl)⟩) (Nat.lt_of_lt_of_le (Nat.lt_succ_self _) (Nat.le_of_ble_eq_true rfl)) rfl rfl ?_
  refine q_iload_n 9 rfl (show sCode 122 8 = some (.iload_n 1, 1) by decide +kernel) rfl ?_
  refine q_iflt 32 12 rfl (by decide) (show sCode 122 9 = some (.ifCond .lt 23, 3) by decide +kernel) ?_ ?_
  · intro q; refine q_forget (L' := [vN, vI x1, vO 9 (a0 + 28)]) 0 rfl ?_; refine q_forget (L' := [vN, vN, vO 9 (a0 + 28)]) 1 rfl ?_; refine q_forget (L' := [vN, vN, vN]) 2 rfl ?_; exact k1 q
  · intro q; exact k2 q
theorem b122_12 {d : Nat} {Q : Option sV → sM → sG → Prop} {M : sM} {G : sG} {a0 : Nat} {x1 : Int} {a2 : Nat}  (k1 : 6 < x1 → sW (sC d) 122 Q 32 [vN, vN, vN] [] M G 0 0) (k2 : x1 ≤ 6 → sW (sC d) 122 Q 18 [vO 11 a0, vI x1, vO 9 a2] [] M G 0 0) : sW (sC d) 122 Q 12 [vO 11 a0, vI x1, vO 9 a2] [] M G 0 0 := by
  refine q_iload_n 13 rfl (show sCode 122 12 = some (.iload_n 1, 1) by decide +kernel) rfl ?_
  refine q_bipush 15 rfl (show sCode 122 13 = some (.bipush 6, 2) by decide +kernel) ⟨by decide, by decide⟩ (by decide +kernel) ?_
  refine q_icmpgt 32 18 rfl (by decide) (show sCode 122 15 = some (.if_icmp .gt 17, 3) by decide +kernel) ?_ ?_
  · intro q; refine q_forget (L' := [vN, vI x1, vO 9 a2]) 0 rfl ?_; refine q_forget (L' := [vN, vN, vO 9 a2]) 1 rfl ?_; refine q_forget (L' := [vN, vN, vN]) 2 rfl ?_; exact k1 q
  · intro q; exact k2 q
theorem b122_18 {d : Nat} {Q : Option sV → sM → sG → Prop} {M : sM} {G : sG} {a0 : Nat} {x1 : Int} {a2 : Nat}  (k1 : 6 ≤ x1 → sW (sC d) 122 Q 34 [vO 11 a0, vI x1, vO 9 a2] [] M G 0 0) (k2 : x1 < 6 → sW (sC d) 122 Q 24 [vO 11 a0, vI x1, vO 9 a2] [] M G 0 0) : sW (sC d) 122 Q 18 [vO 11 a0, vI x1, vO 9 a2] [] M G 0 0 := by
  refine q_iload_n 19 rfl (show sCode 122 18 = some (.iload_n 1, 1) by decide +kernel) rfl ?_
  refine q_bipush 21 rfl (show sCode 122 19 = some (.bipush 6, 2) by decide +kernel) ⟨by decide, by decide⟩ (by decide +kernel) ?_
  refine q_icmpge 34 24 rfl (by decide) (show sCode 122 21 = some (.if_icmp .ge 13, 3) by decide +kernel) ?_ ?_
  · intro q; exact k1 q
  · intro q; exact k2 q
theorem b122_24 {d : Nat} {Q : Option sV → sM → sG → Prop} {M : sM} {G : sG} {a0 : Nat} {x1 : Int} {a2 : Nat}  (k1 : x1 < M a2 1 → sW (sC d) 122 Q 34 [vO 11 a0, vI x1, vO 9 a2] [] M G 0 0) (k2 : M a2 1 ≤ x1 → sW (sC d) 122 Q 32 [vN, vN, vN] [] M G 0 0) : sW (sC d) 122 Q 24 [vO 11 a0, vI x1, vO 9 a2] [] M G 0 0 := by
  refine q_iload_n 25 rfl (show sCode 122 24 = some (.iload_n 1, 1) by decide +kernel) rfl ?_
  refine q_aload_n 26 rfl (show sCode 122 25 = some (.aload_n 2, 1) by decide +kernel) rfl (Nat.le_of_ble_eq_true rfl) ?_
  refine q_getI 29 rfl (show sCode 122 26 = some (.getfield 210, 3) by decide +kernel) (show sFR (sKo 122).1 210 = some (9, 1) by decide +kernel) (by decide +kernel) (Or.inl (Or.inl rfl)) ?_
  refine q_icmplt 34 32 rfl (by decide) (show sCode 122 29 = some (.if_icmp .lt 5, 3) by decide +kernel) ?_ ?_
  · intro q; exact k1 q
  · intro q; refine q_forget (L' := [vN, vI x1, vO 9 a2]) 0 rfl ?_; refine q_forget (L' := [vN, vN, vO 9 a2]) 1 rfl ?_; refine q_forget (L' := [vN, vN, vN]) 2 rfl ?_; exact k2 q
theorem b122_32 {d : Nat} {P : Int → sM → sG → Prop} {M : sM} {G : sG}   (kk : P (-1) M G) : sW (sC d) 122 (QI P) 32 [vN, vN, vN] [] M G 0 0 := by
  refine q_iconst 33 rfl (show sCode 122 32 = some (.iconst (-1), 1) by decide +kernel) ⟨by decide, by decide⟩ ?_
  exact q_iret (show sCode 122 33 = some (.ireturn, 1) by decide +kernel) (by decide +kernel) (by decide +kernel) kk
theorem b122_34 {d : Nat} {Q : Option sV → sM → sG → Prop} {M : sM} {G : sG} {a0 : Nat} {x1 : Int} {a2 : Nat}  (kk : sC d 123 [vO 3 (a0 + 68), vO 9 a2] M G (QV (fun M1 G1 => sW (sC d) 122 Q 42 [vO 11 a0, vI x1, vN] [] M1 G1 0 0))) : sW (sC d) 122 Q 34 [vO 11 a0, vI x1, vO 9 a2] [] M G 0 0 := by
  refine q_aload_n 35 rfl (show sCode 122 34 = some (.aload_n 0, 1) by decide +kernel) rfl (Nat.le_of_ble_eq_true rfl) ?_
  refine q_getR (vO 3 (a0 + 68)) 38 rfl (show sCode 122 35 = some (.getfield 64, 3) by decide +kernel) (show sFR (sKo 122).1 64 = some (11, 8) by decide +kernel) (by decide +kernel) (Or.inl (Or.inl rfl)) rfl ?_
  refine q_aload_n 39 rfl (show sCode 122 38 = some (.aload_n 2, 1) by decide +kernel) rfl (Nat.le_of_ble_eq_true rfl) ?_
  refine q_forget (L' := [vO 11 a0, vI x1, vN]) 2 rfl ?_
  exact q_virtV [vO 9 a2] 42 rfl (show sCode 122 39 = some (.invokevirtual 298, 3) by decide +kernel) (show sMR (sKo 122).1 298 = some 123 by decide +kernel) (show 123 < 1000 ∧ sStat 123 = false ∧ sIni 123 = false ∧ sKo 123 = (3, 1, 0, 0, 0) by decide +kernel) rfl (Or.inl rfl) rfl (Nat.le_of_ble_eq_true rfl) rfl rfl rfl (by decide +kernel) kk
theorem b122_42 {d : Nat} {Q : Option sV → sM → sG → Prop} {M : sM} {G : sG} {a0 : Nat} {x1 : Int}  (k1 : x1 ≠ 6 → sW (sC d) 122 Q 56 [vO 11 a0, vI x1, vN] [] M G 0 0) (k2 : x1 = 6 → sW (sC d) 122 Q 48 [vO 11 a0, vN, vN] [] M G 0 0) : sW (sC d) 122 Q 42 [vO 11 a0, vI x1, vN] [] M G 0 0 := by
  refine q_iload_n 43 rfl (show sCode 122 42 = some (.iload_n 1, 1) by decide +kernel) rfl ?_
  refine q_bipush 45 rfl (show sCode 122 43 = some (.bipush 6, 2) by decide +kernel) ⟨by decide, by decide⟩ (by decide +kernel) ?_
  refine q_icmpne 56 48 rfl (by decide) (show sCode 122 45 = some (.if_icmp .ne 11, 3) by decide +kernel) ?_ ?_
  · intro q; exact k1 q
  · intro q; refine q_forget (L' := [vO 11 a0, vN, vN]) 1 rfl ?_; exact k2 q
theorem b122_48 {d : Nat} {Q : Option sV → sM → sG → Prop} {M : sM} {G : sG} {a0 : Nat}  (kk : sC d 127 [vO 3 (a0 + 68)] M G (QI (fun r M1 G1 => sW (sC d) 122 Q 55 [vN, vN, vN] (vI r :: []) M1 G1 0 0))) : sW (sC d) 122 Q 48 [vO 11 a0, vN, vN] [] M G 0 0 := by
  refine q_aload_n 49 rfl (show sCode 122 48 = some (.aload_n 0, 1) by decide +kernel) rfl (Nat.le_of_ble_eq_true rfl) ?_
  refine q_getR (vO 3 (a0 + 68)) 52 rfl (show sCode 122 49 = some (.getfield 64, 3) by decide +kernel) (show sFR (sKo 122).1 64 = some (11, 8) by decide +kernel) (by decide +kernel) (Or.inl (Or.inl rfl)) rfl ?_
  refine q_forget (L' := [vN, vN, vN]) 0 rfl ?_
  exact q_virtI [] 55 rfl (show sCode 122 52 = some (.invokevirtual 302, 3) by decide +kernel) (show sMR (sKo 122).1 302 = some 127 by decide +kernel) (show 127 < 1000 ∧ sStat 127 = false ∧ sIni 127 = false ∧ sKo 127 = (3, 0, 1, 0, 0) by decide +kernel) rfl (Or.inl rfl) rfl (Nat.le_of_ble_eq_true rfl) rfl rfl rfl (by decide +kernel) kk
theorem b122_55 {d : Nat} {P : Int → sM → sG → Prop} {M : sM} {G : sG} {s0 : Int}  (kk : P s0 M G) : sW (sC d) 122 (QI P) 55 [vN, vN, vN] [vI s0] M G 0 0 := by
  exact q_iret (show sCode 122 55 = some (.ireturn, 1) by decide +kernel) (by decide +kernel) (by decide +kernel) kk
theorem b122_56 {d : Nat} {Q : Option sV → sM → sG → Prop} {M : sM} {G : sG} {a0 : Nat} {x1 : Int}  (kk : sC d 132 [vO 3 (a0 + 68)] M G (QI (fun r M1 G1 => sW (sC d) 122 Q 63 [vO 11 a0, vI x1, vN] (vI r :: []) M1 G1 0 0))) : sW (sC d) 122 Q 56 [vO 11 a0, vI x1, vN] [] M G 0 0 := by
  refine q_aload_n 57 rfl (show sCode 122 56 = some (.aload_n 0, 1) by decide +kernel) rfl (Nat.le_of_ble_eq_true rfl) ?_
  refine q_getR (vO 3 (a0 + 68)) 60 rfl (show sCode 122 57 = some (.getfield 64, 3) by decide +kernel) (show sFR (sKo 122).1 64 = some (11, 8) by decide +kernel) (by decide +kernel) (Or.inl (Or.inl rfl)) rfl ?_
  exact q_virtI [] 63 rfl (show sCode 122 60 = some (.invokevirtual 305, 3) by decide +kernel) (show sMR (sKo 122).1 305 = some 132 by decide +kernel) (show 132 < 1000 ∧ sStat 132 = false ∧ sIni 132 = false ∧ sKo 132 = (3, 0, 2, 0, 0) by decide +kernel) rfl (Or.inl rfl) rfl (Nat.le_of_ble_eq_true rfl) rfl rfl rfl (by decide +kernel) kk
theorem b122_63 {d : Nat} {Q : Option sV → sM → sG → Prop} {M : sM} {G : sG} {a0 : Nat} {x1 : Int} {s0 : Int}  (k1 : s0 = 0 → sW (sC d) 122 Q 77 [vN, vN, vN] [] M G 0 0) (k2 : s0 ≠ 0 → sW (sC d) 122 Q 66 [vO 11 a0, vI x1, vN] [] M G 0 0) : sW (sC d) 122 Q 63 [vO 11 a0, vI x1, vN] [vI s0] M G 0 0 := by
  refine q_ifeq 77 66 rfl (by decide) (show sCode 122 63 = some (.ifCond .eq 14, 3) by decide +kernel) ?_ ?_
  · intro q; refine q_forget (L' := [vN, vI x1, vN]) 0 rfl ?_; refine q_forget (L' := [vN, vN, vN]) 1 rfl ?_; exact k1 q
  · intro q; exact k2 q
theorem b122_66 {d : Nat} {Q : Option sV → sM → sG → Prop} {M : sM} {G : sG} {a0 : Nat} {x1 : Int}  (kk : sC d 134 [vO 3 (a0 + 68), vI x1] M G (QI (fun r M1 G1 => sW (sC d) 122 Q 74 [vN, vN, vN] (vI r :: []) M1 G1 0 0))) : sW (sC d) 122 Q 66 [vO 11 a0, vI x1, vN] [] M G 0 0 := by
  refine q_aload_n 67 rfl (show sCode 122 66 = some (.aload_n 0, 1) by decide +kernel) rfl (Nat.le_of_ble_eq_true rfl) ?_
  refine q_getR (vO 3 (a0 + 68)) 70 rfl (show sCode 122 67 = some (.getfield 64, 3) by decide +kernel) (show sFR (sKo 122).1 64 = some (11, 8) by decide +kernel) (by decide +kernel) (Or.inl (Or.inl rfl)) rfl ?_
  refine q_iload_n 71 rfl (show sCode 122 70 = some (.iload_n 1, 1) by decide +kernel) rfl ?_
  refine q_forget (L' := [vN, vI x1, vN]) 0 rfl ?_
  refine q_forget (L' := [vN, vN, vN]) 1 rfl ?_
  exact q_virtI [vI x1] 74 rfl (show sCode 122 71 = some (.invokevirtual 309, 3) by decide +kernel) (show sMR (sKo 122).1 309 = some 134 by decide +kernel) (show 134 < 1000 ∧ sStat 134 = false ∧ sIni 134 = false ∧ sKo 134 = (3, 1, 1, 0, 0) by decide +kernel) rfl (Or.inl rfl) rfl (Nat.le_of_ble_eq_true rfl) rfl rfl rfl (by decide +kernel) kk
theorem b122_74 {d : Nat} {Q : Option sV → sM → sG → Prop} {M : sM} {G : sG} {s0 : Int}  (kk : sW (sC d) 122 Q 79 [vN, vN, vN] [vI s0] M G 0 0) : sW (sC d) 122 Q 74 [vN, vN, vN] [vI s0] M G 0 0 := by
  refine q_goto 79 (by decide) (show sCode 122 74 = some (.goto 5, 3) by decide +kernel) ?_
  exact kk
theorem b122_77 {d : Nat} {Q : Option sV → sM → sG → Prop} {M : sM} {G : sG}   (kk : sW (sC d) 122 Q 79 [vN, vN, vN] [vI (-2)] M G 0 0) : sW (sC d) 122 Q 77 [vN, vN, vN] [] M G 0 0 := by
  refine q_bipush 79 rfl (show sCode 122 77 = some (.bipush (-2), 2) by decide +kernel) ⟨by decide, by decide⟩ (by decide +kernel) ?_
  exact kk
theorem b122_79 {d : Nat} {P : Int → sM → sG → Prop} {M : sM} {G : sG} {s0 : Int}  (kk : P s0 M G) : sW (sC d) 122 (QI P) 79 [vN, vN, vN] [vI s0] M G 0 0 := by
  exact q_iret (show sCode 122 79 = some (.ireturn, 1) by decide +kernel) (by decide +kernel) (by decide +kernel) kk
-- 135 AfterTheLast.waits (II)I
theorem b135_0 {d : Nat} {Q : Option sV → sM → sG → Prop} {M : sM} {G : sG} {a0 : Nat} {x1 : Int} {x2 : Int}  (kk : sC d 61 [vI x1] M G (QI (fun r M1 G1 => sW (sC d) 135 Q 4 [vO 11 a0, vI x1, vI x2, vN] (vI r :: []) M1 G1 0 0))) : sW (sC d) 135 Q 0 [vO 11 a0, vI x1, vI x2, vN] [] M G 0 0 := by
  refine q_iload_n 1 rfl (show sCode 135 0 = some (.iload_n 1, 1) by decide +kernel) rfl ?_
  exact q_statI [vI x1] 4 rfl (show sCode 135 1 = some (.invokestatic 164, 3) by decide +kernel) (show sMR (sKo 135).1 164 = some 61 by decide +kernel) (show 61 < 1000 ∧ sStat 61 = true ∧ sKo 61 = (11, 1, 2, 0, 0) by decide +kernel) rfl rfl (Nat.le_of_ble_eq_true rfl) rfl rfl rfl (by decide +kernel) kk
theorem b135_4 {d : Nat} {Q : Option sV → sM → sG → Prop} {M : sM} {G : sG} {a0 : Nat} {x1 : Int} {x2 : Int} {s0 : Int}  (k1 : s0 = 0 → sW (sC d) 135 Q 24 [vN, vN, vN, vN] [] M G 0 0) (k2 : s0 ≠ 0 → sW (sC d) 135 Q 7 [vO 11 a0, vI x1, vI x2, vN] [] M G 0 0) : sW (sC d) 135 Q 4 [vO 11 a0, vI x1, vI x2, vN] [vI s0] M G 0 0 := by
  refine q_ifeq 24 7 rfl (by decide) (show sCode 135 4 = some (.ifCond .eq 20, 3) by decide +kernel) ?_ ?_
  · intro q; refine q_forget (L' := [vN, vI x1, vI x2, vN]) 0 rfl ?_; refine q_forget (L' := [vN, vN, vI x2, vN]) 1 rfl ?_; refine q_forget (L' := [vN, vN, vN, vN]) 2 rfl ?_; exact k1 q
  · intro q; exact k2 q
theorem b135_7 {d : Nat} {Q : Option sV → sM → sG → Prop} {M : sM} {G : sG} {a0 : Nat} {x1 : Int} {x2 : Int}  (k1 : x1 = x2 → sW (sC d) 135 Q 24 [vN, vN, vN, vN] [] M G 0 0) (k2 : x1 ≠ x2 → sW (sC d) 135 Q 12 [vO 11 a0, vI x1, vI x2, vN] [] M G 0 0) : sW (sC d) 135 Q 7 [vO 11 a0, vI x1, vI x2, vN] [] M G 0 0 := by
  refine q_iload_n 8 rfl (show sCode 135 7 = some (.iload_n 1, 1) by decide +kernel) rfl ?_
  refine q_iload_n 9 rfl (show sCode 135 8 = some (.iload_n 2, 1) by decide +kernel) rfl ?_
  refine q_icmpeq 24 12 rfl (by decide) (show sCode 135 9 = some (.if_icmp .eq 15, 3) by decide +kernel) ?_ ?_
  · intro q; refine q_forget (L' := [vN, vI x1, vI x2, vN]) 0 rfl ?_; refine q_forget (L' := [vN, vN, vI x2, vN]) 1 rfl ?_; refine q_forget (L' := [vN, vN, vN, vN]) 2 rfl ?_; exact k1 q
  · intro q; exact k2 q
theorem b135_12 {d : Nat} {Q : Option sV → sM → sG → Prop} {M : sM} {G : sG} {a0 : Nat} {x1 : Int} {x2 : Int}  (k1 : x2 = (-1) → sW (sC d) 135 Q 27 [vO 11 a0, vI x1, vI x2, vN] [] M G 0 0) (k2 : x2 ≠ (-1) → sW (sC d) 135 Q 17 [vO 11 a0, vI x1, vI x2, vN] [] M G 0 0) : sW (sC d) 135 Q 12 [vO 11 a0, vI x1, vI x2, vN] [] M G 0 0 := by
  refine q_iload_n 13 rfl (show sCode 135 12 = some (.iload_n 2, 1) by decide +kernel) rfl ?_
  refine q_iconst 14 rfl (show sCode 135 13 = some (.iconst (-1), 1) by decide +kernel) ⟨by decide, by decide⟩ ?_
  refine q_icmpeq 27 17 rfl (by decide) (show sCode 135 14 = some (.if_icmp .eq 13, 3) by decide +kernel) ?_ ?_
  · intro q; exact k1 q
  · intro q; exact k2 q
theorem b135_17 {d : Nat} {Q : Option sV → sM → sG → Prop} {M : sM} {G : sG} {a0 : Nat} {x1 : Int} {x2 : Int}  (kk : sC d 61 [vI x2] M G (QI (fun r M1 G1 => sW (sC d) 135 Q 21 [vO 11 a0, vI x1, vI x2, vN] (vI r :: []) M1 G1 0 0))) : sW (sC d) 135 Q 17 [vO 11 a0, vI x1, vI x2, vN] [] M G 0 0 := by
  refine q_iload_n 18 rfl (show sCode 135 17 = some (.iload_n 2, 1) by decide +kernel) rfl ?_
  exact q_statI [vI x2] 21 rfl (show sCode 135 18 = some (.invokestatic 164, 3) by decide +kernel) (show sMR (sKo 135).1 164 = some 61 by decide +kernel) (show 61 < 1000 ∧ sStat 61 = true ∧ sKo 61 = (11, 1, 2, 0, 0) by decide +kernel) rfl rfl (Nat.le_of_ble_eq_true rfl) rfl rfl rfl (by decide +kernel) kk
theorem b135_21 {d : Nat} {Q : Option sV → sM → sG → Prop} {M : sM} {G : sG} {a0 : Nat} {x1 : Int} {x2 : Int} {s0 : Int}  (k1 : s0 ≠ 0 → sW (sC d) 135 Q 27 [vO 11 a0, vI x1, vI x2, vN] [] M G 0 0) (k2 : s0 = 0 → sW (sC d) 135 Q 24 [vN, vN, vN, vN] [] M G 0 0) : sW (sC d) 135 Q 21 [vO 11 a0, vI x1, vI x2, vN] [vI s0] M G 0 0 := by
  refine q_ifne 27 24 rfl (by decide) (show sCode 135 21 = some (.ifCond .ne 6, 3) by decide +kernel) ?_ ?_
  · intro q; exact k1 q
  · intro q; refine q_forget (L' := [vN, vI x1, vI x2, vN]) 0 rfl ?_; refine q_forget (L' := [vN, vN, vI x2, vN]) 1 rfl ?_; refine q_forget (L' := [vN, vN, vN, vN]) 2 rfl ?_; exact k2 q
theorem b135_24 {d : Nat} {P : Int → sM → sG → Prop} {M : sM} {G : sG}   (kk : P (-2) M G) : sW (sC d) 135 (QI P) 24 [vN, vN, vN, vN] [] M G 0 0 := by
  refine q_bipush 26 rfl (show sCode 135 24 = some (.bipush (-2), 2) by decide +kernel) ⟨by decide, by decide⟩ (by decide +kernel) ?_
  exact q_iret (show sCode 135 26 = some (.ireturn, 1) by decide +kernel) (by decide +kernel) (by decide +kernel) kk
theorem b135_27 {d : Nat} {P : Int → sM → sG → Prop} {M : sM} {G : sG} {a0 : Nat} {x1 : Int} {x2 : Int} (h1 : 0 ≤ x1 ∧ x1 < 12) (h2 : 0 ≤ x1 ∧ x1 < 12) (kk : P (M (a0 + 27) x1.toNat) (sUpd M (a0 + 27) x1.toNat x2) G) : sW (sC d) 135 (QI P) 27 [vO 11 a0, vI x1, vI x2, vN] [] M G 0 0 := by
  refine q_aload_n 28 rfl (show sCode 135 27 = some (.aload_n 0, 1) by decide +kernel) rfl (Nat.le_of_ble_eq_true rfl) ?_
  refine q_getR (vO 8 (a0 + 12)) 31 rfl (show sCode 135 28 = some (.getfield 32, 3) by decide +kernel) (show sFR (sKo 135).1 32 = some (11, 3) by decide +kernel) (by decide +kernel) (Or.inl (Or.inl rfl)) rfl ?_
  refine q_getR (vO 10 (a0 + 13)) 34 rfl (show sCode 135 31 = some (.getfield 103, 3) by decide +kernel) (show sFR (sKo 135).1 103 = some (8, 0) by decide +kernel) (by decide +kernel) (Or.inl (Or.inl rfl)) rfl ?_
  refine q_getR (vA 0 (a0 + 27) 12) 37 rfl (show sCode 135 34 = some (.getfield 179, 3) by decide +kernel) (show sFR (sKo 135).1 179 = some (10, 17) by decide +kernel) (by decide +kernel) (Or.inl (Or.inl rfl)) rfl ?_
  refine q_iload_n 38 rfl (show sCode 135 37 = some (.iload_n 1, 1) by decide +kernel) rfl ?_
  refine q_iald 39 rfl (show sCode 135 38 = some (.iaload, 1) by decide +kernel) h1 ?_
  refine q_istore_n [vO 11 a0, vI x1, vI x2, vI (M (a0 + 27) x1.toNat)] 40 rfl (show sCode 135 39 = some (.istore_n 3, 1) by decide +kernel) (Nat.lt_of_lt_of_le (Nat.lt_succ_self _) (Nat.le_of_ble_eq_true rfl)) rfl rfl ?_
  refine q_aload_n 41 rfl (show sCode 135 40 = some (.aload_n 0, 1) by decide +kernel) rfl (Nat.le_of_ble_eq_true rfl) ?_
  refine q_getR (vO 8 (a0 + 12)) 44 rfl (show sCode 135 41 = some (.getfield 32, 3) by decide +kernel) (show sFR (sKo 135).1 32 = some (11, 3) by decide +kernel) (by decide +kernel) (Or.inl (Or.inl rfl)) rfl ?_
  refine q_getR (vO 10 (a0 + 13)) 47 rfl (show sCode 135 44 = some (.getfield 103, 3) by decide +kernel) (show sFR (sKo 135).1 103 = some (8, 0) by decide +kernel) (by decide +kernel) (Or.inl (Or.inl rfl)) rfl ?_
  refine q_getR (vA 0 (a0 + 27) 12) 50 rfl (show sCode 135 47 = some (.getfield 179, 3) by decide +kernel) (show sFR (sKo 135).1 179 = some (10, 17) by decide +kernel) (by decide +kernel) (Or.inl (Or.inl rfl)) rfl ?_
  refine q_iload_n 51 rfl (show sCode 135 50 = some (.iload_n 1, 1) by decide +kernel) rfl ?_
  refine q_iload_n 52 rfl (show sCode 135 51 = some (.iload_n 2, 1) by decide +kernel) rfl ?_
  refine q_iast 53 rfl (show sCode 135 52 = some (.iastore, 1) by decide +kernel) h2 ?_
  refine q_iload_n 54 rfl (show sCode 135 53 = some (.iload_n 3, 1) by decide +kernel) rfl ?_
  exact q_iret (show sCode 135 54 = some (.ireturn, 1) by decide +kernel) (by decide +kernel) (by decide +kernel) kk
-- 136 AfterTheLast.rings (I)I
theorem b136_0 {d : Nat} {Q : Option sV → sM → sG → Prop} {M : sM} {G : sG} {a0 : Nat} {x1 : Int}  (k1 : x1 < 0 → sW (sC d) 136 Q 9 [vN, vN] [] M G 0 0) (k2 : 0 ≤ x1 → sW (sC d) 136 Q 4 [vO 11 a0, vI x1] [] M G 0 0) : sW (sC d) 136 Q 0 [vO 11 a0, vI x1] [] M G 0 0 := by
  refine q_iload_n 1 rfl (show sCode 136 0 = some (.iload_n 1, 1) by decide +kernel) rfl ?_
  refine q_iflt 9 4 rfl (by decide) (show sCode 136 1 = some (.ifCond .lt 8, 3) by decide +kernel) ?_ ?_
  · intro q; refine q_forget (L' := [vN, vI x1]) 0 rfl ?_; refine q_forget (L' := [vN, vN]) 1 rfl ?_; exact k1 q
  · intro q; exact k2 q
theorem b136_4 {d : Nat} {Q : Option sV → sM → sG → Prop} {M : sM} {G : sG} {a0 : Nat} {x1 : Int}  (k1 : x1 ≤ 3 → sW (sC d) 136 Q 11 [vO 11 a0, vI x1] [] M G 0 0) (k2 : 3 < x1 → sW (sC d) 136 Q 9 [vN, vN] [] M G 0 0) : sW (sC d) 136 Q 4 [vO 11 a0, vI x1] [] M G 0 0 := by
  refine q_iload_n 5 rfl (show sCode 136 4 = some (.iload_n 1, 1) by decide +kernel) rfl ?_
  refine q_iconst 6 rfl (show sCode 136 5 = some (.iconst 3, 1) by decide +kernel) ⟨by decide, by decide⟩ ?_
  refine q_icmple 11 9 rfl (by decide) (show sCode 136 6 = some (.if_icmp .le 5, 3) by decide +kernel) ?_ ?_
  · intro q; exact k1 q
  · intro q; refine q_forget (L' := [vN, vI x1]) 0 rfl ?_; refine q_forget (L' := [vN, vN]) 1 rfl ?_; exact k2 q
theorem b136_9 {d : Nat} {P : Int → sM → sG → Prop} {M : sM} {G : sG}   (kk : P (-1) M G) : sW (sC d) 136 (QI P) 9 [vN, vN] [] M G 0 0 := by
  refine q_iconst 10 rfl (show sCode 136 9 = some (.iconst (-1), 1) by decide +kernel) ⟨by decide, by decide⟩ ?_
  exact q_iret (show sCode 136 10 = some (.ireturn, 1) by decide +kernel) (by decide +kernel) (by decide +kernel) kk
theorem b136_11 {d : Nat} {Q : Option sV → sM → sG → Prop} {M : sM} {G : sG} {a0 : Nat} {x1 : Int}  (kk : sC d 137 [vO 5 (a0 + 75), vO 10 (a0 + 13)] M G (QV (fun M1 G1 => sW (sC d) 136 Q 25 [vO 11 a0, vI x1] [] M1 G1 0 0))) : sW (sC d) 136 Q 11 [vO 11 a0, vI x1] [] M G 0 0 := by
  refine q_aload_n 12 rfl (show sCode 136 11 = some (.aload_n 0, 1) by decide +kernel) rfl (Nat.le_of_ble_eq_true rfl) ?_
  refine q_getR (vO 5 (a0 + 75)) 15 rfl (show sCode 136 12 = some (.getfield 71, 3) by decide +kernel) (show sFR (sKo 136).1 71 = some (11, 9) by decide +kernel) (by decide +kernel) (Or.inl (Or.inl rfl)) rfl ?_
  refine q_aload_n 16 rfl (show sCode 136 15 = some (.aload_n 0, 1) by decide +kernel) rfl (Nat.le_of_ble_eq_true rfl) ?_
  refine q_getR (vO 8 (a0 + 12)) 19 rfl (show sCode 136 16 = some (.getfield 32, 3) by decide +kernel) (show sFR (sKo 136).1 32 = some (11, 3) by decide +kernel) (by decide +kernel) (Or.inl (Or.inl rfl)) rfl ?_
  refine q_getR (vO 10 (a0 + 13)) 22 rfl (show sCode 136 19 = some (.getfield 103, 3) by decide +kernel) (show sFR (sKo 136).1 103 = some (8, 0) by decide +kernel) (by decide +kernel) (Or.inl (Or.inl rfl)) rfl ?_
  exact q_virtV [vO 10 (a0 + 13)] 25 rfl (show sCode 136 22 = some (.invokevirtual 312, 3) by decide +kernel) (show sMR (sKo 136).1 312 = some 137 by decide +kernel) (show 137 < 1000 ∧ sStat 137 = false ∧ sIni 137 = false ∧ sKo 137 = (5, 1, 0, 0, 0) by decide +kernel) rfl (Or.inl rfl) rfl (Nat.le_of_ble_eq_true rfl) rfl rfl rfl (by decide +kernel) kk
theorem b136_25 {d : Nat} {Q : Option sV → sM → sG → Prop} {M : sM} {G : sG} {a0 : Nat} {x1 : Int}  (kd : x1 < 0 ∨ 2 < x1 → sW (sC d) 136 Q 76 [vO 11 a0, vN] [] M G 0 0) (k0 : x1 = 0 → sW (sC d) 136 Q 52 [vO 11 a0, vN] [] M G 0 0) (k1 : x1 = 1 → sW (sC d) 136 Q 60 [vO 11 a0, vN] [] M G 0 0) (k2 : x1 = 2 → sW (sC d) 136 Q 68 [vO 11 a0, vN] [] M G 0 0) : sW (sC d) 136 Q 25 [vO 11 a0, vI x1] [] M G 0 0 := by
  refine q_iload_n 26 rfl (show sCode 136 25 = some (.iload_n 1, 1) by decide +kernel) rfl ?_
  refine q_switch (show sCode 136 26 = some (.tableswitch 50 0 2 #[26, 34, 42], 26) by decide +kernel) (fun q => ⟨76, by decide, ?_⟩) (fun q1 q2 => ?_)
  · refine q_forget (L' := [vO 11 a0, vN]) 1 rfl ?_; exact kd q
  · have q3 : x1 = 0 ∨ x1 = 1 ∨ x1 = 2 := by omega
    rcases q3 with q | q | q
    · refine ⟨26, 52, by rw [q]; rfl, by decide, ?_⟩; refine q_forget (L' := [vO 11 a0, vN]) 1 rfl ?_; exact k0 q
    · refine ⟨34, 60, by rw [q]; rfl, by decide, ?_⟩; refine q_forget (L' := [vO 11 a0, vN]) 1 rfl ?_; exact k1 q
    · refine ⟨42, 68, by rw [q]; rfl, by decide, ?_⟩; refine q_forget (L' := [vO 11 a0, vN]) 1 rfl ?_; exact k2 q
theorem b136_52 {d : Nat} {Q : Option sV → sM → sG → Prop} {M : sM} {G : sG} {a0 : Nat}  (kk : sC d 139 [vO 5 (a0 + 75)] M G (QI (fun r M1 G1 => sW (sC d) 136 Q 59 [vN, vN] (vI r :: []) M1 G1 0 0))) : sW (sC d) 136 Q 52 [vO 11 a0, vN] [] M G 0 0 := by
  refine q_aload_n 53 rfl (show sCode 136 52 = some (.aload_n 0, 1) by decide +kernel) rfl (Nat.le_of_ble_eq_true rfl) ?_
  refine q_getR (vO 5 (a0 + 75)) 56 rfl (show sCode 136 53 = some (.getfield 71, 3) by decide +kernel) (show sFR (sKo 136).1 71 = some (11, 9) by decide +kernel) (by decide +kernel) (Or.inl (Or.inl rfl)) rfl ?_
  refine q_forget (L' := [vN, vN]) 0 rfl ?_
  exact q_virtI [] 59 rfl (show sCode 136 56 = some (.invokevirtual 314, 3) by decide +kernel) (show sMR (sKo 136).1 314 = some 139 by decide +kernel) (show 139 < 1000 ∧ sStat 139 = false ∧ sIni 139 = false ∧ sKo 139 = (5, 0, 1, 0, 0) by decide +kernel) rfl (Or.inl rfl) rfl (Nat.le_of_ble_eq_true rfl) rfl rfl rfl (by decide +kernel) kk
theorem b136_59 {d : Nat} {P : Int → sM → sG → Prop} {M : sM} {G : sG} {s0 : Int}  (kk : P s0 M G) : sW (sC d) 136 (QI P) 59 [vN, vN] [vI s0] M G 0 0 := by
  exact q_iret (show sCode 136 59 = some (.ireturn, 1) by decide +kernel) (by decide +kernel) (by decide +kernel) kk
theorem b136_60 {d : Nat} {Q : Option sV → sM → sG → Prop} {M : sM} {G : sG} {a0 : Nat}  (kk : sC d 141 [vO 5 (a0 + 75)] M G (QI (fun r M1 G1 => sW (sC d) 136 Q 67 [vN, vN] (vI r :: []) M1 G1 0 0))) : sW (sC d) 136 Q 60 [vO 11 a0, vN] [] M G 0 0 := by
  refine q_aload_n 61 rfl (show sCode 136 60 = some (.aload_n 0, 1) by decide +kernel) rfl (Nat.le_of_ble_eq_true rfl) ?_
  refine q_getR (vO 5 (a0 + 75)) 64 rfl (show sCode 136 61 = some (.getfield 71, 3) by decide +kernel) (show sFR (sKo 136).1 71 = some (11, 9) by decide +kernel) (by decide +kernel) (Or.inl (Or.inl rfl)) rfl ?_
  refine q_forget (L' := [vN, vN]) 0 rfl ?_
  exact q_virtI [] 67 rfl (show sCode 136 64 = some (.invokevirtual 317, 3) by decide +kernel) (show sMR (sKo 136).1 317 = some 141 by decide +kernel) (show 141 < 1000 ∧ sStat 141 = false ∧ sIni 141 = false ∧ sKo 141 = (5, 0, 1, 0, 0) by decide +kernel) rfl (Or.inl rfl) rfl (Nat.le_of_ble_eq_true rfl) rfl rfl rfl (by decide +kernel) kk
theorem b136_67 {d : Nat} {P : Int → sM → sG → Prop} {M : sM} {G : sG} {s0 : Int}  (kk : P s0 M G) : sW (sC d) 136 (QI P) 67 [vN, vN] [vI s0] M G 0 0 := by
  exact q_iret (show sCode 136 67 = some (.ireturn, 1) by decide +kernel) (by decide +kernel) (by decide +kernel) kk
theorem b136_68 {d : Nat} {Q : Option sV → sM → sG → Prop} {M : sM} {G : sG} {a0 : Nat}  (kk : sC d 143 [vO 5 (a0 + 75)] M G (QI (fun r M1 G1 => sW (sC d) 136 Q 75 [vN, vN] (vI r :: []) M1 G1 0 0))) : sW (sC d) 136 Q 68 [vO 11 a0, vN] [] M G 0 0 := by
  refine q_aload_n 69 rfl (show sCode 136 68 = some (.aload_n 0, 1) by decide +kernel) rfl (Nat.le_of_ble_eq_true rfl) ?_
  refine q_getR (vO 5 (a0 + 75)) 72 rfl (show sCode 136 69 = some (.getfield 71, 3) by decide +kernel) (show sFR (sKo 136).1 71 = some (11, 9) by decide +kernel) (by decide +kernel) (Or.inl (Or.inl rfl)) rfl ?_
  refine q_forget (L' := [vN, vN]) 0 rfl ?_
  exact q_virtI [] 75 rfl (show sCode 136 72 = some (.invokevirtual 320, 3) by decide +kernel) (show sMR (sKo 136).1 320 = some 143 by decide +kernel) (show 143 < 1000 ∧ sStat 143 = false ∧ sIni 143 = false ∧ sKo 143 = (5, 0, 1, 0, 0) by decide +kernel) rfl (Or.inl rfl) rfl (Nat.le_of_ble_eq_true rfl) rfl rfl rfl (by decide +kernel) kk
theorem b136_75 {d : Nat} {P : Int → sM → sG → Prop} {M : sM} {G : sG} {s0 : Int}  (kk : P s0 M G) : sW (sC d) 136 (QI P) 75 [vN, vN] [vI s0] M G 0 0 := by
  exact q_iret (show sCode 136 75 = some (.ireturn, 1) by decide +kernel) (by decide +kernel) (by decide +kernel) kk
theorem b136_76 {d : Nat} {Q : Option sV → sM → sG → Prop} {M : sM} {G : sG} {a0 : Nat}  (kk : sC d 143 [vO 5 (a0 + 75)] M G (QI (fun r M1 G1 => sW (sC d) 136 Q 83 [vN, vN] (vI r :: []) M1 G1 0 0))) : sW (sC d) 136 Q 76 [vO 11 a0, vN] [] M G 0 0 := by
  refine q_aload_n 77 rfl (show sCode 136 76 = some (.aload_n 0, 1) by decide +kernel) rfl (Nat.le_of_ble_eq_true rfl) ?_
  refine q_getR (vO 5 (a0 + 75)) 80 rfl (show sCode 136 77 = some (.getfield 71, 3) by decide +kernel) (show sFR (sKo 136).1 71 = some (11, 9) by decide +kernel) (by decide +kernel) (Or.inl (Or.inl rfl)) rfl ?_
  refine q_forget (L' := [vN, vN]) 0 rfl ?_
  exact q_virtI [] 83 rfl (show sCode 136 80 = some (.invokevirtual 320, 3) by decide +kernel) (show sMR (sKo 136).1 320 = some 143 by decide +kernel) (show 143 < 1000 ∧ sStat 143 = false ∧ sIni 143 = false ∧ sKo 143 = (5, 0, 1, 0, 0) by decide +kernel) rfl (Or.inl rfl) rfl (Nat.le_of_ble_eq_true rfl) rfl rfl rfl (by decide +kernel) kk
theorem b136_83 {d : Nat} {Q : Option sV → sM → sG → Prop} {M : sM} {G : sG} {s0 : Int}  (kk : sC d 113 [vI s0] M G (QI (fun r M1 G1 => sW (sC d) 136 Q 86 [vN, vN] (vI r :: []) M1 G1 0 0))) : sW (sC d) 136 Q 83 [vN, vN] [vI s0] M G 0 0 := by
  exact q_statI [vI s0] 86 rfl (show sCode 136 83 = some (.invokestatic 276, 3) by decide +kernel) (show sMR (sKo 136).1 276 = some 113 by decide +kernel) (show 113 < 1000 ∧ sStat 113 = true ∧ sKo 113 = (15, 1, 1, 0, 0) by decide +kernel) rfl rfl (Nat.le_of_ble_eq_true rfl) rfl rfl rfl (by decide +kernel) kk
theorem b136_86 {d : Nat} {P : Int → sM → sG → Prop} {M : sM} {G : sG} {s0 : Int}  (kk : P s0 M G) : sW (sC d) 136 (QI P) 86 [vN, vN] [vI s0] M G 0 0 := by
  exact q_iret (show sCode 136 86 = some (.ireturn, 1) by decide +kernel) (by decide +kernel) (by decide +kernel) kk
-- 144 AfterTheLast.worth (II)I
theorem b144_0 {d : Nat} {Q : Option sV → sM → sG → Prop} {M : sM} {G : sG} {a0 : Nat} {x1 : Int} {x2 : Int}  (kk : sC d 61 [vI x1] M G (QI (fun r M1 G1 => sW (sC d) 144 Q 4 [vO 11 a0, vI x1, vI x2, vN] (vI r :: []) M1 G1 0 0))) : sW (sC d) 144 Q 0 [vO 11 a0, vI x1, vI x2, vN] [] M G 0 0 := by
  refine q_iload_n 1 rfl (show sCode 144 0 = some (.iload_n 1, 1) by decide +kernel) rfl ?_
  exact q_statI [vI x1] 4 rfl (show sCode 144 1 = some (.invokestatic 164, 3) by decide +kernel) (show sMR (sKo 144).1 164 = some 61 by decide +kernel) (show 61 < 1000 ∧ sStat 61 = true ∧ sKo 61 = (11, 1, 2, 0, 0) by decide +kernel) rfl rfl (Nat.le_of_ble_eq_true rfl) rfl rfl rfl (by decide +kernel) kk
theorem b144_4 {d : Nat} {Q : Option sV → sM → sG → Prop} {M : sM} {G : sG} {a0 : Nat} {x1 : Int} {x2 : Int} {s0 : Int}  (k1 : s0 = 0 → sW (sC d) 144 Q 17 [vN, vN, vN, vN] [] M G 0 0) (k2 : s0 ≠ 0 → sW (sC d) 144 Q 7 [vO 11 a0, vI x1, vI x2, vN] [] M G 0 0) : sW (sC d) 144 Q 4 [vO 11 a0, vI x1, vI x2, vN] [vI s0] M G 0 0 := by
  refine q_ifeq 17 7 rfl (by decide) (show sCode 144 4 = some (.ifCond .eq 13, 3) by decide +kernel) ?_ ?_
  · intro q; refine q_forget (L' := [vN, vI x1, vI x2, vN]) 0 rfl ?_; refine q_forget (L' := [vN, vN, vI x2, vN]) 1 rfl ?_; refine q_forget (L' := [vN, vN, vN, vN]) 2 rfl ?_; exact k1 q
  · intro q; exact k2 q
theorem b144_7 {d : Nat} {Q : Option sV → sM → sG → Prop} {M : sM} {G : sG} {a0 : Nat} {x1 : Int} {x2 : Int}  (k1 : x2 < 0 → sW (sC d) 144 Q 17 [vN, vN, vN, vN] [] M G 0 0) (k2 : 0 ≤ x2 → sW (sC d) 144 Q 11 [vO 11 a0, vI x1, vI x2, vN] [] M G 0 0) : sW (sC d) 144 Q 7 [vO 11 a0, vI x1, vI x2, vN] [] M G 0 0 := by
  refine q_iload_n 8 rfl (show sCode 144 7 = some (.iload_n 2, 1) by decide +kernel) rfl ?_
  refine q_iflt 17 11 rfl (by decide) (show sCode 144 8 = some (.ifCond .lt 9, 3) by decide +kernel) ?_ ?_
  · intro q; refine q_forget (L' := [vN, vI x1, vI x2, vN]) 0 rfl ?_; refine q_forget (L' := [vN, vN, vI x2, vN]) 1 rfl ?_; refine q_forget (L' := [vN, vN, vN, vN]) 2 rfl ?_; exact k1 q
  · intro q; exact k2 q
theorem b144_11 {d : Nat} {Q : Option sV → sM → sG → Prop} {M : sM} {G : sG} {a0 : Nat} {x1 : Int} {x2 : Int}  (k1 : x2 ≤ 99 → sW (sC d) 144 Q 19 [vO 11 a0, vI x1, vI x2, vN] [] M G 0 0) (k2 : 99 < x2 → sW (sC d) 144 Q 17 [vN, vN, vN, vN] [] M G 0 0) : sW (sC d) 144 Q 11 [vO 11 a0, vI x1, vI x2, vN] [] M G 0 0 := by
  refine q_iload_n 12 rfl (show sCode 144 11 = some (.iload_n 2, 1) by decide +kernel) rfl ?_
  refine q_bipush 14 rfl (show sCode 144 12 = some (.bipush 99, 2) by decide +kernel) ⟨by decide, by decide⟩ (by decide +kernel) ?_
  refine q_icmple 19 17 rfl (by decide) (show sCode 144 14 = some (.if_icmp .le 5, 3) by decide +kernel) ?_ ?_
  · intro q; exact k1 q
  · intro q; refine q_forget (L' := [vN, vI x1, vI x2, vN]) 0 rfl ?_; refine q_forget (L' := [vN, vN, vI x2, vN]) 1 rfl ?_; refine q_forget (L' := [vN, vN, vN, vN]) 2 rfl ?_; exact k2 q
theorem b144_17 {d : Nat} {P : Int → sM → sG → Prop} {M : sM} {G : sG}   (kk : P (-1) M G) : sW (sC d) 144 (QI P) 17 [vN, vN, vN, vN] [] M G 0 0 := by
  refine q_iconst 18 rfl (show sCode 144 17 = some (.iconst (-1), 1) by decide +kernel) ⟨by decide, by decide⟩ ?_
  exact q_iret (show sCode 144 18 = some (.ireturn, 1) by decide +kernel) (by decide +kernel) (by decide +kernel) kk
theorem b144_19 {d : Nat} {P : Int → sM → sG → Prop} {M : sM} {G : sG} {a0 : Nat} {x1 : Int} {x2 : Int} (h1 : 0 ≤ x1 ∧ x1 < 12) (h2 : 0 ≤ x1 ∧ x1 < 12) (kk : P (M (a0 + 29) x1.toNat) (sUpd M (a0 + 29) x1.toNat x2) G) : sW (sC d) 144 (QI P) 19 [vO 11 a0, vI x1, vI x2, vN] [] M G 0 0 := by
  refine q_aload_n 20 rfl (show sCode 144 19 = some (.aload_n 0, 1) by decide +kernel) rfl (Nat.le_of_ble_eq_true rfl) ?_
  refine q_getR (vO 8 (a0 + 12)) 23 rfl (show sCode 144 20 = some (.getfield 32, 3) by decide +kernel) (show sFR (sKo 144).1 32 = some (11, 3) by decide +kernel) (by decide +kernel) (Or.inl (Or.inl rfl)) rfl ?_
  refine q_getR (vO 9 (a0 + 28)) 26 rfl (show sCode 144 23 = some (.getfield 182, 3) by decide +kernel) (show sFR (sKo 144).1 182 = some (8, 1) by decide +kernel) (by decide +kernel) (Or.inl (Or.inl rfl)) rfl ?_
  refine q_getR (vA 0 (a0 + 29) 12) 29 rfl (show sCode 144 26 = some (.getfield 186, 3) by decide +kernel) (show sFR (sKo 144).1 186 = some (9, 0) by decide +kernel) (by decide +kernel) (Or.inl (Or.inl rfl)) rfl ?_
  refine q_iload_n 30 rfl (show sCode 144 29 = some (.iload_n 1, 1) by decide +kernel) rfl ?_
  refine q_iald 31 rfl (show sCode 144 30 = some (.iaload, 1) by decide +kernel) h1 ?_
  refine q_istore_n [vO 11 a0, vI x1, vI x2, vI (M (a0 + 29) x1.toNat)] 32 rfl (show sCode 144 31 = some (.istore_n 3, 1) by decide +kernel) (Nat.lt_of_lt_of_le (Nat.lt_succ_self _) (Nat.le_of_ble_eq_true rfl)) rfl rfl ?_
  refine q_aload_n 33 rfl (show sCode 144 32 = some (.aload_n 0, 1) by decide +kernel) rfl (Nat.le_of_ble_eq_true rfl) ?_
  refine q_getR (vO 8 (a0 + 12)) 36 rfl (show sCode 144 33 = some (.getfield 32, 3) by decide +kernel) (show sFR (sKo 144).1 32 = some (11, 3) by decide +kernel) (by decide +kernel) (Or.inl (Or.inl rfl)) rfl ?_
  refine q_getR (vO 9 (a0 + 28)) 39 rfl (show sCode 144 36 = some (.getfield 182, 3) by decide +kernel) (show sFR (sKo 144).1 182 = some (8, 1) by decide +kernel) (by decide +kernel) (Or.inl (Or.inl rfl)) rfl ?_
  refine q_getR (vA 0 (a0 + 29) 12) 42 rfl (show sCode 144 39 = some (.getfield 186, 3) by decide +kernel) (show sFR (sKo 144).1 186 = some (9, 0) by decide +kernel) (by decide +kernel) (Or.inl (Or.inl rfl)) rfl ?_
  refine q_iload_n 43 rfl (show sCode 144 42 = some (.iload_n 1, 1) by decide +kernel) rfl ?_
  refine q_iload_n 44 rfl (show sCode 144 43 = some (.iload_n 2, 1) by decide +kernel) rfl ?_
  refine q_iast 45 rfl (show sCode 144 44 = some (.iastore, 1) by decide +kernel) h2 ?_
  refine q_iload_n 46 rfl (show sCode 144 45 = some (.iload_n 3, 1) by decide +kernel) rfl ?_
  exact q_iret (show sCode 144 46 = some (.ireturn, 1) by decide +kernel) (by decide +kernel) (by decide +kernel) kk
-- 145 AfterTheLast.asks (I)I
theorem b145_0 {d : Nat} {Q : Option sV → sM → sG → Prop} {M : sM} {G : sG} {a0 : Nat} {x1 : Int}  (kk : sC d 55 [vO 10 (a0 + 13), vI x1] M G (QI (fun r M1 G1 => sW (sC d) 145 Q 13 [vO 11 a0, vI x1, vO 10 (a0 + 13), vN, vN, vN] (vI r :: []) M1 G1 0 0))) : sW (sC d) 145 Q 0 [vO 11 a0, vI x1, vN, vN, vN, vN] [] M G 0 0 := by
  refine q_aload_n 1 rfl (show sCode 145 0 = some (.aload_n 0, 1) by decide +kernel) rfl (Nat.le_of_ble_eq_true rfl) ?_
  refine q_getR (vO 8 (a0 + 12)) 4 rfl (show sCode 145 1 = some (.getfield 32, 3) by decide +kernel) (show sFR (sKo 145).1 32 = some (11, 3) by decide +kernel) (by decide +kernel) (Or.inl (Or.inl rfl)) rfl ?_
  refine q_getR (vO 10 (a0 + 13)) 7 rfl (show sCode 145 4 = some (.getfield 103, 3) by decide +kernel) (show sFR (sKo 145).1 103 = some (8, 0) by decide +kernel) (by decide +kernel) (Or.inl (Or.inl rfl)) rfl ?_
  refine q_astore_n [vO 11 a0, vI x1, vO 10 (a0 + 13), vN, vN, vN] 8 rfl (show sCode 145 7 = some (.astore_n 2, 1) by decide +kernel) (by first | exact ⟨Nat.le_of_ble_eq_true rfl, Or.inl (Nat.lt_of_lt_of_le (Nat.lt_succ_self _) (Nat.le_of_ble_eq_true rfl))⟩ | exact ⟨Nat.le_of_ble_eq_true rfl, Or.inr (Nat.le_of_ble_eq_true rfl)⟩) (Nat.lt_of_lt_of_le (Nat.lt_succ_self _) (Nat.le_of_ble_eq_true rfl)) rfl rfl ?_
  refine q_aload_n 9 rfl (show sCode 145 8 = some (.aload_n 2, 1) by decide +kernel) rfl (Nat.le_of_ble_eq_true rfl) ?_
  refine q_iload_n 10 rfl (show sCode 145 9 = some (.iload_n 1, 1) by decide +kernel) rfl ?_
  exact q_virtI [vI x1] 13 rfl (show sCode 145 10 = some (.invokevirtual 120, 3) by decide +kernel) (show sMR (sKo 145).1 120 = some 55 by decide +kernel) (show 55 < 1000 ∧ sStat 55 = false ∧ sIni 55 = false ∧ sKo 55 = (10, 1, 2, 0, 0) by decide +kernel) rfl (Or.inl rfl) rfl (Nat.le_of_ble_eq_true rfl) rfl rfl rfl (by decide +kernel) kk
theorem b145_13 {d : Nat} {Q : Option sV → sM → sG → Prop} {M : sM} {G : sG} {a0 : Nat} {x1 : Int} {a2 : Nat} {s0 : Int}  (k1 : s0 ≠ 0 → sW (sC d) 145 Q 18 [vO 11 a0, vI x1, vO 10 a2, vN, vN, vN] [] M G 0 0) (k2 : s0 = 0 → sW (sC d) 145 Q 16 [vN, vN, vN, vN, vN, vN] [] M G 0 0) : sW (sC d) 145 Q 13 [vO 11 a0, vI x1, vO 10 a2, vN, vN, vN] [vI s0] M G 0 0 := by
  refine q_ifne 18 16 rfl (by decide) (show sCode 145 13 = some (.ifCond .ne 5, 3) by decide +kernel) ?_ ?_
  · intro q; exact k1 q
  · intro q; refine q_forget (L' := [vN, vI x1, vO 10 a2, vN, vN, vN]) 0 rfl ?_; refine q_forget (L' := [vN, vN, vO 10 a2, vN, vN, vN]) 1 rfl ?_; refine q_forget (L' := [vN, vN, vN, vN, vN, vN]) 2 rfl ?_; exact k2 q
theorem b145_16 {d : Nat} {P : Int → sM → sG → Prop} {M : sM} {G : sG}   (kk : P (-1) M G) : sW (sC d) 145 (QI P) 16 [vN, vN, vN, vN, vN, vN] [] M G 0 0 := by
  refine q_iconst 17 rfl (show sCode 145 16 = some (.iconst (-1), 1) by decide +kernel) ⟨by decide, by decide⟩ ?_
  exact q_iret (show sCode 145 17 = some (.ireturn, 1) by decide +kernel) (by decide +kernel) (by decide +kernel) kk
theorem b145_18 {d : Nat} {Q : Option sV → sM → sG → Prop} {M : sM} {G : sG} {a0 : Nat} {x1 : Int} {a2 : Nat} (h1 : 0 ≤ x1 ∧ x1 < 6) (k1 : M (a2 + 1) x1.toNat = 0 → sW (sC d) 145 Q 29 [vO 11 a0, vI x1, vO 10 a2, vN, vN, vN] [] M G 0 0) (k2 : M (a2 + 1) x1.toNat ≠ 0 → sW (sC d) 145 Q 27 [vN, vN, vN, vN, vN, vN] [] M G 0 0) : sW (sC d) 145 Q 18 [vO 11 a0, vI x1, vO 10 a2, vN, vN, vN] [] M G 0 0 := by
  refine q_aload_n 19 rfl (show sCode 145 18 = some (.aload_n 2, 1) by decide +kernel) rfl (Nat.le_of_ble_eq_true rfl) ?_
  refine q_getR (vA 0 (a2 + 1) 6) 22 rfl (show sCode 145 19 = some (.getfield 123, 3) by decide +kernel) (show sFR (sKo 145).1 123 = some (10, 1) by decide +kernel) (by decide +kernel) (Or.inl (Or.inl rfl)) rfl ?_
  refine q_iload_n 23 rfl (show sCode 145 22 = some (.iload_n 1, 1) by decide +kernel) rfl ?_
  refine q_iald 24 rfl (show sCode 145 23 = some (.iaload, 1) by decide +kernel) h1 ?_
  refine q_ifeq 29 27 rfl (by decide) (show sCode 145 24 = some (.ifCond .eq 5, 3) by decide +kernel) ?_ ?_
  · intro q; exact k1 q
  · intro q; refine q_forget (L' := [vN, vI x1, vO 10 a2, vN, vN, vN]) 0 rfl ?_; refine q_forget (L' := [vN, vN, vO 10 a2, vN, vN, vN]) 1 rfl ?_; refine q_forget (L' := [vN, vN, vN, vN, vN, vN]) 2 rfl ?_; exact k2 q
theorem b145_27 {d : Nat} {P : Int → sM → sG → Prop} {M : sM} {G : sG}   (kk : P 0 M G) : sW (sC d) 145 (QI P) 27 [vN, vN, vN, vN, vN, vN] [] M G 0 0 := by
  refine q_iconst 28 rfl (show sCode 145 27 = some (.iconst 0, 1) by decide +kernel) ⟨by decide, by decide⟩ ?_
  exact q_iret (show sCode 145 28 = some (.ireturn, 1) by decide +kernel) (by decide +kernel) (by decide +kernel) kk
theorem b145_29 {d : Nat} {Q : Option sV → sM → sG → Prop} {M : sM} {G : sG} {a0 : Nat} {x1 : Int} {a2 : Nat}  (kk : sC d 56 [vO 10 a2, vI x1] M G (QI (fun r M1 G1 => sW (sC d) 145 Q 34 [vO 11 a0, vI x1, vO 10 a2, vN, vN, vN] (vI r :: []) M1 G1 0 0))) : sW (sC d) 145 Q 29 [vO 11 a0, vI x1, vO 10 a2, vN, vN, vN] [] M G 0 0 := by
  refine q_aload_n 30 rfl (show sCode 145 29 = some (.aload_n 2, 1) by decide +kernel) rfl (Nat.le_of_ble_eq_true rfl) ?_
  refine q_iload_n 31 rfl (show sCode 145 30 = some (.iload_n 1, 1) by decide +kernel) rfl ?_
  exact q_virtI [vI x1] 34 rfl (show sCode 145 31 = some (.invokevirtual 136, 3) by decide +kernel) (show sMR (sKo 145).1 136 = some 56 by decide +kernel) (show 56 < 1000 ∧ sStat 56 = false ∧ sIni 56 = false ∧ sKo 56 = (10, 1, 1, 0, 0) by decide +kernel) rfl (Or.inl rfl) rfl (Nat.le_of_ble_eq_true rfl) rfl rfl rfl (by decide +kernel) kk
theorem b145_34 {d : Nat} {Q : Option sV → sM → sG → Prop} {M : sM} {G : sG} {a0 : Nat} {x1 : Int} {a2 : Nat} {s0 : Int}  (kk : sW (sC d) 145 Q 41 [vO 11 a0, vI x1, vO 10 a2, vI s0, vI 0, vI 0] [] M G 0 0) : sW (sC d) 145 Q 34 [vO 11 a0, vI x1, vO 10 a2, vN, vN, vN] [vI s0] M G 0 0 := by
  refine q_istore_n [vO 11 a0, vI x1, vO 10 a2, vI s0, vN, vN] 35 rfl (show sCode 145 34 = some (.istore_n 3, 1) by decide +kernel) (Nat.lt_of_lt_of_le (Nat.lt_succ_self _) (Nat.le_of_ble_eq_true rfl)) rfl rfl ?_
  refine q_iconst 36 rfl (show sCode 145 35 = some (.iconst 0, 1) by decide +kernel) ⟨by decide, by decide⟩ ?_
  refine q_istore [vO 11 a0, vI x1, vO 10 a2, vI s0, vI 0, vN] 38 rfl (show sCode 145 36 = some (.istore 4, 2) by decide +kernel) (Nat.lt_of_lt_of_le (Nat.lt_succ_self _) (Nat.le_of_ble_eq_true rfl)) rfl rfl ?_
  refine q_iconst 39 rfl (show sCode 145 38 = some (.iconst 0, 1) by decide +kernel) ⟨by decide, by decide⟩ ?_
  refine q_istore [vO 11 a0, vI x1, vO 10 a2, vI s0, vI 0, vI 0] 41 rfl (show sCode 145 39 = some (.istore 5, 2) by decide +kernel) (Nat.lt_of_lt_of_le (Nat.lt_succ_self _) (Nat.le_of_ble_eq_true rfl)) rfl rfl ?_
  exact kk
theorem b145_41 {d : Nat} {Q : Option sV → sM → sG → Prop} {M : sM} {G : sG} {a0 : Nat} {x1 : Int} {a2 : Nat} {x3 : Int} {x4 : Int} {x5 : Int}  (k1 : 12 ≤ x5 → sW (sC d) 145 Q 89 [vN, vN, vN, vN, vI x4, vN] [] M G 0 0) (k2 : x5 < 12 → sW (sC d) 145 Q 48 [vO 11 a0, vI x1, vO 10 a2, vI x3, vI x4, vI x5] [] M G 0 0) : sW (sC d) 145 Q 41 [vO 11 a0, vI x1, vO 10 a2, vI x3, vI x4, vI x5] [] M G 0 0 := by
  refine q_iload 43 rfl (show sCode 145 41 = some (.iload 5, 2) by decide +kernel) rfl ?_
  refine q_bipush 45 rfl (show sCode 145 43 = some (.bipush 12, 2) by decide +kernel) ⟨by decide, by decide⟩ (by decide +kernel) ?_
  refine q_icmpge 89 48 rfl (by decide) (show sCode 145 45 = some (.if_icmp .ge 44, 3) by decide +kernel) ?_ ?_
  · intro q; refine q_forget (L' := [vN, vI x1, vO 10 a2, vI x3, vI x4, vI x5]) 0 rfl ?_; refine q_forget (L' := [vN, vN, vO 10 a2, vI x3, vI x4, vI x5]) 1 rfl ?_; refine q_forget (L' := [vN, vN, vN, vI x3, vI x4, vI x5]) 2 rfl ?_; refine q_forget (L' := [vN, vN, vN, vN, vI x4, vI x5]) 3 rfl ?_; refine q_forget (L' := [vN, vN, vN, vN, vI x4, vN]) 5 rfl ?_; exact k1 q
  · intro q; exact k2 q
theorem b145_48 {d : Nat} {Q : Option sV → sM → sG → Prop} {M : sM} {G : sG} {a0 : Nat} {x1 : Int} {a2 : Nat} {x3 : Int} {x4 : Int} {x5 : Int} (h1 : 0 ≤ x5 ∧ x5 < 12) (k1 : M (a2 + 12) x5.toNat ≠ x1 → sW (sC d) 145 Q 83 [vO 11 a0, vI x1, vO 10 a2, vI x3, vI x4, vI x5] [] M G 0 0) (k2 : M (a2 + 12) x5.toNat = x1 → sW (sC d) 145 Q 59 [vO 11 a0, vI x1, vO 10 a2, vI x3, vI x4, vI x5] [] M G 0 0) : sW (sC d) 145 Q 48 [vO 11 a0, vI x1, vO 10 a2, vI x3, vI x4, vI x5] [] M G 0 0 := by
  refine q_aload_n 49 rfl (show sCode 145 48 = some (.aload_n 2, 1) by decide +kernel) rfl (Nat.le_of_ble_eq_true rfl) ?_
  refine q_getR (vA 0 (a2 + 12) 12) 52 rfl (show sCode 145 49 = some (.getfield 167, 3) by decide +kernel) (show sFR (sKo 145).1 167 = some (10, 15) by decide +kernel) (by decide +kernel) (Or.inl (Or.inl rfl)) rfl ?_
  refine q_iload 54 rfl (show sCode 145 52 = some (.iload 5, 2) by decide +kernel) rfl ?_
  refine q_iald 55 rfl (show sCode 145 54 = some (.iaload, 1) by decide +kernel) h1 ?_
  refine q_iload_n 56 rfl (show sCode 145 55 = some (.iload_n 1, 1) by decide +kernel) rfl ?_
  refine q_icmpne 83 59 rfl (by decide) (show sCode 145 56 = some (.if_icmp .ne 27, 3) by decide +kernel) ?_ ?_
  · intro q; exact k1 q
  · intro q; exact k2 q
theorem b145_59 {d : Nat} {Q : Option sV → sM → sG → Prop} {M : sM} {G : sG} {a0 : Nat} {x1 : Int} {a2 : Nat} {x3 : Int} {x4 : Int} {x5 : Int}  (k1 : x5 = x3 → sW (sC d) 145 Q 83 [vO 11 a0, vI x1, vO 10 a2, vI x3, vI x4, vI x5] [] M G 0 0) (k2 : x5 ≠ x3 → sW (sC d) 145 Q 65 [vO 11 a0, vI x1, vO 10 a2, vI x3, vI x4, vI x5] [] M G 0 0) : sW (sC d) 145 Q 59 [vO 11 a0, vI x1, vO 10 a2, vI x3, vI x4, vI x5] [] M G 0 0 := by
  refine q_iload 61 rfl (show sCode 145 59 = some (.iload 5, 2) by decide +kernel) rfl ?_
  refine q_iload_n 62 rfl (show sCode 145 61 = some (.iload_n 3, 1) by decide +kernel) rfl ?_
  refine q_icmpeq 83 65 rfl (by decide) (show sCode 145 62 = some (.if_icmp .eq 21, 3) by decide +kernel) ?_ ?_
  · intro q; exact k1 q
  · intro q; exact k2 q
theorem b145_65 {d : Nat} {Q : Option sV → sM → sG → Prop} {M : sM} {G : sG} {a0 : Nat} {x1 : Int} {a2 : Nat} {x3 : Int} {x4 : Int} {x5 : Int} (h1 : 0 ≤ x5 ∧ x5 < 12) (h2 : sI (x4 + (M (a0 + 29) x5.toNat))) (kk : sW (sC d) 145 Q 83 [vO 11 a0, vI x1, vO 10 a2, vI x3, vI (x4 + (M (a0 + 29) x5.toNat)), vI x5] [] M G 0 0) : sW (sC d) 145 Q 65 [vO 11 a0, vI x1, vO 10 a2, vI x3, vI x4, vI x5] [] M G 0 0 := by
  refine q_iload 67 rfl (show sCode 145 65 = some (.iload 4, 2) by decide +kernel) rfl ?_
  refine q_aload_n 68 rfl (show sCode 145 67 = some (.aload_n 0, 1) by decide +kernel) rfl (Nat.le_of_ble_eq_true rfl) ?_
  refine q_getR (vO 8 (a0 + 12)) 71 rfl (show sCode 145 68 = some (.getfield 32, 3) by decide +kernel) (show sFR (sKo 145).1 32 = some (11, 3) by decide +kernel) (by decide +kernel) (Or.inl (Or.inl rfl)) rfl ?_
  refine q_getR (vO 9 (a0 + 28)) 74 rfl (show sCode 145 71 = some (.getfield 182, 3) by decide +kernel) (show sFR (sKo 145).1 182 = some (8, 1) by decide +kernel) (by decide +kernel) (Or.inl (Or.inl rfl)) rfl ?_
  refine q_getR (vA 0 (a0 + 29) 12) 77 rfl (show sCode 145 74 = some (.getfield 186, 3) by decide +kernel) (show sFR (sKo 145).1 186 = some (9, 0) by decide +kernel) (by decide +kernel) (Or.inl (Or.inl rfl)) rfl ?_
  refine q_iload 79 rfl (show sCode 145 77 = some (.iload 5, 2) by decide +kernel) rfl ?_
  refine q_iald 80 rfl (show sCode 145 79 = some (.iaload, 1) by decide +kernel) h1 ?_
  refine q_iadd 81 rfl (show sCode 145 80 = some (.iadd, 1) by decide +kernel) h2 ?_
  refine q_istore [vO 11 a0, vI x1, vO 10 a2, vI x3, vI (x4 + (M (a0 + 29) x5.toNat)), vI x5] 83 rfl (show sCode 145 81 = some (.istore 4, 2) by decide +kernel) (Nat.lt_of_lt_of_le (Nat.lt_succ_self _) (Nat.le_of_ble_eq_true rfl)) rfl rfl ?_
  exact kk
theorem b145_83 {d : Nat} {Q : Option sV → sM → sG → Prop} {M : sM} {G : sG} {a0 : Nat} {x1 : Int} {a2 : Nat} {x3 : Int} {x4 : Int} {x5 : Int} (h1 : sI (x5 + 1)) (kk : sW (sC d) 145 Q 41 [vO 11 a0, vI x1, vO 10 a2, vI x3, vI x4, vI (x5 + 1)] [] M G 0 0) : sW (sC d) 145 Q 83 [vO 11 a0, vI x1, vO 10 a2, vI x3, vI x4, vI x5] [] M G 0 0 := by
  refine q_iinc [vO 11 a0, vI x1, vO 10 a2, vI x3, vI x4, vI (x5 + 1)] 86 rfl (show sCode 145 83 = some (.iinc 5 1, 3) by decide +kernel) rfl rfl h1 rfl ?_
  refine q_goto 41 (by decide) (show sCode 145 86 = some (.goto (-45), 3) by decide +kernel) ?_
  exact kk
theorem b145_89 {d : Nat} {P : Int → sM → sG → Prop} {M : sM} {G : sG} {x4 : Int}  (kk : P x4 M G) : sW (sC d) 145 (QI P) 89 [vN, vN, vN, vN, vI x4, vN] [] M G 0 0 := by
  refine q_iload 91 rfl (show sCode 145 89 = some (.iload 4, 2) by decide +kernel) rfl ?_
  exact q_iret (show sCode 145 91 = some (.ireturn, 1) by decide +kernel) (by decide +kernel) (by decide +kernel) kk
-- 146 AfterTheLast.went (I)I
theorem b146_0 {d : Nat} {Q : Option sV → sM → sG → Prop} {M : sM} {G : sG} {a0 : Nat} {x1 : Int}  (k1 : x1 ≠ (-1) → sW (sC d) 146 Q 20 [vN, vI x1, vO 9 (a0 + 28)] [] M G 0 0) (k2 : x1 = (-1) → sW (sC d) 146 Q 13 [vN, vN, vO 9 (a0 + 28)] [] M G 0 0) : sW (sC d) 146 Q 0 [vO 11 a0, vI x1, vN] [] M G 0 0 := by
  refine q_aload_n 1 rfl (show sCode 146 0 = some (.aload_n 0, 1) by decide +kernel) rfl (Nat.le_of_ble_eq_true rfl) ?_
  refine q_getR (vO 8 (a0 + 12)) 4 rfl (show sCode 146 1 = some (.getfield 32, 3) by decide +kernel) (show sFR (sKo 146).1 32 = some (11, 3) by decide +kernel) (by decide +kernel) (Or.inl (Or.inl rfl)) rfl ?_
  refine q_getR (vO 9 (a0 + 28)) 7 rfl (show sCode 146 4 = some (.getfield 182, 3) by decide +kernel) (show sFR (sKo 146).1 182 = some (8, 1) by decide +kernel) (by decide +kernel) (Or.inl (Or.inl rfl)) rfl ?_
  refine q_astore_n [vO 11 a0, vI x1, vO 9 (a0 + 28)] 8 rfl (show sCode 146 7 = some (.astore_n 2, 1) by decide +kernel) (by first | exact ⟨Nat.le_of_ble_eq_true rfl, Or.inl (Nat.lt_of_lt_of_le (Nat.lt_succ_self _) (Nat.le_of_ble_eq_true rfl))⟩ | exact ⟨Nat.le_of_ble_eq_true rfl, Or.inr (Nat.le_of_ble_eq_true rfl)⟩) (Nat.lt_of_lt_of_le (Nat.lt_succ_self _) (Nat.le_of_ble_eq_true rfl)) rfl rfl ?_
  refine q_iload_n 9 rfl (show sCode 146 8 = some (.iload_n 1, 1) by decide +kernel) rfl ?_
  refine q_iconst 10 rfl (show sCode 146 9 = some (.iconst (-1), 1) by decide +kernel) ⟨by decide, by decide⟩ ?_
  refine q_icmpne 20 13 rfl (by decide) (show sCode 146 10 = some (.if_icmp .ne 10, 3) by decide +kernel) ?_ ?_
  · intro q; refine q_forget (L' := [vN, vI x1, vO 9 (a0 + 28)]) 0 rfl ?_; exact k1 q
  · intro q; refine q_forget (L' := [vN, vI x1, vO 9 (a0 + 28)]) 0 rfl ?_; refine q_forget (L' := [vN, vN, vO 9 (a0 + 28)]) 1 rfl ?_; exact k2 q
theorem b146_13 {d : Nat} {P : Int → sM → sG → Prop} {M : sM} {G : sG} {a2 : Nat}  (kk : P 0 (sUpd M a2 7 0) G) : sW (sC d) 146 (QI P) 13 [vN, vN, vO 9 a2] [] M G 0 0 := by
  refine q_aload_n 14 rfl (show sCode 146 13 = some (.aload_n 2, 1) by decide +kernel) rfl (Nat.le_of_ble_eq_true rfl) ?_
  refine q_iconst 15 rfl (show sCode 146 14 = some (.iconst 0, 1) by decide +kernel) ⟨by decide, by decide⟩ ?_
  refine q_putI 18 rfl (show sCode 146 15 = some (.putfield 213, 3) by decide +kernel) (show sFR (sKo 146).1 213 = some (9, 7) by decide +kernel) (by decide +kernel) (Or.inl ⟨Or.inl rfl, by decide +kernel⟩) ?_
  refine q_iconst 19 rfl (show sCode 146 18 = some (.iconst 0, 1) by decide +kernel) ⟨by decide, by decide⟩ ?_
  exact q_iret (show sCode 146 19 = some (.ireturn, 1) by decide +kernel) (by decide +kernel) (by decide +kernel) kk
theorem b146_20 {d : Nat} {Q : Option sV → sM → sG → Prop} {M : sM} {G : sG} {x1 : Int} {a2 : Nat}  (kk : sC d 61 [vI x1] M G (QI (fun r M1 G1 => sW (sC d) 146 Q 24 [vN, vI x1, vO 9 a2] (vI r :: []) M1 G1 0 0))) : sW (sC d) 146 Q 20 [vN, vI x1, vO 9 a2] [] M G 0 0 := by
  refine q_iload_n 21 rfl (show sCode 146 20 = some (.iload_n 1, 1) by decide +kernel) rfl ?_
  exact q_statI [vI x1] 24 rfl (show sCode 146 21 = some (.invokestatic 164, 3) by decide +kernel) (show sMR (sKo 146).1 164 = some 61 by decide +kernel) (show 61 < 1000 ∧ sStat 61 = true ∧ sKo 61 = (11, 1, 2, 0, 0) by decide +kernel) rfl rfl (Nat.le_of_ble_eq_true rfl) rfl rfl rfl (by decide +kernel) kk
theorem b146_24 {d : Nat} {Q : Option sV → sM → sG → Prop} {M : sM} {G : sG} {x1 : Int} {a2 : Nat} {s0 : Int}  (k1 : s0 = 0 → sW (sC d) 146 Q 45 [vN, vN, vN] [] M G 0 0) (k2 : s0 ≠ 0 → sW (sC d) 146 Q 27 [vN, vI x1, vO 9 a2] [] M G 0 0) : sW (sC d) 146 Q 24 [vN, vI x1, vO 9 a2] [vI s0] M G 0 0 := by
  refine q_ifeq 45 27 rfl (by decide) (show sCode 146 24 = some (.ifCond .eq 21, 3) by decide +kernel) ?_ ?_
  · intro q; refine q_forget (L' := [vN, vN, vO 9 a2]) 1 rfl ?_; refine q_forget (L' := [vN, vN, vN]) 2 rfl ?_; exact k1 q
  · intro q; exact k2 q
theorem b146_27 {d : Nat} {Q : Option sV → sM → sG → Prop} {M : sM} {G : sG} {x1 : Int} {a2 : Nat}  (k1 : 8 ≤ M a2 7 → sW (sC d) 146 Q 45 [vN, vN, vN] [] M G 0 0) (k2 : M a2 7 < 8 → sW (sC d) 146 Q 36 [vN, vI x1, vO 9 a2] [] M G 0 0) : sW (sC d) 146 Q 27 [vN, vI x1, vO 9 a2] [] M G 0 0 := by
  refine q_aload_n 28 rfl (show sCode 146 27 = some (.aload_n 2, 1) by decide +kernel) rfl (Nat.le_of_ble_eq_true rfl) ?_
  refine q_getI 31 rfl (show sCode 146 28 = some (.getfield 213, 3) by decide +kernel) (show sFR (sKo 146).1 213 = some (9, 7) by decide +kernel) (by decide +kernel) (Or.inl (Or.inl rfl)) ?_
  refine q_bipush 33 rfl (show sCode 146 31 = some (.bipush 8, 2) by decide +kernel) ⟨by decide, by decide⟩ (by decide +kernel) ?_
  refine q_icmpge 45 36 rfl (by decide) (show sCode 146 33 = some (.if_icmp .ge 12, 3) by decide +kernel) ?_ ?_
  · intro q; refine q_forget (L' := [vN, vN, vO 9 a2]) 1 rfl ?_; refine q_forget (L' := [vN, vN, vN]) 2 rfl ?_; exact k1 q
  · intro q; exact k2 q
theorem b146_36 {d : Nat} {Q : Option sV → sM → sG → Prop} {M : sM} {G : sG} {x1 : Int} {a2 : Nat}  (kk : sC d 147 [vO 9 a2, vI x1] M G (QI (fun r M1 G1 => sW (sC d) 146 Q 41 [vN, vI x1, vO 9 a2] (vI r :: []) M1 G1 0 0))) : sW (sC d) 146 Q 36 [vN, vI x1, vO 9 a2] [] M G 0 0 := by
  refine q_aload_n 37 rfl (show sCode 146 36 = some (.aload_n 2, 1) by decide +kernel) rfl (Nat.le_of_ble_eq_true rfl) ?_
  refine q_iload_n 38 rfl (show sCode 146 37 = some (.iload_n 1, 1) by decide +kernel) rfl ?_
  exact q_virtI [vI x1] 41 rfl (show sCode 146 38 = some (.invokevirtual 323, 3) by decide +kernel) (show sMR (sKo 146).1 323 = some 147 by decide +kernel) (show 147 < 1000 ∧ sStat 147 = false ∧ sIni 147 = false ∧ sKo 147 = (9, 1, 1, 0, 0) by decide +kernel) rfl (Or.inl rfl) rfl (Nat.le_of_ble_eq_true rfl) rfl rfl rfl (by decide +kernel) kk
theorem b146_41 {d : Nat} {Q : Option sV → sM → sG → Prop} {M : sM} {G : sG} {x1 : Int} {a2 : Nat} {s0 : Int}  (k1 : s0 = (-1) → sW (sC d) 146 Q 48 [vN, vI x1, vO 9 a2] [] M G 0 0) (k2 : s0 ≠ (-1) → sW (sC d) 146 Q 45 [vN, vN, vN] [] M G 0 0) : sW (sC d) 146 Q 41 [vN, vI x1, vO 9 a2] [vI s0] M G 0 0 := by
  refine q_iconst 42 rfl (show sCode 146 41 = some (.iconst (-1), 1) by decide +kernel) ⟨by decide, by decide⟩ ?_
  refine q_icmpeq 48 45 rfl (by decide) (show sCode 146 42 = some (.if_icmp .eq 6, 3) by decide +kernel) ?_ ?_
  · intro q; exact k1 q
  · intro q; refine q_forget (L' := [vN, vN, vO 9 a2]) 1 rfl ?_; refine q_forget (L' := [vN, vN, vN]) 2 rfl ?_; exact k2 q
theorem b146_45 {d : Nat} {P : Int → sM → sG → Prop} {M : sM} {G : sG}   (kk : P (-2) M G) : sW (sC d) 146 (QI P) 45 [vN, vN, vN] [] M G 0 0 := by
  refine q_bipush 47 rfl (show sCode 146 45 = some (.bipush (-2), 2) by decide +kernel) ⟨by decide, by decide⟩ (by decide +kernel) ?_
  exact q_iret (show sCode 146 47 = some (.ireturn, 1) by decide +kernel) (by decide +kernel) (by decide +kernel) kk
theorem b146_48 {d : Nat} {P : Int → sM → sG → Prop} {M : sM} {G : sG} {x1 : Int} {a2 : Nat} (h1 : 0 ≤ M a2 7 ∧ M a2 7 < 8) (h2 : sI (((sUpd M (a2 + 7) (M a2 7).toNat x1) a2 7) + 1)) (kk : P ((sUpd (sUpd M (a2 + 7) (M a2 7).toNat x1) a2 7 (((sUpd M (a2 + 7) (M a2 7).toNat x1) a2 7) + 1)) a2 7) (sUpd (sUpd M (a2 + 7) (M a2 7).toNat x1) a2 7 (((sUpd M (a2 + 7) (M a2 7).toNat x1) a2 7) + 1)) G) : sW (sC d) 146 (QI P) 48 [vN, vI x1, vO 9 a2] [] M G 0 0 := by
  refine q_aload_n 49 rfl (show sCode 146 48 = some (.aload_n 2, 1) by decide +kernel) rfl (Nat.le_of_ble_eq_true rfl) ?_
  refine q_getR (vA 0 (a2 + 7) 8) 52 rfl (show sCode 146 49 = some (.getfield 326, 3) by decide +kernel) (show sFR (sKo 146).1 326 = some (9, 8) by decide +kernel) (by decide +kernel) (Or.inl (Or.inl rfl)) rfl ?_
  refine q_aload_n 53 rfl (show sCode 146 52 = some (.aload_n 2, 1) by decide +kernel) rfl (Nat.le_of_ble_eq_true rfl) ?_
  refine q_getI 56 rfl (show sCode 146 53 = some (.getfield 213, 3) by decide +kernel) (show sFR (sKo 146).1 213 = some (9, 7) by decide +kernel) (by decide +kernel) (Or.inl (Or.inl rfl)) ?_
  refine q_iload_n 57 rfl (show sCode 146 56 = some (.iload_n 1, 1) by decide +kernel) rfl ?_
  refine q_iast 58 rfl (show sCode 146 57 = some (.iastore, 1) by decide +kernel) h1 ?_
  refine q_aload_n 59 rfl (show sCode 146 58 = some (.aload_n 2, 1) by decide +kernel) rfl (Nat.le_of_ble_eq_true rfl) ?_
  refine q_dup 60 rfl (show sCode 146 59 = some (.dup, 1) by decide +kernel) rfl ?_
  refine q_getI 63 rfl (show sCode 146 60 = some (.getfield 213, 3) by decide +kernel) (show sFR (sKo 146).1 213 = some (9, 7) by decide +kernel) (by decide +kernel) (Or.inl (Or.inl rfl)) ?_
  refine q_iconst 64 rfl (show sCode 146 63 = some (.iconst 1, 1) by decide +kernel) ⟨by decide, by decide⟩ ?_
  refine q_iadd 65 rfl (show sCode 146 64 = some (.iadd, 1) by decide +kernel) h2 ?_
  refine q_putI 68 rfl (show sCode 146 65 = some (.putfield 213, 3) by decide +kernel) (show sFR (sKo 146).1 213 = some (9, 7) by decide +kernel) (by decide +kernel) (Or.inl ⟨Or.inl rfl, by decide +kernel⟩) ?_
  refine q_aload_n 69 rfl (show sCode 146 68 = some (.aload_n 2, 1) by decide +kernel) rfl (Nat.le_of_ble_eq_true rfl) ?_
  refine q_getI 72 rfl (show sCode 146 69 = some (.getfield 213, 3) by decide +kernel) (show sFR (sKo 146).1 213 = some (9, 7) by decide +kernel) (by decide +kernel) (Or.inl (Or.inl rfl)) ?_
  exact q_iret (show sCode 146 72 = some (.ireturn, 1) by decide +kernel) (by decide +kernel) (by decide +kernel) kk
-- 148 AfterTheLast.before (II)I
theorem b148_0 {d : Nat} {Q : Option sV → sM → sG → Prop} {M : sM} {G : sG} {a0 : Nat} {x1 : Int} {x2 : Int}  (k1 : x1 ≠ (-1) → sW (sC d) 148 Q 20 [vN, vI x1, vI x2, vO 9 (a0 + 28)] [] M G 0 0) (k2 : x1 = (-1) → sW (sC d) 148 Q 13 [vN, vN, vN, vO 9 (a0 + 28)] [] M G 0 0) : sW (sC d) 148 Q 0 [vO 11 a0, vI x1, vI x2, vN] [] M G 0 0 := by
  refine q_aload_n 1 rfl (show sCode 148 0 = some (.aload_n 0, 1) by decide +kernel) rfl (Nat.le_of_ble_eq_true rfl) ?_
  refine q_getR (vO 8 (a0 + 12)) 4 rfl (show sCode 148 1 = some (.getfield 32, 3) by decide +kernel) (show sFR (sKo 148).1 32 = some (11, 3) by decide +kernel) (by decide +kernel) (Or.inl (Or.inl rfl)) rfl ?_
  refine q_getR (vO 9 (a0 + 28)) 7 rfl (show sCode 148 4 = some (.getfield 182, 3) by decide +kernel) (show sFR (sKo 148).1 182 = some (8, 1) by decide +kernel) (by decide +kernel) (Or.inl (Or.inl rfl)) rfl ?_
  refine q_astore_n [vO 11 a0, vI x1, vI x2, vO 9 (a0 + 28)] 8 rfl (show sCode 148 7 = some (.astore_n 3, 1) by decide +kernel) (by first | exact ⟨Nat.le_of_ble_eq_true rfl, Or.inl (Nat.lt_of_lt_of_le (Nat.lt_succ_self _) (Nat.le_of_ble_eq_true rfl))⟩ | exact ⟨Nat.le_of_ble_eq_true rfl, Or.inr (Nat.le_of_ble_eq_true rfl)⟩) (Nat.lt_of_lt_of_le (Nat.lt_succ_self _) (Nat.le_of_ble_eq_true rfl)) rfl rfl ?_
  refine q_iload_n 9 rfl (show sCode 148 8 = some (.iload_n 1, 1) by decide +kernel) rfl ?_
  refine q_iconst 10 rfl (show sCode 148 9 = some (.iconst (-1), 1) by decide +kernel) ⟨by decide, by decide⟩ ?_
  refine q_icmpne 20 13 rfl (by decide) (show sCode 148 10 = some (.if_icmp .ne 10, 3) by decide +kernel) ?_ ?_
  · intro q; refine q_forget (L' := [vN, vI x1, vI x2, vO 9 (a0 + 28)]) 0 rfl ?_; exact k1 q
  · intro q; refine q_forget (L' := [vN, vI x1, vI x2, vO 9 (a0 + 28)]) 0 rfl ?_; refine q_forget (L' := [vN, vN, vI x2, vO 9 (a0 + 28)]) 1 rfl ?_; refine q_forget (L' := [vN, vN, vN, vO 9 (a0 + 28)]) 2 rfl ?_; exact k2 q
theorem b148_13 {d : Nat} {P : Int → sM → sG → Prop} {M : sM} {G : sG} {a3 : Nat}  (kk : P 0 (sUpd M a3 9 0) G) : sW (sC d) 148 (QI P) 13 [vN, vN, vN, vO 9 a3] [] M G 0 0 := by
  refine q_aload_n 14 rfl (show sCode 148 13 = some (.aload_n 3, 1) by decide +kernel) rfl (Nat.le_of_ble_eq_true rfl) ?_
  refine q_iconst 15 rfl (show sCode 148 14 = some (.iconst 0, 1) by decide +kernel) ⟨by decide, by decide⟩ ?_
  refine q_putI 18 rfl (show sCode 148 15 = some (.putfield 216, 3) by decide +kernel) (show sFR (sKo 148).1 216 = some (9, 9) by decide +kernel) (by decide +kernel) (Or.inl ⟨Or.inl rfl, by decide +kernel⟩) ?_
  refine q_iconst 19 rfl (show sCode 148 18 = some (.iconst 0, 1) by decide +kernel) ⟨by decide, by decide⟩ ?_
  exact q_iret (show sCode 148 19 = some (.ireturn, 1) by decide +kernel) (by decide +kernel) (by decide +kernel) kk
theorem b148_20 {d : Nat} {Q : Option sV → sM → sG → Prop} {M : sM} {G : sG} {x1 : Int} {x2 : Int} {a3 : Nat}  (kk : sC d 61 [vI x1] M G (QI (fun r M1 G1 => sW (sC d) 148 Q 24 [vN, vI x1, vI x2, vO 9 a3] (vI r :: []) M1 G1 0 0))) : sW (sC d) 148 Q 20 [vN, vI x1, vI x2, vO 9 a3] [] M G 0 0 := by
  refine q_iload_n 21 rfl (show sCode 148 20 = some (.iload_n 1, 1) by decide +kernel) rfl ?_
  exact q_statI [vI x1] 24 rfl (show sCode 148 21 = some (.invokestatic 164, 3) by decide +kernel) (show sMR (sKo 148).1 164 = some 61 by decide +kernel) (show 61 < 1000 ∧ sStat 61 = true ∧ sKo 61 = (11, 1, 2, 0, 0) by decide +kernel) rfl rfl (Nat.le_of_ble_eq_true rfl) rfl rfl rfl (by decide +kernel) kk
theorem b148_24 {d : Nat} {Q : Option sV → sM → sG → Prop} {M : sM} {G : sG} {x1 : Int} {x2 : Int} {a3 : Nat} {s0 : Int}  (k1 : s0 = 0 → sW (sC d) 148 Q 48 [vN, vN, vN, vN] [] M G 0 0) (k2 : s0 ≠ 0 → sW (sC d) 148 Q 27 [vN, vI x1, vI x2, vO 9 a3] [] M G 0 0) : sW (sC d) 148 Q 24 [vN, vI x1, vI x2, vO 9 a3] [vI s0] M G 0 0 := by
  refine q_ifeq 48 27 rfl (by decide) (show sCode 148 24 = some (.ifCond .eq 24, 3) by decide +kernel) ?_ ?_
  · intro q; refine q_forget (L' := [vN, vN, vI x2, vO 9 a3]) 1 rfl ?_; refine q_forget (L' := [vN, vN, vN, vO 9 a3]) 2 rfl ?_; refine q_forget (L' := [vN, vN, vN, vN]) 3 rfl ?_; exact k1 q
  · intro q; exact k2 q
theorem b148_27 {d : Nat} {Q : Option sV → sM → sG → Prop} {M : sM} {G : sG} {x1 : Int} {x2 : Int} {a3 : Nat}  (kk : sC d 61 [vI x2] M G (QI (fun r M1 G1 => sW (sC d) 148 Q 31 [vN, vI x1, vI x2, vO 9 a3] (vI r :: []) M1 G1 0 0))) : sW (sC d) 148 Q 27 [vN, vI x1, vI x2, vO 9 a3] [] M G 0 0 := by
  refine q_iload_n 28 rfl (show sCode 148 27 = some (.iload_n 2, 1) by decide +kernel) rfl ?_
  exact q_statI [vI x2] 31 rfl (show sCode 148 28 = some (.invokestatic 164, 3) by decide +kernel) (show sMR (sKo 148).1 164 = some 61 by decide +kernel) (show 61 < 1000 ∧ sStat 61 = true ∧ sKo 61 = (11, 1, 2, 0, 0) by decide +kernel) rfl rfl (Nat.le_of_ble_eq_true rfl) rfl rfl rfl (by decide +kernel) kk
theorem b148_31 {d : Nat} {Q : Option sV → sM → sG → Prop} {M : sM} {G : sG} {x1 : Int} {x2 : Int} {a3 : Nat} {s0 : Int}  (k1 : s0 = 0 → sW (sC d) 148 Q 48 [vN, vN, vN, vN] [] M G 0 0) (k2 : s0 ≠ 0 → sW (sC d) 148 Q 34 [vN, vI x1, vI x2, vO 9 a3] [] M G 0 0) : sW (sC d) 148 Q 31 [vN, vI x1, vI x2, vO 9 a3] [vI s0] M G 0 0 := by
  refine q_ifeq 48 34 rfl (by decide) (show sCode 148 31 = some (.ifCond .eq 17, 3) by decide +kernel) ?_ ?_
  · intro q; refine q_forget (L' := [vN, vN, vI x2, vO 9 a3]) 1 rfl ?_; refine q_forget (L' := [vN, vN, vN, vO 9 a3]) 2 rfl ?_; refine q_forget (L' := [vN, vN, vN, vN]) 3 rfl ?_; exact k1 q
  · intro q; exact k2 q
theorem b148_34 {d : Nat} {Q : Option sV → sM → sG → Prop} {M : sM} {G : sG} {x1 : Int} {x2 : Int} {a3 : Nat}  (k1 : x1 = x2 → sW (sC d) 148 Q 48 [vN, vN, vN, vN] [] M G 0 0) (k2 : x1 ≠ x2 → sW (sC d) 148 Q 39 [vN, vI x1, vI x2, vO 9 a3] [] M G 0 0) : sW (sC d) 148 Q 34 [vN, vI x1, vI x2, vO 9 a3] [] M G 0 0 := by
  refine q_iload_n 35 rfl (show sCode 148 34 = some (.iload_n 1, 1) by decide +kernel) rfl ?_
  refine q_iload_n 36 rfl (show sCode 148 35 = some (.iload_n 2, 1) by decide +kernel) rfl ?_
  refine q_icmpeq 48 39 rfl (by decide) (show sCode 148 36 = some (.if_icmp .eq 12, 3) by decide +kernel) ?_ ?_
  · intro q; refine q_forget (L' := [vN, vN, vI x2, vO 9 a3]) 1 rfl ?_; refine q_forget (L' := [vN, vN, vN, vO 9 a3]) 2 rfl ?_; refine q_forget (L' := [vN, vN, vN, vN]) 3 rfl ?_; exact k1 q
  · intro q; exact k2 q
theorem b148_39 {d : Nat} {Q : Option sV → sM → sG → Prop} {M : sM} {G : sG} {x1 : Int} {x2 : Int} {a3 : Nat}  (k1 : M a3 9 < 8 → sW (sC d) 148 Q 51 [vN, vI x1, vI x2, vO 9 a3] [] M G 0 0) (k2 : 8 ≤ M a3 9 → sW (sC d) 148 Q 48 [vN, vN, vN, vN] [] M G 0 0) : sW (sC d) 148 Q 39 [vN, vI x1, vI x2, vO 9 a3] [] M G 0 0 := by
  refine q_aload_n 40 rfl (show sCode 148 39 = some (.aload_n 3, 1) by decide +kernel) rfl (Nat.le_of_ble_eq_true rfl) ?_
  refine q_getI 43 rfl (show sCode 148 40 = some (.getfield 216, 3) by decide +kernel) (show sFR (sKo 148).1 216 = some (9, 9) by decide +kernel) (by decide +kernel) (Or.inl (Or.inl rfl)) ?_
  refine q_bipush 45 rfl (show sCode 148 43 = some (.bipush 8, 2) by decide +kernel) ⟨by decide, by decide⟩ (by decide +kernel) ?_
  refine q_icmplt 51 48 rfl (by decide) (show sCode 148 45 = some (.if_icmp .lt 6, 3) by decide +kernel) ?_ ?_
  · intro q; exact k1 q
  · intro q; refine q_forget (L' := [vN, vN, vI x2, vO 9 a3]) 1 rfl ?_; refine q_forget (L' := [vN, vN, vN, vO 9 a3]) 2 rfl ?_; refine q_forget (L' := [vN, vN, vN, vN]) 3 rfl ?_; exact k2 q
theorem b148_48 {d : Nat} {P : Int → sM → sG → Prop} {M : sM} {G : sG}   (kk : P (-2) M G) : sW (sC d) 148 (QI P) 48 [vN, vN, vN, vN] [] M G 0 0 := by
  refine q_bipush 50 rfl (show sCode 148 48 = some (.bipush (-2), 2) by decide +kernel) ⟨by decide, by decide⟩ (by decide +kernel) ?_
  exact q_iret (show sCode 148 50 = some (.ireturn, 1) by decide +kernel) (by decide +kernel) (by decide +kernel) kk
theorem b148_51 {d : Nat} {P : Int → sM → sG → Prop} {M : sM} {G : sG} {x1 : Int} {x2 : Int} {a3 : Nat} (h1 : 0 ≤ M a3 9 ∧ M a3 9 < 8) (h2 : 0 ≤ (sUpd M (a3 + 8) (M a3 9).toNat x1) a3 9 ∧ (sUpd M (a3 + 8) (M a3 9).toNat x1) a3 9 < 8) (h3 : sI (((sUpd (sUpd M (a3 + 8) (M a3 9).toNat x1) (a3 + 9) ((sUpd M (a3 + 8) (M a3 9).toNat x1) a3 9).toNat x2) a3 9) + 1)) (kk : P ((sUpd (sUpd (sUpd M (a3 + 8) (M a3 9).toNat x1) (a3 + 9) ((sUpd M (a3 + 8) (M a3 9).toNat x1) a3 9).toNat x2) a3 9 (((sUpd (sUpd M (a3 + 8) (M a3 9).toNat x1) (a3 + 9) ((sUpd M (a3 + 8) (M a3 9).toNat x1) a3 9).toNat x2) a3 9) + 1)) a3 9) (sUpd (sUpd (sUpd M (a3 + 8) (M a3 9).toNat x1) (a3 + 9) ((sUpd M (a3 + 8) (M a3 9).toNat x1) a3 9).toNat x2) a3 9 (((sUpd (sUpd M (a3 + 8) (M a3 9).toNat x1) (a3 + 9) ((sUpd M (a3 + 8) (M a3 9).toNat x1) a3 9).toNat x2) a3 9) + 1)) G) : sW (sC d) 148 (QI P) 51 [vN, vI x1, vI x2, vO 9 a3] [] M G 0 0 := by
  refine q_aload_n 52 rfl (show sCode 148 51 = some (.aload_n 3, 1) by decide +kernel) rfl (Nat.le_of_ble_eq_true rfl) ?_
  refine q_getR (vA 0 (a3 + 8) 8) 55 rfl (show sCode 148 52 = some (.getfield 329, 3) by decide +kernel) (show sFR (sKo 148).1 329 = some (9, 10) by decide +kernel) (by decide +kernel) (Or.inl (Or.inl rfl)) rfl ?_
  refine q_aload_n 56 rfl (show sCode 148 55 = some (.aload_n 3, 1) by decide +kernel) rfl (Nat.le_of_ble_eq_true rfl) ?_
  refine q_getI 59 rfl (show sCode 148 56 = some (.getfield 216, 3) by decide +kernel) (show sFR (sKo 148).1 216 = some (9, 9) by decide +kernel) (by decide +kernel) (Or.inl (Or.inl rfl)) ?_
  refine q_iload_n 60 rfl (show sCode 148 59 = some (.iload_n 1, 1) by decide +kernel) rfl ?_
  refine q_iast 61 rfl (show sCode 148 60 = some (.iastore, 1) by decide +kernel) h1 ?_
  refine q_aload_n 62 rfl (show sCode 148 61 = some (.aload_n 3, 1) by decide +kernel) rfl (Nat.le_of_ble_eq_true rfl) ?_
  refine q_getR (vA 0 (a3 + 9) 8) 65 rfl (show sCode 148 62 = some (.getfield 332, 3) by decide +kernel) (show sFR (sKo 148).1 332 = some (9, 11) by decide +kernel) (by decide +kernel) (Or.inl (Or.inl rfl)) rfl ?_
  refine q_aload_n 66 rfl (show sCode 148 65 = some (.aload_n 3, 1) by decide +kernel) rfl (Nat.le_of_ble_eq_true rfl) ?_
  refine q_getI 69 rfl (show sCode 148 66 = some (.getfield 216, 3) by decide +kernel) (show sFR (sKo 148).1 216 = some (9, 9) by decide +kernel) (by decide +kernel) (Or.inl (Or.inl rfl)) ?_
  refine q_iload_n 70 rfl (show sCode 148 69 = some (.iload_n 2, 1) by decide +kernel) rfl ?_
  refine q_iast 71 rfl (show sCode 148 70 = some (.iastore, 1) by decide +kernel) h2 ?_
  refine q_aload_n 72 rfl (show sCode 148 71 = some (.aload_n 3, 1) by decide +kernel) rfl (Nat.le_of_ble_eq_true rfl) ?_
  refine q_dup 73 rfl (show sCode 148 72 = some (.dup, 1) by decide +kernel) rfl ?_
  refine q_getI 76 rfl (show sCode 148 73 = some (.getfield 216, 3) by decide +kernel) (show sFR (sKo 148).1 216 = some (9, 9) by decide +kernel) (by decide +kernel) (Or.inl (Or.inl rfl)) ?_
  refine q_iconst 77 rfl (show sCode 148 76 = some (.iconst 1, 1) by decide +kernel) ⟨by decide, by decide⟩ ?_
  refine q_iadd 78 rfl (show sCode 148 77 = some (.iadd, 1) by decide +kernel) h3 ?_
  refine q_putI 81 rfl (show sCode 148 78 = some (.putfield 216, 3) by decide +kernel) (show sFR (sKo 148).1 216 = some (9, 9) by decide +kernel) (by decide +kernel) (Or.inl ⟨Or.inl rfl, by decide +kernel⟩) ?_
  refine q_aload_n 82 rfl (show sCode 148 81 = some (.aload_n 3, 1) by decide +kernel) rfl (Nat.le_of_ble_eq_true rfl) ?_
  refine q_getI 85 rfl (show sCode 148 82 = some (.getfield 216, 3) by decide +kernel) (show sFR (sKo 148).1 216 = some (9, 9) by decide +kernel) (by decide +kernel) (Or.inl (Or.inl rfl)) ?_
  exact q_iret (show sCode 148 85 = some (.ireturn, 1) by decide +kernel) (by decide +kernel) (by decide +kernel) kk
-- 149 AfterTheLast.orders (I)I
theorem b149_0 {d : Nat} {Q : Option sV → sM → sG → Prop} {M : sM} {G : sG} {a0 : Nat} {x1 : Int}  (k1 : x1 < (-1) → sW (sC d) 149 Q 21 [vN, vN, vN] [] M G 0 0) (k2 : (-1) ≤ x1 → sW (sC d) 149 Q 13 [vO 11 a0, vI x1, vO 9 (a0 + 28)] [] M G 0 0) : sW (sC d) 149 Q 0 [vO 11 a0, vI x1, vN] [] M G 0 0 := by
  refine q_aload_n 1 rfl (show sCode 149 0 = some (.aload_n 0, 1) by decide +kernel) rfl (Nat.le_of_ble_eq_true rfl) ?_
  refine q_getR (vO 8 (a0 + 12)) 4 rfl (show sCode 149 1 = some (.getfield 32, 3) by decide +kernel) (show sFR (sKo 149).1 32 = some (11, 3) by decide +kernel) (by decide +kernel) (Or.inl (Or.inl rfl)) rfl ?_
  refine q_getR (vO 9 (a0 + 28)) 7 rfl (show sCode 149 4 = some (.getfield 182, 3) by decide +kernel) (show sFR (sKo 149).1 182 = some (8, 1) by decide +kernel) (by decide +kernel) (Or.inl (Or.inl rfl)) rfl ?_
  refine q_astore_n [vO 11 a0, vI x1, vO 9 (a0 + 28)] 8 rfl (show sCode 149 7 = some (.astore_n 2, 1) by decide +kernel) (by first | exact ⟨Nat.le_of_ble_eq_true rfl, Or.inl (Nat.lt_of_lt_of_le (Nat.lt_succ_self _) (Nat.le_of_ble_eq_true rfl))⟩ | exact ⟨Nat.le_of_ble_eq_true rfl, Or.inr (Nat.le_of_ble_eq_true rfl)⟩) (Nat.lt_of_lt_of_le (Nat.lt_succ_self _) (Nat.le_of_ble_eq_true rfl)) rfl rfl ?_
  refine q_iload_n 9 rfl (show sCode 149 8 = some (.iload_n 1, 1) by decide +kernel) rfl ?_
  refine q_iconst 10 rfl (show sCode 149 9 = some (.iconst (-1), 1) by decide +kernel) ⟨by decide, by decide⟩ ?_
  refine q_icmplt 21 13 rfl (by decide) (show sCode 149 10 = some (.if_icmp .lt 11, 3) by decide +kernel) ?_ ?_
  · intro q; refine q_forget (L' := [vN, vI x1, vO 9 (a0 + 28)]) 0 rfl ?_; refine q_forget (L' := [vN, vN, vO 9 (a0 + 28)]) 1 rfl ?_; refine q_forget (L' := [vN, vN, vN]) 2 rfl ?_; exact k1 q
  · intro q; exact k2 q
theorem b149_13 {d : Nat} {Q : Option sV → sM → sG → Prop} {M : sM} {G : sG} {a0 : Nat} {x1 : Int} {a2 : Nat}  (k1 : x1 < M a2 7 → sW (sC d) 149 Q 23 [vO 11 a0, vI x1, vO 9 a2] [] M G 0 0) (k2 : M a2 7 ≤ x1 → sW (sC d) 149 Q 21 [vN, vN, vN] [] M G 0 0) : sW (sC d) 149 Q 13 [vO 11 a0, vI x1, vO 9 a2] [] M G 0 0 := by
  refine q_iload_n 14 rfl (show sCode 149 13 = some (.iload_n 1, 1) by decide +kernel) rfl ?_
  refine q_aload_n 15 rfl (show sCode 149 14 = some (.aload_n 2, 1) by decide +kernel) rfl (Nat.le_of_ble_eq_true rfl) ?_
  refine q_getI 18 rfl (show sCode 149 15 = some (.getfield 213, 3) by decide +kernel) (show sFR (sKo 149).1 213 = some (9, 7) by decide +kernel) (by decide +kernel) (Or.inl (Or.inl rfl)) ?_
  refine q_icmplt 23 21 rfl (by decide) (show sCode 149 18 = some (.if_icmp .lt 5, 3) by decide +kernel) ?_ ?_
  · intro q; exact k1 q
  · intro q; refine q_forget (L' := [vN, vI x1, vO 9 a2]) 0 rfl ?_; refine q_forget (L' := [vN, vN, vO 9 a2]) 1 rfl ?_; refine q_forget (L' := [vN, vN, vN]) 2 rfl ?_; exact k2 q
theorem b149_21 {d : Nat} {P : Int → sM → sG → Prop} {M : sM} {G : sG}   (kk : P (-1) M G) : sW (sC d) 149 (QI P) 21 [vN, vN, vN] [] M G 0 0 := by
  refine q_iconst 22 rfl (show sCode 149 21 = some (.iconst (-1), 1) by decide +kernel) ⟨by decide, by decide⟩ ?_
  exact q_iret (show sCode 149 22 = some (.ireturn, 1) by decide +kernel) (by decide +kernel) (by decide +kernel) kk
theorem b149_23 {d : Nat} {Q : Option sV → sM → sG → Prop} {M : sM} {G : sG} {a0 : Nat} {x1 : Int} {a2 : Nat}  (kk : sC d 150 [vO 2 (a0 + 77), vO 9 a2] M G (QV (fun M1 G1 => sW (sC d) 149 Q 31 [vO 11 a0, vI x1, vO 9 a2] [] M1 G1 0 0))) : sW (sC d) 149 Q 23 [vO 11 a0, vI x1, vO 9 a2] [] M G 0 0 := by
  refine q_aload_n 24 rfl (show sCode 149 23 = some (.aload_n 0, 1) by decide +kernel) rfl (Nat.le_of_ble_eq_true rfl) ?_
  refine q_getR (vO 2 (a0 + 77)) 27 rfl (show sCode 149 24 = some (.getfield 78, 3) by decide +kernel) (show sFR (sKo 149).1 78 = some (11, 10) by decide +kernel) (by decide +kernel) (Or.inl (Or.inl rfl)) rfl ?_
  refine q_aload_n 28 rfl (show sCode 149 27 = some (.aload_n 2, 1) by decide +kernel) rfl (Nat.le_of_ble_eq_true rfl) ?_
  exact q_virtV [vO 9 a2] 31 rfl (show sCode 149 28 = some (.invokevirtual 335, 3) by decide +kernel) (show sMR (sKo 149).1 335 = some 150 by decide +kernel) (show 150 < 1000 ∧ sStat 150 = false ∧ sIni 150 = false ∧ sKo 150 = (2, 1, 0, 0, 0) by decide +kernel) rfl (Or.inl rfl) rfl (Nat.le_of_ble_eq_true rfl) rfl rfl rfl (by decide +kernel) kk
theorem b149_31 {d : Nat} {Q : Option sV → sM → sG → Prop} {M : sM} {G : sG} {a0 : Nat} {x1 : Int} {a2 : Nat}  (k1 : x1 ≠ (-1) → sW (sC d) 149 Q 44 [vO 11 a0, vI x1, vO 9 a2] [] M G 0 0) (k2 : x1 = (-1) → sW (sC d) 149 Q 36 [vO 11 a0, vN, vN] [] M G 0 0) : sW (sC d) 149 Q 31 [vO 11 a0, vI x1, vO 9 a2] [] M G 0 0 := by
  refine q_iload_n 32 rfl (show sCode 149 31 = some (.iload_n 1, 1) by decide +kernel) rfl ?_
  refine q_iconst 33 rfl (show sCode 149 32 = some (.iconst (-1), 1) by decide +kernel) ⟨by decide, by decide⟩ ?_
  refine q_icmpne 44 36 rfl (by decide) (show sCode 149 33 = some (.if_icmp .ne 11, 3) by decide +kernel) ?_ ?_
  · intro q; exact k1 q
  · intro q; refine q_forget (L' := [vO 11 a0, vN, vO 9 a2]) 1 rfl ?_; refine q_forget (L' := [vO 11 a0, vN, vN]) 2 rfl ?_; exact k2 q
theorem b149_36 {d : Nat} {Q : Option sV → sM → sG → Prop} {M : sM} {G : sG} {a0 : Nat}  (kk : sC d 152 [vO 2 (a0 + 77)] M G (QI (fun r M1 G1 => sW (sC d) 149 Q 43 [vN, vN, vN] (vI r :: []) M1 G1 0 0))) : sW (sC d) 149 Q 36 [vO 11 a0, vN, vN] [] M G 0 0 := by
  refine q_aload_n 37 rfl (show sCode 149 36 = some (.aload_n 0, 1) by decide +kernel) rfl (Nat.le_of_ble_eq_true rfl) ?_
  refine q_getR (vO 2 (a0 + 77)) 40 rfl (show sCode 149 37 = some (.getfield 78, 3) by decide +kernel) (show sFR (sKo 149).1 78 = some (11, 10) by decide +kernel) (by decide +kernel) (Or.inl (Or.inl rfl)) rfl ?_
  refine q_forget (L' := [vN, vN, vN]) 0 rfl ?_
  exact q_virtI [] 43 rfl (show sCode 149 40 = some (.invokevirtual 338, 3) by decide +kernel) (show sMR (sKo 149).1 338 = some 152 by decide +kernel) (show 152 < 1000 ∧ sStat 152 = false ∧ sIni 152 = false ∧ sKo 152 = (2, 0, 1, 0, 0) by decide +kernel) rfl (Or.inl rfl) rfl (Nat.le_of_ble_eq_true rfl) rfl rfl rfl (by decide +kernel) kk
theorem b149_43 {d : Nat} {P : Int → sM → sG → Prop} {M : sM} {G : sG} {s0 : Int}  (kk : P s0 M G) : sW (sC d) 149 (QI P) 43 [vN, vN, vN] [vI s0] M G 0 0 := by
  exact q_iret (show sCode 149 43 = some (.ireturn, 1) by decide +kernel) (by decide +kernel) (by decide +kernel) kk
theorem b149_44 {d : Nat} {Q : Option sV → sM → sG → Prop} {M : sM} {G : sG} {a0 : Nat} {x1 : Int} {a2 : Nat}  (kk : sC d 152 [vO 2 (a0 + 77)] M G (QI (fun r M1 G1 => sW (sC d) 149 Q 51 [vO 11 a0, vI x1, vO 9 a2] (vI r :: []) M1 G1 0 0))) : sW (sC d) 149 Q 44 [vO 11 a0, vI x1, vO 9 a2] [] M G 0 0 := by
  refine q_aload_n 45 rfl (show sCode 149 44 = some (.aload_n 0, 1) by decide +kernel) rfl (Nat.le_of_ble_eq_true rfl) ?_
  refine q_getR (vO 2 (a0 + 77)) 48 rfl (show sCode 149 45 = some (.getfield 78, 3) by decide +kernel) (show sFR (sKo 149).1 78 = some (11, 10) by decide +kernel) (by decide +kernel) (Or.inl (Or.inl rfl)) rfl ?_
  exact q_virtI [] 51 rfl (show sCode 149 48 = some (.invokevirtual 338, 3) by decide +kernel) (show sMR (sKo 149).1 338 = some 152 by decide +kernel) (show 152 < 1000 ∧ sStat 152 = false ∧ sIni 152 = false ∧ sKo 152 = (2, 0, 1, 0, 0) by decide +kernel) rfl (Or.inl rfl) rfl (Nat.le_of_ble_eq_true rfl) rfl rfl rfl (by decide +kernel) kk
theorem b149_51 {d : Nat} {Q : Option sV → sM → sG → Prop} {M : sM} {G : sG} {a0 : Nat} {x1 : Int} {a2 : Nat} {s0 : Int}  (k1 : s0 ≠ 0 → sW (sC d) 149 Q 59 [vO 11 a0, vI x1, vO 9 a2] [] M G 0 0) (k2 : s0 = 0 → sW (sC d) 149 Q 54 [vN, vN, vN] [] M G 0 0) : sW (sC d) 149 Q 51 [vO 11 a0, vI x1, vO 9 a2] [vI s0] M G 0 0 := by
  refine q_ifne 59 54 rfl (by decide) (show sCode 149 51 = some (.ifCond .ne 8, 3) by decide +kernel) ?_ ?_
  · intro q; exact k1 q
  · intro q; refine q_forget (L' := [vN, vI x1, vO 9 a2]) 0 rfl ?_; refine q_forget (L' := [vN, vN, vO 9 a2]) 1 rfl ?_; refine q_forget (L' := [vN, vN, vN]) 2 rfl ?_; exact k2 q
theorem b149_54 {d : Nat} {Q : Option sV → sM → sG → Prop} {M : sM} {G : sG}   (kk : sW (sC d) 149 Q 68 [vN, vN, vN] [vI (-2)] M G 0 0) : sW (sC d) 149 Q 54 [vN, vN, vN] [] M G 0 0 := by
  refine q_bipush 56 rfl (show sCode 149 54 = some (.bipush (-2), 2) by decide +kernel) ⟨by decide, by decide⟩ (by decide +kernel) ?_
  refine q_goto 68 (by decide) (show sCode 149 56 = some (.goto 12, 3) by decide +kernel) ?_
  exact kk
theorem b149_59 {d : Nat} {Q : Option sV → sM → sG → Prop} {M : sM} {G : sG} {a0 : Nat} {x1 : Int} {a2 : Nat}  (kk : sC d 153 [vO 2 (a0 + 77), vO 9 a2, vI x1] M G (QI (fun r M1 G1 => sW (sC d) 149 Q 68 [vN, vN, vN] (vI r :: []) M1 G1 0 0))) : sW (sC d) 149 Q 59 [vO 11 a0, vI x1, vO 9 a2] [] M G 0 0 := by
  refine q_aload_n 60 rfl (show sCode 149 59 = some (.aload_n 0, 1) by decide +kernel) rfl (Nat.le_of_ble_eq_true rfl) ?_
  refine q_getR (vO 2 (a0 + 77)) 63 rfl (show sCode 149 60 = some (.getfield 78, 3) by decide +kernel) (show sFR (sKo 149).1 78 = some (11, 10) by decide +kernel) (by decide +kernel) (Or.inl (Or.inl rfl)) rfl ?_
  refine q_aload_n 64 rfl (show sCode 149 63 = some (.aload_n 2, 1) by decide +kernel) rfl (Nat.le_of_ble_eq_true rfl) ?_
  refine q_iload_n 65 rfl (show sCode 149 64 = some (.iload_n 1, 1) by decide +kernel) rfl ?_
  refine q_forget (L' := [vN, vI x1, vO 9 a2]) 0 rfl ?_
  refine q_forget (L' := [vN, vN, vO 9 a2]) 1 rfl ?_
  refine q_forget (L' := [vN, vN, vN]) 2 rfl ?_
  exact q_virtI [vO 9 a2, vI x1] 68 rfl (show sCode 149 65 = some (.invokevirtual 341, 3) by decide +kernel) (show sMR (sKo 149).1 341 = some 153 by decide +kernel) (show 153 < 1000 ∧ sStat 153 = false ∧ sIni 153 = false ∧ sKo 153 = (2, 2, 1, 0, 0) by decide +kernel) rfl (Or.inl rfl) rfl (Nat.le_of_ble_eq_true rfl) rfl rfl rfl (by decide +kernel) kk
theorem b149_68 {d : Nat} {P : Int → sM → sG → Prop} {M : sM} {G : sG} {s0 : Int}  (kk : P s0 M G) : sW (sC d) 149 (QI P) 68 [vN, vN, vN] [vI s0] M G 0 0 := by
  exact q_iret (show sCode 149 68 = some (.ireturn, 1) by decide +kernel) (by decide +kernel) (by decide +kernel) kk
-- 155 AfterTheLast.guest (II)I
theorem b155_0 {d : Nat} {Q : Option sV → sM → sG → Prop} {M : sM} {G : sG} {a0 : Nat} {x1 : Int} {x2 : Int}  (k1 : x1 ≠ (-1) → sW (sC d) 155 Q 20 [vN, vI x1, vI x2, vO 9 (a0 + 28)] [] M G 0 0) (k2 : x1 = (-1) → sW (sC d) 155 Q 13 [vN, vN, vN, vO 9 (a0 + 28)] [] M G 0 0) : sW (sC d) 155 Q 0 [vO 11 a0, vI x1, vI x2, vN] [] M G 0 0 := by
  refine q_aload_n 1 rfl (show sCode 155 0 = some (.aload_n 0, 1) by decide +kernel) rfl (Nat.le_of_ble_eq_true rfl) ?_
  refine q_getR (vO 8 (a0 + 12)) 4 rfl (show sCode 155 1 = some (.getfield 32, 3) by decide +kernel) (show sFR (sKo 155).1 32 = some (11, 3) by decide +kernel) (by decide +kernel) (Or.inl (Or.inl rfl)) rfl ?_
  refine q_getR (vO 9 (a0 + 28)) 7 rfl (show sCode 155 4 = some (.getfield 182, 3) by decide +kernel) (show sFR (sKo 155).1 182 = some (8, 1) by decide +kernel) (by decide +kernel) (Or.inl (Or.inl rfl)) rfl ?_
  refine q_astore_n [vO 11 a0, vI x1, vI x2, vO 9 (a0 + 28)] 8 rfl (show sCode 155 7 = some (.astore_n 3, 1) by decide +kernel) (by first | exact ⟨Nat.le_of_ble_eq_true rfl, Or.inl (Nat.lt_of_lt_of_le (Nat.lt_succ_self _) (Nat.le_of_ble_eq_true rfl))⟩ | exact ⟨Nat.le_of_ble_eq_true rfl, Or.inr (Nat.le_of_ble_eq_true rfl)⟩) (Nat.lt_of_lt_of_le (Nat.lt_succ_self _) (Nat.le_of_ble_eq_true rfl)) rfl rfl ?_
  refine q_iload_n 9 rfl (show sCode 155 8 = some (.iload_n 1, 1) by decide +kernel) rfl ?_
  refine q_iconst 10 rfl (show sCode 155 9 = some (.iconst (-1), 1) by decide +kernel) ⟨by decide, by decide⟩ ?_
  refine q_icmpne 20 13 rfl (by decide) (show sCode 155 10 = some (.if_icmp .ne 10, 3) by decide +kernel) ?_ ?_
  · intro q; refine q_forget (L' := [vN, vI x1, vI x2, vO 9 (a0 + 28)]) 0 rfl ?_; exact k1 q
  · intro q; refine q_forget (L' := [vN, vI x1, vI x2, vO 9 (a0 + 28)]) 0 rfl ?_; refine q_forget (L' := [vN, vN, vI x2, vO 9 (a0 + 28)]) 1 rfl ?_; refine q_forget (L' := [vN, vN, vN, vO 9 (a0 + 28)]) 2 rfl ?_; exact k2 q
theorem b155_13 {d : Nat} {P : Int → sM → sG → Prop} {M : sM} {G : sG} {a3 : Nat}  (kk : P 0 (sUpd M a3 12 0) G) : sW (sC d) 155 (QI P) 13 [vN, vN, vN, vO 9 a3] [] M G 0 0 := by
  refine q_aload_n 14 rfl (show sCode 155 13 = some (.aload_n 3, 1) by decide +kernel) rfl (Nat.le_of_ble_eq_true rfl) ?_
  refine q_iconst 15 rfl (show sCode 155 14 = some (.iconst 0, 1) by decide +kernel) ⟨by decide, by decide⟩ ?_
  refine q_putI 18 rfl (show sCode 155 15 = some (.putfield 219, 3) by decide +kernel) (show sFR (sKo 155).1 219 = some (9, 12) by decide +kernel) (by decide +kernel) (Or.inl ⟨Or.inl rfl, by decide +kernel⟩) ?_
  refine q_iconst 19 rfl (show sCode 155 18 = some (.iconst 0, 1) by decide +kernel) ⟨by decide, by decide⟩ ?_
  exact q_iret (show sCode 155 19 = some (.ireturn, 1) by decide +kernel) (by decide +kernel) (by decide +kernel) kk
theorem b155_20 {d : Nat} {Q : Option sV → sM → sG → Prop} {M : sM} {G : sG} {x1 : Int} {x2 : Int} {a3 : Nat}  (kk : sC d 120 [vI x1] M G (QI (fun r M1 G1 => sW (sC d) 155 Q 24 [vN, vI x1, vI x2, vO 9 a3] (vI r :: []) M1 G1 0 0))) : sW (sC d) 155 Q 20 [vN, vI x1, vI x2, vO 9 a3] [] M G 0 0 := by
  refine q_iload_n 21 rfl (show sCode 155 20 = some (.iload_n 1, 1) by decide +kernel) rfl ?_
  exact q_statI [vI x1] 24 rfl (show sCode 155 21 = some (.invokestatic 291, 3) by decide +kernel) (show sMR (sKo 155).1 291 = some 120 by decide +kernel) (show 120 < 1000 ∧ sStat 120 = true ∧ sKo 120 = (11, 1, 2, 0, 0) by decide +kernel) rfl rfl (Nat.le_of_ble_eq_true rfl) rfl rfl rfl (by decide +kernel) kk
theorem b155_24 {d : Nat} {Q : Option sV → sM → sG → Prop} {M : sM} {G : sG} {x1 : Int} {x2 : Int} {a3 : Nat} {s0 : Int}  (k1 : s0 = 0 → sW (sC d) 155 Q 48 [vN, vN, vN, vN] [] M G 0 0) (k2 : s0 ≠ 0 → sW (sC d) 155 Q 27 [vN, vI x1, vI x2, vO 9 a3] [] M G 0 0) : sW (sC d) 155 Q 24 [vN, vI x1, vI x2, vO 9 a3] [vI s0] M G 0 0 := by
  refine q_ifeq 48 27 rfl (by decide) (show sCode 155 24 = some (.ifCond .eq 24, 3) by decide +kernel) ?_ ?_
  · intro q; refine q_forget (L' := [vN, vN, vI x2, vO 9 a3]) 1 rfl ?_; refine q_forget (L' := [vN, vN, vN, vO 9 a3]) 2 rfl ?_; refine q_forget (L' := [vN, vN, vN, vN]) 3 rfl ?_; exact k1 q
  · intro q; exact k2 q
theorem b155_27 {d : Nat} {Q : Option sV → sM → sG → Prop} {M : sM} {G : sG} {x1 : Int} {x2 : Int} {a3 : Nat}  (kk : sC d 120 [vI x2] M G (QI (fun r M1 G1 => sW (sC d) 155 Q 31 [vN, vI x1, vI x2, vO 9 a3] (vI r :: []) M1 G1 0 0))) : sW (sC d) 155 Q 27 [vN, vI x1, vI x2, vO 9 a3] [] M G 0 0 := by
  refine q_iload_n 28 rfl (show sCode 155 27 = some (.iload_n 2, 1) by decide +kernel) rfl ?_
  exact q_statI [vI x2] 31 rfl (show sCode 155 28 = some (.invokestatic 291, 3) by decide +kernel) (show sMR (sKo 155).1 291 = some 120 by decide +kernel) (show 120 < 1000 ∧ sStat 120 = true ∧ sKo 120 = (11, 1, 2, 0, 0) by decide +kernel) rfl rfl (Nat.le_of_ble_eq_true rfl) rfl rfl rfl (by decide +kernel) kk
theorem b155_31 {d : Nat} {Q : Option sV → sM → sG → Prop} {M : sM} {G : sG} {x1 : Int} {x2 : Int} {a3 : Nat} {s0 : Int}  (k1 : s0 = 0 → sW (sC d) 155 Q 48 [vN, vN, vN, vN] [] M G 0 0) (k2 : s0 ≠ 0 → sW (sC d) 155 Q 34 [vN, vI x1, vI x2, vO 9 a3] [] M G 0 0) : sW (sC d) 155 Q 31 [vN, vI x1, vI x2, vO 9 a3] [vI s0] M G 0 0 := by
  refine q_ifeq 48 34 rfl (by decide) (show sCode 155 31 = some (.ifCond .eq 17, 3) by decide +kernel) ?_ ?_
  · intro q; refine q_forget (L' := [vN, vN, vI x2, vO 9 a3]) 1 rfl ?_; refine q_forget (L' := [vN, vN, vN, vO 9 a3]) 2 rfl ?_; refine q_forget (L' := [vN, vN, vN, vN]) 3 rfl ?_; exact k1 q
  · intro q; exact k2 q
theorem b155_34 {d : Nat} {Q : Option sV → sM → sG → Prop} {M : sM} {G : sG} {x1 : Int} {x2 : Int} {a3 : Nat}  (k1 : x2 ≤ x1 → sW (sC d) 155 Q 48 [vN, vN, vN, vN] [] M G 0 0) (k2 : x1 < x2 → sW (sC d) 155 Q 39 [vN, vI x1, vI x2, vO 9 a3] [] M G 0 0) : sW (sC d) 155 Q 34 [vN, vI x1, vI x2, vO 9 a3] [] M G 0 0 := by
  refine q_iload_n 35 rfl (show sCode 155 34 = some (.iload_n 2, 1) by decide +kernel) rfl ?_
  refine q_iload_n 36 rfl (show sCode 155 35 = some (.iload_n 1, 1) by decide +kernel) rfl ?_
  refine q_icmple 48 39 rfl (by decide) (show sCode 155 36 = some (.if_icmp .le 12, 3) by decide +kernel) ?_ ?_
  · intro q; refine q_forget (L' := [vN, vN, vI x2, vO 9 a3]) 1 rfl ?_; refine q_forget (L' := [vN, vN, vN, vO 9 a3]) 2 rfl ?_; refine q_forget (L' := [vN, vN, vN, vN]) 3 rfl ?_; exact k1 q
  · intro q; exact k2 q
theorem b155_39 {d : Nat} {Q : Option sV → sM → sG → Prop} {M : sM} {G : sG} {x1 : Int} {x2 : Int} {a3 : Nat}  (k1 : M a3 12 < 12 → sW (sC d) 155 Q 51 [vN, vI x1, vI x2, vO 9 a3] [] M G 0 0) (k2 : 12 ≤ M a3 12 → sW (sC d) 155 Q 48 [vN, vN, vN, vN] [] M G 0 0) : sW (sC d) 155 Q 39 [vN, vI x1, vI x2, vO 9 a3] [] M G 0 0 := by
  refine q_aload_n 40 rfl (show sCode 155 39 = some (.aload_n 3, 1) by decide +kernel) rfl (Nat.le_of_ble_eq_true rfl) ?_
  refine q_getI 43 rfl (show sCode 155 40 = some (.getfield 219, 3) by decide +kernel) (show sFR (sKo 155).1 219 = some (9, 12) by decide +kernel) (by decide +kernel) (Or.inl (Or.inl rfl)) ?_
  refine q_bipush 45 rfl (show sCode 155 43 = some (.bipush 12, 2) by decide +kernel) ⟨by decide, by decide⟩ (by decide +kernel) ?_
  refine q_icmplt 51 48 rfl (by decide) (show sCode 155 45 = some (.if_icmp .lt 6, 3) by decide +kernel) ?_ ?_
  · intro q; exact k1 q
  · intro q; refine q_forget (L' := [vN, vN, vI x2, vO 9 a3]) 1 rfl ?_; refine q_forget (L' := [vN, vN, vN, vO 9 a3]) 2 rfl ?_; refine q_forget (L' := [vN, vN, vN, vN]) 3 rfl ?_; exact k2 q
theorem b155_48 {d : Nat} {P : Int → sM → sG → Prop} {M : sM} {G : sG}   (kk : P (-2) M G) : sW (sC d) 155 (QI P) 48 [vN, vN, vN, vN] [] M G 0 0 := by
  refine q_bipush 50 rfl (show sCode 155 48 = some (.bipush (-2), 2) by decide +kernel) ⟨by decide, by decide⟩ (by decide +kernel) ?_
  exact q_iret (show sCode 155 50 = some (.ireturn, 1) by decide +kernel) (by decide +kernel) (by decide +kernel) kk
theorem b155_51 {d : Nat} {P : Int → sM → sG → Prop} {M : sM} {G : sG} {x1 : Int} {x2 : Int} {a3 : Nat} (h1 : 0 ≤ M a3 12 ∧ M a3 12 < 12) (h2 : 0 ≤ (sUpd M (a3 + 10) (M a3 12).toNat x1) a3 12 ∧ (sUpd M (a3 + 10) (M a3 12).toNat x1) a3 12 < 12) (h3 : sI (((sUpd (sUpd M (a3 + 10) (M a3 12).toNat x1) (a3 + 11) ((sUpd M (a3 + 10) (M a3 12).toNat x1) a3 12).toNat x2) a3 12) + 1)) (kk : P ((sUpd (sUpd (sUpd M (a3 + 10) (M a3 12).toNat x1) (a3 + 11) ((sUpd M (a3 + 10) (M a3 12).toNat x1) a3 12).toNat x2) a3 12 (((sUpd (sUpd M (a3 + 10) (M a3 12).toNat x1) (a3 + 11) ((sUpd M (a3 + 10) (M a3 12).toNat x1) a3 12).toNat x2) a3 12) + 1)) a3 12) (sUpd (sUpd (sUpd M (a3 + 10) (M a3 12).toNat x1) (a3 + 11) ((sUpd M (a3 + 10) (M a3 12).toNat x1) a3 12).toNat x2) a3 12 (((sUpd (sUpd M (a3 + 10) (M a3 12).toNat x1) (a3 + 11) ((sUpd M (a3 + 10) (M a3 12).toNat x1) a3 12).toNat x2) a3 12) + 1)) G) : sW (sC d) 155 (QI P) 51 [vN, vI x1, vI x2, vO 9 a3] [] M G 0 0 := by
  refine q_aload_n 52 rfl (show sCode 155 51 = some (.aload_n 3, 1) by decide +kernel) rfl (Nat.le_of_ble_eq_true rfl) ?_
  refine q_getR (vA 0 (a3 + 10) 12) 55 rfl (show sCode 155 52 = some (.getfield 345, 3) by decide +kernel) (show sFR (sKo 155).1 345 = some (9, 13) by decide +kernel) (by decide +kernel) (Or.inl (Or.inl rfl)) rfl ?_
  refine q_aload_n 56 rfl (show sCode 155 55 = some (.aload_n 3, 1) by decide +kernel) rfl (Nat.le_of_ble_eq_true rfl) ?_
  refine q_getI 59 rfl (show sCode 155 56 = some (.getfield 219, 3) by decide +kernel) (show sFR (sKo 155).1 219 = some (9, 12) by decide +kernel) (by decide +kernel) (Or.inl (Or.inl rfl)) ?_
  refine q_iload_n 60 rfl (show sCode 155 59 = some (.iload_n 1, 1) by decide +kernel) rfl ?_
  refine q_iast 61 rfl (show sCode 155 60 = some (.iastore, 1) by decide +kernel) h1 ?_
  refine q_aload_n 62 rfl (show sCode 155 61 = some (.aload_n 3, 1) by decide +kernel) rfl (Nat.le_of_ble_eq_true rfl) ?_
  refine q_getR (vA 0 (a3 + 11) 12) 65 rfl (show sCode 155 62 = some (.getfield 348, 3) by decide +kernel) (show sFR (sKo 155).1 348 = some (9, 14) by decide +kernel) (by decide +kernel) (Or.inl (Or.inl rfl)) rfl ?_
  refine q_aload_n 66 rfl (show sCode 155 65 = some (.aload_n 3, 1) by decide +kernel) rfl (Nat.le_of_ble_eq_true rfl) ?_
  refine q_getI 69 rfl (show sCode 155 66 = some (.getfield 219, 3) by decide +kernel) (show sFR (sKo 155).1 219 = some (9, 12) by decide +kernel) (by decide +kernel) (Or.inl (Or.inl rfl)) ?_
  refine q_iload_n 70 rfl (show sCode 155 69 = some (.iload_n 2, 1) by decide +kernel) rfl ?_
  refine q_iast 71 rfl (show sCode 155 70 = some (.iastore, 1) by decide +kernel) h2 ?_
  refine q_aload_n 72 rfl (show sCode 155 71 = some (.aload_n 3, 1) by decide +kernel) rfl (Nat.le_of_ble_eq_true rfl) ?_
  refine q_dup 73 rfl (show sCode 155 72 = some (.dup, 1) by decide +kernel) rfl ?_
  refine q_getI 76 rfl (show sCode 155 73 = some (.getfield 219, 3) by decide +kernel) (show sFR (sKo 155).1 219 = some (9, 12) by decide +kernel) (by decide +kernel) (Or.inl (Or.inl rfl)) ?_
  refine q_iconst 77 rfl (show sCode 155 76 = some (.iconst 1, 1) by decide +kernel) ⟨by decide, by decide⟩ ?_
  refine q_iadd 78 rfl (show sCode 155 77 = some (.iadd, 1) by decide +kernel) h3 ?_
  refine q_putI 81 rfl (show sCode 155 78 = some (.putfield 219, 3) by decide +kernel) (show sFR (sKo 155).1 219 = some (9, 12) by decide +kernel) (by decide +kernel) (Or.inl ⟨Or.inl rfl, by decide +kernel⟩) ?_
  refine q_aload_n 82 rfl (show sCode 155 81 = some (.aload_n 3, 1) by decide +kernel) rfl (Nat.le_of_ble_eq_true rfl) ?_
  refine q_getI 85 rfl (show sCode 155 82 = some (.getfield 219, 3) by decide +kernel) (show sFR (sKo 155).1 219 = some (9, 12) by decide +kernel) (by decide +kernel) (Or.inl (Or.inl rfl)) ?_
  exact q_iret (show sCode 155 85 = some (.ireturn, 1) by decide +kernel) (by decide +kernel) (by decide +kernel) kk
-- 156 AfterTheLast.kept (III)I
theorem b156_0 {d : Nat} {Q : Option sV → sM → sG → Prop} {M : sM} {G : sG} {a0 : Nat} {x1 : Int} {x2 : Int} {x3 : Int}  (kk : sC d 120 [vI x1] M G (QI (fun r M1 G1 => sW (sC d) 156 Q 4 [vO 11 a0, vI x1, vI x2, vI x3, vN, vN] (vI r :: []) M1 G1 0 0))) : sW (sC d) 156 Q 0 [vO 11 a0, vI x1, vI x2, vI x3, vN, vN] [] M G 0 0 := by
  refine q_iload_n 1 rfl (show sCode 156 0 = some (.iload_n 1, 1) by decide +kernel) rfl ?_
  exact q_statI [vI x1] 4 rfl (show sCode 156 1 = some (.invokestatic 291, 3) by decide +kernel) (show sMR (sKo 156).1 291 = some 120 by decide +kernel) (show 120 < 1000 ∧ sStat 120 = true ∧ sKo 120 = (11, 1, 2, 0, 0) by decide +kernel) rfl rfl (Nat.le_of_ble_eq_true rfl) rfl rfl rfl (by decide +kernel) kk
theorem b156_4 {d : Nat} {Q : Option sV → sM → sG → Prop} {M : sM} {G : sG} {a0 : Nat} {x1 : Int} {x2 : Int} {x3 : Int} {s0 : Int}  (k1 : s0 = 0 → sW (sC d) 156 Q 23 [vN, vN, vN, vN, vN, vN] [] M G 0 0) (k2 : s0 ≠ 0 → sW (sC d) 156 Q 7 [vO 11 a0, vI x1, vI x2, vI x3, vN, vN] [] M G 0 0) : sW (sC d) 156 Q 4 [vO 11 a0, vI x1, vI x2, vI x3, vN, vN] [vI s0] M G 0 0 := by
  refine q_ifeq 23 7 rfl (by decide) (show sCode 156 4 = some (.ifCond .eq 19, 3) by decide +kernel) ?_ ?_
  · intro q; refine q_forget (L' := [vN, vI x1, vI x2, vI x3, vN, vN]) 0 rfl ?_; refine q_forget (L' := [vN, vN, vI x2, vI x3, vN, vN]) 1 rfl ?_; refine q_forget (L' := [vN, vN, vN, vI x3, vN, vN]) 2 rfl ?_; refine q_forget (L' := [vN, vN, vN, vN, vN, vN]) 3 rfl ?_; exact k1 q
  · intro q; exact k2 q
theorem b156_7 {d : Nat} {Q : Option sV → sM → sG → Prop} {M : sM} {G : sG} {a0 : Nat} {x1 : Int} {x2 : Int} {x3 : Int}  (kk : sC d 120 [vI x2] M G (QI (fun r M1 G1 => sW (sC d) 156 Q 11 [vO 11 a0, vI x1, vI x2, vI x3, vN, vN] (vI r :: []) M1 G1 0 0))) : sW (sC d) 156 Q 7 [vO 11 a0, vI x1, vI x2, vI x3, vN, vN] [] M G 0 0 := by
  refine q_iload_n 8 rfl (show sCode 156 7 = some (.iload_n 2, 1) by decide +kernel) rfl ?_
  exact q_statI [vI x2] 11 rfl (show sCode 156 8 = some (.invokestatic 291, 3) by decide +kernel) (show sMR (sKo 156).1 291 = some 120 by decide +kernel) (show 120 < 1000 ∧ sStat 120 = true ∧ sKo 120 = (11, 1, 2, 0, 0) by decide +kernel) rfl rfl (Nat.le_of_ble_eq_true rfl) rfl rfl rfl (by decide +kernel) kk
theorem b156_11 {d : Nat} {Q : Option sV → sM → sG → Prop} {M : sM} {G : sG} {a0 : Nat} {x1 : Int} {x2 : Int} {x3 : Int} {s0 : Int}  (k1 : s0 = 0 → sW (sC d) 156 Q 23 [vN, vN, vN, vN, vN, vN] [] M G 0 0) (k2 : s0 ≠ 0 → sW (sC d) 156 Q 14 [vO 11 a0, vI x1, vI x2, vI x3, vN, vN] [] M G 0 0) : sW (sC d) 156 Q 11 [vO 11 a0, vI x1, vI x2, vI x3, vN, vN] [vI s0] M G 0 0 := by
  refine q_ifeq 23 14 rfl (by decide) (show sCode 156 11 = some (.ifCond .eq 12, 3) by decide +kernel) ?_ ?_
  · intro q; refine q_forget (L' := [vN, vI x1, vI x2, vI x3, vN, vN]) 0 rfl ?_; refine q_forget (L' := [vN, vN, vI x2, vI x3, vN, vN]) 1 rfl ?_; refine q_forget (L' := [vN, vN, vN, vI x3, vN, vN]) 2 rfl ?_; refine q_forget (L' := [vN, vN, vN, vN, vN, vN]) 3 rfl ?_; exact k1 q
  · intro q; exact k2 q
theorem b156_14 {d : Nat} {Q : Option sV → sM → sG → Prop} {M : sM} {G : sG} {a0 : Nat} {x1 : Int} {x2 : Int} {x3 : Int}  (k1 : x3 < 0 → sW (sC d) 156 Q 23 [vN, vN, vN, vN, vN, vN] [] M G 0 0) (k2 : 0 ≤ x3 → sW (sC d) 156 Q 18 [vO 11 a0, vI x1, vI x2, vI x3, vN, vN] [] M G 0 0) : sW (sC d) 156 Q 14 [vO 11 a0, vI x1, vI x2, vI x3, vN, vN] [] M G 0 0 := by
  refine q_iload_n 15 rfl (show sCode 156 14 = some (.iload_n 3, 1) by decide +kernel) rfl ?_
  refine q_iflt 23 18 rfl (by decide) (show sCode 156 15 = some (.ifCond .lt 8, 3) by decide +kernel) ?_ ?_
  · intro q; refine q_forget (L' := [vN, vI x1, vI x2, vI x3, vN, vN]) 0 rfl ?_; refine q_forget (L' := [vN, vN, vI x2, vI x3, vN, vN]) 1 rfl ?_; refine q_forget (L' := [vN, vN, vN, vI x3, vN, vN]) 2 rfl ?_; refine q_forget (L' := [vN, vN, vN, vN, vN, vN]) 3 rfl ?_; exact k1 q
  · intro q; exact k2 q
theorem b156_18 {d : Nat} {Q : Option sV → sM → sG → Prop} {M : sM} {G : sG} {a0 : Nat} {x1 : Int} {x2 : Int} {x3 : Int}  (k1 : x3 ≤ 1 → sW (sC d) 156 Q 25 [vO 11 a0, vI x1, vI x2, vI x3, vN, vN] [] M G 0 0) (k2 : 1 < x3 → sW (sC d) 156 Q 23 [vN, vN, vN, vN, vN, vN] [] M G 0 0) : sW (sC d) 156 Q 18 [vO 11 a0, vI x1, vI x2, vI x3, vN, vN] [] M G 0 0 := by
  refine q_iload_n 19 rfl (show sCode 156 18 = some (.iload_n 3, 1) by decide +kernel) rfl ?_
  refine q_iconst 20 rfl (show sCode 156 19 = some (.iconst 1, 1) by decide +kernel) ⟨by decide, by decide⟩ ?_
  refine q_icmple 25 23 rfl (by decide) (show sCode 156 20 = some (.if_icmp .le 5, 3) by decide +kernel) ?_ ?_
  · intro q; exact k1 q
  · intro q; refine q_forget (L' := [vN, vI x1, vI x2, vI x3, vN, vN]) 0 rfl ?_; refine q_forget (L' := [vN, vN, vI x2, vI x3, vN, vN]) 1 rfl ?_; refine q_forget (L' := [vN, vN, vN, vI x3, vN, vN]) 2 rfl ?_; refine q_forget (L' := [vN, vN, vN, vN, vN, vN]) 3 rfl ?_; exact k2 q
theorem b156_23 {d : Nat} {P : Int → sM → sG → Prop} {M : sM} {G : sG}   (kk : P (-1) M G) : sW (sC d) 156 (QI P) 23 [vN, vN, vN, vN, vN, vN] [] M G 0 0 := by
  refine q_iconst 24 rfl (show sCode 156 23 = some (.iconst (-1), 1) by decide +kernel) ⟨by decide, by decide⟩ ?_
  exact q_iret (show sCode 156 24 = some (.ireturn, 1) by decide +kernel) (by decide +kernel) (by decide +kernel) kk
theorem b156_25 {d : Nat} {Q : Option sV → sM → sG → Prop} {M : sM} {G : sG} {a0 : Nat} {x1 : Int} {x2 : Int} {x3 : Int}  (kk : sC d 157 [vO 9 (a0 + 28), vI x1, vI x2] M G (QI (fun r M1 G1 => sW (sC d) 156 Q 41 [vN, vI x1, vI x2, vI x3, vO 9 (a0 + 28), vN] (vI r :: []) M1 G1 0 0))) : sW (sC d) 156 Q 25 [vO 11 a0, vI x1, vI x2, vI x3, vN, vN] [] M G 0 0 := by
  refine q_aload_n 26 rfl (show sCode 156 25 = some (.aload_n 0, 1) by decide +kernel) rfl (Nat.le_of_ble_eq_true rfl) ?_
  refine q_getR (vO 8 (a0 + 12)) 29 rfl (show sCode 156 26 = some (.getfield 32, 3) by decide +kernel) (show sFR (sKo 156).1 32 = some (11, 3) by decide +kernel) (by decide +kernel) (Or.inl (Or.inl rfl)) rfl ?_
  refine q_getR (vO 9 (a0 + 28)) 32 rfl (show sCode 156 29 = some (.getfield 182, 3) by decide +kernel) (show sFR (sKo 156).1 182 = some (8, 1) by decide +kernel) (by decide +kernel) (Or.inl (Or.inl rfl)) rfl ?_
  refine q_astore [vO 11 a0, vI x1, vI x2, vI x3, vO 9 (a0 + 28), vN] 34 rfl (show sCode 156 32 = some (.astore 4, 2) by decide +kernel) (by first | exact ⟨Nat.le_of_ble_eq_true rfl, Or.inl (Nat.lt_of_lt_of_le (Nat.lt_succ_self _) (Nat.le_of_ble_eq_true rfl))⟩ | exact ⟨Nat.le_of_ble_eq_true rfl, Or.inr (Nat.le_of_ble_eq_true rfl)⟩) (Nat.lt_of_lt_of_le (Nat.lt_succ_self _) (Nat.le_of_ble_eq_true rfl)) rfl rfl ?_
  refine q_aload 36 rfl (show sCode 156 34 = some (.aload 4, 2) by decide +kernel) rfl (Nat.le_of_ble_eq_true rfl) ?_
  refine q_iload_n 37 rfl (show sCode 156 36 = some (.iload_n 1, 1) by decide +kernel) rfl ?_
  refine q_iload_n 38 rfl (show sCode 156 37 = some (.iload_n 2, 1) by decide +kernel) rfl ?_
  refine q_forget (L' := [vN, vI x1, vI x2, vI x3, vO 9 (a0 + 28), vN]) 0 rfl ?_
  exact q_statI [vO 9 (a0 + 28), vI x1, vI x2] 41 rfl (show sCode 156 38 = some (.invokestatic 351, 3) by decide +kernel) (show sMR (sKo 156).1 351 = some 157 by decide +kernel) (show 157 < 1000 ∧ sStat 157 = true ∧ sKo 157 = (2, 3, 1, 0, 0) by decide +kernel) rfl rfl (Nat.le_of_ble_eq_true rfl) rfl rfl rfl (by decide +kernel) kk
theorem b156_41 {d : Nat} {Q : Option sV → sM → sG → Prop} {M : sM} {G : sG} {x1 : Int} {x2 : Int} {x3 : Int} {a4 : Nat} {s0 : Int}  (k1 : s0 ≠ (-1) → sW (sC d) 156 Q 52 [vN, vI x1, vI x2, vI x3, vO 9 a4, vI s0] [] M G 0 0) (k2 : s0 = (-1) → sW (sC d) 156 Q 49 [vN, vN, vN, vN, vN, vN] [] M G 0 0) : sW (sC d) 156 Q 41 [vN, vI x1, vI x2, vI x3, vO 9 a4, vN] [vI s0] M G 0 0 := by
  refine q_istore [vN, vI x1, vI x2, vI x3, vO 9 a4, vI s0] 43 rfl (show sCode 156 41 = some (.istore 5, 2) by decide +kernel) (Nat.lt_of_lt_of_le (Nat.lt_succ_self _) (Nat.le_of_ble_eq_true rfl)) rfl rfl ?_
  refine q_iload 45 rfl (show sCode 156 43 = some (.iload 5, 2) by decide +kernel) rfl ?_
  refine q_iconst 46 rfl (show sCode 156 45 = some (.iconst (-1), 1) by decide +kernel) ⟨by decide, by decide⟩ ?_
  refine q_icmpne 52 49 rfl (by decide) (show sCode 156 46 = some (.if_icmp .ne 6, 3) by decide +kernel) ?_ ?_
  · intro q; exact k1 q
  · intro q; refine q_forget (L' := [vN, vN, vI x2, vI x3, vO 9 a4, vI s0]) 1 rfl ?_; refine q_forget (L' := [vN, vN, vN, vI x3, vO 9 a4, vI s0]) 2 rfl ?_; refine q_forget (L' := [vN, vN, vN, vN, vO 9 a4, vI s0]) 3 rfl ?_; refine q_forget (L' := [vN, vN, vN, vN, vN, vI s0]) 4 rfl ?_; refine q_forget (L' := [vN, vN, vN, vN, vN, vN]) 5 rfl ?_; exact k2 q
theorem b156_49 {d : Nat} {P : Int → sM → sG → Prop} {M : sM} {G : sG}   (kk : P (-2) M G) : sW (sC d) 156 (QI P) 49 [vN, vN, vN, vN, vN, vN] [] M G 0 0 := by
  refine q_bipush 51 rfl (show sCode 156 49 = some (.bipush (-2), 2) by decide +kernel) ⟨by decide, by decide⟩ (by decide +kernel) ?_
  exact q_iret (show sCode 156 51 = some (.ireturn, 1) by decide +kernel) (by decide +kernel) (by decide +kernel) kk
theorem b156_52 {d : Nat} {Q : Option sV → sM → sG → Prop} {M : sM} {G : sG} {x1 : Int} {x2 : Int} {x3 : Int} {a4 : Nat} {x5 : Int}  (k1 : x3 ≠ 0 → sW (sC d) 156 Q 61 [vN, vI x1, vI x2, vN, vO 9 a4, vI x5] [] M G 0 0) (k2 : x3 = 0 → sW (sC d) 156 Q 56 [vN, vN, vN, vN, vN, vI x5] [] M G 0 0) : sW (sC d) 156 Q 52 [vN, vI x1, vI x2, vI x3, vO 9 a4, vI x5] [] M G 0 0 := by
  refine q_iload_n 53 rfl (show sCode 156 52 = some (.iload_n 3, 1) by decide +kernel) rfl ?_
  refine q_ifne 61 56 rfl (by decide) (show sCode 156 53 = some (.ifCond .ne 8, 3) by decide +kernel) ?_ ?_
  · intro q; refine q_forget (L' := [vN, vI x1, vI x2, vN, vO 9 a4, vI x5]) 3 rfl ?_; exact k1 q
  · intro q; refine q_forget (L' := [vN, vN, vI x2, vI x3, vO 9 a4, vI x5]) 1 rfl ?_; refine q_forget (L' := [vN, vN, vN, vI x3, vO 9 a4, vI x5]) 2 rfl ?_; refine q_forget (L' := [vN, vN, vN, vN, vO 9 a4, vI x5]) 3 rfl ?_; refine q_forget (L' := [vN, vN, vN, vN, vN, vI x5]) 4 rfl ?_; exact k2 q
theorem b156_56 {d : Nat} {Q : Option sV → sM → sG → Prop} {M : sM} {G : sG} {x5 : Int}  (kk : sW (sC d) 156 Q 70 [vN, vN, vN, vN, vN, vN] [vI x5] M G 0 0) : sW (sC d) 156 Q 56 [vN, vN, vN, vN, vN, vI x5] [] M G 0 0 := by
  refine q_iload 58 rfl (show sCode 156 56 = some (.iload 5, 2) by decide +kernel) rfl ?_
  refine q_goto 70 (by decide) (show sCode 156 58 = some (.goto 12, 3) by decide +kernel) ?_
  refine q_forget (L' := [vN, vN, vN, vN, vN, vN]) 5 rfl ?_
  exact kk
theorem b156_61 {d : Nat} {Q : Option sV → sM → sG → Prop} {M : sM} {G : sG} {x1 : Int} {x2 : Int} {a4 : Nat} {x5 : Int}  (kk : sC d 158 [vO 9 a4, vI x1, vI x2, vI x5] M G (QI (fun r M1 G1 => sW (sC d) 156 Q 70 [vN, vN, vN, vN, vN, vN] (vI r :: []) M1 G1 0 0))) : sW (sC d) 156 Q 61 [vN, vI x1, vI x2, vN, vO 9 a4, vI x5] [] M G 0 0 := by
  refine q_aload 63 rfl (show sCode 156 61 = some (.aload 4, 2) by decide +kernel) rfl (Nat.le_of_ble_eq_true rfl) ?_
  refine q_iload_n 64 rfl (show sCode 156 63 = some (.iload_n 1, 1) by decide +kernel) rfl ?_
  refine q_iload_n 65 rfl (show sCode 156 64 = some (.iload_n 2, 1) by decide +kernel) rfl ?_
  refine q_iload 67 rfl (show sCode 156 65 = some (.iload 5, 2) by decide +kernel) rfl ?_
  refine q_forget (L' := [vN, vN, vI x2, vN, vO 9 a4, vI x5]) 1 rfl ?_
  refine q_forget (L' := [vN, vN, vN, vN, vO 9 a4, vI x5]) 2 rfl ?_
  refine q_forget (L' := [vN, vN, vN, vN, vN, vI x5]) 4 rfl ?_
  refine q_forget (L' := [vN, vN, vN, vN, vN, vN]) 5 rfl ?_
  exact q_statI [vO 9 a4, vI x1, vI x2, vI x5] 70 rfl (show sCode 156 67 = some (.invokestatic 355, 3) by decide +kernel) (show sMR (sKo 156).1 355 = some 158 by decide +kernel) (show 158 < 1000 ∧ sStat 158 = true ∧ sKo 158 = (2, 4, 1, 0, 0) by decide +kernel) rfl rfl (Nat.le_of_ble_eq_true rfl) rfl rfl rfl (by decide +kernel) kk
theorem b156_70 {d : Nat} {P : Int → sM → sG → Prop} {M : sM} {G : sG} {s0 : Int}  (kk : P s0 M G) : sW (sC d) 156 (QI P) 70 [vN, vN, vN, vN, vN, vN] [vI s0] M G 0 0 := by
  exact q_iret (show sCode 156 70 = some (.ireturn, 1) by decide +kernel) (by decide +kernel) (by decide +kernel) kk
-- 160 AfterTheLast.knocks (IIIIII)I
theorem b160_0 {d : Nat} {Q : Option sV → sM → sG → Prop} {M : sM} {G : sG} {a0 : Nat} {x1 : Int} {x2 : Int} {x3 : Int} {x4 : Int} {x5 : Int} {x6 : Int}  (k1 : x1 < 0 → sW (sC d) 160 Q 31 [vN, vN, vN, vN, vN, vN, vN] [] M G 0 0) (k2 : 0 ≤ x1 → sW (sC d) 160 Q 4 [vO 11 a0, vI x1, vI x2, vI x3, vI x4, vI x5, vI x6] [] M G 0 0) : sW (sC d) 160 Q 0 [vO 11 a0, vI x1, vI x2, vI x3, vI x4, vI x5, vI x6] [] M G 0 0 := by
  refine q_iload_n 1 rfl (show sCode 160 0 = some (.iload_n 1, 1) by decide +kernel) rfl ?_
  refine q_iflt 31 4 rfl (by decide) (show sCode 160 1 = some (.ifCond .lt 30, 3) by decide +kernel) ?_ ?_
  · intro q; refine q_forget (L' := [vN, vI x1, vI x2, vI x3, vI x4, vI x5, vI x6]) 0 rfl ?_; refine q_forget (L' := [vN, vN, vI x2, vI x3, vI x4, vI x5, vI x6]) 1 rfl ?_; refine q_forget (L' := [vN, vN, vN, vI x3, vI x4, vI x5, vI x6]) 2 rfl ?_; refine q_forget (L' := [vN, vN, vN, vN, vI x4, vI x5, vI x6]) 3 rfl ?_; refine q_forget (L' := [vN, vN, vN, vN, vN, vI x5, vI x6]) 4 rfl ?_; refine q_forget (L' := [vN, vN, vN, vN, vN, vN, vI x6]) 5 rfl ?_; refine q_forget (L' := [vN, vN, vN, vN, vN, vN, vN]) 6 rfl ?_; exact k1 q
  · intro q; exact k2 q
theorem b160_4 {d : Nat} {Q : Option sV → sM → sG → Prop} {M : sM} {G : sG} {a0 : Nat} {x1 : Int} {x2 : Int} {x3 : Int} {x4 : Int} {x5 : Int} {x6 : Int}  (k1 : 16 < x1 → sW (sC d) 160 Q 31 [vN, vN, vN, vN, vN, vN, vN] [] M G 0 0) (k2 : x1 ≤ 16 → sW (sC d) 160 Q 10 [vO 11 a0, vI x1, vI x2, vI x3, vI x4, vI x5, vI x6] [] M G 0 0) : sW (sC d) 160 Q 4 [vO 11 a0, vI x1, vI x2, vI x3, vI x4, vI x5, vI x6] [] M G 0 0 := by
  refine q_iload_n 5 rfl (show sCode 160 4 = some (.iload_n 1, 1) by decide +kernel) rfl ?_
  refine q_bipush 7 rfl (show sCode 160 5 = some (.bipush 16, 2) by decide +kernel) ⟨by decide, by decide⟩ (by decide +kernel) ?_
  refine q_icmpgt 31 10 rfl (by decide) (show sCode 160 7 = some (.if_icmp .gt 24, 3) by decide +kernel) ?_ ?_
  · intro q; refine q_forget (L' := [vN, vI x1, vI x2, vI x3, vI x4, vI x5, vI x6]) 0 rfl ?_; refine q_forget (L' := [vN, vN, vI x2, vI x3, vI x4, vI x5, vI x6]) 1 rfl ?_; refine q_forget (L' := [vN, vN, vN, vI x3, vI x4, vI x5, vI x6]) 2 rfl ?_; refine q_forget (L' := [vN, vN, vN, vN, vI x4, vI x5, vI x6]) 3 rfl ?_; refine q_forget (L' := [vN, vN, vN, vN, vN, vI x5, vI x6]) 4 rfl ?_; refine q_forget (L' := [vN, vN, vN, vN, vN, vN, vI x6]) 5 rfl ?_; refine q_forget (L' := [vN, vN, vN, vN, vN, vN, vN]) 6 rfl ?_; exact k1 q
  · intro q; exact k2 q
theorem b160_10 {d : Nat} {Q : Option sV → sM → sG → Prop} {M : sM} {G : sG} {a0 : Nat} {x1 : Int} {x2 : Int} {x3 : Int} {x4 : Int} {x5 : Int} {x6 : Int}  (k1 : x2 < 1 → sW (sC d) 160 Q 31 [vN, vN, vN, vN, vN, vN, vN] [] M G 0 0) (k2 : 1 ≤ x2 → sW (sC d) 160 Q 15 [vO 11 a0, vI x1, vI x2, vI x3, vI x4, vI x5, vI x6] [] M G 0 0) : sW (sC d) 160 Q 10 [vO 11 a0, vI x1, vI x2, vI x3, vI x4, vI x5, vI x6] [] M G 0 0 := by
  refine q_iload_n 11 rfl (show sCode 160 10 = some (.iload_n 2, 1) by decide +kernel) rfl ?_
  refine q_iconst 12 rfl (show sCode 160 11 = some (.iconst 1, 1) by decide +kernel) ⟨by decide, by decide⟩ ?_
  refine q_icmplt 31 15 rfl (by decide) (show sCode 160 12 = some (.if_icmp .lt 19, 3) by decide +kernel) ?_ ?_
  · intro q; refine q_forget (L' := [vN, vI x1, vI x2, vI x3, vI x4, vI x5, vI x6]) 0 rfl ?_; refine q_forget (L' := [vN, vN, vI x2, vI x3, vI x4, vI x5, vI x6]) 1 rfl ?_; refine q_forget (L' := [vN, vN, vN, vI x3, vI x4, vI x5, vI x6]) 2 rfl ?_; refine q_forget (L' := [vN, vN, vN, vN, vI x4, vI x5, vI x6]) 3 rfl ?_; refine q_forget (L' := [vN, vN, vN, vN, vN, vI x5, vI x6]) 4 rfl ?_; refine q_forget (L' := [vN, vN, vN, vN, vN, vN, vI x6]) 5 rfl ?_; refine q_forget (L' := [vN, vN, vN, vN, vN, vN, vN]) 6 rfl ?_; exact k1 q
  · intro q; exact k2 q
theorem b160_15 {d : Nat} {Q : Option sV → sM → sG → Prop} {M : sM} {G : sG} {a0 : Nat} {x1 : Int} {x2 : Int} {x3 : Int} {x4 : Int} {x5 : Int} {x6 : Int}  (k1 : 95 < x2 → sW (sC d) 160 Q 31 [vN, vN, vN, vN, vN, vN, vN] [] M G 0 0) (k2 : x2 ≤ 95 → sW (sC d) 160 Q 21 [vO 11 a0, vI x1, vI x2, vI x3, vI x4, vI x5, vI x6] [] M G 0 0) : sW (sC d) 160 Q 15 [vO 11 a0, vI x1, vI x2, vI x3, vI x4, vI x5, vI x6] [] M G 0 0 := by
  refine q_iload_n 16 rfl (show sCode 160 15 = some (.iload_n 2, 1) by decide +kernel) rfl ?_
  refine q_bipush 18 rfl (show sCode 160 16 = some (.bipush 95, 2) by decide +kernel) ⟨by decide, by decide⟩ (by decide +kernel) ?_
  refine q_icmpgt 31 21 rfl (by decide) (show sCode 160 18 = some (.if_icmp .gt 13, 3) by decide +kernel) ?_ ?_
  · intro q; refine q_forget (L' := [vN, vI x1, vI x2, vI x3, vI x4, vI x5, vI x6]) 0 rfl ?_; refine q_forget (L' := [vN, vN, vI x2, vI x3, vI x4, vI x5, vI x6]) 1 rfl ?_; refine q_forget (L' := [vN, vN, vN, vI x3, vI x4, vI x5, vI x6]) 2 rfl ?_; refine q_forget (L' := [vN, vN, vN, vN, vI x4, vI x5, vI x6]) 3 rfl ?_; refine q_forget (L' := [vN, vN, vN, vN, vN, vI x5, vI x6]) 4 rfl ?_; refine q_forget (L' := [vN, vN, vN, vN, vN, vN, vI x6]) 5 rfl ?_; refine q_forget (L' := [vN, vN, vN, vN, vN, vN, vN]) 6 rfl ?_; exact k1 q
  · intro q; exact k2 q
theorem b160_21 {d : Nat} {Q : Option sV → sM → sG → Prop} {M : sM} {G : sG} {a0 : Nat} {x1 : Int} {x2 : Int} {x3 : Int} {x4 : Int} {x5 : Int} {x6 : Int}  (k1 : x3 < 0 → sW (sC d) 160 Q 31 [vN, vN, vN, vN, vN, vN, vN] [] M G 0 0) (k2 : 0 ≤ x3 → sW (sC d) 160 Q 25 [vO 11 a0, vI x1, vI x2, vI x3, vI x4, vI x5, vI x6] [] M G 0 0) : sW (sC d) 160 Q 21 [vO 11 a0, vI x1, vI x2, vI x3, vI x4, vI x5, vI x6] [] M G 0 0 := by
  refine q_iload_n 22 rfl (show sCode 160 21 = some (.iload_n 3, 1) by decide +kernel) rfl ?_
  refine q_iflt 31 25 rfl (by decide) (show sCode 160 22 = some (.ifCond .lt 9, 3) by decide +kernel) ?_ ?_
  · intro q; refine q_forget (L' := [vN, vI x1, vI x2, vI x3, vI x4, vI x5, vI x6]) 0 rfl ?_; refine q_forget (L' := [vN, vN, vI x2, vI x3, vI x4, vI x5, vI x6]) 1 rfl ?_; refine q_forget (L' := [vN, vN, vN, vI x3, vI x4, vI x5, vI x6]) 2 rfl ?_; refine q_forget (L' := [vN, vN, vN, vN, vI x4, vI x5, vI x6]) 3 rfl ?_; refine q_forget (L' := [vN, vN, vN, vN, vN, vI x5, vI x6]) 4 rfl ?_; refine q_forget (L' := [vN, vN, vN, vN, vN, vN, vI x6]) 5 rfl ?_; refine q_forget (L' := [vN, vN, vN, vN, vN, vN, vN]) 6 rfl ?_; exact k1 q
  · intro q; exact k2 q
theorem b160_25 {d : Nat} {Q : Option sV → sM → sG → Prop} {M : sM} {G : sG} {a0 : Nat} {x1 : Int} {x2 : Int} {x3 : Int} {x4 : Int} {x5 : Int} {x6 : Int}  (k1 : x3 ≤ 99 → sW (sC d) 160 Q 33 [vO 11 a0, vI x1, vI x2, vI x3, vI x4, vI x5, vI x6] [] M G 0 0) (k2 : 99 < x3 → sW (sC d) 160 Q 31 [vN, vN, vN, vN, vN, vN, vN] [] M G 0 0) : sW (sC d) 160 Q 25 [vO 11 a0, vI x1, vI x2, vI x3, vI x4, vI x5, vI x6] [] M G 0 0 := by
  refine q_iload_n 26 rfl (show sCode 160 25 = some (.iload_n 3, 1) by decide +kernel) rfl ?_
  refine q_bipush 28 rfl (show sCode 160 26 = some (.bipush 99, 2) by decide +kernel) ⟨by decide, by decide⟩ (by decide +kernel) ?_
  refine q_icmple 33 31 rfl (by decide) (show sCode 160 28 = some (.if_icmp .le 5, 3) by decide +kernel) ?_ ?_
  · intro q; exact k1 q
  · intro q; refine q_forget (L' := [vN, vI x1, vI x2, vI x3, vI x4, vI x5, vI x6]) 0 rfl ?_; refine q_forget (L' := [vN, vN, vI x2, vI x3, vI x4, vI x5, vI x6]) 1 rfl ?_; refine q_forget (L' := [vN, vN, vN, vI x3, vI x4, vI x5, vI x6]) 2 rfl ?_; refine q_forget (L' := [vN, vN, vN, vN, vI x4, vI x5, vI x6]) 3 rfl ?_; refine q_forget (L' := [vN, vN, vN, vN, vN, vI x5, vI x6]) 4 rfl ?_; refine q_forget (L' := [vN, vN, vN, vN, vN, vN, vI x6]) 5 rfl ?_; refine q_forget (L' := [vN, vN, vN, vN, vN, vN, vN]) 6 rfl ?_; exact k2 q
theorem b160_31 {d : Nat} {P : Int → sM → sG → Prop} {M : sM} {G : sG}   (kk : P (-1) M G) : sW (sC d) 160 (QI P) 31 [vN, vN, vN, vN, vN, vN, vN] [] M G 0 0 := by
  refine q_iconst 32 rfl (show sCode 160 31 = some (.iconst (-1), 1) by decide +kernel) ⟨by decide, by decide⟩ ?_
  exact q_iret (show sCode 160 32 = some (.ireturn, 1) by decide +kernel) (by decide +kernel) (by decide +kernel) kk
theorem b160_33 {d : Nat} {Q : Option sV → sM → sG → Prop} {M : sM} {G : sG} {a0 : Nat} {x1 : Int} {x2 : Int} {x3 : Int} {x4 : Int} {x5 : Int} {x6 : Int}  (kk : sC d 120 [vI x4] M G (QI (fun r M1 G1 => sW (sC d) 160 Q 38 [vO 11 a0, vI x1, vI x2, vI x3, vI x4, vI x5, vI x6] (vI r :: []) M1 G1 0 0))) : sW (sC d) 160 Q 33 [vO 11 a0, vI x1, vI x2, vI x3, vI x4, vI x5, vI x6] [] M G 0 0 := by
  refine q_iload 35 rfl (show sCode 160 33 = some (.iload 4, 2) by decide +kernel) rfl ?_
  exact q_statI [vI x4] 38 rfl (show sCode 160 35 = some (.invokestatic 291, 3) by decide +kernel) (show sMR (sKo 160).1 291 = some 120 by decide +kernel) (show 120 < 1000 ∧ sStat 120 = true ∧ sKo 120 = (11, 1, 2, 0, 0) by decide +kernel) rfl rfl (Nat.le_of_ble_eq_true rfl) rfl rfl rfl (by decide +kernel) kk
theorem b160_38 {d : Nat} {Q : Option sV → sM → sG → Prop} {M : sM} {G : sG} {a0 : Nat} {x1 : Int} {x2 : Int} {x3 : Int} {x4 : Int} {x5 : Int} {x6 : Int} {s0 : Int}  (k1 : s0 = 0 → sW (sC d) 160 Q 64 [vN, vN, vN, vN, vN, vN, vN] [] M G 0 0) (k2 : s0 ≠ 0 → sW (sC d) 160 Q 41 [vO 11 a0, vI x1, vI x2, vI x3, vI x4, vI x5, vI x6] [] M G 0 0) : sW (sC d) 160 Q 38 [vO 11 a0, vI x1, vI x2, vI x3, vI x4, vI x5, vI x6] [vI s0] M G 0 0 := by
  refine q_ifeq 64 41 rfl (by decide) (show sCode 160 38 = some (.ifCond .eq 26, 3) by decide +kernel) ?_ ?_
  · intro q; refine q_forget (L' := [vN, vI x1, vI x2, vI x3, vI x4, vI x5, vI x6]) 0 rfl ?_; refine q_forget (L' := [vN, vN, vI x2, vI x3, vI x4, vI x5, vI x6]) 1 rfl ?_; refine q_forget (L' := [vN, vN, vN, vI x3, vI x4, vI x5, vI x6]) 2 rfl ?_; refine q_forget (L' := [vN, vN, vN, vN, vI x4, vI x5, vI x6]) 3 rfl ?_; refine q_forget (L' := [vN, vN, vN, vN, vN, vI x5, vI x6]) 4 rfl ?_; refine q_forget (L' := [vN, vN, vN, vN, vN, vN, vI x6]) 5 rfl ?_; refine q_forget (L' := [vN, vN, vN, vN, vN, vN, vN]) 6 rfl ?_; exact k1 q
  · intro q; exact k2 q
theorem b160_41 {d : Nat} {Q : Option sV → sM → sG → Prop} {M : sM} {G : sG} {a0 : Nat} {x1 : Int} {x2 : Int} {x3 : Int} {x4 : Int} {x5 : Int} {x6 : Int}  (k1 : x5 < 0 → sW (sC d) 160 Q 64 [vN, vN, vN, vN, vN, vN, vN] [] M G 0 0) (k2 : 0 ≤ x5 → sW (sC d) 160 Q 46 [vO 11 a0, vI x1, vI x2, vI x3, vI x4, vI x5, vI x6] [] M G 0 0) : sW (sC d) 160 Q 41 [vO 11 a0, vI x1, vI x2, vI x3, vI x4, vI x5, vI x6] [] M G 0 0 := by
  refine q_iload 43 rfl (show sCode 160 41 = some (.iload 5, 2) by decide +kernel) rfl ?_
  refine q_iflt 64 46 rfl (by decide) (show sCode 160 43 = some (.ifCond .lt 21, 3) by decide +kernel) ?_ ?_
  · intro q; refine q_forget (L' := [vN, vI x1, vI x2, vI x3, vI x4, vI x5, vI x6]) 0 rfl ?_; refine q_forget (L' := [vN, vN, vI x2, vI x3, vI x4, vI x5, vI x6]) 1 rfl ?_; refine q_forget (L' := [vN, vN, vN, vI x3, vI x4, vI x5, vI x6]) 2 rfl ?_; refine q_forget (L' := [vN, vN, vN, vN, vI x4, vI x5, vI x6]) 3 rfl ?_; refine q_forget (L' := [vN, vN, vN, vN, vN, vI x5, vI x6]) 4 rfl ?_; refine q_forget (L' := [vN, vN, vN, vN, vN, vN, vI x6]) 5 rfl ?_; refine q_forget (L' := [vN, vN, vN, vN, vN, vN, vN]) 6 rfl ?_; exact k1 q
  · intro q; exact k2 q
theorem b160_46 {d : Nat} {Q : Option sV → sM → sG → Prop} {M : sM} {G : sG} {a0 : Nat} {x1 : Int} {x2 : Int} {x3 : Int} {x4 : Int} {x5 : Int} {x6 : Int}  (k1 : x4 < x5 → sW (sC d) 160 Q 64 [vN, vN, vN, vN, vN, vN, vN] [] M G 0 0) (k2 : x5 ≤ x4 → sW (sC d) 160 Q 53 [vO 11 a0, vI x1, vI x2, vI x3, vI x4, vI x5, vI x6] [] M G 0 0) : sW (sC d) 160 Q 46 [vO 11 a0, vI x1, vI x2, vI x3, vI x4, vI x5, vI x6] [] M G 0 0 := by
  refine q_iload 48 rfl (show sCode 160 46 = some (.iload 5, 2) by decide +kernel) rfl ?_
  refine q_iload 50 rfl (show sCode 160 48 = some (.iload 4, 2) by decide +kernel) rfl ?_
  refine q_icmpgt 64 53 rfl (by decide) (show sCode 160 50 = some (.if_icmp .gt 14, 3) by decide +kernel) ?_ ?_
  · intro q; refine q_forget (L' := [vN, vI x1, vI x2, vI x3, vI x4, vI x5, vI x6]) 0 rfl ?_; refine q_forget (L' := [vN, vN, vI x2, vI x3, vI x4, vI x5, vI x6]) 1 rfl ?_; refine q_forget (L' := [vN, vN, vN, vI x3, vI x4, vI x5, vI x6]) 2 rfl ?_; refine q_forget (L' := [vN, vN, vN, vN, vI x4, vI x5, vI x6]) 3 rfl ?_; refine q_forget (L' := [vN, vN, vN, vN, vN, vI x5, vI x6]) 4 rfl ?_; refine q_forget (L' := [vN, vN, vN, vN, vN, vN, vI x6]) 5 rfl ?_; refine q_forget (L' := [vN, vN, vN, vN, vN, vN, vN]) 6 rfl ?_; exact k1 q
  · intro q; exact k2 q
theorem b160_53 {d : Nat} {Q : Option sV → sM → sG → Prop} {M : sM} {G : sG} {a0 : Nat} {x1 : Int} {x2 : Int} {x3 : Int} {x4 : Int} {x5 : Int} {x6 : Int}  (k1 : x6 < 0 → sW (sC d) 160 Q 64 [vN, vN, vN, vN, vN, vN, vN] [] M G 0 0) (k2 : 0 ≤ x6 → sW (sC d) 160 Q 58 [vO 11 a0, vI x1, vI x2, vI x3, vI x4, vI x5, vI x6] [] M G 0 0) : sW (sC d) 160 Q 53 [vO 11 a0, vI x1, vI x2, vI x3, vI x4, vI x5, vI x6] [] M G 0 0 := by
  refine q_iload 55 rfl (show sCode 160 53 = some (.iload 6, 2) by decide +kernel) rfl ?_
  refine q_iflt 64 58 rfl (by decide) (show sCode 160 55 = some (.ifCond .lt 9, 3) by decide +kernel) ?_ ?_
  · intro q; refine q_forget (L' := [vN, vI x1, vI x2, vI x3, vI x4, vI x5, vI x6]) 0 rfl ?_; refine q_forget (L' := [vN, vN, vI x2, vI x3, vI x4, vI x5, vI x6]) 1 rfl ?_; refine q_forget (L' := [vN, vN, vN, vI x3, vI x4, vI x5, vI x6]) 2 rfl ?_; refine q_forget (L' := [vN, vN, vN, vN, vI x4, vI x5, vI x6]) 3 rfl ?_; refine q_forget (L' := [vN, vN, vN, vN, vN, vI x5, vI x6]) 4 rfl ?_; refine q_forget (L' := [vN, vN, vN, vN, vN, vN, vI x6]) 5 rfl ?_; refine q_forget (L' := [vN, vN, vN, vN, vN, vN, vN]) 6 rfl ?_; exact k1 q
  · intro q; exact k2 q
theorem b160_58 {d : Nat} {Q : Option sV → sM → sG → Prop} {M : sM} {G : sG} {a0 : Nat} {x1 : Int} {x2 : Int} {x3 : Int} {x4 : Int} {x5 : Int} {x6 : Int}  (k1 : x6 ≤ 1 → sW (sC d) 160 Q 66 [vO 11 a0, vI x1, vI x2, vI x3, vI x4, vI x5, vI x6] [] M G 0 0) (k2 : 1 < x6 → sW (sC d) 160 Q 64 [vN, vN, vN, vN, vN, vN, vN] [] M G 0 0) : sW (sC d) 160 Q 58 [vO 11 a0, vI x1, vI x2, vI x3, vI x4, vI x5, vI x6] [] M G 0 0 := by
  refine q_iload 60 rfl (show sCode 160 58 = some (.iload 6, 2) by decide +kernel) rfl ?_
  refine q_iconst 61 rfl (show sCode 160 60 = some (.iconst 1, 1) by decide +kernel) ⟨by decide, by decide⟩ ?_
  refine q_icmple 66 64 rfl (by decide) (show sCode 160 61 = some (.if_icmp .le 5, 3) by decide +kernel) ?_ ?_
  · intro q; exact k1 q
  · intro q; refine q_forget (L' := [vN, vI x1, vI x2, vI x3, vI x4, vI x5, vI x6]) 0 rfl ?_; refine q_forget (L' := [vN, vN, vI x2, vI x3, vI x4, vI x5, vI x6]) 1 rfl ?_; refine q_forget (L' := [vN, vN, vN, vI x3, vI x4, vI x5, vI x6]) 2 rfl ?_; refine q_forget (L' := [vN, vN, vN, vN, vI x4, vI x5, vI x6]) 3 rfl ?_; refine q_forget (L' := [vN, vN, vN, vN, vN, vI x5, vI x6]) 4 rfl ?_; refine q_forget (L' := [vN, vN, vN, vN, vN, vN, vI x6]) 5 rfl ?_; refine q_forget (L' := [vN, vN, vN, vN, vN, vN, vN]) 6 rfl ?_; exact k2 q
theorem b160_64 {d : Nat} {P : Int → sM → sG → Prop} {M : sM} {G : sG}   (kk : P (-1) M G) : sW (sC d) 160 (QI P) 64 [vN, vN, vN, vN, vN, vN, vN] [] M G 0 0 := by
  refine q_iconst 65 rfl (show sCode 160 64 = some (.iconst (-1), 1) by decide +kernel) ⟨by decide, by decide⟩ ?_
  exact q_iret (show sCode 160 65 = some (.ireturn, 1) by decide +kernel) (by decide +kernel) (by decide +kernel) kk
theorem b160_66 {d : Nat} {Q : Option sV → sM → sG → Prop} {M : sM} {G : sG} {a0 : Nat} {x1 : Int} {x2 : Int} {x3 : Int} {x4 : Int} {x5 : Int} {x6 : Int} (h1 : sI (1000 * x3)) (kk : sC d 161 [vO 2 (a0 + 77), vI x1, vI x2, vI (1000 * x3), vI x4] M G (QV (fun M1 G1 => sW (sC d) 160 Q 82 [vO 11 a0, vN, vI x2, vI x3, vI x4, vI x5, vI x6] [] M1 G1 0 0))) : sW (sC d) 160 Q 66 [vO 11 a0, vI x1, vI x2, vI x3, vI x4, vI x5, vI x6] [] M G 0 0 := by
  refine q_aload_n 67 rfl (show sCode 160 66 = some (.aload_n 0, 1) by decide +kernel) rfl (Nat.le_of_ble_eq_true rfl) ?_
  refine q_getR (vO 2 (a0 + 77)) 70 rfl (show sCode 160 67 = some (.getfield 78, 3) by decide +kernel) (show sFR (sKo 160).1 78 = some (11, 10) by decide +kernel) (by decide +kernel) (Or.inl (Or.inl rfl)) rfl ?_
  refine q_iload_n 71 rfl (show sCode 160 70 = some (.iload_n 1, 1) by decide +kernel) rfl ?_
  refine q_iload_n 72 rfl (show sCode 160 71 = some (.iload_n 2, 1) by decide +kernel) rfl ?_
  refine q_sipush 75 rfl (show sCode 160 72 = some (.sipush 1000, 3) by decide +kernel) ⟨by decide, by decide⟩ (by decide +kernel) ?_
  refine q_iload_n 76 rfl (show sCode 160 75 = some (.iload_n 3, 1) by decide +kernel) rfl ?_
  refine q_imul 77 rfl (show sCode 160 76 = some (.imul, 1) by decide +kernel) h1 ?_
  refine q_iload 79 rfl (show sCode 160 77 = some (.iload 4, 2) by decide +kernel) rfl ?_
  refine q_forget (L' := [vO 11 a0, vN, vI x2, vI x3, vI x4, vI x5, vI x6]) 1 rfl ?_
  exact q_virtV [vI x1, vI x2, vI (1000 * x3), vI x4] 82 rfl (show sCode 160 79 = some (.invokevirtual 359, 3) by decide +kernel) (show sMR (sKo 160).1 359 = some 161 by decide +kernel) (show 161 < 1000 ∧ sStat 161 = false ∧ sIni 161 = false ∧ sKo 161 = (2, 4, 0, 0, 0) by decide +kernel) rfl (Or.inl rfl) rfl (Nat.le_of_ble_eq_true rfl) rfl rfl rfl (by decide +kernel) kk
theorem b160_82 {d : Nat} {Q : Option sV → sM → sG → Prop} {M : sM} {G : sG} {a0 : Nat} {x2 : Int} {x3 : Int} {x4 : Int} {x5 : Int} {x6 : Int}  (k1 : x6 ≠ 0 → sW (sC d) 160 Q 97 [vO 11 a0, vN, vI x2, vI x3, vI x4, vI x5, vN] [] M G 0 0) (k2 : x6 = 0 → sW (sC d) 160 Q 87 [vO 11 a0, vN, vN, vN, vN, vI x5, vN] [] M G 0 0) : sW (sC d) 160 Q 82 [vO 11 a0, vN, vI x2, vI x3, vI x4, vI x5, vI x6] [] M G 0 0 := by
  refine q_iload 84 rfl (show sCode 160 82 = some (.iload 6, 2) by decide +kernel) rfl ?_
  refine q_ifne 97 87 rfl (by decide) (show sCode 160 84 = some (.ifCond .ne 13, 3) by decide +kernel) ?_ ?_
  · intro q; refine q_forget (L' := [vO 11 a0, vN, vI x2, vI x3, vI x4, vI x5, vN]) 6 rfl ?_; exact k1 q
  · intro q; refine q_forget (L' := [vO 11 a0, vN, vN, vI x3, vI x4, vI x5, vI x6]) 2 rfl ?_; refine q_forget (L' := [vO 11 a0, vN, vN, vN, vI x4, vI x5, vI x6]) 3 rfl ?_; refine q_forget (L' := [vO 11 a0, vN, vN, vN, vN, vI x5, vI x6]) 4 rfl ?_; refine q_forget (L' := [vO 11 a0, vN, vN, vN, vN, vI x5, vN]) 6 rfl ?_; exact k2 q
theorem b160_87 {d : Nat} {Q : Option sV → sM → sG → Prop} {M : sM} {G : sG} {a0 : Nat} {x5 : Int}  (kk : sC d 163 [vO 2 (a0 + 77), vI x5] M G (QI (fun r M1 G1 => sW (sC d) 160 Q 96 [vN, vN, vN, vN, vN, vN, vN] (vI r :: []) M1 G1 0 0))) : sW (sC d) 160 Q 87 [vO 11 a0, vN, vN, vN, vN, vI x5, vN] [] M G 0 0 := by
  refine q_aload_n 88 rfl (show sCode 160 87 = some (.aload_n 0, 1) by decide +kernel) rfl (Nat.le_of_ble_eq_true rfl) ?_
  refine q_getR (vO 2 (a0 + 77)) 91 rfl (show sCode 160 88 = some (.getfield 78, 3) by decide +kernel) (show sFR (sKo 160).1 78 = some (11, 10) by decide +kernel) (by decide +kernel) (Or.inl (Or.inl rfl)) rfl ?_
  refine q_iload 93 rfl (show sCode 160 91 = some (.iload 5, 2) by decide +kernel) rfl ?_
  refine q_forget (L' := [vN, vN, vN, vN, vN, vI x5, vN]) 0 rfl ?_
  refine q_forget (L' := [vN, vN, vN, vN, vN, vN, vN]) 5 rfl ?_
  exact q_virtI [vI x5] 96 rfl (show sCode 160 93 = some (.invokevirtual 363, 3) by decide +kernel) (show sMR (sKo 160).1 363 = some 163 by decide +kernel) (show 163 < 1000 ∧ sStat 163 = false ∧ sIni 163 = false ∧ sKo 163 = (2, 1, 1, 0, 0) by decide +kernel) rfl (Or.inl rfl) rfl (Nat.le_of_ble_eq_true rfl) rfl rfl rfl (by decide +kernel) kk
theorem b160_96 {d : Nat} {P : Int → sM → sG → Prop} {M : sM} {G : sG} {s0 : Int}  (kk : P s0 M G) : sW (sC d) 160 (QI P) 96 [vN, vN, vN, vN, vN, vN, vN] [vI s0] M G 0 0 := by
  exact q_iret (show sCode 160 96 = some (.ireturn, 1) by decide +kernel) (by decide +kernel) (by decide +kernel) kk
theorem b160_97 {d : Nat} {Q : Option sV → sM → sG → Prop} {M : sM} {G : sG} {a0 : Nat} {x2 : Int} {x3 : Int} {x4 : Int} {x5 : Int} (h1 : sI (1000 * x3)) (kk : sC d 162 [vO 2 (a0 + 77), vI x2, vI (1000 * x3), vI x4, vI x5] M G (QI (fun r M1 G1 => sW (sC d) 160 Q 114 [vO 11 a0, vN, vN, vN, vN, vI x5, vN] (vI r :: []) M1 G1 0 0))) : sW (sC d) 160 Q 97 [vO 11 a0, vN, vI x2, vI x3, vI x4, vI x5, vN] [] M G 0 0 := by
  refine q_aload_n 98 rfl (show sCode 160 97 = some (.aload_n 0, 1) by decide +kernel) rfl (Nat.le_of_ble_eq_true rfl) ?_
  refine q_getR (vO 2 (a0 + 77)) 101 rfl (show sCode 160 98 = some (.getfield 78, 3) by decide +kernel) (show sFR (sKo 160).1 78 = some (11, 10) by decide +kernel) (by decide +kernel) (Or.inl (Or.inl rfl)) rfl ?_
  refine q_iload_n 102 rfl (show sCode 160 101 = some (.iload_n 2, 1) by decide +kernel) rfl ?_
  refine q_sipush 105 rfl (show sCode 160 102 = some (.sipush 1000, 3) by decide +kernel) ⟨by decide, by decide⟩ (by decide +kernel) ?_
  refine q_iload_n 106 rfl (show sCode 160 105 = some (.iload_n 3, 1) by decide +kernel) rfl ?_
  refine q_imul 107 rfl (show sCode 160 106 = some (.imul, 1) by decide +kernel) h1 ?_
  refine q_iload 109 rfl (show sCode 160 107 = some (.iload 4, 2) by decide +kernel) rfl ?_
  refine q_iload 111 rfl (show sCode 160 109 = some (.iload 5, 2) by decide +kernel) rfl ?_
  refine q_forget (L' := [vO 11 a0, vN, vN, vI x3, vI x4, vI x5, vN]) 2 rfl ?_
  refine q_forget (L' := [vO 11 a0, vN, vN, vN, vI x4, vI x5, vN]) 3 rfl ?_
  refine q_forget (L' := [vO 11 a0, vN, vN, vN, vN, vI x5, vN]) 4 rfl ?_
  exact q_virtI [vI x2, vI (1000 * x3), vI x4, vI x5] 114 rfl (show sCode 160 111 = some (.invokevirtual 366, 3) by decide +kernel) (show sMR (sKo 160).1 366 = some 162 by decide +kernel) (show 162 < 1000 ∧ sStat 162 = false ∧ sIni 162 = false ∧ sKo 162 = (2, 4, 1, 0, 0) by decide +kernel) rfl (Or.inl rfl) rfl (Nat.le_of_ble_eq_true rfl) rfl rfl rfl (by decide +kernel) kk
theorem b160_114 {d : Nat} {Q : Option sV → sM → sG → Prop} {M : sM} {G : sG} {a0 : Nat} {x5 : Int} {s0 : Int} (h1 : sI (x5 + 1)) (kk : sC d 163 [vO 2 (a0 + 77), vI (x5 + 1)] M G (QI (fun r M1 G1 => sW (sC d) 160 Q 125 [vN, vN, vN, vN, vN, vN, vN] (vI r :: [vI s0]) M1 G1 0 0))) : sW (sC d) 160 Q 114 [vO 11 a0, vN, vN, vN, vN, vI x5, vN] [vI s0] M G 0 0 := by
  refine q_aload_n 115 rfl (show sCode 160 114 = some (.aload_n 0, 1) by decide +kernel) rfl (Nat.le_of_ble_eq_true rfl) ?_
  refine q_getR (vO 2 (a0 + 77)) 118 rfl (show sCode 160 115 = some (.getfield 78, 3) by decide +kernel) (show sFR (sKo 160).1 78 = some (11, 10) by decide +kernel) (by decide +kernel) (Or.inl (Or.inl rfl)) rfl ?_
  refine q_iload 120 rfl (show sCode 160 118 = some (.iload 5, 2) by decide +kernel) rfl ?_
  refine q_iconst 121 rfl (show sCode 160 120 = some (.iconst 1, 1) by decide +kernel) ⟨by decide, by decide⟩ ?_
  refine q_iadd 122 rfl (show sCode 160 121 = some (.iadd, 1) by decide +kernel) h1 ?_
  refine q_forget (L' := [vN, vN, vN, vN, vN, vI x5, vN]) 0 rfl ?_
  refine q_forget (L' := [vN, vN, vN, vN, vN, vN, vN]) 5 rfl ?_
  exact q_virtI [vI (x5 + 1)] 125 rfl (show sCode 160 122 = some (.invokevirtual 363, 3) by decide +kernel) (show sMR (sKo 160).1 363 = some 163 by decide +kernel) (show 163 < 1000 ∧ sStat 163 = false ∧ sIni 163 = false ∧ sKo 163 = (2, 1, 1, 0, 0) by decide +kernel) rfl (Or.inl rfl) rfl (Nat.le_of_ble_eq_true rfl) rfl rfl rfl (by decide +kernel) kk
theorem b160_125 {d : Nat} {Q : Option sV → sM → sG → Prop} {M : sM} {G : sG} {s0 : Int} {s1 : Int}  (k1 : s1 ≤ s0 → sW (sC d) 160 Q 132 [vN, vN, vN, vN, vN, vN, vN] [] M G 0 0) (k2 : s0 < s1 → sW (sC d) 160 Q 128 [vN, vN, vN, vN, vN, vN, vN] [] M G 0 0) : sW (sC d) 160 Q 125 [vN, vN, vN, vN, vN, vN, vN] [vI s0, vI s1] M G 0 0 := by
  refine q_icmple 132 128 rfl (by decide) (show sCode 160 125 = some (.if_icmp .le 7, 3) by decide +kernel) ?_ ?_
  · intro q; exact k1 q
  · intro q; exact k2 q
theorem b160_128 {d : Nat} {Q : Option sV → sM → sG → Prop} {M : sM} {G : sG}   (kk : sW (sC d) 160 Q 133 [vN, vN, vN, vN, vN, vN, vN] [vI 1] M G 0 0) : sW (sC d) 160 Q 128 [vN, vN, vN, vN, vN, vN, vN] [] M G 0 0 := by
  refine q_iconst 129 rfl (show sCode 160 128 = some (.iconst 1, 1) by decide +kernel) ⟨by decide, by decide⟩ ?_
  refine q_goto 133 (by decide) (show sCode 160 129 = some (.goto 4, 3) by decide +kernel) ?_
  exact kk
theorem b160_132 {d : Nat} {Q : Option sV → sM → sG → Prop} {M : sM} {G : sG}   (kk : sW (sC d) 160 Q 133 [vN, vN, vN, vN, vN, vN, vN] [vI 0] M G 0 0) : sW (sC d) 160 Q 132 [vN, vN, vN, vN, vN, vN, vN] [] M G 0 0 := by
  refine q_iconst 133 rfl (show sCode 160 132 = some (.iconst 0, 1) by decide +kernel) ⟨by decide, by decide⟩ ?_
  exact kk
theorem b160_133 {d : Nat} {P : Int → sM → sG → Prop} {M : sM} {G : sG} {s0 : Int}  (kk : P s0 M G) : sW (sC d) 160 (QI P) 133 [vN, vN, vN, vN, vN, vN, vN] [vI s0] M G 0 0 := by
  exact q_iret (show sCode 160 133 = some (.ireturn, 1) by decide +kernel) (by decide +kernel) (by decide +kernel) kk
-- 167 AfterTheLast.back (I)I
theorem b167_0 {d : Nat} {Q : Option sV → sM → sG → Prop} {M : sM} {G : sG} {a0 : Nat} {x1 : Int}  (k1 : x1 < 0 → sW (sC d) 167 Q 9 [vN, vN, vN] [] M G 0 0) (k2 : 0 ≤ x1 → sW (sC d) 167 Q 4 [vO 11 a0, vI x1, vN] [] M G 0 0) : sW (sC d) 167 Q 0 [vO 11 a0, vI x1, vN] [] M G 0 0 := by
  refine q_iload_n 1 rfl (show sCode 167 0 = some (.iload_n 1, 1) by decide +kernel) rfl ?_
  refine q_iflt 9 4 rfl (by decide) (show sCode 167 1 = some (.ifCond .lt 8, 3) by decide +kernel) ?_ ?_
  · intro q; refine q_forget (L' := [vN, vI x1, vN]) 0 rfl ?_; refine q_forget (L' := [vN, vN, vN]) 1 rfl ?_; exact k1 q
  · intro q; exact k2 q
theorem b167_4 {d : Nat} {Q : Option sV → sM → sG → Prop} {M : sM} {G : sG} {a0 : Nat} {x1 : Int}  (k1 : x1 < 4 → sW (sC d) 167 Q 11 [vO 11 a0, vI x1, vN] [] M G 0 0) (k2 : 4 ≤ x1 → sW (sC d) 167 Q 9 [vN, vN, vN] [] M G 0 0) : sW (sC d) 167 Q 4 [vO 11 a0, vI x1, vN] [] M G 0 0 := by
  refine q_iload_n 5 rfl (show sCode 167 4 = some (.iload_n 1, 1) by decide +kernel) rfl ?_
  refine q_iconst 6 rfl (show sCode 167 5 = some (.iconst 4, 1) by decide +kernel) ⟨by decide, by decide⟩ ?_
  refine q_icmplt 11 9 rfl (by decide) (show sCode 167 6 = some (.if_icmp .lt 5, 3) by decide +kernel) ?_ ?_
  · intro q; exact k1 q
  · intro q; refine q_forget (L' := [vN, vI x1, vN]) 0 rfl ?_; refine q_forget (L' := [vN, vN, vN]) 1 rfl ?_; exact k2 q
theorem b167_9 {d : Nat} {P : Int → sM → sG → Prop} {M : sM} {G : sG}   (kk : P (-1) M G) : sW (sC d) 167 (QI P) 9 [vN, vN, vN] [] M G 0 0 := by
  refine q_iconst 10 rfl (show sCode 167 9 = some (.iconst (-1), 1) by decide +kernel) ⟨by decide, by decide⟩ ?_
  exact q_iret (show sCode 167 10 = some (.ireturn, 1) by decide +kernel) (by decide +kernel) (by decide +kernel) kk
theorem b167_11 {d : Nat} {Q : Option sV → sM → sG → Prop} {M : sM} {G : sG} {a0 : Nat} {x1 : Int} (h1 : 0 ≤ x1 ∧ x1 < 4) (k1 : (M (a0 + 40) x1.toNat).toNat ≠ 0 → sW (sC d) 167 Q 24 [vO 11 a0, vN, vQ 8 ((M (a0 + 40) x1.toNat).toNat)] [] M G 0 0) (k2 : (M (a0 + 40) x1.toNat).toNat = 0 → sW (sC d) 167 Q 22 [vN, vN, vN] [] M G 0 0) : sW (sC d) 167 Q 11 [vO 11 a0, vI x1, vN] [] M G 0 0 := by
  refine q_aload_n 12 rfl (show sCode 167 11 = some (.aload_n 0, 1) by decide +kernel) rfl (Nat.le_of_ble_eq_true rfl) ?_
  refine q_getR (vB 8 (a0 + 40) 4) 15 rfl (show sCode 167 12 = some (.getfield 36, 3) by decide +kernel) (show sFR (sKo 167).1 36 = some (11, 4) by decide +kernel) (by decide +kernel) (Or.inl (Or.inl rfl)) rfl ?_
  refine q_iload_n 16 rfl (show sCode 167 15 = some (.iload_n 1, 1) by decide +kernel) rfl ?_
  refine q_aald 17 rfl (show sCode 167 16 = some (.aaload, 1) by decide +kernel) h1 ?_
  refine q_astore_n [vO 11 a0, vI x1, vQ 8 ((M (a0 + 40) x1.toNat).toNat)] 18 rfl (show sCode 167 17 = some (.astore_n 2, 1) by decide +kernel) (by first | exact ⟨Nat.le_of_ble_eq_true rfl, Or.inl (Nat.lt_of_lt_of_le (Nat.lt_succ_self _) (Nat.le_of_ble_eq_true rfl))⟩ | exact ⟨Nat.le_of_ble_eq_true rfl, Or.inr (Nat.le_of_ble_eq_true rfl)⟩) (Nat.lt_of_lt_of_le (Nat.lt_succ_self _) (Nat.le_of_ble_eq_true rfl)) rfl rfl ?_
  refine q_aload_n 19 rfl (show sCode 167 18 = some (.aload_n 2, 1) by decide +kernel) rfl (Nat.le_of_ble_eq_true rfl) ?_
  refine q_ifnonnull 24 22 rfl (by decide) (show sCode 167 19 = some (.ifnonnull 5, 3) by decide +kernel) ?_ ?_
  · intro q; refine q_forget (L' := [vO 11 a0, vN, vQ 8 ((M (a0 + 40) x1.toNat).toNat)]) 1 rfl ?_; exact k1 q
  · intro q; refine q_forget (L' := [vN, vI x1, vQ 8 ((M (a0 + 40) x1.toNat).toNat)]) 0 rfl ?_; refine q_forget (L' := [vN, vN, vQ 8 ((M (a0 + 40) x1.toNat).toNat)]) 1 rfl ?_; refine q_forget (L' := [vN, vN, vN]) 2 rfl ?_; exact k2 q
theorem b167_22 {d : Nat} {P : Int → sM → sG → Prop} {M : sM} {G : sG}   (kk : P (-1) M G) : sW (sC d) 167 (QI P) 22 [vN, vN, vN] [] M G 0 0 := by
  refine q_iconst 23 rfl (show sCode 167 22 = some (.iconst (-1), 1) by decide +kernel) ⟨by decide, by decide⟩ ?_
  exact q_iret (show sCode 167 23 = some (.ireturn, 1) by decide +kernel) (by decide +kernel) (by decide +kernel) kk
theorem b167_24 {d : Nat} {Q : Option sV → sM → sG → Prop} {M : sM} {G : sG} {a0 : Nat} {a2 : Nat}  (kk : sC d 165 [vO 8 (a0 + 12), vQ 8 a2] M G (QV (fun M1 G1 => sW (sC d) 167 Q 32 [vO 11 a0, vN, vN] [] M1 G1 0 0))) : sW (sC d) 167 Q 24 [vO 11 a0, vN, vQ 8 a2] [] M G 0 0 := by
  refine q_aload_n 25 rfl (show sCode 167 24 = some (.aload_n 0, 1) by decide +kernel) rfl (Nat.le_of_ble_eq_true rfl) ?_
  refine q_getR (vO 8 (a0 + 12)) 28 rfl (show sCode 167 25 = some (.getfield 32, 3) by decide +kernel) (show sFR (sKo 167).1 32 = some (11, 3) by decide +kernel) (by decide +kernel) (Or.inl (Or.inl rfl)) rfl ?_
  refine q_aload_n 29 rfl (show sCode 167 28 = some (.aload_n 2, 1) by decide +kernel) rfl (Nat.le_of_ble_eq_true rfl) ?_
  refine q_forget (L' := [vO 11 a0, vN, vN]) 2 rfl ?_
  exact q_virtV [vQ 8 a2] 32 rfl (show sCode 167 29 = some (.invokevirtual 370, 3) by decide +kernel) (show sMR (sKo 167).1 370 = some 165 by decide +kernel) (show 165 < 1000 ∧ sStat 165 = false ∧ sIni 165 = false ∧ sKo 165 = (8, 1, 0, 0, 0) by decide +kernel) rfl (Or.inl rfl) rfl (Nat.le_of_ble_eq_true rfl) rfl rfl rfl (by decide +kernel) kk
theorem b167_32 {d : Nat} {P : Int → sM → sG → Prop} {M : sM} {G : sG} {a0 : Nat}  (kk : P (M (a0 + 13) 13) M G) : sW (sC d) 167 (QI P) 32 [vO 11 a0, vN, vN] [] M G 0 0 := by
  refine q_aload_n 33 rfl (show sCode 167 32 = some (.aload_n 0, 1) by decide +kernel) rfl (Nat.le_of_ble_eq_true rfl) ?_
  refine q_getR (vO 8 (a0 + 12)) 36 rfl (show sCode 167 33 = some (.getfield 32, 3) by decide +kernel) (show sFR (sKo 167).1 32 = some (11, 3) by decide +kernel) (by decide +kernel) (Or.inl (Or.inl rfl)) rfl ?_
  refine q_getR (vO 10 (a0 + 13)) 39 rfl (show sCode 167 36 = some (.getfield 103, 3) by decide +kernel) (show sFR (sKo 167).1 103 = some (8, 0) by decide +kernel) (by decide +kernel) (Or.inl (Or.inl rfl)) rfl ?_
  refine q_getI 42 rfl (show sCode 167 39 = some (.getfield 194, 3) by decide +kernel) (show sFR (sKo 167).1 194 = some (10, 13) by decide +kernel) (by decide +kernel) (Or.inl (Or.inl rfl)) ?_
  exact q_iret (show sCode 167 42 = some (.ireturn, 1) by decide +kernel) (by decide +kernel) (by decide +kernel) kk
