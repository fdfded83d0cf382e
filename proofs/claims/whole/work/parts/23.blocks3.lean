/-! BLOCKS, by program. -/
-- 123 AfterTheLast$Planner.look (LAfterTheLast$Told;)V
theorem b123_0 {d : Nat} {Q : Option sV → sM → sG → Prop} {M : sM} {G : sG} {a0 : Nat} {a1 : Nat}  (kk : sW (sC d) 123 Q 15 [vO 3 a0, vO 9 a1, vI 0, vN] [] (sUpd M a0 0 (if 6 < M a1 1 then 6 else M a1 1)) G 0 0) : sW (sC d) 123 Q 0 [vO 3 a0, vO 9 a1, vN, vN] [] M G 0 0 := by
  refine q_aload_n 1 rfl (show sCode 123 0 = some (.aload_n 0, 1) by decide +kernel) rfl (Nat.le_of_ble_eq_true rfl) ?_
  refine q_aload_n 2 rfl (show sCode 123 1 = some (.aload_n 1, 1) by decide +kernel) rfl (Nat.le_of_ble_eq_true rfl) ?_
  refine q_getI 5 rfl (show sCode 123 2 = some (.getfield 37, 3) by decide +kernel) (show sFR (sKo 123).1 37 = some (9, 1) by decide +kernel) (by decide +kernel) (Or.inl (Or.inl rfl)) ?_
  refine q_bipush 7 rfl (show sCode 123 5 = some (.bipush 6, 2) by decide +kernel) ⟨by decide, by decide⟩ (by decide +kernel) ?_
  refine q_min 10 rfl (show sCode 123 7 = some (.invokestatic 38, 3) by decide +kernel) (by decide +kernel) (Nat.le_of_ble_eq_true rfl) ?_
  refine q_putI 13 rfl (show sCode 123 10 = some (.putfield 11, 3) by decide +kernel) (show sFR (sKo 123).1 11 = some (3, 0) by decide +kernel) (by decide +kernel) (Or.inl ⟨Or.inl rfl, by decide +kernel⟩) ?_
  refine q_iconst 14 rfl (show sCode 123 13 = some (.iconst 0, 1) by decide +kernel) ⟨by decide, by decide⟩ ?_
  refine q_istore_n [vO 3 a0, vO 9 a1, vI 0, vN] 15 rfl (show sCode 123 14 = some (.istore_n 2, 1) by decide +kernel) (Nat.lt_of_lt_of_le (Nat.lt_succ_self _) (Nat.le_of_ble_eq_true rfl)) rfl rfl ?_
  exact kk
theorem b123_15 {d : Nat} {Q : Option sV → sM → sG → Prop} {M : sM} {G : sG} {a0 : Nat} {a1 : Nat} {x2 : Int}  (k1 : M a0 0 ≤ x2 → sW (sC d) 123 Q 96 [vO 3 a0, vO 9 a1, vN, vN] [] M G 0 0) (k2 : x2 < M a0 0 → sW (sC d) 123 Q 23 [vO 3 a0, vO 9 a1, vI x2, vN] [] M G 0 0) : sW (sC d) 123 Q 15 [vO 3 a0, vO 9 a1, vI x2, vN] [] M G 0 0 := by
  refine q_iload_n 16 rfl (show sCode 123 15 = some (.iload_n 2, 1) by decide +kernel) rfl ?_
  refine q_aload_n 17 rfl (show sCode 123 16 = some (.aload_n 0, 1) by decide +kernel) rfl (Nat.le_of_ble_eq_true rfl) ?_
  refine q_getI 20 rfl (show sCode 123 17 = some (.getfield 11, 3) by decide +kernel) (show sFR (sKo 123).1 11 = some (3, 0) by decide +kernel) (by decide +kernel) (Or.inl (Or.inl rfl)) ?_
  refine q_icmpge 96 23 rfl (by decide) (show sCode 123 20 = some (.if_icmp .ge 76, 3) by decide +kernel) ?_ ?_
  · intro q; refine q_forget (L' := [vO 3 a0, vO 9 a1, vN, vN]) 2 rfl ?_; exact k1 q
  · intro q; exact k2 q
theorem b123_23 {d : Nat} {Q : Option sV → sM → sG → Prop} {M : sM} {G : sG} {a0 : Nat} {a1 : Nat} {x2 : Int} (h1 : 0 ≤ x2 ∧ x2 < 6) (h2 : 0 ≤ x2 ∧ x2 < 6) (h3 : sI ((M (a1 + 5) x2.toNat) - (M (a1 + 4) x2.toNat))) (h4 : 0 ≤ x2 ∧ x2 < 6) (h5 : sI (((M (a1 + 5) x2.toNat) - (M (a1 + 4) x2.toNat)) - (M (a1 + 6) x2.toNat))) (h6 : sI ((((M (a1 + 5) x2.toNat) - (M (a1 + 4) x2.toNat)) - (M (a1 + 6) x2.toNat)) + 1)) (h7 : 0 ≤ x2 ∧ x2 < 6) (h8 : 0 ≤ x2 ∧ x2 < 6) (h9 : 0 ≤ x2 ∧ x2 < 6) (h10 : 0 ≤ x2 ∧ x2 < 6) (h11 : sI ((iShl 1 ((sUpd (sUpd M (a0 + 1) x2.toNat (M (a1 + 4) x2.toNat)) (a0 + 2) x2.toNat (if 0 < if (((M (a1 + 5) x2.toNat) - (M (a1 + 4) x2.toNat)) - (M (a1 + 6) x2.toNat)) + 1 < 12 then (((M (a1 + 5) x2.toNat) - (M (a1 + 4) x2.toNat)) - (M (a1 + 6) x2.toNat)) + 1 else 12 then if (((M (a1 + 5) x2.toNat) - (M (a1 + 4) x2.toNat)) - (M (a1 + 6) x2.toNat)) + 1 < 12 then (((M (a1 + 5) x2.toNat) - (M (a1 + 4) x2.toNat)) - (M (a1 + 6) x2.toNat)) + 1 else 12 else 0)) (a0 + 2) x2.toNat)) - 1)) (h12 : 0 ≤ x2 ∧ x2 < 42) (h13 : sI (x2 + 1)) (kk : sW (sC d) 123 Q 15 [vO 3 a0, vO 9 a1, vI (x2 + 1), vN] [] (sUpd (sUpd (sUpd M (a0 + 1) x2.toNat (M (a1 + 4) x2.toNat)) (a0 + 2) x2.toNat (if 0 < if (((M (a1 + 5) x2.toNat) - (M (a1 + 4) x2.toNat)) - (M (a1 + 6) x2.toNat)) + 1 < 12 then (((M (a1 + 5) x2.toNat) - (M (a1 + 4) x2.toNat)) - (M (a1 + 6) x2.toNat)) + 1 else 12 then if (((M (a1 + 5) x2.toNat) - (M (a1 + 4) x2.toNat)) - (M (a1 + 6) x2.toNat)) + 1 < 12 then (((M (a1 + 5) x2.toNat) - (M (a1 + 4) x2.toNat)) - (M (a1 + 6) x2.toNat)) + 1 else 12 else 0)) (a0 + 5) x2.toNat ((iShl 1 ((sUpd (sUpd M (a0 + 1) x2.toNat (M (a1 + 4) x2.toNat)) (a0 + 2) x2.toNat (if 0 < if (((M (a1 + 5) x2.toNat) - (M (a1 + 4) x2.toNat)) - (M (a1 + 6) x2.toNat)) + 1 < 12 then (((M (a1 + 5) x2.toNat) - (M (a1 + 4) x2.toNat)) - (M (a1 + 6) x2.toNat)) + 1 else 12 then if (((M (a1 + 5) x2.toNat) - (M (a1 + 4) x2.toNat)) - (M (a1 + 6) x2.toNat)) + 1 < 12 then (((M (a1 + 5) x2.toNat) - (M (a1 + 4) x2.toNat)) - (M (a1 + 6) x2.toNat)) + 1 else 12 else 0)) (a0 + 2) x2.toNat)) - 1)) G 0 0) : sW (sC d) 123 Q 23 [vO 3 a0, vO 9 a1, vI x2, vN] [] M G 0 0 := by
  refine q_aload_n 24 rfl (show sCode 123 23 = some (.aload_n 1, 1) by decide +kernel) rfl (Nat.le_of_ble_eq_true rfl) ?_
  refine q_getR (vA 0 (a1 + 5) 6) 27 rfl (show sCode 123 24 = some (.getfield 44, 3) by decide +kernel) (show sFR (sKo 123).1 44 = some (9, 5) by decide +kernel) (by decide +kernel) (Or.inl (Or.inl rfl)) rfl ?_
  refine q_iload_n 28 rfl (show sCode 123 27 = some (.iload_n 2, 1) by decide +kernel) rfl ?_
  refine q_iald 29 rfl (show sCode 123 28 = some (.iaload, 1) by decide +kernel) h1 ?_
  refine q_aload_n 30 rfl (show sCode 123 29 = some (.aload_n 1, 1) by decide +kernel) rfl (Nat.le_of_ble_eq_true rfl) ?_
  refine q_getR (vA 0 (a1 + 4) 6) 33 rfl (show sCode 123 30 = some (.getfield 47, 3) by decide +kernel) (show sFR (sKo 123).1 47 = some (9, 4) by decide +kernel) (by decide +kernel) (Or.inl (Or.inl rfl)) rfl ?_
  refine q_iload_n 34 rfl (show sCode 123 33 = some (.iload_n 2, 1) by decide +kernel) rfl ?_
  refine q_iald 35 rfl (show sCode 123 34 = some (.iaload, 1) by decide +kernel) h2 ?_
  refine q_isub 36 rfl (show sCode 123 35 = some (.isub, 1) by decide +kernel) h3 ?_
  refine q_aload_n 37 rfl (show sCode 123 36 = some (.aload_n 1, 1) by decide +kernel) rfl (Nat.le_of_ble_eq_true rfl) ?_
  refine q_getR (vA 0 (a1 + 6) 6) 40 rfl (show sCode 123 37 = some (.getfield 48, 3) by decide +kernel) (show sFR (sKo 123).1 48 = some (9, 6) by decide +kernel) (by decide +kernel) (Or.inl (Or.inl rfl)) rfl ?_
  refine q_iload_n 41 rfl (show sCode 123 40 = some (.iload_n 2, 1) by decide +kernel) rfl ?_
  refine q_iald 42 rfl (show sCode 123 41 = some (.iaload, 1) by decide +kernel) h4 ?_
  refine q_isub 43 rfl (show sCode 123 42 = some (.isub, 1) by decide +kernel) h5 ?_
  refine q_iconst 44 rfl (show sCode 123 43 = some (.iconst 1, 1) by decide +kernel) ⟨by decide, by decide⟩ ?_
  refine q_iadd 45 rfl (show sCode 123 44 = some (.iadd, 1) by decide +kernel) h6 ?_
  refine q_istore_n [vO 3 a0, vO 9 a1, vI x2, vI ((((M (a1 + 5) x2.toNat) - (M (a1 + 4) x2.toNat)) - (M (a1 + 6) x2.toNat)) + 1)] 46 rfl (show sCode 123 45 = some (.istore_n 3, 1) by decide +kernel) (Nat.lt_of_lt_of_le (Nat.lt_succ_self _) (Nat.le_of_ble_eq_true rfl)) rfl rfl ?_
  refine q_aload_n 47 rfl (show sCode 123 46 = some (.aload_n 0, 1) by decide +kernel) rfl (Nat.le_of_ble_eq_true rfl) ?_
  refine q_getR (vA 0 (a0 + 1) 6) 50 rfl (show sCode 123 47 = some (.getfield 17, 3) by decide +kernel) (show sFR (sKo 123).1 17 = some (3, 1) by decide +kernel) (by decide +kernel) (Or.inl (Or.inl rfl)) rfl ?_
  refine q_iload_n 51 rfl (show sCode 123 50 = some (.iload_n 2, 1) by decide +kernel) rfl ?_
  refine q_aload_n 52 rfl (show sCode 123 51 = some (.aload_n 1, 1) by decide +kernel) rfl (Nat.le_of_ble_eq_true rfl) ?_
  refine q_getR (vA 0 (a1 + 4) 6) 55 rfl (show sCode 123 52 = some (.getfield 47, 3) by decide +kernel) (show sFR (sKo 123).1 47 = some (9, 4) by decide +kernel) (by decide +kernel) (Or.inl (Or.inl rfl)) rfl ?_
  refine q_iload_n 56 rfl (show sCode 123 55 = some (.iload_n 2, 1) by decide +kernel) rfl ?_
  refine q_iald 57 rfl (show sCode 123 56 = some (.iaload, 1) by decide +kernel) h7 ?_
  refine q_iast 58 rfl (show sCode 123 57 = some (.iastore, 1) by decide +kernel) h8 ?_
  refine q_aload_n 59 rfl (show sCode 123 58 = some (.aload_n 0, 1) by decide +kernel) rfl (Nat.le_of_ble_eq_true rfl) ?_
  refine q_getR (vA 0 (a0 + 2) 6) 62 rfl (show sCode 123 59 = some (.getfield 21, 3) by decide +kernel) (show sFR (sKo 123).1 21 = some (3, 2) by decide +kernel) (by decide +kernel) (Or.inl (Or.inl rfl)) rfl ?_
  refine q_iload_n 63 rfl (show sCode 123 62 = some (.iload_n 2, 1) by decide +kernel) rfl ?_
  refine q_iconst 64 rfl (show sCode 123 63 = some (.iconst 0, 1) by decide +kernel) ⟨by decide, by decide⟩ ?_
  refine q_bipush 66 rfl (show sCode 123 64 = some (.bipush 12, 2) by decide +kernel) ⟨by decide, by decide⟩ (by decide +kernel) ?_
  refine q_iload_n 67 rfl (show sCode 123 66 = some (.iload_n 3, 1) by decide +kernel) rfl ?_
  refine q_min 70 rfl (show sCode 123 67 = some (.invokestatic 38, 3) by decide +kernel) (by decide +kernel) (Nat.le_of_ble_eq_true rfl) ?_
  refine q_max 73 rfl (show sCode 123 70 = some (.invokestatic 51, 3) by decide +kernel) (by decide +kernel) (Nat.le_of_ble_eq_true rfl) ?_
  refine q_iast 74 rfl (show sCode 123 73 = some (.iastore, 1) by decide +kernel) h9 ?_
  refine q_aload_n 75 rfl (show sCode 123 74 = some (.aload_n 0, 1) by decide +kernel) rfl (Nat.le_of_ble_eq_true rfl) ?_
  refine q_getR (vA 0 (a0 + 5) 42) 78 rfl (show sCode 123 75 = some (.getfield 31, 3) by decide +kernel) (show sFR (sKo 123).1 31 = some (3, 5) by decide +kernel) (by decide +kernel) (Or.inl (Or.inl rfl)) rfl ?_
  refine q_iload_n 79 rfl (show sCode 123 78 = some (.iload_n 2, 1) by decide +kernel) rfl ?_
  refine q_iconst 80 rfl (show sCode 123 79 = some (.iconst 1, 1) by decide +kernel) ⟨by decide, by decide⟩ ?_
  refine q_aload_n 81 rfl (show sCode 123 80 = some (.aload_n 0, 1) by decide +kernel) rfl (Nat.le_of_ble_eq_true rfl) ?_
  refine q_getR (vA 0 (a0 + 2) 6) 84 rfl (show sCode 123 81 = some (.getfield 21, 3) by decide +kernel) (show sFR (sKo 123).1 21 = some (3, 2) by decide +kernel) (by decide +kernel) (Or.inl (Or.inl rfl)) rfl ?_
  refine q_iload_n 85 rfl (show sCode 123 84 = some (.iload_n 2, 1) by decide +kernel) rfl ?_
  refine q_iald 86 rfl (show sCode 123 85 = some (.iaload, 1) by decide +kernel) h10 ?_
  refine q_ishl 87 rfl (show sCode 123 86 = some (.ishl, 1) by decide +kernel) ?_
  refine q_iconst 88 rfl (show sCode 123 87 = some (.iconst 1, 1) by decide +kernel) ⟨by decide, by decide⟩ ?_
  refine q_isub 89 rfl (show sCode 123 88 = some (.isub, 1) by decide +kernel) h11 ?_
  refine q_iast 90 rfl (show sCode 123 89 = some (.iastore, 1) by decide +kernel) h12 ?_
  refine q_iinc [vO 3 a0, vO 9 a1, vI (x2 + 1), vI ((((M (a1 + 5) x2.toNat) - (M (a1 + 4) x2.toNat)) - (M (a1 + 6) x2.toNat)) + 1)] 93 rfl (show sCode 123 90 = some (.iinc 2 1, 3) by decide +kernel) rfl rfl h13 rfl ?_
  refine q_goto 15 (by decide) (show sCode 123 93 = some (.goto (-78), 3) by decide +kernel) ?_
  refine q_forget (L' := [vO 3 a0, vO 9 a1, vI (x2 + 1), vN]) 3 rfl ?_
  exact kk
theorem b123_96 {d : Nat} {Q : Option sV → sM → sG → Prop} {M : sM} {G : sG} {a0 : Nat} {a1 : Nat}  (kk : sW (sC d) 123 Q 98 [vO 3 a0, vO 9 a1, vI 0, vN] [] M G 0 0) : sW (sC d) 123 Q 96 [vO 3 a0, vO 9 a1, vN, vN] [] M G 0 0 := by
  refine q_iconst 97 rfl (show sCode 123 96 = some (.iconst 0, 1) by decide +kernel) ⟨by decide, by decide⟩ ?_
  refine q_istore_n [vO 3 a0, vO 9 a1, vI 0, vN] 98 rfl (show sCode 123 97 = some (.istore_n 2, 1) by decide +kernel) (Nat.lt_of_lt_of_le (Nat.lt_succ_self _) (Nat.le_of_ble_eq_true rfl)) rfl rfl ?_
  exact kk
theorem b123_98 {d : Nat} {Q : Option sV → sM → sG → Prop} {M : sM} {G : sG} {a0 : Nat} {a1 : Nat} {x2 : Int}  (k1 : M a0 0 ≤ x2 → sW (sC d) 123 Q 144 [vN, vN, vN, vN] [] M G 0 0) (k2 : x2 < M a0 0 → sW (sC d) 123 Q 106 [vO 3 a0, vO 9 a1, vI x2, vN] [] M G 0 0) : sW (sC d) 123 Q 98 [vO 3 a0, vO 9 a1, vI x2, vN] [] M G 0 0 := by
  refine q_iload_n 99 rfl (show sCode 123 98 = some (.iload_n 2, 1) by decide +kernel) rfl ?_
  refine q_aload_n 100 rfl (show sCode 123 99 = some (.aload_n 0, 1) by decide +kernel) rfl (Nat.le_of_ble_eq_true rfl) ?_
  refine q_getI 103 rfl (show sCode 123 100 = some (.getfield 11, 3) by decide +kernel) (show sFR (sKo 123).1 11 = some (3, 0) by decide +kernel) (by decide +kernel) (Or.inl (Or.inl rfl)) ?_
  refine q_icmpge 144 106 rfl (by decide) (show sCode 123 103 = some (.if_icmp .ge 41, 3) by decide +kernel) ?_ ?_
  · intro q; refine q_forget (L' := [vN, vO 9 a1, vI x2, vN]) 0 rfl ?_; refine q_forget (L' := [vN, vN, vI x2, vN]) 1 rfl ?_; refine q_forget (L' := [vN, vN, vN, vN]) 2 rfl ?_; exact k1 q
  · intro q; exact k2 q
theorem b123_106 {d : Nat} {Q : Option sV → sM → sG → Prop} {M : sM} {G : sG} {a0 : Nat} {a1 : Nat} {x2 : Int} (h1 : 0 ≤ x2 ∧ x2 < 6) (h2 : sI (x2 + 1)) (kk : sW (sC d) 123 Q 117 [vO 3 a0, vO 9 a1, vI x2, vI (x2 + 1)] [] (sUpd M (a0 + 4) x2.toNat 0) G 0 0) : sW (sC d) 123 Q 106 [vO 3 a0, vO 9 a1, vI x2, vN] [] M G 0 0 := by
  refine q_aload_n 107 rfl (show sCode 123 106 = some (.aload_n 0, 1) by decide +kernel) rfl (Nat.le_of_ble_eq_true rfl) ?_
  refine q_getR (vA 3 (a0 + 4) 6) 110 rfl (show sCode 123 107 = some (.getfield 27, 3) by decide +kernel) (show sFR (sKo 123).1 27 = some (3, 4) by decide +kernel) (by decide +kernel) (Or.inl (Or.inl rfl)) rfl ?_
  refine q_iload_n 111 rfl (show sCode 123 110 = some (.iload_n 2, 1) by decide +kernel) rfl ?_
  refine q_iconst 112 rfl (show sCode 123 111 = some (.iconst 0, 1) by decide +kernel) ⟨by decide, by decide⟩ ?_
  refine q_zast 113 rfl (show sCode 123 112 = some (.bastore, 1) by decide +kernel) h1 (by decide) ?_
  refine q_iload_n 114 rfl (show sCode 123 113 = some (.iload_n 2, 1) by decide +kernel) rfl ?_
  refine q_iconst 115 rfl (show sCode 123 114 = some (.iconst 1, 1) by decide +kernel) ⟨by decide, by decide⟩ ?_
  refine q_iadd 116 rfl (show sCode 123 115 = some (.iadd, 1) by decide +kernel) h2 ?_
  refine q_istore_n [vO 3 a0, vO 9 a1, vI x2, vI (x2 + 1)] 117 rfl (show sCode 123 116 = some (.istore_n 3, 1) by decide +kernel) (Nat.lt_of_lt_of_le (Nat.lt_succ_self _) (Nat.le_of_ble_eq_true rfl)) rfl rfl ?_
  exact kk
theorem b123_117 {d : Nat} {Q : Option sV → sM → sG → Prop} {M : sM} {G : sG} {a0 : Nat} {a1 : Nat} {x2 : Int} {x3 : Int}  (k1 : M a0 0 ≤ x3 → sW (sC d) 123 Q 138 [vO 3 a0, vO 9 a1, vI x2, vN] [] M G 0 0) (k2 : x3 < M a0 0 → sW (sC d) 123 Q 125 [vO 3 a0, vO 9 a1, vI x2, vI x3] [] M G 0 0) : sW (sC d) 123 Q 117 [vO 3 a0, vO 9 a1, vI x2, vI x3] [] M G 0 0 := by
  refine q_iload_n 118 rfl (show sCode 123 117 = some (.iload_n 3, 1) by decide +kernel) rfl ?_
  refine q_aload_n 119 rfl (show sCode 123 118 = some (.aload_n 0, 1) by decide +kernel) rfl (Nat.le_of_ble_eq_true rfl) ?_
  refine q_getI 122 rfl (show sCode 123 119 = some (.getfield 11, 3) by decide +kernel) (show sFR (sKo 123).1 11 = some (3, 0) by decide +kernel) (by decide +kernel) (Or.inl (Or.inl rfl)) ?_
  refine q_icmpge 138 125 rfl (by decide) (show sCode 123 122 = some (.if_icmp .ge 16, 3) by decide +kernel) ?_ ?_
  · intro q; refine q_forget (L' := [vO 3 a0, vO 9 a1, vI x2, vN]) 3 rfl ?_; exact k1 q
  · intro q; exact k2 q
theorem b123_125 {d : Nat} {Q : Option sV → sM → sG → Prop} {M : sM} {G : sG} {a0 : Nat} {a1 : Nat} {x2 : Int} {x3 : Int}  (kk : sC d 124 [vO 3 a0, vO 9 a1, vI x2, vI x3] M G (QV (fun M1 G1 => sW (sC d) 123 Q 132 [vO 3 a0, vO 9 a1, vI x2, vI x3] [] M1 G1 0 0))) : sW (sC d) 123 Q 125 [vO 3 a0, vO 9 a1, vI x2, vI x3] [] M G 0 0 := by
  refine q_aload_n 126 rfl (show sCode 123 125 = some (.aload_n 0, 1) by decide +kernel) rfl (Nat.le_of_ble_eq_true rfl) ?_
  refine q_aload_n 127 rfl (show sCode 123 126 = some (.aload_n 1, 1) by decide +kernel) rfl (Nat.le_of_ble_eq_true rfl) ?_
  refine q_iload_n 128 rfl (show sCode 123 127 = some (.iload_n 2, 1) by decide +kernel) rfl ?_
  refine q_iload_n 129 rfl (show sCode 123 128 = some (.iload_n 3, 1) by decide +kernel) rfl ?_
  exact q_virtV [vO 9 a1, vI x2, vI x3] 132 rfl (show sCode 123 129 = some (.invokevirtual 54, 3) by decide +kernel) (show sMR (sKo 123).1 54 = some 124 by decide +kernel) (show 124 < 1000 ∧ sStat 124 = false ∧ sIni 124 = false ∧ sKo 124 = (3, 3, 0, 0, 0) by decide +kernel) rfl (Or.inl rfl) rfl (Nat.le_of_ble_eq_true rfl) rfl rfl rfl (by decide +kernel) kk
theorem b123_132 {d : Nat} {Q : Option sV → sM → sG → Prop} {M : sM} {G : sG} {a0 : Nat} {a1 : Nat} {x2 : Int} {x3 : Int} (h1 : sI (x3 + 1)) (kk : sW (sC d) 123 Q 117 [vO 3 a0, vO 9 a1, vI x2, vI (x3 + 1)] [] M G 0 0) : sW (sC d) 123 Q 132 [vO 3 a0, vO 9 a1, vI x2, vI x3] [] M G 0 0 := by
  refine q_iinc [vO 3 a0, vO 9 a1, vI x2, vI (x3 + 1)] 135 rfl (show sCode 123 132 = some (.iinc 3 1, 3) by decide +kernel) rfl rfl h1 rfl ?_
  refine q_goto 117 (by decide) (show sCode 123 135 = some (.goto (-18), 3) by decide +kernel) ?_
  exact kk
theorem b123_138 {d : Nat} {Q : Option sV → sM → sG → Prop} {M : sM} {G : sG} {a0 : Nat} {a1 : Nat} {x2 : Int} (h1 : sI (x2 + 1)) (kk : sW (sC d) 123 Q 98 [vO 3 a0, vO 9 a1, vI (x2 + 1), vN] [] M G 0 0) : sW (sC d) 123 Q 138 [vO 3 a0, vO 9 a1, vI x2, vN] [] M G 0 0 := by
  refine q_iinc [vO 3 a0, vO 9 a1, vI (x2 + 1), vN] 141 rfl (show sCode 123 138 = some (.iinc 2 1, 3) by decide +kernel) rfl rfl h1 rfl ?_
  refine q_goto 98 (by decide) (show sCode 123 141 = some (.goto (-43), 3) by decide +kernel) ?_
  exact kk
theorem b123_144 {d : Nat} {P : sM → sG → Prop} {M : sM} {G : sG}   (kk : P M G) : sW (sC d) 123 (QV P) 144 [vN, vN, vN, vN] [] M G 0 0 := by
  exact q_vret (show sCode 123 144 = some (.return_, 1) by decide +kernel) (by decide +kernel) (by decide +kernel) kk
-- 124 AfterTheLast$Planner.compare (LAfterTheLast$Told;II)V
theorem b124_0 {d : Nat} {Q : Option sV → sM → sG → Prop} {M : sM} {G : sG} {a0 : Nat} {a1 : Nat} {x2 : Int} {x3 : Int} (h1 : 0 ≤ x2 ∧ x2 < 6) (h2 : 0 ≤ x3 ∧ x3 < 6) (k1 : M (a1 + 2) x2.toNat = M (a1 + 2) x3.toNat → sW (sC d) 124 Q 34 [vO 3 a0, vO 9 a1, vI x2, vI x3, vN, vN, vN, vN] [] M G 0 0) (k2 : M (a1 + 2) x2.toNat ≠ M (a1 + 2) x3.toNat → sW (sC d) 124 Q 15 [vO 3 a0, vO 9 a1, vI x2, vI x3, vN, vN, vN, vN] [] M G 0 0) : sW (sC d) 124 Q 0 [vO 3 a0, vO 9 a1, vI x2, vI x3, vN, vN, vN, vN] [] M G 0 0 := by
  refine q_aload_n 1 rfl (show sCode 124 0 = some (.aload_n 1, 1) by decide +kernel) rfl (Nat.le_of_ble_eq_true rfl) ?_
  refine q_getR (vA 0 (a1 + 2) 6) 4 rfl (show sCode 124 1 = some (.getfield 58, 3) by decide +kernel) (show sFR (sKo 124).1 58 = some (9, 2) by decide +kernel) (by decide +kernel) (Or.inl (Or.inl rfl)) rfl ?_
  refine q_iload_n 5 rfl (show sCode 124 4 = some (.iload_n 2, 1) by decide +kernel) rfl ?_
  refine q_iald 6 rfl (show sCode 124 5 = some (.iaload, 1) by decide +kernel) h1 ?_
  refine q_aload_n 7 rfl (show sCode 124 6 = some (.aload_n 1, 1) by decide +kernel) rfl (Nat.le_of_ble_eq_true rfl) ?_
  refine q_getR (vA 0 (a1 + 2) 6) 10 rfl (show sCode 124 7 = some (.getfield 58, 3) by decide +kernel) (show sFR (sKo 124).1 58 = some (9, 2) by decide +kernel) (by decide +kernel) (Or.inl (Or.inl rfl)) rfl ?_
  refine q_iload_n 11 rfl (show sCode 124 10 = some (.iload_n 3, 1) by decide +kernel) rfl ?_
  refine q_iald 12 rfl (show sCode 124 11 = some (.iaload, 1) by decide +kernel) h2 ?_
  refine q_icmpeq 34 15 rfl (by decide) (show sCode 124 12 = some (.if_icmp .eq 22, 3) by decide +kernel) ?_ ?_
  · intro q; exact k1 q
  · intro q; exact k2 q
theorem b124_15 {d : Nat} {Q : Option sV → sM → sG → Prop} {M : sM} {G : sG} {a0 : Nat} {a1 : Nat} {x2 : Int} {x3 : Int} (h1 : 0 ≤ x2 ∧ x2 < 6) (h2 : 0 ≤ x3 ∧ x3 < 6) (k1 : M (a1 + 3) x2.toNat = M (a1 + 3) x3.toNat → sW (sC d) 124 Q 34 [vO 3 a0, vO 9 a1, vI x2, vI x3, vN, vN, vN, vN] [] M G 0 0) (k2 : M (a1 + 3) x2.toNat ≠ M (a1 + 3) x3.toNat → sW (sC d) 124 Q 30 [vO 3 a0, vO 9 a1, vI x2, vI x3, vN, vN, vN, vN] [] M G 0 0) : sW (sC d) 124 Q 15 [vO 3 a0, vO 9 a1, vI x2, vI x3, vN, vN, vN, vN] [] M G 0 0 := by
  refine q_aload_n 16 rfl (show sCode 124 15 = some (.aload_n 1, 1) by decide +kernel) rfl (Nat.le_of_ble_eq_true rfl) ?_
  refine q_getR (vA 0 (a1 + 3) 6) 19 rfl (show sCode 124 16 = some (.getfield 61, 3) by decide +kernel) (show sFR (sKo 124).1 61 = some (9, 3) by decide +kernel) (by decide +kernel) (Or.inl (Or.inl rfl)) rfl ?_
  refine q_iload_n 20 rfl (show sCode 124 19 = some (.iload_n 2, 1) by decide +kernel) rfl ?_
  refine q_iald 21 rfl (show sCode 124 20 = some (.iaload, 1) by decide +kernel) h1 ?_
  refine q_aload_n 22 rfl (show sCode 124 21 = some (.aload_n 1, 1) by decide +kernel) rfl (Nat.le_of_ble_eq_true rfl) ?_
  refine q_getR (vA 0 (a1 + 3) 6) 25 rfl (show sCode 124 22 = some (.getfield 61, 3) by decide +kernel) (show sFR (sKo 124).1 61 = some (9, 3) by decide +kernel) (by decide +kernel) (Or.inl (Or.inl rfl)) rfl ?_
  refine q_iload_n 26 rfl (show sCode 124 25 = some (.iload_n 3, 1) by decide +kernel) rfl ?_
  refine q_iald 27 rfl (show sCode 124 26 = some (.iaload, 1) by decide +kernel) h2 ?_
  refine q_icmpeq 34 30 rfl (by decide) (show sCode 124 27 = some (.if_icmp .eq 7, 3) by decide +kernel) ?_ ?_
  · intro q; exact k1 q
  · intro q; exact k2 q
theorem b124_30 {d : Nat} {Q : Option sV → sM → sG → Prop} {M : sM} {G : sG} {a0 : Nat} {a1 : Nat} {x2 : Int} {x3 : Int}  (kk : sW (sC d) 124 Q 35 [vO 3 a0, vO 9 a1, vI x2, vI x3, vN, vN, vN, vN] [vI 1] M G 0 0) : sW (sC d) 124 Q 30 [vO 3 a0, vO 9 a1, vI x2, vI x3, vN, vN, vN, vN] [] M G 0 0 := by
  refine q_iconst 31 rfl (show sCode 124 30 = some (.iconst 1, 1) by decide +kernel) ⟨by decide, by decide⟩ ?_
  refine q_goto 35 (by decide) (show sCode 124 31 = some (.goto 4, 3) by decide +kernel) ?_
  exact kk
theorem b124_34 {d : Nat} {Q : Option sV → sM → sG → Prop} {M : sM} {G : sG} {a0 : Nat} {a1 : Nat} {x2 : Int} {x3 : Int}  (kk : sW (sC d) 124 Q 35 [vO 3 a0, vO 9 a1, vI x2, vI x3, vN, vN, vN, vN] [vI 0] M G 0 0) : sW (sC d) 124 Q 34 [vO 3 a0, vO 9 a1, vI x2, vI x3, vN, vN, vN, vN] [] M G 0 0 := by
  refine q_iconst 35 rfl (show sCode 124 34 = some (.iconst 0, 1) by decide +kernel) ⟨by decide, by decide⟩ ?_
  exact kk
theorem b124_35 {d : Nat} {Q : Option sV → sM → sG → Prop} {M : sM} {G : sG} {a0 : Nat} {a1 : Nat} {x2 : Int} {x3 : Int} {s0 : Int}  (kk : sW (sC d) 124 Q 40 [vO 3 a0, vO 9 a1, vI x2, vI x3, vI s0, vI 0, vN, vN] [] M G 0 0) : sW (sC d) 124 Q 35 [vO 3 a0, vO 9 a1, vI x2, vI x3, vN, vN, vN, vN] [vI s0] M G 0 0 := by
  refine q_istore [vO 3 a0, vO 9 a1, vI x2, vI x3, vI s0, vN, vN, vN] 37 rfl (show sCode 124 35 = some (.istore 4, 2) by decide +kernel) (Nat.lt_of_lt_of_le (Nat.lt_succ_self _) (Nat.le_of_ble_eq_true rfl)) rfl rfl ?_
  refine q_iconst 38 rfl (show sCode 124 37 = some (.iconst 0, 1) by decide +kernel) ⟨by decide, by decide⟩ ?_
  refine q_istore [vO 3 a0, vO 9 a1, vI x2, vI x3, vI s0, vI 0, vN, vN] 40 rfl (show sCode 124 38 = some (.istore 5, 2) by decide +kernel) (Nat.lt_of_lt_of_le (Nat.lt_succ_self _) (Nat.le_of_ble_eq_true rfl)) rfl rfl ?_
  exact kk
theorem b124_40 {d : Nat} {Q : Option sV → sM → sG → Prop} {M : sM} {G : sG} {a0 : Nat} {a1 : Nat} {x2 : Int} {x3 : Int} {x4 : Int} {x5 : Int} (h1 : 0 ≤ x2 ∧ x2 < 6) (k1 : M (a0 + 2) x2.toNat ≤ x5 → sW (sC d) 124 Q 153 [vN, vN, vN, vN, vN, vN, vN, vN] [] M G 0 0) (k2 : x5 < M (a0 + 2) x2.toNat → sW (sC d) 124 Q 51 [vO 3 a0, vO 9 a1, vI x2, vI x3, vI x4, vI x5, vN, vN] [] M G 0 0) : sW (sC d) 124 Q 40 [vO 3 a0, vO 9 a1, vI x2, vI x3, vI x4, vI x5, vN, vN] [] M G 0 0 := by
  refine q_iload 42 rfl (show sCode 124 40 = some (.iload 5, 2) by decide +kernel) rfl ?_
  refine q_aload_n 43 rfl (show sCode 124 42 = some (.aload_n 0, 1) by decide +kernel) rfl (Nat.le_of_ble_eq_true rfl) ?_
  refine q_getR (vA 0 (a0 + 2) 6) 46 rfl (show sCode 124 43 = some (.getfield 21, 3) by decide +kernel) (show sFR (sKo 124).1 21 = some (3, 2) by decide +kernel) (by decide +kernel) (Or.inl (Or.inl rfl)) rfl ?_
  refine q_iload_n 47 rfl (show sCode 124 46 = some (.iload_n 2, 1) by decide +kernel) rfl ?_
  refine q_iald 48 rfl (show sCode 124 47 = some (.iaload, 1) by decide +kernel) h1 ?_
  refine q_icmpge 153 51 rfl (by decide) (show sCode 124 48 = some (.if_icmp .ge 105, 3) by decide +kernel) ?_ ?_
  · intro q; refine q_forget (L' := [vN, vO 9 a1, vI x2, vI x3, vI x4, vI x5, vN, vN]) 0 rfl ?_; refine q_forget (L' := [vN, vN, vI x2, vI x3, vI x4, vI x5, vN, vN]) 1 rfl ?_; refine q_forget (L' := [vN, vN, vN, vI x3, vI x4, vI x5, vN, vN]) 2 rfl ?_; refine q_forget (L' := [vN, vN, vN, vN, vI x4, vI x5, vN, vN]) 3 rfl ?_; refine q_forget (L' := [vN, vN, vN, vN, vN, vI x5, vN, vN]) 4 rfl ?_; refine q_forget (L' := [vN, vN, vN, vN, vN, vN, vN, vN]) 5 rfl ?_; exact k1 q
  · intro q; exact k2 q
theorem b124_51 {d : Nat} {Q : Option sV → sM → sG → Prop} {M : sM} {G : sG} {a0 : Nat} {a1 : Nat} {x2 : Int} {x3 : Int} {x4 : Int} {x5 : Int}  (k1 : x4 = 0 → sW (sC d) 124 Q 65 [vO 3 a0, vO 9 a1, vI x2, vI x3, vI x4, vI x5, vN, vN] [] M G 0 0) (k2 : x4 ≠ 0 → sW (sC d) 124 Q 56 [vO 3 a0, vO 9 a1, vI x2, vI x3, vI x4, vI x5, vN, vN] [] M G 0 0) : sW (sC d) 124 Q 51 [vO 3 a0, vO 9 a1, vI x2, vI x3, vI x4, vI x5, vN, vN] [] M G 0 0 := by
  refine q_iload 53 rfl (show sCode 124 51 = some (.iload 4, 2) by decide +kernel) rfl ?_
  refine q_ifeq 65 56 rfl (by decide) (show sCode 124 53 = some (.ifCond .eq 12, 3) by decide +kernel) ?_ ?_
  · intro q; exact k1 q
  · intro q; exact k2 q
theorem b124_56 {d : Nat} {Q : Option sV → sM → sG → Prop} {M : sM} {G : sG} {a0 : Nat} {a1 : Nat} {x2 : Int} {x3 : Int} {x4 : Int} {x5 : Int} (h1 : 0 ≤ x3 ∧ x3 < 42) (kk : sW (sC d) 124 Q 66 [vO 3 a0, vO 9 a1, vI x2, vI x3, vI x4, vI x5, vN, vN] [vI (M (a0 + 5) x3.toNat)] M G 0 0) : sW (sC d) 124 Q 56 [vO 3 a0, vO 9 a1, vI x2, vI x3, vI x4, vI x5, vN, vN] [] M G 0 0 := by
  refine q_aload_n 57 rfl (show sCode 124 56 = some (.aload_n 0, 1) by decide +kernel) rfl (Nat.le_of_ble_eq_true rfl) ?_
  refine q_getR (vA 0 (a0 + 5) 42) 60 rfl (show sCode 124 57 = some (.getfield 31, 3) by decide +kernel) (show sFR (sKo 124).1 31 = some (3, 5) by decide +kernel) (by decide +kernel) (Or.inl (Or.inl rfl)) rfl ?_
  refine q_iload_n 61 rfl (show sCode 124 60 = some (.iload_n 3, 1) by decide +kernel) rfl ?_
  refine q_iald 62 rfl (show sCode 124 61 = some (.iaload, 1) by decide +kernel) h1 ?_
  refine q_goto 66 (by decide) (show sCode 124 62 = some (.goto 4, 3) by decide +kernel) ?_
  exact kk
theorem b124_65 {d : Nat} {Q : Option sV → sM → sG → Prop} {M : sM} {G : sG} {a0 : Nat} {a1 : Nat} {x2 : Int} {x3 : Int} {x4 : Int} {x5 : Int}  (kk : sW (sC d) 124 Q 66 [vO 3 a0, vO 9 a1, vI x2, vI x3, vI x4, vI x5, vN, vN] [vI 0] M G 0 0) : sW (sC d) 124 Q 65 [vO 3 a0, vO 9 a1, vI x2, vI x3, vI x4, vI x5, vN, vN] [] M G 0 0 := by
  refine q_iconst 66 rfl (show sCode 124 65 = some (.iconst 0, 1) by decide +kernel) ⟨by decide, by decide⟩ ?_
  exact kk
theorem b124_66 {d : Nat} {Q : Option sV → sM → sG → Prop} {M : sM} {G : sG} {a0 : Nat} {a1 : Nat} {x2 : Int} {x3 : Int} {x4 : Int} {x5 : Int} {s0 : Int}  (kk : sW (sC d) 124 Q 71 [vO 3 a0, vO 9 a1, vI x2, vI x3, vI x4, vI x5, vI s0, vI 0] [] M G 0 0) : sW (sC d) 124 Q 66 [vO 3 a0, vO 9 a1, vI x2, vI x3, vI x4, vI x5, vN, vN] [vI s0] M G 0 0 := by
  refine q_istore [vO 3 a0, vO 9 a1, vI x2, vI x3, vI x4, vI x5, vI s0, vN] 68 rfl (show sCode 124 66 = some (.istore 6, 2) by decide +kernel) (Nat.lt_of_lt_of_le (Nat.lt_succ_self _) (Nat.le_of_ble_eq_true rfl)) rfl rfl ?_
  refine q_iconst 69 rfl (show sCode 124 68 = some (.iconst 0, 1) by decide +kernel) ⟨by decide, by decide⟩ ?_
  refine q_istore [vO 3 a0, vO 9 a1, vI x2, vI x3, vI x4, vI x5, vI s0, vI 0] 71 rfl (show sCode 124 69 = some (.istore 7, 2) by decide +kernel) (Nat.lt_of_lt_of_le (Nat.lt_succ_self _) (Nat.le_of_ble_eq_true rfl)) rfl rfl ?_
  exact kk
theorem b124_71 {d : Nat} {Q : Option sV → sM → sG → Prop} {M : sM} {G : sG} {a0 : Nat} {a1 : Nat} {x2 : Int} {x3 : Int} {x4 : Int} {x5 : Int} {x6 : Int} {x7 : Int} (h1 : 0 ≤ x3 ∧ x3 < 6) (k1 : M (a0 + 2) x3.toNat ≤ x7 → sW (sC d) 124 Q 115 [vO 3 a0, vO 9 a1, vI x2, vI x3, vI x4, vI x5, vI x6, vN] [] M G 0 0) (k2 : x7 < M (a0 + 2) x3.toNat → sW (sC d) 124 Q 82 [vO 3 a0, vO 9 a1, vI x2, vI x3, vI x4, vI x5, vI x6, vI x7] [] M G 0 0) : sW (sC d) 124 Q 71 [vO 3 a0, vO 9 a1, vI x2, vI x3, vI x4, vI x5, vI x6, vI x7] [] M G 0 0 := by
  refine q_iload 73 rfl (show sCode 124 71 = some (.iload 7, 2) by decide +kernel) rfl ?_
  refine q_aload_n 74 rfl (show sCode 124 73 = some (.aload_n 0, 1) by decide +kernel) rfl (Nat.le_of_ble_eq_true rfl) ?_
  refine q_getR (vA 0 (a0 + 2) 6) 77 rfl (show sCode 124 74 = some (.getfield 21, 3) by decide +kernel) (show sFR (sKo 124).1 21 = some (3, 2) by decide +kernel) (by decide +kernel) (Or.inl (Or.inl rfl)) rfl ?_
  refine q_iload_n 78 rfl (show sCode 124 77 = some (.iload_n 3, 1) by decide +kernel) rfl ?_
  refine q_iald 79 rfl (show sCode 124 78 = some (.iaload, 1) by decide +kernel) h1 ?_
  refine q_icmpge 115 82 rfl (by decide) (show sCode 124 79 = some (.if_icmp .ge 36, 3) by decide +kernel) ?_ ?_
  · intro q; refine q_forget (L' := [vO 3 a0, vO 9 a1, vI x2, vI x3, vI x4, vI x5, vI x6, vN]) 7 rfl ?_; exact k1 q
  · intro q; exact k2 q
theorem b124_82 {d : Nat} {Q : Option sV → sM → sG → Prop} {M : sM} {G : sG} {a0 : Nat} {a1 : Nat} {x2 : Int} {x3 : Int} {x4 : Int} {x5 : Int} {x6 : Int} {x7 : Int}  (k1 : x4 ≠ 0 → sW (sC d) 124 Q 115 [vO 3 a0, vO 9 a1, vI x2, vI x3, vI x4, vI x5, vI x6, vN] [] M G 0 0) (k2 : x4 = 0 → sW (sC d) 124 Q 87 [vO 3 a0, vO 9 a1, vI x2, vI x3, vI x4, vI x5, vI x6, vI x7] [] M G 0 0) : sW (sC d) 124 Q 82 [vO 3 a0, vO 9 a1, vI x2, vI x3, vI x4, vI x5, vI x6, vI x7] [] M G 0 0 := by
  refine q_iload 84 rfl (show sCode 124 82 = some (.iload 4, 2) by decide +kernel) rfl ?_
  refine q_ifne 115 87 rfl (by decide) (show sCode 124 84 = some (.ifCond .ne 31, 3) by decide +kernel) ?_ ?_
  · intro q; refine q_forget (L' := [vO 3 a0, vO 9 a1, vI x2, vI x3, vI x4, vI x5, vI x6, vN]) 7 rfl ?_; exact k1 q
  · intro q; exact k2 q
theorem b124_87 {d : Nat} {Q : Option sV → sM → sG → Prop} {M : sM} {G : sG} {a0 : Nat} {a1 : Nat} {x2 : Int} {x3 : Int} {x4 : Int} {x5 : Int} {x6 : Int} {x7 : Int}  (kk : sC d 125 [vO 9 a1, vI x2, vI x5, vI x3, vI x7] M G (QI (fun r M1 G1 => sW (sC d) 124 Q 97 [vO 3 a0, vO 9 a1, vI x2, vI x3, vI x4, vI x5, vI x6, vI x7] (vI r :: []) M1 G1 0 0))) : sW (sC d) 124 Q 87 [vO 3 a0, vO 9 a1, vI x2, vI x3, vI x4, vI x5, vI x6, vI x7] [] M G 0 0 := by
  refine q_aload_n 88 rfl (show sCode 124 87 = some (.aload_n 1, 1) by decide +kernel) rfl (Nat.le_of_ble_eq_true rfl) ?_
  refine q_iload_n 89 rfl (show sCode 124 88 = some (.iload_n 2, 1) by decide +kernel) rfl ?_
  refine q_iload 91 rfl (show sCode 124 89 = some (.iload 5, 2) by decide +kernel) rfl ?_
  refine q_iload_n 92 rfl (show sCode 124 91 = some (.iload_n 3, 1) by decide +kernel) rfl ?_
  refine q_iload 94 rfl (show sCode 124 92 = some (.iload 7, 2) by decide +kernel) rfl ?_
  exact q_statI [vO 9 a1, vI x2, vI x5, vI x3, vI x7] 97 rfl (show sCode 124 94 = some (.invokestatic 64, 3) by decide +kernel) (show sMR (sKo 124).1 64 = some 125 by decide +kernel) (show 125 < 1000 ∧ sStat 125 = true ∧ sKo 125 = (3, 5, 2, 0, 0) by decide +kernel) rfl rfl (Nat.le_of_ble_eq_true rfl) rfl rfl rfl (by decide +kernel) kk
theorem b124_97 {d : Nat} {Q : Option sV → sM → sG → Prop} {M : sM} {G : sG} {a0 : Nat} {a1 : Nat} {x2 : Int} {x3 : Int} {x4 : Int} {x5 : Int} {x6 : Int} {x7 : Int} {s0 : Int}  (k1 : s0 = 0 → sW (sC d) 124 Q 109 [vO 3 a0, vO 9 a1, vI x2, vI x3, vI x4, vI x5, vI x6, vI x7] [] M G 0 0) (k2 : s0 ≠ 0 → sW (sC d) 124 Q 100 [vO 3 a0, vO 9 a1, vI x2, vI x3, vI x4, vI x5, vI x6, vI x7] [] M G 0 0) : sW (sC d) 124 Q 97 [vO 3 a0, vO 9 a1, vI x2, vI x3, vI x4, vI x5, vI x6, vI x7] [vI s0] M G 0 0 := by
  refine q_ifeq 109 100 rfl (by decide) (show sCode 124 97 = some (.ifCond .eq 12, 3) by decide +kernel) ?_ ?_
  · intro q; exact k1 q
  · intro q; exact k2 q
theorem b124_100 {d : Nat} {Q : Option sV → sM → sG → Prop} {M : sM} {G : sG} {a0 : Nat} {a1 : Nat} {x2 : Int} {x3 : Int} {x4 : Int} {x5 : Int} {x6 : Int} {x7 : Int}  (kk : sW (sC d) 124 Q 109 [vO 3 a0, vO 9 a1, vI x2, vI x3, vI x4, vI x5, vI (iOr x6 (iShl 1 x7)), vI x7] [] M G 0 0) : sW (sC d) 124 Q 100 [vO 3 a0, vO 9 a1, vI x2, vI x3, vI x4, vI x5, vI x6, vI x7] [] M G 0 0 := by
  refine q_iload 102 rfl (show sCode 124 100 = some (.iload 6, 2) by decide +kernel) rfl ?_
  refine q_iconst 103 rfl (show sCode 124 102 = some (.iconst 1, 1) by decide +kernel) ⟨by decide, by decide⟩ ?_
  refine q_iload 105 rfl (show sCode 124 103 = some (.iload 7, 2) by decide +kernel) rfl ?_
  refine q_ishl 106 rfl (show sCode 124 105 = some (.ishl, 1) by decide +kernel) ?_
  refine q_ior 107 rfl (show sCode 124 106 = some (.ior, 1) by decide +kernel) ?_
  refine q_istore [vO 3 a0, vO 9 a1, vI x2, vI x3, vI x4, vI x5, vI (iOr x6 (iShl 1 x7)), vI x7] 109 rfl (show sCode 124 107 = some (.istore 6, 2) by decide +kernel) (Nat.lt_of_lt_of_le (Nat.lt_succ_self _) (Nat.le_of_ble_eq_true rfl)) rfl rfl ?_
  exact kk
theorem b124_109 {d : Nat} {Q : Option sV → sM → sG → Prop} {M : sM} {G : sG} {a0 : Nat} {a1 : Nat} {x2 : Int} {x3 : Int} {x4 : Int} {x5 : Int} {x6 : Int} {x7 : Int} (h1 : sI (x7 + 1)) (kk : sW (sC d) 124 Q 71 [vO 3 a0, vO 9 a1, vI x2, vI x3, vI x4, vI x5, vI x6, vI (x7 + 1)] [] M G 0 0) : sW (sC d) 124 Q 109 [vO 3 a0, vO 9 a1, vI x2, vI x3, vI x4, vI x5, vI x6, vI x7] [] M G 0 0 := by
  refine q_iinc [vO 3 a0, vO 9 a1, vI x2, vI x3, vI x4, vI x5, vI x6, vI (x7 + 1)] 112 rfl (show sCode 124 109 = some (.iinc 7 1, 3) by decide +kernel) rfl rfl h1 rfl ?_
  refine q_goto 71 (by decide) (show sCode 124 112 = some (.goto (-41), 3) by decide +kernel) ?_
  exact kk
theorem b124_115 {d : Nat} {Q : Option sV → sM → sG → Prop} {M : sM} {G : sG} {a0 : Nat} {a1 : Nat} {x2 : Int} {x3 : Int} {x4 : Int} {x5 : Int} {x6 : Int}  (kk : sC d 126 [vI x2, vI x5, vI x3] M G (QI (fun r M1 G1 => sW (sC d) 124 Q 126 [vO 3 a0, vO 9 a1, vI x2, vI x3, vI x4, vI x5, vI x6, vN] (vI r :: [vA 0 (a0 + 3) 432]) M1 G1 0 0))) : sW (sC d) 124 Q 115 [vO 3 a0, vO 9 a1, vI x2, vI x3, vI x4, vI x5, vI x6, vN] [] M G 0 0 := by
  refine q_aload_n 116 rfl (show sCode 124 115 = some (.aload_n 0, 1) by decide +kernel) rfl (Nat.le_of_ble_eq_true rfl) ?_
  refine q_getR (vA 0 (a0 + 3) 432) 119 rfl (show sCode 124 116 = some (.getfield 24, 3) by decide +kernel) (show sFR (sKo 124).1 24 = some (3, 3) by decide +kernel) (by decide +kernel) (Or.inl (Or.inl rfl)) rfl ?_
  refine q_iload_n 120 rfl (show sCode 124 119 = some (.iload_n 2, 1) by decide +kernel) rfl ?_
  refine q_iload 122 rfl (show sCode 124 120 = some (.iload 5, 2) by decide +kernel) rfl ?_
  refine q_iload_n 123 rfl (show sCode 124 122 = some (.iload_n 3, 1) by decide +kernel) rfl ?_
  exact q_statI [vI x2, vI x5, vI x3] 126 rfl (show sCode 124 123 = some (.invokestatic 68, 3) by decide +kernel) (show sMR (sKo 124).1 68 = some 126 by decide +kernel) (show 126 < 1000 ∧ sStat 126 = true ∧ sKo 126 = (3, 3, 1, 0, 0) by decide +kernel) rfl rfl (Nat.le_of_ble_eq_true rfl) rfl rfl rfl (by decide +kernel) kk
theorem b124_126 {d : Nat} {Q : Option sV → sM → sG → Prop} {M : sM} {G : sG} {a0 : Nat} {a1 : Nat} {x2 : Int} {x3 : Int} {x4 : Int} {x5 : Int} {x6 : Int} {s0 : Int} {sa1 : Nat} (h1 : 0 ≤ s0 ∧ s0 < 432) (h2 : 0 ≤ x3 ∧ x3 < 42) (k1 : x6 = (sUpd M sa1 s0.toNat x6) (a0 + 5) x3.toNat → sW (sC d) 124 Q 147 [vO 3 a0, vO 9 a1, vI x2, vI x3, vI x4, vI x5, vN, vN] [] (sUpd M sa1 s0.toNat x6) G 0 0) (k2 : x6 ≠ (sUpd M sa1 s0.toNat x6) (a0 + 5) x3.toNat → sW (sC d) 124 Q 140 [vO 3 a0, vO 9 a1, vI x2, vI x3, vI x4, vI x5, vN, vN] [] (sUpd M sa1 s0.toNat x6) G 0 0) : sW (sC d) 124 Q 126 [vO 3 a0, vO 9 a1, vI x2, vI x3, vI x4, vI x5, vI x6, vN] [vI s0, vA 0 sa1 432] M G 0 0 := by
  refine q_iload 128 rfl (show sCode 124 126 = some (.iload 6, 2) by decide +kernel) rfl ?_
  refine q_iast 129 rfl (show sCode 124 128 = some (.iastore, 1) by decide +kernel) h1 ?_
  refine q_iload 131 rfl (show sCode 124 129 = some (.iload 6, 2) by decide +kernel) rfl ?_
  refine q_aload_n 132 rfl (show sCode 124 131 = some (.aload_n 0, 1) by decide +kernel) rfl (Nat.le_of_ble_eq_true rfl) ?_
  refine q_getR (vA 0 (a0 + 5) 42) 135 rfl (show sCode 124 132 = some (.getfield 31, 3) by decide +kernel) (show sFR (sKo 124).1 31 = some (3, 5) by decide +kernel) (by decide +kernel) (Or.inl (Or.inl rfl)) rfl ?_
  refine q_iload_n 136 rfl (show sCode 124 135 = some (.iload_n 3, 1) by decide +kernel) rfl ?_
  refine q_iald 137 rfl (show sCode 124 136 = some (.iaload, 1) by decide +kernel) h2 ?_
  refine q_icmpeq 147 140 rfl (by decide) (show sCode 124 137 = some (.if_icmp .eq 10, 3) by decide +kernel) ?_ ?_
  · intro q; refine q_forget (L' := [vO 3 a0, vO 9 a1, vI x2, vI x3, vI x4, vI x5, vN, vN]) 6 rfl ?_; exact k1 q
  · intro q; refine q_forget (L' := [vO 3 a0, vO 9 a1, vI x2, vI x3, vI x4, vI x5, vN, vN]) 6 rfl ?_; exact k2 q
theorem b124_140 {d : Nat} {Q : Option sV → sM → sG → Prop} {M : sM} {G : sG} {a0 : Nat} {a1 : Nat} {x2 : Int} {x3 : Int} {x4 : Int} {x5 : Int} (h1 : 0 ≤ x2 ∧ x2 < 6) (kk : sW (sC d) 124 Q 147 [vO 3 a0, vO 9 a1, vI x2, vI x3, vI x4, vI x5, vN, vN] [] (sUpd M (a0 + 4) x2.toNat 1) G 0 0) : sW (sC d) 124 Q 140 [vO 3 a0, vO 9 a1, vI x2, vI x3, vI x4, vI x5, vN, vN] [] M G 0 0 := by
  refine q_aload_n 141 rfl (show sCode 124 140 = some (.aload_n 0, 1) by decide +kernel) rfl (Nat.le_of_ble_eq_true rfl) ?_
  refine q_getR (vA 3 (a0 + 4) 6) 144 rfl (show sCode 124 141 = some (.getfield 27, 3) by decide +kernel) (show sFR (sKo 124).1 27 = some (3, 4) by decide +kernel) (by decide +kernel) (Or.inl (Or.inl rfl)) rfl ?_
  refine q_iload_n 145 rfl (show sCode 124 144 = some (.iload_n 2, 1) by decide +kernel) rfl ?_
  refine q_iconst 146 rfl (show sCode 124 145 = some (.iconst 1, 1) by decide +kernel) ⟨by decide, by decide⟩ ?_
  refine q_zast 147 rfl (show sCode 124 146 = some (.bastore, 1) by decide +kernel) h1 (by decide) ?_
  exact kk
theorem b124_147 {d : Nat} {Q : Option sV → sM → sG → Prop} {M : sM} {G : sG} {a0 : Nat} {a1 : Nat} {x2 : Int} {x3 : Int} {x4 : Int} {x5 : Int} (h1 : sI (x5 + 1)) (kk : sW (sC d) 124 Q 40 [vO 3 a0, vO 9 a1, vI x2, vI x3, vI x4, vI (x5 + 1), vN, vN] [] M G 0 0) : sW (sC d) 124 Q 147 [vO 3 a0, vO 9 a1, vI x2, vI x3, vI x4, vI x5, vN, vN] [] M G 0 0 := by
  refine q_iinc [vO 3 a0, vO 9 a1, vI x2, vI x3, vI x4, vI (x5 + 1), vN, vN] 150 rfl (show sCode 124 147 = some (.iinc 5 1, 3) by decide +kernel) rfl rfl h1 rfl ?_
  refine q_goto 40 (by decide) (show sCode 124 150 = some (.goto (-110), 3) by decide +kernel) ?_
  exact kk
theorem b124_153 {d : Nat} {P : sM → sG → Prop} {M : sM} {G : sG}   (kk : P M G) : sW (sC d) 124 (QV P) 153 [vN, vN, vN, vN, vN, vN, vN, vN] [] M G 0 0 := by
  exact q_vret (show sCode 124 153 = some (.return_, 1) by decide +kernel) (by decide +kernel) (by decide +kernel) kk
-- 125 AfterTheLast$Planner.goTogether (LAfterTheLast$Told;IIII)Z
theorem b125_0 {d : Nat} {Q : Option sV → sM → sG → Prop} {M : sM} {G : sG} {a0 : Nat} {x1 : Int} {x2 : Int} {x3 : Int} {x4 : Int} (h1 : 0 ≤ x1 ∧ x1 < 6) (h2 : sI ((M (a0 + 4) x1.toNat) + x2)) (h3 : 0 ≤ x1 ∧ x1 < 6) (h4 : sI (((M (a0 + 4) x1.toNat) + x2) + (M (a0 + 6) x1.toNat))) (h5 : 0 ≤ x3 ∧ x3 < 6) (h6 : sI ((M (a0 + 4) x3.toNat) + x4)) (h7 : 0 ≤ x3 ∧ x3 < 6) (h8 : sI (((M (a0 + 4) x3.toNat) + x4) + (M (a0 + 6) x3.toNat))) (k1 : ((M (a0 + 4) x1.toNat) + x2) + (M (a0 + 6) x1.toNat) ≤ (M (a0 + 4) x3.toNat) + x4 → sW (sC d) 125 Q 57 [vO 9 a0, vI x1, vN, vI x3, vN, vI ((M (a0 + 4) x1.toNat) + x2), vI (((M (a0 + 4) x1.toNat) + x2) + (M (a0 + 6) x1.toNat)), vI ((M (a0 + 4) x3.toNat) + x4), vI (((M (a0 + 4) x3.toNat) + x4) + (M (a0 + 6) x3.toNat)), vN, vN, vN] [] M G 0 0) (k2 : (M (a0 + 4) x3.toNat) + x4 < ((M (a0 + 4) x1.toNat) + x2) + (M (a0 + 6) x1.toNat) → sW (sC d) 125 Q 50 [vO 9 a0, vI x1, vN, vI x3, vN, vI ((M (a0 + 4) x1.toNat) + x2), vI (((M (a0 + 4) x1.toNat) + x2) + (M (a0 + 6) x1.toNat)), vI ((M (a0 + 4) x3.toNat) + x4), vI (((M (a0 + 4) x3.toNat) + x4) + (M (a0 + 6) x3.toNat)), vN, vN, vN] [] M G 0 0) : sW (sC d) 125 Q 0 [vO 9 a0, vI x1, vI x2, vI x3, vI x4, vN, vN, vN, vN, vN, vN, vN] [] M G 0 0 := by
  refine q_aload_n 1 rfl (show sCode 125 0 = some (.aload_n 0, 1) by decide +kernel) rfl (Nat.le_of_ble_eq_true rfl) ?_
  refine q_getR (vA 0 (a0 + 4) 6) 4 rfl (show sCode 125 1 = some (.getfield 47, 3) by decide +kernel) (show sFR (sKo 125).1 47 = some (9, 4) by decide +kernel) (by decide +kernel) (Or.inl (Or.inl rfl)) rfl ?_
  refine q_iload_n 5 rfl (show sCode 125 4 = some (.iload_n 1, 1) by decide +kernel) rfl ?_
  refine q_iald 6 rfl (show sCode 125 5 = some (.iaload, 1) by decide +kernel) h1 ?_
  refine q_iload_n 7 rfl (show sCode 125 6 = some (.iload_n 2, 1) by decide +kernel) rfl ?_
  refine q_iadd 8 rfl (show sCode 125 7 = some (.iadd, 1) by decide +kernel) h2 ?_
  refine q_istore [vO 9 a0, vI x1, vI x2, vI x3, vI x4, vI ((M (a0 + 4) x1.toNat) + x2), vN, vN, vN, vN, vN, vN] 10 rfl (show sCode 125 8 = some (.istore 5, 2) by decide +kernel) (Nat.lt_of_lt_of_le (Nat.lt_succ_self _) (Nat.le_of_ble_eq_true rfl)) rfl rfl ?_
  refine q_iload 12 rfl (show sCode 125 10 = some (.iload 5, 2) by decide +kernel) rfl ?_
  refine q_aload_n 13 rfl (show sCode 125 12 = some (.aload_n 0, 1) by decide +kernel) rfl (Nat.le_of_ble_eq_true rfl) ?_
  refine q_getR (vA 0 (a0 + 6) 6) 16 rfl (show sCode 125 13 = some (.getfield 48, 3) by decide +kernel) (show sFR (sKo 125).1 48 = some (9, 6) by decide +kernel) (by decide +kernel) (Or.inl (Or.inl rfl)) rfl ?_
  refine q_iload_n 17 rfl (show sCode 125 16 = some (.iload_n 1, 1) by decide +kernel) rfl ?_
  refine q_iald 18 rfl (show sCode 125 17 = some (.iaload, 1) by decide +kernel) h3 ?_
  refine q_iadd 19 rfl (show sCode 125 18 = some (.iadd, 1) by decide +kernel) h4 ?_
  refine q_istore [vO 9 a0, vI x1, vI x2, vI x3, vI x4, vI ((M (a0 + 4) x1.toNat) + x2), vI (((M (a0 + 4) x1.toNat) + x2) + (M (a0 + 6) x1.toNat)), vN, vN, vN, vN, vN] 21 rfl (show sCode 125 19 = some (.istore 6, 2) by decide +kernel) (Nat.lt_of_lt_of_le (Nat.lt_succ_self _) (Nat.le_of_ble_eq_true rfl)) rfl rfl ?_
  refine q_aload_n 22 rfl (show sCode 125 21 = some (.aload_n 0, 1) by decide +kernel) rfl (Nat.le_of_ble_eq_true rfl) ?_
  refine q_getR (vA 0 (a0 + 4) 6) 25 rfl (show sCode 125 22 = some (.getfield 47, 3) by decide +kernel) (show sFR (sKo 125).1 47 = some (9, 4) by decide +kernel) (by decide +kernel) (Or.inl (Or.inl rfl)) rfl ?_
  refine q_iload_n 26 rfl (show sCode 125 25 = some (.iload_n 3, 1) by decide +kernel) rfl ?_
  refine q_iald 27 rfl (show sCode 125 26 = some (.iaload, 1) by decide +kernel) h5 ?_
  refine q_iload 29 rfl (show sCode 125 27 = some (.iload 4, 2) by decide +kernel) rfl ?_
  refine q_iadd 30 rfl (show sCode 125 29 = some (.iadd, 1) by decide +kernel) h6 ?_
  refine q_istore [vO 9 a0, vI x1, vI x2, vI x3, vI x4, vI ((M (a0 + 4) x1.toNat) + x2), vI (((M (a0 + 4) x1.toNat) + x2) + (M (a0 + 6) x1.toNat)), vI ((M (a0 + 4) x3.toNat) + x4), vN, vN, vN, vN] 32 rfl (show sCode 125 30 = some (.istore 7, 2) by decide +kernel) (Nat.lt_of_lt_of_le (Nat.lt_succ_self _) (Nat.le_of_ble_eq_true rfl)) rfl rfl ?_
  refine q_iload 34 rfl (show sCode 125 32 = some (.iload 7, 2) by decide +kernel) rfl ?_
  refine q_aload_n 35 rfl (show sCode 125 34 = some (.aload_n 0, 1) by decide +kernel) rfl (Nat.le_of_ble_eq_true rfl) ?_
  refine q_getR (vA 0 (a0 + 6) 6) 38 rfl (show sCode 125 35 = some (.getfield 48, 3) by decide +kernel) (show sFR (sKo 125).1 48 = some (9, 6) by decide +kernel) (by decide +kernel) (Or.inl (Or.inl rfl)) rfl ?_
  refine q_iload_n 39 rfl (show sCode 125 38 = some (.iload_n 3, 1) by decide +kernel) rfl ?_
  refine q_iald 40 rfl (show sCode 125 39 = some (.iaload, 1) by decide +kernel) h7 ?_
  refine q_iadd 41 rfl (show sCode 125 40 = some (.iadd, 1) by decide +kernel) h8 ?_
  refine q_istore [vO 9 a0, vI x1, vI x2, vI x3, vI x4, vI ((M (a0 + 4) x1.toNat) + x2), vI (((M (a0 + 4) x1.toNat) + x2) + (M (a0 + 6) x1.toNat)), vI ((M (a0 + 4) x3.toNat) + x4), vI (((M (a0 + 4) x3.toNat) + x4) + (M (a0 + 6) x3.toNat)), vN, vN, vN] 43 rfl (show sCode 125 41 = some (.istore 8, 2) by decide +kernel) (Nat.lt_of_lt_of_le (Nat.lt_succ_self _) (Nat.le_of_ble_eq_true rfl)) rfl rfl ?_
  refine q_iload 45 rfl (show sCode 125 43 = some (.iload 6, 2) by decide +kernel) rfl ?_
  refine q_iload 47 rfl (show sCode 125 45 = some (.iload 7, 2) by decide +kernel) rfl ?_
  refine q_icmple 57 50 rfl (by decide) (show sCode 125 47 = some (.if_icmp .le 10, 3) by decide +kernel) ?_ ?_
  · intro q; refine q_forget (L' := [vO 9 a0, vI x1, vN, vI x3, vI x4, vI ((M (a0 + 4) x1.toNat) + x2), vI (((M (a0 + 4) x1.toNat) + x2) + (M (a0 + 6) x1.toNat)), vI ((M (a0 + 4) x3.toNat) + x4), vI (((M (a0 + 4) x3.toNat) + x4) + (M (a0 + 6) x3.toNat)), vN, vN, vN]) 2 rfl ?_; refine q_forget (L' := [vO 9 a0, vI x1, vN, vI x3, vN, vI ((M (a0 + 4) x1.toNat) + x2), vI (((M (a0 + 4) x1.toNat) + x2) + (M (a0 + 6) x1.toNat)), vI ((M (a0 + 4) x3.toNat) + x4), vI (((M (a0 + 4) x3.toNat) + x4) + (M (a0 + 6) x3.toNat)), vN, vN, vN]) 4 rfl ?_; exact k1 q
  · intro q; refine q_forget (L' := [vO 9 a0, vI x1, vN, vI x3, vI x4, vI ((M (a0 + 4) x1.toNat) + x2), vI (((M (a0 + 4) x1.toNat) + x2) + (M (a0 + 6) x1.toNat)), vI ((M (a0 + 4) x3.toNat) + x4), vI (((M (a0 + 4) x3.toNat) + x4) + (M (a0 + 6) x3.toNat)), vN, vN, vN]) 2 rfl ?_; refine q_forget (L' := [vO 9 a0, vI x1, vN, vI x3, vN, vI ((M (a0 + 4) x1.toNat) + x2), vI (((M (a0 + 4) x1.toNat) + x2) + (M (a0 + 6) x1.toNat)), vI ((M (a0 + 4) x3.toNat) + x4), vI (((M (a0 + 4) x3.toNat) + x4) + (M (a0 + 6) x3.toNat)), vN, vN, vN]) 4 rfl ?_; exact k2 q
theorem b125_50 {d : Nat} {Q : Option sV → sM → sG → Prop} {M : sM} {G : sG} {a0 : Nat} {x1 : Int} {x3 : Int} {x5 : Int} {x6 : Int} {x7 : Int} {x8 : Int}  (k1 : x5 < x8 → sW (sC d) 125 Q 61 [vO 9 a0, vI x1, vN, vI x3, vN, vI x5, vI x6, vI x7, vI x8, vN, vN, vN] [] M G 0 0) (k2 : x8 ≤ x5 → sW (sC d) 125 Q 57 [vO 9 a0, vI x1, vN, vI x3, vN, vI x5, vI x6, vI x7, vI x8, vN, vN, vN] [] M G 0 0) : sW (sC d) 125 Q 50 [vO 9 a0, vI x1, vN, vI x3, vN, vI x5, vI x6, vI x7, vI x8, vN, vN, vN] [] M G 0 0 := by
  refine q_iload 52 rfl (show sCode 125 50 = some (.iload 8, 2) by decide +kernel) rfl ?_
  refine q_iload 54 rfl (show sCode 125 52 = some (.iload 5, 2) by decide +kernel) rfl ?_
  refine q_icmpgt 61 57 rfl (by decide) (show sCode 125 54 = some (.if_icmp .gt 7, 3) by decide +kernel) ?_ ?_
  · intro q; exact k1 q
  · intro q; exact k2 q
theorem b125_57 {d : Nat} {Q : Option sV → sM → sG → Prop} {M : sM} {G : sG} {a0 : Nat} {x1 : Int} {x3 : Int} {x5 : Int} {x6 : Int} {x7 : Int} {x8 : Int}  (kk : sW (sC d) 125 Q 62 [vO 9 a0, vI x1, vN, vI x3, vN, vI x5, vI x6, vI x7, vI x8, vN, vN, vN] [vI 1] M G 0 0) : sW (sC d) 125 Q 57 [vO 9 a0, vI x1, vN, vI x3, vN, vI x5, vI x6, vI x7, vI x8, vN, vN, vN] [] M G 0 0 := by
  refine q_iconst 58 rfl (show sCode 125 57 = some (.iconst 1, 1) by decide +kernel) ⟨by decide, by decide⟩ ?_
  refine q_goto 62 (by decide) (show sCode 125 58 = some (.goto 4, 3) by decide +kernel) ?_
  exact kk
theorem b125_61 {d : Nat} {Q : Option sV → sM → sG → Prop} {M : sM} {G : sG} {a0 : Nat} {x1 : Int} {x3 : Int} {x5 : Int} {x6 : Int} {x7 : Int} {x8 : Int}  (kk : sW (sC d) 125 Q 62 [vO 9 a0, vI x1, vN, vI x3, vN, vI x5, vI x6, vI x7, vI x8, vN, vN, vN] [vI 0] M G 0 0) : sW (sC d) 125 Q 61 [vO 9 a0, vI x1, vN, vI x3, vN, vI x5, vI x6, vI x7, vI x8, vN, vN, vN] [] M G 0 0 := by
  refine q_iconst 62 rfl (show sCode 125 61 = some (.iconst 0, 1) by decide +kernel) ⟨by decide, by decide⟩ ?_
  exact kk
theorem b125_62 {d : Nat} {Q : Option sV → sM → sG → Prop} {M : sM} {G : sG} {a0 : Nat} {x1 : Int} {x3 : Int} {x5 : Int} {x6 : Int} {x7 : Int} {x8 : Int} {s0 : Int}  (k1 : s0 = 0 → sW (sC d) 125 Q 71 [vO 9 a0, vI x1, vN, vI x3, vN, vI x5, vI x6, vI x7, vI x8, vN, vN, vN] [] M G 0 0) (k2 : s0 ≠ 0 → sW (sC d) 125 Q 69 [vN, vN, vN, vN, vN, vN, vN, vN, vN, vN, vN, vN] [] M G 0 0) : sW (sC d) 125 Q 62 [vO 9 a0, vI x1, vN, vI x3, vN, vI x5, vI x6, vI x7, vI x8, vN, vN, vN] [vI s0] M G 0 0 := by
  refine q_istore [vO 9 a0, vI x1, vN, vI x3, vN, vI x5, vI x6, vI x7, vI x8, vI s0, vN, vN] 64 rfl (show sCode 125 62 = some (.istore 9, 2) by decide +kernel) (Nat.lt_of_lt_of_le (Nat.lt_succ_self _) (Nat.le_of_ble_eq_true rfl)) rfl rfl ?_
  refine q_iload 66 rfl (show sCode 125 64 = some (.iload 9, 2) by decide +kernel) rfl ?_
  refine q_ifeq 71 69 rfl (by decide) (show sCode 125 66 = some (.ifCond .eq 5, 3) by decide +kernel) ?_ ?_
  · intro q; refine q_forget (L' := [vO 9 a0, vI x1, vN, vI x3, vN, vI x5, vI x6, vI x7, vI x8, vN, vN, vN]) 9 rfl ?_; exact k1 q
  · intro q; refine q_forget (L' := [vN, vI x1, vN, vI x3, vN, vI x5, vI x6, vI x7, vI x8, vI s0, vN, vN]) 0 rfl ?_; refine q_forget (L' := [vN, vN, vN, vI x3, vN, vI x5, vI x6, vI x7, vI x8, vI s0, vN, vN]) 1 rfl ?_; refine q_forget (L' := [vN, vN, vN, vN, vN, vI x5, vI x6, vI x7, vI x8, vI s0, vN, vN]) 3 rfl ?_; refine q_forget (L' := [vN, vN, vN, vN, vN, vN, vI x6, vI x7, vI x8, vI s0, vN, vN]) 5 rfl ?_; refine q_forget (L' := [vN, vN, vN, vN, vN, vN, vN, vI x7, vI x8, vI s0, vN, vN]) 6 rfl ?_; refine q_forget (L' := [vN, vN, vN, vN, vN, vN, vN, vN, vI x8, vI s0, vN, vN]) 7 rfl ?_; refine q_forget (L' := [vN, vN, vN, vN, vN, vN, vN, vN, vN, vI s0, vN, vN]) 8 rfl ?_; refine q_forget (L' := [vN, vN, vN, vN, vN, vN, vN, vN, vN, vN, vN, vN]) 9 rfl ?_; exact k2 q
theorem b125_69 {d : Nat} {P : Int → sM → sG → Prop} {M : sM} {G : sG}   (kk : P 1 M G) : sW (sC d) 125 (QI P) 69 [vN, vN, vN, vN, vN, vN, vN, vN, vN, vN, vN, vN] [] M G 0 0 := by
  refine q_iconst 70 rfl (show sCode 125 69 = some (.iconst 1, 1) by decide +kernel) ⟨by decide, by decide⟩ ?_
  exact q_zret (show sCode 125 70 = some (.ireturn, 1) by decide +kernel) (by decide +kernel) (by decide) (by decide +kernel) kk
theorem b125_71 {d : Nat} {Q : Option sV → sM → sG → Prop} {M : sM} {G : sG} {a0 : Nat} {x1 : Int} {x3 : Int} {x5 : Int} {x6 : Int} {x7 : Int} {x8 : Int} (h1 : 0 ≤ x1 ∧ x1 < 6) (h2 : 0 ≤ x3 ∧ x3 < 6) (k1 : M (a0 + 2) x1.toNat ≠ M (a0 + 2) x3.toNat → sW (sC d) 125 Q 88 [vN, vN, vN, vN, vN, vI x5, vI x6, vI x7, vI x8, vN, vN, vN] [] M G 0 0) (k2 : M (a0 + 2) x1.toNat = M (a0 + 2) x3.toNat → sW (sC d) 125 Q 86 [vN, vN, vN, vN, vN, vN, vN, vN, vN, vN, vN, vN] [] M G 0 0) : sW (sC d) 125 Q 71 [vO 9 a0, vI x1, vN, vI x3, vN, vI x5, vI x6, vI x7, vI x8, vN, vN, vN] [] M G 0 0 := by
  refine q_aload_n 72 rfl (show sCode 125 71 = some (.aload_n 0, 1) by decide +kernel) rfl (Nat.le_of_ble_eq_true rfl) ?_
  refine q_getR (vA 0 (a0 + 2) 6) 75 rfl (show sCode 125 72 = some (.getfield 58, 3) by decide +kernel) (show sFR (sKo 125).1 58 = some (9, 2) by decide +kernel) (by decide +kernel) (Or.inl (Or.inl rfl)) rfl ?_
  refine q_iload_n 76 rfl (show sCode 125 75 = some (.iload_n 1, 1) by decide +kernel) rfl ?_
  refine q_iald 77 rfl (show sCode 125 76 = some (.iaload, 1) by decide +kernel) h1 ?_
  refine q_aload_n 78 rfl (show sCode 125 77 = some (.aload_n 0, 1) by decide +kernel) rfl (Nat.le_of_ble_eq_true rfl) ?_
  refine q_getR (vA 0 (a0 + 2) 6) 81 rfl (show sCode 125 78 = some (.getfield 58, 3) by decide +kernel) (show sFR (sKo 125).1 58 = some (9, 2) by decide +kernel) (by decide +kernel) (Or.inl (Or.inl rfl)) rfl ?_
  refine q_iload_n 82 rfl (show sCode 125 81 = some (.iload_n 3, 1) by decide +kernel) rfl ?_
  refine q_iald 83 rfl (show sCode 125 82 = some (.iaload, 1) by decide +kernel) h2 ?_
  refine q_icmpne 88 86 rfl (by decide) (show sCode 125 83 = some (.if_icmp .ne 5, 3) by decide +kernel) ?_ ?_
  · intro q; refine q_forget (L' := [vN, vI x1, vN, vI x3, vN, vI x5, vI x6, vI x7, vI x8, vN, vN, vN]) 0 rfl ?_; refine q_forget (L' := [vN, vN, vN, vI x3, vN, vI x5, vI x6, vI x7, vI x8, vN, vN, vN]) 1 rfl ?_; refine q_forget (L' := [vN, vN, vN, vN, vN, vI x5, vI x6, vI x7, vI x8, vN, vN, vN]) 3 rfl ?_; exact k1 q
  · intro q; refine q_forget (L' := [vN, vI x1, vN, vI x3, vN, vI x5, vI x6, vI x7, vI x8, vN, vN, vN]) 0 rfl ?_; refine q_forget (L' := [vN, vN, vN, vI x3, vN, vI x5, vI x6, vI x7, vI x8, vN, vN, vN]) 1 rfl ?_; refine q_forget (L' := [vN, vN, vN, vN, vN, vI x5, vI x6, vI x7, vI x8, vN, vN, vN]) 3 rfl ?_; refine q_forget (L' := [vN, vN, vN, vN, vN, vN, vI x6, vI x7, vI x8, vN, vN, vN]) 5 rfl ?_; refine q_forget (L' := [vN, vN, vN, vN, vN, vN, vN, vI x7, vI x8, vN, vN, vN]) 6 rfl ?_; refine q_forget (L' := [vN, vN, vN, vN, vN, vN, vN, vN, vI x8, vN, vN, vN]) 7 rfl ?_; refine q_forget (L' := [vN, vN, vN, vN, vN, vN, vN, vN, vN, vN, vN, vN]) 8 rfl ?_; exact k2 q
theorem b125_86 {d : Nat} {P : Int → sM → sG → Prop} {M : sM} {G : sG}   (kk : P 0 M G) : sW (sC d) 125 (QI P) 86 [vN, vN, vN, vN, vN, vN, vN, vN, vN, vN, vN, vN] [] M G 0 0 := by
  refine q_iconst 87 rfl (show sCode 125 86 = some (.iconst 0, 1) by decide +kernel) ⟨by decide, by decide⟩ ?_
  exact q_zret (show sCode 125 87 = some (.ireturn, 1) by decide +kernel) (by decide +kernel) (by decide) (by decide +kernel) kk
theorem b125_88 {d : Nat} {Q : Option sV → sM → sG → Prop} {M : sM} {G : sG} {x5 : Int} {x6 : Int} {x7 : Int} {x8 : Int}  (k1 : x7 < x5 → sW (sC d) 125 Q 106 [vN, vN, vN, vN, vN, vI x5, vI x6, vI x7, vI x8, vN, vN, vN] [] M G 0 0) (k2 : x5 ≤ x7 → sW (sC d) 125 Q 95 [vN, vN, vN, vN, vN, vI x5, vI x6, vI x7, vI x8, vN, vN, vN] [] M G 0 0) : sW (sC d) 125 Q 88 [vN, vN, vN, vN, vN, vI x5, vI x6, vI x7, vI x8, vN, vN, vN] [] M G 0 0 := by
  refine q_iload 90 rfl (show sCode 125 88 = some (.iload 5, 2) by decide +kernel) rfl ?_
  refine q_iload 92 rfl (show sCode 125 90 = some (.iload 7, 2) by decide +kernel) rfl ?_
  refine q_icmpgt 106 95 rfl (by decide) (show sCode 125 92 = some (.if_icmp .gt 14, 3) by decide +kernel) ?_ ?_
  · intro q; exact k1 q
  · intro q; exact k2 q
theorem b125_95 {d : Nat} {Q : Option sV → sM → sG → Prop} {M : sM} {G : sG} {x5 : Int} {x6 : Int} {x7 : Int} {x8 : Int}  (k1 : x6 < x8 → sW (sC d) 125 Q 106 [vN, vN, vN, vN, vN, vI x5, vI x6, vI x7, vI x8, vN, vN, vN] [] M G 0 0) (k2 : x8 ≤ x6 → sW (sC d) 125 Q 102 [vN, vN, vN, vN, vN, vI x5, vI x6, vI x7, vI x8, vN, vN, vN] [] M G 0 0) : sW (sC d) 125 Q 95 [vN, vN, vN, vN, vN, vI x5, vI x6, vI x7, vI x8, vN, vN, vN] [] M G 0 0 := by
  refine q_iload 97 rfl (show sCode 125 95 = some (.iload 8, 2) by decide +kernel) rfl ?_
  refine q_iload 99 rfl (show sCode 125 97 = some (.iload 6, 2) by decide +kernel) rfl ?_
  refine q_icmpgt 106 102 rfl (by decide) (show sCode 125 99 = some (.if_icmp .gt 7, 3) by decide +kernel) ?_ ?_
  · intro q; exact k1 q
  · intro q; exact k2 q
theorem b125_102 {d : Nat} {Q : Option sV → sM → sG → Prop} {M : sM} {G : sG} {x5 : Int} {x6 : Int} {x7 : Int} {x8 : Int}  (kk : sW (sC d) 125 Q 107 [vN, vN, vN, vN, vN, vI x5, vI x6, vI x7, vI x8, vN, vN, vN] [vI 1] M G 0 0) : sW (sC d) 125 Q 102 [vN, vN, vN, vN, vN, vI x5, vI x6, vI x7, vI x8, vN, vN, vN] [] M G 0 0 := by
  refine q_iconst 103 rfl (show sCode 125 102 = some (.iconst 1, 1) by decide +kernel) ⟨by decide, by decide⟩ ?_
  refine q_goto 107 (by decide) (show sCode 125 103 = some (.goto 4, 3) by decide +kernel) ?_
  exact kk
theorem b125_106 {d : Nat} {Q : Option sV → sM → sG → Prop} {M : sM} {G : sG} {x5 : Int} {x6 : Int} {x7 : Int} {x8 : Int}  (kk : sW (sC d) 125 Q 107 [vN, vN, vN, vN, vN, vI x5, vI x6, vI x7, vI x8, vN, vN, vN] [vI 0] M G 0 0) : sW (sC d) 125 Q 106 [vN, vN, vN, vN, vN, vI x5, vI x6, vI x7, vI x8, vN, vN, vN] [] M G 0 0 := by
  refine q_iconst 107 rfl (show sCode 125 106 = some (.iconst 0, 1) by decide +kernel) ⟨by decide, by decide⟩ ?_
  exact kk
theorem b125_107 {d : Nat} {Q : Option sV → sM → sG → Prop} {M : sM} {G : sG} {x5 : Int} {x6 : Int} {x7 : Int} {x8 : Int} {s0 : Int}  (k1 : x5 < x7 → sW (sC d) 125 Q 127 [vN, vN, vN, vN, vN, vN, vN, vN, vN, vN, vI s0, vN] [] M G 0 0) (k2 : x7 ≤ x5 → sW (sC d) 125 Q 116 [vN, vN, vN, vN, vN, vN, vI x6, vN, vI x8, vN, vI s0, vN] [] M G 0 0) : sW (sC d) 125 Q 107 [vN, vN, vN, vN, vN, vI x5, vI x6, vI x7, vI x8, vN, vN, vN] [vI s0] M G 0 0 := by
  refine q_istore [vN, vN, vN, vN, vN, vI x5, vI x6, vI x7, vI x8, vN, vI s0, vN] 109 rfl (show sCode 125 107 = some (.istore 10, 2) by decide +kernel) (Nat.lt_of_lt_of_le (Nat.lt_succ_self _) (Nat.le_of_ble_eq_true rfl)) rfl rfl ?_
  refine q_iload 111 rfl (show sCode 125 109 = some (.iload 7, 2) by decide +kernel) rfl ?_
  refine q_iload 113 rfl (show sCode 125 111 = some (.iload 5, 2) by decide +kernel) rfl ?_
  refine q_icmpgt 127 116 rfl (by decide) (show sCode 125 113 = some (.if_icmp .gt 14, 3) by decide +kernel) ?_ ?_
  · intro q; refine q_forget (L' := [vN, vN, vN, vN, vN, vN, vI x6, vI x7, vI x8, vN, vI s0, vN]) 5 rfl ?_; refine q_forget (L' := [vN, vN, vN, vN, vN, vN, vN, vI x7, vI x8, vN, vI s0, vN]) 6 rfl ?_; refine q_forget (L' := [vN, vN, vN, vN, vN, vN, vN, vN, vI x8, vN, vI s0, vN]) 7 rfl ?_; refine q_forget (L' := [vN, vN, vN, vN, vN, vN, vN, vN, vN, vN, vI s0, vN]) 8 rfl ?_; exact k1 q
  · intro q; refine q_forget (L' := [vN, vN, vN, vN, vN, vN, vI x6, vI x7, vI x8, vN, vI s0, vN]) 5 rfl ?_; refine q_forget (L' := [vN, vN, vN, vN, vN, vN, vI x6, vN, vI x8, vN, vI s0, vN]) 7 rfl ?_; exact k2 q
theorem b125_116 {d : Nat} {Q : Option sV → sM → sG → Prop} {M : sM} {G : sG} {x6 : Int} {x8 : Int} {x10 : Int}  (k1 : x8 < x6 → sW (sC d) 125 Q 127 [vN, vN, vN, vN, vN, vN, vN, vN, vN, vN, vI x10, vN] [] M G 0 0) (k2 : x6 ≤ x8 → sW (sC d) 125 Q 123 [vN, vN, vN, vN, vN, vN, vN, vN, vN, vN, vI x10, vN] [] M G 0 0) : sW (sC d) 125 Q 116 [vN, vN, vN, vN, vN, vN, vI x6, vN, vI x8, vN, vI x10, vN] [] M G 0 0 := by
  refine q_iload 118 rfl (show sCode 125 116 = some (.iload 6, 2) by decide +kernel) rfl ?_
  refine q_iload 120 rfl (show sCode 125 118 = some (.iload 8, 2) by decide +kernel) rfl ?_
  refine q_icmpgt 127 123 rfl (by decide) (show sCode 125 120 = some (.if_icmp .gt 7, 3) by decide +kernel) ?_ ?_
  · intro q; refine q_forget (L' := [vN, vN, vN, vN, vN, vN, vN, vN, vI x8, vN, vI x10, vN]) 6 rfl ?_; refine q_forget (L' := [vN, vN, vN, vN, vN, vN, vN, vN, vN, vN, vI x10, vN]) 8 rfl ?_; exact k1 q
  · intro q; refine q_forget (L' := [vN, vN, vN, vN, vN, vN, vN, vN, vI x8, vN, vI x10, vN]) 6 rfl ?_; refine q_forget (L' := [vN, vN, vN, vN, vN, vN, vN, vN, vN, vN, vI x10, vN]) 8 rfl ?_; exact k2 q
theorem b125_123 {d : Nat} {Q : Option sV → sM → sG → Prop} {M : sM} {G : sG} {x10 : Int}  (kk : sW (sC d) 125 Q 128 [vN, vN, vN, vN, vN, vN, vN, vN, vN, vN, vI x10, vN] [vI 1] M G 0 0) : sW (sC d) 125 Q 123 [vN, vN, vN, vN, vN, vN, vN, vN, vN, vN, vI x10, vN] [] M G 0 0 := by
  refine q_iconst 124 rfl (show sCode 125 123 = some (.iconst 1, 1) by decide +kernel) ⟨by decide, by decide⟩ ?_
  refine q_goto 128 (by decide) (show sCode 125 124 = some (.goto 4, 3) by decide +kernel) ?_
  exact kk
theorem b125_127 {d : Nat} {Q : Option sV → sM → sG → Prop} {M : sM} {G : sG} {x10 : Int}  (kk : sW (sC d) 125 Q 128 [vN, vN, vN, vN, vN, vN, vN, vN, vN, vN, vI x10, vN] [vI 0] M G 0 0) : sW (sC d) 125 Q 127 [vN, vN, vN, vN, vN, vN, vN, vN, vN, vN, vI x10, vN] [] M G 0 0 := by
  refine q_iconst 128 rfl (show sCode 125 127 = some (.iconst 0, 1) by decide +kernel) ⟨by decide, by decide⟩ ?_
  exact kk
theorem b125_128 {d : Nat} {Q : Option sV → sM → sG → Prop} {M : sM} {G : sG} {x10 : Int} {s0 : Int}  (k1 : x10 ≠ 0 → sW (sC d) 125 Q 140 [vN, vN, vN, vN, vN, vN, vN, vN, vN, vN, vN, vN] [] M G 0 0) (k2 : x10 = 0 → sW (sC d) 125 Q 135 [vN, vN, vN, vN, vN, vN, vN, vN, vN, vN, vN, vI s0] [] M G 0 0) : sW (sC d) 125 Q 128 [vN, vN, vN, vN, vN, vN, vN, vN, vN, vN, vI x10, vN] [vI s0] M G 0 0 := by
  refine q_istore [vN, vN, vN, vN, vN, vN, vN, vN, vN, vN, vI x10, vI s0] 130 rfl (show sCode 125 128 = some (.istore 11, 2) by decide +kernel) (Nat.lt_of_lt_of_le (Nat.lt_succ_self _) (Nat.le_of_ble_eq_true rfl)) rfl rfl ?_
  refine q_iload 132 rfl (show sCode 125 130 = some (.iload 10, 2) by decide +kernel) rfl ?_
  refine q_ifne 140 135 rfl (by decide) (show sCode 125 132 = some (.ifCond .ne 8, 3) by decide +kernel) ?_ ?_
  · intro q; refine q_forget (L' := [vN, vN, vN, vN, vN, vN, vN, vN, vN, vN, vN, vI s0]) 10 rfl ?_; refine q_forget (L' := [vN, vN, vN, vN, vN, vN, vN, vN, vN, vN, vN, vN]) 11 rfl ?_; exact k1 q
  · intro q; refine q_forget (L' := [vN, vN, vN, vN, vN, vN, vN, vN, vN, vN, vN, vI s0]) 10 rfl ?_; exact k2 q
theorem b125_135 {d : Nat} {Q : Option sV → sM → sG → Prop} {M : sM} {G : sG} {x11 : Int}  (k1 : x11 = 0 → sW (sC d) 125 Q 144 [vN, vN, vN, vN, vN, vN, vN, vN, vN, vN, vN, vN] [] M G 0 0) (k2 : x11 ≠ 0 → sW (sC d) 125 Q 140 [vN, vN, vN, vN, vN, vN, vN, vN, vN, vN, vN, vN] [] M G 0 0) : sW (sC d) 125 Q 135 [vN, vN, vN, vN, vN, vN, vN, vN, vN, vN, vN, vI x11] [] M G 0 0 := by
  refine q_iload 137 rfl (show sCode 125 135 = some (.iload 11, 2) by decide +kernel) rfl ?_
  refine q_ifeq 144 140 rfl (by decide) (show sCode 125 137 = some (.ifCond .eq 7, 3) by decide +kernel) ?_ ?_
  · intro q; refine q_forget (L' := [vN, vN, vN, vN, vN, vN, vN, vN, vN, vN, vN, vN]) 11 rfl ?_; exact k1 q
  · intro q; refine q_forget (L' := [vN, vN, vN, vN, vN, vN, vN, vN, vN, vN, vN, vN]) 11 rfl ?_; exact k2 q
theorem b125_140 {d : Nat} {Q : Option sV → sM → sG → Prop} {M : sM} {G : sG}   (kk : sW (sC d) 125 Q 145 [vN, vN, vN, vN, vN, vN, vN, vN, vN, vN, vN, vN] [vI 1] M G 0 0) : sW (sC d) 125 Q 140 [vN, vN, vN, vN, vN, vN, vN, vN, vN, vN, vN, vN] [] M G 0 0 := by
  refine q_iconst 141 rfl (show sCode 125 140 = some (.iconst 1, 1) by decide +kernel) ⟨by decide, by decide⟩ ?_
  refine q_goto 145 (by decide) (show sCode 125 141 = some (.goto 4, 3) by decide +kernel) ?_
  exact kk
theorem b125_144 {d : Nat} {Q : Option sV → sM → sG → Prop} {M : sM} {G : sG}   (kk : sW (sC d) 125 Q 145 [vN, vN, vN, vN, vN, vN, vN, vN, vN, vN, vN, vN] [vI 0] M G 0 0) : sW (sC d) 125 Q 144 [vN, vN, vN, vN, vN, vN, vN, vN, vN, vN, vN, vN] [] M G 0 0 := by
  refine q_iconst 145 rfl (show sCode 125 144 = some (.iconst 0, 1) by decide +kernel) ⟨by decide, by decide⟩ ?_
  exact kk
theorem b125_145 {d : Nat} {P : Int → sM → sG → Prop} {M : sM} {G : sG} {s0 : Int}  (h01 : s0 = 0 ∨ s0 = 1) (kk : P s0 M G) : sW (sC d) 125 (QI P) 145 [vN, vN, vN, vN, vN, vN, vN, vN, vN, vN, vN, vN] [vI s0] M G 0 0 := by
  exact q_zret (show sCode 125 145 = some (.ireturn, 1) by decide +kernel) (by decide +kernel) h01 (by decide +kernel) kk
-- 126 AfterTheLast$Planner.place (III)I
theorem b126_0 {d : Nat} {P : Int → sM → sG → Prop} {M : sM} {G : sG} {x0 : Int} {x1 : Int} {x2 : Int} (h1 : sI (x0 * 12)) (h2 : sI ((x0 * 12) + x1)) (h3 : sI (((x0 * 12) + x1) * 6)) (h4 : sI ((((x0 * 12) + x1) * 6) + x2)) (kk : P ((((x0 * 12) + x1) * 6) + x2) M G) : sW (sC d) 126 (QI P) 0 [vI x0, vI x1, vI x2] [] M G 0 0 := by
  refine q_iload_n 1 rfl (show sCode 126 0 = some (.iload_n 0, 1) by decide +kernel) rfl ?_
  refine q_bipush 3 rfl (show sCode 126 1 = some (.bipush 12, 2) by decide +kernel) ⟨by decide, by decide⟩ (by decide +kernel) ?_
  refine q_imul 4 rfl (show sCode 126 3 = some (.imul, 1) by decide +kernel) h1 ?_
  refine q_iload_n 5 rfl (show sCode 126 4 = some (.iload_n 1, 1) by decide +kernel) rfl ?_
  refine q_iadd 6 rfl (show sCode 126 5 = some (.iadd, 1) by decide +kernel) h2 ?_
  refine q_bipush 8 rfl (show sCode 126 6 = some (.bipush 6, 2) by decide +kernel) ⟨by decide, by decide⟩ (by decide +kernel) ?_
  refine q_imul 9 rfl (show sCode 126 8 = some (.imul, 1) by decide +kernel) h3 ?_
  refine q_iload_n 10 rfl (show sCode 126 9 = some (.iload_n 2, 1) by decide +kernel) rfl ?_
  refine q_iadd 11 rfl (show sCode 126 10 = some (.iadd, 1) by decide +kernel) h4 ?_
  exact q_iret (show sCode 126 11 = some (.ireturn, 1) by decide +kernel) (by decide +kernel) (by decide +kernel) kk
-- 127 AfterTheLast$Planner.howMany ()I
theorem b127_0 {d : Nat} {Q : Option sV → sM → sG → Prop} {M : sM} {G : sG} {a0 : Nat}  (kk : sC d 128 [vO 3 a0, vI 0] M G (QI (fun r M1 G1 => sW (sC d) 127 Q 7 [vN] (vI r :: [vI 1000000]) M1 G1 0 0))) : sW (sC d) 127 Q 0 [vO 3 a0] [] M G 0 0 := by
  refine q_ldcI 2 rfl (show sCode 127 0 = some (.ldc 83, 2) by decide +kernel) (show sIR (sKo 127).1 83 = some 1000000 by decide +kernel) ⟨by decide, by decide⟩ ?_
  refine q_aload_n 3 rfl (show sCode 127 2 = some (.aload_n 0, 1) by decide +kernel) rfl (Nat.le_of_ble_eq_true rfl) ?_
  refine q_iconst 4 rfl (show sCode 127 3 = some (.iconst 0, 1) by decide +kernel) ⟨by decide, by decide⟩ ?_
  refine q_forget (L' := [vN]) 0 rfl ?_
  exact q_statI [vO 3 a0, vI 0] 7 rfl (show sCode 127 4 = some (.invokestatic 84, 3) by decide +kernel) (show sMR (sKo 127).1 84 = some 128 by decide +kernel) (show 128 < 1000 ∧ sStat 128 = true ∧ sKo 128 = (3, 2, 1, 0, 0) by decide +kernel) rfl rfl (Nat.le_of_ble_eq_true rfl) rfl rfl rfl (by decide +kernel) kk
theorem b127_7 {d : Nat} {P : Int → sM → sG → Prop} {M : sM} {G : sG} {s0 : Int} {s1 : Int}  (kk : P (if s0 < s1 then s0 else s1) M G) : sW (sC d) 127 (QI P) 7 [vN] [vI s0, vI s1] M G 0 0 := by
  refine q_min 10 rfl (show sCode 127 7 = some (.invokestatic 38, 3) by decide +kernel) (by decide +kernel) (Nat.le_of_ble_eq_true rfl) ?_
  exact q_iret (show sCode 127 10 = some (.ireturn, 1) by decide +kernel) (by decide +kernel) (by decide +kernel) kk
-- 128 AfterTheLast$Planner.countFrom (LAfterTheLast$Planner;I)I
theorem b128_0 {d : Nat} {Q : Option sV → sM → sG → Prop} {M : sM} {G : sG} {a0 : Nat} {x1 : Int}  (k1 : x1 < M a0 0 → sW (sC d) 128 Q 10 [vO 3 a0, vI x1, vN, vN] [] M G 0 0) (k2 : M a0 0 ≤ x1 → sW (sC d) 128 Q 8 [vN, vN, vN, vN] [] M G 0 0) : sW (sC d) 128 Q 0 [vO 3 a0, vI x1, vN, vN] [] M G 0 0 := by
  refine q_iload_n 1 rfl (show sCode 128 0 = some (.iload_n 1, 1) by decide +kernel) rfl ?_
  refine q_aload_n 2 rfl (show sCode 128 1 = some (.aload_n 0, 1) by decide +kernel) rfl (Nat.le_of_ble_eq_true rfl) ?_
  refine q_getI 5 rfl (show sCode 128 2 = some (.getfield 11, 3) by decide +kernel) (show sFR (sKo 128).1 11 = some (3, 0) by decide +kernel) (by decide +kernel) (Or.inl (Or.inl rfl)) ?_
  refine q_icmplt 10 8 rfl (by decide) (show sCode 128 5 = some (.if_icmp .lt 5, 3) by decide +kernel) ?_ ?_
  · intro q; exact k1 q
  · intro q; refine q_forget (L' := [vN, vI x1, vN, vN]) 0 rfl ?_; refine q_forget (L' := [vN, vN, vN, vN]) 1 rfl ?_; exact k2 q
theorem b128_8 {d : Nat} {P : Int → sM → sG → Prop} {M : sM} {G : sG}   (kk : P 1 M G) : sW (sC d) 128 (QI P) 8 [vN, vN, vN, vN] [] M G 0 0 := by
  refine q_iconst 9 rfl (show sCode 128 8 = some (.iconst 1, 1) by decide +kernel) ⟨by decide, by decide⟩ ?_
  exact q_iret (show sCode 128 9 = some (.ireturn, 1) by decide +kernel) (by decide +kernel) (by decide +kernel) kk
theorem b128_10 {d : Nat} {Q : Option sV → sM → sG → Prop} {M : sM} {G : sG} {a0 : Nat} {x1 : Int} (h1 : 0 ≤ x1 ∧ x1 < 6) (k1 : M (a0 + 4) x1.toNat ≠ 0 → sW (sC d) 128 Q 61 [vO 3 a0, vI x1, vN, vN] [] M G 0 0) (k2 : M (a0 + 4) x1.toNat = 0 → sW (sC d) 128 Q 19 [vO 3 a0, vI x1, vN, vN] [] M G 0 0) : sW (sC d) 128 Q 10 [vO 3 a0, vI x1, vN, vN] [] M G 0 0 := by
  refine q_aload_n 11 rfl (show sCode 128 10 = some (.aload_n 0, 1) by decide +kernel) rfl (Nat.le_of_ble_eq_true rfl) ?_
  refine q_getR (vA 3 (a0 + 4) 6) 14 rfl (show sCode 128 11 = some (.getfield 27, 3) by decide +kernel) (show sFR (sKo 128).1 27 = some (3, 4) by decide +kernel) (by decide +kernel) (Or.inl (Or.inl rfl)) rfl ?_
  refine q_iload_n 15 rfl (show sCode 128 14 = some (.iload_n 1, 1) by decide +kernel) rfl ?_
  refine q_zald 16 rfl (show sCode 128 15 = some (.baload, 1) by decide +kernel) h1 ?_
  refine q_ifne 61 19 rfl (by decide) (show sCode 128 16 = some (.ifCond .ne 45, 3) by decide +kernel) ?_ ?_
  · intro q; exact k1 q
  · intro q; exact k2 q
theorem b128_19 {d : Nat} {Q : Option sV → sM → sG → Prop} {M : sM} {G : sG} {a0 : Nat} {x1 : Int} (h1 : sI (x1 * 6)) (h2 : sI (x1 + 1)) (h3 : sI ((x1 + 1) * 6)) (h4 : (0 : Int) ≤ 6 ∧ (0 : Int) ≤ (x1 + 1) * 6 ∧ (0 : Int) ≤ x1 * 6 ∧ (x1 + 1) * 6 + 6 ≤ 42 ∧ x1 * 6 + 6 ≤ 42) (h5 : sI (x1 * 6)) (h6 : sI ((x1 * 6) + x1)) (h7 : 0 ≤ (x1 * 6) + x1 ∧ (x1 * 6) + x1 < 42) (kk : sC d 113 [vI ((sCpy M (a0 + 5) ((x1 * 6).toNat) (a0 + 5) (((x1 + 1) * 6).toNat) 6) (a0 + 5) ((x1 * 6) + x1).toNat)] (sCpy M (a0 + 5) ((x1 * 6).toNat) (a0 + 5) (((x1 + 1) * 6).toNat) 6) G (QI (fun r M1 G1 => sW (sC d) 128 Q 52 [vO 3 a0, vI x1, vN, vN] (vI r :: []) M1 G1 0 0))) : sW (sC d) 128 Q 19 [vO 3 a0, vI x1, vN, vN] [] M G 0 0 := by
  refine q_aload_n 20 rfl (show sCode 128 19 = some (.aload_n 0, 1) by decide +kernel) rfl (Nat.le_of_ble_eq_true rfl) ?_
  refine q_getR (vA 0 (a0 + 5) 42) 23 rfl (show sCode 128 20 = some (.getfield 31, 3) by decide +kernel) (show sFR (sKo 128).1 31 = some (3, 5) by decide +kernel) (by decide +kernel) (Or.inl (Or.inl rfl)) rfl ?_
  refine q_astore_n [vO 3 a0, vI x1, vA 0 (a0 + 5) 42, vN] 24 rfl (show sCode 128 23 = some (.astore_n 2, 1) by decide +kernel) (by first | exact ⟨Nat.le_of_ble_eq_true rfl, Or.inl (Nat.lt_of_lt_of_le (Nat.lt_succ_self _) (Nat.le_of_ble_eq_true rfl))⟩ | exact ⟨Nat.le_of_ble_eq_true rfl, Or.inr (Nat.le_of_ble_eq_true rfl)⟩) (Nat.lt_of_lt_of_le (Nat.lt_succ_self _) (Nat.le_of_ble_eq_true rfl)) rfl rfl ?_
  refine q_aload_n 25 rfl (show sCode 128 24 = some (.aload_n 2, 1) by decide +kernel) rfl (Nat.le_of_ble_eq_true rfl) ?_
  refine q_iload_n 26 rfl (show sCode 128 25 = some (.iload_n 1, 1) by decide +kernel) rfl ?_
  refine q_bipush 28 rfl (show sCode 128 26 = some (.bipush 6, 2) by decide +kernel) ⟨by decide, by decide⟩ (by decide +kernel) ?_
  refine q_imul 29 rfl (show sCode 128 28 = some (.imul, 1) by decide +kernel) h1 ?_
  refine q_aload_n 30 rfl (show sCode 128 29 = some (.aload_n 2, 1) by decide +kernel) rfl (Nat.le_of_ble_eq_true rfl) ?_
  refine q_iload_n 31 rfl (show sCode 128 30 = some (.iload_n 1, 1) by decide +kernel) rfl ?_
  refine q_iconst 32 rfl (show sCode 128 31 = some (.iconst 1, 1) by decide +kernel) ⟨by decide, by decide⟩ ?_
  refine q_iadd 33 rfl (show sCode 128 32 = some (.iadd, 1) by decide +kernel) h2 ?_
  refine q_bipush 35 rfl (show sCode 128 33 = some (.bipush 6, 2) by decide +kernel) ⟨by decide, by decide⟩ (by decide +kernel) ?_
  refine q_imul 36 rfl (show sCode 128 35 = some (.imul, 1) by decide +kernel) h3 ?_
  refine q_bipush 38 rfl (show sCode 128 36 = some (.bipush 6, 2) by decide +kernel) ⟨by decide, by decide⟩ (by decide +kernel) ?_
  refine q_copy 41 rfl (show sCode 128 38 = some (.invokestatic 88, 3) by decide +kernel) (by decide +kernel) (Nat.le_of_ble_eq_true rfl) h4 ?_
  refine q_aload_n 42 rfl (show sCode 128 41 = some (.aload_n 2, 1) by decide +kernel) rfl (Nat.le_of_ble_eq_true rfl) ?_
  refine q_iload_n 43 rfl (show sCode 128 42 = some (.iload_n 1, 1) by decide +kernel) rfl ?_
  refine q_bipush 45 rfl (show sCode 128 43 = some (.bipush 6, 2) by decide +kernel) ⟨by decide, by decide⟩ (by decide +kernel) ?_
  refine q_imul 46 rfl (show sCode 128 45 = some (.imul, 1) by decide +kernel) h5 ?_
  refine q_iload_n 47 rfl (show sCode 128 46 = some (.iload_n 1, 1) by decide +kernel) rfl ?_
  refine q_iadd 48 rfl (show sCode 128 47 = some (.iadd, 1) by decide +kernel) h6 ?_
  refine q_iald 49 rfl (show sCode 128 48 = some (.iaload, 1) by decide +kernel) h7 ?_
  refine q_forget (L' := [vO 3 a0, vI x1, vN, vN]) 2 rfl ?_
  exact q_statI [vI ((sCpy M (a0 + 5) ((x1 * 6).toNat) (a0 + 5) (((x1 + 1) * 6).toNat) 6) (a0 + 5) ((x1 * 6) + x1).toNat)] 52 rfl (show sCode 128 49 = some (.invokestatic 94, 3) by decide +kernel) (show sMR (sKo 128).1 94 = some 113 by decide +kernel) (show 113 < 1000 ∧ sStat 113 = true ∧ sKo 113 = (15, 1, 1, 0, 0) by decide +kernel) rfl rfl (Nat.le_of_ble_eq_true rfl) rfl rfl rfl (by decide +kernel) kk
theorem b128_52 {d : Nat} {Q : Option sV → sM → sG → Prop} {M : sM} {G : sG} {a0 : Nat} {x1 : Int} {s0 : Int} (h1 : sI (x1 + 1)) (kk : sC d 128 [vO 3 a0, vI (x1 + 1)] M G (QI (fun r M1 G1 => sW (sC d) 128 Q 59 [vN, vN, vN, vN] (vI r :: [vI s0]) M1 G1 0 0))) : sW (sC d) 128 Q 52 [vO 3 a0, vI x1, vN, vN] [vI s0] M G 0 0 := by
  refine q_aload_n 53 rfl (show sCode 128 52 = some (.aload_n 0, 1) by decide +kernel) rfl (Nat.le_of_ble_eq_true rfl) ?_
  refine q_iload_n 54 rfl (show sCode 128 53 = some (.iload_n 1, 1) by decide +kernel) rfl ?_
  refine q_iconst 55 rfl (show sCode 128 54 = some (.iconst 1, 1) by decide +kernel) ⟨by decide, by decide⟩ ?_
  refine q_iadd 56 rfl (show sCode 128 55 = some (.iadd, 1) by decide +kernel) h1 ?_
  refine q_forget (L' := [vN, vI x1, vN, vN]) 0 rfl ?_
  refine q_forget (L' := [vN, vN, vN, vN]) 1 rfl ?_
  exact q_statI [vO 3 a0, vI (x1 + 1)] 59 rfl (show sCode 128 56 = some (.invokestatic 84, 3) by decide +kernel) (show sMR (sKo 128).1 84 = some 128 by decide +kernel) (show 128 < 1000 ∧ sStat 128 = true ∧ sKo 128 = (3, 2, 1, 0, 0) by decide +kernel) rfl rfl (Nat.le_of_ble_eq_true rfl) rfl rfl rfl (by decide +kernel) kk
theorem b128_59 {d : Nat} {P : Int → sM → sG → Prop} {M : sM} {G : sG} {s0 : Int} {s1 : Int} (h1 : sI (s1 * s0)) (kk : P (s1 * s0) M G) : sW (sC d) 128 (QI P) 59 [vN, vN, vN, vN] [vI s0, vI s1] M G 0 0 := by
  refine q_imul 60 rfl (show sCode 128 59 = some (.imul, 1) by decide +kernel) h1 ?_
  exact q_iret (show sCode 128 60 = some (.ireturn, 1) by decide +kernel) (by decide +kernel) (by decide +kernel) kk
theorem b128_61 {d : Nat} {Q : Option sV → sM → sG → Prop} {M : sM} {G : sG} {a0 : Nat} {x1 : Int} (h1 : sI ((M a0 0) - 2)) (k1 : x1 ≠ (M a0 0) - 2 → sW (sC d) 128 Q 77 [vO 3 a0, vI x1, vN, vN] [] M G 0 0) (k2 : x1 = (M a0 0) - 2 → sW (sC d) 128 Q 71 [vO 3 a0, vI x1, vN, vN] [] M G 0 0) : sW (sC d) 128 Q 61 [vO 3 a0, vI x1, vN, vN] [] M G 0 0 := by
  refine q_iload_n 62 rfl (show sCode 128 61 = some (.iload_n 1, 1) by decide +kernel) rfl ?_
  refine q_aload_n 63 rfl (show sCode 128 62 = some (.aload_n 0, 1) by decide +kernel) rfl (Nat.le_of_ble_eq_true rfl) ?_
  refine q_getI 66 rfl (show sCode 128 63 = some (.getfield 11, 3) by decide +kernel) (show sFR (sKo 128).1 11 = some (3, 0) by decide +kernel) (by decide +kernel) (Or.inl (Or.inl rfl)) ?_
  refine q_iconst 67 rfl (show sCode 128 66 = some (.iconst 2, 1) by decide +kernel) ⟨by decide, by decide⟩ ?_
  refine q_isub 68 rfl (show sCode 128 67 = some (.isub, 1) by decide +kernel) h1 ?_
  refine q_icmpne 77 71 rfl (by decide) (show sCode 128 68 = some (.if_icmp .ne 9, 3) by decide +kernel) ?_ ?_
  · intro q; exact k1 q
  · intro q; exact k2 q
theorem b128_71 {d : Nat} {Q : Option sV → sM → sG → Prop} {M : sM} {G : sG} {a0 : Nat} {x1 : Int}  (kk : sC d 129 [vO 3 a0, vI x1] M G (QI (fun r M1 G1 => sW (sC d) 128 Q 76 [vN, vN, vN, vN] (vI r :: []) M1 G1 0 0))) : sW (sC d) 128 Q 71 [vO 3 a0, vI x1, vN, vN] [] M G 0 0 := by
  refine q_aload_n 72 rfl (show sCode 128 71 = some (.aload_n 0, 1) by decide +kernel) rfl (Nat.le_of_ble_eq_true rfl) ?_
  refine q_iload_n 73 rfl (show sCode 128 72 = some (.iload_n 1, 1) by decide +kernel) rfl ?_
  refine q_forget (L' := [vN, vI x1, vN, vN]) 0 rfl ?_
  refine q_forget (L' := [vN, vN, vN, vN]) 1 rfl ?_
  exact q_virtI [vI x1] 76 rfl (show sCode 128 73 = some (.invokevirtual 100, 3) by decide +kernel) (show sMR (sKo 128).1 100 = some 129 by decide +kernel) (show 129 < 1000 ∧ sStat 129 = false ∧ sIni 129 = false ∧ sKo 129 = (3, 1, 1, 0, 0) by decide +kernel) rfl (Or.inl rfl) rfl (Nat.le_of_ble_eq_true rfl) rfl rfl rfl (by decide +kernel) kk
theorem b128_76 {d : Nat} {P : Int → sM → sG → Prop} {M : sM} {G : sG} {s0 : Int}  (kk : P s0 M G) : sW (sC d) 128 (QI P) 76 [vN, vN, vN, vN] [vI s0] M G 0 0 := by
  exact q_iret (show sCode 128 76 = some (.ireturn, 1) by decide +kernel) (by decide +kernel) (by decide +kernel) kk
theorem b128_77 {d : Nat} {Q : Option sV → sM → sG → Prop} {M : sM} {G : sG} {a0 : Nat} {x1 : Int}  (kk : sW (sC d) 128 Q 81 [vO 3 a0, vI x1, vI 0, vI 0] [] M G 0 0) : sW (sC d) 128 Q 77 [vO 3 a0, vI x1, vN, vN] [] M G 0 0 := by
  refine q_iconst 78 rfl (show sCode 128 77 = some (.iconst 0, 1) by decide +kernel) ⟨by decide, by decide⟩ ?_
  refine q_istore_n [vO 3 a0, vI x1, vI 0, vN] 79 rfl (show sCode 128 78 = some (.istore_n 2, 1) by decide +kernel) (Nat.lt_of_lt_of_le (Nat.lt_succ_self _) (Nat.le_of_ble_eq_true rfl)) rfl rfl ?_
  refine q_iconst 80 rfl (show sCode 128 79 = some (.iconst 0, 1) by decide +kernel) ⟨by decide, by decide⟩ ?_
  refine q_istore_n [vO 3 a0, vI x1, vI 0, vI 0] 81 rfl (show sCode 128 80 = some (.istore_n 3, 1) by decide +kernel) (Nat.lt_of_lt_of_le (Nat.lt_succ_self _) (Nat.le_of_ble_eq_true rfl)) rfl rfl ?_
  exact kk
theorem b128_81 {d : Nat} {Q : Option sV → sM → sG → Prop} {M : sM} {G : sG} {a0 : Nat} {x1 : Int} {x2 : Int} {x3 : Int}  (k1 : 12 ≤ x3 → sW (sC d) 128 Q 127 [vN, vN, vI x2, vN] [] M G 0 0) (k2 : x3 < 12 → sW (sC d) 128 Q 87 [vO 3 a0, vI x1, vI x2, vI x3] [] M G 0 0) : sW (sC d) 128 Q 81 [vO 3 a0, vI x1, vI x2, vI x3] [] M G 0 0 := by
  refine q_iload_n 82 rfl (show sCode 128 81 = some (.iload_n 3, 1) by decide +kernel) rfl ?_
  refine q_bipush 84 rfl (show sCode 128 82 = some (.bipush 12, 2) by decide +kernel) ⟨by decide, by decide⟩ (by decide +kernel) ?_
  refine q_icmpge 127 87 rfl (by decide) (show sCode 128 84 = some (.if_icmp .ge 43, 3) by decide +kernel) ?_ ?_
  · intro q; refine q_forget (L' := [vN, vI x1, vI x2, vI x3]) 0 rfl ?_; refine q_forget (L' := [vN, vN, vI x2, vI x3]) 1 rfl ?_; refine q_forget (L' := [vN, vN, vI x2, vN]) 3 rfl ?_; exact k1 q
  · intro q; exact k2 q
theorem b128_87 {d : Nat} {Q : Option sV → sM → sG → Prop} {M : sM} {G : sG} {a0 : Nat} {x1 : Int} {x2 : Int} {x3 : Int}  (k1 : 1000000 ≤ x2 → sW (sC d) 128 Q 127 [vN, vN, vI x2, vN] [] M G 0 0) (k2 : x2 < 1000000 → sW (sC d) 128 Q 93 [vO 3 a0, vI x1, vI x2, vI x3] [] M G 0 0) : sW (sC d) 128 Q 87 [vO 3 a0, vI x1, vI x2, vI x3] [] M G 0 0 := by
  refine q_iload_n 88 rfl (show sCode 128 87 = some (.iload_n 2, 1) by decide +kernel) rfl ?_
  refine q_ldcI 90 rfl (show sCode 128 88 = some (.ldc 83, 2) by decide +kernel) (show sIR (sKo 128).1 83 = some 1000000 by decide +kernel) ⟨by decide, by decide⟩ ?_
  refine q_icmpge 127 93 rfl (by decide) (show sCode 128 90 = some (.if_icmp .ge 37, 3) by decide +kernel) ?_ ?_
  · intro q; refine q_forget (L' := [vN, vI x1, vI x2, vI x3]) 0 rfl ?_; refine q_forget (L' := [vN, vN, vI x2, vI x3]) 1 rfl ?_; refine q_forget (L' := [vN, vN, vI x2, vN]) 3 rfl ?_; exact k1 q
  · intro q; exact k2 q
theorem b128_93 {d : Nat} {Q : Option sV → sM → sG → Prop} {M : sM} {G : sG} {a0 : Nat} {x1 : Int} {x2 : Int} {x3 : Int}  (kk : sC d 130 [vO 3 a0, vI x1, vI x3] M G (QI (fun r M1 G1 => sW (sC d) 128 Q 99 [vO 3 a0, vI x1, vI x2, vI x3] (vI r :: []) M1 G1 0 0))) : sW (sC d) 128 Q 93 [vO 3 a0, vI x1, vI x2, vI x3] [] M G 0 0 := by
  refine q_aload_n 94 rfl (show sCode 128 93 = some (.aload_n 0, 1) by decide +kernel) rfl (Nat.le_of_ble_eq_true rfl) ?_
  refine q_iload_n 95 rfl (show sCode 128 94 = some (.iload_n 1, 1) by decide +kernel) rfl ?_
  refine q_iload_n 96 rfl (show sCode 128 95 = some (.iload_n 3, 1) by decide +kernel) rfl ?_
  exact q_virtI [vI x1, vI x3] 99 rfl (show sCode 128 96 = some (.invokevirtual 76, 3) by decide +kernel) (show sMR (sKo 128).1 76 = some 130 by decide +kernel) (show 130 < 1000 ∧ sStat 130 = false ∧ sIni 130 = false ∧ sKo 130 = (3, 2, 2, 0, 0) by decide +kernel) rfl (Or.inl rfl) rfl (Nat.le_of_ble_eq_true rfl) rfl rfl rfl (by decide +kernel) kk
theorem b128_99 {d : Nat} {Q : Option sV → sM → sG → Prop} {M : sM} {G : sG} {a0 : Nat} {x1 : Int} {x2 : Int} {x3 : Int} {s0 : Int}  (k1 : s0 = 0 → sW (sC d) 128 Q 121 [vO 3 a0, vI x1, vI x2, vI x3] [] M G 0 0) (k2 : s0 ≠ 0 → sW (sC d) 128 Q 102 [vO 3 a0, vI x1, vI x2, vI x3] [] M G 0 0) : sW (sC d) 128 Q 99 [vO 3 a0, vI x1, vI x2, vI x3] [vI s0] M G 0 0 := by
  refine q_ifeq 121 102 rfl (by decide) (show sCode 128 99 = some (.ifCond .eq 22, 3) by decide +kernel) ?_ ?_
  · intro q; exact k1 q
  · intro q; exact k2 q
theorem b128_102 {d : Nat} {Q : Option sV → sM → sG → Prop} {M : sM} {G : sG} {a0 : Nat} {x1 : Int} {x2 : Int} {x3 : Int}  (kk : sC d 131 [vO 3 a0, vI x1, vI x3] M G (QI (fun r M1 G1 => sW (sC d) 128 Q 108 [vO 3 a0, vI x1, vI x2, vI x3] (vI r :: []) M1 G1 0 0))) : sW (sC d) 128 Q 102 [vO 3 a0, vI x1, vI x2, vI x3] [] M G 0 0 := by
  refine q_aload_n 103 rfl (show sCode 128 102 = some (.aload_n 0, 1) by decide +kernel) rfl (Nat.le_of_ble_eq_true rfl) ?_
  refine q_iload_n 104 rfl (show sCode 128 103 = some (.iload_n 1, 1) by decide +kernel) rfl ?_
  refine q_iload_n 105 rfl (show sCode 128 104 = some (.iload_n 3, 1) by decide +kernel) rfl ?_
  exact q_virtI [vI x1, vI x3] 108 rfl (show sCode 128 105 = some (.invokevirtual 80, 3) by decide +kernel) (show sMR (sKo 128).1 80 = some 131 by decide +kernel) (show 131 < 1000 ∧ sStat 131 = false ∧ sIni 131 = false ∧ sKo 131 = (3, 2, 2, 0, 0) by decide +kernel) rfl (Or.inl rfl) rfl (Nat.le_of_ble_eq_true rfl) rfl rfl rfl (by decide +kernel) kk
theorem b128_108 {d : Nat} {Q : Option sV → sM → sG → Prop} {M : sM} {G : sG} {a0 : Nat} {x1 : Int} {x2 : Int} {x3 : Int} {s0 : Int}  (k1 : s0 = 0 → sW (sC d) 128 Q 121 [vO 3 a0, vI x1, vI x2, vI x3] [] M G 0 0) (k2 : s0 ≠ 0 → sW (sC d) 128 Q 111 [vO 3 a0, vI x1, vI x2, vI x3] [] M G 0 0) : sW (sC d) 128 Q 108 [vO 3 a0, vI x1, vI x2, vI x3] [vI s0] M G 0 0 := by
  refine q_ifeq 121 111 rfl (by decide) (show sCode 128 108 = some (.ifCond .eq 13, 3) by decide +kernel) ?_ ?_
  · intro q; exact k1 q
  · intro q; exact k2 q
theorem b128_111 {d : Nat} {Q : Option sV → sM → sG → Prop} {M : sM} {G : sG} {a0 : Nat} {x1 : Int} {x2 : Int} {x3 : Int} (h1 : sI (x1 + 1)) (kk : sC d 128 [vO 3 a0, vI (x1 + 1)] M G (QI (fun r M1 G1 => sW (sC d) 128 Q 119 [vO 3 a0, vI x1, vN, vI x3] (vI r :: [vI x2]) M1 G1 0 0))) : sW (sC d) 128 Q 111 [vO 3 a0, vI x1, vI x2, vI x3] [] M G 0 0 := by
  refine q_iload_n 112 rfl (show sCode 128 111 = some (.iload_n 2, 1) by decide +kernel) rfl ?_
  refine q_aload_n 113 rfl (show sCode 128 112 = some (.aload_n 0, 1) by decide +kernel) rfl (Nat.le_of_ble_eq_true rfl) ?_
  refine q_iload_n 114 rfl (show sCode 128 113 = some (.iload_n 1, 1) by decide +kernel) rfl ?_
  refine q_iconst 115 rfl (show sCode 128 114 = some (.iconst 1, 1) by decide +kernel) ⟨by decide, by decide⟩ ?_
  refine q_iadd 116 rfl (show sCode 128 115 = some (.iadd, 1) by decide +kernel) h1 ?_
  refine q_forget (L' := [vO 3 a0, vI x1, vN, vI x3]) 2 rfl ?_
  exact q_statI [vO 3 a0, vI (x1 + 1)] 119 rfl (show sCode 128 116 = some (.invokestatic 84, 3) by decide +kernel) (show sMR (sKo 128).1 84 = some 128 by decide +kernel) (show 128 < 1000 ∧ sStat 128 = true ∧ sKo 128 = (3, 2, 1, 0, 0) by decide +kernel) rfl rfl (Nat.le_of_ble_eq_true rfl) rfl rfl rfl (by decide +kernel) kk
theorem b128_119 {d : Nat} {Q : Option sV → sM → sG → Prop} {M : sM} {G : sG} {a0 : Nat} {x1 : Int} {x3 : Int} {s0 : Int} {s1 : Int} (h1 : sI (s1 + s0)) (kk : sW (sC d) 128 Q 121 [vO 3 a0, vI x1, vI (s1 + s0), vI x3] [] M G 0 0) : sW (sC d) 128 Q 119 [vO 3 a0, vI x1, vN, vI x3] [vI s0, vI s1] M G 0 0 := by
  refine q_iadd 120 rfl (show sCode 128 119 = some (.iadd, 1) by decide +kernel) h1 ?_
  refine q_istore_n [vO 3 a0, vI x1, vI (s1 + s0), vI x3] 121 rfl (show sCode 128 120 = some (.istore_n 2, 1) by decide +kernel) (Nat.lt_of_lt_of_le (Nat.lt_succ_self _) (Nat.le_of_ble_eq_true rfl)) rfl rfl ?_
  exact kk
theorem b128_121 {d : Nat} {Q : Option sV → sM → sG → Prop} {M : sM} {G : sG} {a0 : Nat} {x1 : Int} {x2 : Int} {x3 : Int} (h1 : sI (x3 + 1)) (kk : sW (sC d) 128 Q 81 [vO 3 a0, vI x1, vI x2, vI (x3 + 1)] [] M G 0 0) : sW (sC d) 128 Q 121 [vO 3 a0, vI x1, vI x2, vI x3] [] M G 0 0 := by
  refine q_iinc [vO 3 a0, vI x1, vI x2, vI (x3 + 1)] 124 rfl (show sCode 128 121 = some (.iinc 3 1, 3) by decide +kernel) rfl rfl h1 rfl ?_
  refine q_goto 81 (by decide) (show sCode 128 124 = some (.goto (-43), 3) by decide +kernel) ?_
  exact kk
theorem b128_127 {d : Nat} {P : Int → sM → sG → Prop} {M : sM} {G : sG} {x2 : Int}  (kk : P x2 M G) : sW (sC d) 128 (QI P) 127 [vN, vN, vI x2, vN] [] M G 0 0 := by
  refine q_iload_n 128 rfl (show sCode 128 127 = some (.iload_n 2, 1) by decide +kernel) rfl ?_
  exact q_iret (show sCode 128 128 = some (.ireturn, 1) by decide +kernel) (by decide +kernel) (by decide +kernel) kk
-- 129 AfterTheLast$Planner.countLastTwo (I)I
theorem b129_0 {d : Nat} {Q : Option sV → sM → sG → Prop} {M : sM} {G : sG} {a0 : Nat} {x1 : Int} (h1 : sI (x1 * 6)) (h2 : sI ((x1 * 6) + x1)) (h3 : 0 ≤ (x1 * 6) + x1 ∧ (x1 * 6) + x1 < 42) (h4 : sI (x1 * 6)) (h5 : sI ((x1 * 6) + x1)) (h6 : sI (((x1 * 6) + x1) + 1)) (h7 : 0 ≤ ((x1 * 6) + x1) + 1 ∧ ((x1 * 6) + x1) + 1 < 42) (kk : sW (sC d) 129 Q 32 [vO 3 a0, vI x1, vI (M (a0 + 5) ((x1 * 6) + x1).toNat), vI (M (a0 + 5) (((x1 * 6) + x1) + 1).toNat), vI 0, vI 0] [] M G 0 0) : sW (sC d) 129 Q 0 [vO 3 a0, vI x1, vN, vN, vN, vN] [] M G 0 0 := by
  refine q_aload_n 1 rfl (show sCode 129 0 = some (.aload_n 0, 1) by decide +kernel) rfl (Nat.le_of_ble_eq_true rfl) ?_
  refine q_getR (vA 0 (a0 + 5) 42) 4 rfl (show sCode 129 1 = some (.getfield 31, 3) by decide +kernel) (show sFR (sKo 129).1 31 = some (3, 5) by decide +kernel) (by decide +kernel) (Or.inl (Or.inl rfl)) rfl ?_
  refine q_iload_n 5 rfl (show sCode 129 4 = some (.iload_n 1, 1) by decide +kernel) rfl ?_
  refine q_bipush 7 rfl (show sCode 129 5 = some (.bipush 6, 2) by decide +kernel) ⟨by decide, by decide⟩ (by decide +kernel) ?_
  refine q_imul 8 rfl (show sCode 129 7 = some (.imul, 1) by decide +kernel) h1 ?_
  refine q_iload_n 9 rfl (show sCode 129 8 = some (.iload_n 1, 1) by decide +kernel) rfl ?_
  refine q_iadd 10 rfl (show sCode 129 9 = some (.iadd, 1) by decide +kernel) h2 ?_
  refine q_iald 11 rfl (show sCode 129 10 = some (.iaload, 1) by decide +kernel) h3 ?_
  refine q_istore_n [vO 3 a0, vI x1, vI (M (a0 + 5) ((x1 * 6) + x1).toNat), vN, vN, vN] 12 rfl (show sCode 129 11 = some (.istore_n 2, 1) by decide +kernel) (Nat.lt_of_lt_of_le (Nat.lt_succ_self _) (Nat.le_of_ble_eq_true rfl)) rfl rfl ?_
  refine q_aload_n 13 rfl (show sCode 129 12 = some (.aload_n 0, 1) by decide +kernel) rfl (Nat.le_of_ble_eq_true rfl) ?_
  refine q_getR (vA 0 (a0 + 5) 42) 16 rfl (show sCode 129 13 = some (.getfield 31, 3) by decide +kernel) (show sFR (sKo 129).1 31 = some (3, 5) by decide +kernel) (by decide +kernel) (Or.inl (Or.inl rfl)) rfl ?_
  refine q_iload_n 17 rfl (show sCode 129 16 = some (.iload_n 1, 1) by decide +kernel) rfl ?_
  refine q_bipush 19 rfl (show sCode 129 17 = some (.bipush 6, 2) by decide +kernel) ⟨by decide, by decide⟩ (by decide +kernel) ?_
  refine q_imul 20 rfl (show sCode 129 19 = some (.imul, 1) by decide +kernel) h4 ?_
  refine q_iload_n 21 rfl (show sCode 129 20 = some (.iload_n 1, 1) by decide +kernel) rfl ?_
  refine q_iadd 22 rfl (show sCode 129 21 = some (.iadd, 1) by decide +kernel) h5 ?_
  refine q_iconst 23 rfl (show sCode 129 22 = some (.iconst 1, 1) by decide +kernel) ⟨by decide, by decide⟩ ?_
  refine q_iadd 24 rfl (show sCode 129 23 = some (.iadd, 1) by decide +kernel) h6 ?_
  refine q_iald 25 rfl (show sCode 129 24 = some (.iaload, 1) by decide +kernel) h7 ?_
  refine q_istore_n [vO 3 a0, vI x1, vI (M (a0 + 5) ((x1 * 6) + x1).toNat), vI (M (a0 + 5) (((x1 * 6) + x1) + 1).toNat), vN, vN] 26 rfl (show sCode 129 25 = some (.istore_n 3, 1) by decide +kernel) (Nat.lt_of_lt_of_le (Nat.lt_succ_self _) (Nat.le_of_ble_eq_true rfl)) rfl rfl ?_
  refine q_iconst 27 rfl (show sCode 129 26 = some (.iconst 0, 1) by decide +kernel) ⟨by decide, by decide⟩ ?_
  refine q_istore [vO 3 a0, vI x1, vI (M (a0 + 5) ((x1 * 6) + x1).toNat), vI (M (a0 + 5) (((x1 * 6) + x1) + 1).toNat), vI 0, vN] 29 rfl (show sCode 129 27 = some (.istore 4, 2) by decide +kernel) (Nat.lt_of_lt_of_le (Nat.lt_succ_self _) (Nat.le_of_ble_eq_true rfl)) rfl rfl ?_
  refine q_iconst 30 rfl (show sCode 129 29 = some (.iconst 0, 1) by decide +kernel) ⟨by decide, by decide⟩ ?_
  refine q_istore [vO 3 a0, vI x1, vI (M (a0 + 5) ((x1 * 6) + x1).toNat), vI (M (a0 + 5) (((x1 * 6) + x1) + 1).toNat), vI 0, vI 0] 32 rfl (show sCode 129 30 = some (.istore 5, 2) by decide +kernel) (Nat.lt_of_lt_of_le (Nat.lt_succ_self _) (Nat.le_of_ble_eq_true rfl)) rfl rfl ?_
  exact kk
theorem b129_32 {d : Nat} {Q : Option sV → sM → sG → Prop} {M : sM} {G : sG} {a0 : Nat} {x1 : Int} {x2 : Int} {x3 : Int} {x4 : Int} {x5 : Int}  (k1 : 12 ≤ x5 → sW (sC d) 129 Q 79 [vN, vN, vN, vN, vI x4, vN] [] M G 0 0) (k2 : x5 < 12 → sW (sC d) 129 Q 39 [vO 3 a0, vI x1, vI x2, vI x3, vI x4, vI x5] [] M G 0 0) : sW (sC d) 129 Q 32 [vO 3 a0, vI x1, vI x2, vI x3, vI x4, vI x5] [] M G 0 0 := by
  refine q_iload 34 rfl (show sCode 129 32 = some (.iload 5, 2) by decide +kernel) rfl ?_
  refine q_bipush 36 rfl (show sCode 129 34 = some (.bipush 12, 2) by decide +kernel) ⟨by decide, by decide⟩ (by decide +kernel) ?_
  refine q_icmpge 79 39 rfl (by decide) (show sCode 129 36 = some (.if_icmp .ge 43, 3) by decide +kernel) ?_ ?_
  · intro q; refine q_forget (L' := [vN, vI x1, vI x2, vI x3, vI x4, vI x5]) 0 rfl ?_; refine q_forget (L' := [vN, vN, vI x2, vI x3, vI x4, vI x5]) 1 rfl ?_; refine q_forget (L' := [vN, vN, vN, vI x3, vI x4, vI x5]) 2 rfl ?_; refine q_forget (L' := [vN, vN, vN, vN, vI x4, vI x5]) 3 rfl ?_; refine q_forget (L' := [vN, vN, vN, vN, vI x4, vN]) 5 rfl ?_; exact k1 q
  · intro q; exact k2 q
theorem b129_39 {d : Nat} {Q : Option sV → sM → sG → Prop} {M : sM} {G : sG} {a0 : Nat} {x1 : Int} {x2 : Int} {x3 : Int} {x4 : Int} {x5 : Int}  (k1 : iAnd (iShr x2 x5) 1 ≠ 1 → sW (sC d) 129 Q 73 [vO 3 a0, vI x1, vI x2, vI x3, vI x4, vI x5] [] M G 0 0) (k2 : iAnd (iShr x2 x5) 1 = 1 → sW (sC d) 129 Q 49 [vO 3 a0, vI x1, vI x2, vI x3, vI x4, vI x5] [] M G 0 0) : sW (sC d) 129 Q 39 [vO 3 a0, vI x1, vI x2, vI x3, vI x4, vI x5] [] M G 0 0 := by
  refine q_iload_n 40 rfl (show sCode 129 39 = some (.iload_n 2, 1) by decide +kernel) rfl ?_
  refine q_iload 42 rfl (show sCode 129 40 = some (.iload 5, 2) by decide +kernel) rfl ?_
  refine q_ishr 43 rfl (show sCode 129 42 = some (.ishr, 1) by decide +kernel) ?_
  refine q_iconst 44 rfl (show sCode 129 43 = some (.iconst 1, 1) by decide +kernel) ⟨by decide, by decide⟩ ?_
  refine q_iand 45 rfl (show sCode 129 44 = some (.iand, 1) by decide +kernel) ?_
  refine q_iconst 46 rfl (show sCode 129 45 = some (.iconst 1, 1) by decide +kernel) ⟨by decide, by decide⟩ ?_
  refine q_icmpne 73 49 rfl (by decide) (show sCode 129 46 = some (.if_icmp .ne 27, 3) by decide +kernel) ?_ ?_
  · intro q; exact k1 q
  · intro q; exact k2 q
theorem b129_49 {d : Nat} {Q : Option sV → sM → sG → Prop} {M : sM} {G : sG} {a0 : Nat} {x1 : Int} {x2 : Int} {x3 : Int} {x4 : Int} {x5 : Int} (h1 : sI (x1 + 1)) (kk : sC d 126 [vI x1, vI x5, vI (x1 + 1)] M G (QI (fun r M1 G1 => sW (sC d) 129 Q 65 [vO 3 a0, vI x1, vI x2, vI x3, vN, vI x5] (vI r :: [vA 0 (a0 + 3) 432, vI x3, vI x4]) M1 G1 0 0))) : sW (sC d) 129 Q 49 [vO 3 a0, vI x1, vI x2, vI x3, vI x4, vI x5] [] M G 0 0 := by
  refine q_iload 51 rfl (show sCode 129 49 = some (.iload 4, 2) by decide +kernel) rfl ?_
  refine q_iload_n 52 rfl (show sCode 129 51 = some (.iload_n 3, 1) by decide +kernel) rfl ?_
  refine q_aload_n 53 rfl (show sCode 129 52 = some (.aload_n 0, 1) by decide +kernel) rfl (Nat.le_of_ble_eq_true rfl) ?_
  refine q_getR (vA 0 (a0 + 3) 432) 56 rfl (show sCode 129 53 = some (.getfield 24, 3) by decide +kernel) (show sFR (sKo 129).1 24 = some (3, 3) by decide +kernel) (by decide +kernel) (Or.inl (Or.inl rfl)) rfl ?_
  refine q_iload_n 57 rfl (show sCode 129 56 = some (.iload_n 1, 1) by decide +kernel) rfl ?_
  refine q_iload 59 rfl (show sCode 129 57 = some (.iload 5, 2) by decide +kernel) rfl ?_
  refine q_iload_n 60 rfl (show sCode 129 59 = some (.iload_n 1, 1) by decide +kernel) rfl ?_
  refine q_iconst 61 rfl (show sCode 129 60 = some (.iconst 1, 1) by decide +kernel) ⟨by decide, by decide⟩ ?_
  refine q_iadd 62 rfl (show sCode 129 61 = some (.iadd, 1) by decide +kernel) h1 ?_
  refine q_forget (L' := [vO 3 a0, vI x1, vI x2, vI x3, vN, vI x5]) 4 rfl ?_
  exact q_statI [vI x1, vI x5, vI (x1 + 1)] 65 rfl (show sCode 129 62 = some (.invokestatic 68, 3) by decide +kernel) (show sMR (sKo 129).1 68 = some 126 by decide +kernel) (show 126 < 1000 ∧ sStat 126 = true ∧ sKo 126 = (3, 3, 1, 0, 0) by decide +kernel) rfl rfl (Nat.le_of_ble_eq_true rfl) rfl rfl rfl (by decide +kernel) kk
theorem b129_65 {d : Nat} {Q : Option sV → sM → sG → Prop} {M : sM} {G : sG} {a0 : Nat} {x1 : Int} {x2 : Int} {x3 : Int} {x5 : Int} {s0 : Int} {sa1 : Nat} {s2 : Int} {s3 : Int} (h1 : 0 ≤ s0 ∧ s0 < 432) (kk : sC d 113 [vI (iAnd s2 (M sa1 s0.toNat))] M G (QI (fun r M1 G1 => sW (sC d) 129 Q 70 [vO 3 a0, vI x1, vI x2, vI x3, vN, vI x5] (vI r :: [vI s3]) M1 G1 0 0))) : sW (sC d) 129 Q 65 [vO 3 a0, vI x1, vI x2, vI x3, vN, vI x5] [vI s0, vA 0 sa1 432, vI s2, vI s3] M G 0 0 := by
  refine q_iald 66 rfl (show sCode 129 65 = some (.iaload, 1) by decide +kernel) h1 ?_
  refine q_iand 67 rfl (show sCode 129 66 = some (.iand, 1) by decide +kernel) ?_
  exact q_statI [vI (iAnd s2 (M sa1 s0.toNat))] 70 rfl (show sCode 129 67 = some (.invokestatic 94, 3) by decide +kernel) (show sMR (sKo 129).1 94 = some 113 by decide +kernel) (show 113 < 1000 ∧ sStat 113 = true ∧ sKo 113 = (15, 1, 1, 0, 0) by decide +kernel) rfl rfl (Nat.le_of_ble_eq_true rfl) rfl rfl rfl (by decide +kernel) kk
theorem b129_70 {d : Nat} {Q : Option sV → sM → sG → Prop} {M : sM} {G : sG} {a0 : Nat} {x1 : Int} {x2 : Int} {x3 : Int} {x5 : Int} {s0 : Int} {s1 : Int} (h1 : sI (s1 + s0)) (kk : sW (sC d) 129 Q 73 [vO 3 a0, vI x1, vI x2, vI x3, vI (s1 + s0), vI x5] [] M G 0 0) : sW (sC d) 129 Q 70 [vO 3 a0, vI x1, vI x2, vI x3, vN, vI x5] [vI s0, vI s1] M G 0 0 := by
  refine q_iadd 71 rfl (show sCode 129 70 = some (.iadd, 1) by decide +kernel) h1 ?_
  refine q_istore [vO 3 a0, vI x1, vI x2, vI x3, vI (s1 + s0), vI x5] 73 rfl (show sCode 129 71 = some (.istore 4, 2) by decide +kernel) (Nat.lt_of_lt_of_le (Nat.lt_succ_self _) (Nat.le_of_ble_eq_true rfl)) rfl rfl ?_
  exact kk
theorem b129_73 {d : Nat} {Q : Option sV → sM → sG → Prop} {M : sM} {G : sG} {a0 : Nat} {x1 : Int} {x2 : Int} {x3 : Int} {x4 : Int} {x5 : Int} (h1 : sI (x5 + 1)) (kk : sW (sC d) 129 Q 32 [vO 3 a0, vI x1, vI x2, vI x3, vI x4, vI (x5 + 1)] [] M G 0 0) : sW (sC d) 129 Q 73 [vO 3 a0, vI x1, vI x2, vI x3, vI x4, vI x5] [] M G 0 0 := by
  refine q_iinc [vO 3 a0, vI x1, vI x2, vI x3, vI x4, vI (x5 + 1)] 76 rfl (show sCode 129 73 = some (.iinc 5 1, 3) by decide +kernel) rfl rfl h1 rfl ?_
  refine q_goto 32 (by decide) (show sCode 129 76 = some (.goto (-44), 3) by decide +kernel) ?_
  exact kk
theorem b129_79 {d : Nat} {P : Int → sM → sG → Prop} {M : sM} {G : sG} {x4 : Int}  (kk : P x4 M G) : sW (sC d) 129 (QI P) 79 [vN, vN, vN, vN, vI x4, vN] [] M G 0 0 := by
  refine q_iload 81 rfl (show sCode 129 79 = some (.iload 4, 2) by decide +kernel) rfl ?_
  exact q_iret (show sCode 129 81 = some (.ireturn, 1) by decide +kernel) (by decide +kernel) (by decide +kernel) kk
-- 130 AfterTheLast$Planner.isOpen (II)Z
theorem b130_0 {d : Nat} {Q : Option sV → sM → sG → Prop} {M : sM} {G : sG} {a0 : Nat} {x1 : Int} {x2 : Int} (h1 : sI (x1 * 6)) (h2 : sI ((x1 * 6) + x1)) (h3 : 0 ≤ (x1 * 6) + x1 ∧ (x1 * 6) + x1 < 42) (k1 : iAnd (iShr (M (a0 + 5) ((x1 * 6) + x1).toNat) x2) 1 ≠ 1 → sW (sC d) 130 Q 23 [vN, vN, vN] [] M G 0 0) (k2 : iAnd (iShr (M (a0 + 5) ((x1 * 6) + x1).toNat) x2) 1 = 1 → sW (sC d) 130 Q 19 [vN, vN, vN] [] M G 0 0) : sW (sC d) 130 Q 0 [vO 3 a0, vI x1, vI x2] [] M G 0 0 := by
  refine q_aload_n 1 rfl (show sCode 130 0 = some (.aload_n 0, 1) by decide +kernel) rfl (Nat.le_of_ble_eq_true rfl) ?_
  refine q_getR (vA 0 (a0 + 5) 42) 4 rfl (show sCode 130 1 = some (.getfield 31, 3) by decide +kernel) (show sFR (sKo 130).1 31 = some (3, 5) by decide +kernel) (by decide +kernel) (Or.inl (Or.inl rfl)) rfl ?_
  refine q_iload_n 5 rfl (show sCode 130 4 = some (.iload_n 1, 1) by decide +kernel) rfl ?_
  refine q_bipush 7 rfl (show sCode 130 5 = some (.bipush 6, 2) by decide +kernel) ⟨by decide, by decide⟩ (by decide +kernel) ?_
  refine q_imul 8 rfl (show sCode 130 7 = some (.imul, 1) by decide +kernel) h1 ?_
  refine q_iload_n 9 rfl (show sCode 130 8 = some (.iload_n 1, 1) by decide +kernel) rfl ?_
  refine q_iadd 10 rfl (show sCode 130 9 = some (.iadd, 1) by decide +kernel) h2 ?_
  refine q_iald 11 rfl (show sCode 130 10 = some (.iaload, 1) by decide +kernel) h3 ?_
  refine q_iload_n 12 rfl (show sCode 130 11 = some (.iload_n 2, 1) by decide +kernel) rfl ?_
  refine q_ishr 13 rfl (show sCode 130 12 = some (.ishr, 1) by decide +kernel) ?_
  refine q_iconst 14 rfl (show sCode 130 13 = some (.iconst 1, 1) by decide +kernel) ⟨by decide, by decide⟩ ?_
  refine q_iand 15 rfl (show sCode 130 14 = some (.iand, 1) by decide +kernel) ?_
  refine q_iconst 16 rfl (show sCode 130 15 = some (.iconst 1, 1) by decide +kernel) ⟨by decide, by decide⟩ ?_
  refine q_icmpne 23 19 rfl (by decide) (show sCode 130 16 = some (.if_icmp .ne 7, 3) by decide +kernel) ?_ ?_
  · intro q; refine q_forget (L' := [vN, vI x1, vI x2]) 0 rfl ?_; refine q_forget (L' := [vN, vN, vI x2]) 1 rfl ?_; refine q_forget (L' := [vN, vN, vN]) 2 rfl ?_; exact k1 q
  · intro q; refine q_forget (L' := [vN, vI x1, vI x2]) 0 rfl ?_; refine q_forget (L' := [vN, vN, vI x2]) 1 rfl ?_; refine q_forget (L' := [vN, vN, vN]) 2 rfl ?_; exact k2 q
theorem b130_19 {d : Nat} {Q : Option sV → sM → sG → Prop} {M : sM} {G : sG}   (kk : sW (sC d) 130 Q 24 [vN, vN, vN] [vI 1] M G 0 0) : sW (sC d) 130 Q 19 [vN, vN, vN] [] M G 0 0 := by
  refine q_iconst 20 rfl (show sCode 130 19 = some (.iconst 1, 1) by decide +kernel) ⟨by decide, by decide⟩ ?_
  refine q_goto 24 (by decide) (show sCode 130 20 = some (.goto 4, 3) by decide +kernel) ?_
  exact kk
theorem b130_23 {d : Nat} {Q : Option sV → sM → sG → Prop} {M : sM} {G : sG}   (kk : sW (sC d) 130 Q 24 [vN, vN, vN] [vI 0] M G 0 0) : sW (sC d) 130 Q 23 [vN, vN, vN] [] M G 0 0 := by
  refine q_iconst 24 rfl (show sCode 130 23 = some (.iconst 0, 1) by decide +kernel) ⟨by decide, by decide⟩ ?_
  exact kk
theorem b130_24 {d : Nat} {P : Int → sM → sG → Prop} {M : sM} {G : sG} {s0 : Int}  (h01 : s0 = 0 ∨ s0 = 1) (kk : P s0 M G) : sW (sC d) 130 (QI P) 24 [vN, vN, vN] [vI s0] M G 0 0 := by
  exact q_zret (show sCode 130 24 = some (.ireturn, 1) by decide +kernel) (by decide +kernel) h01 (by decide +kernel) kk
-- 131 AfterTheLast$Planner.choose (II)Z
theorem b131_0 {d : Nat} {Q : Option sV → sM → sG → Prop} {M : sM} {G : sG} {a0 : Nat} {x1 : Int} {x2 : Int} (h1 : sI (x1 + 1)) (kk : sW (sC d) 131 Q 4 [vO 3 a0, vI x1, vI x2, vI (x1 + 1), vN] [] M G 0 0) : sW (sC d) 131 Q 0 [vO 3 a0, vI x1, vI x2, vN, vN] [] M G 0 0 := by
  refine q_iload_n 1 rfl (show sCode 131 0 = some (.iload_n 1, 1) by decide +kernel) rfl ?_
  refine q_iconst 2 rfl (show sCode 131 1 = some (.iconst 1, 1) by decide +kernel) ⟨by decide, by decide⟩ ?_
  refine q_iadd 3 rfl (show sCode 131 2 = some (.iadd, 1) by decide +kernel) h1 ?_
  refine q_istore_n [vO 3 a0, vI x1, vI x2, vI (x1 + 1), vN] 4 rfl (show sCode 131 3 = some (.istore_n 3, 1) by decide +kernel) (Nat.lt_of_lt_of_le (Nat.lt_succ_self _) (Nat.le_of_ble_eq_true rfl)) rfl rfl ?_
  exact kk
theorem b131_4 {d : Nat} {Q : Option sV → sM → sG → Prop} {M : sM} {G : sG} {a0 : Nat} {x1 : Int} {x2 : Int} {x3 : Int}  (k1 : M a0 0 ≤ x3 → sW (sC d) 131 Q 65 [vN, vN, vN, vN, vN] [] M G 0 0) (k2 : x3 < M a0 0 → sW (sC d) 131 Q 12 [vO 3 a0, vI x1, vI x2, vI x3, vN] [] M G 0 0) : sW (sC d) 131 Q 4 [vO 3 a0, vI x1, vI x2, vI x3, vN] [] M G 0 0 := by
  refine q_iload_n 5 rfl (show sCode 131 4 = some (.iload_n 3, 1) by decide +kernel) rfl ?_
  refine q_aload_n 6 rfl (show sCode 131 5 = some (.aload_n 0, 1) by decide +kernel) rfl (Nat.le_of_ble_eq_true rfl) ?_
  refine q_getI 9 rfl (show sCode 131 6 = some (.getfield 11, 3) by decide +kernel) (show sFR (sKo 131).1 11 = some (3, 0) by decide +kernel) (by decide +kernel) (Or.inl (Or.inl rfl)) ?_
  refine q_icmpge 65 12 rfl (by decide) (show sCode 131 9 = some (.if_icmp .ge 56, 3) by decide +kernel) ?_ ?_
  · intro q; refine q_forget (L' := [vN, vI x1, vI x2, vI x3, vN]) 0 rfl ?_; refine q_forget (L' := [vN, vN, vI x2, vI x3, vN]) 1 rfl ?_; refine q_forget (L' := [vN, vN, vN, vI x3, vN]) 2 rfl ?_; refine q_forget (L' := [vN, vN, vN, vN, vN]) 3 rfl ?_; exact k1 q
  · intro q; exact k2 q
theorem b131_12 {d : Nat} {Q : Option sV → sM → sG → Prop} {M : sM} {G : sG} {a0 : Nat} {x1 : Int} {x2 : Int} {x3 : Int} (h1 : sI (x1 * 6)) (h2 : sI ((x1 * 6) + x3)) (h3 : 0 ≤ (x1 * 6) + x3 ∧ (x1 * 6) + x3 < 42) (kk : sC d 126 [vI x1, vI x2, vI x3] M G (QI (fun r M1 G1 => sW (sC d) 131 Q 33 [vO 3 a0, vI x1, vI x2, vI x3, vN] (vI r :: [vA 0 (a0 + 3) 432, vI (M (a0 + 5) ((x1 * 6) + x3).toNat)]) M1 G1 0 0))) : sW (sC d) 131 Q 12 [vO 3 a0, vI x1, vI x2, vI x3, vN] [] M G 0 0 := by
  refine q_aload_n 13 rfl (show sCode 131 12 = some (.aload_n 0, 1) by decide +kernel) rfl (Nat.le_of_ble_eq_true rfl) ?_
  refine q_getR (vA 0 (a0 + 5) 42) 16 rfl (show sCode 131 13 = some (.getfield 31, 3) by decide +kernel) (show sFR (sKo 131).1 31 = some (3, 5) by decide +kernel) (by decide +kernel) (Or.inl (Or.inl rfl)) rfl ?_
  refine q_iload_n 17 rfl (show sCode 131 16 = some (.iload_n 1, 1) by decide +kernel) rfl ?_
  refine q_bipush 19 rfl (show sCode 131 17 = some (.bipush 6, 2) by decide +kernel) ⟨by decide, by decide⟩ (by decide +kernel) ?_
  refine q_imul 20 rfl (show sCode 131 19 = some (.imul, 1) by decide +kernel) h1 ?_
  refine q_iload_n 21 rfl (show sCode 131 20 = some (.iload_n 3, 1) by decide +kernel) rfl ?_
  refine q_iadd 22 rfl (show sCode 131 21 = some (.iadd, 1) by decide +kernel) h2 ?_
  refine q_iald 23 rfl (show sCode 131 22 = some (.iaload, 1) by decide +kernel) h3 ?_
  refine q_aload_n 24 rfl (show sCode 131 23 = some (.aload_n 0, 1) by decide +kernel) rfl (Nat.le_of_ble_eq_true rfl) ?_
  refine q_getR (vA 0 (a0 + 3) 432) 27 rfl (show sCode 131 24 = some (.getfield 24, 3) by decide +kernel) (show sFR (sKo 131).1 24 = some (3, 3) by decide +kernel) (by decide +kernel) (Or.inl (Or.inl rfl)) rfl ?_
  refine q_iload_n 28 rfl (show sCode 131 27 = some (.iload_n 1, 1) by decide +kernel) rfl ?_
  refine q_iload_n 29 rfl (show sCode 131 28 = some (.iload_n 2, 1) by decide +kernel) rfl ?_
  refine q_iload_n 30 rfl (show sCode 131 29 = some (.iload_n 3, 1) by decide +kernel) rfl ?_
  exact q_statI [vI x1, vI x2, vI x3] 33 rfl (show sCode 131 30 = some (.invokestatic 68, 3) by decide +kernel) (show sMR (sKo 131).1 68 = some 126 by decide +kernel) (show 126 < 1000 ∧ sStat 126 = true ∧ sKo 126 = (3, 3, 1, 0, 0) by decide +kernel) rfl rfl (Nat.le_of_ble_eq_true rfl) rfl rfl rfl (by decide +kernel) kk
theorem b131_33 {d : Nat} {Q : Option sV → sM → sG → Prop} {M : sM} {G : sG} {a0 : Nat} {x1 : Int} {x2 : Int} {x3 : Int} {s0 : Int} {sa1 : Nat} {s2 : Int} (h1 : 0 ≤ s0 ∧ s0 < 432) (k1 : iAnd s2 (M sa1 s0.toNat) ≠ 0 → sW (sC d) 131 Q 44 [vO 3 a0, vI x1, vI x2, vI x3, vI (iAnd s2 (M sa1 s0.toNat))] [] M G 0 0) (k2 : iAnd s2 (M sa1 s0.toNat) = 0 → sW (sC d) 131 Q 42 [vN, vN, vN, vN, vN] [] M G 0 0) : sW (sC d) 131 Q 33 [vO 3 a0, vI x1, vI x2, vI x3, vN] [vI s0, vA 0 sa1 432, vI s2] M G 0 0 := by
  refine q_iald 34 rfl (show sCode 131 33 = some (.iaload, 1) by decide +kernel) h1 ?_
  refine q_iand 35 rfl (show sCode 131 34 = some (.iand, 1) by decide +kernel) ?_
  refine q_istore [vO 3 a0, vI x1, vI x2, vI x3, vI (iAnd s2 (M sa1 s0.toNat))] 37 rfl (show sCode 131 35 = some (.istore 4, 2) by decide +kernel) (Nat.lt_of_lt_of_le (Nat.lt_succ_self _) (Nat.le_of_ble_eq_true rfl)) rfl rfl ?_
  refine q_iload 39 rfl (show sCode 131 37 = some (.iload 4, 2) by decide +kernel) rfl ?_
  refine q_ifne 44 42 rfl (by decide) (show sCode 131 39 = some (.ifCond .ne 5, 3) by decide +kernel) ?_ ?_
  · intro q; exact k1 q
  · intro q; refine q_forget (L' := [vN, vI x1, vI x2, vI x3, vI (iAnd s2 (M sa1 s0.toNat))]) 0 rfl ?_; refine q_forget (L' := [vN, vN, vI x2, vI x3, vI (iAnd s2 (M sa1 s0.toNat))]) 1 rfl ?_; refine q_forget (L' := [vN, vN, vN, vI x3, vI (iAnd s2 (M sa1 s0.toNat))]) 2 rfl ?_; refine q_forget (L' := [vN, vN, vN, vN, vI (iAnd s2 (M sa1 s0.toNat))]) 3 rfl ?_; refine q_forget (L' := [vN, vN, vN, vN, vN]) 4 rfl ?_; exact k2 q
theorem b131_42 {d : Nat} {P : Int → sM → sG → Prop} {M : sM} {G : sG}   (kk : P 0 M G) : sW (sC d) 131 (QI P) 42 [vN, vN, vN, vN, vN] [] M G 0 0 := by
  refine q_iconst 43 rfl (show sCode 131 42 = some (.iconst 0, 1) by decide +kernel) ⟨by decide, by decide⟩ ?_
  exact q_zret (show sCode 131 43 = some (.ireturn, 1) by decide +kernel) (by decide +kernel) (by decide) (by decide +kernel) kk
theorem b131_44 {d : Nat} {Q : Option sV → sM → sG → Prop} {M : sM} {G : sG} {a0 : Nat} {x1 : Int} {x2 : Int} {x3 : Int} {x4 : Int} (h1 : sI (x1 + 1)) (h2 : sI ((x1 + 1) * 6)) (h3 : sI (((x1 + 1) * 6) + x3)) (h4 : 0 ≤ ((x1 + 1) * 6) + x3 ∧ ((x1 + 1) * 6) + x3 < 42) (h5 : sI (x3 + 1)) (kk : sW (sC d) 131 Q 4 [vO 3 a0, vI x1, vI x2, vI (x3 + 1), vN] [] (sUpd M (a0 + 5) (((x1 + 1) * 6) + x3).toNat x4) G 0 0) : sW (sC d) 131 Q 44 [vO 3 a0, vI x1, vI x2, vI x3, vI x4] [] M G 0 0 := by
  refine q_aload_n 45 rfl (show sCode 131 44 = some (.aload_n 0, 1) by decide +kernel) rfl (Nat.le_of_ble_eq_true rfl) ?_
  refine q_getR (vA 0 (a0 + 5) 42) 48 rfl (show sCode 131 45 = some (.getfield 31, 3) by decide +kernel) (show sFR (sKo 131).1 31 = some (3, 5) by decide +kernel) (by decide +kernel) (Or.inl (Or.inl rfl)) rfl ?_
  refine q_iload_n 49 rfl (show sCode 131 48 = some (.iload_n 1, 1) by decide +kernel) rfl ?_
  refine q_iconst 50 rfl (show sCode 131 49 = some (.iconst 1, 1) by decide +kernel) ⟨by decide, by decide⟩ ?_
  refine q_iadd 51 rfl (show sCode 131 50 = some (.iadd, 1) by decide +kernel) h1 ?_
  refine q_bipush 53 rfl (show sCode 131 51 = some (.bipush 6, 2) by decide +kernel) ⟨by decide, by decide⟩ (by decide +kernel) ?_
  refine q_imul 54 rfl (show sCode 131 53 = some (.imul, 1) by decide +kernel) h2 ?_
  refine q_iload_n 55 rfl (show sCode 131 54 = some (.iload_n 3, 1) by decide +kernel) rfl ?_
  refine q_iadd 56 rfl (show sCode 131 55 = some (.iadd, 1) by decide +kernel) h3 ?_
  refine q_iload 58 rfl (show sCode 131 56 = some (.iload 4, 2) by decide +kernel) rfl ?_
  refine q_iast 59 rfl (show sCode 131 58 = some (.iastore, 1) by decide +kernel) h4 ?_
  refine q_iinc [vO 3 a0, vI x1, vI x2, vI (x3 + 1), vI x4] 62 rfl (show sCode 131 59 = some (.iinc 3 1, 3) by decide +kernel) rfl rfl h5 rfl ?_
  refine q_goto 4 (by decide) (show sCode 131 62 = some (.goto (-58), 3) by decide +kernel) ?_
  refine q_forget (L' := [vO 3 a0, vI x1, vI x2, vI (x3 + 1), vN]) 4 rfl ?_
  exact kk
theorem b131_65 {d : Nat} {P : Int → sM → sG → Prop} {M : sM} {G : sG}   (kk : P 1 M G) : sW (sC d) 131 (QI P) 65 [vN, vN, vN, vN, vN] [] M G 0 0 := by
  refine q_iconst 66 rfl (show sCode 131 65 = some (.iconst 1, 1) by decide +kernel) ⟨by decide, by decide⟩ ?_
  exact q_zret (show sCode 131 66 = some (.ireturn, 1) by decide +kernel) (by decide +kernel) (by decide) (by decide +kernel) kk
-- 132 AfterTheLast$Planner.findFirst ()Z
theorem b132_0 {d : Nat} {Q : Option sV → sM → sG → Prop} {M : sM} {G : sG} {a0 : Nat}  (kk : sC d 133 [vO 3 a0, vI 0] M G (QI (fun r M1 G1 => sW (sC d) 132 Q 5 [vN] (vI r :: []) M1 G1 0 0))) : sW (sC d) 132 Q 0 [vO 3 a0] [] M G 0 0 := by
  refine q_aload_n 1 rfl (show sCode 132 0 = some (.aload_n 0, 1) by decide +kernel) rfl (Nat.le_of_ble_eq_true rfl) ?_
  refine q_iconst 2 rfl (show sCode 132 1 = some (.iconst 0, 1) by decide +kernel) ⟨by decide, by decide⟩ ?_
  refine q_forget (L' := [vN]) 0 rfl ?_
  exact q_statI [vO 3 a0, vI 0] 5 rfl (show sCode 132 2 = some (.invokestatic 72, 3) by decide +kernel) (show sMR (sKo 132).1 72 = some 133 by decide +kernel) (show 133 < 1000 ∧ sStat 133 = true ∧ sKo 133 = (3, 2, 2, 0, 0) by decide +kernel) rfl rfl (Nat.le_of_ble_eq_true rfl) rfl rfl rfl (by decide +kernel) kk
theorem b132_5 {d : Nat} {P : Int → sM → sG → Prop} {M : sM} {G : sG} {s0 : Int}  (h01 : s0 = 0 ∨ s0 = 1) (kk : P s0 M G) : sW (sC d) 132 (QI P) 5 [vN] [vI s0] M G 0 0 := by
  exact q_zret (show sCode 132 5 = some (.ireturn, 1) by decide +kernel) (by decide +kernel) h01 (by decide +kernel) kk
-- 133 AfterTheLast$Planner.findFrom (LAfterTheLast$Planner;I)Z
theorem b133_0 {d : Nat} {Q : Option sV → sM → sG → Prop} {M : sM} {G : sG} {a0 : Nat} {x1 : Int}  (k1 : x1 < M a0 0 → sW (sC d) 133 Q 10 [vO 3 a0, vI x1, vN] [] M G 0 0) (k2 : M a0 0 ≤ x1 → sW (sC d) 133 Q 8 [vN, vN, vN] [] M G 0 0) : sW (sC d) 133 Q 0 [vO 3 a0, vI x1, vN] [] M G 0 0 := by
  refine q_iload_n 1 rfl (show sCode 133 0 = some (.iload_n 1, 1) by decide +kernel) rfl ?_
  refine q_aload_n 2 rfl (show sCode 133 1 = some (.aload_n 0, 1) by decide +kernel) rfl (Nat.le_of_ble_eq_true rfl) ?_
  refine q_getI 5 rfl (show sCode 133 2 = some (.getfield 11, 3) by decide +kernel) (show sFR (sKo 133).1 11 = some (3, 0) by decide +kernel) (by decide +kernel) (Or.inl (Or.inl rfl)) ?_
  refine q_icmplt 10 8 rfl (by decide) (show sCode 133 5 = some (.if_icmp .lt 5, 3) by decide +kernel) ?_ ?_
  · intro q; exact k1 q
  · intro q; refine q_forget (L' := [vN, vI x1, vN]) 0 rfl ?_; refine q_forget (L' := [vN, vN, vN]) 1 rfl ?_; exact k2 q
theorem b133_8 {d : Nat} {P : Int → sM → sG → Prop} {M : sM} {G : sG}   (kk : P 1 M G) : sW (sC d) 133 (QI P) 8 [vN, vN, vN] [] M G 0 0 := by
  refine q_iconst 9 rfl (show sCode 133 8 = some (.iconst 1, 1) by decide +kernel) ⟨by decide, by decide⟩ ?_
  exact q_zret (show sCode 133 9 = some (.ireturn, 1) by decide +kernel) (by decide +kernel) (by decide) (by decide +kernel) kk
theorem b133_10 {d : Nat} {Q : Option sV → sM → sG → Prop} {M : sM} {G : sG} {a0 : Nat} {x1 : Int}  (kk : sW (sC d) 133 Q 12 [vO 3 a0, vI x1, vI 0] [] M G 0 0) : sW (sC d) 133 Q 10 [vO 3 a0, vI x1, vN] [] M G 0 0 := by
  refine q_iconst 11 rfl (show sCode 133 10 = some (.iconst 0, 1) by decide +kernel) ⟨by decide, by decide⟩ ?_
  refine q_istore_n [vO 3 a0, vI x1, vI 0] 12 rfl (show sCode 133 11 = some (.istore_n 2, 1) by decide +kernel) (Nat.lt_of_lt_of_le (Nat.lt_succ_self _) (Nat.le_of_ble_eq_true rfl)) rfl rfl ?_
  exact kk
theorem b133_12 {d : Nat} {Q : Option sV → sM → sG → Prop} {M : sM} {G : sG} {a0 : Nat} {x1 : Int} {x2 : Int}  (k1 : 12 ≤ x2 → sW (sC d) 133 Q 61 [vN, vN, vN] [] M G 0 0) (k2 : x2 < 12 → sW (sC d) 133 Q 18 [vO 3 a0, vI x1, vI x2] [] M G 0 0) : sW (sC d) 133 Q 12 [vO 3 a0, vI x1, vI x2] [] M G 0 0 := by
  refine q_iload_n 13 rfl (show sCode 133 12 = some (.iload_n 2, 1) by decide +kernel) rfl ?_
  refine q_bipush 15 rfl (show sCode 133 13 = some (.bipush 12, 2) by decide +kernel) ⟨by decide, by decide⟩ (by decide +kernel) ?_
  refine q_icmpge 61 18 rfl (by decide) (show sCode 133 15 = some (.if_icmp .ge 46, 3) by decide +kernel) ?_ ?_
  · intro q; refine q_forget (L' := [vN, vI x1, vI x2]) 0 rfl ?_; refine q_forget (L' := [vN, vN, vI x2]) 1 rfl ?_; refine q_forget (L' := [vN, vN, vN]) 2 rfl ?_; exact k1 q
  · intro q; exact k2 q
theorem b133_18 {d : Nat} {Q : Option sV → sM → sG → Prop} {M : sM} {G : sG} {a0 : Nat} {x1 : Int} {x2 : Int}  (kk : sC d 130 [vO 3 a0, vI x1, vI x2] M G (QI (fun r M1 G1 => sW (sC d) 133 Q 24 [vO 3 a0, vI x1, vI x2] (vI r :: []) M1 G1 0 0))) : sW (sC d) 133 Q 18 [vO 3 a0, vI x1, vI x2] [] M G 0 0 := by
  refine q_aload_n 19 rfl (show sCode 133 18 = some (.aload_n 0, 1) by decide +kernel) rfl (Nat.le_of_ble_eq_true rfl) ?_
  refine q_iload_n 20 rfl (show sCode 133 19 = some (.iload_n 1, 1) by decide +kernel) rfl ?_
  refine q_iload_n 21 rfl (show sCode 133 20 = some (.iload_n 2, 1) by decide +kernel) rfl ?_
  exact q_virtI [vI x1, vI x2] 24 rfl (show sCode 133 21 = some (.invokevirtual 76, 3) by decide +kernel) (show sMR (sKo 133).1 76 = some 130 by decide +kernel) (show 130 < 1000 ∧ sStat 130 = false ∧ sIni 130 = false ∧ sKo 130 = (3, 2, 2, 0, 0) by decide +kernel) rfl (Or.inl rfl) rfl (Nat.le_of_ble_eq_true rfl) rfl rfl rfl (by decide +kernel) kk
theorem b133_24 {d : Nat} {Q : Option sV → sM → sG → Prop} {M : sM} {G : sG} {a0 : Nat} {x1 : Int} {x2 : Int} {s0 : Int}  (k1 : s0 = 0 → sW (sC d) 133 Q 55 [vO 3 a0, vI x1, vI x2] [] M G 0 0) (k2 : s0 ≠ 0 → sW (sC d) 133 Q 27 [vO 3 a0, vI x1, vI x2] [] M G 0 0) : sW (sC d) 133 Q 24 [vO 3 a0, vI x1, vI x2] [vI s0] M G 0 0 := by
  refine q_ifeq 55 27 rfl (by decide) (show sCode 133 24 = some (.ifCond .eq 31, 3) by decide +kernel) ?_ ?_
  · intro q; exact k1 q
  · intro q; exact k2 q
theorem b133_27 {d : Nat} {Q : Option sV → sM → sG → Prop} {M : sM} {G : sG} {a0 : Nat} {x1 : Int} {x2 : Int}  (kk : sC d 131 [vO 3 a0, vI x1, vI x2] M G (QI (fun r M1 G1 => sW (sC d) 133 Q 33 [vO 3 a0, vI x1, vI x2] (vI r :: []) M1 G1 0 0))) : sW (sC d) 133 Q 27 [vO 3 a0, vI x1, vI x2] [] M G 0 0 := by
  refine q_aload_n 28 rfl (show sCode 133 27 = some (.aload_n 0, 1) by decide +kernel) rfl (Nat.le_of_ble_eq_true rfl) ?_
  refine q_iload_n 29 rfl (show sCode 133 28 = some (.iload_n 1, 1) by decide +kernel) rfl ?_
  refine q_iload_n 30 rfl (show sCode 133 29 = some (.iload_n 2, 1) by decide +kernel) rfl ?_
  exact q_virtI [vI x1, vI x2] 33 rfl (show sCode 133 30 = some (.invokevirtual 80, 3) by decide +kernel) (show sMR (sKo 133).1 80 = some 131 by decide +kernel) (show 131 < 1000 ∧ sStat 131 = false ∧ sIni 131 = false ∧ sKo 131 = (3, 2, 2, 0, 0) by decide +kernel) rfl (Or.inl rfl) rfl (Nat.le_of_ble_eq_true rfl) rfl rfl rfl (by decide +kernel) kk
theorem b133_33 {d : Nat} {Q : Option sV → sM → sG → Prop} {M : sM} {G : sG} {a0 : Nat} {x1 : Int} {x2 : Int} {s0 : Int}  (k1 : s0 = 0 → sW (sC d) 133 Q 55 [vO 3 a0, vI x1, vI x2] [] M G 0 0) (k2 : s0 ≠ 0 → sW (sC d) 133 Q 36 [vO 3 a0, vI x1, vI x2] [] M G 0 0) : sW (sC d) 133 Q 33 [vO 3 a0, vI x1, vI x2] [vI s0] M G 0 0 := by
  refine q_ifeq 55 36 rfl (by decide) (show sCode 133 33 = some (.ifCond .eq 22, 3) by decide +kernel) ?_ ?_
  · intro q; exact k1 q
  · intro q; exact k2 q
theorem b133_36 {d : Nat} {Q : Option sV → sM → sG → Prop} {M : sM} {G : sG} {a0 : Nat} {x1 : Int} {x2 : Int} (h1 : 0 ≤ x1 ∧ x1 < 6) (h2 : sI (x1 + 1)) (kk : sC d 133 [vO 3 a0, vI (x1 + 1)] (sUpd M (a0 + 6) x1.toNat x2) G (QI (fun r M1 G1 => sW (sC d) 133 Q 50 [vO 3 a0, vI x1, vI x2] (vI r :: []) M1 G1 0 0))) : sW (sC d) 133 Q 36 [vO 3 a0, vI x1, vI x2] [] M G 0 0 := by
  refine q_aload_n 37 rfl (show sCode 133 36 = some (.aload_n 0, 1) by decide +kernel) rfl (Nat.le_of_ble_eq_true rfl) ?_
  refine q_getR (vA 0 (a0 + 6) 6) 40 rfl (show sCode 133 37 = some (.getfield 34, 3) by decide +kernel) (show sFR (sKo 133).1 34 = some (3, 6) by decide +kernel) (by decide +kernel) (Or.inl (Or.inl rfl)) rfl ?_
  refine q_iload_n 41 rfl (show sCode 133 40 = some (.iload_n 1, 1) by decide +kernel) rfl ?_
  refine q_iload_n 42 rfl (show sCode 133 41 = some (.iload_n 2, 1) by decide +kernel) rfl ?_
  refine q_iast 43 rfl (show sCode 133 42 = some (.iastore, 1) by decide +kernel) h1 ?_
  refine q_aload_n 44 rfl (show sCode 133 43 = some (.aload_n 0, 1) by decide +kernel) rfl (Nat.le_of_ble_eq_true rfl) ?_
  refine q_iload_n 45 rfl (show sCode 133 44 = some (.iload_n 1, 1) by decide +kernel) rfl ?_
  refine q_iconst 46 rfl (show sCode 133 45 = some (.iconst 1, 1) by decide +kernel) ⟨by decide, by decide⟩ ?_
  refine q_iadd 47 rfl (show sCode 133 46 = some (.iadd, 1) by decide +kernel) h2 ?_
  exact q_statI [vO 3 a0, vI (x1 + 1)] 50 rfl (show sCode 133 47 = some (.invokestatic 72, 3) by decide +kernel) (show sMR (sKo 133).1 72 = some 133 by decide +kernel) (show 133 < 1000 ∧ sStat 133 = true ∧ sKo 133 = (3, 2, 2, 0, 0) by decide +kernel) rfl rfl (Nat.le_of_ble_eq_true rfl) rfl rfl rfl (by decide +kernel) kk
theorem b133_50 {d : Nat} {Q : Option sV → sM → sG → Prop} {M : sM} {G : sG} {a0 : Nat} {x1 : Int} {x2 : Int} {s0 : Int}  (k1 : s0 = 0 → sW (sC d) 133 Q 55 [vO 3 a0, vI x1, vI x2] [] M G 0 0) (k2 : s0 ≠ 0 → sW (sC d) 133 Q 53 [vN, vN, vN] [] M G 0 0) : sW (sC d) 133 Q 50 [vO 3 a0, vI x1, vI x2] [vI s0] M G 0 0 := by
  refine q_ifeq 55 53 rfl (by decide) (show sCode 133 50 = some (.ifCond .eq 5, 3) by decide +kernel) ?_ ?_
  · intro q; exact k1 q
  · intro q; refine q_forget (L' := [vN, vI x1, vI x2]) 0 rfl ?_; refine q_forget (L' := [vN, vN, vI x2]) 1 rfl ?_; refine q_forget (L' := [vN, vN, vN]) 2 rfl ?_; exact k2 q
theorem b133_53 {d : Nat} {P : Int → sM → sG → Prop} {M : sM} {G : sG}   (kk : P 1 M G) : sW (sC d) 133 (QI P) 53 [vN, vN, vN] [] M G 0 0 := by
  refine q_iconst 54 rfl (show sCode 133 53 = some (.iconst 1, 1) by decide +kernel) ⟨by decide, by decide⟩ ?_
  exact q_zret (show sCode 133 54 = some (.ireturn, 1) by decide +kernel) (by decide +kernel) (by decide) (by decide +kernel) kk
theorem b133_55 {d : Nat} {Q : Option sV → sM → sG → Prop} {M : sM} {G : sG} {a0 : Nat} {x1 : Int} {x2 : Int} (h1 : sI (x2 + 1)) (kk : sW (sC d) 133 Q 12 [vO 3 a0, vI x1, vI (x2 + 1)] [] M G 0 0) : sW (sC d) 133 Q 55 [vO 3 a0, vI x1, vI x2] [] M G 0 0 := by
  refine q_iinc [vO 3 a0, vI x1, vI (x2 + 1)] 58 rfl (show sCode 133 55 = some (.iinc 2 1, 3) by decide +kernel) rfl rfl h1 rfl ?_
  refine q_goto 12 (by decide) (show sCode 133 58 = some (.goto (-46), 3) by decide +kernel) ?_
  exact kk
theorem b133_61 {d : Nat} {P : Int → sM → sG → Prop} {M : sM} {G : sG}   (kk : P 0 M G) : sW (sC d) 133 (QI P) 61 [vN, vN, vN] [] M G 0 0 := by
  refine q_iconst 62 rfl (show sCode 133 61 = some (.iconst 0, 1) by decide +kernel) ⟨by decide, by decide⟩ ?_
  exact q_zret (show sCode 133 62 = some (.ireturn, 1) by decide +kernel) (by decide +kernel) (by decide) (by decide +kernel) kk
-- 134 AfterTheLast$Planner.beginOf (I)I
theorem b134_0 {d : Nat} {Q : Option sV → sM → sG → Prop} {M : sM} {G : sG} {a0 : Nat} {x1 : Int}  (k1 : x1 < 0 → sW (sC d) 134 Q 28 [vN, vN] [] M G 0 0) (k2 : 0 ≤ x1 → sW (sC d) 134 Q 4 [vO 3 a0, vI x1] [] M G 0 0) : sW (sC d) 134 Q 0 [vO 3 a0, vI x1] [] M G 0 0 := by
  refine q_iload_n 1 rfl (show sCode 134 0 = some (.iload_n 1, 1) by decide +kernel) rfl ?_
  refine q_iflt 28 4 rfl (by decide) (show sCode 134 1 = some (.ifCond .lt 27, 3) by decide +kernel) ?_ ?_
  · intro q; refine q_forget (L' := [vN, vI x1]) 0 rfl ?_; refine q_forget (L' := [vN, vN]) 1 rfl ?_; exact k1 q
  · intro q; exact k2 q
theorem b134_4 {d : Nat} {Q : Option sV → sM → sG → Prop} {M : sM} {G : sG} {a0 : Nat} {x1 : Int}  (k1 : M a0 0 ≤ x1 → sW (sC d) 134 Q 28 [vN, vN] [] M G 0 0) (k2 : x1 < M a0 0 → sW (sC d) 134 Q 12 [vO 3 a0, vI x1] [] M G 0 0) : sW (sC d) 134 Q 4 [vO 3 a0, vI x1] [] M G 0 0 := by
  refine q_iload_n 5 rfl (show sCode 134 4 = some (.iload_n 1, 1) by decide +kernel) rfl ?_
  refine q_aload_n 6 rfl (show sCode 134 5 = some (.aload_n 0, 1) by decide +kernel) rfl (Nat.le_of_ble_eq_true rfl) ?_
  refine q_getI 9 rfl (show sCode 134 6 = some (.getfield 11, 3) by decide +kernel) (show sFR (sKo 134).1 11 = some (3, 0) by decide +kernel) (by decide +kernel) (Or.inl (Or.inl rfl)) ?_
  refine q_icmpge 28 12 rfl (by decide) (show sCode 134 9 = some (.if_icmp .ge 19, 3) by decide +kernel) ?_ ?_
  · intro q; refine q_forget (L' := [vN, vI x1]) 0 rfl ?_; refine q_forget (L' := [vN, vN]) 1 rfl ?_; exact k1 q
  · intro q; exact k2 q
theorem b134_12 {d : Nat} {Q : Option sV → sM → sG → Prop} {M : sM} {G : sG} {a0 : Nat} {x1 : Int} (h1 : 0 ≤ x1 ∧ x1 < 6) (h2 : 0 ≤ x1 ∧ x1 < 6) (h3 : sI ((M (a0 + 1) x1.toNat) + (M (a0 + 6) x1.toNat))) (kk : sW (sC d) 134 Q 29 [vN, vN] [vI ((M (a0 + 1) x1.toNat) + (M (a0 + 6) x1.toNat))] M G 0 0) : sW (sC d) 134 Q 12 [vO 3 a0, vI x1] [] M G 0 0 := by
  refine q_aload_n 13 rfl (show sCode 134 12 = some (.aload_n 0, 1) by decide +kernel) rfl (Nat.le_of_ble_eq_true rfl) ?_
  refine q_getR (vA 0 (a0 + 1) 6) 16 rfl (show sCode 134 13 = some (.getfield 17, 3) by decide +kernel) (show sFR (sKo 134).1 17 = some (3, 1) by decide +kernel) (by decide +kernel) (Or.inl (Or.inl rfl)) rfl ?_
  refine q_iload_n 17 rfl (show sCode 134 16 = some (.iload_n 1, 1) by decide +kernel) rfl ?_
  refine q_iald 18 rfl (show sCode 134 17 = some (.iaload, 1) by decide +kernel) h1 ?_
  refine q_aload_n 19 rfl (show sCode 134 18 = some (.aload_n 0, 1) by decide +kernel) rfl (Nat.le_of_ble_eq_true rfl) ?_
  refine q_getR (vA 0 (a0 + 6) 6) 22 rfl (show sCode 134 19 = some (.getfield 34, 3) by decide +kernel) (show sFR (sKo 134).1 34 = some (3, 6) by decide +kernel) (by decide +kernel) (Or.inl (Or.inl rfl)) rfl ?_
  refine q_iload_n 23 rfl (show sCode 134 22 = some (.iload_n 1, 1) by decide +kernel) rfl ?_
  refine q_iald 24 rfl (show sCode 134 23 = some (.iaload, 1) by decide +kernel) h2 ?_
  refine q_iadd 25 rfl (show sCode 134 24 = some (.iadd, 1) by decide +kernel) h3 ?_
  refine q_goto 29 (by decide) (show sCode 134 25 = some (.goto 4, 3) by decide +kernel) ?_
  refine q_forget (L' := [vN, vI x1]) 0 rfl ?_
  refine q_forget (L' := [vN, vN]) 1 rfl ?_
  exact kk
theorem b134_28 {d : Nat} {Q : Option sV → sM → sG → Prop} {M : sM} {G : sG}   (kk : sW (sC d) 134 Q 29 [vN, vN] [vI (-1)] M G 0 0) : sW (sC d) 134 Q 28 [vN, vN] [] M G 0 0 := by
  refine q_iconst 29 rfl (show sCode 134 28 = some (.iconst (-1), 1) by decide +kernel) ⟨by decide, by decide⟩ ?_
  exact kk
theorem b134_29 {d : Nat} {P : Int → sM → sG → Prop} {M : sM} {G : sG} {s0 : Int}  (kk : P s0 M G) : sW (sC d) 134 (QI P) 29 [vN, vN] [vI s0] M G 0 0 := by
  exact q_iret (show sCode 134 29 = some (.ireturn, 1) by decide +kernel) (by decide +kernel) (by decide +kernel) kk
-- 137 AfterTheLast$Rings.look (LAfterTheLast$Town;)V
theorem b137_0 {d : Nat} {Q : Option sV → sM → sG → Prop} {M : sM} {G : sG} {a0 : Nat} {a1 : Nat}  (kk : sW (sC d) 137 Q 2 [vO 5 a0, vO 10 a1, vI 0, vN, vN] [] M G 0 0) : sW (sC d) 137 Q 0 [vO 5 a0, vO 10 a1, vN, vN, vN] [] M G 0 0 := by
  refine q_iconst 1 rfl (show sCode 137 0 = some (.iconst 0, 1) by decide +kernel) ⟨by decide, by decide⟩ ?_
  refine q_istore_n [vO 5 a0, vO 10 a1, vI 0, vN, vN] 2 rfl (show sCode 137 1 = some (.istore_n 2, 1) by decide +kernel) (Nat.lt_of_lt_of_le (Nat.lt_succ_self _) (Nat.le_of_ble_eq_true rfl)) rfl rfl ?_
  exact kk
theorem b137_2 {d : Nat} {Q : Option sV → sM → sG → Prop} {M : sM} {G : sG} {a0 : Nat} {a1 : Nat} {x2 : Int}  (k1 : 12 ≤ x2 → sW (sC d) 137 Q 88 [vN, vN, vN, vN, vN] [] M G 0 0) (k2 : x2 < 12 → sW (sC d) 137 Q 8 [vO 5 a0, vO 10 a1, vI x2, vN, vN] [] M G 0 0) : sW (sC d) 137 Q 2 [vO 5 a0, vO 10 a1, vI x2, vN, vN] [] M G 0 0 := by
  refine q_iload_n 3 rfl (show sCode 137 2 = some (.iload_n 2, 1) by decide +kernel) rfl ?_
  refine q_bipush 5 rfl (show sCode 137 3 = some (.bipush 12, 2) by decide +kernel) ⟨by decide, by decide⟩ (by decide +kernel) ?_
  refine q_icmpge 88 8 rfl (by decide) (show sCode 137 5 = some (.if_icmp .ge 83, 3) by decide +kernel) ?_ ?_
  · intro q; refine q_forget (L' := [vN, vO 10 a1, vI x2, vN, vN]) 0 rfl ?_; refine q_forget (L' := [vN, vN, vI x2, vN, vN]) 1 rfl ?_; refine q_forget (L' := [vN, vN, vN, vN, vN]) 2 rfl ?_; exact k1 q
  · intro q; exact k2 q
theorem b137_8 {d : Nat} {Q : Option sV → sM → sG → Prop} {M : sM} {G : sG} {a0 : Nat} {a1 : Nat} {x2 : Int} (h1 : 0 ≤ x2 ∧ x2 < 12) (h2 : 0 ≤ x2 ∧ x2 < 12) (kk : sC d 55 [vO 10 a1, vI ((sUpd M (a0 + 1) x2.toNat 0) (a1 + 12) x2.toNat)] (sUpd M (a0 + 1) x2.toNat 0) G (QI (fun r M1 G1 => sW (sC d) 137 Q 27 [vO 5 a0, vO 10 a1, vI x2, vI ((sUpd M (a0 + 1) x2.toNat 0) (a1 + 12) x2.toNat), vN] (vI r :: []) M1 G1 0 0))) : sW (sC d) 137 Q 8 [vO 5 a0, vO 10 a1, vI x2, vN, vN] [] M G 0 0 := by
  refine q_aload_n 9 rfl (show sCode 137 8 = some (.aload_n 0, 1) by decide +kernel) rfl (Nat.le_of_ble_eq_true rfl) ?_
  refine q_getR (vA 0 (a0 + 1) 12) 12 rfl (show sCode 137 9 = some (.getfield 9, 3) by decide +kernel) (show sFR (sKo 137).1 9 = some (5, 0) by decide +kernel) (by decide +kernel) (Or.inl (Or.inl rfl)) rfl ?_
  refine q_iload_n 13 rfl (show sCode 137 12 = some (.iload_n 2, 1) by decide +kernel) rfl ?_
  refine q_iconst 14 rfl (show sCode 137 13 = some (.iconst 0, 1) by decide +kernel) ⟨by decide, by decide⟩ ?_
  refine q_iast 15 rfl (show sCode 137 14 = some (.iastore, 1) by decide +kernel) h1 ?_
  refine q_aload_n 16 rfl (show sCode 137 15 = some (.aload_n 1, 1) by decide +kernel) rfl (Nat.le_of_ble_eq_true rfl) ?_
  refine q_getR (vA 0 (a1 + 12) 12) 19 rfl (show sCode 137 16 = some (.getfield 15, 3) by decide +kernel) (show sFR (sKo 137).1 15 = some (10, 15) by decide +kernel) (by decide +kernel) (Or.inl (Or.inl rfl)) rfl ?_
  refine q_iload_n 20 rfl (show sCode 137 19 = some (.iload_n 2, 1) by decide +kernel) rfl ?_
  refine q_iald 21 rfl (show sCode 137 20 = some (.iaload, 1) by decide +kernel) h2 ?_
  refine q_istore_n [vO 5 a0, vO 10 a1, vI x2, vI ((sUpd M (a0 + 1) x2.toNat 0) (a1 + 12) x2.toNat), vN] 22 rfl (show sCode 137 21 = some (.istore_n 3, 1) by decide +kernel) (Nat.lt_of_lt_of_le (Nat.lt_succ_self _) (Nat.le_of_ble_eq_true rfl)) rfl rfl ?_
  refine q_aload_n 23 rfl (show sCode 137 22 = some (.aload_n 1, 1) by decide +kernel) rfl (Nat.le_of_ble_eq_true rfl) ?_
  refine q_iload_n 24 rfl (show sCode 137 23 = some (.iload_n 3, 1) by decide +kernel) rfl ?_
  exact q_virtI [vI ((sUpd M (a0 + 1) x2.toNat 0) (a1 + 12) x2.toNat)] 27 rfl (show sCode 137 24 = some (.invokevirtual 20, 3) by decide +kernel) (show sMR (sKo 137).1 20 = some 55 by decide +kernel) (show 55 < 1000 ∧ sStat 55 = false ∧ sIni 55 = false ∧ sKo 55 = (10, 1, 2, 0, 0) by decide +kernel) rfl (Or.inl rfl) rfl (Nat.le_of_ble_eq_true rfl) rfl rfl rfl (by decide +kernel) kk
theorem b137_27 {d : Nat} {Q : Option sV → sM → sG → Prop} {M : sM} {G : sG} {a0 : Nat} {a1 : Nat} {x2 : Int} {x3 : Int} {s0 : Int}  (k1 : s0 = 0 → sW (sC d) 137 Q 82 [vO 5 a0, vO 10 a1, vI x2, vN, vN] [] M G 0 0) (k2 : s0 ≠ 0 → sW (sC d) 137 Q 30 [vO 5 a0, vO 10 a1, vI x2, vI x3, vN] [] M G 0 0) : sW (sC d) 137 Q 27 [vO 5 a0, vO 10 a1, vI x2, vI x3, vN] [vI s0] M G 0 0 := by
  refine q_ifeq 82 30 rfl (by decide) (show sCode 137 27 = some (.ifCond .eq 55, 3) by decide +kernel) ?_ ?_
  · intro q; refine q_forget (L' := [vO 5 a0, vO 10 a1, vI x2, vN, vN]) 3 rfl ?_; exact k1 q
  · intro q; exact k2 q
theorem b137_30 {d : Nat} {Q : Option sV → sM → sG → Prop} {M : sM} {G : sG} {a0 : Nat} {a1 : Nat} {x2 : Int} {x3 : Int}  (kk : sC d 138 [vO 10 a1, vI x2, vI x3] M G (QI (fun r M1 G1 => sW (sC d) 137 Q 41 [vO 5 a0, vO 10 a1, vI x2, vI x3, vN] (vI r :: [vI x2, vA 0 (a0 + 1) 12]) M1 G1 0 0))) : sW (sC d) 137 Q 30 [vO 5 a0, vO 10 a1, vI x2, vI x3, vN] [] M G 0 0 := by
  refine q_aload_n 31 rfl (show sCode 137 30 = some (.aload_n 0, 1) by decide +kernel) rfl (Nat.le_of_ble_eq_true rfl) ?_
  refine q_getR (vA 0 (a0 + 1) 12) 34 rfl (show sCode 137 31 = some (.getfield 9, 3) by decide +kernel) (show sFR (sKo 137).1 9 = some (5, 0) by decide +kernel) (by decide +kernel) (Or.inl (Or.inl rfl)) rfl ?_
  refine q_iload_n 35 rfl (show sCode 137 34 = some (.iload_n 2, 1) by decide +kernel) rfl ?_
  refine q_aload_n 36 rfl (show sCode 137 35 = some (.aload_n 1, 1) by decide +kernel) rfl (Nat.le_of_ble_eq_true rfl) ?_
  refine q_iload_n 37 rfl (show sCode 137 36 = some (.iload_n 2, 1) by decide +kernel) rfl ?_
  refine q_iload_n 38 rfl (show sCode 137 37 = some (.iload_n 3, 1) by decide +kernel) rfl ?_
  exact q_statI [vO 10 a1, vI x2, vI x3] 41 rfl (show sCode 137 38 = some (.invokestatic 24, 3) by decide +kernel) (show sMR (sKo 137).1 24 = some 138 by decide +kernel) (show 138 < 1000 ∧ sStat 138 = true ∧ sKo 138 = (5, 3, 1, 0, 0) by decide +kernel) rfl rfl (Nat.le_of_ble_eq_true rfl) rfl rfl rfl (by decide +kernel) kk
theorem b137_41 {d : Nat} {Q : Option sV → sM → sG → Prop} {M : sM} {G : sG} {a0 : Nat} {a1 : Nat} {x2 : Int} {x3 : Int} {s0 : Int} {s1 : Int} {sa2 : Nat} (h1 : 0 ≤ s1 ∧ s1 < 12) (h2 : 0 ≤ x2 ∧ x2 < 12) (kk : sC d 61 [vI ((sUpd M sa2 s1.toNat s0) (a1 + 14) x2.toNat)] (sUpd M sa2 s1.toNat s0) G (QI (fun r M1 G1 => sW (sC d) 137 Q 55 [vO 5 a0, vO 10 a1, vI x2, vI x3, vI ((sUpd M sa2 s1.toNat s0) (a1 + 14) x2.toNat)] (vI r :: []) M1 G1 0 0))) : sW (sC d) 137 Q 41 [vO 5 a0, vO 10 a1, vI x2, vI x3, vN] [vI s0, vI s1, vA 0 sa2 12] M G 0 0 := by
  refine q_iast 42 rfl (show sCode 137 41 = some (.iastore, 1) by decide +kernel) h1 ?_
  refine q_aload_n 43 rfl (show sCode 137 42 = some (.aload_n 1, 1) by decide +kernel) rfl (Nat.le_of_ble_eq_true rfl) ?_
  refine q_getR (vA 0 (a1 + 14) 12) 46 rfl (show sCode 137 43 = some (.getfield 28, 3) by decide +kernel) (show sFR (sKo 137).1 28 = some (10, 17) by decide +kernel) (by decide +kernel) (Or.inl (Or.inl rfl)) rfl ?_
  refine q_iload_n 47 rfl (show sCode 137 46 = some (.iload_n 2, 1) by decide +kernel) rfl ?_
  refine q_iald 48 rfl (show sCode 137 47 = some (.iaload, 1) by decide +kernel) h2 ?_
  refine q_istore [vO 5 a0, vO 10 a1, vI x2, vI x3, vI ((sUpd M sa2 s1.toNat s0) (a1 + 14) x2.toNat)] 50 rfl (show sCode 137 48 = some (.istore 4, 2) by decide +kernel) (Nat.lt_of_lt_of_le (Nat.lt_succ_self _) (Nat.le_of_ble_eq_true rfl)) rfl rfl ?_
  refine q_iload 52 rfl (show sCode 137 50 = some (.iload 4, 2) by decide +kernel) rfl ?_
  exact q_statI [vI ((sUpd M sa2 s1.toNat s0) (a1 + 14) x2.toNat)] 55 rfl (show sCode 137 52 = some (.invokestatic 31, 3) by decide +kernel) (show sMR (sKo 137).1 31 = some 61 by decide +kernel) (show 61 < 1000 ∧ sStat 61 = true ∧ sKo 61 = (11, 1, 2, 0, 0) by decide +kernel) rfl rfl (Nat.le_of_ble_eq_true rfl) rfl rfl rfl (by decide +kernel) kk
theorem b137_55 {d : Nat} {Q : Option sV → sM → sG → Prop} {M : sM} {G : sG} {a0 : Nat} {a1 : Nat} {x2 : Int} {x3 : Int} {x4 : Int} {s0 : Int}  (k1 : s0 = 0 → sW (sC d) 137 Q 82 [vO 5 a0, vO 10 a1, vI x2, vN, vN] [] M G 0 0) (k2 : s0 ≠ 0 → sW (sC d) 137 Q 58 [vO 5 a0, vO 10 a1, vI x2, vI x3, vI x4] [] M G 0 0) : sW (sC d) 137 Q 55 [vO 5 a0, vO 10 a1, vI x2, vI x3, vI x4] [vI s0] M G 0 0 := by
  refine q_ifeq 82 58 rfl (by decide) (show sCode 137 55 = some (.ifCond .eq 27, 3) by decide +kernel) ?_ ?_
  · intro q; refine q_forget (L' := [vO 5 a0, vO 10 a1, vI x2, vN, vI x4]) 3 rfl ?_; refine q_forget (L' := [vO 5 a0, vO 10 a1, vI x2, vN, vN]) 4 rfl ?_; exact k1 q
  · intro q; exact k2 q
theorem b137_58 {d : Nat} {Q : Option sV → sM → sG → Prop} {M : sM} {G : sG} {a0 : Nat} {a1 : Nat} {x2 : Int} {x3 : Int} {x4 : Int} (h1 : 0 ≤ x4 ∧ x4 < 12) (k1 : M (a1 + 12) x4.toNat = x3 → sW (sC d) 137 Q 82 [vO 5 a0, vO 10 a1, vI x2, vN, vN] [] M G 0 0) (k2 : M (a1 + 12) x4.toNat ≠ x3 → sW (sC d) 137 Q 69 [vO 5 a0, vO 10 a1, vI x2, vN, vI x4] [] M G 0 0) : sW (sC d) 137 Q 58 [vO 5 a0, vO 10 a1, vI x2, vI x3, vI x4] [] M G 0 0 := by
  refine q_aload_n 59 rfl (show sCode 137 58 = some (.aload_n 1, 1) by decide +kernel) rfl (Nat.le_of_ble_eq_true rfl) ?_
  refine q_getR (vA 0 (a1 + 12) 12) 62 rfl (show sCode 137 59 = some (.getfield 15, 3) by decide +kernel) (show sFR (sKo 137).1 15 = some (10, 15) by decide +kernel) (by decide +kernel) (Or.inl (Or.inl rfl)) rfl ?_
  refine q_iload 64 rfl (show sCode 137 62 = some (.iload 4, 2) by decide +kernel) rfl ?_
  refine q_iald 65 rfl (show sCode 137 64 = some (.iaload, 1) by decide +kernel) h1 ?_
  refine q_iload_n 66 rfl (show sCode 137 65 = some (.iload_n 3, 1) by decide +kernel) rfl ?_
  refine q_icmpeq 82 69 rfl (by decide) (show sCode 137 66 = some (.if_icmp .eq 16, 3) by decide +kernel) ?_ ?_
  · intro q; refine q_forget (L' := [vO 5 a0, vO 10 a1, vI x2, vN, vI x4]) 3 rfl ?_; refine q_forget (L' := [vO 5 a0, vO 10 a1, vI x2, vN, vN]) 4 rfl ?_; exact k1 q
  · intro q; refine q_forget (L' := [vO 5 a0, vO 10 a1, vI x2, vN, vI x4]) 3 rfl ?_; exact k2 q
theorem b137_69 {d : Nat} {Q : Option sV → sM → sG → Prop} {M : sM} {G : sG} {a0 : Nat} {a1 : Nat} {x2 : Int} {x4 : Int} (h1 : 0 ≤ x2 ∧ x2 < 12) (h2 : 0 ≤ x2 ∧ x2 < 12) (kk : sW (sC d) 137 Q 82 [vO 5 a0, vO 10 a1, vI x2, vN, vN] [] (sUpd M (a0 + 1) x2.toNat (iOr (M (a0 + 1) x2.toNat) (iShl 1 x4))) G 0 0) : sW (sC d) 137 Q 69 [vO 5 a0, vO 10 a1, vI x2, vN, vI x4] [] M G 0 0 := by
  refine q_aload_n 70 rfl (show sCode 137 69 = some (.aload_n 0, 1) by decide +kernel) rfl (Nat.le_of_ble_eq_true rfl) ?_
  refine q_getR (vA 0 (a0 + 1) 12) 73 rfl (show sCode 137 70 = some (.getfield 9, 3) by decide +kernel) (show sFR (sKo 137).1 9 = some (5, 0) by decide +kernel) (by decide +kernel) (Or.inl (Or.inl rfl)) rfl ?_
  refine q_iload_n 74 rfl (show sCode 137 73 = some (.iload_n 2, 1) by decide +kernel) rfl ?_
  refine q_dup2 75 rfl (show sCode 137 74 = some (.dup2, 1) by decide +kernel) rfl rfl ?_
  refine q_iald 76 rfl (show sCode 137 75 = some (.iaload, 1) by decide +kernel) h1 ?_
  refine q_iconst 77 rfl (show sCode 137 76 = some (.iconst 1, 1) by decide +kernel) ⟨by decide, by decide⟩ ?_
  refine q_iload 79 rfl (show sCode 137 77 = some (.iload 4, 2) by decide +kernel) rfl ?_
  refine q_ishl 80 rfl (show sCode 137 79 = some (.ishl, 1) by decide +kernel) ?_
  refine q_ior 81 rfl (show sCode 137 80 = some (.ior, 1) by decide +kernel) ?_
  refine q_iast 82 rfl (show sCode 137 81 = some (.iastore, 1) by decide +kernel) h2 ?_
  refine q_forget (L' := [vO 5 a0, vO 10 a1, vI x2, vN, vN]) 4 rfl ?_
  exact kk
theorem b137_82 {d : Nat} {Q : Option sV → sM → sG → Prop} {M : sM} {G : sG} {a0 : Nat} {a1 : Nat} {x2 : Int} (h1 : sI (x2 + 1)) (kk : sW (sC d) 137 Q 2 [vO 5 a0, vO 10 a1, vI (x2 + 1), vN, vN] [] M G 0 0) : sW (sC d) 137 Q 82 [vO 5 a0, vO 10 a1, vI x2, vN, vN] [] M G 0 0 := by
  refine q_iinc [vO 5 a0, vO 10 a1, vI (x2 + 1), vN, vN] 85 rfl (show sCode 137 82 = some (.iinc 2 1, 3) by decide +kernel) rfl rfl h1 rfl ?_
  refine q_goto 2 (by decide) (show sCode 137 85 = some (.goto (-83), 3) by decide +kernel) ?_
  exact kk
theorem b137_88 {d : Nat} {P : sM → sG → Prop} {M : sM} {G : sG}   (kk : P M G) : sW (sC d) 137 (QV P) 88 [vN, vN, vN, vN, vN] [] M G 0 0 := by
  exact q_vret (show sCode 137 88 = some (.return_, 1) by decide +kernel) (by decide +kernel) (by decide +kernel) kk
-- 138 AfterTheLast$Rings.aheadOf (LAfterTheLast$Town;II)I
theorem b138_0 {d : Nat} {Q : Option sV → sM → sG → Prop} {M : sM} {G : sG} {a0 : Nat} {x1 : Int} {x2 : Int} (h1 : 0 ≤ x2 ∧ x2 < 6) (k1 : M (a0 + 1) x2.toNat ≠ 2 → sW (sC d) 138 Q 12 [vO 10 a0, vI x1, vI x2, vN, vN, vN, vN, vN, vN] [] M G 0 0) (k2 : M (a0 + 1) x2.toNat = 2 → sW (sC d) 138 Q 10 [vN, vN, vN, vN, vN, vN, vN, vN, vN] [] M G 0 0) : sW (sC d) 138 Q 0 [vO 10 a0, vI x1, vI x2, vN, vN, vN, vN, vN, vN] [] M G 0 0 := by
  refine q_aload_n 1 rfl (show sCode 138 0 = some (.aload_n 0, 1) by decide +kernel) rfl (Nat.le_of_ble_eq_true rfl) ?_
  refine q_getR (vA 0 (a0 + 1) 6) 4 rfl (show sCode 138 1 = some (.getfield 34, 3) by decide +kernel) (show sFR (sKo 138).1 34 = some (10, 1) by decide +kernel) (by decide +kernel) (Or.inl (Or.inl rfl)) rfl ?_
  refine q_iload_n 5 rfl (show sCode 138 4 = some (.iload_n 2, 1) by decide +kernel) rfl ?_
  refine q_iald 6 rfl (show sCode 138 5 = some (.iaload, 1) by decide +kernel) h1 ?_
  refine q_iconst 7 rfl (show sCode 138 6 = some (.iconst 2, 1) by decide +kernel) ⟨by decide, by decide⟩ ?_
  refine q_icmpne 12 10 rfl (by decide) (show sCode 138 7 = some (.if_icmp .ne 5, 3) by decide +kernel) ?_ ?_
  · intro q; exact k1 q
  · intro q; refine q_forget (L' := [vN, vI x1, vI x2, vN, vN, vN, vN, vN, vN]) 0 rfl ?_; refine q_forget (L' := [vN, vN, vI x2, vN, vN, vN, vN, vN, vN]) 1 rfl ?_; refine q_forget (L' := [vN, vN, vN, vN, vN, vN, vN, vN, vN]) 2 rfl ?_; exact k2 q
theorem b138_10 {d : Nat} {P : Int → sM → sG → Prop} {M : sM} {G : sG}   (kk : P 0 M G) : sW (sC d) 138 (QI P) 10 [vN, vN, vN, vN, vN, vN, vN, vN, vN] [] M G 0 0 := by
  refine q_iconst 11 rfl (show sCode 138 10 = some (.iconst 0, 1) by decide +kernel) ⟨by decide, by decide⟩ ?_
  exact q_iret (show sCode 138 11 = some (.ireturn, 1) by decide +kernel) (by decide +kernel) (by decide +kernel) kk
theorem b138_12 {d : Nat} {Q : Option sV → sM → sG → Prop} {M : sM} {G : sG} {a0 : Nat} {x1 : Int} {x2 : Int}  (kk : sC d 75 [vO 10 a0, vI x1] M G (QI (fun r M1 G1 => sW (sC d) 138 Q 17 [vO 10 a0, vN, vI x2, vN, vN, vN, vN, vN, vN] (vI r :: []) M1 G1 0 0))) : sW (sC d) 138 Q 12 [vO 10 a0, vI x1, vI x2, vN, vN, vN, vN, vN, vN] [] M G 0 0 := by
  refine q_aload_n 13 rfl (show sCode 138 12 = some (.aload_n 0, 1) by decide +kernel) rfl (Nat.le_of_ble_eq_true rfl) ?_
  refine q_iload_n 14 rfl (show sCode 138 13 = some (.iload_n 1, 1) by decide +kernel) rfl ?_
  refine q_forget (L' := [vO 10 a0, vN, vI x2, vN, vN, vN, vN, vN, vN]) 1 rfl ?_
  exact q_virtI [vI x1] 17 rfl (show sCode 138 14 = some (.invokevirtual 37, 3) by decide +kernel) (show sMR (sKo 138).1 37 = some 75 by decide +kernel) (show 75 < 1000 ∧ sStat 75 = false ∧ sIni 75 = false ∧ sKo 75 = (10, 1, 1, 0, 0) by decide +kernel) rfl (Or.inl rfl) rfl (Nat.le_of_ble_eq_true rfl) rfl rfl rfl (by decide +kernel) kk
theorem b138_17 {d : Nat} {Q : Option sV → sM → sG → Prop} {M : sM} {G : sG} {a0 : Nat} {x2 : Int} {s0 : Int} (h1 : 0 ≤ x2 ∧ x2 < 6) (k1 : M (a0 + 1) x2.toNat ≠ 0 → sW (sC d) 138 Q 31 [vO 10 a0, vN, vI x2, vI s0, vN, vN, vN, vN, vN] [] M G 0 0) (k2 : M (a0 + 1) x2.toNat = 0 → sW (sC d) 138 Q 27 [vO 10 a0, vN, vI x2, vI s0, vN, vN, vN, vN, vN] [] M G 0 0) : sW (sC d) 138 Q 17 [vO 10 a0, vN, vI x2, vN, vN, vN, vN, vN, vN] [vI s0] M G 0 0 := by
  refine q_istore_n [vO 10 a0, vN, vI x2, vI s0, vN, vN, vN, vN, vN] 18 rfl (show sCode 138 17 = some (.istore_n 3, 1) by decide +kernel) (Nat.lt_of_lt_of_le (Nat.lt_succ_self _) (Nat.le_of_ble_eq_true rfl)) rfl rfl ?_
  refine q_aload_n 19 rfl (show sCode 138 18 = some (.aload_n 0, 1) by decide +kernel) rfl (Nat.le_of_ble_eq_true rfl) ?_
  refine q_getR (vA 0 (a0 + 1) 6) 22 rfl (show sCode 138 19 = some (.getfield 34, 3) by decide +kernel) (show sFR (sKo 138).1 34 = some (10, 1) by decide +kernel) (by decide +kernel) (Or.inl (Or.inl rfl)) rfl ?_
  refine q_iload_n 23 rfl (show sCode 138 22 = some (.iload_n 2, 1) by decide +kernel) rfl ?_
  refine q_iald 24 rfl (show sCode 138 23 = some (.iaload, 1) by decide +kernel) h1 ?_
  refine q_ifne 31 27 rfl (by decide) (show sCode 138 24 = some (.ifCond .ne 7, 3) by decide +kernel) ?_ ?_
  · intro q; exact k1 q
  · intro q; exact k2 q
theorem b138_27 {d : Nat} {Q : Option sV → sM → sG → Prop} {M : sM} {G : sG} {a0 : Nat} {x2 : Int} {x3 : Int}  (kk : sW (sC d) 138 Q 32 [vO 10 a0, vN, vI x2, vI x3, vN, vN, vN, vN, vN] [vI 1] M G 0 0) : sW (sC d) 138 Q 27 [vO 10 a0, vN, vI x2, vI x3, vN, vN, vN, vN, vN] [] M G 0 0 := by
  refine q_iconst 28 rfl (show sCode 138 27 = some (.iconst 1, 1) by decide +kernel) ⟨by decide, by decide⟩ ?_
  refine q_goto 32 (by decide) (show sCode 138 28 = some (.goto 4, 3) by decide +kernel) ?_
  exact kk
theorem b138_31 {d : Nat} {Q : Option sV → sM → sG → Prop} {M : sM} {G : sG} {a0 : Nat} {x2 : Int} {x3 : Int}  (kk : sW (sC d) 138 Q 32 [vO 10 a0, vN, vI x2, vI x3, vN, vN, vN, vN, vN] [vI 0] M G 0 0) : sW (sC d) 138 Q 31 [vO 10 a0, vN, vI x2, vI x3, vN, vN, vN, vN, vN] [] M G 0 0 := by
  refine q_iconst 32 rfl (show sCode 138 31 = some (.iconst 0, 1) by decide +kernel) ⟨by decide, by decide⟩ ?_
  exact kk
theorem b138_32 {d : Nat} {Q : Option sV → sM → sG → Prop} {M : sM} {G : sG} {a0 : Nat} {x2 : Int} {x3 : Int} {s0 : Int}  (k1 : s0 = 0 → sW (sC d) 138 Q 45 [vO 10 a0, vN, vI x2, vI x3, vI s0, vN, vN, vN, vN] [] M G 0 0) (k2 : s0 ≠ 0 → sW (sC d) 138 Q 39 [vO 10 a0, vN, vI x2, vI x3, vI s0, vN, vN, vN, vN] [] M G 0 0) : sW (sC d) 138 Q 32 [vO 10 a0, vN, vI x2, vI x3, vN, vN, vN, vN, vN] [vI s0] M G 0 0 := by
  refine q_istore [vO 10 a0, vN, vI x2, vI x3, vI s0, vN, vN, vN, vN] 34 rfl (show sCode 138 32 = some (.istore 4, 2) by decide +kernel) (Nat.lt_of_lt_of_le (Nat.lt_succ_self _) (Nat.le_of_ble_eq_true rfl)) rfl rfl ?_
  refine q_iload 36 rfl (show sCode 138 34 = some (.iload 4, 2) by decide +kernel) rfl ?_
  refine q_ifeq 45 39 rfl (by decide) (show sCode 138 36 = some (.ifCond .eq 9, 3) by decide +kernel) ?_ ?_
  · intro q; exact k1 q
  · intro q; exact k2 q
theorem b138_39 {d : Nat} {Q : Option sV → sM → sG → Prop} {M : sM} {G : sG} {a0 : Nat} {x2 : Int} {x3 : Int} {x4 : Int} (h1 : sI (x3 + 1)) (kk : sW (sC d) 138 Q 46 [vO 10 a0, vN, vI x2, vI x3, vI x4, vN, vN, vN, vN] [vI (x3 + 1)] M G 0 0) : sW (sC d) 138 Q 39 [vO 10 a0, vN, vI x2, vI x3, vI x4, vN, vN, vN, vN] [] M G 0 0 := by
  refine q_iload_n 40 rfl (show sCode 138 39 = some (.iload_n 3, 1) by decide +kernel) rfl ?_
  refine q_iconst 41 rfl (show sCode 138 40 = some (.iconst 1, 1) by decide +kernel) ⟨by decide, by decide⟩ ?_
  refine q_iadd 42 rfl (show sCode 138 41 = some (.iadd, 1) by decide +kernel) h1 ?_
  refine q_goto 46 (by decide) (show sCode 138 42 = some (.goto 4, 3) by decide +kernel) ?_
  exact kk
theorem b138_45 {d : Nat} {Q : Option sV → sM → sG → Prop} {M : sM} {G : sG} {a0 : Nat} {x2 : Int} {x3 : Int} {x4 : Int}  (kk : sW (sC d) 138 Q 46 [vO 10 a0, vN, vI x2, vI x3, vI x4, vN, vN, vN, vN] [vI 0] M G 0 0) : sW (sC d) 138 Q 45 [vO 10 a0, vN, vI x2, vI x3, vI x4, vN, vN, vN, vN] [] M G 0 0 := by
  refine q_iconst 46 rfl (show sCode 138 45 = some (.iconst 0, 1) by decide +kernel) ⟨by decide, by decide⟩ ?_
  exact kk
theorem b138_46 {d : Nat} {Q : Option sV → sM → sG → Prop} {M : sM} {G : sG} {a0 : Nat} {x2 : Int} {x3 : Int} {x4 : Int} {s0 : Int}  (k1 : x4 = 0 → sW (sC d) 138 Q 62 [vO 10 a0, vN, vI x2, vI x3, vN, vI s0, vN, vN, vN] [] M G 0 0) (k2 : x4 ≠ 0 → sW (sC d) 138 Q 53 [vO 10 a0, vN, vI x2, vN, vN, vI s0, vN, vN, vN] [] M G 0 0) : sW (sC d) 138 Q 46 [vO 10 a0, vN, vI x2, vI x3, vI x4, vN, vN, vN, vN] [vI s0] M G 0 0 := by
  refine q_istore [vO 10 a0, vN, vI x2, vI x3, vI x4, vI s0, vN, vN, vN] 48 rfl (show sCode 138 46 = some (.istore 5, 2) by decide +kernel) (Nat.lt_of_lt_of_le (Nat.lt_succ_self _) (Nat.le_of_ble_eq_true rfl)) rfl rfl ?_
  refine q_iload 50 rfl (show sCode 138 48 = some (.iload 4, 2) by decide +kernel) rfl ?_
  refine q_ifeq 62 53 rfl (by decide) (show sCode 138 50 = some (.ifCond .eq 12, 3) by decide +kernel) ?_ ?_
  · intro q; refine q_forget (L' := [vO 10 a0, vN, vI x2, vI x3, vN, vI s0, vN, vN, vN]) 4 rfl ?_; exact k1 q
  · intro q; refine q_forget (L' := [vO 10 a0, vN, vI x2, vN, vI x4, vI s0, vN, vN, vN]) 3 rfl ?_; refine q_forget (L' := [vO 10 a0, vN, vI x2, vN, vN, vI s0, vN, vN, vN]) 4 rfl ?_; exact k2 q
theorem b138_53 {d : Nat} {Q : Option sV → sM → sG → Prop} {M : sM} {G : sG} {a0 : Nat} {x2 : Int} {x5 : Int} (h1 : 0 ≤ x2 ∧ x2 < 6) (kk : sW (sC d) 138 Q 63 [vO 10 a0, vN, vI x2, vN, vN, vI x5, vN, vN, vN] [vI (M (a0 + 4) x2.toNat)] M G 0 0) : sW (sC d) 138 Q 53 [vO 10 a0, vN, vI x2, vN, vN, vI x5, vN, vN, vN] [] M G 0 0 := by
  refine q_aload_n 54 rfl (show sCode 138 53 = some (.aload_n 0, 1) by decide +kernel) rfl (Nat.le_of_ble_eq_true rfl) ?_
  refine q_getR (vA 0 (a0 + 4) 6) 57 rfl (show sCode 138 54 = some (.getfield 41, 3) by decide +kernel) (show sFR (sKo 138).1 41 = some (10, 4) by decide +kernel) (by decide +kernel) (Or.inl (Or.inl rfl)) rfl ?_
  refine q_iload_n 58 rfl (show sCode 138 57 = some (.iload_n 2, 1) by decide +kernel) rfl ?_
  refine q_iald 59 rfl (show sCode 138 58 = some (.iaload, 1) by decide +kernel) h1 ?_
  refine q_goto 63 (by decide) (show sCode 138 59 = some (.goto 4, 3) by decide +kernel) ?_
  exact kk
theorem b138_62 {d : Nat} {Q : Option sV → sM → sG → Prop} {M : sM} {G : sG} {a0 : Nat} {x2 : Int} {x3 : Int} {x5 : Int}  (kk : sW (sC d) 138 Q 63 [vO 10 a0, vN, vI x2, vN, vN, vI x5, vN, vN, vN] [vI x3] M G 0 0) : sW (sC d) 138 Q 62 [vO 10 a0, vN, vI x2, vI x3, vN, vI x5, vN, vN, vN] [] M G 0 0 := by
  refine q_iload_n 63 rfl (show sCode 138 62 = some (.iload_n 3, 1) by decide +kernel) rfl ?_
  refine q_forget (L' := [vO 10 a0, vN, vI x2, vN, vN, vI x5, vN, vN, vN]) 3 rfl ?_
  exact kk
theorem b138_63 {d : Nat} {Q : Option sV → sM → sG → Prop} {M : sM} {G : sG} {a0 : Nat} {x2 : Int} {x5 : Int} {s0 : Int}  (kk : sW (sC d) 138 Q 72 [vO 10 a0, vN, vI x2, vN, vN, vN, vI s0, vI 0, vI x5] [] M G 0 0) : sW (sC d) 138 Q 63 [vO 10 a0, vN, vI x2, vN, vN, vI x5, vN, vN, vN] [vI s0] M G 0 0 := by
  refine q_istore [vO 10 a0, vN, vI x2, vN, vN, vI x5, vI s0, vN, vN] 65 rfl (show sCode 138 63 = some (.istore 6, 2) by decide +kernel) (Nat.lt_of_lt_of_le (Nat.lt_succ_self _) (Nat.le_of_ble_eq_true rfl)) rfl rfl ?_
  refine q_iconst 66 rfl (show sCode 138 65 = some (.iconst 0, 1) by decide +kernel) ⟨by decide, by decide⟩ ?_
  refine q_istore [vO 10 a0, vN, vI x2, vN, vN, vI x5, vI s0, vI 0, vN] 68 rfl (show sCode 138 66 = some (.istore 7, 2) by decide +kernel) (Nat.lt_of_lt_of_le (Nat.lt_succ_self _) (Nat.le_of_ble_eq_true rfl)) rfl rfl ?_
  refine q_iload 70 rfl (show sCode 138 68 = some (.iload 5, 2) by decide +kernel) rfl ?_
  refine q_istore [vO 10 a0, vN, vI x2, vN, vN, vI x5, vI s0, vI 0, vI x5] 72 rfl (show sCode 138 70 = some (.istore 8, 2) by decide +kernel) (Nat.lt_of_lt_of_le (Nat.lt_succ_self _) (Nat.le_of_ble_eq_true rfl)) rfl rfl ?_
  refine q_forget (L' := [vO 10 a0, vN, vI x2, vN, vN, vN, vI s0, vI 0, vI x5]) 5 rfl ?_
  exact kk
theorem b138_72 {d : Nat} {Q : Option sV → sM → sG → Prop} {M : sM} {G : sG} {a0 : Nat} {x2 : Int} {x6 : Int} {x7 : Int} {x8 : Int}  (k1 : x6 ≤ x8 → sW (sC d) 138 Q 104 [vN, vN, vN, vN, vN, vN, vN, vI x7, vN] [] M G 0 0) (k2 : x8 < x6 → sW (sC d) 138 Q 79 [vO 10 a0, vN, vI x2, vN, vN, vN, vI x6, vI x7, vI x8] [] M G 0 0) : sW (sC d) 138 Q 72 [vO 10 a0, vN, vI x2, vN, vN, vN, vI x6, vI x7, vI x8] [] M G 0 0 := by
  refine q_iload 74 rfl (show sCode 138 72 = some (.iload 8, 2) by decide +kernel) rfl ?_
  refine q_iload 76 rfl (show sCode 138 74 = some (.iload 6, 2) by decide +kernel) rfl ?_
  refine q_icmpge 104 79 rfl (by decide) (show sCode 138 76 = some (.if_icmp .ge 28, 3) by decide +kernel) ?_ ?_
  · intro q; refine q_forget (L' := [vN, vN, vI x2, vN, vN, vN, vI x6, vI x7, vI x8]) 0 rfl ?_; refine q_forget (L' := [vN, vN, vN, vN, vN, vN, vI x6, vI x7, vI x8]) 2 rfl ?_; refine q_forget (L' := [vN, vN, vN, vN, vN, vN, vN, vI x7, vI x8]) 6 rfl ?_; refine q_forget (L' := [vN, vN, vN, vN, vN, vN, vN, vI x7, vN]) 8 rfl ?_; exact k1 q
  · intro q; exact k2 q
theorem b138_79 {d : Nat} {Q : Option sV → sM → sG → Prop} {M : sM} {G : sG} {a0 : Nat} {x2 : Int} {x6 : Int} {x7 : Int} {x8 : Int} (h1 : sI (x2 * 12)) (h2 : sI ((x2 * 12) + x8)) (h3 : 0 ≤ (x2 * 12) + x8 ∧ (x2 * 12) + x8 < 72) (h4 : sI (x8 + 1)) (kk : sW (sC d) 138 Q 72 [vO 10 a0, vN, vI x2, vN, vN, vN, vI x6, vI (iOr x7 (iShl 1 (M (a0 + 5) ((x2 * 12) + x8).toNat))), vI (x8 + 1)] [] M G 0 0) : sW (sC d) 138 Q 79 [vO 10 a0, vN, vI x2, vN, vN, vN, vI x6, vI x7, vI x8] [] M G 0 0 := by
  refine q_iload 81 rfl (show sCode 138 79 = some (.iload 7, 2) by decide +kernel) rfl ?_
  refine q_iconst 82 rfl (show sCode 138 81 = some (.iconst 1, 1) by decide +kernel) ⟨by decide, by decide⟩ ?_
  refine q_aload_n 83 rfl (show sCode 138 82 = some (.aload_n 0, 1) by decide +kernel) rfl (Nat.le_of_ble_eq_true rfl) ?_
  refine q_getR (vA 0 (a0 + 5) 72) 86 rfl (show sCode 138 83 = some (.getfield 44, 3) by decide +kernel) (show sFR (sKo 138).1 44 = some (10, 5) by decide +kernel) (by decide +kernel) (Or.inl (Or.inl rfl)) rfl ?_
  refine q_iload_n 87 rfl (show sCode 138 86 = some (.iload_n 2, 1) by decide +kernel) rfl ?_
  refine q_bipush 89 rfl (show sCode 138 87 = some (.bipush 12, 2) by decide +kernel) ⟨by decide, by decide⟩ (by decide +kernel) ?_
  refine q_imul 90 rfl (show sCode 138 89 = some (.imul, 1) by decide +kernel) h1 ?_
  refine q_iload 92 rfl (show sCode 138 90 = some (.iload 8, 2) by decide +kernel) rfl ?_
  refine q_iadd 93 rfl (show sCode 138 92 = some (.iadd, 1) by decide +kernel) h2 ?_
  refine q_iald 94 rfl (show sCode 138 93 = some (.iaload, 1) by decide +kernel) h3 ?_
  refine q_ishl 95 rfl (show sCode 138 94 = some (.ishl, 1) by decide +kernel) ?_
  refine q_ior 96 rfl (show sCode 138 95 = some (.ior, 1) by decide +kernel) ?_
  refine q_istore [vO 10 a0, vN, vI x2, vN, vN, vN, vI x6, vI (iOr x7 (iShl 1 (M (a0 + 5) ((x2 * 12) + x8).toNat))), vI x8] 98 rfl (show sCode 138 96 = some (.istore 7, 2) by decide +kernel) (Nat.lt_of_lt_of_le (Nat.lt_succ_self _) (Nat.le_of_ble_eq_true rfl)) rfl rfl ?_
  refine q_iinc [vO 10 a0, vN, vI x2, vN, vN, vN, vI x6, vI (iOr x7 (iShl 1 (M (a0 + 5) ((x2 * 12) + x8).toNat))), vI (x8 + 1)] 101 rfl (show sCode 138 98 = some (.iinc 8 1, 3) by decide +kernel) rfl rfl h4 rfl ?_
  refine q_goto 72 (by decide) (show sCode 138 101 = some (.goto (-29), 3) by decide +kernel) ?_
  exact kk
theorem b138_104 {d : Nat} {P : Int → sM → sG → Prop} {M : sM} {G : sG} {x7 : Int}  (kk : P x7 M G) : sW (sC d) 138 (QI P) 104 [vN, vN, vN, vN, vN, vN, vN, vI x7, vN] [] M G 0 0 := by
  refine q_iload 106 rfl (show sCode 138 104 = some (.iload 7, 2) by decide +kernel) rfl ?_
  exact q_iret (show sCode 138 106 = some (.ireturn, 1) by decide +kernel) (by decide +kernel) (by decide +kernel) kk
-- 139 AfterTheLast$Rings.shortest ()I
theorem b139_0 {d : Nat} {Q : Option sV → sM → sG → Prop} {M : sM} {G : sG} {a0 : Nat}  (kk : sW (sC d) 139 Q 4 [vO 5 a0, vI 0, vI 0, vN] [] M G 0 0) : sW (sC d) 139 Q 0 [vO 5 a0, vN, vN, vN] [] M G 0 0 := by
  refine q_iconst 1 rfl (show sCode 139 0 = some (.iconst 0, 1) by decide +kernel) ⟨by decide, by decide⟩ ?_
  refine q_istore_n [vO 5 a0, vI 0, vN, vN] 2 rfl (show sCode 139 1 = some (.istore_n 1, 1) by decide +kernel) (Nat.lt_of_lt_of_le (Nat.lt_succ_self _) (Nat.le_of_ble_eq_true rfl)) rfl rfl ?_
  refine q_iconst 3 rfl (show sCode 139 2 = some (.iconst 0, 1) by decide +kernel) ⟨by decide, by decide⟩ ?_
  refine q_istore_n [vO 5 a0, vI 0, vI 0, vN] 4 rfl (show sCode 139 3 = some (.istore_n 2, 1) by decide +kernel) (Nat.lt_of_lt_of_le (Nat.lt_succ_self _) (Nat.le_of_ble_eq_true rfl)) rfl rfl ?_
  exact kk
theorem b139_4 {d : Nat} {Q : Option sV → sM → sG → Prop} {M : sM} {G : sG} {a0 : Nat} {x1 : Int} {x2 : Int}  (k1 : 12 ≤ x2 → sW (sC d) 139 Q 37 [vN, vI x1, vN, vN] [] M G 0 0) (k2 : x2 < 12 → sW (sC d) 139 Q 10 [vO 5 a0, vI x1, vI x2, vN] [] M G 0 0) : sW (sC d) 139 Q 4 [vO 5 a0, vI x1, vI x2, vN] [] M G 0 0 := by
  refine q_iload_n 5 rfl (show sCode 139 4 = some (.iload_n 2, 1) by decide +kernel) rfl ?_
  refine q_bipush 7 rfl (show sCode 139 5 = some (.bipush 12, 2) by decide +kernel) ⟨by decide, by decide⟩ (by decide +kernel) ?_
  refine q_icmpge 37 10 rfl (by decide) (show sCode 139 7 = some (.if_icmp .ge 30, 3) by decide +kernel) ?_ ?_
  · intro q; refine q_forget (L' := [vN, vI x1, vI x2, vN]) 0 rfl ?_; refine q_forget (L' := [vN, vI x1, vN, vN]) 2 rfl ?_; exact k1 q
  · intro q; exact k2 q
theorem b139_10 {d : Nat} {Q : Option sV → sM → sG → Prop} {M : sM} {G : sG} {a0 : Nat} {x1 : Int} {x2 : Int}  (kk : sC d 140 [vO 5 a0, vI x2] M G (QI (fun r M1 G1 => sW (sC d) 139 Q 15 [vO 5 a0, vI x1, vI x2, vN] (vI r :: []) M1 G1 0 0))) : sW (sC d) 139 Q 10 [vO 5 a0, vI x1, vI x2, vN] [] M G 0 0 := by
  refine q_aload_n 11 rfl (show sCode 139 10 = some (.aload_n 0, 1) by decide +kernel) rfl (Nat.le_of_ble_eq_true rfl) ?_
  refine q_iload_n 12 rfl (show sCode 139 11 = some (.iload_n 2, 1) by decide +kernel) rfl ?_
  exact q_virtI [vI x2] 15 rfl (show sCode 139 12 = some (.invokevirtual 47, 3) by decide +kernel) (show sMR (sKo 139).1 47 = some 140 by decide +kernel) (show 140 < 1000 ∧ sStat 140 = false ∧ sIni 140 = false ∧ sKo 140 = (5, 1, 1, 0, 0) by decide +kernel) rfl (Or.inl rfl) rfl (Nat.le_of_ble_eq_true rfl) rfl rfl rfl (by decide +kernel) kk
theorem b139_15 {d : Nat} {Q : Option sV → sM → sG → Prop} {M : sM} {G : sG} {a0 : Nat} {x1 : Int} {x2 : Int} {s0 : Int}  (k1 : s0 ≤ 0 → sW (sC d) 139 Q 31 [vO 5 a0, vI x1, vI x2, vN] [] M G 0 0) (k2 : 0 < s0 → sW (sC d) 139 Q 20 [vO 5 a0, vI x1, vI x2, vI s0] [] M G 0 0) : sW (sC d) 139 Q 15 [vO 5 a0, vI x1, vI x2, vN] [vI s0] M G 0 0 := by
  refine q_istore_n [vO 5 a0, vI x1, vI x2, vI s0] 16 rfl (show sCode 139 15 = some (.istore_n 3, 1) by decide +kernel) (Nat.lt_of_lt_of_le (Nat.lt_succ_self _) (Nat.le_of_ble_eq_true rfl)) rfl rfl ?_
  refine q_iload_n 17 rfl (show sCode 139 16 = some (.iload_n 3, 1) by decide +kernel) rfl ?_
  refine q_ifle 31 20 rfl (by decide) (show sCode 139 17 = some (.ifCond .le 14, 3) by decide +kernel) ?_ ?_
  · intro q; refine q_forget (L' := [vO 5 a0, vI x1, vI x2, vN]) 3 rfl ?_; exact k1 q
  · intro q; exact k2 q
theorem b139_20 {d : Nat} {Q : Option sV → sM → sG → Prop} {M : sM} {G : sG} {a0 : Nat} {x1 : Int} {x2 : Int} {x3 : Int}  (k1 : x1 = 0 → sW (sC d) 139 Q 29 [vO 5 a0, vN, vI x2, vI x3] [] M G 0 0) (k2 : x1 ≠ 0 → sW (sC d) 139 Q 24 [vO 5 a0, vI x1, vI x2, vI x3] [] M G 0 0) : sW (sC d) 139 Q 20 [vO 5 a0, vI x1, vI x2, vI x3] [] M G 0 0 := by
  refine q_iload_n 21 rfl (show sCode 139 20 = some (.iload_n 1, 1) by decide +kernel) rfl ?_
  refine q_ifeq 29 24 rfl (by decide) (show sCode 139 21 = some (.ifCond .eq 8, 3) by decide +kernel) ?_ ?_
  · intro q; refine q_forget (L' := [vO 5 a0, vN, vI x2, vI x3]) 1 rfl ?_; exact k1 q
  · intro q; exact k2 q
theorem b139_24 {d : Nat} {Q : Option sV → sM → sG → Prop} {M : sM} {G : sG} {a0 : Nat} {x1 : Int} {x2 : Int} {x3 : Int}  (k1 : x1 ≤ x3 → sW (sC d) 139 Q 31 [vO 5 a0, vI x1, vI x2, vN] [] M G 0 0) (k2 : x3 < x1 → sW (sC d) 139 Q 29 [vO 5 a0, vN, vI x2, vI x3] [] M G 0 0) : sW (sC d) 139 Q 24 [vO 5 a0, vI x1, vI x2, vI x3] [] M G 0 0 := by
  refine q_iload_n 25 rfl (show sCode 139 24 = some (.iload_n 3, 1) by decide +kernel) rfl ?_
  refine q_iload_n 26 rfl (show sCode 139 25 = some (.iload_n 1, 1) by decide +kernel) rfl ?_
  refine q_icmpge 31 29 rfl (by decide) (show sCode 139 26 = some (.if_icmp .ge 5, 3) by decide +kernel) ?_ ?_
  · intro q; refine q_forget (L' := [vO 5 a0, vI x1, vI x2, vN]) 3 rfl ?_; exact k1 q
  · intro q; refine q_forget (L' := [vO 5 a0, vN, vI x2, vI x3]) 1 rfl ?_; exact k2 q
theorem b139_29 {d : Nat} {Q : Option sV → sM → sG → Prop} {M : sM} {G : sG} {a0 : Nat} {x2 : Int} {x3 : Int}  (kk : sW (sC d) 139 Q 31 [vO 5 a0, vI x3, vI x2, vN] [] M G 0 0) : sW (sC d) 139 Q 29 [vO 5 a0, vN, vI x2, vI x3] [] M G 0 0 := by
  refine q_iload_n 30 rfl (show sCode 139 29 = some (.iload_n 3, 1) by decide +kernel) rfl ?_
  refine q_istore_n [vO 5 a0, vI x3, vI x2, vI x3] 31 rfl (show sCode 139 30 = some (.istore_n 1, 1) by decide +kernel) (Nat.lt_of_lt_of_le (Nat.lt_succ_self _) (Nat.le_of_ble_eq_true rfl)) rfl rfl ?_
  refine q_forget (L' := [vO 5 a0, vI x3, vI x2, vN]) 3 rfl ?_
  exact kk
theorem b139_31 {d : Nat} {Q : Option sV → sM → sG → Prop} {M : sM} {G : sG} {a0 : Nat} {x1 : Int} {x2 : Int} (h1 : sI (x2 + 1)) (kk : sW (sC d) 139 Q 4 [vO 5 a0, vI x1, vI (x2 + 1), vN] [] M G 0 0) : sW (sC d) 139 Q 31 [vO 5 a0, vI x1, vI x2, vN] [] M G 0 0 := by
  refine q_iinc [vO 5 a0, vI x1, vI (x2 + 1), vN] 34 rfl (show sCode 139 31 = some (.iinc 2 1, 3) by decide +kernel) rfl rfl h1 rfl ?_
  refine q_goto 4 (by decide) (show sCode 139 34 = some (.goto (-30), 3) by decide +kernel) ?_
  exact kk
theorem b139_37 {d : Nat} {P : Int → sM → sG → Prop} {M : sM} {G : sG} {x1 : Int}  (kk : P x1 M G) : sW (sC d) 139 (QI P) 37 [vN, vI x1, vN, vN] [] M G 0 0 := by
  refine q_iload_n 38 rfl (show sCode 139 37 = some (.iload_n 1, 1) by decide +kernel) rfl ?_
  exact q_iret (show sCode 139 38 = some (.ireturn, 1) by decide +kernel) (by decide +kernel) (by decide +kernel) kk
-- 140 AfterTheLast$Rings.ringThrough (I)I
theorem b140_0 {d : Nat} {Q : Option sV → sM → sG → Prop} {M : sM} {G : sG} {a0 : Nat} {x1 : Int} (h1 : 0 ≤ x1 ∧ x1 < 12) (kk : sW (sC d) 140 Q 9 [vO 5 a0, vI x1, vI (M (a0 + 1) x1.toNat), vI 1, vN, vN] [] M G 0 0) : sW (sC d) 140 Q 0 [vO 5 a0, vI x1, vN, vN, vN, vN] [] M G 0 0 := by
  refine q_aload_n 1 rfl (show sCode 140 0 = some (.aload_n 0, 1) by decide +kernel) rfl (Nat.le_of_ble_eq_true rfl) ?_
  refine q_getR (vA 0 (a0 + 1) 12) 4 rfl (show sCode 140 1 = some (.getfield 9, 3) by decide +kernel) (show sFR (sKo 140).1 9 = some (5, 0) by decide +kernel) (by decide +kernel) (Or.inl (Or.inl rfl)) rfl ?_
  refine q_iload_n 5 rfl (show sCode 140 4 = some (.iload_n 1, 1) by decide +kernel) rfl ?_
  refine q_iald 6 rfl (show sCode 140 5 = some (.iaload, 1) by decide +kernel) h1 ?_
  refine q_istore_n [vO 5 a0, vI x1, vI (M (a0 + 1) x1.toNat), vN, vN, vN] 7 rfl (show sCode 140 6 = some (.istore_n 2, 1) by decide +kernel) (Nat.lt_of_lt_of_le (Nat.lt_succ_self _) (Nat.le_of_ble_eq_true rfl)) rfl rfl ?_
  refine q_iconst 8 rfl (show sCode 140 7 = some (.iconst 1, 1) by decide +kernel) ⟨by decide, by decide⟩ ?_
  refine q_istore_n [vO 5 a0, vI x1, vI (M (a0 + 1) x1.toNat), vI 1, vN, vN] 9 rfl (show sCode 140 8 = some (.istore_n 3, 1) by decide +kernel) (Nat.lt_of_lt_of_le (Nat.lt_succ_self _) (Nat.le_of_ble_eq_true rfl)) rfl rfl ?_
  exact kk
theorem b140_9 {d : Nat} {Q : Option sV → sM → sG → Prop} {M : sM} {G : sG} {a0 : Nat} {x1 : Int} {x2 : Int} {x3 : Int}  (k1 : 12 < x3 → sW (sC d) 140 Q 84 [vN, vN, vN, vN, vN, vN] [] M G 0 0) (k2 : x3 ≤ 12 → sW (sC d) 140 Q 15 [vO 5 a0, vI x1, vI x2, vI x3, vN, vN] [] M G 0 0) : sW (sC d) 140 Q 9 [vO 5 a0, vI x1, vI x2, vI x3, vN, vN] [] M G 0 0 := by
  refine q_iload_n 10 rfl (show sCode 140 9 = some (.iload_n 3, 1) by decide +kernel) rfl ?_
  refine q_bipush 12 rfl (show sCode 140 10 = some (.bipush 12, 2) by decide +kernel) ⟨by decide, by decide⟩ (by decide +kernel) ?_
  refine q_icmpgt 84 15 rfl (by decide) (show sCode 140 12 = some (.if_icmp .gt 72, 3) by decide +kernel) ?_ ?_
  · intro q; refine q_forget (L' := [vN, vI x1, vI x2, vI x3, vN, vN]) 0 rfl ?_; refine q_forget (L' := [vN, vN, vI x2, vI x3, vN, vN]) 1 rfl ?_; refine q_forget (L' := [vN, vN, vN, vI x3, vN, vN]) 2 rfl ?_; refine q_forget (L' := [vN, vN, vN, vN, vN, vN]) 3 rfl ?_; exact k1 q
  · intro q; exact k2 q
theorem b140_15 {d : Nat} {Q : Option sV → sM → sG → Prop} {M : sM} {G : sG} {a0 : Nat} {x1 : Int} {x2 : Int} {x3 : Int}  (k1 : iAnd (iShr x2 x1) 1 ≠ 1 → sW (sC d) 140 Q 26 [vO 5 a0, vI x1, vI x2, vI x3, vN, vN] [] M G 0 0) (k2 : iAnd (iShr x2 x1) 1 = 1 → sW (sC d) 140 Q 24 [vN, vN, vN, vI x3, vN, vN] [] M G 0 0) : sW (sC d) 140 Q 15 [vO 5 a0, vI x1, vI x2, vI x3, vN, vN] [] M G 0 0 := by
  refine q_iload_n 16 rfl (show sCode 140 15 = some (.iload_n 2, 1) by decide +kernel) rfl ?_
  refine q_iload_n 17 rfl (show sCode 140 16 = some (.iload_n 1, 1) by decide +kernel) rfl ?_
  refine q_ishr 18 rfl (show sCode 140 17 = some (.ishr, 1) by decide +kernel) ?_
  refine q_iconst 19 rfl (show sCode 140 18 = some (.iconst 1, 1) by decide +kernel) ⟨by decide, by decide⟩ ?_
  refine q_iand 20 rfl (show sCode 140 19 = some (.iand, 1) by decide +kernel) ?_
  refine q_iconst 21 rfl (show sCode 140 20 = some (.iconst 1, 1) by decide +kernel) ⟨by decide, by decide⟩ ?_
  refine q_icmpne 26 24 rfl (by decide) (show sCode 140 21 = some (.if_icmp .ne 5, 3) by decide +kernel) ?_ ?_
  · intro q; exact k1 q
  · intro q; refine q_forget (L' := [vN, vI x1, vI x2, vI x3, vN, vN]) 0 rfl ?_; refine q_forget (L' := [vN, vN, vI x2, vI x3, vN, vN]) 1 rfl ?_; refine q_forget (L' := [vN, vN, vN, vI x3, vN, vN]) 2 rfl ?_; exact k2 q
theorem b140_24 {d : Nat} {P : Int → sM → sG → Prop} {M : sM} {G : sG} {x3 : Int}  (kk : P x3 M G) : sW (sC d) 140 (QI P) 24 [vN, vN, vN, vI x3, vN, vN] [] M G 0 0 := by
  refine q_iload_n 25 rfl (show sCode 140 24 = some (.iload_n 3, 1) by decide +kernel) rfl ?_
  exact q_iret (show sCode 140 25 = some (.ireturn, 1) by decide +kernel) (by decide +kernel) (by decide +kernel) kk
theorem b140_26 {d : Nat} {Q : Option sV → sM → sG → Prop} {M : sM} {G : sG} {a0 : Nat} {x1 : Int} {x2 : Int} {x3 : Int}  (kk : sW (sC d) 140 Q 32 [vO 5 a0, vI x1, vI x2, vI x3, vI x2, vI 0] [] M G 0 0) : sW (sC d) 140 Q 26 [vO 5 a0, vI x1, vI x2, vI x3, vN, vN] [] M G 0 0 := by
  refine q_iload_n 27 rfl (show sCode 140 26 = some (.iload_n 2, 1) by decide +kernel) rfl ?_
  refine q_istore [vO 5 a0, vI x1, vI x2, vI x3, vI x2, vN] 29 rfl (show sCode 140 27 = some (.istore 4, 2) by decide +kernel) (Nat.lt_of_lt_of_le (Nat.lt_succ_self _) (Nat.le_of_ble_eq_true rfl)) rfl rfl ?_
  refine q_iconst 30 rfl (show sCode 140 29 = some (.iconst 0, 1) by decide +kernel) ⟨by decide, by decide⟩ ?_
  refine q_istore [vO 5 a0, vI x1, vI x2, vI x3, vI x2, vI 0] 32 rfl (show sCode 140 30 = some (.istore 5, 2) by decide +kernel) (Nat.lt_of_lt_of_le (Nat.lt_succ_self _) (Nat.le_of_ble_eq_true rfl)) rfl rfl ?_
  exact kk
theorem b140_32 {d : Nat} {Q : Option sV → sM → sG → Prop} {M : sM} {G : sG} {a0 : Nat} {x1 : Int} {x2 : Int} {x3 : Int} {x4 : Int} {x5 : Int}  (k1 : 12 ≤ x5 → sW (sC d) 140 Q 67 [vO 5 a0, vI x1, vI x2, vI x3, vI x4, vN] [] M G 0 0) (k2 : x5 < 12 → sW (sC d) 140 Q 39 [vO 5 a0, vI x1, vI x2, vI x3, vI x4, vI x5] [] M G 0 0) : sW (sC d) 140 Q 32 [vO 5 a0, vI x1, vI x2, vI x3, vI x4, vI x5] [] M G 0 0 := by
  refine q_iload 34 rfl (show sCode 140 32 = some (.iload 5, 2) by decide +kernel) rfl ?_
  refine q_bipush 36 rfl (show sCode 140 34 = some (.bipush 12, 2) by decide +kernel) ⟨by decide, by decide⟩ (by decide +kernel) ?_
  refine q_icmpge 67 39 rfl (by decide) (show sCode 140 36 = some (.if_icmp .ge 31, 3) by decide +kernel) ?_ ?_
  · intro q; refine q_forget (L' := [vO 5 a0, vI x1, vI x2, vI x3, vI x4, vN]) 5 rfl ?_; exact k1 q
  · intro q; exact k2 q
theorem b140_39 {d : Nat} {Q : Option sV → sM → sG → Prop} {M : sM} {G : sG} {a0 : Nat} {x1 : Int} {x2 : Int} {x3 : Int} {x4 : Int} {x5 : Int}  (k1 : iAnd (iShr x2 x5) 1 ≠ 1 → sW (sC d) 140 Q 61 [vO 5 a0, vI x1, vI x2, vI x3, vI x4, vI x5] [] M G 0 0) (k2 : iAnd (iShr x2 x5) 1 = 1 → sW (sC d) 140 Q 49 [vO 5 a0, vI x1, vI x2, vI x3, vI x4, vI x5] [] M G 0 0) : sW (sC d) 140 Q 39 [vO 5 a0, vI x1, vI x2, vI x3, vI x4, vI x5] [] M G 0 0 := by
  refine q_iload_n 40 rfl (show sCode 140 39 = some (.iload_n 2, 1) by decide +kernel) rfl ?_
  refine q_iload 42 rfl (show sCode 140 40 = some (.iload 5, 2) by decide +kernel) rfl ?_
  refine q_ishr 43 rfl (show sCode 140 42 = some (.ishr, 1) by decide +kernel) ?_
  refine q_iconst 44 rfl (show sCode 140 43 = some (.iconst 1, 1) by decide +kernel) ⟨by decide, by decide⟩ ?_
  refine q_iand 45 rfl (show sCode 140 44 = some (.iand, 1) by decide +kernel) ?_
  refine q_iconst 46 rfl (show sCode 140 45 = some (.iconst 1, 1) by decide +kernel) ⟨by decide, by decide⟩ ?_
  refine q_icmpne 61 49 rfl (by decide) (show sCode 140 46 = some (.if_icmp .ne 15, 3) by decide +kernel) ?_ ?_
  · intro q; exact k1 q
  · intro q; exact k2 q
theorem b140_49 {d : Nat} {Q : Option sV → sM → sG → Prop} {M : sM} {G : sG} {a0 : Nat} {x1 : Int} {x2 : Int} {x3 : Int} {x4 : Int} {x5 : Int} (h1 : 0 ≤ x5 ∧ x5 < 12) (kk : sW (sC d) 140 Q 61 [vO 5 a0, vI x1, vI x2, vI x3, vI (iOr x4 (M (a0 + 1) x5.toNat)), vI x5] [] M G 0 0) : sW (sC d) 140 Q 49 [vO 5 a0, vI x1, vI x2, vI x3, vI x4, vI x5] [] M G 0 0 := by
  refine q_iload 51 rfl (show sCode 140 49 = some (.iload 4, 2) by decide +kernel) rfl ?_
  refine q_aload_n 52 rfl (show sCode 140 51 = some (.aload_n 0, 1) by decide +kernel) rfl (Nat.le_of_ble_eq_true rfl) ?_
  refine q_getR (vA 0 (a0 + 1) 12) 55 rfl (show sCode 140 52 = some (.getfield 9, 3) by decide +kernel) (show sFR (sKo 140).1 9 = some (5, 0) by decide +kernel) (by decide +kernel) (Or.inl (Or.inl rfl)) rfl ?_
  refine q_iload 57 rfl (show sCode 140 55 = some (.iload 5, 2) by decide +kernel) rfl ?_
  refine q_iald 58 rfl (show sCode 140 57 = some (.iaload, 1) by decide +kernel) h1 ?_
  refine q_ior 59 rfl (show sCode 140 58 = some (.ior, 1) by decide +kernel) ?_
  refine q_istore [vO 5 a0, vI x1, vI x2, vI x3, vI (iOr x4 (M (a0 + 1) x5.toNat)), vI x5] 61 rfl (show sCode 140 59 = some (.istore 4, 2) by decide +kernel) (Nat.lt_of_lt_of_le (Nat.lt_succ_self _) (Nat.le_of_ble_eq_true rfl)) rfl rfl ?_
  exact kk
theorem b140_61 {d : Nat} {Q : Option sV → sM → sG → Prop} {M : sM} {G : sG} {a0 : Nat} {x1 : Int} {x2 : Int} {x3 : Int} {x4 : Int} {x5 : Int} (h1 : sI (x5 + 1)) (kk : sW (sC d) 140 Q 32 [vO 5 a0, vI x1, vI x2, vI x3, vI x4, vI (x5 + 1)] [] M G 0 0) : sW (sC d) 140 Q 61 [vO 5 a0, vI x1, vI x2, vI x3, vI x4, vI x5] [] M G 0 0 := by
  refine q_iinc [vO 5 a0, vI x1, vI x2, vI x3, vI x4, vI (x5 + 1)] 64 rfl (show sCode 140 61 = some (.iinc 5 1, 3) by decide +kernel) rfl rfl h1 rfl ?_
  refine q_goto 32 (by decide) (show sCode 140 64 = some (.goto (-32), 3) by decide +kernel) ?_
  exact kk
theorem b140_67 {d : Nat} {Q : Option sV → sM → sG → Prop} {M : sM} {G : sG} {a0 : Nat} {x1 : Int} {x2 : Int} {x3 : Int} {x4 : Int}  (k1 : x4 ≠ x2 → sW (sC d) 140 Q 75 [vO 5 a0, vI x1, vN, vI x3, vI x4, vN] [] M G 0 0) (k2 : x4 = x2 → sW (sC d) 140 Q 73 [vN, vN, vN, vN, vN, vN] [] M G 0 0) : sW (sC d) 140 Q 67 [vO 5 a0, vI x1, vI x2, vI x3, vI x4, vN] [] M G 0 0 := by
  refine q_iload 69 rfl (show sCode 140 67 = some (.iload 4, 2) by decide +kernel) rfl ?_
  refine q_iload_n 70 rfl (show sCode 140 69 = some (.iload_n 2, 1) by decide +kernel) rfl ?_
  refine q_icmpne 75 73 rfl (by decide) (show sCode 140 70 = some (.if_icmp .ne 5, 3) by decide +kernel) ?_ ?_
  · intro q; refine q_forget (L' := [vO 5 a0, vI x1, vN, vI x3, vI x4, vN]) 2 rfl ?_; exact k1 q
  · intro q; refine q_forget (L' := [vN, vI x1, vI x2, vI x3, vI x4, vN]) 0 rfl ?_; refine q_forget (L' := [vN, vN, vI x2, vI x3, vI x4, vN]) 1 rfl ?_; refine q_forget (L' := [vN, vN, vN, vI x3, vI x4, vN]) 2 rfl ?_; refine q_forget (L' := [vN, vN, vN, vN, vI x4, vN]) 3 rfl ?_; refine q_forget (L' := [vN, vN, vN, vN, vN, vN]) 4 rfl ?_; exact k2 q
theorem b140_73 {d : Nat} {P : Int → sM → sG → Prop} {M : sM} {G : sG}   (kk : P 0 M G) : sW (sC d) 140 (QI P) 73 [vN, vN, vN, vN, vN, vN] [] M G 0 0 := by
  refine q_iconst 74 rfl (show sCode 140 73 = some (.iconst 0, 1) by decide +kernel) ⟨by decide, by decide⟩ ?_
  exact q_iret (show sCode 140 74 = some (.ireturn, 1) by decide +kernel) (by decide +kernel) (by decide +kernel) kk
theorem b140_75 {d : Nat} {Q : Option sV → sM → sG → Prop} {M : sM} {G : sG} {a0 : Nat} {x1 : Int} {x3 : Int} {x4 : Int} (h1 : sI (x3 + 1)) (kk : sW (sC d) 140 Q 9 [vO 5 a0, vI x1, vI x4, vI (x3 + 1), vN, vN] [] M G 0 0) : sW (sC d) 140 Q 75 [vO 5 a0, vI x1, vN, vI x3, vI x4, vN] [] M G 0 0 := by
  refine q_iload 77 rfl (show sCode 140 75 = some (.iload 4, 2) by decide +kernel) rfl ?_
  refine q_istore_n [vO 5 a0, vI x1, vI x4, vI x3, vI x4, vN] 78 rfl (show sCode 140 77 = some (.istore_n 2, 1) by decide +kernel) (Nat.lt_of_lt_of_le (Nat.lt_succ_self _) (Nat.le_of_ble_eq_true rfl)) rfl rfl ?_
  refine q_iinc [vO 5 a0, vI x1, vI x4, vI (x3 + 1), vI x4, vN] 81 rfl (show sCode 140 78 = some (.iinc 3 1, 3) by decide +kernel) rfl rfl h1 rfl ?_
  refine q_goto 9 (by decide) (show sCode 140 81 = some (.goto (-72), 3) by decide +kernel) ?_
  refine q_forget (L' := [vO 5 a0, vI x1, vI x4, vI (x3 + 1), vN, vN]) 4 rfl ?_
  exact kk
theorem b140_84 {d : Nat} {P : Int → sM → sG → Prop} {M : sM} {G : sG}   (kk : P 0 M G) : sW (sC d) 140 (QI P) 84 [vN, vN, vN, vN, vN, vN] [] M G 0 0 := by
  refine q_iconst 85 rfl (show sCode 140 84 = some (.iconst 0, 1) by decide +kernel) ⟨by decide, by decide⟩ ?_
  exact q_iret (show sCode 140 85 = some (.ireturn, 1) by decide +kernel) (by decide +kernel) (by decide +kernel) kk
-- 141 AfterTheLast$Rings.stuck ()I
theorem b141_0 {d : Nat} {Q : Option sV → sM → sG → Prop} {M : sM} {G : sG} {a0 : Nat}  (kk : sC d 142 [vO 5 a0, vI 4095] M G (QI (fun r M1 G1 => sW (sC d) 141 Q 7 [vN] (vI r :: []) M1 G1 0 0))) : sW (sC d) 141 Q 0 [vO 5 a0] [] M G 0 0 := by
  refine q_aload_n 1 rfl (show sCode 141 0 = some (.aload_n 0, 1) by decide +kernel) rfl (Nat.le_of_ble_eq_true rfl) ?_
  refine q_sipush 4 rfl (show sCode 141 1 = some (.sipush 4095, 3) by decide +kernel) ⟨by decide, by decide⟩ (by decide +kernel) ?_
  refine q_forget (L' := [vN]) 0 rfl ?_
  exact q_virtI [vI 4095] 7 rfl (show sCode 141 4 = some (.invokevirtual 50, 3) by decide +kernel) (show sMR (sKo 141).1 50 = some 142 by decide +kernel) (show 142 < 1000 ∧ sStat 142 = false ∧ sIni 142 = false ∧ sKo 142 = (5, 1, 1, 0, 0) by decide +kernel) rfl (Or.inl rfl) rfl (Nat.le_of_ble_eq_true rfl) rfl rfl rfl (by decide +kernel) kk
theorem b141_7 {d : Nat} {P : Int → sM → sG → Prop} {M : sM} {G : sG} {s0 : Int}  (kk : P s0 M G) : sW (sC d) 141 (QI P) 7 [vN] [vI s0] M G 0 0 := by
  exact q_iret (show sCode 141 7 = some (.ireturn, 1) by decide +kernel) (by decide +kernel) (by decide +kernel) kk
-- 142 AfterTheLast$Rings.stuckAmong (I)I
theorem b142_0 {d : Nat} {Q : Option sV → sM → sG → Prop} {M : sM} {G : sG} {a0 : Nat} {x1 : Int}  (kk : sW (sC d) 142 Q 4 [vO 5 a0, vN, vI x1, vI 0, vN, vN] [] M G 0 0) : sW (sC d) 142 Q 0 [vO 5 a0, vI x1, vN, vN, vN, vN] [] M G 0 0 := by
  refine q_iload_n 1 rfl (show sCode 142 0 = some (.iload_n 1, 1) by decide +kernel) rfl ?_
  refine q_istore_n [vO 5 a0, vI x1, vI x1, vN, vN, vN] 2 rfl (show sCode 142 1 = some (.istore_n 2, 1) by decide +kernel) (Nat.lt_of_lt_of_le (Nat.lt_succ_self _) (Nat.le_of_ble_eq_true rfl)) rfl rfl ?_
  refine q_iconst 3 rfl (show sCode 142 2 = some (.iconst 0, 1) by decide +kernel) ⟨by decide, by decide⟩ ?_
  refine q_istore_n [vO 5 a0, vI x1, vI x1, vI 0, vN, vN] 4 rfl (show sCode 142 3 = some (.istore_n 3, 1) by decide +kernel) (Nat.lt_of_lt_of_le (Nat.lt_succ_self _) (Nat.le_of_ble_eq_true rfl)) rfl rfl ?_
  refine q_forget (L' := [vO 5 a0, vN, vI x1, vI 0, vN, vN]) 1 rfl ?_
  exact kk
theorem b142_4 {d : Nat} {Q : Option sV → sM → sG → Prop} {M : sM} {G : sG} {a0 : Nat} {x2 : Int} {x3 : Int}  (k1 : 12 < x3 → sW (sC d) 142 Q 75 [vN, vN, vI x2, vN, vN, vN] [] M G 0 0) (k2 : x3 ≤ 12 → sW (sC d) 142 Q 10 [vO 5 a0, vN, vI x2, vI x3, vN, vN] [] M G 0 0) : sW (sC d) 142 Q 4 [vO 5 a0, vN, vI x2, vI x3, vN, vN] [] M G 0 0 := by
  refine q_iload_n 5 rfl (show sCode 142 4 = some (.iload_n 3, 1) by decide +kernel) rfl ?_
  refine q_bipush 7 rfl (show sCode 142 5 = some (.bipush 12, 2) by decide +kernel) ⟨by decide, by decide⟩ (by decide +kernel) ?_
  refine q_icmpgt 75 10 rfl (by decide) (show sCode 142 7 = some (.if_icmp .gt 68, 3) by decide +kernel) ?_ ?_
  · intro q; refine q_forget (L' := [vN, vN, vI x2, vI x3, vN, vN]) 0 rfl ?_; refine q_forget (L' := [vN, vN, vI x2, vN, vN, vN]) 3 rfl ?_; exact k1 q
  · intro q; exact k2 q
theorem b142_10 {d : Nat} {Q : Option sV → sM → sG → Prop} {M : sM} {G : sG} {a0 : Nat} {x2 : Int} {x3 : Int}  (k1 : x2 = 0 → sW (sC d) 142 Q 75 [vN, vN, vI x2, vN, vN, vN] [] M G 0 0) (k2 : x2 ≠ 0 → sW (sC d) 142 Q 14 [vO 5 a0, vN, vI x2, vI x3, vN, vN] [] M G 0 0) : sW (sC d) 142 Q 10 [vO 5 a0, vN, vI x2, vI x3, vN, vN] [] M G 0 0 := by
  refine q_iload_n 11 rfl (show sCode 142 10 = some (.iload_n 2, 1) by decide +kernel) rfl ?_
  refine q_ifeq 75 14 rfl (by decide) (show sCode 142 11 = some (.ifCond .eq 64, 3) by decide +kernel) ?_ ?_
  · intro q; refine q_forget (L' := [vN, vN, vI x2, vI x3, vN, vN]) 0 rfl ?_; refine q_forget (L' := [vN, vN, vI x2, vN, vN, vN]) 3 rfl ?_; exact k1 q
  · intro q; exact k2 q
theorem b142_14 {d : Nat} {Q : Option sV → sM → sG → Prop} {M : sM} {G : sG} {a0 : Nat} {x2 : Int} {x3 : Int}  (kk : sW (sC d) 142 Q 20 [vO 5 a0, vN, vI x2, vI x3, vI x2, vI 0] [] M G 0 0) : sW (sC d) 142 Q 14 [vO 5 a0, vN, vI x2, vI x3, vN, vN] [] M G 0 0 := by
  refine q_iload_n 15 rfl (show sCode 142 14 = some (.iload_n 2, 1) by decide +kernel) rfl ?_
  refine q_istore [vO 5 a0, vN, vI x2, vI x3, vI x2, vN] 17 rfl (show sCode 142 15 = some (.istore 4, 2) by decide +kernel) (Nat.lt_of_lt_of_le (Nat.lt_succ_self _) (Nat.le_of_ble_eq_true rfl)) rfl rfl ?_
  refine q_iconst 18 rfl (show sCode 142 17 = some (.iconst 0, 1) by decide +kernel) ⟨by decide, by decide⟩ ?_
  refine q_istore [vO 5 a0, vN, vI x2, vI x3, vI x2, vI 0] 20 rfl (show sCode 142 18 = some (.istore 5, 2) by decide +kernel) (Nat.lt_of_lt_of_le (Nat.lt_succ_self _) (Nat.le_of_ble_eq_true rfl)) rfl rfl ?_
  exact kk
theorem b142_20 {d : Nat} {Q : Option sV → sM → sG → Prop} {M : sM} {G : sG} {a0 : Nat} {x2 : Int} {x3 : Int} {x4 : Int} {x5 : Int}  (k1 : 12 ≤ x5 → sW (sC d) 142 Q 57 [vO 5 a0, vN, vI x2, vI x3, vI x4, vN] [] M G 0 0) (k2 : x5 < 12 → sW (sC d) 142 Q 27 [vO 5 a0, vN, vI x2, vI x3, vI x4, vI x5] [] M G 0 0) : sW (sC d) 142 Q 20 [vO 5 a0, vN, vI x2, vI x3, vI x4, vI x5] [] M G 0 0 := by
  refine q_iload 22 rfl (show sCode 142 20 = some (.iload 5, 2) by decide +kernel) rfl ?_
  refine q_bipush 24 rfl (show sCode 142 22 = some (.bipush 12, 2) by decide +kernel) ⟨by decide, by decide⟩ (by decide +kernel) ?_
  refine q_icmpge 57 27 rfl (by decide) (show sCode 142 24 = some (.if_icmp .ge 33, 3) by decide +kernel) ?_ ?_
  · intro q; refine q_forget (L' := [vO 5 a0, vN, vI x2, vI x3, vI x4, vN]) 5 rfl ?_; exact k1 q
  · intro q; exact k2 q
theorem b142_27 {d : Nat} {Q : Option sV → sM → sG → Prop} {M : sM} {G : sG} {a0 : Nat} {x2 : Int} {x3 : Int} {x4 : Int} {x5 : Int} (h1 : 0 ≤ x5 ∧ x5 < 12) (k1 : iAnd (M (a0 + 1) x5.toNat) x4 ≠ 0 → sW (sC d) 142 Q 51 [vO 5 a0, vN, vI x2, vI x3, vI x4, vI x5] [] M G 0 0) (k2 : iAnd (M (a0 + 1) x5.toNat) x4 = 0 → sW (sC d) 142 Q 40 [vO 5 a0, vN, vI x2, vI x3, vI x4, vI x5] [] M G 0 0) : sW (sC d) 142 Q 27 [vO 5 a0, vN, vI x2, vI x3, vI x4, vI x5] [] M G 0 0 := by
  refine q_aload_n 28 rfl (show sCode 142 27 = some (.aload_n 0, 1) by decide +kernel) rfl (Nat.le_of_ble_eq_true rfl) ?_
  refine q_getR (vA 0 (a0 + 1) 12) 31 rfl (show sCode 142 28 = some (.getfield 9, 3) by decide +kernel) (show sFR (sKo 142).1 9 = some (5, 0) by decide +kernel) (by decide +kernel) (Or.inl (Or.inl rfl)) rfl ?_
  refine q_iload 33 rfl (show sCode 142 31 = some (.iload 5, 2) by decide +kernel) rfl ?_
  refine q_iald 34 rfl (show sCode 142 33 = some (.iaload, 1) by decide +kernel) h1 ?_
  refine q_iload 36 rfl (show sCode 142 34 = some (.iload 4, 2) by decide +kernel) rfl ?_
  refine q_iand 37 rfl (show sCode 142 36 = some (.iand, 1) by decide +kernel) ?_
  refine q_ifne 51 40 rfl (by decide) (show sCode 142 37 = some (.ifCond .ne 14, 3) by decide +kernel) ?_ ?_
  · intro q; exact k1 q
  · intro q; exact k2 q
theorem b142_40 {d : Nat} {Q : Option sV → sM → sG → Prop} {M : sM} {G : sG} {a0 : Nat} {x2 : Int} {x3 : Int} {x4 : Int} {x5 : Int}  (kk : sW (sC d) 142 Q 51 [vO 5 a0, vN, vI x2, vI x3, vI (iAnd x4 (iXor (iShl 1 x5) (-1))), vI x5] [] M G 0 0) : sW (sC d) 142 Q 40 [vO 5 a0, vN, vI x2, vI x3, vI x4, vI x5] [] M G 0 0 := by
  refine q_iload 42 rfl (show sCode 142 40 = some (.iload 4, 2) by decide +kernel) rfl ?_
  refine q_iconst 43 rfl (show sCode 142 42 = some (.iconst 1, 1) by decide +kernel) ⟨by decide, by decide⟩ ?_
  refine q_iload 45 rfl (show sCode 142 43 = some (.iload 5, 2) by decide +kernel) rfl ?_
  refine q_ishl 46 rfl (show sCode 142 45 = some (.ishl, 1) by decide +kernel) ?_
  refine q_iconst 47 rfl (show sCode 142 46 = some (.iconst (-1), 1) by decide +kernel) ⟨by decide, by decide⟩ ?_
  refine q_ixor 48 rfl (show sCode 142 47 = some (.ixor, 1) by decide +kernel) ?_
  refine q_iand 49 rfl (show sCode 142 48 = some (.iand, 1) by decide +kernel) ?_
  refine q_istore [vO 5 a0, vN, vI x2, vI x3, vI (iAnd x4 (iXor (iShl 1 x5) (-1))), vI x5] 51 rfl (show sCode 142 49 = some (.istore 4, 2) by decide +kernel) (Nat.lt_of_lt_of_le (Nat.lt_succ_self _) (Nat.le_of_ble_eq_true rfl)) rfl rfl ?_
  exact kk
theorem b142_51 {d : Nat} {Q : Option sV → sM → sG → Prop} {M : sM} {G : sG} {a0 : Nat} {x2 : Int} {x3 : Int} {x4 : Int} {x5 : Int} (h1 : sI (x5 + 1)) (kk : sW (sC d) 142 Q 20 [vO 5 a0, vN, vI x2, vI x3, vI x4, vI (x5 + 1)] [] M G 0 0) : sW (sC d) 142 Q 51 [vO 5 a0, vN, vI x2, vI x3, vI x4, vI x5] [] M G 0 0 := by
  refine q_iinc [vO 5 a0, vN, vI x2, vI x3, vI x4, vI (x5 + 1)] 54 rfl (show sCode 142 51 = some (.iinc 5 1, 3) by decide +kernel) rfl rfl h1 rfl ?_
  refine q_goto 20 (by decide) (show sCode 142 54 = some (.goto (-34), 3) by decide +kernel) ?_
  exact kk
theorem b142_57 {d : Nat} {Q : Option sV → sM → sG → Prop} {M : sM} {G : sG} {a0 : Nat} {x2 : Int} {x3 : Int} {x4 : Int}  (k1 : x4 ≠ x2 → sW (sC d) 142 Q 66 [vO 5 a0, vN, vN, vI x3, vI x4, vN] [] M G 0 0) (k2 : x4 = x2 → sW (sC d) 142 Q 63 [vN, vN, vI x2, vN, vN, vN] [] M G 0 0) : sW (sC d) 142 Q 57 [vO 5 a0, vN, vI x2, vI x3, vI x4, vN] [] M G 0 0 := by
  refine q_iload 59 rfl (show sCode 142 57 = some (.iload 4, 2) by decide +kernel) rfl ?_
  refine q_iload_n 60 rfl (show sCode 142 59 = some (.iload_n 2, 1) by decide +kernel) rfl ?_
  refine q_icmpne 66 63 rfl (by decide) (show sCode 142 60 = some (.if_icmp .ne 6, 3) by decide +kernel) ?_ ?_
  · intro q; refine q_forget (L' := [vO 5 a0, vN, vN, vI x3, vI x4, vN]) 2 rfl ?_; exact k1 q
  · intro q; refine q_forget (L' := [vN, vN, vI x2, vI x3, vI x4, vN]) 0 rfl ?_; refine q_forget (L' := [vN, vN, vI x2, vN, vI x4, vN]) 3 rfl ?_; refine q_forget (L' := [vN, vN, vI x2, vN, vN, vN]) 4 rfl ?_; exact k2 q
theorem b142_63 {d : Nat} {Q : Option sV → sM → sG → Prop} {M : sM} {G : sG} {x2 : Int}  (kk : sW (sC d) 142 Q 75 [vN, vN, vI x2, vN, vN, vN] [] M G 0 0) : sW (sC d) 142 Q 63 [vN, vN, vI x2, vN, vN, vN] [] M G 0 0 := by
  refine q_goto 75 (by decide) (show sCode 142 63 = some (.goto 12, 3) by decide +kernel) ?_
  exact kk
theorem b142_66 {d : Nat} {Q : Option sV → sM → sG → Prop} {M : sM} {G : sG} {a0 : Nat} {x3 : Int} {x4 : Int} (h1 : sI (x3 + 1)) (kk : sW (sC d) 142 Q 4 [vO 5 a0, vN, vI x4, vI (x3 + 1), vN, vN] [] M G 0 0) : sW (sC d) 142 Q 66 [vO 5 a0, vN, vN, vI x3, vI x4, vN] [] M G 0 0 := by
  refine q_iload 68 rfl (show sCode 142 66 = some (.iload 4, 2) by decide +kernel) rfl ?_
  refine q_istore_n [vO 5 a0, vN, vI x4, vI x3, vI x4, vN] 69 rfl (show sCode 142 68 = some (.istore_n 2, 1) by decide +kernel) (Nat.lt_of_lt_of_le (Nat.lt_succ_self _) (Nat.le_of_ble_eq_true rfl)) rfl rfl ?_
  refine q_iinc [vO 5 a0, vN, vI x4, vI (x3 + 1), vI x4, vN] 72 rfl (show sCode 142 69 = some (.iinc 3 1, 3) by decide +kernel) rfl rfl h1 rfl ?_
  refine q_goto 4 (by decide) (show sCode 142 72 = some (.goto (-68), 3) by decide +kernel) ?_
  refine q_forget (L' := [vO 5 a0, vN, vI x4, vI (x3 + 1), vN, vN]) 4 rfl ?_
  exact kk
theorem b142_75 {d : Nat} {P : Int → sM → sG → Prop} {M : sM} {G : sG} {x2 : Int}  (kk : P x2 M G) : sW (sC d) 142 (QI P) 75 [vN, vN, vI x2, vN, vN, vN] [] M G 0 0 := by
  refine q_iload_n 76 rfl (show sCode 142 75 = some (.iload_n 2, 1) by decide +kernel) rfl ?_
  exact q_iret (show sCode 142 76 = some (.ireturn, 1) by decide +kernel) (by decide +kernel) (by decide +kernel) kk
-- 143 AfterTheLast$Rings.undone ()I
theorem b143_0 {d : Nat} {Q : Option sV → sM → sG → Prop} {M : sM} {G : sG} {a0 : Nat}  (kk : sC d 141 [vO 5 a0] M G (QI (fun r M1 G1 => sW (sC d) 143 Q 4 [vO 5 a0, vN, vN, vN, vN] (vI r :: []) M1 G1 0 0))) : sW (sC d) 143 Q 0 [vO 5 a0, vN, vN, vN, vN] [] M G 0 0 := by
  refine q_aload_n 1 rfl (show sCode 143 0 = some (.aload_n 0, 1) by decide +kernel) rfl (Nat.le_of_ble_eq_true rfl) ?_
  exact q_virtI [] 4 rfl (show sCode 143 1 = some (.invokevirtual 53, 3) by decide +kernel) (show sMR (sKo 143).1 53 = some 141 by decide +kernel) (show 141 < 1000 ∧ sStat 141 = false ∧ sIni 141 = false ∧ sKo 141 = (5, 0, 1, 0, 0) by decide +kernel) rfl (Or.inl rfl) rfl (Nat.le_of_ble_eq_true rfl) rfl rfl rfl (by decide +kernel) kk
theorem b143_4 {d : Nat} {Q : Option sV → sM → sG → Prop} {M : sM} {G : sG} {a0 : Nat} {s0 : Int}  (kk : sC d 113 [vI s0] M G (QI (fun r M1 G1 => sW (sC d) 143 Q 11 [vO 5 a0, vI s0, vI s0, vN, vN] (vI r :: []) M1 G1 0 0))) : sW (sC d) 143 Q 4 [vO 5 a0, vN, vN, vN, vN] [vI s0] M G 0 0 := by
  refine q_istore_n [vO 5 a0, vI s0, vN, vN, vN] 5 rfl (show sCode 143 4 = some (.istore_n 1, 1) by decide +kernel) (Nat.lt_of_lt_of_le (Nat.lt_succ_self _) (Nat.le_of_ble_eq_true rfl)) rfl rfl ?_
  refine q_iload_n 6 rfl (show sCode 143 5 = some (.iload_n 1, 1) by decide +kernel) rfl ?_
  refine q_istore_n [vO 5 a0, vI s0, vI s0, vN, vN] 7 rfl (show sCode 143 6 = some (.istore_n 2, 1) by decide +kernel) (Nat.lt_of_lt_of_le (Nat.lt_succ_self _) (Nat.le_of_ble_eq_true rfl)) rfl rfl ?_
  refine q_iload_n 8 rfl (show sCode 143 7 = some (.iload_n 1, 1) by decide +kernel) rfl ?_
  exact q_statI [vI s0] 11 rfl (show sCode 143 8 = some (.invokestatic 57, 3) by decide +kernel) (show sMR (sKo 143).1 57 = some 113 by decide +kernel) (show 113 < 1000 ∧ sStat 113 = true ∧ sKo 113 = (15, 1, 1, 0, 0) by decide +kernel) rfl rfl (Nat.le_of_ble_eq_true rfl) rfl rfl rfl (by decide +kernel) kk
theorem b143_11 {d : Nat} {Q : Option sV → sM → sG → Prop} {M : sM} {G : sG} {a0 : Nat} {x1 : Int} {x2 : Int} {s0 : Int}  (kk : sW (sC d) 143 Q 15 [vO 5 a0, vI x1, vI x2, vI s0, vI 0] [] M G 0 0) : sW (sC d) 143 Q 11 [vO 5 a0, vI x1, vI x2, vN, vN] [vI s0] M G 0 0 := by
  refine q_istore_n [vO 5 a0, vI x1, vI x2, vI s0, vN] 12 rfl (show sCode 143 11 = some (.istore_n 3, 1) by decide +kernel) (Nat.lt_of_lt_of_le (Nat.lt_succ_self _) (Nat.le_of_ble_eq_true rfl)) rfl rfl ?_
  refine q_iconst 13 rfl (show sCode 143 12 = some (.iconst 0, 1) by decide +kernel) ⟨by decide, by decide⟩ ?_
  refine q_istore [vO 5 a0, vI x1, vI x2, vI s0, vI 0] 15 rfl (show sCode 143 13 = some (.istore 4, 2) by decide +kernel) (Nat.lt_of_lt_of_le (Nat.lt_succ_self _) (Nat.le_of_ble_eq_true rfl)) rfl rfl ?_
  exact kk
theorem b143_15 {d : Nat} {Q : Option sV → sM → sG → Prop} {M : sM} {G : sG} {a0 : Nat} {x1 : Int} {x2 : Int} {x3 : Int} {x4 : Int}  (k1 : x1 ≤ x4 → sW (sC d) 143 Q 67 [vN, vN, vI x2, vN, vN] [] M G 0 0) (k2 : x4 < x1 → sW (sC d) 143 Q 21 [vO 5 a0, vI x1, vI x2, vI x3, vI x4] [] M G 0 0) : sW (sC d) 143 Q 15 [vO 5 a0, vI x1, vI x2, vI x3, vI x4] [] M G 0 0 := by
  refine q_iload 17 rfl (show sCode 143 15 = some (.iload 4, 2) by decide +kernel) rfl ?_
  refine q_iload_n 18 rfl (show sCode 143 17 = some (.iload_n 1, 1) by decide +kernel) rfl ?_
  refine q_icmpge 67 21 rfl (by decide) (show sCode 143 18 = some (.if_icmp .ge 49, 3) by decide +kernel) ?_ ?_
  · intro q; refine q_forget (L' := [vN, vI x1, vI x2, vI x3, vI x4]) 0 rfl ?_; refine q_forget (L' := [vN, vN, vI x2, vI x3, vI x4]) 1 rfl ?_; refine q_forget (L' := [vN, vN, vI x2, vN, vI x4]) 3 rfl ?_; refine q_forget (L' := [vN, vN, vI x2, vN, vN]) 4 rfl ?_; exact k1 q
  · intro q; exact k2 q
theorem b143_21 {d : Nat} {Q : Option sV → sM → sG → Prop} {M : sM} {G : sG} {a0 : Nat} {x1 : Int} {x2 : Int} {x3 : Int} {x4 : Int}  (k1 : iAnd x4 (iXor x1 (-1)) ≠ 0 → sW (sC d) 143 Q 61 [vO 5 a0, vI x1, vI x2, vI x3, vI x4] [] M G 0 0) (k2 : iAnd x4 (iXor x1 (-1)) = 0 → sW (sC d) 143 Q 30 [vO 5 a0, vI x1, vI x2, vI x3, vI x4] [] M G 0 0) : sW (sC d) 143 Q 21 [vO 5 a0, vI x1, vI x2, vI x3, vI x4] [] M G 0 0 := by
  refine q_iload 23 rfl (show sCode 143 21 = some (.iload 4, 2) by decide +kernel) rfl ?_
  refine q_iload_n 24 rfl (show sCode 143 23 = some (.iload_n 1, 1) by decide +kernel) rfl ?_
  refine q_iconst 25 rfl (show sCode 143 24 = some (.iconst (-1), 1) by decide +kernel) ⟨by decide, by decide⟩ ?_
  refine q_ixor 26 rfl (show sCode 143 25 = some (.ixor, 1) by decide +kernel) ?_
  refine q_iand 27 rfl (show sCode 143 26 = some (.iand, 1) by decide +kernel) ?_
  refine q_ifne 61 30 rfl (by decide) (show sCode 143 27 = some (.ifCond .ne 34, 3) by decide +kernel) ?_ ?_
  · intro q; exact k1 q
  · intro q; exact k2 q
theorem b143_30 {d : Nat} {Q : Option sV → sM → sG → Prop} {M : sM} {G : sG} {a0 : Nat} {x1 : Int} {x2 : Int} {x3 : Int} {x4 : Int}  (kk : sC d 113 [vI x4] M G (QI (fun r M1 G1 => sW (sC d) 143 Q 35 [vO 5 a0, vI x1, vI x2, vI x3, vI x4] (vI r :: []) M1 G1 0 0))) : sW (sC d) 143 Q 30 [vO 5 a0, vI x1, vI x2, vI x3, vI x4] [] M G 0 0 := by
  refine q_iload 32 rfl (show sCode 143 30 = some (.iload 4, 2) by decide +kernel) rfl ?_
  exact q_statI [vI x4] 35 rfl (show sCode 143 32 = some (.invokestatic 57, 3) by decide +kernel) (show sMR (sKo 143).1 57 = some 113 by decide +kernel) (show 113 < 1000 ∧ sStat 113 = true ∧ sKo 113 = (15, 1, 1, 0, 0) by decide +kernel) rfl rfl (Nat.le_of_ble_eq_true rfl) rfl rfl rfl (by decide +kernel) kk
theorem b143_35 {d : Nat} {Q : Option sV → sM → sG → Prop} {M : sM} {G : sG} {a0 : Nat} {x1 : Int} {x2 : Int} {x3 : Int} {x4 : Int} {s0 : Int}  (k1 : x3 ≤ s0 → sW (sC d) 143 Q 61 [vO 5 a0, vI x1, vI x2, vI x3, vI x4] [] M G 0 0) (k2 : s0 < x3 → sW (sC d) 143 Q 39 [vO 5 a0, vI x1, vI x2, vI x3, vI x4] [] M G 0 0) : sW (sC d) 143 Q 35 [vO 5 a0, vI x1, vI x2, vI x3, vI x4] [vI s0] M G 0 0 := by
  refine q_iload_n 36 rfl (show sCode 143 35 = some (.iload_n 3, 1) by decide +kernel) rfl ?_
  refine q_icmpge 61 39 rfl (by decide) (show sCode 143 36 = some (.if_icmp .ge 25, 3) by decide +kernel) ?_ ?_
  · intro q; exact k1 q
  · intro q; exact k2 q
theorem b143_39 {d : Nat} {Q : Option sV → sM → sG → Prop} {M : sM} {G : sG} {a0 : Nat} {x1 : Int} {x2 : Int} {x3 : Int} {x4 : Int}  (kk : sC d 142 [vO 5 a0, vI (iAnd x1 (iXor x4 (-1)))] M G (QI (fun r M1 G1 => sW (sC d) 143 Q 49 [vO 5 a0, vI x1, vI x2, vI x3, vI x4] (vI r :: []) M1 G1 0 0))) : sW (sC d) 143 Q 39 [vO 5 a0, vI x1, vI x2, vI x3, vI x4] [] M G 0 0 := by
  refine q_aload_n 40 rfl (show sCode 143 39 = some (.aload_n 0, 1) by decide +kernel) rfl (Nat.le_of_ble_eq_true rfl) ?_
  refine q_iload_n 41 rfl (show sCode 143 40 = some (.iload_n 1, 1) by decide +kernel) rfl ?_
  refine q_iload 43 rfl (show sCode 143 41 = some (.iload 4, 2) by decide +kernel) rfl ?_
  refine q_iconst 44 rfl (show sCode 143 43 = some (.iconst (-1), 1) by decide +kernel) ⟨by decide, by decide⟩ ?_
  refine q_ixor 45 rfl (show sCode 143 44 = some (.ixor, 1) by decide +kernel) ?_
  refine q_iand 46 rfl (show sCode 143 45 = some (.iand, 1) by decide +kernel) ?_
  exact q_virtI [vI (iAnd x1 (iXor x4 (-1)))] 49 rfl (show sCode 143 46 = some (.invokevirtual 50, 3) by decide +kernel) (show sMR (sKo 143).1 50 = some 142 by decide +kernel) (show 142 < 1000 ∧ sStat 142 = false ∧ sIni 142 = false ∧ sKo 142 = (5, 1, 1, 0, 0) by decide +kernel) rfl (Or.inl rfl) rfl (Nat.le_of_ble_eq_true rfl) rfl rfl rfl (by decide +kernel) kk
theorem b143_49 {d : Nat} {Q : Option sV → sM → sG → Prop} {M : sM} {G : sG} {a0 : Nat} {x1 : Int} {x2 : Int} {x3 : Int} {x4 : Int} {s0 : Int}  (k1 : s0 ≠ 0 → sW (sC d) 143 Q 61 [vO 5 a0, vI x1, vI x2, vI x3, vI x4] [] M G 0 0) (k2 : s0 = 0 → sW (sC d) 143 Q 52 [vO 5 a0, vI x1, vN, vN, vI x4] [] M G 0 0) : sW (sC d) 143 Q 49 [vO 5 a0, vI x1, vI x2, vI x3, vI x4] [vI s0] M G 0 0 := by
  refine q_ifne 61 52 rfl (by decide) (show sCode 143 49 = some (.ifCond .ne 12, 3) by decide +kernel) ?_ ?_
  · intro q; exact k1 q
  · intro q; refine q_forget (L' := [vO 5 a0, vI x1, vN, vI x3, vI x4]) 2 rfl ?_; refine q_forget (L' := [vO 5 a0, vI x1, vN, vN, vI x4]) 3 rfl ?_; exact k2 q
theorem b143_52 {d : Nat} {Q : Option sV → sM → sG → Prop} {M : sM} {G : sG} {a0 : Nat} {x1 : Int} {x4 : Int}  (kk : sC d 113 [vI x4] M G (QI (fun r M1 G1 => sW (sC d) 143 Q 60 [vO 5 a0, vI x1, vI x4, vN, vI x4] (vI r :: []) M1 G1 0 0))) : sW (sC d) 143 Q 52 [vO 5 a0, vI x1, vN, vN, vI x4] [] M G 0 0 := by
  refine q_iload 54 rfl (show sCode 143 52 = some (.iload 4, 2) by decide +kernel) rfl ?_
  refine q_istore_n [vO 5 a0, vI x1, vI x4, vN, vI x4] 55 rfl (show sCode 143 54 = some (.istore_n 2, 1) by decide +kernel) (Nat.lt_of_lt_of_le (Nat.lt_succ_self _) (Nat.le_of_ble_eq_true rfl)) rfl rfl ?_
  refine q_iload 57 rfl (show sCode 143 55 = some (.iload 4, 2) by decide +kernel) rfl ?_
  exact q_statI [vI x4] 60 rfl (show sCode 143 57 = some (.invokestatic 57, 3) by decide +kernel) (show sMR (sKo 143).1 57 = some 113 by decide +kernel) (show 113 < 1000 ∧ sStat 113 = true ∧ sKo 113 = (15, 1, 1, 0, 0) by decide +kernel) rfl rfl (Nat.le_of_ble_eq_true rfl) rfl rfl rfl (by decide +kernel) kk
theorem b143_60 {d : Nat} {Q : Option sV → sM → sG → Prop} {M : sM} {G : sG} {a0 : Nat} {x1 : Int} {x2 : Int} {x4 : Int} {s0 : Int}  (kk : sW (sC d) 143 Q 61 [vO 5 a0, vI x1, vI x2, vI s0, vI x4] [] M G 0 0) : sW (sC d) 143 Q 60 [vO 5 a0, vI x1, vI x2, vN, vI x4] [vI s0] M G 0 0 := by
  refine q_istore_n [vO 5 a0, vI x1, vI x2, vI s0, vI x4] 61 rfl (show sCode 143 60 = some (.istore_n 3, 1) by decide +kernel) (Nat.lt_of_lt_of_le (Nat.lt_succ_self _) (Nat.le_of_ble_eq_true rfl)) rfl rfl ?_
  exact kk
theorem b143_61 {d : Nat} {Q : Option sV → sM → sG → Prop} {M : sM} {G : sG} {a0 : Nat} {x1 : Int} {x2 : Int} {x3 : Int} {x4 : Int} (h1 : sI (x4 + 1)) (kk : sW (sC d) 143 Q 15 [vO 5 a0, vI x1, vI x2, vI x3, vI (x4 + 1)] [] M G 0 0) : sW (sC d) 143 Q 61 [vO 5 a0, vI x1, vI x2, vI x3, vI x4] [] M G 0 0 := by
  refine q_iinc [vO 5 a0, vI x1, vI x2, vI x3, vI (x4 + 1)] 64 rfl (show sCode 143 61 = some (.iinc 4 1, 3) by decide +kernel) rfl rfl h1 rfl ?_
  refine q_goto 15 (by decide) (show sCode 143 64 = some (.goto (-49), 3) by decide +kernel) ?_
  exact kk
theorem b143_67 {d : Nat} {P : Int → sM → sG → Prop} {M : sM} {G : sG} {x2 : Int}  (kk : P x2 M G) : sW (sC d) 143 (QI P) 67 [vN, vN, vI x2, vN, vN] [] M G 0 0 := by
  refine q_iload_n 68 rfl (show sCode 143 67 = some (.iload_n 2, 1) by decide +kernel) rfl ?_
  exact q_iret (show sCode 143 68 = some (.ireturn, 1) by decide +kernel) (by decide +kernel) (by decide +kernel) kk
-- 150 AfterTheLast$Guesses.countOrders (LAfterTheLast$Told;)V
theorem b150_0 {d : Nat} {Q : Option sV → sM → sG → Prop} {M : sM} {G : sG} {a0 : Nat} {a1 : Nat}  (kk : sC d 6 [vA 0 (a0 + 1) 8, vI 0] (sUpd M a0 3 (M a1 7)) G (QV (fun M1 G1 => sW (sC d) 150 Q 16 [vO 2 a0, vO 9 a1, vN, vN, vN] [] M1 G1 0 0))) : sW (sC d) 150 Q 0 [vO 2 a0, vO 9 a1, vN, vN, vN] [] M G 0 0 := by
  refine q_aload_n 1 rfl (show sCode 150 0 = some (.aload_n 0, 1) by decide +kernel) rfl (Nat.le_of_ble_eq_true rfl) ?_
  refine q_aload_n 2 rfl (show sCode 150 1 = some (.aload_n 1, 1) by decide +kernel) rfl (Nat.le_of_ble_eq_true rfl) ?_
  refine q_getI 5 rfl (show sCode 150 2 = some (.getfield 27, 3) by decide +kernel) (show sFR (sKo 150).1 27 = some (9, 7) by decide +kernel) (by decide +kernel) (Or.inl (Or.inl rfl)) ?_
  refine q_putI 8 rfl (show sCode 150 5 = some (.putfield 23, 3) by decide +kernel) (show sFR (sKo 150).1 23 = some (2, 3) by decide +kernel) (by decide +kernel) (Or.inl ⟨Or.inl rfl, by decide +kernel⟩) ?_
  refine q_aload_n 9 rfl (show sCode 150 8 = some (.aload_n 0, 1) by decide +kernel) rfl (Nat.le_of_ble_eq_true rfl) ?_
  refine q_getR (vA 0 (a0 + 1) 8) 12 rfl (show sCode 150 9 = some (.getfield 11, 3) by decide +kernel) (show sFR (sKo 150).1 11 = some (2, 0) by decide +kernel) (by decide +kernel) (Or.inl (Or.inl rfl)) rfl ?_
  refine q_iconst 13 rfl (show sCode 150 12 = some (.iconst 0, 1) by decide +kernel) ⟨by decide, by decide⟩ ?_
  exact q_statV [vA 0 (a0 + 1) 8, vI 0] 16 rfl (show sCode 150 13 = some (.invokestatic 28, 3) by decide +kernel) (show sMR (sKo 150).1 28 = some 6 by decide +kernel) (show 6 < 1000 ∧ sStat 6 = true ∧ sKo 6 = (14, 2, 0, 0, 0) by decide +kernel) rfl rfl (Nat.le_of_ble_eq_true rfl) rfl rfl rfl (by decide +kernel) kk
theorem b150_16 {d : Nat} {Q : Option sV → sM → sG → Prop} {M : sM} {G : sG} {a0 : Nat} {a1 : Nat}  (kk : sW (sC d) 150 Q 18 [vO 2 a0, vO 9 a1, vI 0, vN, vN] [] M G 0 0) : sW (sC d) 150 Q 16 [vO 2 a0, vO 9 a1, vN, vN, vN] [] M G 0 0 := by
  refine q_iconst 17 rfl (show sCode 150 16 = some (.iconst 0, 1) by decide +kernel) ⟨by decide, by decide⟩ ?_
  refine q_istore_n [vO 2 a0, vO 9 a1, vI 0, vN, vN] 18 rfl (show sCode 150 17 = some (.istore_n 2, 1) by decide +kernel) (Nat.lt_of_lt_of_le (Nat.lt_succ_self _) (Nat.le_of_ble_eq_true rfl)) rfl rfl ?_
  exact kk
theorem b150_18 {d : Nat} {Q : Option sV → sM → sG → Prop} {M : sM} {G : sG} {a0 : Nat} {a1 : Nat} {x2 : Int}  (k1 : M a1 9 ≤ x2 → sW (sC d) 150 Q 79 [vO 2 a0, vN, vN, vN, vN] [] M G 0 0) (k2 : x2 < M a1 9 → sW (sC d) 150 Q 26 [vO 2 a0, vO 9 a1, vI x2, vN, vN] [] M G 0 0) : sW (sC d) 150 Q 18 [vO 2 a0, vO 9 a1, vI x2, vN, vN] [] M G 0 0 := by
  refine q_iload_n 19 rfl (show sCode 150 18 = some (.iload_n 2, 1) by decide +kernel) rfl ?_
  refine q_aload_n 20 rfl (show sCode 150 19 = some (.aload_n 1, 1) by decide +kernel) rfl (Nat.le_of_ble_eq_true rfl) ?_
  refine q_getI 23 rfl (show sCode 150 20 = some (.getfield 34, 3) by decide +kernel) (show sFR (sKo 150).1 34 = some (9, 9) by decide +kernel) (by decide +kernel) (Or.inl (Or.inl rfl)) ?_
  refine q_icmpge 79 26 rfl (by decide) (show sCode 150 23 = some (.if_icmp .ge 56, 3) by decide +kernel) ?_ ?_
  · intro q; refine q_forget (L' := [vO 2 a0, vN, vI x2, vN, vN]) 1 rfl ?_; refine q_forget (L' := [vO 2 a0, vN, vN, vN, vN]) 2 rfl ?_; exact k1 q
  · intro q; exact k2 q
theorem b150_26 {d : Nat} {Q : Option sV → sM → sG → Prop} {M : sM} {G : sG} {a0 : Nat} {a1 : Nat} {x2 : Int} (h1 : 0 ≤ x2 ∧ x2 < 8) (kk : sC d 147 [vO 9 a1, vI (M (a1 + 8) x2.toNat)] M G (QI (fun r M1 G1 => sW (sC d) 150 Q 36 [vO 2 a0, vO 9 a1, vI x2, vN, vN] (vI r :: []) M1 G1 0 0))) : sW (sC d) 150 Q 26 [vO 2 a0, vO 9 a1, vI x2, vN, vN] [] M G 0 0 := by
  refine q_aload_n 27 rfl (show sCode 150 26 = some (.aload_n 1, 1) by decide +kernel) rfl (Nat.le_of_ble_eq_true rfl) ?_
  refine q_aload_n 28 rfl (show sCode 150 27 = some (.aload_n 1, 1) by decide +kernel) rfl (Nat.le_of_ble_eq_true rfl) ?_
  refine q_getR (vA 0 (a1 + 8) 8) 31 rfl (show sCode 150 28 = some (.getfield 37, 3) by decide +kernel) (show sFR (sKo 150).1 37 = some (9, 10) by decide +kernel) (by decide +kernel) (Or.inl (Or.inl rfl)) rfl ?_
  refine q_iload_n 32 rfl (show sCode 150 31 = some (.iload_n 2, 1) by decide +kernel) rfl ?_
  refine q_iald 33 rfl (show sCode 150 32 = some (.iaload, 1) by decide +kernel) h1 ?_
  exact q_virtI [vI (M (a1 + 8) x2.toNat)] 36 rfl (show sCode 150 33 = some (.invokevirtual 40, 3) by decide +kernel) (show sMR (sKo 150).1 40 = some 147 by decide +kernel) (show 147 < 1000 ∧ sStat 147 = false ∧ sIni 147 = false ∧ sKo 147 = (9, 1, 1, 0, 0) by decide +kernel) rfl (Or.inl rfl) rfl (Nat.le_of_ble_eq_true rfl) rfl rfl rfl (by decide +kernel) kk
theorem b150_36 {d : Nat} {Q : Option sV → sM → sG → Prop} {M : sM} {G : sG} {a0 : Nat} {a1 : Nat} {x2 : Int} {s0 : Int} (h1 : 0 ≤ x2 ∧ x2 < 8) (kk : sC d 147 [vO 9 a1, vI (M (a1 + 9) x2.toNat)] M G (QI (fun r M1 G1 => sW (sC d) 150 Q 47 [vO 2 a0, vO 9 a1, vI x2, vI s0, vN] (vI r :: []) M1 G1 0 0))) : sW (sC d) 150 Q 36 [vO 2 a0, vO 9 a1, vI x2, vN, vN] [vI s0] M G 0 0 := by
  refine q_istore_n [vO 2 a0, vO 9 a1, vI x2, vI s0, vN] 37 rfl (show sCode 150 36 = some (.istore_n 3, 1) by decide +kernel) (Nat.lt_of_lt_of_le (Nat.lt_succ_self _) (Nat.le_of_ble_eq_true rfl)) rfl rfl ?_
  refine q_aload_n 38 rfl (show sCode 150 37 = some (.aload_n 1, 1) by decide +kernel) rfl (Nat.le_of_ble_eq_true rfl) ?_
  refine q_aload_n 39 rfl (show sCode 150 38 = some (.aload_n 1, 1) by decide +kernel) rfl (Nat.le_of_ble_eq_true rfl) ?_
  refine q_getR (vA 0 (a1 + 9) 8) 42 rfl (show sCode 150 39 = some (.getfield 44, 3) by decide +kernel) (show sFR (sKo 150).1 44 = some (9, 11) by decide +kernel) (by decide +kernel) (Or.inl (Or.inl rfl)) rfl ?_
  refine q_iload_n 43 rfl (show sCode 150 42 = some (.iload_n 2, 1) by decide +kernel) rfl ?_
  refine q_iald 44 rfl (show sCode 150 43 = some (.iaload, 1) by decide +kernel) h1 ?_
  exact q_virtI [vI (M (a1 + 9) x2.toNat)] 47 rfl (show sCode 150 44 = some (.invokevirtual 40, 3) by decide +kernel) (show sMR (sKo 150).1 40 = some 147 by decide +kernel) (show 147 < 1000 ∧ sStat 147 = false ∧ sIni 147 = false ∧ sKo 147 = (9, 1, 1, 0, 0) by decide +kernel) rfl (Or.inl rfl) rfl (Nat.le_of_ble_eq_true rfl) rfl rfl rfl (by decide +kernel) kk
theorem b150_47 {d : Nat} {Q : Option sV → sM → sG → Prop} {M : sM} {G : sG} {a0 : Nat} {a1 : Nat} {x2 : Int} {x3 : Int} {s0 : Int}  (k1 : x3 = (-1) → sW (sC d) 150 Q 73 [vO 2 a0, vO 9 a1, vI x2, vN, vN] [] M G 0 0) (k2 : x3 ≠ (-1) → sW (sC d) 150 Q 54 [vO 2 a0, vO 9 a1, vI x2, vI x3, vI s0] [] M G 0 0) : sW (sC d) 150 Q 47 [vO 2 a0, vO 9 a1, vI x2, vI x3, vN] [vI s0] M G 0 0 := by
  refine q_istore [vO 2 a0, vO 9 a1, vI x2, vI x3, vI s0] 49 rfl (show sCode 150 47 = some (.istore 4, 2) by decide +kernel) (Nat.lt_of_lt_of_le (Nat.lt_succ_self _) (Nat.le_of_ble_eq_true rfl)) rfl rfl ?_
  refine q_iload_n 50 rfl (show sCode 150 49 = some (.iload_n 3, 1) by decide +kernel) rfl ?_
  refine q_iconst 51 rfl (show sCode 150 50 = some (.iconst (-1), 1) by decide +kernel) ⟨by decide, by decide⟩ ?_
  refine q_icmpeq 73 54 rfl (by decide) (show sCode 150 51 = some (.if_icmp .eq 22, 3) by decide +kernel) ?_ ?_
  · intro q; refine q_forget (L' := [vO 2 a0, vO 9 a1, vI x2, vN, vI s0]) 3 rfl ?_; refine q_forget (L' := [vO 2 a0, vO 9 a1, vI x2, vN, vN]) 4 rfl ?_; exact k1 q
  · intro q; exact k2 q
theorem b150_54 {d : Nat} {Q : Option sV → sM → sG → Prop} {M : sM} {G : sG} {a0 : Nat} {a1 : Nat} {x2 : Int} {x3 : Int} {x4 : Int}  (k1 : x4 = (-1) → sW (sC d) 150 Q 73 [vO 2 a0, vO 9 a1, vI x2, vN, vN] [] M G 0 0) (k2 : x4 ≠ (-1) → sW (sC d) 150 Q 60 [vO 2 a0, vO 9 a1, vI x2, vI x3, vI x4] [] M G 0 0) : sW (sC d) 150 Q 54 [vO 2 a0, vO 9 a1, vI x2, vI x3, vI x4] [] M G 0 0 := by
  refine q_iload 56 rfl (show sCode 150 54 = some (.iload 4, 2) by decide +kernel) rfl ?_
  refine q_iconst 57 rfl (show sCode 150 56 = some (.iconst (-1), 1) by decide +kernel) ⟨by decide, by decide⟩ ?_
  refine q_icmpeq 73 60 rfl (by decide) (show sCode 150 57 = some (.if_icmp .eq 16, 3) by decide +kernel) ?_ ?_
  · intro q; refine q_forget (L' := [vO 2 a0, vO 9 a1, vI x2, vN, vI x4]) 3 rfl ?_; refine q_forget (L' := [vO 2 a0, vO 9 a1, vI x2, vN, vN]) 4 rfl ?_; exact k1 q
  · intro q; exact k2 q
theorem b150_60 {d : Nat} {Q : Option sV → sM → sG → Prop} {M : sM} {G : sG} {a0 : Nat} {a1 : Nat} {x2 : Int} {x3 : Int} {x4 : Int} (h1 : 0 ≤ x4 ∧ x4 < 8) (h2 : 0 ≤ x4 ∧ x4 < 8) (kk : sW (sC d) 150 Q 73 [vO 2 a0, vO 9 a1, vI x2, vN, vN] [] (sUpd M (a0 + 1) x4.toNat (iOr (M (a0 + 1) x4.toNat) (iShl 1 x3))) G 0 0) : sW (sC d) 150 Q 60 [vO 2 a0, vO 9 a1, vI x2, vI x3, vI x4] [] M G 0 0 := by
  refine q_aload_n 61 rfl (show sCode 150 60 = some (.aload_n 0, 1) by decide +kernel) rfl (Nat.le_of_ble_eq_true rfl) ?_
  refine q_getR (vA 0 (a0 + 1) 8) 64 rfl (show sCode 150 61 = some (.getfield 11, 3) by decide +kernel) (show sFR (sKo 150).1 11 = some (2, 0) by decide +kernel) (by decide +kernel) (Or.inl (Or.inl rfl)) rfl ?_
  refine q_iload 66 rfl (show sCode 150 64 = some (.iload 4, 2) by decide +kernel) rfl ?_
  refine q_dup2 67 rfl (show sCode 150 66 = some (.dup2, 1) by decide +kernel) rfl rfl ?_
  refine q_iald 68 rfl (show sCode 150 67 = some (.iaload, 1) by decide +kernel) h1 ?_
  refine q_iconst 69 rfl (show sCode 150 68 = some (.iconst 1, 1) by decide +kernel) ⟨by decide, by decide⟩ ?_
  refine q_iload_n 70 rfl (show sCode 150 69 = some (.iload_n 3, 1) by decide +kernel) rfl ?_
  refine q_ishl 71 rfl (show sCode 150 70 = some (.ishl, 1) by decide +kernel) ?_
  refine q_ior 72 rfl (show sCode 150 71 = some (.ior, 1) by decide +kernel) ?_
  refine q_iast 73 rfl (show sCode 150 72 = some (.iastore, 1) by decide +kernel) h2 ?_
  refine q_forget (L' := [vO 2 a0, vO 9 a1, vI x2, vN, vI x4]) 3 rfl ?_
  refine q_forget (L' := [vO 2 a0, vO 9 a1, vI x2, vN, vN]) 4 rfl ?_
  exact kk
theorem b150_73 {d : Nat} {Q : Option sV → sM → sG → Prop} {M : sM} {G : sG} {a0 : Nat} {a1 : Nat} {x2 : Int} (h1 : sI (x2 + 1)) (kk : sW (sC d) 150 Q 18 [vO 2 a0, vO 9 a1, vI (x2 + 1), vN, vN] [] M G 0 0) : sW (sC d) 150 Q 73 [vO 2 a0, vO 9 a1, vI x2, vN, vN] [] M G 0 0 := by
  refine q_iinc [vO 2 a0, vO 9 a1, vI (x2 + 1), vN, vN] 76 rfl (show sCode 150 73 = some (.iinc 2 1, 3) by decide +kernel) rfl rfl h1 rfl ?_
  refine q_goto 18 (by decide) (show sCode 150 76 = some (.goto (-58), 3) by decide +kernel) ?_
  exact kk
theorem b150_79 {d : Nat} {Q : Option sV → sM → sG → Prop} {M : sM} {G : sG} {a0 : Nat} (h1 : sI ((iShl 1 (M a0 3)) - 1)) (h2 : 0 ≤ (iShl 1 (M a0 3)) - 1 ∧ (iShl 1 (M a0 3)) - 1 < 256) (h3 : sI (((iShl 1 (M a0 3)) - 1) - 1)) (kk : sW (sC d) 150 Q 99 [vO 2 a0, vN, vN, vI (((iShl 1 (M a0 3)) - 1) - 1), vN] [] (sUpd M (a0 + 2) ((iShl 1 (M a0 3)) - 1).toNat 1) G 0 0) : sW (sC d) 150 Q 79 [vO 2 a0, vN, vN, vN, vN] [] M G 0 0 := by
  refine q_iconst 80 rfl (show sCode 150 79 = some (.iconst 1, 1) by decide +kernel) ⟨by decide, by decide⟩ ?_
  refine q_aload_n 81 rfl (show sCode 150 80 = some (.aload_n 0, 1) by decide +kernel) rfl (Nat.le_of_ble_eq_true rfl) ?_
  refine q_getI 84 rfl (show sCode 150 81 = some (.getfield 23, 3) by decide +kernel) (show sFR (sKo 150).1 23 = some (2, 3) by decide +kernel) (by decide +kernel) (Or.inl (Or.inl rfl)) ?_
  refine q_ishl 85 rfl (show sCode 150 84 = some (.ishl, 1) by decide +kernel) ?_
  refine q_iconst 86 rfl (show sCode 150 85 = some (.iconst 1, 1) by decide +kernel) ⟨by decide, by decide⟩ ?_
  refine q_isub 87 rfl (show sCode 150 86 = some (.isub, 1) by decide +kernel) h1 ?_
  refine q_istore_n [vO 2 a0, vN, vI ((iShl 1 (M a0 3)) - 1), vN, vN] 88 rfl (show sCode 150 87 = some (.istore_n 2, 1) by decide +kernel) (Nat.lt_of_lt_of_le (Nat.lt_succ_self _) (Nat.le_of_ble_eq_true rfl)) rfl rfl ?_
  refine q_aload_n 89 rfl (show sCode 150 88 = some (.aload_n 0, 1) by decide +kernel) rfl (Nat.le_of_ble_eq_true rfl) ?_
  refine q_getR (vA 0 (a0 + 2) 256) 92 rfl (show sCode 150 89 = some (.getfield 17, 3) by decide +kernel) (show sFR (sKo 150).1 17 = some (2, 1) by decide +kernel) (by decide +kernel) (Or.inl (Or.inl rfl)) rfl ?_
  refine q_iload_n 93 rfl (show sCode 150 92 = some (.iload_n 2, 1) by decide +kernel) rfl ?_
  refine q_iconst 94 rfl (show sCode 150 93 = some (.iconst 1, 1) by decide +kernel) ⟨by decide, by decide⟩ ?_
  refine q_iast 95 rfl (show sCode 150 94 = some (.iastore, 1) by decide +kernel) h2 ?_
  refine q_iload_n 96 rfl (show sCode 150 95 = some (.iload_n 2, 1) by decide +kernel) rfl ?_
  refine q_iconst 97 rfl (show sCode 150 96 = some (.iconst 1, 1) by decide +kernel) ⟨by decide, by decide⟩ ?_
  refine q_isub 98 rfl (show sCode 150 97 = some (.isub, 1) by decide +kernel) h3 ?_
  refine q_istore_n [vO 2 a0, vN, vI ((iShl 1 (M a0 3)) - 1), vI (((iShl 1 (M a0 3)) - 1) - 1), vN] 99 rfl (show sCode 150 98 = some (.istore_n 3, 1) by decide +kernel) (Nat.lt_of_lt_of_le (Nat.lt_succ_self _) (Nat.le_of_ble_eq_true rfl)) rfl rfl ?_
  refine q_forget (L' := [vO 2 a0, vN, vN, vI (((iShl 1 (M a0 3)) - 1) - 1), vN]) 2 rfl ?_
  exact kk
theorem b150_99 {d : Nat} {Q : Option sV → sM → sG → Prop} {M : sM} {G : sG} {a0 : Nat} {x3 : Int}  (k1 : x3 < 0 → sW (sC d) 150 Q 164 [vN, vN, vN, vN, vN] [] M G 0 0) (k2 : 0 ≤ x3 → sW (sC d) 150 Q 103 [vO 2 a0, vN, vN, vI x3, vN] [] M G 0 0) : sW (sC d) 150 Q 99 [vO 2 a0, vN, vN, vI x3, vN] [] M G 0 0 := by
  refine q_iload_n 100 rfl (show sCode 150 99 = some (.iload_n 3, 1) by decide +kernel) rfl ?_
  refine q_iflt 164 103 rfl (by decide) (show sCode 150 100 = some (.ifCond .lt 64, 3) by decide +kernel) ?_ ?_
  · intro q; refine q_forget (L' := [vN, vN, vN, vI x3, vN]) 0 rfl ?_; refine q_forget (L' := [vN, vN, vN, vN, vN]) 3 rfl ?_; exact k1 q
  · intro q; exact k2 q
theorem b150_103 {d : Nat} {Q : Option sV → sM → sG → Prop} {M : sM} {G : sG} {a0 : Nat} {x3 : Int} (h1 : 0 ≤ x3 ∧ x3 < 256) (kk : sW (sC d) 150 Q 113 [vO 2 a0, vN, vN, vI x3, vI 0] [] (sUpd M (a0 + 2) x3.toNat 0) G 0 0) : sW (sC d) 150 Q 103 [vO 2 a0, vN, vN, vI x3, vN] [] M G 0 0 := by
  refine q_aload_n 104 rfl (show sCode 150 103 = some (.aload_n 0, 1) by decide +kernel) rfl (Nat.le_of_ble_eq_true rfl) ?_
  refine q_getR (vA 0 (a0 + 2) 256) 107 rfl (show sCode 150 104 = some (.getfield 17, 3) by decide +kernel) (show sFR (sKo 150).1 17 = some (2, 1) by decide +kernel) (by decide +kernel) (Or.inl (Or.inl rfl)) rfl ?_
  refine q_iload_n 108 rfl (show sCode 150 107 = some (.iload_n 3, 1) by decide +kernel) rfl ?_
  refine q_iconst 109 rfl (show sCode 150 108 = some (.iconst 0, 1) by decide +kernel) ⟨by decide, by decide⟩ ?_
  refine q_iast 110 rfl (show sCode 150 109 = some (.iastore, 1) by decide +kernel) h1 ?_
  refine q_iconst 111 rfl (show sCode 150 110 = some (.iconst 0, 1) by decide +kernel) ⟨by decide, by decide⟩ ?_
  refine q_istore [vO 2 a0, vN, vN, vI x3, vI 0] 113 rfl (show sCode 150 111 = some (.istore 4, 2) by decide +kernel) (Nat.lt_of_lt_of_le (Nat.lt_succ_self _) (Nat.le_of_ble_eq_true rfl)) rfl rfl ?_
  exact kk
theorem b150_113 {d : Nat} {Q : Option sV → sM → sG → Prop} {M : sM} {G : sG} {a0 : Nat} {x3 : Int} {x4 : Int}  (k1 : M a0 3 ≤ x4 → sW (sC d) 150 Q 158 [vO 2 a0, vN, vN, vI x3, vN] [] M G 0 0) (k2 : x4 < M a0 3 → sW (sC d) 150 Q 122 [vO 2 a0, vN, vN, vI x3, vI x4] [] M G 0 0) : sW (sC d) 150 Q 113 [vO 2 a0, vN, vN, vI x3, vI x4] [] M G 0 0 := by
  refine q_iload 115 rfl (show sCode 150 113 = some (.iload 4, 2) by decide +kernel) rfl ?_
  refine q_aload_n 116 rfl (show sCode 150 115 = some (.aload_n 0, 1) by decide +kernel) rfl (Nat.le_of_ble_eq_true rfl) ?_
  refine q_getI 119 rfl (show sCode 150 116 = some (.getfield 23, 3) by decide +kernel) (show sFR (sKo 150).1 23 = some (2, 3) by decide +kernel) (by decide +kernel) (Or.inl (Or.inl rfl)) ?_
  refine q_icmpge 158 122 rfl (by decide) (show sCode 150 119 = some (.if_icmp .ge 39, 3) by decide +kernel) ?_ ?_
  · intro q; refine q_forget (L' := [vO 2 a0, vN, vN, vI x3, vN]) 4 rfl ?_; exact k1 q
  · intro q; exact k2 q
theorem b150_122 {d : Nat} {Q : Option sV → sM → sG → Prop} {M : sM} {G : sG} {a0 : Nat} {x3 : Int} {x4 : Int}  (kk : sC d 151 [vO 2 a0, vI x3, vI x4] M G (QI (fun r M1 G1 => sW (sC d) 150 Q 129 [vO 2 a0, vN, vN, vI x3, vI x4] (vI r :: []) M1 G1 0 0))) : sW (sC d) 150 Q 122 [vO 2 a0, vN, vN, vI x3, vI x4] [] M G 0 0 := by
  refine q_aload_n 123 rfl (show sCode 150 122 = some (.aload_n 0, 1) by decide +kernel) rfl (Nat.le_of_ble_eq_true rfl) ?_
  refine q_iload_n 124 rfl (show sCode 150 123 = some (.iload_n 3, 1) by decide +kernel) rfl ?_
  refine q_iload 126 rfl (show sCode 150 124 = some (.iload 4, 2) by decide +kernel) rfl ?_
  exact q_virtI [vI x3, vI x4] 129 rfl (show sCode 150 126 = some (.invokevirtual 47, 3) by decide +kernel) (show sMR (sKo 150).1 47 = some 151 by decide +kernel) (show 151 < 1000 ∧ sStat 151 = false ∧ sIni 151 = false ∧ sKo 151 = (2, 2, 2, 0, 0) by decide +kernel) rfl (Or.inl rfl) rfl (Nat.le_of_ble_eq_true rfl) rfl rfl rfl (by decide +kernel) kk
theorem b150_129 {d : Nat} {Q : Option sV → sM → sG → Prop} {M : sM} {G : sG} {a0 : Nat} {x3 : Int} {x4 : Int} {s0 : Int}  (k1 : s0 = 0 → sW (sC d) 150 Q 152 [vO 2 a0, vN, vN, vI x3, vI x4] [] M G 0 0) (k2 : s0 ≠ 0 → sW (sC d) 150 Q 132 [vO 2 a0, vN, vN, vI x3, vI x4] [] M G 0 0) : sW (sC d) 150 Q 129 [vO 2 a0, vN, vN, vI x3, vI x4] [vI s0] M G 0 0 := by
  refine q_ifeq 152 132 rfl (by decide) (show sCode 150 129 = some (.ifCond .eq 23, 3) by decide +kernel) ?_ ?_
  · intro q; exact k1 q
  · intro q; exact k2 q
theorem b150_132 {d : Nat} {Q : Option sV → sM → sG → Prop} {M : sM} {G : sG} {a0 : Nat} {x3 : Int} {x4 : Int} (h1 : 0 ≤ x3 ∧ x3 < 256) (h2 : 0 ≤ iOr x3 (iShl 1 x4) ∧ iOr x3 (iShl 1 x4) < 256) (h3 : sI ((M (a0 + 2) x3.toNat) + (M (a0 + 2) (iOr x3 (iShl 1 x4)).toNat))) (h4 : 0 ≤ x3 ∧ x3 < 256) (kk : sW (sC d) 150 Q 152 [vO 2 a0, vN, vN, vI x3, vI x4] [] (sUpd M (a0 + 2) x3.toNat ((M (a0 + 2) x3.toNat) + (M (a0 + 2) (iOr x3 (iShl 1 x4)).toNat))) G 0 0) : sW (sC d) 150 Q 132 [vO 2 a0, vN, vN, vI x3, vI x4] [] M G 0 0 := by
  refine q_aload_n 133 rfl (show sCode 150 132 = some (.aload_n 0, 1) by decide +kernel) rfl (Nat.le_of_ble_eq_true rfl) ?_
  refine q_getR (vA 0 (a0 + 2) 256) 136 rfl (show sCode 150 133 = some (.getfield 17, 3) by decide +kernel) (show sFR (sKo 150).1 17 = some (2, 1) by decide +kernel) (by decide +kernel) (Or.inl (Or.inl rfl)) rfl ?_
  refine q_iload_n 137 rfl (show sCode 150 136 = some (.iload_n 3, 1) by decide +kernel) rfl ?_
  refine q_dup2 138 rfl (show sCode 150 137 = some (.dup2, 1) by decide +kernel) rfl rfl ?_
  refine q_iald 139 rfl (show sCode 150 138 = some (.iaload, 1) by decide +kernel) h1 ?_
  refine q_aload_n 140 rfl (show sCode 150 139 = some (.aload_n 0, 1) by decide +kernel) rfl (Nat.le_of_ble_eq_true rfl) ?_
  refine q_getR (vA 0 (a0 + 2) 256) 143 rfl (show sCode 150 140 = some (.getfield 17, 3) by decide +kernel) (show sFR (sKo 150).1 17 = some (2, 1) by decide +kernel) (by decide +kernel) (Or.inl (Or.inl rfl)) rfl ?_
  refine q_iload_n 144 rfl (show sCode 150 143 = some (.iload_n 3, 1) by decide +kernel) rfl ?_
  refine q_iconst 145 rfl (show sCode 150 144 = some (.iconst 1, 1) by decide +kernel) ⟨by decide, by decide⟩ ?_
  refine q_iload 147 rfl (show sCode 150 145 = some (.iload 4, 2) by decide +kernel) rfl ?_
  refine q_ishl 148 rfl (show sCode 150 147 = some (.ishl, 1) by decide +kernel) ?_
  refine q_ior 149 rfl (show sCode 150 148 = some (.ior, 1) by decide +kernel) ?_
  refine q_iald 150 rfl (show sCode 150 149 = some (.iaload, 1) by decide +kernel) h2 ?_
  refine q_iadd 151 rfl (show sCode 150 150 = some (.iadd, 1) by decide +kernel) h3 ?_
  refine q_iast 152 rfl (show sCode 150 151 = some (.iastore, 1) by decide +kernel) h4 ?_
  exact kk
theorem b150_152 {d : Nat} {Q : Option sV → sM → sG → Prop} {M : sM} {G : sG} {a0 : Nat} {x3 : Int} {x4 : Int} (h1 : sI (x4 + 1)) (kk : sW (sC d) 150 Q 113 [vO 2 a0, vN, vN, vI x3, vI (x4 + 1)] [] M G 0 0) : sW (sC d) 150 Q 152 [vO 2 a0, vN, vN, vI x3, vI x4] [] M G 0 0 := by
  refine q_iinc [vO 2 a0, vN, vN, vI x3, vI (x4 + 1)] 155 rfl (show sCode 150 152 = some (.iinc 4 1, 3) by decide +kernel) rfl rfl h1 rfl ?_
  refine q_goto 113 (by decide) (show sCode 150 155 = some (.goto (-42), 3) by decide +kernel) ?_
  exact kk
theorem b150_158 {d : Nat} {Q : Option sV → sM → sG → Prop} {M : sM} {G : sG} {a0 : Nat} {x3 : Int} (h1 : sI (x3 + (-1))) (kk : sW (sC d) 150 Q 99 [vO 2 a0, vN, vN, vI (x3 + (-1)), vN] [] M G 0 0) : sW (sC d) 150 Q 158 [vO 2 a0, vN, vN, vI x3, vN] [] M G 0 0 := by
  refine q_iinc [vO 2 a0, vN, vN, vI (x3 + (-1)), vN] 161 rfl (show sCode 150 158 = some (.iinc 3 (-1), 3) by decide +kernel) rfl rfl h1 rfl ?_
  refine q_goto 99 (by decide) (show sCode 150 161 = some (.goto (-62), 3) by decide +kernel) ?_
  exact kk
theorem b150_164 {d : Nat} {P : sM → sG → Prop} {M : sM} {G : sG}   (kk : P M G) : sW (sC d) 150 (QV P) 164 [vN, vN, vN, vN, vN] [] M G 0 0 := by
  exact q_vret (show sCode 150 164 = some (.return_, 1) by decide +kernel) (by decide +kernel) (by decide +kernel) kk
-- 151 AfterTheLast$Guesses.mayComeNext (II)Z
theorem b151_0 {d : Nat} {Q : Option sV → sM → sG → Prop} {M : sM} {G : sG} {a0 : Nat} {x1 : Int} {x2 : Int} (h1 : sI (x1 + 1)) (h2 : sI ((-(iAnd x1 (x1 + 1))))) (k1 : iAnd x1 (iShl 1 x2) ≠ 0 → sW (sC d) 151 Q 53 [vN, vN, vN, vN, vN, vN] [] M G 0 0) (k2 : iAnd x1 (iShl 1 x2) = 0 → sW (sC d) 151 Q 25 [vO 2 a0, vI x1, vI x2, vI (iShl 1 x2), vN, vI (iAnd (iAnd x1 (x1 + 1)) (-(iAnd x1 (x1 + 1))))] [] M G 0 0) : sW (sC d) 151 Q 0 [vO 2 a0, vI x1, vI x2, vN, vN, vN] [] M G 0 0 := by
  refine q_iconst 1 rfl (show sCode 151 0 = some (.iconst 1, 1) by decide +kernel) ⟨by decide, by decide⟩ ?_
  refine q_iload_n 2 rfl (show sCode 151 1 = some (.iload_n 2, 1) by decide +kernel) rfl ?_
  refine q_ishl 3 rfl (show sCode 151 2 = some (.ishl, 1) by decide +kernel) ?_
  refine q_istore_n [vO 2 a0, vI x1, vI x2, vI (iShl 1 x2), vN, vN] 4 rfl (show sCode 151 3 = some (.istore_n 3, 1) by decide +kernel) (Nat.lt_of_lt_of_le (Nat.lt_succ_self _) (Nat.le_of_ble_eq_true rfl)) rfl rfl ?_
  refine q_iload_n 5 rfl (show sCode 151 4 = some (.iload_n 1, 1) by decide +kernel) rfl ?_
  refine q_iload_n 6 rfl (show sCode 151 5 = some (.iload_n 1, 1) by decide +kernel) rfl ?_
  refine q_iconst 7 rfl (show sCode 151 6 = some (.iconst 1, 1) by decide +kernel) ⟨by decide, by decide⟩ ?_
  refine q_iadd 8 rfl (show sCode 151 7 = some (.iadd, 1) by decide +kernel) h1 ?_
  refine q_iand 9 rfl (show sCode 151 8 = some (.iand, 1) by decide +kernel) ?_
  refine q_istore [vO 2 a0, vI x1, vI x2, vI (iShl 1 x2), vI (iAnd x1 (x1 + 1)), vN] 11 rfl (show sCode 151 9 = some (.istore 4, 2) by decide +kernel) (Nat.lt_of_lt_of_le (Nat.lt_succ_self _) (Nat.le_of_ble_eq_true rfl)) rfl rfl ?_
  refine q_iload 13 rfl (show sCode 151 11 = some (.iload 4, 2) by decide +kernel) rfl ?_
  refine q_iload 15 rfl (show sCode 151 13 = some (.iload 4, 2) by decide +kernel) rfl ?_
  refine q_ineg 16 rfl (show sCode 151 15 = some (.ineg, 1) by decide +kernel) h2 ?_
  refine q_iand 17 rfl (show sCode 151 16 = some (.iand, 1) by decide +kernel) ?_
  refine q_istore [vO 2 a0, vI x1, vI x2, vI (iShl 1 x2), vI (iAnd x1 (x1 + 1)), vI (iAnd (iAnd x1 (x1 + 1)) (-(iAnd x1 (x1 + 1))))] 19 rfl (show sCode 151 17 = some (.istore 5, 2) by decide +kernel) (Nat.lt_of_lt_of_le (Nat.lt_succ_self _) (Nat.le_of_ble_eq_true rfl)) rfl rfl ?_
  refine q_iload_n 20 rfl (show sCode 151 19 = some (.iload_n 1, 1) by decide +kernel) rfl ?_
  refine q_iload_n 21 rfl (show sCode 151 20 = some (.iload_n 3, 1) by decide +kernel) rfl ?_
  refine q_iand 22 rfl (show sCode 151 21 = some (.iand, 1) by decide +kernel) ?_
  refine q_ifne 53 25 rfl (by decide) (show sCode 151 22 = some (.ifCond .ne 31, 3) by decide +kernel) ?_ ?_
  · intro q; refine q_forget (L' := [vN, vI x1, vI x2, vI (iShl 1 x2), vI (iAnd x1 (x1 + 1)), vI (iAnd (iAnd x1 (x1 + 1)) (-(iAnd x1 (x1 + 1))))]) 0 rfl ?_; refine q_forget (L' := [vN, vN, vI x2, vI (iShl 1 x2), vI (iAnd x1 (x1 + 1)), vI (iAnd (iAnd x1 (x1 + 1)) (-(iAnd x1 (x1 + 1))))]) 1 rfl ?_; refine q_forget (L' := [vN, vN, vN, vI (iShl 1 x2), vI (iAnd x1 (x1 + 1)), vI (iAnd (iAnd x1 (x1 + 1)) (-(iAnd x1 (x1 + 1))))]) 2 rfl ?_; refine q_forget (L' := [vN, vN, vN, vN, vI (iAnd x1 (x1 + 1)), vI (iAnd (iAnd x1 (x1 + 1)) (-(iAnd x1 (x1 + 1))))]) 3 rfl ?_; refine q_forget (L' := [vN, vN, vN, vN, vN, vI (iAnd (iAnd x1 (x1 + 1)) (-(iAnd x1 (x1 + 1))))]) 4 rfl ?_; refine q_forget (L' := [vN, vN, vN, vN, vN, vN]) 5 rfl ?_; exact k1 q
  · intro q; refine q_forget (L' := [vO 2 a0, vI x1, vI x2, vI (iShl 1 x2), vN, vI (iAnd (iAnd x1 (x1 + 1)) (-(iAnd x1 (x1 + 1))))]) 4 rfl ?_; exact k2 q
theorem b151_25 {d : Nat} {Q : Option sV → sM → sG → Prop} {M : sM} {G : sG} {a0 : Nat} {x1 : Int} {x2 : Int} {x3 : Int} {x5 : Int}  (k1 : x5 = 0 → sW (sC d) 151 Q 36 [vO 2 a0, vI x1, vI x2, vN, vN, vN] [] M G 0 0) (k2 : x5 ≠ 0 → sW (sC d) 151 Q 30 [vO 2 a0, vI x1, vI x2, vI x3, vN, vI x5] [] M G 0 0) : sW (sC d) 151 Q 25 [vO 2 a0, vI x1, vI x2, vI x3, vN, vI x5] [] M G 0 0 := by
  refine q_iload 27 rfl (show sCode 151 25 = some (.iload 5, 2) by decide +kernel) rfl ?_
  refine q_ifeq 36 30 rfl (by decide) (show sCode 151 27 = some (.ifCond .eq 9, 3) by decide +kernel) ?_ ?_
  · intro q; refine q_forget (L' := [vO 2 a0, vI x1, vI x2, vN, vN, vI x5]) 3 rfl ?_; refine q_forget (L' := [vO 2 a0, vI x1, vI x2, vN, vN, vN]) 5 rfl ?_; exact k1 q
  · intro q; exact k2 q
theorem b151_30 {d : Nat} {Q : Option sV → sM → sG → Prop} {M : sM} {G : sG} {a0 : Nat} {x1 : Int} {x2 : Int} {x3 : Int} {x5 : Int}  (k1 : x5 ≤ x3 → sW (sC d) 151 Q 53 [vN, vN, vN, vN, vN, vN] [] M G 0 0) (k2 : x3 < x5 → sW (sC d) 151 Q 36 [vO 2 a0, vI x1, vI x2, vN, vN, vN] [] M G 0 0) : sW (sC d) 151 Q 30 [vO 2 a0, vI x1, vI x2, vI x3, vN, vI x5] [] M G 0 0 := by
  refine q_iload_n 31 rfl (show sCode 151 30 = some (.iload_n 3, 1) by decide +kernel) rfl ?_
  refine q_iload 33 rfl (show sCode 151 31 = some (.iload 5, 2) by decide +kernel) rfl ?_
  refine q_icmpge 53 36 rfl (by decide) (show sCode 151 33 = some (.if_icmp .ge 20, 3) by decide +kernel) ?_ ?_
  · intro q; refine q_forget (L' := [vN, vI x1, vI x2, vI x3, vN, vI x5]) 0 rfl ?_; refine q_forget (L' := [vN, vN, vI x2, vI x3, vN, vI x5]) 1 rfl ?_; refine q_forget (L' := [vN, vN, vN, vI x3, vN, vI x5]) 2 rfl ?_; refine q_forget (L' := [vN, vN, vN, vN, vN, vI x5]) 3 rfl ?_; refine q_forget (L' := [vN, vN, vN, vN, vN, vN]) 5 rfl ?_; exact k1 q
  · intro q; refine q_forget (L' := [vO 2 a0, vI x1, vI x2, vN, vN, vI x5]) 3 rfl ?_; refine q_forget (L' := [vO 2 a0, vI x1, vI x2, vN, vN, vN]) 5 rfl ?_; exact k2 q
theorem b151_36 {d : Nat} {Q : Option sV → sM → sG → Prop} {M : sM} {G : sG} {a0 : Nat} {x1 : Int} {x2 : Int} (h1 : 0 ≤ x2 ∧ x2 < 8) (k1 : iAnd (M (a0 + 1) x2.toNat) (iXor x1 (-1)) ≠ 0 → sW (sC d) 151 Q 53 [vN, vN, vN, vN, vN, vN] [] M G 0 0) (k2 : iAnd (M (a0 + 1) x2.toNat) (iXor x1 (-1)) = 0 → sW (sC d) 151 Q 49 [vN, vN, vN, vN, vN, vN] [] M G 0 0) : sW (sC d) 151 Q 36 [vO 2 a0, vI x1, vI x2, vN, vN, vN] [] M G 0 0 := by
  refine q_aload_n 37 rfl (show sCode 151 36 = some (.aload_n 0, 1) by decide +kernel) rfl (Nat.le_of_ble_eq_true rfl) ?_
  refine q_getR (vA 0 (a0 + 1) 8) 40 rfl (show sCode 151 37 = some (.getfield 11, 3) by decide +kernel) (show sFR (sKo 151).1 11 = some (2, 0) by decide +kernel) (by decide +kernel) (Or.inl (Or.inl rfl)) rfl ?_
  refine q_iload_n 41 rfl (show sCode 151 40 = some (.iload_n 2, 1) by decide +kernel) rfl ?_
  refine q_iald 42 rfl (show sCode 151 41 = some (.iaload, 1) by decide +kernel) h1 ?_
  refine q_iload_n 43 rfl (show sCode 151 42 = some (.iload_n 1, 1) by decide +kernel) rfl ?_
  refine q_iconst 44 rfl (show sCode 151 43 = some (.iconst (-1), 1) by decide +kernel) ⟨by decide, by decide⟩ ?_
  refine q_ixor 45 rfl (show sCode 151 44 = some (.ixor, 1) by decide +kernel) ?_
  refine q_iand 46 rfl (show sCode 151 45 = some (.iand, 1) by decide +kernel) ?_
  refine q_ifne 53 49 rfl (by decide) (show sCode 151 46 = some (.ifCond .ne 7, 3) by decide +kernel) ?_ ?_
  · intro q; refine q_forget (L' := [vN, vI x1, vI x2, vN, vN, vN]) 0 rfl ?_; refine q_forget (L' := [vN, vN, vI x2, vN, vN, vN]) 1 rfl ?_; refine q_forget (L' := [vN, vN, vN, vN, vN, vN]) 2 rfl ?_; exact k1 q
  · intro q; refine q_forget (L' := [vN, vI x1, vI x2, vN, vN, vN]) 0 rfl ?_; refine q_forget (L' := [vN, vN, vI x2, vN, vN, vN]) 1 rfl ?_; refine q_forget (L' := [vN, vN, vN, vN, vN, vN]) 2 rfl ?_; exact k2 q
theorem b151_49 {d : Nat} {Q : Option sV → sM → sG → Prop} {M : sM} {G : sG}   (kk : sW (sC d) 151 Q 54 [vN, vN, vN, vN, vN, vN] [vI 1] M G 0 0) : sW (sC d) 151 Q 49 [vN, vN, vN, vN, vN, vN] [] M G 0 0 := by
  refine q_iconst 50 rfl (show sCode 151 49 = some (.iconst 1, 1) by decide +kernel) ⟨by decide, by decide⟩ ?_
  refine q_goto 54 (by decide) (show sCode 151 50 = some (.goto 4, 3) by decide +kernel) ?_
  exact kk
theorem b151_53 {d : Nat} {Q : Option sV → sM → sG → Prop} {M : sM} {G : sG}   (kk : sW (sC d) 151 Q 54 [vN, vN, vN, vN, vN, vN] [vI 0] M G 0 0) : sW (sC d) 151 Q 53 [vN, vN, vN, vN, vN, vN] [] M G 0 0 := by
  refine q_iconst 54 rfl (show sCode 151 53 = some (.iconst 0, 1) by decide +kernel) ⟨by decide, by decide⟩ ?_
  exact kk
theorem b151_54 {d : Nat} {P : Int → sM → sG → Prop} {M : sM} {G : sG} {s0 : Int}  (h01 : s0 = 0 ∨ s0 = 1) (kk : P s0 M G) : sW (sC d) 151 (QI P) 54 [vN, vN, vN, vN, vN, vN] [vI s0] M G 0 0 := by
  exact q_zret (show sCode 151 54 = some (.ireturn, 1) by decide +kernel) (by decide +kernel) h01 (by decide +kernel) kk
-- 152 AfterTheLast$Guesses.howManyOrders ()I
theorem b152_0 {d : Nat} {P : Int → sM → sG → Prop} {M : sM} {G : sG} {a0 : Nat}  (kk : P (M (a0 + 2) 0) M G) : sW (sC d) 152 (QI P) 0 [vO 2 a0] [] M G 0 0 := by
  refine q_aload_n 1 rfl (show sCode 152 0 = some (.aload_n 0, 1) by decide +kernel) rfl (Nat.le_of_ble_eq_true rfl) ?_
  refine q_getR (vA 0 (a0 + 2) 256) 4 rfl (show sCode 152 1 = some (.getfield 17, 3) by decide +kernel) (show sFR (sKo 152).1 17 = some (2, 1) by decide +kernel) (by decide +kernel) (Or.inl (Or.inl rfl)) rfl ?_
  refine q_iconst 5 rfl (show sCode 152 4 = some (.iconst 0, 1) by decide +kernel) ⟨by decide, by decide⟩ ?_
  refine q_iald 6 rfl (show sCode 152 5 = some (.iaload, 1) by decide +kernel) ⟨by decide, by decide⟩ ?_
  exact q_iret (show sCode 152 6 = some (.ireturn, 1) by decide +kernel) (by decide +kernel) (by decide +kernel) kk
-- 153 AfterTheLast$Guesses.inFirstOrder (LAfterTheLast$Told;I)I
theorem b153_0 {d : Nat} {Q : Option sV → sM → sG → Prop} {M : sM} {G : sG} {a0 : Nat} {a1 : Nat} {x2 : Int}  (kk : sW (sC d) 153 Q 8 [vO 2 a0, vO 9 a1, vI x2, vI 0, vI (-1), vI 0, vN] [] M G 0 0) : sW (sC d) 153 Q 0 [vO 2 a0, vO 9 a1, vI x2, vN, vN, vN, vN] [] M G 0 0 := by
  refine q_iconst 1 rfl (show sCode 153 0 = some (.iconst 0, 1) by decide +kernel) ⟨by decide, by decide⟩ ?_
  refine q_istore_n [vO 2 a0, vO 9 a1, vI x2, vI 0, vN, vN, vN] 2 rfl (show sCode 153 1 = some (.istore_n 3, 1) by decide +kernel) (Nat.lt_of_lt_of_le (Nat.lt_succ_self _) (Nat.le_of_ble_eq_true rfl)) rfl rfl ?_
  refine q_iconst 3 rfl (show sCode 153 2 = some (.iconst (-1), 1) by decide +kernel) ⟨by decide, by decide⟩ ?_
  refine q_istore [vO 2 a0, vO 9 a1, vI x2, vI 0, vI (-1), vN, vN] 5 rfl (show sCode 153 3 = some (.istore 4, 2) by decide +kernel) (Nat.lt_of_lt_of_le (Nat.lt_succ_self _) (Nat.le_of_ble_eq_true rfl)) rfl rfl ?_
  refine q_iconst 6 rfl (show sCode 153 5 = some (.iconst 0, 1) by decide +kernel) ⟨by decide, by decide⟩ ?_
  refine q_istore [vO 2 a0, vO 9 a1, vI x2, vI 0, vI (-1), vI 0, vN] 8 rfl (show sCode 153 6 = some (.istore 5, 2) by decide +kernel) (Nat.lt_of_lt_of_le (Nat.lt_succ_self _) (Nat.le_of_ble_eq_true rfl)) rfl rfl ?_
  exact kk
theorem b153_8 {d : Nat} {Q : Option sV → sM → sG → Prop} {M : sM} {G : sG} {a0 : Nat} {a1 : Nat} {x2 : Int} {x3 : Int} {x4 : Int} {x5 : Int}  (k1 : x2 < x5 → sW (sC d) 153 Q 61 [vN, vN, vN, vN, vI x4, vN, vN] [] M G 0 0) (k2 : x5 ≤ x2 → sW (sC d) 153 Q 14 [vO 2 a0, vO 9 a1, vI x2, vI x3, vI x4, vI x5, vN] [] M G 0 0) : sW (sC d) 153 Q 8 [vO 2 a0, vO 9 a1, vI x2, vI x3, vI x4, vI x5, vN] [] M G 0 0 := by
  refine q_iload 10 rfl (show sCode 153 8 = some (.iload 5, 2) by decide +kernel) rfl ?_
  refine q_iload_n 11 rfl (show sCode 153 10 = some (.iload_n 2, 1) by decide +kernel) rfl ?_
  refine q_icmpgt 61 14 rfl (by decide) (show sCode 153 11 = some (.if_icmp .gt 50, 3) by decide +kernel) ?_ ?_
  · intro q; refine q_forget (L' := [vN, vO 9 a1, vI x2, vI x3, vI x4, vI x5, vN]) 0 rfl ?_; refine q_forget (L' := [vN, vN, vI x2, vI x3, vI x4, vI x5, vN]) 1 rfl ?_; refine q_forget (L' := [vN, vN, vN, vI x3, vI x4, vI x5, vN]) 2 rfl ?_; refine q_forget (L' := [vN, vN, vN, vN, vI x4, vI x5, vN]) 3 rfl ?_; refine q_forget (L' := [vN, vN, vN, vN, vI x4, vN, vN]) 5 rfl ?_; exact k1 q
  · intro q; exact k2 q
theorem b153_14 {d : Nat} {Q : Option sV → sM → sG → Prop} {M : sM} {G : sG} {a0 : Nat} {a1 : Nat} {x2 : Int} {x3 : Int} {x4 : Int} {x5 : Int}  (k1 : M a0 3 ≤ x5 → sW (sC d) 153 Q 61 [vN, vN, vN, vN, vI x4, vN, vN] [] M G 0 0) (k2 : x5 < M a0 3 → sW (sC d) 153 Q 23 [vO 2 a0, vO 9 a1, vI x2, vI x3, vN, vI x5, vN] [] M G 0 0) : sW (sC d) 153 Q 14 [vO 2 a0, vO 9 a1, vI x2, vI x3, vI x4, vI x5, vN] [] M G 0 0 := by
  refine q_iload 16 rfl (show sCode 153 14 = some (.iload 5, 2) by decide +kernel) rfl ?_
  refine q_aload_n 17 rfl (show sCode 153 16 = some (.aload_n 0, 1) by decide +kernel) rfl (Nat.le_of_ble_eq_true rfl) ?_
  refine q_getI 20 rfl (show sCode 153 17 = some (.getfield 23, 3) by decide +kernel) (show sFR (sKo 153).1 23 = some (2, 3) by decide +kernel) (by decide +kernel) (Or.inl (Or.inl rfl)) ?_
  refine q_icmpge 61 23 rfl (by decide) (show sCode 153 20 = some (.if_icmp .ge 41, 3) by decide +kernel) ?_ ?_
  · intro q; refine q_forget (L' := [vN, vO 9 a1, vI x2, vI x3, vI x4, vI x5, vN]) 0 rfl ?_; refine q_forget (L' := [vN, vN, vI x2, vI x3, vI x4, vI x5, vN]) 1 rfl ?_; refine q_forget (L' := [vN, vN, vN, vI x3, vI x4, vI x5, vN]) 2 rfl ?_; refine q_forget (L' := [vN, vN, vN, vN, vI x4, vI x5, vN]) 3 rfl ?_; refine q_forget (L' := [vN, vN, vN, vN, vI x4, vN, vN]) 5 rfl ?_; exact k1 q
  · intro q; refine q_forget (L' := [vO 2 a0, vO 9 a1, vI x2, vI x3, vN, vI x5, vN]) 4 rfl ?_; exact k2 q
theorem b153_23 {d : Nat} {Q : Option sV → sM → sG → Prop} {M : sM} {G : sG} {a0 : Nat} {a1 : Nat} {x2 : Int} {x3 : Int} {x5 : Int}  (kk : sC d 154 [vO 2 a0, vO 9 a1, vI x3] M G (QI (fun r M1 G1 => sW (sC d) 153 Q 29 [vO 2 a0, vO 9 a1, vI x2, vI x3, vN, vI x5, vN] (vI r :: []) M1 G1 0 0))) : sW (sC d) 153 Q 23 [vO 2 a0, vO 9 a1, vI x2, vI x3, vN, vI x5, vN] [] M G 0 0 := by
  refine q_aload_n 24 rfl (show sCode 153 23 = some (.aload_n 0, 1) by decide +kernel) rfl (Nat.le_of_ble_eq_true rfl) ?_
  refine q_aload_n 25 rfl (show sCode 153 24 = some (.aload_n 1, 1) by decide +kernel) rfl (Nat.le_of_ble_eq_true rfl) ?_
  refine q_iload_n 26 rfl (show sCode 153 25 = some (.iload_n 3, 1) by decide +kernel) rfl ?_
  exact q_virtI [vO 9 a1, vI x3] 29 rfl (show sCode 153 26 = some (.invokevirtual 51, 3) by decide +kernel) (show sMR (sKo 153).1 51 = some 154 by decide +kernel) (show 154 < 1000 ∧ sStat 154 = false ∧ sIni 154 = false ∧ sKo 154 = (2, 2, 1, 0, 0) by decide +kernel) rfl (Or.inl rfl) rfl (Nat.le_of_ble_eq_true rfl) rfl rfl rfl (by decide +kernel) kk
theorem b153_29 {d : Nat} {Q : Option sV → sM → sG → Prop} {M : sM} {G : sG} {a0 : Nat} {a1 : Nat} {x2 : Int} {x3 : Int} {x5 : Int} {s0 : Int}  (k1 : s0 ≠ (-1) → sW (sC d) 153 Q 39 [vO 2 a0, vO 9 a1, vI x2, vI x3, vN, vI x5, vI s0] [] M G 0 0) (k2 : s0 = (-1) → sW (sC d) 153 Q 37 [vN, vN, vN, vN, vN, vN, vN] [] M G 0 0) : sW (sC d) 153 Q 29 [vO 2 a0, vO 9 a1, vI x2, vI x3, vN, vI x5, vN] [vI s0] M G 0 0 := by
  refine q_istore [vO 2 a0, vO 9 a1, vI x2, vI x3, vN, vI x5, vI s0] 31 rfl (show sCode 153 29 = some (.istore 6, 2) by decide +kernel) (Nat.lt_of_lt_of_le (Nat.lt_succ_self _) (Nat.le_of_ble_eq_true rfl)) rfl rfl ?_
  refine q_iload 33 rfl (show sCode 153 31 = some (.iload 6, 2) by decide +kernel) rfl ?_
  refine q_iconst 34 rfl (show sCode 153 33 = some (.iconst (-1), 1) by decide +kernel) ⟨by decide, by decide⟩ ?_
  refine q_icmpne 39 37 rfl (by decide) (show sCode 153 34 = some (.if_icmp .ne 5, 3) by decide +kernel) ?_ ?_
  · intro q; exact k1 q
  · intro q; refine q_forget (L' := [vN, vO 9 a1, vI x2, vI x3, vN, vI x5, vI s0]) 0 rfl ?_; refine q_forget (L' := [vN, vN, vI x2, vI x3, vN, vI x5, vI s0]) 1 rfl ?_; refine q_forget (L' := [vN, vN, vN, vI x3, vN, vI x5, vI s0]) 2 rfl ?_; refine q_forget (L' := [vN, vN, vN, vN, vN, vI x5, vI s0]) 3 rfl ?_; refine q_forget (L' := [vN, vN, vN, vN, vN, vN, vI s0]) 5 rfl ?_; refine q_forget (L' := [vN, vN, vN, vN, vN, vN, vN]) 6 rfl ?_; exact k2 q
theorem b153_37 {d : Nat} {P : Int → sM → sG → Prop} {M : sM} {G : sG}   (kk : P (-1) M G) : sW (sC d) 153 (QI P) 37 [vN, vN, vN, vN, vN, vN, vN] [] M G 0 0 := by
  refine q_iconst 38 rfl (show sCode 153 37 = some (.iconst (-1), 1) by decide +kernel) ⟨by decide, by decide⟩ ?_
  exact q_iret (show sCode 153 38 = some (.ireturn, 1) by decide +kernel) (by decide +kernel) (by decide +kernel) kk
theorem b153_39 {d : Nat} {Q : Option sV → sM → sG → Prop} {M : sM} {G : sG} {a0 : Nat} {a1 : Nat} {x2 : Int} {x3 : Int} {x5 : Int} {x6 : Int} (h1 : 0 ≤ x6 ∧ x6 < 8) (h2 : sI (x5 + 1)) (kk : sW (sC d) 153 Q 8 [vO 2 a0, vO 9 a1, vI x2, vI (iOr x3 (iShl 1 x6)), vI (M (a1 + 7) x6.toNat), vI (x5 + 1), vN] [] M G 0 0) : sW (sC d) 153 Q 39 [vO 2 a0, vO 9 a1, vI x2, vI x3, vN, vI x5, vI x6] [] M G 0 0 := by
  refine q_aload_n 40 rfl (show sCode 153 39 = some (.aload_n 1, 1) by decide +kernel) rfl (Nat.le_of_ble_eq_true rfl) ?_
  refine q_getR (vA 0 (a1 + 7) 8) 43 rfl (show sCode 153 40 = some (.getfield 55, 3) by decide +kernel) (show sFR (sKo 153).1 55 = some (9, 8) by decide +kernel) (by decide +kernel) (Or.inl (Or.inl rfl)) rfl ?_
  refine q_iload 45 rfl (show sCode 153 43 = some (.iload 6, 2) by decide +kernel) rfl ?_
  refine q_iald 46 rfl (show sCode 153 45 = some (.iaload, 1) by decide +kernel) h1 ?_
  refine q_istore [vO 2 a0, vO 9 a1, vI x2, vI x3, vI (M (a1 + 7) x6.toNat), vI x5, vI x6] 48 rfl (show sCode 153 46 = some (.istore 4, 2) by decide +kernel) (Nat.lt_of_lt_of_le (Nat.lt_succ_self _) (Nat.le_of_ble_eq_true rfl)) rfl rfl ?_
  refine q_iload_n 49 rfl (show sCode 153 48 = some (.iload_n 3, 1) by decide +kernel) rfl ?_
  refine q_iconst 50 rfl (show sCode 153 49 = some (.iconst 1, 1) by decide +kernel) ⟨by decide, by decide⟩ ?_
  refine q_iload 52 rfl (show sCode 153 50 = some (.iload 6, 2) by decide +kernel) rfl ?_
  refine q_ishl 53 rfl (show sCode 153 52 = some (.ishl, 1) by decide +kernel) ?_
  refine q_ior 54 rfl (show sCode 153 53 = some (.ior, 1) by decide +kernel) ?_
  refine q_istore_n [vO 2 a0, vO 9 a1, vI x2, vI (iOr x3 (iShl 1 x6)), vI (M (a1 + 7) x6.toNat), vI x5, vI x6] 55 rfl (show sCode 153 54 = some (.istore_n 3, 1) by decide +kernel) (Nat.lt_of_lt_of_le (Nat.lt_succ_self _) (Nat.le_of_ble_eq_true rfl)) rfl rfl ?_
  refine q_iinc [vO 2 a0, vO 9 a1, vI x2, vI (iOr x3 (iShl 1 x6)), vI (M (a1 + 7) x6.toNat), vI (x5 + 1), vI x6] 58 rfl (show sCode 153 55 = some (.iinc 5 1, 3) by decide +kernel) rfl rfl h2 rfl ?_
  refine q_goto 8 (by decide) (show sCode 153 58 = some (.goto (-50), 3) by decide +kernel) ?_
  refine q_forget (L' := [vO 2 a0, vO 9 a1, vI x2, vI (iOr x3 (iShl 1 x6)), vI (M (a1 + 7) x6.toNat), vI (x5 + 1), vN]) 6 rfl ?_
  exact kk
theorem b153_61 {d : Nat} {P : Int → sM → sG → Prop} {M : sM} {G : sG} {x4 : Int}  (kk : P x4 M G) : sW (sC d) 153 (QI P) 61 [vN, vN, vN, vN, vI x4, vN, vN] [] M G 0 0 := by
  refine q_iload 63 rfl (show sCode 153 61 = some (.iload 4, 2) by decide +kernel) rfl ?_
  exact q_iret (show sCode 153 63 = some (.ireturn, 1) by decide +kernel) (by decide +kernel) (by decide +kernel) kk
-- 154 AfterTheLast$Guesses.firstToCome (LAfterTheLast$Told;I)I
theorem b154_0 {d : Nat} {Q : Option sV → sM → sG → Prop} {M : sM} {G : sG} {a0 : Nat} {a1 : Nat} {x2 : Int}  (kk : sW (sC d) 154 Q 5 [vO 2 a0, vO 9 a1, vI x2, vI (-1), vI 0] [] M G 0 0) : sW (sC d) 154 Q 0 [vO 2 a0, vO 9 a1, vI x2, vN, vN] [] M G 0 0 := by
  refine q_iconst 1 rfl (show sCode 154 0 = some (.iconst (-1), 1) by decide +kernel) ⟨by decide, by decide⟩ ?_
  refine q_istore_n [vO 2 a0, vO 9 a1, vI x2, vI (-1), vN] 2 rfl (show sCode 154 1 = some (.istore_n 3, 1) by decide +kernel) (Nat.lt_of_lt_of_le (Nat.lt_succ_self _) (Nat.le_of_ble_eq_true rfl)) rfl rfl ?_
  refine q_iconst 3 rfl (show sCode 154 2 = some (.iconst 0, 1) by decide +kernel) ⟨by decide, by decide⟩ ?_
  refine q_istore [vO 2 a0, vO 9 a1, vI x2, vI (-1), vI 0] 5 rfl (show sCode 154 3 = some (.istore 4, 2) by decide +kernel) (Nat.lt_of_lt_of_le (Nat.lt_succ_self _) (Nat.le_of_ble_eq_true rfl)) rfl rfl ?_
  exact kk
theorem b154_5 {d : Nat} {Q : Option sV → sM → sG → Prop} {M : sM} {G : sG} {a0 : Nat} {a1 : Nat} {x2 : Int} {x3 : Int} {x4 : Int}  (k1 : M a0 3 ≤ x4 → sW (sC d) 154 Q 68 [vN, vN, vN, vI x3, vN] [] M G 0 0) (k2 : x4 < M a0 3 → sW (sC d) 154 Q 14 [vO 2 a0, vO 9 a1, vI x2, vI x3, vI x4] [] M G 0 0) : sW (sC d) 154 Q 5 [vO 2 a0, vO 9 a1, vI x2, vI x3, vI x4] [] M G 0 0 := by
  refine q_iload 7 rfl (show sCode 154 5 = some (.iload 4, 2) by decide +kernel) rfl ?_
  refine q_aload_n 8 rfl (show sCode 154 7 = some (.aload_n 0, 1) by decide +kernel) rfl (Nat.le_of_ble_eq_true rfl) ?_
  refine q_getI 11 rfl (show sCode 154 8 = some (.getfield 23, 3) by decide +kernel) (show sFR (sKo 154).1 23 = some (2, 3) by decide +kernel) (by decide +kernel) (Or.inl (Or.inl rfl)) ?_
  refine q_icmpge 68 14 rfl (by decide) (show sCode 154 11 = some (.if_icmp .ge 57, 3) by decide +kernel) ?_ ?_
  · intro q; refine q_forget (L' := [vN, vO 9 a1, vI x2, vI x3, vI x4]) 0 rfl ?_; refine q_forget (L' := [vN, vN, vI x2, vI x3, vI x4]) 1 rfl ?_; refine q_forget (L' := [vN, vN, vN, vI x3, vI x4]) 2 rfl ?_; refine q_forget (L' := [vN, vN, vN, vI x3, vN]) 4 rfl ?_; exact k1 q
  · intro q; exact k2 q
theorem b154_14 {d : Nat} {Q : Option sV → sM → sG → Prop} {M : sM} {G : sG} {a0 : Nat} {a1 : Nat} {x2 : Int} {x3 : Int} {x4 : Int}  (kk : sC d 151 [vO 2 a0, vI x2, vI x4] M G (QI (fun r M1 G1 => sW (sC d) 154 Q 21 [vO 2 a0, vO 9 a1, vI x2, vI x3, vI x4] (vI r :: []) M1 G1 0 0))) : sW (sC d) 154 Q 14 [vO 2 a0, vO 9 a1, vI x2, vI x3, vI x4] [] M G 0 0 := by
  refine q_aload_n 15 rfl (show sCode 154 14 = some (.aload_n 0, 1) by decide +kernel) rfl (Nat.le_of_ble_eq_true rfl) ?_
  refine q_iload_n 16 rfl (show sCode 154 15 = some (.iload_n 2, 1) by decide +kernel) rfl ?_
  refine q_iload 18 rfl (show sCode 154 16 = some (.iload 4, 2) by decide +kernel) rfl ?_
  exact q_virtI [vI x2, vI x4] 21 rfl (show sCode 154 18 = some (.invokevirtual 47, 3) by decide +kernel) (show sMR (sKo 154).1 47 = some 151 by decide +kernel) (show 151 < 1000 ∧ sStat 151 = false ∧ sIni 151 = false ∧ sKo 151 = (2, 2, 2, 0, 0) by decide +kernel) rfl (Or.inl rfl) rfl (Nat.le_of_ble_eq_true rfl) rfl rfl rfl (by decide +kernel) kk
theorem b154_21 {d : Nat} {Q : Option sV → sM → sG → Prop} {M : sM} {G : sG} {a0 : Nat} {a1 : Nat} {x2 : Int} {x3 : Int} {x4 : Int} {s0 : Int}  (k1 : s0 = 0 → sW (sC d) 154 Q 62 [vO 2 a0, vO 9 a1, vI x2, vI x3, vI x4] [] M G 0 0) (k2 : s0 ≠ 0 → sW (sC d) 154 Q 24 [vO 2 a0, vO 9 a1, vI x2, vI x3, vI x4] [] M G 0 0) : sW (sC d) 154 Q 21 [vO 2 a0, vO 9 a1, vI x2, vI x3, vI x4] [vI s0] M G 0 0 := by
  refine q_ifeq 62 24 rfl (by decide) (show sCode 154 21 = some (.ifCond .eq 41, 3) by decide +kernel) ?_ ?_
  · intro q; exact k1 q
  · intro q; exact k2 q
theorem b154_24 {d : Nat} {Q : Option sV → sM → sG → Prop} {M : sM} {G : sG} {a0 : Nat} {a1 : Nat} {x2 : Int} {x3 : Int} {x4 : Int} (h1 : 0 ≤ iOr x2 (iShl 1 x4) ∧ iOr x2 (iShl 1 x4) < 256) (k1 : M (a0 + 2) (iOr x2 (iShl 1 x4)).toNat ≤ 0 → sW (sC d) 154 Q 62 [vO 2 a0, vO 9 a1, vI x2, vI x3, vI x4] [] M G 0 0) (k2 : 0 < M (a0 + 2) (iOr x2 (iShl 1 x4)).toNat → sW (sC d) 154 Q 38 [vO 2 a0, vO 9 a1, vI x2, vI x3, vI x4] [] M G 0 0) : sW (sC d) 154 Q 24 [vO 2 a0, vO 9 a1, vI x2, vI x3, vI x4] [] M G 0 0 := by
  refine q_aload_n 25 rfl (show sCode 154 24 = some (.aload_n 0, 1) by decide +kernel) rfl (Nat.le_of_ble_eq_true rfl) ?_
  refine q_getR (vA 0 (a0 + 2) 256) 28 rfl (show sCode 154 25 = some (.getfield 17, 3) by decide +kernel) (show sFR (sKo 154).1 17 = some (2, 1) by decide +kernel) (by decide +kernel) (Or.inl (Or.inl rfl)) rfl ?_
  refine q_iload_n 29 rfl (show sCode 154 28 = some (.iload_n 2, 1) by decide +kernel) rfl ?_
  refine q_iconst 30 rfl (show sCode 154 29 = some (.iconst 1, 1) by decide +kernel) ⟨by decide, by decide⟩ ?_
  refine q_iload 32 rfl (show sCode 154 30 = some (.iload 4, 2) by decide +kernel) rfl ?_
  refine q_ishl 33 rfl (show sCode 154 32 = some (.ishl, 1) by decide +kernel) ?_
  refine q_ior 34 rfl (show sCode 154 33 = some (.ior, 1) by decide +kernel) ?_
  refine q_iald 35 rfl (show sCode 154 34 = some (.iaload, 1) by decide +kernel) h1 ?_
  refine q_ifle 62 38 rfl (by decide) (show sCode 154 35 = some (.ifCond .le 27, 3) by decide +kernel) ?_ ?_
  · intro q; exact k1 q
  · intro q; exact k2 q
theorem b154_38 {d : Nat} {Q : Option sV → sM → sG → Prop} {M : sM} {G : sG} {a0 : Nat} {a1 : Nat} {x2 : Int} {x3 : Int} {x4 : Int}  (k1 : x3 = (-1) → sW (sC d) 154 Q 59 [vO 2 a0, vO 9 a1, vI x2, vN, vI x4] [] M G 0 0) (k2 : x3 ≠ (-1) → sW (sC d) 154 Q 43 [vO 2 a0, vO 9 a1, vI x2, vI x3, vI x4] [] M G 0 0) : sW (sC d) 154 Q 38 [vO 2 a0, vO 9 a1, vI x2, vI x3, vI x4] [] M G 0 0 := by
  refine q_iload_n 39 rfl (show sCode 154 38 = some (.iload_n 3, 1) by decide +kernel) rfl ?_
  refine q_iconst 40 rfl (show sCode 154 39 = some (.iconst (-1), 1) by decide +kernel) ⟨by decide, by decide⟩ ?_
  refine q_icmpeq 59 43 rfl (by decide) (show sCode 154 40 = some (.if_icmp .eq 19, 3) by decide +kernel) ?_ ?_
  · intro q; refine q_forget (L' := [vO 2 a0, vO 9 a1, vI x2, vN, vI x4]) 3 rfl ?_; exact k1 q
  · intro q; exact k2 q
theorem b154_43 {d : Nat} {Q : Option sV → sM → sG → Prop} {M : sM} {G : sG} {a0 : Nat} {a1 : Nat} {x2 : Int} {x3 : Int} {x4 : Int} (h1 : 0 ≤ x4 ∧ x4 < 8) (h2 : 0 ≤ x3 ∧ x3 < 8) (k1 : M (a1 + 7) x3.toNat ≤ M (a1 + 7) x4.toNat → sW (sC d) 154 Q 62 [vO 2 a0, vO 9 a1, vI x2, vI x3, vI x4] [] M G 0 0) (k2 : M (a1 + 7) x4.toNat < M (a1 + 7) x3.toNat → sW (sC d) 154 Q 59 [vO 2 a0, vO 9 a1, vI x2, vN, vI x4] [] M G 0 0) : sW (sC d) 154 Q 43 [vO 2 a0, vO 9 a1, vI x2, vI x3, vI x4] [] M G 0 0 := by
  refine q_aload_n 44 rfl (show sCode 154 43 = some (.aload_n 1, 1) by decide +kernel) rfl (Nat.le_of_ble_eq_true rfl) ?_
  refine q_getR (vA 0 (a1 + 7) 8) 47 rfl (show sCode 154 44 = some (.getfield 55, 3) by decide +kernel) (show sFR (sKo 154).1 55 = some (9, 8) by decide +kernel) (by decide +kernel) (Or.inl (Or.inl rfl)) rfl ?_
  refine q_iload 49 rfl (show sCode 154 47 = some (.iload 4, 2) by decide +kernel) rfl ?_
  refine q_iald 50 rfl (show sCode 154 49 = some (.iaload, 1) by decide +kernel) h1 ?_
  refine q_aload_n 51 rfl (show sCode 154 50 = some (.aload_n 1, 1) by decide +kernel) rfl (Nat.le_of_ble_eq_true rfl) ?_
  refine q_getR (vA 0 (a1 + 7) 8) 54 rfl (show sCode 154 51 = some (.getfield 55, 3) by decide +kernel) (show sFR (sKo 154).1 55 = some (9, 8) by decide +kernel) (by decide +kernel) (Or.inl (Or.inl rfl)) rfl ?_
  refine q_iload_n 55 rfl (show sCode 154 54 = some (.iload_n 3, 1) by decide +kernel) rfl ?_
  refine q_iald 56 rfl (show sCode 154 55 = some (.iaload, 1) by decide +kernel) h2 ?_
  refine q_icmpge 62 59 rfl (by decide) (show sCode 154 56 = some (.if_icmp .ge 6, 3) by decide +kernel) ?_ ?_
  · intro q; exact k1 q
  · intro q; refine q_forget (L' := [vO 2 a0, vO 9 a1, vI x2, vN, vI x4]) 3 rfl ?_; exact k2 q
theorem b154_59 {d : Nat} {Q : Option sV → sM → sG → Prop} {M : sM} {G : sG} {a0 : Nat} {a1 : Nat} {x2 : Int} {x4 : Int}  (kk : sW (sC d) 154 Q 62 [vO 2 a0, vO 9 a1, vI x2, vI x4, vI x4] [] M G 0 0) : sW (sC d) 154 Q 59 [vO 2 a0, vO 9 a1, vI x2, vN, vI x4] [] M G 0 0 := by
  refine q_iload 61 rfl (show sCode 154 59 = some (.iload 4, 2) by decide +kernel) rfl ?_
  refine q_istore_n [vO 2 a0, vO 9 a1, vI x2, vI x4, vI x4] 62 rfl (show sCode 154 61 = some (.istore_n 3, 1) by decide +kernel) (Nat.lt_of_lt_of_le (Nat.lt_succ_self _) (Nat.le_of_ble_eq_true rfl)) rfl rfl ?_
  exact kk
theorem b154_62 {d : Nat} {Q : Option sV → sM → sG → Prop} {M : sM} {G : sG} {a0 : Nat} {a1 : Nat} {x2 : Int} {x3 : Int} {x4 : Int} (h1 : sI (x4 + 1)) (kk : sW (sC d) 154 Q 5 [vO 2 a0, vO 9 a1, vI x2, vI x3, vI (x4 + 1)] [] M G 0 0) : sW (sC d) 154 Q 62 [vO 2 a0, vO 9 a1, vI x2, vI x3, vI x4] [] M G 0 0 := by
  refine q_iinc [vO 2 a0, vO 9 a1, vI x2, vI x3, vI (x4 + 1)] 65 rfl (show sCode 154 62 = some (.iinc 4 1, 3) by decide +kernel) rfl rfl h1 rfl ?_
  refine q_goto 5 (by decide) (show sCode 154 65 = some (.goto (-60), 3) by decide +kernel) ?_
  exact kk
theorem b154_68 {d : Nat} {P : Int → sM → sG → Prop} {M : sM} {G : sG} {x3 : Int}  (kk : P x3 M G) : sW (sC d) 154 (QI P) 68 [vN, vN, vN, vI x3, vN] [] M G 0 0 := by
  refine q_iload_n 69 rfl (show sCode 154 68 = some (.iload_n 3, 1) by decide +kernel) rfl ?_
  exact q_iret (show sCode 154 69 = some (.ireturn, 1) by decide +kernel) (by decide +kernel) (by decide +kernel) kk
-- 157 AfterTheLast$Guesses.fewestGuests (LAfterTheLast$Told;II)I
theorem b157_0 {d : Nat} {Q : Option sV → sM → sG → Prop} {M : sM} {G : sG} {a0 : Nat} {x1 : Int} {x2 : Int}  (kk : sW (sC d) 157 Q 8 [vO 9 a0, vN, vI x2, vI x1, vI 0, vI 0, vN, vN] [] M G 0 0) : sW (sC d) 157 Q 0 [vO 9 a0, vI x1, vI x2, vN, vN, vN, vN, vN] [] M G 0 0 := by
  refine q_iload_n 1 rfl (show sCode 157 0 = some (.iload_n 1, 1) by decide +kernel) rfl ?_
  refine q_istore_n [vO 9 a0, vI x1, vI x2, vI x1, vN, vN, vN, vN] 2 rfl (show sCode 157 1 = some (.istore_n 3, 1) by decide +kernel) (Nat.lt_of_lt_of_le (Nat.lt_succ_self _) (Nat.le_of_ble_eq_true rfl)) rfl rfl ?_
  refine q_iconst 3 rfl (show sCode 157 2 = some (.iconst 0, 1) by decide +kernel) ⟨by decide, by decide⟩ ?_
  refine q_istore [vO 9 a0, vI x1, vI x2, vI x1, vI 0, vN, vN, vN] 5 rfl (show sCode 157 3 = some (.istore 4, 2) by decide +kernel) (Nat.lt_of_lt_of_le (Nat.lt_succ_self _) (Nat.le_of_ble_eq_true rfl)) rfl rfl ?_
  refine q_iconst 6 rfl (show sCode 157 5 = some (.iconst 0, 1) by decide +kernel) ⟨by decide, by decide⟩ ?_
  refine q_istore [vO 9 a0, vI x1, vI x2, vI x1, vI 0, vI 0, vN, vN] 8 rfl (show sCode 157 6 = some (.istore 5, 2) by decide +kernel) (Nat.lt_of_lt_of_le (Nat.lt_succ_self _) (Nat.le_of_ble_eq_true rfl)) rfl rfl ?_
  refine q_forget (L' := [vO 9 a0, vN, vI x2, vI x1, vI 0, vI 0, vN, vN]) 1 rfl ?_
  exact kk
theorem b157_8 {d : Nat} {Q : Option sV → sM → sG → Prop} {M : sM} {G : sG} {a0 : Nat} {x2 : Int} {x3 : Int} {x4 : Int} {x5 : Int}  (k1 : M a0 12 < x5 → sW (sC d) 157 Q 88 [vN, vN, vN, vN, vI x4, vN, vN, vN] [] M G 0 0) (k2 : x5 ≤ M a0 12 → sW (sC d) 157 Q 17 [vO 9 a0, vN, vI x2, vI x3, vI x4, vI x5, vN, vN] [] M G 0 0) : sW (sC d) 157 Q 8 [vO 9 a0, vN, vI x2, vI x3, vI x4, vI x5, vN, vN] [] M G 0 0 := by
  refine q_iload 10 rfl (show sCode 157 8 = some (.iload 5, 2) by decide +kernel) rfl ?_
  refine q_aload_n 11 rfl (show sCode 157 10 = some (.aload_n 0, 1) by decide +kernel) rfl (Nat.le_of_ble_eq_true rfl) ?_
  refine q_getI 14 rfl (show sCode 157 11 = some (.getfield 58, 3) by decide +kernel) (show sFR (sKo 157).1 58 = some (9, 12) by decide +kernel) (by decide +kernel) (Or.inl (Or.inl rfl)) ?_
  refine q_icmpgt 88 17 rfl (by decide) (show sCode 157 14 = some (.if_icmp .gt 74, 3) by decide +kernel) ?_ ?_
  · intro q; refine q_forget (L' := [vN, vN, vI x2, vI x3, vI x4, vI x5, vN, vN]) 0 rfl ?_; refine q_forget (L' := [vN, vN, vN, vI x3, vI x4, vI x5, vN, vN]) 2 rfl ?_; refine q_forget (L' := [vN, vN, vN, vN, vI x4, vI x5, vN, vN]) 3 rfl ?_; refine q_forget (L' := [vN, vN, vN, vN, vI x4, vN, vN, vN]) 5 rfl ?_; exact k1 q
  · intro q; exact k2 q
theorem b157_17 {d : Nat} {Q : Option sV → sM → sG → Prop} {M : sM} {G : sG} {a0 : Nat} {x2 : Int} {x3 : Int} {x4 : Int} {x5 : Int}  (k1 : x2 ≤ x3 → sW (sC d) 157 Q 88 [vN, vN, vN, vN, vI x4, vN, vN, vN] [] M G 0 0) (k2 : x3 < x2 → sW (sC d) 157 Q 22 [vO 9 a0, vN, vI x2, vI x3, vI x4, vI x5, vN, vN] [] M G 0 0) : sW (sC d) 157 Q 17 [vO 9 a0, vN, vI x2, vI x3, vI x4, vI x5, vN, vN] [] M G 0 0 := by
  refine q_iload_n 18 rfl (show sCode 157 17 = some (.iload_n 3, 1) by decide +kernel) rfl ?_
  refine q_iload_n 19 rfl (show sCode 157 18 = some (.iload_n 2, 1) by decide +kernel) rfl ?_
  refine q_icmpge 88 22 rfl (by decide) (show sCode 157 19 = some (.if_icmp .ge 69, 3) by decide +kernel) ?_ ?_
  · intro q; refine q_forget (L' := [vN, vN, vI x2, vI x3, vI x4, vI x5, vN, vN]) 0 rfl ?_; refine q_forget (L' := [vN, vN, vN, vI x3, vI x4, vI x5, vN, vN]) 2 rfl ?_; refine q_forget (L' := [vN, vN, vN, vN, vI x4, vI x5, vN, vN]) 3 rfl ?_; refine q_forget (L' := [vN, vN, vN, vN, vI x4, vN, vN, vN]) 5 rfl ?_; exact k1 q
  · intro q; exact k2 q
theorem b157_22 {d : Nat} {Q : Option sV → sM → sG → Prop} {M : sM} {G : sG} {a0 : Nat} {x2 : Int} {x3 : Int} {x4 : Int} {x5 : Int}  (kk : sW (sC d) 157 Q 28 [vO 9 a0, vN, vI x2, vI x3, vI x4, vI x5, vI x3, vI 0] [] M G 0 0) : sW (sC d) 157 Q 22 [vO 9 a0, vN, vI x2, vI x3, vI x4, vI x5, vN, vN] [] M G 0 0 := by
  refine q_iload_n 23 rfl (show sCode 157 22 = some (.iload_n 3, 1) by decide +kernel) rfl ?_
  refine q_istore [vO 9 a0, vN, vI x2, vI x3, vI x4, vI x5, vI x3, vN] 25 rfl (show sCode 157 23 = some (.istore 6, 2) by decide +kernel) (Nat.lt_of_lt_of_le (Nat.lt_succ_self _) (Nat.le_of_ble_eq_true rfl)) rfl rfl ?_
  refine q_iconst 26 rfl (show sCode 157 25 = some (.iconst 0, 1) by decide +kernel) ⟨by decide, by decide⟩ ?_
  refine q_istore [vO 9 a0, vN, vI x2, vI x3, vI x4, vI x5, vI x3, vI 0] 28 rfl (show sCode 157 26 = some (.istore 7, 2) by decide +kernel) (Nat.lt_of_lt_of_le (Nat.lt_succ_self _) (Nat.le_of_ble_eq_true rfl)) rfl rfl ?_
  exact kk
theorem b157_28 {d : Nat} {Q : Option sV → sM → sG → Prop} {M : sM} {G : sG} {a0 : Nat} {x2 : Int} {x3 : Int} {x4 : Int} {x5 : Int} {x6 : Int} {x7 : Int}  (k1 : M a0 12 ≤ x7 → sW (sC d) 157 Q 68 [vO 9 a0, vN, vI x2, vI x3, vI x4, vI x5, vI x6, vN] [] M G 0 0) (k2 : x7 < M a0 12 → sW (sC d) 157 Q 37 [vO 9 a0, vN, vI x2, vI x3, vI x4, vI x5, vI x6, vI x7] [] M G 0 0) : sW (sC d) 157 Q 28 [vO 9 a0, vN, vI x2, vI x3, vI x4, vI x5, vI x6, vI x7] [] M G 0 0 := by
  refine q_iload 30 rfl (show sCode 157 28 = some (.iload 7, 2) by decide +kernel) rfl ?_
  refine q_aload_n 31 rfl (show sCode 157 30 = some (.aload_n 0, 1) by decide +kernel) rfl (Nat.le_of_ble_eq_true rfl) ?_
  refine q_getI 34 rfl (show sCode 157 31 = some (.getfield 58, 3) by decide +kernel) (show sFR (sKo 157).1 58 = some (9, 12) by decide +kernel) (by decide +kernel) (Or.inl (Or.inl rfl)) ?_
  refine q_icmpge 68 37 rfl (by decide) (show sCode 157 34 = some (.if_icmp .ge 34, 3) by decide +kernel) ?_ ?_
  · intro q; refine q_forget (L' := [vO 9 a0, vN, vI x2, vI x3, vI x4, vI x5, vI x6, vN]) 7 rfl ?_; exact k1 q
  · intro q; exact k2 q
theorem b157_37 {d : Nat} {Q : Option sV → sM → sG → Prop} {M : sM} {G : sG} {a0 : Nat} {x2 : Int} {x3 : Int} {x4 : Int} {x5 : Int} {x6 : Int} {x7 : Int} (h1 : 0 ≤ x7 ∧ x7 < 12) (k1 : x3 ≤ M (a0 + 10) x7.toNat → sW (sC d) 157 Q 62 [vO 9 a0, vN, vI x2, vI x3, vI x4, vI x5, vI x6, vI x7] [] M G 0 0) (k2 : M (a0 + 10) x7.toNat < x3 → sW (sC d) 157 Q 48 [vO 9 a0, vN, vI x2, vI x3, vI x4, vI x5, vI x6, vI x7] [] M G 0 0) : sW (sC d) 157 Q 37 [vO 9 a0, vN, vI x2, vI x3, vI x4, vI x5, vI x6, vI x7] [] M G 0 0 := by
  refine q_aload_n 38 rfl (show sCode 157 37 = some (.aload_n 0, 1) by decide +kernel) rfl (Nat.le_of_ble_eq_true rfl) ?_
  refine q_getR (vA 0 (a0 + 10) 12) 41 rfl (show sCode 157 38 = some (.getfield 61, 3) by decide +kernel) (show sFR (sKo 157).1 61 = some (9, 13) by decide +kernel) (by decide +kernel) (Or.inl (Or.inl rfl)) rfl ?_
  refine q_iload 43 rfl (show sCode 157 41 = some (.iload 7, 2) by decide +kernel) rfl ?_
  refine q_iald 44 rfl (show sCode 157 43 = some (.iaload, 1) by decide +kernel) h1 ?_
  refine q_iload_n 45 rfl (show sCode 157 44 = some (.iload_n 3, 1) by decide +kernel) rfl ?_
  refine q_icmpge 62 48 rfl (by decide) (show sCode 157 45 = some (.if_icmp .ge 17, 3) by decide +kernel) ?_ ?_
  · intro q; exact k1 q
  · intro q; exact k2 q
theorem b157_48 {d : Nat} {Q : Option sV → sM → sG → Prop} {M : sM} {G : sG} {a0 : Nat} {x2 : Int} {x3 : Int} {x4 : Int} {x5 : Int} {x6 : Int} {x7 : Int} (h1 : 0 ≤ x7 ∧ x7 < 12) (kk : sW (sC d) 157 Q 62 [vO 9 a0, vN, vI x2, vI x3, vI x4, vI x5, vI (if x6 < M (a0 + 11) x7.toNat then M (a0 + 11) x7.toNat else x6), vI x7] [] M G 0 0) : sW (sC d) 157 Q 48 [vO 9 a0, vN, vI x2, vI x3, vI x4, vI x5, vI x6, vI x7] [] M G 0 0 := by
  refine q_iload 50 rfl (show sCode 157 48 = some (.iload 6, 2) by decide +kernel) rfl ?_
  refine q_aload_n 51 rfl (show sCode 157 50 = some (.aload_n 0, 1) by decide +kernel) rfl (Nat.le_of_ble_eq_true rfl) ?_
  refine q_getR (vA 0 (a0 + 11) 12) 54 rfl (show sCode 157 51 = some (.getfield 64, 3) by decide +kernel) (show sFR (sKo 157).1 64 = some (9, 14) by decide +kernel) (by decide +kernel) (Or.inl (Or.inl rfl)) rfl ?_
  refine q_iload 56 rfl (show sCode 157 54 = some (.iload 7, 2) by decide +kernel) rfl ?_
  refine q_iald 57 rfl (show sCode 157 56 = some (.iaload, 1) by decide +kernel) h1 ?_
  refine q_max 60 rfl (show sCode 157 57 = some (.invokestatic 67, 3) by decide +kernel) (by decide +kernel) (Nat.le_of_ble_eq_true rfl) ?_
  refine q_istore [vO 9 a0, vN, vI x2, vI x3, vI x4, vI x5, vI (if x6 < M (a0 + 11) x7.toNat then M (a0 + 11) x7.toNat else x6), vI x7] 62 rfl (show sCode 157 60 = some (.istore 6, 2) by decide +kernel) (Nat.lt_of_lt_of_le (Nat.lt_succ_self _) (Nat.le_of_ble_eq_true rfl)) rfl rfl ?_
  exact kk
theorem b157_62 {d : Nat} {Q : Option sV → sM → sG → Prop} {M : sM} {G : sG} {a0 : Nat} {x2 : Int} {x3 : Int} {x4 : Int} {x5 : Int} {x6 : Int} {x7 : Int} (h1 : sI (x7 + 1)) (kk : sW (sC d) 157 Q 28 [vO 9 a0, vN, vI x2, vI x3, vI x4, vI x5, vI x6, vI (x7 + 1)] [] M G 0 0) : sW (sC d) 157 Q 62 [vO 9 a0, vN, vI x2, vI x3, vI x4, vI x5, vI x6, vI x7] [] M G 0 0 := by
  refine q_iinc [vO 9 a0, vN, vI x2, vI x3, vI x4, vI x5, vI x6, vI (x7 + 1)] 65 rfl (show sCode 157 62 = some (.iinc 7 1, 3) by decide +kernel) rfl rfl h1 rfl ?_
  refine q_goto 28 (by decide) (show sCode 157 65 = some (.goto (-37), 3) by decide +kernel) ?_
  exact kk
theorem b157_68 {d : Nat} {Q : Option sV → sM → sG → Prop} {M : sM} {G : sG} {a0 : Nat} {x2 : Int} {x3 : Int} {x4 : Int} {x5 : Int} {x6 : Int}  (k1 : x6 ≠ x3 → sW (sC d) 157 Q 76 [vO 9 a0, vN, vI x2, vN, vI x4, vI x5, vI x6, vN] [] M G 0 0) (k2 : x6 = x3 → sW (sC d) 157 Q 74 [vN, vN, vN, vN, vN, vN, vN, vN] [] M G 0 0) : sW (sC d) 157 Q 68 [vO 9 a0, vN, vI x2, vI x3, vI x4, vI x5, vI x6, vN] [] M G 0 0 := by
  refine q_iload 70 rfl (show sCode 157 68 = some (.iload 6, 2) by decide +kernel) rfl ?_
  refine q_iload_n 71 rfl (show sCode 157 70 = some (.iload_n 3, 1) by decide +kernel) rfl ?_
  refine q_icmpne 76 74 rfl (by decide) (show sCode 157 71 = some (.if_icmp .ne 5, 3) by decide +kernel) ?_ ?_
  · intro q; refine q_forget (L' := [vO 9 a0, vN, vI x2, vN, vI x4, vI x5, vI x6, vN]) 3 rfl ?_; exact k1 q
  · intro q; refine q_forget (L' := [vN, vN, vI x2, vI x3, vI x4, vI x5, vI x6, vN]) 0 rfl ?_; refine q_forget (L' := [vN, vN, vN, vI x3, vI x4, vI x5, vI x6, vN]) 2 rfl ?_; refine q_forget (L' := [vN, vN, vN, vN, vI x4, vI x5, vI x6, vN]) 3 rfl ?_; refine q_forget (L' := [vN, vN, vN, vN, vN, vI x5, vI x6, vN]) 4 rfl ?_; refine q_forget (L' := [vN, vN, vN, vN, vN, vN, vI x6, vN]) 5 rfl ?_; refine q_forget (L' := [vN, vN, vN, vN, vN, vN, vN, vN]) 6 rfl ?_; exact k2 q
theorem b157_74 {d : Nat} {P : Int → sM → sG → Prop} {M : sM} {G : sG}   (kk : P (-1) M G) : sW (sC d) 157 (QI P) 74 [vN, vN, vN, vN, vN, vN, vN, vN] [] M G 0 0 := by
  refine q_iconst 75 rfl (show sCode 157 74 = some (.iconst (-1), 1) by decide +kernel) ⟨by decide, by decide⟩ ?_
  exact q_iret (show sCode 157 75 = some (.ireturn, 1) by decide +kernel) (by decide +kernel) (by decide +kernel) kk
theorem b157_76 {d : Nat} {Q : Option sV → sM → sG → Prop} {M : sM} {G : sG} {a0 : Nat} {x2 : Int} {x4 : Int} {x5 : Int} {x6 : Int} (h1 : sI (x4 + 1)) (h2 : sI (x5 + 1)) (kk : sW (sC d) 157 Q 8 [vO 9 a0, vN, vI x2, vI x6, vI (x4 + 1), vI (x5 + 1), vN, vN] [] M G 0 0) : sW (sC d) 157 Q 76 [vO 9 a0, vN, vI x2, vN, vI x4, vI x5, vI x6, vN] [] M G 0 0 := by
  refine q_iload 78 rfl (show sCode 157 76 = some (.iload 6, 2) by decide +kernel) rfl ?_
  refine q_istore_n [vO 9 a0, vN, vI x2, vI x6, vI x4, vI x5, vI x6, vN] 79 rfl (show sCode 157 78 = some (.istore_n 3, 1) by decide +kernel) (Nat.lt_of_lt_of_le (Nat.lt_succ_self _) (Nat.le_of_ble_eq_true rfl)) rfl rfl ?_
  refine q_iinc [vO 9 a0, vN, vI x2, vI x6, vI (x4 + 1), vI x5, vI x6, vN] 82 rfl (show sCode 157 79 = some (.iinc 4 1, 3) by decide +kernel) rfl rfl h1 rfl ?_
  refine q_iinc [vO 9 a0, vN, vI x2, vI x6, vI (x4 + 1), vI (x5 + 1), vI x6, vN] 85 rfl (show sCode 157 82 = some (.iinc 5 1, 3) by decide +kernel) rfl rfl h2 rfl ?_
  refine q_goto 8 (by decide) (show sCode 157 85 = some (.goto (-77), 3) by decide +kernel) ?_
  refine q_forget (L' := [vO 9 a0, vN, vI x2, vI x6, vI (x4 + 1), vI (x5 + 1), vN, vN]) 6 rfl ?_
  exact kk
theorem b157_88 {d : Nat} {P : Int → sM → sG → Prop} {M : sM} {G : sG} {x4 : Int}  (kk : P x4 M G) : sW (sC d) 157 (QI P) 88 [vN, vN, vN, vN, vI x4, vN, vN, vN] [] M G 0 0 := by
  refine q_iload 90 rfl (show sCode 157 88 = some (.iload 4, 2) by decide +kernel) rfl ?_
  exact q_iret (show sCode 157 90 = some (.ireturn, 1) by decide +kernel) (by decide +kernel) (by decide +kernel) kk
-- 158 AfterTheLast$Guesses.leastSetOfGuests (LAfterTheLast$Told;III)I
theorem b158_0 {d : Nat} {Q : Option sV → sM → sG → Prop} {M : sM} {G : sG} {a0 : Nat} {x1 : Int} {x2 : Int} {x3 : Int}  (kk : sW (sC d) 158 Q 3 [vO 9 a0, vI x1, vI x2, vI x3, vI 0] [] M G 0 0) : sW (sC d) 158 Q 0 [vO 9 a0, vI x1, vI x2, vI x3, vN] [] M G 0 0 := by
  refine q_iconst 1 rfl (show sCode 158 0 = some (.iconst 0, 1) by decide +kernel) ⟨by decide, by decide⟩ ?_
  refine q_istore [vO 9 a0, vI x1, vI x2, vI x3, vI 0] 3 rfl (show sCode 158 1 = some (.istore 4, 2) by decide +kernel) (Nat.lt_of_lt_of_le (Nat.lt_succ_self _) (Nat.le_of_ble_eq_true rfl)) rfl rfl ?_
  exact kk
theorem b158_3 {d : Nat} {Q : Option sV → sM → sG → Prop} {M : sM} {G : sG} {a0 : Nat} {x1 : Int} {x2 : Int} {x3 : Int} {x4 : Int}  (k1 : iShl 1 (M a0 12) ≤ x4 → sW (sC d) 158 Q 43 [vN, vN, vN, vN, vN] [] M G 0 0) (k2 : x4 < iShl 1 (M a0 12) → sW (sC d) 158 Q 14 [vO 9 a0, vI x1, vI x2, vI x3, vI x4] [] M G 0 0) : sW (sC d) 158 Q 3 [vO 9 a0, vI x1, vI x2, vI x3, vI x4] [] M G 0 0 := by
  refine q_iload 5 rfl (show sCode 158 3 = some (.iload 4, 2) by decide +kernel) rfl ?_
  refine q_iconst 6 rfl (show sCode 158 5 = some (.iconst 1, 1) by decide +kernel) ⟨by decide, by decide⟩ ?_
  refine q_aload_n 7 rfl (show sCode 158 6 = some (.aload_n 0, 1) by decide +kernel) rfl (Nat.le_of_ble_eq_true rfl) ?_
  refine q_getI 10 rfl (show sCode 158 7 = some (.getfield 58, 3) by decide +kernel) (show sFR (sKo 158).1 58 = some (9, 12) by decide +kernel) (by decide +kernel) (Or.inl (Or.inl rfl)) ?_
  refine q_ishl 11 rfl (show sCode 158 10 = some (.ishl, 1) by decide +kernel) ?_
  refine q_icmpge 43 14 rfl (by decide) (show sCode 158 11 = some (.if_icmp .ge 32, 3) by decide +kernel) ?_ ?_
  · intro q; refine q_forget (L' := [vN, vI x1, vI x2, vI x3, vI x4]) 0 rfl ?_; refine q_forget (L' := [vN, vN, vI x2, vI x3, vI x4]) 1 rfl ?_; refine q_forget (L' := [vN, vN, vN, vI x3, vI x4]) 2 rfl ?_; refine q_forget (L' := [vN, vN, vN, vN, vI x4]) 3 rfl ?_; refine q_forget (L' := [vN, vN, vN, vN, vN]) 4 rfl ?_; exact k1 q
  · intro q; exact k2 q
theorem b158_14 {d : Nat} {Q : Option sV → sM → sG → Prop} {M : sM} {G : sG} {a0 : Nat} {x1 : Int} {x2 : Int} {x3 : Int} {x4 : Int}  (kk : sC d 113 [vI x4] M G (QI (fun r M1 G1 => sW (sC d) 158 Q 19 [vO 9 a0, vI x1, vI x2, vI x3, vI x4] (vI r :: []) M1 G1 0 0))) : sW (sC d) 158 Q 14 [vO 9 a0, vI x1, vI x2, vI x3, vI x4] [] M G 0 0 := by
  refine q_iload 16 rfl (show sCode 158 14 = some (.iload 4, 2) by decide +kernel) rfl ?_
  exact q_statI [vI x4] 19 rfl (show sCode 158 16 = some (.invokestatic 73, 3) by decide +kernel) (show sMR (sKo 158).1 73 = some 113 by decide +kernel) (show 113 < 1000 ∧ sStat 113 = true ∧ sKo 113 = (15, 1, 1, 0, 0) by decide +kernel) rfl rfl (Nat.le_of_ble_eq_true rfl) rfl rfl rfl (by decide +kernel) kk
theorem b158_19 {d : Nat} {Q : Option sV → sM → sG → Prop} {M : sM} {G : sG} {a0 : Nat} {x1 : Int} {x2 : Int} {x3 : Int} {x4 : Int} {s0 : Int}  (k1 : s0 ≠ x3 → sW (sC d) 158 Q 37 [vO 9 a0, vI x1, vI x2, vI x3, vI x4] [] M G 0 0) (k2 : s0 = x3 → sW (sC d) 158 Q 23 [vO 9 a0, vI x1, vI x2, vI x3, vI x4] [] M G 0 0) : sW (sC d) 158 Q 19 [vO 9 a0, vI x1, vI x2, vI x3, vI x4] [vI s0] M G 0 0 := by
  refine q_iload_n 20 rfl (show sCode 158 19 = some (.iload_n 3, 1) by decide +kernel) rfl ?_
  refine q_icmpne 37 23 rfl (by decide) (show sCode 158 20 = some (.if_icmp .ne 17, 3) by decide +kernel) ?_ ?_
  · intro q; exact k1 q
  · intro q; exact k2 q
theorem b158_23 {d : Nat} {Q : Option sV → sM → sG → Prop} {M : sM} {G : sG} {a0 : Nat} {x1 : Int} {x2 : Int} {x3 : Int} {x4 : Int}  (kk : sC d 159 [vO 9 a0, vI x1, vI x4] M G (QI (fun r M1 G1 => sW (sC d) 158 Q 30 [vO 9 a0, vI x1, vI x2, vI x3, vI x4] (vI r :: []) M1 G1 0 0))) : sW (sC d) 158 Q 23 [vO 9 a0, vI x1, vI x2, vI x3, vI x4] [] M G 0 0 := by
  refine q_aload_n 24 rfl (show sCode 158 23 = some (.aload_n 0, 1) by decide +kernel) rfl (Nat.le_of_ble_eq_true rfl) ?_
  refine q_iload_n 25 rfl (show sCode 158 24 = some (.iload_n 1, 1) by decide +kernel) rfl ?_
  refine q_iload 27 rfl (show sCode 158 25 = some (.iload 4, 2) by decide +kernel) rfl ?_
  exact q_statI [vO 9 a0, vI x1, vI x4] 30 rfl (show sCode 158 27 = some (.invokestatic 78, 3) by decide +kernel) (show sMR (sKo 158).1 78 = some 159 by decide +kernel) (show 159 < 1000 ∧ sStat 159 = true ∧ sKo 159 = (2, 3, 1, 0, 0) by decide +kernel) rfl rfl (Nat.le_of_ble_eq_true rfl) rfl rfl rfl (by decide +kernel) kk
theorem b158_30 {d : Nat} {Q : Option sV → sM → sG → Prop} {M : sM} {G : sG} {a0 : Nat} {x1 : Int} {x2 : Int} {x3 : Int} {x4 : Int} {s0 : Int}  (k1 : s0 < x2 → sW (sC d) 158 Q 37 [vO 9 a0, vI x1, vI x2, vI x3, vI x4] [] M G 0 0) (k2 : x2 ≤ s0 → sW (sC d) 158 Q 34 [vN, vN, vN, vN, vI x4] [] M G 0 0) : sW (sC d) 158 Q 30 [vO 9 a0, vI x1, vI x2, vI x3, vI x4] [vI s0] M G 0 0 := by
  refine q_iload_n 31 rfl (show sCode 158 30 = some (.iload_n 2, 1) by decide +kernel) rfl ?_
  refine q_icmplt 37 34 rfl (by decide) (show sCode 158 31 = some (.if_icmp .lt 6, 3) by decide +kernel) ?_ ?_
  · intro q; exact k1 q
  · intro q; refine q_forget (L' := [vN, vI x1, vI x2, vI x3, vI x4]) 0 rfl ?_; refine q_forget (L' := [vN, vN, vI x2, vI x3, vI x4]) 1 rfl ?_; refine q_forget (L' := [vN, vN, vN, vI x3, vI x4]) 2 rfl ?_; refine q_forget (L' := [vN, vN, vN, vN, vI x4]) 3 rfl ?_; exact k2 q
theorem b158_34 {d : Nat} {P : Int → sM → sG → Prop} {M : sM} {G : sG} {x4 : Int}  (kk : P x4 M G) : sW (sC d) 158 (QI P) 34 [vN, vN, vN, vN, vI x4] [] M G 0 0 := by
  refine q_iload 36 rfl (show sCode 158 34 = some (.iload 4, 2) by decide +kernel) rfl ?_
  exact q_iret (show sCode 158 36 = some (.ireturn, 1) by decide +kernel) (by decide +kernel) (by decide +kernel) kk
theorem b158_37 {d : Nat} {Q : Option sV → sM → sG → Prop} {M : sM} {G : sG} {a0 : Nat} {x1 : Int} {x2 : Int} {x3 : Int} {x4 : Int} (h1 : sI (x4 + 1)) (kk : sW (sC d) 158 Q 3 [vO 9 a0, vI x1, vI x2, vI x3, vI (x4 + 1)] [] M G 0 0) : sW (sC d) 158 Q 37 [vO 9 a0, vI x1, vI x2, vI x3, vI x4] [] M G 0 0 := by
  refine q_iinc [vO 9 a0, vI x1, vI x2, vI x3, vI (x4 + 1)] 40 rfl (show sCode 158 37 = some (.iinc 4 1, 3) by decide +kernel) rfl rfl h1 rfl ?_
  refine q_goto 3 (by decide) (show sCode 158 40 = some (.goto (-37), 3) by decide +kernel) ?_
  exact kk
theorem b158_43 {d : Nat} {P : Int → sM → sG → Prop} {M : sM} {G : sG}   (kk : P (-1) M G) : sW (sC d) 158 (QI P) 43 [vN, vN, vN, vN, vN] [] M G 0 0 := by
  refine q_iconst 44 rfl (show sCode 158 43 = some (.iconst (-1), 1) by decide +kernel) ⟨by decide, by decide⟩ ?_
  exact q_iret (show sCode 158 44 = some (.ireturn, 1) by decide +kernel) (by decide +kernel) (by decide +kernel) kk
-- 159 AfterTheLast$Guesses.thereTill (LAfterTheLast$Told;II)I
theorem b159_0 {d : Nat} {Q : Option sV → sM → sG → Prop} {M : sM} {G : sG} {a0 : Nat} {x1 : Int} {x2 : Int}  (kk : sW (sC d) 159 Q 5 [vO 9 a0, vN, vI x2, vI x1, vI 0, vN, vN] [] M G 0 0) : sW (sC d) 159 Q 0 [vO 9 a0, vI x1, vI x2, vN, vN, vN, vN] [] M G 0 0 := by
  refine q_iload_n 1 rfl (show sCode 159 0 = some (.iload_n 1, 1) by decide +kernel) rfl ?_
  refine q_istore_n [vO 9 a0, vI x1, vI x2, vI x1, vN, vN, vN] 2 rfl (show sCode 159 1 = some (.istore_n 3, 1) by decide +kernel) (Nat.lt_of_lt_of_le (Nat.lt_succ_self _) (Nat.le_of_ble_eq_true rfl)) rfl rfl ?_
  refine q_iconst 3 rfl (show sCode 159 2 = some (.iconst 0, 1) by decide +kernel) ⟨by decide, by decide⟩ ?_
  refine q_istore [vO 9 a0, vI x1, vI x2, vI x1, vI 0, vN, vN] 5 rfl (show sCode 159 3 = some (.istore 4, 2) by decide +kernel) (Nat.lt_of_lt_of_le (Nat.lt_succ_self _) (Nat.le_of_ble_eq_true rfl)) rfl rfl ?_
  refine q_forget (L' := [vO 9 a0, vN, vI x2, vI x1, vI 0, vN, vN]) 1 rfl ?_
  exact kk
theorem b159_5 {d : Nat} {Q : Option sV → sM → sG → Prop} {M : sM} {G : sG} {a0 : Nat} {x2 : Int} {x3 : Int} {x4 : Int}  (k1 : M a0 12 ≤ x4 → sW (sC d) 159 Q 83 [vN, vN, vN, vI x3, vN, vN, vN] [] M G 0 0) (k2 : x4 < M a0 12 → sW (sC d) 159 Q 14 [vO 9 a0, vN, vI x2, vI x3, vI x4, vN, vN] [] M G 0 0) : sW (sC d) 159 Q 5 [vO 9 a0, vN, vI x2, vI x3, vI x4, vN, vN] [] M G 0 0 := by
  refine q_iload 7 rfl (show sCode 159 5 = some (.iload 4, 2) by decide +kernel) rfl ?_
  refine q_aload_n 8 rfl (show sCode 159 7 = some (.aload_n 0, 1) by decide +kernel) rfl (Nat.le_of_ble_eq_true rfl) ?_
  refine q_getI 11 rfl (show sCode 159 8 = some (.getfield 58, 3) by decide +kernel) (show sFR (sKo 159).1 58 = some (9, 12) by decide +kernel) (by decide +kernel) (Or.inl (Or.inl rfl)) ?_
  refine q_icmpge 83 14 rfl (by decide) (show sCode 159 11 = some (.if_icmp .ge 72, 3) by decide +kernel) ?_ ?_
  · intro q; refine q_forget (L' := [vN, vN, vI x2, vI x3, vI x4, vN, vN]) 0 rfl ?_; refine q_forget (L' := [vN, vN, vN, vI x3, vI x4, vN, vN]) 2 rfl ?_; refine q_forget (L' := [vN, vN, vN, vI x3, vN, vN, vN]) 4 rfl ?_; exact k1 q
  · intro q; exact k2 q
theorem b159_14 {d : Nat} {Q : Option sV → sM → sG → Prop} {M : sM} {G : sG} {a0 : Nat} {x2 : Int} {x3 : Int} {x4 : Int}  (kk : sW (sC d) 159 Q 20 [vO 9 a0, vN, vI x2, vI x3, vI x4, vI x3, vI 0] [] M G 0 0) : sW (sC d) 159 Q 14 [vO 9 a0, vN, vI x2, vI x3, vI x4, vN, vN] [] M G 0 0 := by
  refine q_iload_n 15 rfl (show sCode 159 14 = some (.iload_n 3, 1) by decide +kernel) rfl ?_
  refine q_istore [vO 9 a0, vN, vI x2, vI x3, vI x4, vI x3, vN] 17 rfl (show sCode 159 15 = some (.istore 5, 2) by decide +kernel) (Nat.lt_of_lt_of_le (Nat.lt_succ_self _) (Nat.le_of_ble_eq_true rfl)) rfl rfl ?_
  refine q_iconst 18 rfl (show sCode 159 17 = some (.iconst 0, 1) by decide +kernel) ⟨by decide, by decide⟩ ?_
  refine q_istore [vO 9 a0, vN, vI x2, vI x3, vI x4, vI x3, vI 0] 20 rfl (show sCode 159 18 = some (.istore 6, 2) by decide +kernel) (Nat.lt_of_lt_of_le (Nat.lt_succ_self _) (Nat.le_of_ble_eq_true rfl)) rfl rfl ?_
  exact kk
theorem b159_20 {d : Nat} {Q : Option sV → sM → sG → Prop} {M : sM} {G : sG} {a0 : Nat} {x2 : Int} {x3 : Int} {x4 : Int} {x5 : Int} {x6 : Int}  (k1 : M a0 12 ≤ x6 → sW (sC d) 159 Q 68 [vO 9 a0, vN, vI x2, vI x3, vI x4, vI x5, vN] [] M G 0 0) (k2 : x6 < M a0 12 → sW (sC d) 159 Q 29 [vO 9 a0, vN, vI x2, vI x3, vI x4, vI x5, vI x6] [] M G 0 0) : sW (sC d) 159 Q 20 [vO 9 a0, vN, vI x2, vI x3, vI x4, vI x5, vI x6] [] M G 0 0 := by
  refine q_iload 22 rfl (show sCode 159 20 = some (.iload 6, 2) by decide +kernel) rfl ?_
  refine q_aload_n 23 rfl (show sCode 159 22 = some (.aload_n 0, 1) by decide +kernel) rfl (Nat.le_of_ble_eq_true rfl) ?_
  refine q_getI 26 rfl (show sCode 159 23 = some (.getfield 58, 3) by decide +kernel) (show sFR (sKo 159).1 58 = some (9, 12) by decide +kernel) (by decide +kernel) (Or.inl (Or.inl rfl)) ?_
  refine q_icmpge 68 29 rfl (by decide) (show sCode 159 26 = some (.if_icmp .ge 42, 3) by decide +kernel) ?_ ?_
  · intro q; refine q_forget (L' := [vO 9 a0, vN, vI x2, vI x3, vI x4, vI x5, vN]) 6 rfl ?_; exact k1 q
  · intro q; exact k2 q
theorem b159_29 {d : Nat} {Q : Option sV → sM → sG → Prop} {M : sM} {G : sG} {a0 : Nat} {x2 : Int} {x3 : Int} {x4 : Int} {x5 : Int} {x6 : Int}  (k1 : iAnd (iShr x2 x6) 1 ≠ 1 → sW (sC d) 159 Q 62 [vO 9 a0, vN, vI x2, vI x3, vI x4, vI x5, vI x6] [] M G 0 0) (k2 : iAnd (iShr x2 x6) 1 = 1 → sW (sC d) 159 Q 39 [vO 9 a0, vN, vI x2, vI x3, vI x4, vI x5, vI x6] [] M G 0 0) : sW (sC d) 159 Q 29 [vO 9 a0, vN, vI x2, vI x3, vI x4, vI x5, vI x6] [] M G 0 0 := by
  refine q_iload_n 30 rfl (show sCode 159 29 = some (.iload_n 2, 1) by decide +kernel) rfl ?_
  refine q_iload 32 rfl (show sCode 159 30 = some (.iload 6, 2) by decide +kernel) rfl ?_
  refine q_ishr 33 rfl (show sCode 159 32 = some (.ishr, 1) by decide +kernel) ?_
  refine q_iconst 34 rfl (show sCode 159 33 = some (.iconst 1, 1) by decide +kernel) ⟨by decide, by decide⟩ ?_
  refine q_iand 35 rfl (show sCode 159 34 = some (.iand, 1) by decide +kernel) ?_
  refine q_iconst 36 rfl (show sCode 159 35 = some (.iconst 1, 1) by decide +kernel) ⟨by decide, by decide⟩ ?_
  refine q_icmpne 62 39 rfl (by decide) (show sCode 159 36 = some (.if_icmp .ne 26, 3) by decide +kernel) ?_ ?_
  · intro q; exact k1 q
  · intro q; exact k2 q
theorem b159_39 {d : Nat} {Q : Option sV → sM → sG → Prop} {M : sM} {G : sG} {a0 : Nat} {x2 : Int} {x3 : Int} {x4 : Int} {x5 : Int} {x6 : Int} (h1 : 0 ≤ x6 ∧ x6 < 12) (k1 : x3 ≤ M (a0 + 10) x6.toNat → sW (sC d) 159 Q 62 [vO 9 a0, vN, vI x2, vI x3, vI x4, vI x5, vI x6] [] M G 0 0) (k2 : M (a0 + 10) x6.toNat < x3 → sW (sC d) 159 Q 50 [vO 9 a0, vN, vI x2, vI x3, vI x4, vI x5, vI x6] [] M G 0 0) : sW (sC d) 159 Q 39 [vO 9 a0, vN, vI x2, vI x3, vI x4, vI x5, vI x6] [] M G 0 0 := by
  refine q_aload_n 40 rfl (show sCode 159 39 = some (.aload_n 0, 1) by decide +kernel) rfl (Nat.le_of_ble_eq_true rfl) ?_
  refine q_getR (vA 0 (a0 + 10) 12) 43 rfl (show sCode 159 40 = some (.getfield 61, 3) by decide +kernel) (show sFR (sKo 159).1 61 = some (9, 13) by decide +kernel) (by decide +kernel) (Or.inl (Or.inl rfl)) rfl ?_
  refine q_iload 45 rfl (show sCode 159 43 = some (.iload 6, 2) by decide +kernel) rfl ?_
  refine q_iald 46 rfl (show sCode 159 45 = some (.iaload, 1) by decide +kernel) h1 ?_
  refine q_iload_n 47 rfl (show sCode 159 46 = some (.iload_n 3, 1) by decide +kernel) rfl ?_
  refine q_icmpge 62 50 rfl (by decide) (show sCode 159 47 = some (.if_icmp .ge 15, 3) by decide +kernel) ?_ ?_
  · intro q; exact k1 q
  · intro q; exact k2 q
theorem b159_50 {d : Nat} {Q : Option sV → sM → sG → Prop} {M : sM} {G : sG} {a0 : Nat} {x2 : Int} {x3 : Int} {x4 : Int} {x5 : Int} {x6 : Int} (h1 : 0 ≤ x6 ∧ x6 < 12) (kk : sW (sC d) 159 Q 62 [vO 9 a0, vN, vI x2, vI (if x3 < M (a0 + 11) x6.toNat then M (a0 + 11) x6.toNat else x3), vI x4, vI x5, vI x6] [] M G 0 0) : sW (sC d) 159 Q 50 [vO 9 a0, vN, vI x2, vI x3, vI x4, vI x5, vI x6] [] M G 0 0 := by
  refine q_iload_n 51 rfl (show sCode 159 50 = some (.iload_n 3, 1) by decide +kernel) rfl ?_
  refine q_aload_n 52 rfl (show sCode 159 51 = some (.aload_n 0, 1) by decide +kernel) rfl (Nat.le_of_ble_eq_true rfl) ?_
  refine q_getR (vA 0 (a0 + 11) 12) 55 rfl (show sCode 159 52 = some (.getfield 64, 3) by decide +kernel) (show sFR (sKo 159).1 64 = some (9, 14) by decide +kernel) (by decide +kernel) (Or.inl (Or.inl rfl)) rfl ?_
  refine q_iload 57 rfl (show sCode 159 55 = some (.iload 6, 2) by decide +kernel) rfl ?_
  refine q_iald 58 rfl (show sCode 159 57 = some (.iaload, 1) by decide +kernel) h1 ?_
  refine q_max 61 rfl (show sCode 159 58 = some (.invokestatic 67, 3) by decide +kernel) (by decide +kernel) (Nat.le_of_ble_eq_true rfl) ?_
  refine q_istore_n [vO 9 a0, vN, vI x2, vI (if x3 < M (a0 + 11) x6.toNat then M (a0 + 11) x6.toNat else x3), vI x4, vI x5, vI x6] 62 rfl (show sCode 159 61 = some (.istore_n 3, 1) by decide +kernel) (Nat.lt_of_lt_of_le (Nat.lt_succ_self _) (Nat.le_of_ble_eq_true rfl)) rfl rfl ?_
  exact kk
theorem b159_62 {d : Nat} {Q : Option sV → sM → sG → Prop} {M : sM} {G : sG} {a0 : Nat} {x2 : Int} {x3 : Int} {x4 : Int} {x5 : Int} {x6 : Int} (h1 : sI (x6 + 1)) (kk : sW (sC d) 159 Q 20 [vO 9 a0, vN, vI x2, vI x3, vI x4, vI x5, vI (x6 + 1)] [] M G 0 0) : sW (sC d) 159 Q 62 [vO 9 a0, vN, vI x2, vI x3, vI x4, vI x5, vI x6] [] M G 0 0 := by
  refine q_iinc [vO 9 a0, vN, vI x2, vI x3, vI x4, vI x5, vI (x6 + 1)] 65 rfl (show sCode 159 62 = some (.iinc 6 1, 3) by decide +kernel) rfl rfl h1 rfl ?_
  refine q_goto 20 (by decide) (show sCode 159 65 = some (.goto (-45), 3) by decide +kernel) ?_
  exact kk
theorem b159_68 {d : Nat} {Q : Option sV → sM → sG → Prop} {M : sM} {G : sG} {a0 : Nat} {x2 : Int} {x3 : Int} {x4 : Int} {x5 : Int}  (k1 : x3 ≠ x5 → sW (sC d) 159 Q 77 [vO 9 a0, vN, vI x2, vI x3, vI x4, vN, vN] [] M G 0 0) (k2 : x3 = x5 → sW (sC d) 159 Q 74 [vN, vN, vN, vI x3, vN, vN, vN] [] M G 0 0) : sW (sC d) 159 Q 68 [vO 9 a0, vN, vI x2, vI x3, vI x4, vI x5, vN] [] M G 0 0 := by
  refine q_iload_n 69 rfl (show sCode 159 68 = some (.iload_n 3, 1) by decide +kernel) rfl ?_
  refine q_iload 71 rfl (show sCode 159 69 = some (.iload 5, 2) by decide +kernel) rfl ?_
  refine q_icmpne 77 74 rfl (by decide) (show sCode 159 71 = some (.if_icmp .ne 6, 3) by decide +kernel) ?_ ?_
  · intro q; refine q_forget (L' := [vO 9 a0, vN, vI x2, vI x3, vI x4, vN, vN]) 5 rfl ?_; exact k1 q
  · intro q; refine q_forget (L' := [vN, vN, vI x2, vI x3, vI x4, vI x5, vN]) 0 rfl ?_; refine q_forget (L' := [vN, vN, vN, vI x3, vI x4, vI x5, vN]) 2 rfl ?_; refine q_forget (L' := [vN, vN, vN, vI x3, vN, vI x5, vN]) 4 rfl ?_; refine q_forget (L' := [vN, vN, vN, vI x3, vN, vN, vN]) 5 rfl ?_; exact k2 q
theorem b159_74 {d : Nat} {Q : Option sV → sM → sG → Prop} {M : sM} {G : sG} {x3 : Int}  (kk : sW (sC d) 159 Q 83 [vN, vN, vN, vI x3, vN, vN, vN] [] M G 0 0) : sW (sC d) 159 Q 74 [vN, vN, vN, vI x3, vN, vN, vN] [] M G 0 0 := by
  refine q_goto 83 (by decide) (show sCode 159 74 = some (.goto 9, 3) by decide +kernel) ?_
  exact kk
theorem b159_77 {d : Nat} {Q : Option sV → sM → sG → Prop} {M : sM} {G : sG} {a0 : Nat} {x2 : Int} {x3 : Int} {x4 : Int} (h1 : sI (x4 + 1)) (kk : sW (sC d) 159 Q 5 [vO 9 a0, vN, vI x2, vI x3, vI (x4 + 1), vN, vN] [] M G 0 0) : sW (sC d) 159 Q 77 [vO 9 a0, vN, vI x2, vI x3, vI x4, vN, vN] [] M G 0 0 := by
  refine q_iinc [vO 9 a0, vN, vI x2, vI x3, vI (x4 + 1), vN, vN] 80 rfl (show sCode 159 77 = some (.iinc 4 1, 3) by decide +kernel) rfl rfl h1 rfl ?_
  refine q_goto 5 (by decide) (show sCode 159 80 = some (.goto (-75), 3) by decide +kernel) ?_
  exact kk
theorem b159_83 {d : Nat} {P : Int → sM → sG → Prop} {M : sM} {G : sG} {x3 : Int}  (kk : P x3 M G) : sW (sC d) 159 (QI P) 83 [vN, vN, vN, vI x3, vN, vN, vN] [] M G 0 0 := by
  refine q_iload_n 84 rfl (show sCode 159 83 = some (.iload_n 3, 1) by decide +kernel) rfl ?_
  exact q_iret (show sCode 159 84 = some (.ireturn, 1) by decide +kernel) (by decide +kernel) (by decide +kernel) kk
-- 161 AfterTheLast$Guesses.valueKnocks (IIII)V
theorem b161_0 {d : Nat} {Q : Option sV → sM → sG → Prop} {M : sM} {G : sG} {a0 : Nat} {x1 : Int} {x2 : Int} {x3 : Int} {x4 : Int}  (kk : sC d 6 [vA 0 (a0 + 3) 97, vI 0] M G (QV (fun M1 G1 => sW (sC d) 161 Q 8 [vO 2 a0, vI x1, vI x2, vI x3, vI x4, vN, vN, vN] [] M1 G1 0 0))) : sW (sC d) 161 Q 0 [vO 2 a0, vI x1, vI x2, vI x3, vI x4, vN, vN, vN] [] M G 0 0 := by
  refine q_aload_n 1 rfl (show sCode 161 0 = some (.aload_n 0, 1) by decide +kernel) rfl (Nat.le_of_ble_eq_true rfl) ?_
  refine q_getR (vA 0 (a0 + 3) 97) 4 rfl (show sCode 161 1 = some (.getfield 20, 3) by decide +kernel) (show sFR (sKo 161).1 20 = some (2, 2) by decide +kernel) (by decide +kernel) (Or.inl (Or.inl rfl)) rfl ?_
  refine q_iconst 5 rfl (show sCode 161 4 = some (.iconst 0, 1) by decide +kernel) ⟨by decide, by decide⟩ ?_
  exact q_statV [vA 0 (a0 + 3) 97, vI 0] 8 rfl (show sCode 161 5 = some (.invokestatic 28, 3) by decide +kernel) (show sMR (sKo 161).1 28 = some 6 by decide +kernel) (show 6 < 1000 ∧ sStat 6 = true ∧ sKo 6 = (14, 2, 0, 0, 0) by decide +kernel) rfl rfl (Nat.le_of_ble_eq_true rfl) rfl rfl rfl (by decide +kernel) kk
theorem b161_8 {d : Nat} {Q : Option sV → sM → sG → Prop} {M : sM} {G : sG} {a0 : Nat} {x1 : Int} {x2 : Int} {x3 : Int} {x4 : Int} (h1 : sI ((if 96 < x4 then 96 else x4) - 1)) (kk : sW (sC d) 161 Q 19 [vO 2 a0, vI x1, vI x2, vI x3, vI x4, vI ((if 96 < x4 then 96 else x4) - 1), vN, vN] [] M G 0 0) : sW (sC d) 161 Q 8 [vO 2 a0, vI x1, vI x2, vI x3, vI x4, vN, vN, vN] [] M G 0 0 := by
  refine q_iload 10 rfl (show sCode 161 8 = some (.iload 4, 2) by decide +kernel) rfl ?_
  refine q_bipush 12 rfl (show sCode 161 10 = some (.bipush 96, 2) by decide +kernel) ⟨by decide, by decide⟩ (by decide +kernel) ?_
  refine q_min 15 rfl (show sCode 161 12 = some (.invokestatic 82, 3) by decide +kernel) (by decide +kernel) (Nat.le_of_ble_eq_true rfl) ?_
  refine q_iconst 16 rfl (show sCode 161 15 = some (.iconst 1, 1) by decide +kernel) ⟨by decide, by decide⟩ ?_
  refine q_isub 17 rfl (show sCode 161 16 = some (.isub, 1) by decide +kernel) h1 ?_
  refine q_istore [vO 2 a0, vI x1, vI x2, vI x3, vI x4, vI ((if 96 < x4 then 96 else x4) - 1), vN, vN] 19 rfl (show sCode 161 17 = some (.istore 5, 2) by decide +kernel) (Nat.lt_of_lt_of_le (Nat.lt_succ_self _) (Nat.le_of_ble_eq_true rfl)) rfl rfl ?_
  exact kk
theorem b161_19 {d : Nat} {Q : Option sV → sM → sG → Prop} {M : sM} {G : sG} {a0 : Nat} {x1 : Int} {x2 : Int} {x3 : Int} {x4 : Int} {x5 : Int}  (k1 : x5 < 0 → sW (sC d) 161 Q 80 [vN, vN, vN, vN, vN, vN, vN, vN] [] M G 0 0) (k2 : 0 ≤ x5 → sW (sC d) 161 Q 24 [vO 2 a0, vI x1, vI x2, vI x3, vI x4, vI x5, vN, vN] [] M G 0 0) : sW (sC d) 161 Q 19 [vO 2 a0, vI x1, vI x2, vI x3, vI x4, vI x5, vN, vN] [] M G 0 0 := by
  refine q_iload 21 rfl (show sCode 161 19 = some (.iload 5, 2) by decide +kernel) rfl ?_
  refine q_iflt 80 24 rfl (by decide) (show sCode 161 21 = some (.ifCond .lt 59, 3) by decide +kernel) ?_ ?_
  · intro q; refine q_forget (L' := [vN, vI x1, vI x2, vI x3, vI x4, vI x5, vN, vN]) 0 rfl ?_; refine q_forget (L' := [vN, vN, vI x2, vI x3, vI x4, vI x5, vN, vN]) 1 rfl ?_; refine q_forget (L' := [vN, vN, vN, vI x3, vI x4, vI x5, vN, vN]) 2 rfl ?_; refine q_forget (L' := [vN, vN, vN, vN, vI x4, vI x5, vN, vN]) 3 rfl ?_; refine q_forget (L' := [vN, vN, vN, vN, vN, vI x5, vN, vN]) 4 rfl ?_; refine q_forget (L' := [vN, vN, vN, vN, vN, vN, vN, vN]) 5 rfl ?_; exact k1 q
  · intro q; exact k2 q
theorem b161_24 {d : Nat} {Q : Option sV → sM → sG → Prop} {M : sM} {G : sG} {a0 : Nat} {x1 : Int} {x2 : Int} {x3 : Int} {x4 : Int} {x5 : Int} (h1 : sI (x5 + 1)) (h2 : 0 ≤ x5 + 1 ∧ x5 + 1 < 97) (kk : sC d 162 [vO 2 a0, vI x2, vI x3, vI x4, vI x5] M G (QI (fun r M1 G1 => sW (sC d) 161 Q 47 [vO 2 a0, vI x1, vI x2, vI x3, vI x4, vI x5, vI (M (a0 + 3) (x5 + 1).toNat), vN] (vI r :: [vI (M (a0 + 3) (x5 + 1).toNat)]) M1 G1 0 0))) : sW (sC d) 161 Q 24 [vO 2 a0, vI x1, vI x2, vI x3, vI x4, vI x5, vN, vN] [] M G 0 0 := by
  refine q_aload_n 25 rfl (show sCode 161 24 = some (.aload_n 0, 1) by decide +kernel) rfl (Nat.le_of_ble_eq_true rfl) ?_
  refine q_getR (vA 0 (a0 + 3) 97) 28 rfl (show sCode 161 25 = some (.getfield 20, 3) by decide +kernel) (show sFR (sKo 161).1 20 = some (2, 2) by decide +kernel) (by decide +kernel) (Or.inl (Or.inl rfl)) rfl ?_
  refine q_iload 30 rfl (show sCode 161 28 = some (.iload 5, 2) by decide +kernel) rfl ?_
  refine q_iconst 31 rfl (show sCode 161 30 = some (.iconst 1, 1) by decide +kernel) ⟨by decide, by decide⟩ ?_
  refine q_iadd 32 rfl (show sCode 161 31 = some (.iadd, 1) by decide +kernel) h1 ?_
  refine q_iald 33 rfl (show sCode 161 32 = some (.iaload, 1) by decide +kernel) h2 ?_
  refine q_istore [vO 2 a0, vI x1, vI x2, vI x3, vI x4, vI x5, vI (M (a0 + 3) (x5 + 1).toNat), vN] 35 rfl (show sCode 161 33 = some (.istore 6, 2) by decide +kernel) (Nat.lt_of_lt_of_le (Nat.lt_succ_self _) (Nat.le_of_ble_eq_true rfl)) rfl rfl ?_
  refine q_iload 37 rfl (show sCode 161 35 = some (.iload 6, 2) by decide +kernel) rfl ?_
  refine q_aload_n 38 rfl (show sCode 161 37 = some (.aload_n 0, 1) by decide +kernel) rfl (Nat.le_of_ble_eq_true rfl) ?_
  refine q_iload_n 39 rfl (show sCode 161 38 = some (.iload_n 2, 1) by decide +kernel) rfl ?_
  refine q_iload_n 40 rfl (show sCode 161 39 = some (.iload_n 3, 1) by decide +kernel) rfl ?_
  refine q_iload 42 rfl (show sCode 161 40 = some (.iload 4, 2) by decide +kernel) rfl ?_
  refine q_iload 44 rfl (show sCode 161 42 = some (.iload 5, 2) by decide +kernel) rfl ?_
  exact q_virtI [vI x2, vI x3, vI x4, vI x5] 47 rfl (show sCode 161 44 = some (.invokevirtual 85, 3) by decide +kernel) (show sMR (sKo 161).1 85 = some 162 by decide +kernel) (show 162 < 1000 ∧ sStat 162 = false ∧ sIni 162 = false ∧ sKo 162 = (2, 4, 1, 0, 0) by decide +kernel) rfl (Or.inl rfl) rfl (Nat.le_of_ble_eq_true rfl) rfl rfl rfl (by decide +kernel) kk
theorem b161_47 {d : Nat} {Q : Option sV → sM → sG → Prop} {M : sM} {G : sG} {a0 : Nat} {x1 : Int} {x2 : Int} {x3 : Int} {x4 : Int} {x5 : Int} {x6 : Int} {s0 : Int} {s1 : Int} (h1 : sI (x1 * (if s1 < s0 then s0 else s1))) (h2 : sI (16 - x1)) (h3 : sI ((16 - x1) * x6)) (h4 : sI ((x1 * (if s1 < s0 then s0 else s1)) + ((16 - x1) * x6))) (h5 : 0 ≤ x5 ∧ x5 < 97) (h6 : sI (x5 + (-1))) (kk : sW (sC d) 161 Q 19 [vO 2 a0, vI x1, vI x2, vI x3, vI x4, vI (x5 + (-1)), vN, vN] [] (sUpd M (a0 + 3) x5.toNat (iDiv ((x1 * (if s1 < s0 then s0 else s1)) + ((16 - x1) * x6)) 16)) G 0 0) : sW (sC d) 161 Q 47 [vO 2 a0, vI x1, vI x2, vI x3, vI x4, vI x5, vI x6, vN] [vI s0, vI s1] M G 0 0 := by
  refine q_max 50 rfl (show sCode 161 47 = some (.invokestatic 67, 3) by decide +kernel) (by decide +kernel) (Nat.le_of_ble_eq_true rfl) ?_
  refine q_istore [vO 2 a0, vI x1, vI x2, vI x3, vI x4, vI x5, vI x6, vI (if s1 < s0 then s0 else s1)] 52 rfl (show sCode 161 50 = some (.istore 7, 2) by decide +kernel) (Nat.lt_of_lt_of_le (Nat.lt_succ_self _) (Nat.le_of_ble_eq_true rfl)) rfl rfl ?_
  refine q_aload_n 53 rfl (show sCode 161 52 = some (.aload_n 0, 1) by decide +kernel) rfl (Nat.le_of_ble_eq_true rfl) ?_
  refine q_getR (vA 0 (a0 + 3) 97) 56 rfl (show sCode 161 53 = some (.getfield 20, 3) by decide +kernel) (show sFR (sKo 161).1 20 = some (2, 2) by decide +kernel) (by decide +kernel) (Or.inl (Or.inl rfl)) rfl ?_
  refine q_iload 58 rfl (show sCode 161 56 = some (.iload 5, 2) by decide +kernel) rfl ?_
  refine q_iload_n 59 rfl (show sCode 161 58 = some (.iload_n 1, 1) by decide +kernel) rfl ?_
  refine q_iload 61 rfl (show sCode 161 59 = some (.iload 7, 2) by decide +kernel) rfl ?_
  refine q_imul 62 rfl (show sCode 161 61 = some (.imul, 1) by decide +kernel) h1 ?_
  refine q_bipush 64 rfl (show sCode 161 62 = some (.bipush 16, 2) by decide +kernel) ⟨by decide, by decide⟩ (by decide +kernel) ?_
  refine q_iload_n 65 rfl (show sCode 161 64 = some (.iload_n 1, 1) by decide +kernel) rfl ?_
  refine q_isub 66 rfl (show sCode 161 65 = some (.isub, 1) by decide +kernel) h2 ?_
  refine q_iload 68 rfl (show sCode 161 66 = some (.iload 6, 2) by decide +kernel) rfl ?_
  refine q_imul 69 rfl (show sCode 161 68 = some (.imul, 1) by decide +kernel) h3 ?_
  refine q_iadd 70 rfl (show sCode 161 69 = some (.iadd, 1) by decide +kernel) h4 ?_
  refine q_bipush 72 rfl (show sCode 161 70 = some (.bipush 16, 2) by decide +kernel) ⟨by decide, by decide⟩ (by decide +kernel) ?_
  refine q_idiv 73 rfl (show sCode 161 72 = some (.idiv, 1) by decide +kernel) (by decide) ?_
  refine q_iast 74 rfl (show sCode 161 73 = some (.iastore, 1) by decide +kernel) h5 ?_
  refine q_iinc [vO 2 a0, vI x1, vI x2, vI x3, vI x4, vI (x5 + (-1)), vI x6, vI (if s1 < s0 then s0 else s1)] 77 rfl (show sCode 161 74 = some (.iinc 5 (-1), 3) by decide +kernel) rfl rfl h6 rfl ?_
  refine q_goto 19 (by decide) (show sCode 161 77 = some (.goto (-58), 3) by decide +kernel) ?_
  refine q_forget (L' := [vO 2 a0, vI x1, vI x2, vI x3, vI x4, vI (x5 + (-1)), vN, vI (if s1 < s0 then s0 else s1)]) 6 rfl ?_
  refine q_forget (L' := [vO 2 a0, vI x1, vI x2, vI x3, vI x4, vI (x5 + (-1)), vN, vN]) 7 rfl ?_
  exact kk
theorem b161_80 {d : Nat} {P : sM → sG → Prop} {M : sM} {G : sG}   (kk : P M G) : sW (sC d) 161 (QV P) 80 [vN, vN, vN, vN, vN, vN, vN, vN] [] M G 0 0 := by
  exact q_vret (show sCode 161 80 = some (.return_, 1) by decide +kernel) (by decide +kernel) (by decide +kernel) kk
-- 162 AfterTheLast$Guesses.lettingIn (IIII)I
theorem b162_0 {d : Nat} {Q : Option sV → sM → sG → Prop} {M : sM} {G : sG} {a0 : Nat} {x1 : Int} {x2 : Int} {x3 : Int} {x4 : Int} (h1 : sI (x4 + x1)) (k1 : x3 < x4 + x1 → sW (sC d) 162 Q 21 [vN, vN, vN, vN, vN] [] M G 0 0) (k2 : x4 + x1 ≤ x3 → sW (sC d) 162 Q 8 [vO 2 a0, vI x1, vI x2, vN, vI x4] [] M G 0 0) : sW (sC d) 162 Q 0 [vO 2 a0, vI x1, vI x2, vI x3, vI x4] [] M G 0 0 := by
  refine q_iload 2 rfl (show sCode 162 0 = some (.iload 4, 2) by decide +kernel) rfl ?_
  refine q_iload_n 3 rfl (show sCode 162 2 = some (.iload_n 1, 1) by decide +kernel) rfl ?_
  refine q_iadd 4 rfl (show sCode 162 3 = some (.iadd, 1) by decide +kernel) h1 ?_
  refine q_iload_n 5 rfl (show sCode 162 4 = some (.iload_n 3, 1) by decide +kernel) rfl ?_
  refine q_icmpgt 21 8 rfl (by decide) (show sCode 162 5 = some (.if_icmp .gt 16, 3) by decide +kernel) ?_ ?_
  · intro q; refine q_forget (L' := [vN, vI x1, vI x2, vI x3, vI x4]) 0 rfl ?_; refine q_forget (L' := [vN, vN, vI x2, vI x3, vI x4]) 1 rfl ?_; refine q_forget (L' := [vN, vN, vN, vI x3, vI x4]) 2 rfl ?_; refine q_forget (L' := [vN, vN, vN, vN, vI x4]) 3 rfl ?_; refine q_forget (L' := [vN, vN, vN, vN, vN]) 4 rfl ?_; exact k1 q
  · intro q; refine q_forget (L' := [vO 2 a0, vI x1, vI x2, vN, vI x4]) 3 rfl ?_; exact k2 q
theorem b162_8 {d : Nat} {Q : Option sV → sM → sG → Prop} {M : sM} {G : sG} {a0 : Nat} {x1 : Int} {x2 : Int} {x4 : Int} (h1 : sI (x4 + x1)) (kk : sC d 163 [vO 2 a0, vI (x4 + x1)] M G (QI (fun r M1 G1 => sW (sC d) 162 Q 17 [vN, vN, vN, vN, vN] (vI r :: [vI x2]) M1 G1 0 0))) : sW (sC d) 162 Q 8 [vO 2 a0, vI x1, vI x2, vN, vI x4] [] M G 0 0 := by
  refine q_iload_n 9 rfl (show sCode 162 8 = some (.iload_n 2, 1) by decide +kernel) rfl ?_
  refine q_aload_n 10 rfl (show sCode 162 9 = some (.aload_n 0, 1) by decide +kernel) rfl (Nat.le_of_ble_eq_true rfl) ?_
  refine q_iload 12 rfl (show sCode 162 10 = some (.iload 4, 2) by decide +kernel) rfl ?_
  refine q_iload_n 13 rfl (show sCode 162 12 = some (.iload_n 1, 1) by decide +kernel) rfl ?_
  refine q_iadd 14 rfl (show sCode 162 13 = some (.iadd, 1) by decide +kernel) h1 ?_
  refine q_forget (L' := [vN, vI x1, vI x2, vN, vI x4]) 0 rfl ?_
  refine q_forget (L' := [vN, vN, vI x2, vN, vI x4]) 1 rfl ?_
  refine q_forget (L' := [vN, vN, vN, vN, vI x4]) 2 rfl ?_
  refine q_forget (L' := [vN, vN, vN, vN, vN]) 4 rfl ?_
  exact q_virtI [vI (x4 + x1)] 17 rfl (show sCode 162 14 = some (.invokevirtual 89, 3) by decide +kernel) (show sMR (sKo 162).1 89 = some 163 by decide +kernel) (show 163 < 1000 ∧ sStat 163 = false ∧ sIni 163 = false ∧ sKo 163 = (2, 1, 1, 0, 0) by decide +kernel) rfl (Or.inl rfl) rfl (Nat.le_of_ble_eq_true rfl) rfl rfl rfl (by decide +kernel) kk
theorem b162_17 {d : Nat} {Q : Option sV → sM → sG → Prop} {M : sM} {G : sG} {s0 : Int} {s1 : Int} (h1 : sI (s1 + s0)) (kk : sW (sC d) 162 Q 22 [vN, vN, vN, vN, vN] [vI (s1 + s0)] M G 0 0) : sW (sC d) 162 Q 17 [vN, vN, vN, vN, vN] [vI s0, vI s1] M G 0 0 := by
  refine q_iadd 18 rfl (show sCode 162 17 = some (.iadd, 1) by decide +kernel) h1 ?_
  refine q_goto 22 (by decide) (show sCode 162 18 = some (.goto 4, 3) by decide +kernel) ?_
  exact kk
theorem b162_21 {d : Nat} {Q : Option sV → sM → sG → Prop} {M : sM} {G : sG}   (kk : sW (sC d) 162 Q 22 [vN, vN, vN, vN, vN] [vI (-1)] M G 0 0) : sW (sC d) 162 Q 21 [vN, vN, vN, vN, vN] [] M G 0 0 := by
  refine q_iconst 22 rfl (show sCode 162 21 = some (.iconst (-1), 1) by decide +kernel) ⟨by decide, by decide⟩ ?_
  exact kk
theorem b162_22 {d : Nat} {P : Int → sM → sG → Prop} {M : sM} {G : sG} {s0 : Int}  (kk : P s0 M G) : sW (sC d) 162 (QI P) 22 [vN, vN, vN, vN, vN] [vI s0] M G 0 0 := by
  exact q_iret (show sCode 162 22 = some (.ireturn, 1) by decide +kernel) (by decide +kernel) (by decide +kernel) kk
-- 163 AfterTheLast$Guesses.valueAt (I)I
theorem b163_0 {d : Nat} {Q : Option sV → sM → sG → Prop} {M : sM} {G : sG} {a0 : Nat} {x1 : Int}  (k1 : x1 < 0 → sW (sC d) 163 Q 19 [vN, vN] [] M G 0 0) (k2 : 0 ≤ x1 → sW (sC d) 163 Q 4 [vO 2 a0, vI x1] [] M G 0 0) : sW (sC d) 163 Q 0 [vO 2 a0, vI x1] [] M G 0 0 := by
  refine q_iload_n 1 rfl (show sCode 163 0 = some (.iload_n 1, 1) by decide +kernel) rfl ?_
  refine q_iflt 19 4 rfl (by decide) (show sCode 163 1 = some (.ifCond .lt 18, 3) by decide +kernel) ?_ ?_
  · intro q; refine q_forget (L' := [vN, vI x1]) 0 rfl ?_; refine q_forget (L' := [vN, vN]) 1 rfl ?_; exact k1 q
  · intro q; exact k2 q
theorem b163_4 {d : Nat} {Q : Option sV → sM → sG → Prop} {M : sM} {G : sG} {a0 : Nat} {x1 : Int}  (k1 : 96 < x1 → sW (sC d) 163 Q 19 [vN, vN] [] M G 0 0) (k2 : x1 ≤ 96 → sW (sC d) 163 Q 10 [vO 2 a0, vI x1] [] M G 0 0) : sW (sC d) 163 Q 4 [vO 2 a0, vI x1] [] M G 0 0 := by
  refine q_iload_n 5 rfl (show sCode 163 4 = some (.iload_n 1, 1) by decide +kernel) rfl ?_
  refine q_bipush 7 rfl (show sCode 163 5 = some (.bipush 96, 2) by decide +kernel) ⟨by decide, by decide⟩ (by decide +kernel) ?_
  refine q_icmpgt 19 10 rfl (by decide) (show sCode 163 7 = some (.if_icmp .gt 12, 3) by decide +kernel) ?_ ?_
  · intro q; refine q_forget (L' := [vN, vI x1]) 0 rfl ?_; refine q_forget (L' := [vN, vN]) 1 rfl ?_; exact k1 q
  · intro q; exact k2 q
theorem b163_10 {d : Nat} {Q : Option sV → sM → sG → Prop} {M : sM} {G : sG} {a0 : Nat} {x1 : Int} (h1 : 0 ≤ x1 ∧ x1 < 97) (kk : sW (sC d) 163 Q 20 [vN, vN] [vI (M (a0 + 3) x1.toNat)] M G 0 0) : sW (sC d) 163 Q 10 [vO 2 a0, vI x1] [] M G 0 0 := by
  refine q_aload_n 11 rfl (show sCode 163 10 = some (.aload_n 0, 1) by decide +kernel) rfl (Nat.le_of_ble_eq_true rfl) ?_
  refine q_getR (vA 0 (a0 + 3) 97) 14 rfl (show sCode 163 11 = some (.getfield 20, 3) by decide +kernel) (show sFR (sKo 163).1 20 = some (2, 2) by decide +kernel) (by decide +kernel) (Or.inl (Or.inl rfl)) rfl ?_
  refine q_iload_n 15 rfl (show sCode 163 14 = some (.iload_n 1, 1) by decide +kernel) rfl ?_
  refine q_iald 16 rfl (show sCode 163 15 = some (.iaload, 1) by decide +kernel) h1 ?_
  refine q_goto 20 (by decide) (show sCode 163 16 = some (.goto 4, 3) by decide +kernel) ?_
  refine q_forget (L' := [vN, vI x1]) 0 rfl ?_
  refine q_forget (L' := [vN, vN]) 1 rfl ?_
  exact kk
theorem b163_19 {d : Nat} {Q : Option sV → sM → sG → Prop} {M : sM} {G : sG}   (kk : sW (sC d) 163 Q 20 [vN, vN] [vI 0] M G 0 0) : sW (sC d) 163 Q 19 [vN, vN] [] M G 0 0 := by
  refine q_iconst 20 rfl (show sCode 163 19 = some (.iconst 0, 1) by decide +kernel) ⟨by decide, by decide⟩ ?_
  exact kk
theorem b163_20 {d : Nat} {P : Int → sM → sG → Prop} {M : sM} {G : sG} {s0 : Int}  (kk : P s0 M G) : sW (sC d) 163 (QI P) 20 [vN, vN] [vI s0] M G 0 0 := by
  exact q_iret (show sCode 163 20 = some (.ireturn, 1) by decide +kernel) (by decide +kernel) (by decide +kernel) kk
