/-! BLOCKS, by program. -/
-- 237 AfterTheLastModel.cross (III)I
theorem b237_0 {d : Nat} {Q : Option sV → sM → sG → Prop} {M : sM} {G : sG} {a0 : Nat} {x1 : Int} {x2 : Int} {x3 : Int}  (kk : sC d 208 [vO 12 a0, vI x1] M G (QI (fun r M1 G1 => sW (sC d) 237 Q 5 [vO 12 a0, vI x1, vI x2, vI x3] (vI r :: []) M1 G1 0 0))) : sW (sC d) 237 Q 0 [vO 12 a0, vI x1, vI x2, vI x3] [] M G 0 0 := by
  refine q_aload_n 1 rfl (show sCode 237 0 = some (.aload_n 0, 1) by decide +kernel) rfl (Nat.le_of_ble_eq_true rfl) ?_
  refine q_iload_n 2 rfl (show sCode 237 1 = some (.iload_n 1, 1) by decide +kernel) rfl ?_
  exact q_virtI [vI x1] 5 rfl (show sCode 237 2 = some (.invokevirtual 299, 3) by decide +kernel) (show sMR (sKo 237).1 299 = some 208 by decide +kernel) (show 208 < 1000 ∧ sStat 208 = false ∧ sIni 208 = false ∧ sKo 208 = (12, 1, 2, 0, 0) by decide +kernel) rfl (Or.inl rfl) rfl (Nat.le_of_ble_eq_true rfl) rfl rfl rfl (by decide +kernel) kk
theorem b237_5 {d : Nat} {Q : Option sV → sM → sG → Prop} {M : sM} {G : sG} {a0 : Nat} {x1 : Int} {x2 : Int} {x3 : Int} {s0 : Int}  (k1 : s0 = 0 → sW (sC d) 237 Q 51 [vN, vN, vN, vN] [] M G 0 0) (k2 : s0 ≠ 0 → sW (sC d) 237 Q 8 [vO 12 a0, vI x1, vI x2, vI x3] [] M G 0 0) : sW (sC d) 237 Q 5 [vO 12 a0, vI x1, vI x2, vI x3] [vI s0] M G 0 0 := by
  refine q_ifeq 51 8 rfl (by decide) (show sCode 237 5 = some (.ifCond .eq 46, 3) by decide +kernel) ?_ ?_
  · intro q; refine q_forget (L' := [vN, vI x1, vI x2, vI x3]) 0 rfl ?_; refine q_forget (L' := [vN, vN, vI x2, vI x3]) 1 rfl ?_; refine q_forget (L' := [vN, vN, vN, vI x3]) 2 rfl ?_; refine q_forget (L' := [vN, vN, vN, vN]) 3 rfl ?_; exact k1 q
  · intro q; exact k2 q
theorem b237_8 {d : Nat} {Q : Option sV → sM → sG → Prop} {M : sM} {G : sG} {a0 : Nat} {x1 : Int} {x2 : Int} {x3 : Int}  (kk : sC d 208 [vO 12 a0, vI x2] M G (QI (fun r M1 G1 => sW (sC d) 237 Q 13 [vO 12 a0, vI x1, vI x2, vI x3] (vI r :: []) M1 G1 0 0))) : sW (sC d) 237 Q 8 [vO 12 a0, vI x1, vI x2, vI x3] [] M G 0 0 := by
  refine q_aload_n 9 rfl (show sCode 237 8 = some (.aload_n 0, 1) by decide +kernel) rfl (Nat.le_of_ble_eq_true rfl) ?_
  refine q_iload_n 10 rfl (show sCode 237 9 = some (.iload_n 2, 1) by decide +kernel) rfl ?_
  exact q_virtI [vI x2] 13 rfl (show sCode 237 10 = some (.invokevirtual 299, 3) by decide +kernel) (show sMR (sKo 237).1 299 = some 208 by decide +kernel) (show 208 < 1000 ∧ sStat 208 = false ∧ sIni 208 = false ∧ sKo 208 = (12, 1, 2, 0, 0) by decide +kernel) rfl (Or.inl rfl) rfl (Nat.le_of_ble_eq_true rfl) rfl rfl rfl (by decide +kernel) kk
theorem b237_13 {d : Nat} {Q : Option sV → sM → sG → Prop} {M : sM} {G : sG} {a0 : Nat} {x1 : Int} {x2 : Int} {x3 : Int} {s0 : Int}  (k1 : s0 = 0 → sW (sC d) 237 Q 51 [vN, vN, vN, vN] [] M G 0 0) (k2 : s0 ≠ 0 → sW (sC d) 237 Q 16 [vO 12 a0, vI x1, vI x2, vI x3] [] M G 0 0) : sW (sC d) 237 Q 13 [vO 12 a0, vI x1, vI x2, vI x3] [vI s0] M G 0 0 := by
  refine q_ifeq 51 16 rfl (by decide) (show sCode 237 13 = some (.ifCond .eq 38, 3) by decide +kernel) ?_ ?_
  · intro q; refine q_forget (L' := [vN, vI x1, vI x2, vI x3]) 0 rfl ?_; refine q_forget (L' := [vN, vN, vI x2, vI x3]) 1 rfl ?_; refine q_forget (L' := [vN, vN, vN, vI x3]) 2 rfl ?_; refine q_forget (L' := [vN, vN, vN, vN]) 3 rfl ?_; exact k1 q
  · intro q; exact k2 q
theorem b237_16 {d : Nat} {Q : Option sV → sM → sG → Prop} {M : sM} {G : sG} {a0 : Nat} {x1 : Int} {x2 : Int} {x3 : Int}  (k1 : x1 = x2 → sW (sC d) 237 Q 51 [vN, vN, vN, vN] [] M G 0 0) (k2 : x1 ≠ x2 → sW (sC d) 237 Q 21 [vO 12 a0, vI x1, vI x2, vI x3] [] M G 0 0) : sW (sC d) 237 Q 16 [vO 12 a0, vI x1, vI x2, vI x3] [] M G 0 0 := by
  refine q_iload_n 17 rfl (show sCode 237 16 = some (.iload_n 1, 1) by decide +kernel) rfl ?_
  refine q_iload_n 18 rfl (show sCode 237 17 = some (.iload_n 2, 1) by decide +kernel) rfl ?_
  refine q_icmpeq 51 21 rfl (by decide) (show sCode 237 18 = some (.if_icmp .eq 33, 3) by decide +kernel) ?_ ?_
  · intro q; refine q_forget (L' := [vN, vI x1, vI x2, vI x3]) 0 rfl ?_; refine q_forget (L' := [vN, vN, vI x2, vI x3]) 1 rfl ?_; refine q_forget (L' := [vN, vN, vN, vI x3]) 2 rfl ?_; refine q_forget (L' := [vN, vN, vN, vN]) 3 rfl ?_; exact k1 q
  · intro q; exact k2 q
theorem b237_21 {d : Nat} {Q : Option sV → sM → sG → Prop} {M : sM} {G : sG} {a0 : Nat} {x1 : Int} {x2 : Int} {x3 : Int}  (kk : sC d 183 [vL x3, vL 0, vL 2] M G (QI (fun r M1 G1 => sW (sC d) 237 Q 30 [vO 12 a0, vI x1, vI x2, vI x3] (vI r :: []) M1 G1 0 0))) : sW (sC d) 237 Q 21 [vO 12 a0, vI x1, vI x2, vI x3] [] M G 0 0 := by
  refine q_iload_n 22 rfl (show sCode 237 21 = some (.iload_n 3, 1) by decide +kernel) rfl ?_
  refine q_i2l 23 rfl (show sCode 237 22 = some (.i2l, 1) by decide +kernel) ?_
  refine q_lconst 24 rfl (show sCode 237 23 = some (.lconst 0, 1) by decide +kernel) ?_
  refine q_ldc2_w 27 rfl (show sCode 237 24 = some (.ldc2_w 363, 3) by decide +kernel) (show sLR (sKo 237).1 363 = some 2 by decide +kernel) ⟨by decide, by decide⟩ ?_
  exact q_statI [vL x3, vL 0, vL 2] 30 rfl (show sCode 237 27 = some (.invokestatic 127, 3) by decide +kernel) (show sMR (sKo 237).1 127 = some 183 by decide +kernel) (show 183 < 1000 ∧ sStat 183 = true ∧ sKo 183 = (12, 3, 2, 0, 0) by decide +kernel) rfl rfl (Nat.le_of_ble_eq_true rfl) rfl rfl rfl (by decide +kernel) kk
theorem b237_30 {d : Nat} {Q : Option sV → sM → sG → Prop} {M : sM} {G : sG} {a0 : Nat} {x1 : Int} {x2 : Int} {x3 : Int} {s0 : Int}  (k1 : s0 = 0 → sW (sC d) 237 Q 51 [vN, vN, vN, vN] [] M G 0 0) (k2 : s0 ≠ 0 → sW (sC d) 237 Q 33 [vO 12 a0, vI x1, vI x2, vI x3] [] M G 0 0) : sW (sC d) 237 Q 30 [vO 12 a0, vI x1, vI x2, vI x3] [vI s0] M G 0 0 := by
  refine q_ifeq 51 33 rfl (by decide) (show sCode 237 30 = some (.ifCond .eq 21, 3) by decide +kernel) ?_ ?_
  · intro q; refine q_forget (L' := [vN, vI x1, vI x2, vI x3]) 0 rfl ?_; refine q_forget (L' := [vN, vN, vI x2, vI x3]) 1 rfl ?_; refine q_forget (L' := [vN, vN, vN, vI x3]) 2 rfl ?_; refine q_forget (L' := [vN, vN, vN, vN]) 3 rfl ?_; exact k1 q
  · intro q; exact k2 q
theorem b237_33 {d : Nat} {Q : Option sV → sM → sG → Prop} {M : sM} {G : sG} {a0 : Nat} {x1 : Int} {x2 : Int} {x3 : Int}  (kk : sC d 238 [vO 12 a0, vI x1, vI x2, vI x3] M G (QI (fun r M1 G1 => sW (sC d) 237 Q 40 [vN, vN, vN, vN] (vI r :: []) M1 G1 0 0))) : sW (sC d) 237 Q 33 [vO 12 a0, vI x1, vI x2, vI x3] [] M G 0 0 := by
  refine q_aload_n 34 rfl (show sCode 237 33 = some (.aload_n 0, 1) by decide +kernel) rfl (Nat.le_of_ble_eq_true rfl) ?_
  refine q_iload_n 35 rfl (show sCode 237 34 = some (.iload_n 1, 1) by decide +kernel) rfl ?_
  refine q_iload_n 36 rfl (show sCode 237 35 = some (.iload_n 2, 1) by decide +kernel) rfl ?_
  refine q_iload_n 37 rfl (show sCode 237 36 = some (.iload_n 3, 1) by decide +kernel) rfl ?_
  refine q_forget (L' := [vN, vI x1, vI x2, vI x3]) 0 rfl ?_
  refine q_forget (L' := [vN, vN, vI x2, vI x3]) 1 rfl ?_
  refine q_forget (L' := [vN, vN, vN, vI x3]) 2 rfl ?_
  refine q_forget (L' := [vN, vN, vN, vN]) 3 rfl ?_
  exact q_virtI [vI x1, vI x2, vI x3] 40 rfl (show sCode 237 37 = some (.invokevirtual 365, 3) by decide +kernel) (show sMR (sKo 237).1 365 = some 238 by decide +kernel) (show 238 < 1000 ∧ sStat 238 = false ∧ sIni 238 = false ∧ sKo 238 = (12, 3, 2, 0, 0) by decide +kernel) rfl (Or.inl rfl) rfl (Nat.le_of_ble_eq_true rfl) rfl rfl rfl (by decide +kernel) kk
theorem b237_40 {d : Nat} {Q : Option sV → sM → sG → Prop} {M : sM} {G : sG} {s0 : Int}  (k1 : s0 = 0 → sW (sC d) 237 Q 47 [vN, vN, vN, vN] [] M G 0 0) (k2 : s0 ≠ 0 → sW (sC d) 237 Q 43 [vN, vN, vN, vN] [] M G 0 0) : sW (sC d) 237 Q 40 [vN, vN, vN, vN] [vI s0] M G 0 0 := by
  refine q_ifeq 47 43 rfl (by decide) (show sCode 237 40 = some (.ifCond .eq 7, 3) by decide +kernel) ?_ ?_
  · intro q; exact k1 q
  · intro q; exact k2 q
theorem b237_43 {d : Nat} {Q : Option sV → sM → sG → Prop} {M : sM} {G : sG}   (kk : sW (sC d) 237 Q 52 [vN, vN, vN, vN] [vI 1] M G 0 0) : sW (sC d) 237 Q 43 [vN, vN, vN, vN] [] M G 0 0 := by
  refine q_iconst 44 rfl (show sCode 237 43 = some (.iconst 1, 1) by decide +kernel) ⟨by decide, by decide⟩ ?_
  refine q_goto 52 (by decide) (show sCode 237 44 = some (.goto 8, 3) by decide +kernel) ?_
  exact kk
theorem b237_47 {d : Nat} {Q : Option sV → sM → sG → Prop} {M : sM} {G : sG}   (kk : sW (sC d) 237 Q 52 [vN, vN, vN, vN] [vI 0] M G 0 0) : sW (sC d) 237 Q 47 [vN, vN, vN, vN] [] M G 0 0 := by
  refine q_iconst 48 rfl (show sCode 237 47 = some (.iconst 0, 1) by decide +kernel) ⟨by decide, by decide⟩ ?_
  refine q_goto 52 (by decide) (show sCode 237 48 = some (.goto 4, 3) by decide +kernel) ?_
  exact kk
theorem b237_51 {d : Nat} {Q : Option sV → sM → sG → Prop} {M : sM} {G : sG}   (kk : sW (sC d) 237 Q 52 [vN, vN, vN, vN] [vI (-1)] M G 0 0) : sW (sC d) 237 Q 51 [vN, vN, vN, vN] [] M G 0 0 := by
  refine q_iconst 52 rfl (show sCode 237 51 = some (.iconst (-1), 1) by decide +kernel) ⟨by decide, by decide⟩ ?_
  exact kk
theorem b237_52 {d : Nat} {P : Int → sM → sG → Prop} {M : sM} {G : sG} {s0 : Int}  (kk : P s0 M G) : sW (sC d) 237 (QI P) 52 [vN, vN, vN, vN] [vI s0] M G 0 0 := by
  exact q_iret (show sCode 237 52 = some (.ireturn, 1) by decide +kernel) (by decide +kernel) (by decide +kernel) kk
-- 238 AfterTheLastModel.doCross (III)Z
theorem b238_0 {d : Nat} {Q : Option sV → sM → sG → Prop} {M : sM} {G : sG} {a0 : Nat} {x1 : Int} {x2 : Int} {x3 : Int}  (kk : sC d 209 [vO 12 a0, vI x1, vI 2] M G (QI (fun r M1 G1 => sW (sC d) 238 Q 6 [vO 12 a0, vI x1, vI x2, vI x3] (vI r :: []) M1 G1 0 0))) : sW (sC d) 238 Q 0 [vO 12 a0, vI x1, vI x2, vI x3] [] M G 0 0 := by
  refine q_aload_n 1 rfl (show sCode 238 0 = some (.aload_n 0, 1) by decide +kernel) rfl (Nat.le_of_ble_eq_true rfl) ?_
  refine q_iload_n 2 rfl (show sCode 238 1 = some (.iload_n 1, 1) by decide +kernel) rfl ?_
  refine q_iconst 3 rfl (show sCode 238 2 = some (.iconst 2, 1) by decide +kernel) ⟨by decide, by decide⟩ ?_
  exact q_virtI [vI x1, vI 2] 6 rfl (show sCode 238 3 = some (.invokevirtual 302, 3) by decide +kernel) (show sMR (sKo 238).1 302 = some 209 by decide +kernel) (show 209 < 1000 ∧ sStat 209 = false ∧ sIni 209 = false ∧ sKo 209 = (12, 2, 1, 0, 0) by decide +kernel) rfl (Or.inl rfl) rfl (Nat.le_of_ble_eq_true rfl) rfl rfl rfl (by decide +kernel) kk
theorem b238_6 {d : Nat} {Q : Option sV → sM → sG → Prop} {M : sM} {G : sG} {a0 : Nat} {x1 : Int} {x2 : Int} {x3 : Int} {s0 : Int}  (kk : sC d 209 [vO 12 a0, vI x1, vI 3] M G (QI (fun r M1 G1 => sW (sC d) 238 Q 12 [vO 12 a0, vN, vI x2, vI x3] (vI r :: [vI s0]) M1 G1 0 0))) : sW (sC d) 238 Q 6 [vO 12 a0, vI x1, vI x2, vI x3] [vI s0] M G 0 0 := by
  refine q_aload_n 7 rfl (show sCode 238 6 = some (.aload_n 0, 1) by decide +kernel) rfl (Nat.le_of_ble_eq_true rfl) ?_
  refine q_iload_n 8 rfl (show sCode 238 7 = some (.iload_n 1, 1) by decide +kernel) rfl ?_
  refine q_iconst 9 rfl (show sCode 238 8 = some (.iconst 3, 1) by decide +kernel) ⟨by decide, by decide⟩ ?_
  refine q_forget (L' := [vO 12 a0, vN, vI x2, vI x3]) 1 rfl ?_
  exact q_virtI [vI x1, vI 3] 12 rfl (show sCode 238 9 = some (.invokevirtual 302, 3) by decide +kernel) (show sMR (sKo 238).1 302 = some 209 by decide +kernel) (show 209 < 1000 ∧ sStat 209 = false ∧ sIni 209 = false ∧ sKo 209 = (12, 2, 1, 0, 0) by decide +kernel) rfl (Or.inl rfl) rfl (Nat.le_of_ble_eq_true rfl) rfl rfl rfl (by decide +kernel) kk
theorem b238_12 {d : Nat} {Q : Option sV → sM → sG → Prop} {M : sM} {G : sG} {a0 : Nat} {x2 : Int} {x3 : Int} {s0 : Int} {s1 : Int}  (kk : sC d 209 [vO 12 a0, vI x2, vI 2] M G (QI (fun r M1 G1 => sW (sC d) 238 Q 18 [vO 12 a0, vN, vI x2, vI x3] (vI r :: [vI s0, vI s1]) M1 G1 0 0))) : sW (sC d) 238 Q 12 [vO 12 a0, vN, vI x2, vI x3] [vI s0, vI s1] M G 0 0 := by
  refine q_aload_n 13 rfl (show sCode 238 12 = some (.aload_n 0, 1) by decide +kernel) rfl (Nat.le_of_ble_eq_true rfl) ?_
  refine q_iload_n 14 rfl (show sCode 238 13 = some (.iload_n 2, 1) by decide +kernel) rfl ?_
  refine q_iconst 15 rfl (show sCode 238 14 = some (.iconst 2, 1) by decide +kernel) ⟨by decide, by decide⟩ ?_
  exact q_virtI [vI x2, vI 2] 18 rfl (show sCode 238 15 = some (.invokevirtual 302, 3) by decide +kernel) (show sMR (sKo 238).1 302 = some 209 by decide +kernel) (show 209 < 1000 ∧ sStat 209 = false ∧ sIni 209 = false ∧ sKo 209 = (12, 2, 1, 0, 0) by decide +kernel) rfl (Or.inl rfl) rfl (Nat.le_of_ble_eq_true rfl) rfl rfl rfl (by decide +kernel) kk
theorem b238_18 {d : Nat} {Q : Option sV → sM → sG → Prop} {M : sM} {G : sG} {a0 : Nat} {x2 : Int} {x3 : Int} {s0 : Int} {s1 : Int} {s2 : Int}  (kk : sC d 209 [vO 12 a0, vI x2, vI 3] M G (QI (fun r M1 G1 => sW (sC d) 238 Q 24 [vN, vN, vN, vI x3] (vI r :: [vI s0, vI s1, vI s2]) M1 G1 0 0))) : sW (sC d) 238 Q 18 [vO 12 a0, vN, vI x2, vI x3] [vI s0, vI s1, vI s2] M G 0 0 := by
  refine q_aload_n 19 rfl (show sCode 238 18 = some (.aload_n 0, 1) by decide +kernel) rfl (Nat.le_of_ble_eq_true rfl) ?_
  refine q_iload_n 20 rfl (show sCode 238 19 = some (.iload_n 2, 1) by decide +kernel) rfl ?_
  refine q_iconst 21 rfl (show sCode 238 20 = some (.iconst 3, 1) by decide +kernel) ⟨by decide, by decide⟩ ?_
  refine q_forget (L' := [vN, vN, vI x2, vI x3]) 0 rfl ?_
  refine q_forget (L' := [vN, vN, vN, vI x3]) 2 rfl ?_
  exact q_virtI [vI x2, vI 3] 24 rfl (show sCode 238 21 = some (.invokevirtual 302, 3) by decide +kernel) (show sMR (sKo 238).1 302 = some 209 by decide +kernel) (show 209 < 1000 ∧ sStat 209 = false ∧ sIni 209 = false ∧ sKo 209 = (12, 2, 1, 0, 0) by decide +kernel) rfl (Or.inl rfl) rfl (Nat.le_of_ble_eq_true rfl) rfl rfl rfl (by decide +kernel) kk
theorem b238_24 {d : Nat} {Q : Option sV → sM → sG → Prop} {M : sM} {G : sG} {x3 : Int} {s0 : Int} {s1 : Int} {s2 : Int} {s3 : Int}  (kk : sC d 239 [vI s3, vI s2, vI s1, vI s0, vI x3] M G (QI (fun r M1 G1 => sW (sC d) 238 Q 28 [vN, vN, vN, vN] (vI r :: []) M1 G1 0 0))) : sW (sC d) 238 Q 24 [vN, vN, vN, vI x3] [vI s0, vI s1, vI s2, vI s3] M G 0 0 := by
  refine q_iload_n 25 rfl (show sCode 238 24 = some (.iload_n 3, 1) by decide +kernel) rfl ?_
  refine q_forget (L' := [vN, vN, vN, vN]) 3 rfl ?_
  exact q_statI [vI s3, vI s2, vI s1, vI s0, vI x3] 28 rfl (show sCode 238 25 = some (.invokestatic 359, 3) by decide +kernel) (show sMR (sKo 238).1 359 = some 239 by decide +kernel) (show 239 < 1000 ∧ sStat 239 = true ∧ sKo 239 = (12, 5, 2, 0, 0) by decide +kernel) rfl rfl (Nat.le_of_ble_eq_true rfl) rfl rfl rfl (by decide +kernel) kk
theorem b238_28 {d : Nat} {P : Int → sM → sG → Prop} {M : sM} {G : sG} {s0 : Int}  (h01 : s0 = 0 ∨ s0 = 1) (kk : P s0 M G) : sW (sC d) 238 (QI P) 28 [vN, vN, vN, vN] [vI s0] M G 0 0 := by
  exact q_zret (show sCode 238 28 = some (.ireturn, 1) by decide +kernel) (by decide +kernel) h01 (by decide +kernel) kk
-- 239 AfterTheLastModel.areCrossed (IIIII)Z
theorem b239_0 {d : Nat} {Q : Option sV → sM → sG → Prop} {M : sM} {G : sG} {x0 : Int} {x1 : Int} {x2 : Int} {x3 : Int} {x4 : Int}  (k1 : x0 = x2 → sW (sC d) 239 Q 11 [vN, vN, vN, vN, vN, vN, vN, vN, vN] [] M G 0 0) (k2 : x0 ≠ x2 → sW (sC d) 239 Q 5 [vI x0, vI x1, vI x2, vI x3, vI x4, vN, vN, vN, vN] [] M G 0 0) : sW (sC d) 239 Q 0 [vI x0, vI x1, vI x2, vI x3, vI x4, vN, vN, vN, vN] [] M G 0 0 := by
  refine q_iload_n 1 rfl (show sCode 239 0 = some (.iload_n 0, 1) by decide +kernel) rfl ?_
  refine q_iload_n 2 rfl (show sCode 239 1 = some (.iload_n 2, 1) by decide +kernel) rfl ?_
  refine q_icmpeq 11 5 rfl (by decide) (show sCode 239 2 = some (.if_icmp .eq 9, 3) by decide +kernel) ?_ ?_
  · intro q; refine q_forget (L' := [vN, vI x1, vI x2, vI x3, vI x4, vN, vN, vN, vN]) 0 rfl ?_; refine q_forget (L' := [vN, vN, vI x2, vI x3, vI x4, vN, vN, vN, vN]) 1 rfl ?_; refine q_forget (L' := [vN, vN, vN, vI x3, vI x4, vN, vN, vN, vN]) 2 rfl ?_; refine q_forget (L' := [vN, vN, vN, vN, vI x4, vN, vN, vN, vN]) 3 rfl ?_; refine q_forget (L' := [vN, vN, vN, vN, vN, vN, vN, vN, vN]) 4 rfl ?_; exact k1 q
  · intro q; exact k2 q
theorem b239_5 {d : Nat} {Q : Option sV → sM → sG → Prop} {M : sM} {G : sG} {x0 : Int} {x1 : Int} {x2 : Int} {x3 : Int} {x4 : Int}  (k1 : x4 ≠ 2 → sW (sC d) 239 Q 13 [vI x0, vI x1, vI x2, vI x3, vI x4, vN, vN, vN, vN] [] M G 0 0) (k2 : x4 = 2 → sW (sC d) 239 Q 11 [vN, vN, vN, vN, vN, vN, vN, vN, vN] [] M G 0 0) : sW (sC d) 239 Q 5 [vI x0, vI x1, vI x2, vI x3, vI x4, vN, vN, vN, vN] [] M G 0 0 := by
  refine q_iload 7 rfl (show sCode 239 5 = some (.iload 4, 2) by decide +kernel) rfl ?_
  refine q_iconst 8 rfl (show sCode 239 7 = some (.iconst 2, 1) by decide +kernel) ⟨by decide, by decide⟩ ?_
  refine q_icmpne 13 11 rfl (by decide) (show sCode 239 8 = some (.if_icmp .ne 5, 3) by decide +kernel) ?_ ?_
  · intro q; exact k1 q
  · intro q; refine q_forget (L' := [vN, vI x1, vI x2, vI x3, vI x4, vN, vN, vN, vN]) 0 rfl ?_; refine q_forget (L' := [vN, vN, vI x2, vI x3, vI x4, vN, vN, vN, vN]) 1 rfl ?_; refine q_forget (L' := [vN, vN, vN, vI x3, vI x4, vN, vN, vN, vN]) 2 rfl ?_; refine q_forget (L' := [vN, vN, vN, vN, vI x4, vN, vN, vN, vN]) 3 rfl ?_; refine q_forget (L' := [vN, vN, vN, vN, vN, vN, vN, vN, vN]) 4 rfl ?_; exact k2 q
theorem b239_11 {d : Nat} {P : Int → sM → sG → Prop} {M : sM} {G : sG}   (kk : P 0 M G) : sW (sC d) 239 (QI P) 11 [vN, vN, vN, vN, vN, vN, vN, vN, vN] [] M G 0 0 := by
  refine q_iconst 12 rfl (show sCode 239 11 = some (.iconst 0, 1) by decide +kernel) ⟨by decide, by decide⟩ ?_
  exact q_zret (show sCode 239 12 = some (.ireturn, 1) by decide +kernel) (by decide +kernel) (by decide) (by decide +kernel) kk
theorem b239_13 {d : Nat} {Q : Option sV → sM → sG → Prop} {M : sM} {G : sG} {x0 : Int} {x1 : Int} {x2 : Int} {x3 : Int} {x4 : Int}  (k1 : x2 ≤ x0 → sW (sC d) 239 Q 22 [vI x0, vI x1, vI x2, vI x3, vI x4, vN, vN, vN, vN] [] M G 0 0) (k2 : x0 < x2 → sW (sC d) 239 Q 18 [vI x0, vI x1, vI x2, vI x3, vI x4, vN, vN, vN, vN] [] M G 0 0) : sW (sC d) 239 Q 13 [vI x0, vI x1, vI x2, vI x3, vI x4, vN, vN, vN, vN] [] M G 0 0 := by
  refine q_iload_n 14 rfl (show sCode 239 13 = some (.iload_n 0, 1) by decide +kernel) rfl ?_
  refine q_iload_n 15 rfl (show sCode 239 14 = some (.iload_n 2, 1) by decide +kernel) rfl ?_
  refine q_icmpge 22 18 rfl (by decide) (show sCode 239 15 = some (.if_icmp .ge 7, 3) by decide +kernel) ?_ ?_
  · intro q; exact k1 q
  · intro q; exact k2 q
theorem b239_18 {d : Nat} {Q : Option sV → sM → sG → Prop} {M : sM} {G : sG} {x0 : Int} {x1 : Int} {x2 : Int} {x3 : Int} {x4 : Int}  (kk : sW (sC d) 239 Q 23 [vI x0, vI x1, vI x2, vI x3, vI x4, vN, vN, vN, vN] [vI 1] M G 0 0) : sW (sC d) 239 Q 18 [vI x0, vI x1, vI x2, vI x3, vI x4, vN, vN, vN, vN] [] M G 0 0 := by
  refine q_iconst 19 rfl (show sCode 239 18 = some (.iconst 1, 1) by decide +kernel) ⟨by decide, by decide⟩ ?_
  refine q_goto 23 (by decide) (show sCode 239 19 = some (.goto 4, 3) by decide +kernel) ?_
  exact kk
theorem b239_22 {d : Nat} {Q : Option sV → sM → sG → Prop} {M : sM} {G : sG} {x0 : Int} {x1 : Int} {x2 : Int} {x3 : Int} {x4 : Int}  (kk : sW (sC d) 239 Q 23 [vI x0, vI x1, vI x2, vI x3, vI x4, vN, vN, vN, vN] [vI 0] M G 0 0) : sW (sC d) 239 Q 22 [vI x0, vI x1, vI x2, vI x3, vI x4, vN, vN, vN, vN] [] M G 0 0 := by
  refine q_iconst 23 rfl (show sCode 239 22 = some (.iconst 0, 1) by decide +kernel) ⟨by decide, by decide⟩ ?_
  exact kk
theorem b239_23 {d : Nat} {Q : Option sV → sM → sG → Prop} {M : sM} {G : sG} {x0 : Int} {x1 : Int} {x2 : Int} {x3 : Int} {x4 : Int} {s0 : Int}  (k1 : s0 = 0 → sW (sC d) 239 Q 34 [vI x0, vI x1, vN, vI x3, vI x4, vI s0, vN, vN, vN] [] M G 0 0) (k2 : s0 ≠ 0 → sW (sC d) 239 Q 30 [vN, vI x1, vI x2, vI x3, vI x4, vI s0, vN, vN, vN] [] M G 0 0) : sW (sC d) 239 Q 23 [vI x0, vI x1, vI x2, vI x3, vI x4, vN, vN, vN, vN] [vI s0] M G 0 0 := by
  refine q_istore [vI x0, vI x1, vI x2, vI x3, vI x4, vI s0, vN, vN, vN] 25 rfl (show sCode 239 23 = some (.istore 5, 2) by decide +kernel) (Nat.lt_of_lt_of_le (Nat.lt_succ_self _) (Nat.le_of_ble_eq_true rfl)) rfl rfl ?_
  refine q_iload 27 rfl (show sCode 239 25 = some (.iload 5, 2) by decide +kernel) rfl ?_
  refine q_ifeq 34 30 rfl (by decide) (show sCode 239 27 = some (.ifCond .eq 7, 3) by decide +kernel) ?_ ?_
  · intro q; refine q_forget (L' := [vI x0, vI x1, vN, vI x3, vI x4, vI s0, vN, vN, vN]) 2 rfl ?_; exact k1 q
  · intro q; refine q_forget (L' := [vN, vI x1, vI x2, vI x3, vI x4, vI s0, vN, vN, vN]) 0 rfl ?_; exact k2 q
theorem b239_30 {d : Nat} {Q : Option sV → sM → sG → Prop} {M : sM} {G : sG} {x1 : Int} {x2 : Int} {x3 : Int} {x4 : Int} {x5 : Int}  (kk : sW (sC d) 239 Q 35 [vN, vI x1, vN, vI x3, vI x4, vI x5, vN, vN, vN] [vI x2] M G 0 0) : sW (sC d) 239 Q 30 [vN, vI x1, vI x2, vI x3, vI x4, vI x5, vN, vN, vN] [] M G 0 0 := by
  refine q_iload_n 31 rfl (show sCode 239 30 = some (.iload_n 2, 1) by decide +kernel) rfl ?_
  refine q_goto 35 (by decide) (show sCode 239 31 = some (.goto 4, 3) by decide +kernel) ?_
  refine q_forget (L' := [vN, vI x1, vN, vI x3, vI x4, vI x5, vN, vN, vN]) 2 rfl ?_
  exact kk
theorem b239_34 {d : Nat} {Q : Option sV → sM → sG → Prop} {M : sM} {G : sG} {x0 : Int} {x1 : Int} {x3 : Int} {x4 : Int} {x5 : Int}  (kk : sW (sC d) 239 Q 35 [vN, vI x1, vN, vI x3, vI x4, vI x5, vN, vN, vN] [vI x0] M G 0 0) : sW (sC d) 239 Q 34 [vI x0, vI x1, vN, vI x3, vI x4, vI x5, vN, vN, vN] [] M G 0 0 := by
  refine q_iload_n 35 rfl (show sCode 239 34 = some (.iload_n 0, 1) by decide +kernel) rfl ?_
  refine q_forget (L' := [vN, vI x1, vN, vI x3, vI x4, vI x5, vN, vN, vN]) 0 rfl ?_
  exact kk
theorem b239_35 {d : Nat} {Q : Option sV → sM → sG → Prop} {M : sM} {G : sG} {x1 : Int} {x3 : Int} {x4 : Int} {x5 : Int} {s0 : Int}  (k1 : x5 = 0 → sW (sC d) 239 Q 46 [vN, vI x1, vN, vI x3, vI x4, vI x5, vI s0, vN, vN] [] M G 0 0) (k2 : x5 ≠ 0 → sW (sC d) 239 Q 42 [vN, vI x1, vN, vI x3, vI x4, vI x5, vI s0, vN, vN] [] M G 0 0) : sW (sC d) 239 Q 35 [vN, vI x1, vN, vI x3, vI x4, vI x5, vN, vN, vN] [vI s0] M G 0 0 := by
  refine q_istore [vN, vI x1, vN, vI x3, vI x4, vI x5, vI s0, vN, vN] 37 rfl (show sCode 239 35 = some (.istore 6, 2) by decide +kernel) (Nat.lt_of_lt_of_le (Nat.lt_succ_self _) (Nat.le_of_ble_eq_true rfl)) rfl rfl ?_
  refine q_iload 39 rfl (show sCode 239 37 = some (.iload 5, 2) by decide +kernel) rfl ?_
  refine q_ifeq 46 42 rfl (by decide) (show sCode 239 39 = some (.ifCond .eq 7, 3) by decide +kernel) ?_ ?_
  · intro q; exact k1 q
  · intro q; exact k2 q
theorem b239_42 {d : Nat} {Q : Option sV → sM → sG → Prop} {M : sM} {G : sG} {x1 : Int} {x3 : Int} {x4 : Int} {x5 : Int} {x6 : Int}  (kk : sW (sC d) 239 Q 47 [vN, vI x1, vN, vI x3, vI x4, vI x5, vI x6, vN, vN] [vI x1] M G 0 0) : sW (sC d) 239 Q 42 [vN, vI x1, vN, vI x3, vI x4, vI x5, vI x6, vN, vN] [] M G 0 0 := by
  refine q_iload_n 43 rfl (show sCode 239 42 = some (.iload_n 1, 1) by decide +kernel) rfl ?_
  refine q_goto 47 (by decide) (show sCode 239 43 = some (.goto 4, 3) by decide +kernel) ?_
  exact kk
theorem b239_46 {d : Nat} {Q : Option sV → sM → sG → Prop} {M : sM} {G : sG} {x1 : Int} {x3 : Int} {x4 : Int} {x5 : Int} {x6 : Int}  (kk : sW (sC d) 239 Q 47 [vN, vI x1, vN, vI x3, vI x4, vI x5, vI x6, vN, vN] [vI x3] M G 0 0) : sW (sC d) 239 Q 46 [vN, vI x1, vN, vI x3, vI x4, vI x5, vI x6, vN, vN] [] M G 0 0 := by
  refine q_iload_n 47 rfl (show sCode 239 46 = some (.iload_n 3, 1) by decide +kernel) rfl ?_
  exact kk
theorem b239_47 {d : Nat} {Q : Option sV → sM → sG → Prop} {M : sM} {G : sG} {x1 : Int} {x3 : Int} {x4 : Int} {x5 : Int} {x6 : Int} {s0 : Int}  (k1 : x5 = 0 → sW (sC d) 239 Q 58 [vN, vI x1, vN, vN, vI x4, vN, vI x6, vI s0, vN] [] M G 0 0) (k2 : x5 ≠ 0 → sW (sC d) 239 Q 54 [vN, vN, vN, vI x3, vI x4, vN, vI x6, vI s0, vN] [] M G 0 0) : sW (sC d) 239 Q 47 [vN, vI x1, vN, vI x3, vI x4, vI x5, vI x6, vN, vN] [vI s0] M G 0 0 := by
  refine q_istore [vN, vI x1, vN, vI x3, vI x4, vI x5, vI x6, vI s0, vN] 49 rfl (show sCode 239 47 = some (.istore 7, 2) by decide +kernel) (Nat.lt_of_lt_of_le (Nat.lt_succ_self _) (Nat.le_of_ble_eq_true rfl)) rfl rfl ?_
  refine q_iload 51 rfl (show sCode 239 49 = some (.iload 5, 2) by decide +kernel) rfl ?_
  refine q_ifeq 58 54 rfl (by decide) (show sCode 239 51 = some (.ifCond .eq 7, 3) by decide +kernel) ?_ ?_
  · intro q; refine q_forget (L' := [vN, vI x1, vN, vN, vI x4, vI x5, vI x6, vI s0, vN]) 3 rfl ?_; refine q_forget (L' := [vN, vI x1, vN, vN, vI x4, vN, vI x6, vI s0, vN]) 5 rfl ?_; exact k1 q
  · intro q; refine q_forget (L' := [vN, vN, vN, vI x3, vI x4, vI x5, vI x6, vI s0, vN]) 1 rfl ?_; refine q_forget (L' := [vN, vN, vN, vI x3, vI x4, vN, vI x6, vI s0, vN]) 5 rfl ?_; exact k2 q
theorem b239_54 {d : Nat} {Q : Option sV → sM → sG → Prop} {M : sM} {G : sG} {x3 : Int} {x4 : Int} {x6 : Int} {x7 : Int}  (kk : sW (sC d) 239 Q 59 [vN, vN, vN, vN, vI x4, vN, vI x6, vI x7, vN] [vI x3] M G 0 0) : sW (sC d) 239 Q 54 [vN, vN, vN, vI x3, vI x4, vN, vI x6, vI x7, vN] [] M G 0 0 := by
  refine q_iload_n 55 rfl (show sCode 239 54 = some (.iload_n 3, 1) by decide +kernel) rfl ?_
  refine q_goto 59 (by decide) (show sCode 239 55 = some (.goto 4, 3) by decide +kernel) ?_
  refine q_forget (L' := [vN, vN, vN, vN, vI x4, vN, vI x6, vI x7, vN]) 3 rfl ?_
  exact kk
theorem b239_58 {d : Nat} {Q : Option sV → sM → sG → Prop} {M : sM} {G : sG} {x1 : Int} {x4 : Int} {x6 : Int} {x7 : Int}  (kk : sW (sC d) 239 Q 59 [vN, vN, vN, vN, vI x4, vN, vI x6, vI x7, vN] [vI x1] M G 0 0) : sW (sC d) 239 Q 58 [vN, vI x1, vN, vN, vI x4, vN, vI x6, vI x7, vN] [] M G 0 0 := by
  refine q_iload_n 59 rfl (show sCode 239 58 = some (.iload_n 1, 1) by decide +kernel) rfl ?_
  refine q_forget (L' := [vN, vN, vN, vN, vI x4, vN, vI x6, vI x7, vN]) 1 rfl ?_
  exact kk
theorem b239_59 {d : Nat} {Q : Option sV → sM → sG → Prop} {M : sM} {G : sG} {x4 : Int} {x6 : Int} {x7 : Int} {s0 : Int}  (k1 : x4 ≠ 0 → sW (sC d) 239 Q 88 [vN, vN, vN, vN, vN, vN, vN, vI x7, vI s0] [] M G 0 0) (k2 : x4 = 0 → sW (sC d) 239 Q 66 [vN, vN, vN, vN, vN, vN, vI x6, vI x7, vI s0] [] M G 0 0) : sW (sC d) 239 Q 59 [vN, vN, vN, vN, vI x4, vN, vI x6, vI x7, vN] [vI s0] M G 0 0 := by
  refine q_istore [vN, vN, vN, vN, vI x4, vN, vI x6, vI x7, vI s0] 61 rfl (show sCode 239 59 = some (.istore 8, 2) by decide +kernel) (Nat.lt_of_lt_of_le (Nat.lt_succ_self _) (Nat.le_of_ble_eq_true rfl)) rfl rfl ?_
  refine q_iload 63 rfl (show sCode 239 61 = some (.iload 4, 2) by decide +kernel) rfl ?_
  refine q_ifne 88 66 rfl (by decide) (show sCode 239 63 = some (.ifCond .ne 25, 3) by decide +kernel) ?_ ?_
  · intro q; refine q_forget (L' := [vN, vN, vN, vN, vN, vN, vI x6, vI x7, vI s0]) 4 rfl ?_; refine q_forget (L' := [vN, vN, vN, vN, vN, vN, vN, vI x7, vI s0]) 6 rfl ?_; exact k1 q
  · intro q; refine q_forget (L' := [vN, vN, vN, vN, vN, vN, vI x6, vI x7, vI s0]) 4 rfl ?_; exact k2 q
theorem b239_66 {d : Nat} {Q : Option sV → sM → sG → Prop} {M : sM} {G : sG} {x6 : Int} {x7 : Int} {x8 : Int}  (k1 : x7 ≤ x6 → sW (sC d) 239 Q 84 [vN, vN, vN, vN, vN, vN, vN, vN, vN] [] M G 0 0) (k2 : x6 < x7 → sW (sC d) 239 Q 73 [vN, vN, vN, vN, vN, vN, vN, vI x7, vI x8] [] M G 0 0) : sW (sC d) 239 Q 66 [vN, vN, vN, vN, vN, vN, vI x6, vI x7, vI x8] [] M G 0 0 := by
  refine q_iload 68 rfl (show sCode 239 66 = some (.iload 6, 2) by decide +kernel) rfl ?_
  refine q_iload 70 rfl (show sCode 239 68 = some (.iload 7, 2) by decide +kernel) rfl ?_
  refine q_icmpge 84 73 rfl (by decide) (show sCode 239 70 = some (.if_icmp .ge 14, 3) by decide +kernel) ?_ ?_
  · intro q; refine q_forget (L' := [vN, vN, vN, vN, vN, vN, vN, vI x7, vI x8]) 6 rfl ?_; refine q_forget (L' := [vN, vN, vN, vN, vN, vN, vN, vN, vI x8]) 7 rfl ?_; refine q_forget (L' := [vN, vN, vN, vN, vN, vN, vN, vN, vN]) 8 rfl ?_; exact k1 q
  · intro q; refine q_forget (L' := [vN, vN, vN, vN, vN, vN, vN, vI x7, vI x8]) 6 rfl ?_; exact k2 q
theorem b239_73 {d : Nat} {Q : Option sV → sM → sG → Prop} {M : sM} {G : sG} {x7 : Int} {x8 : Int}  (k1 : x8 ≤ x7 → sW (sC d) 239 Q 84 [vN, vN, vN, vN, vN, vN, vN, vN, vN] [] M G 0 0) (k2 : x7 < x8 → sW (sC d) 239 Q 80 [vN, vN, vN, vN, vN, vN, vN, vN, vN] [] M G 0 0) : sW (sC d) 239 Q 73 [vN, vN, vN, vN, vN, vN, vN, vI x7, vI x8] [] M G 0 0 := by
  refine q_iload 75 rfl (show sCode 239 73 = some (.iload 8, 2) by decide +kernel) rfl ?_
  refine q_iload 77 rfl (show sCode 239 75 = some (.iload 7, 2) by decide +kernel) rfl ?_
  refine q_icmple 84 80 rfl (by decide) (show sCode 239 77 = some (.if_icmp .le 7, 3) by decide +kernel) ?_ ?_
  · intro q; refine q_forget (L' := [vN, vN, vN, vN, vN, vN, vN, vN, vI x8]) 7 rfl ?_; refine q_forget (L' := [vN, vN, vN, vN, vN, vN, vN, vN, vN]) 8 rfl ?_; exact k1 q
  · intro q; refine q_forget (L' := [vN, vN, vN, vN, vN, vN, vN, vN, vI x8]) 7 rfl ?_; refine q_forget (L' := [vN, vN, vN, vN, vN, vN, vN, vN, vN]) 8 rfl ?_; exact k2 q
theorem b239_80 {d : Nat} {Q : Option sV → sM → sG → Prop} {M : sM} {G : sG}   (kk : sW (sC d) 239 Q 100 [vN, vN, vN, vN, vN, vN, vN, vN, vN] [vI 1] M G 0 0) : sW (sC d) 239 Q 80 [vN, vN, vN, vN, vN, vN, vN, vN, vN] [] M G 0 0 := by
  refine q_iconst 81 rfl (show sCode 239 80 = some (.iconst 1, 1) by decide +kernel) ⟨by decide, by decide⟩ ?_
  refine q_goto 100 (by decide) (show sCode 239 81 = some (.goto 19, 3) by decide +kernel) ?_
  exact kk
theorem b239_84 {d : Nat} {Q : Option sV → sM → sG → Prop} {M : sM} {G : sG}   (kk : sW (sC d) 239 Q 100 [vN, vN, vN, vN, vN, vN, vN, vN, vN] [vI 0] M G 0 0) : sW (sC d) 239 Q 84 [vN, vN, vN, vN, vN, vN, vN, vN, vN] [] M G 0 0 := by
  refine q_iconst 85 rfl (show sCode 239 84 = some (.iconst 0, 1) by decide +kernel) ⟨by decide, by decide⟩ ?_
  refine q_goto 100 (by decide) (show sCode 239 85 = some (.goto 15, 3) by decide +kernel) ?_
  exact kk
theorem b239_88 {d : Nat} {Q : Option sV → sM → sG → Prop} {M : sM} {G : sG} {x7 : Int} {x8 : Int}  (k1 : x7 ≤ x8 → sW (sC d) 239 Q 99 [vN, vN, vN, vN, vN, vN, vN, vN, vN] [] M G 0 0) (k2 : x8 < x7 → sW (sC d) 239 Q 95 [vN, vN, vN, vN, vN, vN, vN, vN, vN] [] M G 0 0) : sW (sC d) 239 Q 88 [vN, vN, vN, vN, vN, vN, vN, vI x7, vI x8] [] M G 0 0 := by
  refine q_iload 90 rfl (show sCode 239 88 = some (.iload 8, 2) by decide +kernel) rfl ?_
  refine q_iload 92 rfl (show sCode 239 90 = some (.iload 7, 2) by decide +kernel) rfl ?_
  refine q_icmpge 99 95 rfl (by decide) (show sCode 239 92 = some (.if_icmp .ge 7, 3) by decide +kernel) ?_ ?_
  · intro q; refine q_forget (L' := [vN, vN, vN, vN, vN, vN, vN, vN, vI x8]) 7 rfl ?_; refine q_forget (L' := [vN, vN, vN, vN, vN, vN, vN, vN, vN]) 8 rfl ?_; exact k1 q
  · intro q; refine q_forget (L' := [vN, vN, vN, vN, vN, vN, vN, vN, vI x8]) 7 rfl ?_; refine q_forget (L' := [vN, vN, vN, vN, vN, vN, vN, vN, vN]) 8 rfl ?_; exact k2 q
theorem b239_95 {d : Nat} {Q : Option sV → sM → sG → Prop} {M : sM} {G : sG}   (kk : sW (sC d) 239 Q 100 [vN, vN, vN, vN, vN, vN, vN, vN, vN] [vI 1] M G 0 0) : sW (sC d) 239 Q 95 [vN, vN, vN, vN, vN, vN, vN, vN, vN] [] M G 0 0 := by
  refine q_iconst 96 rfl (show sCode 239 95 = some (.iconst 1, 1) by decide +kernel) ⟨by decide, by decide⟩ ?_
  refine q_goto 100 (by decide) (show sCode 239 96 = some (.goto 4, 3) by decide +kernel) ?_
  exact kk
theorem b239_99 {d : Nat} {Q : Option sV → sM → sG → Prop} {M : sM} {G : sG}   (kk : sW (sC d) 239 Q 100 [vN, vN, vN, vN, vN, vN, vN, vN, vN] [vI 0] M G 0 0) : sW (sC d) 239 Q 99 [vN, vN, vN, vN, vN, vN, vN, vN, vN] [] M G 0 0 := by
  refine q_iconst 100 rfl (show sCode 239 99 = some (.iconst 0, 1) by decide +kernel) ⟨by decide, by decide⟩ ?_
  exact kk
theorem b239_100 {d : Nat} {P : Int → sM → sG → Prop} {M : sM} {G : sG} {s0 : Int}  (h01 : s0 = 0 ∨ s0 = 1) (kk : P s0 M G) : sW (sC d) 239 (QI P) 100 [vN, vN, vN, vN, vN, vN, vN, vN, vN] [vI s0] M G 0 0 := by
  exact q_zret (show sCode 239 100 = some (.ireturn, 1) by decide +kernel) (by decide +kernel) h01 (by decide +kernel) kk
-- 240 AfterTheLastModel.fits (III)I
theorem b240_0 {d : Nat} {Q : Option sV → sM → sG → Prop} {M : sM} {G : sG} {a0 : Nat} {x1 : Int} {x2 : Int} {x3 : Int}  (kk : sC d 241 [vO 12 a0, vI x1] M G (QI (fun r M1 G1 => sW (sC d) 240 Q 5 [vO 12 a0, vI x1, vI x2, vI x3, vN, vN] (vI r :: []) M1 G1 0 0))) : sW (sC d) 240 Q 0 [vO 12 a0, vI x1, vI x2, vI x3, vN, vN] [] M G 0 0 := by
  refine q_aload_n 1 rfl (show sCode 240 0 = some (.aload_n 0, 1) by decide +kernel) rfl (Nat.le_of_ble_eq_true rfl) ?_
  refine q_iload_n 2 rfl (show sCode 240 1 = some (.iload_n 1, 1) by decide +kernel) rfl ?_
  exact q_virtI [vI x1] 5 rfl (show sCode 240 2 = some (.invokevirtual 372, 3) by decide +kernel) (show sMR (sKo 240).1 372 = some 241 by decide +kernel) (show 241 < 1000 ∧ sStat 241 = false ∧ sIni 241 = false ∧ sKo 241 = (12, 1, 2, 0, 0) by decide +kernel) rfl (Or.inl rfl) rfl (Nat.le_of_ble_eq_true rfl) rfl rfl rfl (by decide +kernel) kk
theorem b240_5 {d : Nat} {Q : Option sV → sM → sG → Prop} {M : sM} {G : sG} {a0 : Nat} {x1 : Int} {x2 : Int} {x3 : Int} {s0 : Int}  (k1 : s0 = 0 → sW (sC d) 240 Q 30 [vN, vN, vN, vN, vN, vN] [] M G 0 0) (k2 : s0 ≠ 0 → sW (sC d) 240 Q 8 [vO 12 a0, vI x1, vI x2, vI x3, vN, vN] [] M G 0 0) : sW (sC d) 240 Q 5 [vO 12 a0, vI x1, vI x2, vI x3, vN, vN] [vI s0] M G 0 0 := by
  refine q_ifeq 30 8 rfl (by decide) (show sCode 240 5 = some (.ifCond .eq 25, 3) by decide +kernel) ?_ ?_
  · intro q; refine q_forget (L' := [vN, vI x1, vI x2, vI x3, vN, vN]) 0 rfl ?_; refine q_forget (L' := [vN, vN, vI x2, vI x3, vN, vN]) 1 rfl ?_; refine q_forget (L' := [vN, vN, vN, vI x3, vN, vN]) 2 rfl ?_; refine q_forget (L' := [vN, vN, vN, vN, vN, vN]) 3 rfl ?_; exact k1 q
  · intro q; exact k2 q
theorem b240_8 {d : Nat} {Q : Option sV → sM → sG → Prop} {M : sM} {G : sG} {a0 : Nat} {x1 : Int} {x2 : Int} {x3 : Int}  (kk : sC d 183 [vL x2, vL 0, vL 2] M G (QI (fun r M1 G1 => sW (sC d) 240 Q 17 [vO 12 a0, vI x1, vI x2, vI x3, vN, vN] (vI r :: []) M1 G1 0 0))) : sW (sC d) 240 Q 8 [vO 12 a0, vI x1, vI x2, vI x3, vN, vN] [] M G 0 0 := by
  refine q_iload_n 9 rfl (show sCode 240 8 = some (.iload_n 2, 1) by decide +kernel) rfl ?_
  refine q_i2l 10 rfl (show sCode 240 9 = some (.i2l, 1) by decide +kernel) ?_
  refine q_lconst 11 rfl (show sCode 240 10 = some (.lconst 0, 1) by decide +kernel) ?_
  refine q_ldc2_w 14 rfl (show sCode 240 11 = some (.ldc2_w 363, 3) by decide +kernel) (show sLR (sKo 240).1 363 = some 2 by decide +kernel) ⟨by decide, by decide⟩ ?_
  exact q_statI [vL x2, vL 0, vL 2] 17 rfl (show sCode 240 14 = some (.invokestatic 127, 3) by decide +kernel) (show sMR (sKo 240).1 127 = some 183 by decide +kernel) (show 183 < 1000 ∧ sStat 183 = true ∧ sKo 183 = (12, 3, 2, 0, 0) by decide +kernel) rfl rfl (Nat.le_of_ble_eq_true rfl) rfl rfl rfl (by decide +kernel) kk
theorem b240_17 {d : Nat} {Q : Option sV → sM → sG → Prop} {M : sM} {G : sG} {a0 : Nat} {x1 : Int} {x2 : Int} {x3 : Int} {s0 : Int}  (k1 : s0 = 0 → sW (sC d) 240 Q 30 [vN, vN, vN, vN, vN, vN] [] M G 0 0) (k2 : s0 ≠ 0 → sW (sC d) 240 Q 20 [vO 12 a0, vI x1, vI x2, vI x3, vN, vN] [] M G 0 0) : sW (sC d) 240 Q 17 [vO 12 a0, vI x1, vI x2, vI x3, vN, vN] [vI s0] M G 0 0 := by
  refine q_ifeq 30 20 rfl (by decide) (show sCode 240 17 = some (.ifCond .eq 13, 3) by decide +kernel) ?_ ?_
  · intro q; refine q_forget (L' := [vN, vI x1, vI x2, vI x3, vN, vN]) 0 rfl ?_; refine q_forget (L' := [vN, vN, vI x2, vI x3, vN, vN]) 1 rfl ?_; refine q_forget (L' := [vN, vN, vN, vI x3, vN, vN]) 2 rfl ?_; refine q_forget (L' := [vN, vN, vN, vN, vN, vN]) 3 rfl ?_; exact k1 q
  · intro q; exact k2 q
theorem b240_20 {d : Nat} {Q : Option sV → sM → sG → Prop} {M : sM} {G : sG} {a0 : Nat} {x1 : Int} {x2 : Int} {x3 : Int}  (kk : sC d 183 [vL x3, vL 0, vL 1] M G (QI (fun r M1 G1 => sW (sC d) 240 Q 27 [vO 12 a0, vI x1, vI x2, vI x3, vN, vN] (vI r :: []) M1 G1 0 0))) : sW (sC d) 240 Q 20 [vO 12 a0, vI x1, vI x2, vI x3, vN, vN] [] M G 0 0 := by
  refine q_iload_n 21 rfl (show sCode 240 20 = some (.iload_n 3, 1) by decide +kernel) rfl ?_
  refine q_i2l 22 rfl (show sCode 240 21 = some (.i2l, 1) by decide +kernel) ?_
  refine q_lconst 23 rfl (show sCode 240 22 = some (.lconst 0, 1) by decide +kernel) ?_
  refine q_lconst 24 rfl (show sCode 240 23 = some (.lconst 1, 1) by decide +kernel) ?_
  exact q_statI [vL x3, vL 0, vL 1] 27 rfl (show sCode 240 24 = some (.invokestatic 127, 3) by decide +kernel) (show sMR (sKo 240).1 127 = some 183 by decide +kernel) (show 183 < 1000 ∧ sStat 183 = true ∧ sKo 183 = (12, 3, 2, 0, 0) by decide +kernel) rfl rfl (Nat.le_of_ble_eq_true rfl) rfl rfl rfl (by decide +kernel) kk
theorem b240_27 {d : Nat} {Q : Option sV → sM → sG → Prop} {M : sM} {G : sG} {a0 : Nat} {x1 : Int} {x2 : Int} {x3 : Int} {s0 : Int}  (k1 : s0 ≠ 0 → sW (sC d) 240 Q 32 [vO 12 a0, vI x1, vI x2, vI x3, vN, vN] [] M G 0 0) (k2 : s0 = 0 → sW (sC d) 240 Q 30 [vN, vN, vN, vN, vN, vN] [] M G 0 0) : sW (sC d) 240 Q 27 [vO 12 a0, vI x1, vI x2, vI x3, vN, vN] [vI s0] M G 0 0 := by
  refine q_ifne 32 30 rfl (by decide) (show sCode 240 27 = some (.ifCond .ne 5, 3) by decide +kernel) ?_ ?_
  · intro q; exact k1 q
  · intro q; refine q_forget (L' := [vN, vI x1, vI x2, vI x3, vN, vN]) 0 rfl ?_; refine q_forget (L' := [vN, vN, vI x2, vI x3, vN, vN]) 1 rfl ?_; refine q_forget (L' := [vN, vN, vN, vI x3, vN, vN]) 2 rfl ?_; refine q_forget (L' := [vN, vN, vN, vN, vN, vN]) 3 rfl ?_; exact k2 q
theorem b240_30 {d : Nat} {P : Int → sM → sG → Prop} {M : sM} {G : sG}   (kk : P (-1) M G) : sW (sC d) 240 (QI P) 30 [vN, vN, vN, vN, vN, vN] [] M G 0 0 := by
  refine q_iconst 31 rfl (show sCode 240 30 = some (.iconst (-1), 1) by decide +kernel) ⟨by decide, by decide⟩ ?_
  exact q_iret (show sCode 240 31 = some (.ireturn, 1) by decide +kernel) (by decide +kernel) (by decide +kernel) kk
theorem b240_32 {d : Nat} {Q : Option sV → sM → sG → Prop} {M : sM} {G : sG} {a0 : Nat} {x1 : Int} {x2 : Int} {x3 : Int}  (kk : sC d 242 [vO 12 a0, vI x2] M G (QV (fun M1 G1 => sW (sC d) 240 Q 37 [vO 12 a0, vI x1, vN, vI x3, vN, vN] [] M1 G1 0 0))) : sW (sC d) 240 Q 32 [vO 12 a0, vI x1, vI x2, vI x3, vN, vN] [] M G 0 0 := by
  refine q_aload_n 33 rfl (show sCode 240 32 = some (.aload_n 0, 1) by decide +kernel) rfl (Nat.le_of_ble_eq_true rfl) ?_
  refine q_iload_n 34 rfl (show sCode 240 33 = some (.iload_n 2, 1) by decide +kernel) rfl ?_
  refine q_forget (L' := [vO 12 a0, vI x1, vN, vI x3, vN, vN]) 2 rfl ?_
  exact q_virtV [vI x2] 37 rfl (show sCode 240 34 = some (.invokevirtual 375, 3) by decide +kernel) (show sMR (sKo 240).1 375 = some 242 by decide +kernel) (show 242 < 1000 ∧ sStat 242 = false ∧ sIni 242 = false ∧ sKo 242 = (12, 1, 0, 0, 0) by decide +kernel) rfl (Or.inl rfl) rfl (Nat.le_of_ble_eq_true rfl) rfl rfl rfl (by decide +kernel) kk
theorem b240_37 {d : Nat} {Q : Option sV → sM → sG → Prop} {M : sM} {G : sG} {a0 : Nat} {x1 : Int} {x3 : Int}  (k1 : x3 ≠ 0 → sW (sC d) 240 Q 55 [vO 12 a0, vI x1, vN, vN, vN, vN] [] M G 0 0) (k2 : x3 = 0 → sW (sC d) 240 Q 41 [vO 12 a0, vI x1, vN, vN, vN, vN] [] M G 0 0) : sW (sC d) 240 Q 37 [vO 12 a0, vI x1, vN, vI x3, vN, vN] [] M G 0 0 := by
  refine q_iload_n 38 rfl (show sCode 240 37 = some (.iload_n 3, 1) by decide +kernel) rfl ?_
  refine q_ifne 55 41 rfl (by decide) (show sCode 240 38 = some (.ifCond .ne 17, 3) by decide +kernel) ?_ ?_
  · intro q; refine q_forget (L' := [vO 12 a0, vI x1, vN, vN, vN, vN]) 3 rfl ?_; exact k1 q
  · intro q; refine q_forget (L' := [vO 12 a0, vI x1, vN, vN, vN, vN]) 3 rfl ?_; exact k2 q
theorem b240_41 {d : Nat} {Q : Option sV → sM → sG → Prop} {M : sM} {G : sG} {a0 : Nat} {x1 : Int}  (kk : sC d 243 [vO 12 a0, vI x1] M G (QI (fun r M1 G1 => sW (sC d) 240 Q 46 [vN, vN, vN, vN, vN, vN] (vI r :: []) M1 G1 0 0))) : sW (sC d) 240 Q 41 [vO 12 a0, vI x1, vN, vN, vN, vN] [] M G 0 0 := by
  refine q_aload_n 42 rfl (show sCode 240 41 = some (.aload_n 0, 1) by decide +kernel) rfl (Nat.le_of_ble_eq_true rfl) ?_
  refine q_iload_n 43 rfl (show sCode 240 42 = some (.iload_n 1, 1) by decide +kernel) rfl ?_
  refine q_forget (L' := [vN, vI x1, vN, vN, vN, vN]) 0 rfl ?_
  refine q_forget (L' := [vN, vN, vN, vN, vN, vN]) 1 rfl ?_
  exact q_virtI [vI x1] 46 rfl (show sCode 240 43 = some (.invokevirtual 378, 3) by decide +kernel) (show sMR (sKo 240).1 378 = some 243 by decide +kernel) (show 243 < 1000 ∧ sStat 243 = false ∧ sIni 243 = false ∧ sKo 243 = (12, 1, 2, 0, 0) by decide +kernel) rfl (Or.inl rfl) rfl (Nat.le_of_ble_eq_true rfl) rfl rfl rfl (by decide +kernel) kk
theorem b240_46 {d : Nat} {Q : Option sV → sM → sG → Prop} {M : sM} {G : sG} {s0 : Int}  (k1 : s0 = 0 → sW (sC d) 240 Q 53 [vN, vN, vN, vN, vN, vN] [] M G 0 0) (k2 : s0 ≠ 0 → sW (sC d) 240 Q 49 [vN, vN, vN, vN, vN, vN] [] M G 0 0) : sW (sC d) 240 Q 46 [vN, vN, vN, vN, vN, vN] [vI s0] M G 0 0 := by
  refine q_ifeq 53 49 rfl (by decide) (show sCode 240 46 = some (.ifCond .eq 7, 3) by decide +kernel) ?_ ?_
  · intro q; exact k1 q
  · intro q; exact k2 q
theorem b240_49 {d : Nat} {Q : Option sV → sM → sG → Prop} {M : sM} {G : sG}   (kk : sW (sC d) 240 Q 54 [vN, vN, vN, vN, vN, vN] [vI 1] M G 0 0) : sW (sC d) 240 Q 49 [vN, vN, vN, vN, vN, vN] [] M G 0 0 := by
  refine q_iconst 50 rfl (show sCode 240 49 = some (.iconst 1, 1) by decide +kernel) ⟨by decide, by decide⟩ ?_
  refine q_goto 54 (by decide) (show sCode 240 50 = some (.goto 4, 3) by decide +kernel) ?_
  exact kk
theorem b240_53 {d : Nat} {Q : Option sV → sM → sG → Prop} {M : sM} {G : sG}   (kk : sW (sC d) 240 Q 54 [vN, vN, vN, vN, vN, vN] [vI 0] M G 0 0) : sW (sC d) 240 Q 53 [vN, vN, vN, vN, vN, vN] [] M G 0 0 := by
  refine q_iconst 54 rfl (show sCode 240 53 = some (.iconst 0, 1) by decide +kernel) ⟨by decide, by decide⟩ ?_
  exact kk
theorem b240_54 {d : Nat} {P : Int → sM → sG → Prop} {M : sM} {G : sG} {s0 : Int}  (kk : P s0 M G) : sW (sC d) 240 (QI P) 54 [vN, vN, vN, vN, vN, vN] [vI s0] M G 0 0 := by
  exact q_iret (show sCode 240 54 = some (.ireturn, 1) by decide +kernel) (by decide +kernel) (by decide +kernel) kk
theorem b240_55 {d : Nat} {Q : Option sV → sM → sG → Prop} {M : sM} {G : sG} {a0 : Nat} {x1 : Int}  (kk : sW (sC d) 240 Q 61 [vO 12 a0, vI x1, vN, vN, vI 0, vI 0] [] M G 0 0) : sW (sC d) 240 Q 55 [vO 12 a0, vI x1, vN, vN, vN, vN] [] M G 0 0 := by
  refine q_iconst 56 rfl (show sCode 240 55 = some (.iconst 0, 1) by decide +kernel) ⟨by decide, by decide⟩ ?_
  refine q_istore [vO 12 a0, vI x1, vN, vN, vI 0, vN] 58 rfl (show sCode 240 56 = some (.istore 4, 2) by decide +kernel) (Nat.lt_of_lt_of_le (Nat.lt_succ_self _) (Nat.le_of_ble_eq_true rfl)) rfl rfl ?_
  refine q_iconst 59 rfl (show sCode 240 58 = some (.iconst 0, 1) by decide +kernel) ⟨by decide, by decide⟩ ?_
  refine q_istore [vO 12 a0, vI x1, vN, vN, vI 0, vI 0] 61 rfl (show sCode 240 59 = some (.istore 5, 2) by decide +kernel) (Nat.lt_of_lt_of_le (Nat.lt_succ_self _) (Nat.le_of_ble_eq_true rfl)) rfl rfl ?_
  exact kk
theorem b240_61 {d : Nat} {Q : Option sV → sM → sG → Prop} {M : sM} {G : sG} {a0 : Nat} {x1 : Int} {x4 : Int} {x5 : Int}  (k1 : M (a0 + 11) 1 ≤ x5 → sW (sC d) 240 Q 108 [vN, vN, vN, vN, vI x4, vN] [] M G 0 0) (k2 : x5 < M (a0 + 11) 1 → sW (sC d) 240 Q 72 [vO 12 a0, vI x1, vN, vN, vI x4, vI x5] [] M G 0 0) : sW (sC d) 240 Q 61 [vO 12 a0, vI x1, vN, vN, vI x4, vI x5] [] M G 0 0 := by
  refine q_iload 63 rfl (show sCode 240 61 = some (.iload 5, 2) by decide +kernel) rfl ?_
  refine q_aload_n 64 rfl (show sCode 240 63 = some (.aload_n 0, 1) by decide +kernel) rfl (Nat.le_of_ble_eq_true rfl) ?_
  refine q_getR (vA 0 (a0 + 11) 274) 67 rfl (show sCode 240 64 = some (.getfield 42, 3) by decide +kernel) (show sFR (sKo 240).1 42 = some (12, 23) by decide +kernel) (by decide +kernel) (Or.inl (Or.inl rfl)) rfl ?_
  refine q_iconst 68 rfl (show sCode 240 67 = some (.iconst 1, 1) by decide +kernel) ⟨by decide, by decide⟩ ?_
  refine q_iald 69 rfl (show sCode 240 68 = some (.iaload, 1) by decide +kernel) ⟨by decide, by decide⟩ ?_
  refine q_icmpge 108 72 rfl (by decide) (show sCode 240 69 = some (.if_icmp .ge 39, 3) by decide +kernel) ?_ ?_
  · intro q; refine q_forget (L' := [vN, vI x1, vN, vN, vI x4, vI x5]) 0 rfl ?_; refine q_forget (L' := [vN, vN, vN, vN, vI x4, vI x5]) 1 rfl ?_; refine q_forget (L' := [vN, vN, vN, vN, vI x4, vN]) 5 rfl ?_; exact k1 q
  · intro q; exact k2 q
theorem b240_72 {d : Nat} {Q : Option sV → sM → sG → Prop} {M : sM} {G : sG} {a0 : Nat} {x1 : Int} {x4 : Int} {x5 : Int}  (kk : sC d 244 [vI x1, vI x5] M G (QI (fun r M1 G1 => sW (sC d) 240 Q 80 [vO 12 a0, vI x1, vN, vN, vN, vI x5] (vI r :: [vI x4]) M1 G1 0 0))) : sW (sC d) 240 Q 72 [vO 12 a0, vI x1, vN, vN, vI x4, vI x5] [] M G 0 0 := by
  refine q_iload 74 rfl (show sCode 240 72 = some (.iload 4, 2) by decide +kernel) rfl ?_
  refine q_iload_n 75 rfl (show sCode 240 74 = some (.iload_n 1, 1) by decide +kernel) rfl ?_
  refine q_iload 77 rfl (show sCode 240 75 = some (.iload 5, 2) by decide +kernel) rfl ?_
  refine q_forget (L' := [vO 12 a0, vI x1, vN, vN, vN, vI x5]) 4 rfl ?_
  exact q_statI [vI x1, vI x5] 80 rfl (show sCode 240 77 = some (.invokestatic 369, 3) by decide +kernel) (show sMR (sKo 240).1 369 = some 244 by decide +kernel) (show 244 < 1000 ∧ sStat 244 = true ∧ sKo 244 = (12, 2, 2, 0, 0) by decide +kernel) rfl rfl (Nat.le_of_ble_eq_true rfl) rfl rfl rfl (by decide +kernel) kk
theorem b240_80 {d : Nat} {Q : Option sV → sM → sG → Prop} {M : sM} {G : sG} {a0 : Nat} {x1 : Int} {x5 : Int} {s0 : Int} {s1 : Int}  (k1 : s0 = 0 → sW (sC d) 240 Q 98 [vO 12 a0, vI x1, vN, vN, vN, vI x5] [vI s1] M G 0 0) (k2 : s0 ≠ 0 → sW (sC d) 240 Q 83 [vO 12 a0, vI x1, vN, vN, vN, vI x5] [vI s1] M G 0 0) : sW (sC d) 240 Q 80 [vO 12 a0, vI x1, vN, vN, vN, vI x5] [vI s0, vI s1] M G 0 0 := by
  refine q_ifeq 98 83 rfl (by decide) (show sCode 240 80 = some (.ifCond .eq 18, 3) by decide +kernel) ?_ ?_
  · intro q; exact k1 q
  · intro q; exact k2 q
theorem b240_83 {d : Nat} {Q : Option sV → sM → sG → Prop} {M : sM} {G : sG} {a0 : Nat} {x1 : Int} {x5 : Int} {s0 : Int} (h1 : 0 ≤ x5 ∧ x5 < 18) (kk : sC d 245 [vI (iAnd (M (a0 + 13) x5.toNat) x1)] M G (QI (fun r M1 G1 => sW (sC d) 240 Q 95 [vO 12 a0, vI x1, vN, vN, vN, vI x5] (vI r :: [vI s0]) M1 G1 0 0))) : sW (sC d) 240 Q 83 [vO 12 a0, vI x1, vN, vN, vN, vI x5] [vI s0] M G 0 0 := by
  refine q_aload_n 84 rfl (show sCode 240 83 = some (.aload_n 0, 1) by decide +kernel) rfl (Nat.le_of_ble_eq_true rfl) ?_
  refine q_getR (vA 0 (a0 + 13) 18) 87 rfl (show sCode 240 84 = some (.getfield 48, 3) by decide +kernel) (show sFR (sKo 240).1 48 = some (12, 25) by decide +kernel) (by decide +kernel) (Or.inl (Or.inl rfl)) rfl ?_
  refine q_iload 89 rfl (show sCode 240 87 = some (.iload 5, 2) by decide +kernel) rfl ?_
  refine q_iald 90 rfl (show sCode 240 89 = some (.iaload, 1) by decide +kernel) h1 ?_
  refine q_iload_n 91 rfl (show sCode 240 90 = some (.iload_n 1, 1) by decide +kernel) rfl ?_
  refine q_iand 92 rfl (show sCode 240 91 = some (.iand, 1) by decide +kernel) ?_
  exact q_statI [vI (iAnd (M (a0 + 13) x5.toNat) x1)] 95 rfl (show sCode 240 92 = some (.invokestatic 381, 3) by decide +kernel) (show sMR (sKo 240).1 381 = some 245 by decide +kernel) (show 245 < 1000 ∧ sStat 245 = true ∧ sKo 245 = (12, 1, 1, 0, 0) by decide +kernel) rfl rfl (Nat.le_of_ble_eq_true rfl) rfl rfl rfl (by decide +kernel) kk
theorem b240_95 {d : Nat} {Q : Option sV → sM → sG → Prop} {M : sM} {G : sG} {a0 : Nat} {x1 : Int} {x5 : Int} {s0 : Int} {s1 : Int}  (kk : sW (sC d) 240 Q 99 [vO 12 a0, vI x1, vN, vN, vN, vI x5] [vI s0, vI s1] M G 0 0) : sW (sC d) 240 Q 95 [vO 12 a0, vI x1, vN, vN, vN, vI x5] [vI s0, vI s1] M G 0 0 := by
  refine q_goto 99 (by decide) (show sCode 240 95 = some (.goto 4, 3) by decide +kernel) ?_
  exact kk
theorem b240_98 {d : Nat} {Q : Option sV → sM → sG → Prop} {M : sM} {G : sG} {a0 : Nat} {x1 : Int} {x5 : Int} {s0 : Int}  (kk : sW (sC d) 240 Q 99 [vO 12 a0, vI x1, vN, vN, vN, vI x5] [vI 0, vI s0] M G 0 0) : sW (sC d) 240 Q 98 [vO 12 a0, vI x1, vN, vN, vN, vI x5] [vI s0] M G 0 0 := by
  refine q_iconst 99 rfl (show sCode 240 98 = some (.iconst 0, 1) by decide +kernel) ⟨by decide, by decide⟩ ?_
  exact kk
theorem b240_99 {d : Nat} {Q : Option sV → sM → sG → Prop} {M : sM} {G : sG} {a0 : Nat} {x1 : Int} {x5 : Int} {s0 : Int} {s1 : Int} (h1 : sI (s1 + s0)) (h2 : sI (x5 + 1)) (kk : sW (sC d) 240 Q 61 [vO 12 a0, vI x1, vN, vN, vI (s1 + s0), vI (x5 + 1)] [] M G 0 0) : sW (sC d) 240 Q 99 [vO 12 a0, vI x1, vN, vN, vN, vI x5] [vI s0, vI s1] M G 0 0 := by
  refine q_iadd 100 rfl (show sCode 240 99 = some (.iadd, 1) by decide +kernel) h1 ?_
  refine q_istore [vO 12 a0, vI x1, vN, vN, vI (s1 + s0), vI x5] 102 rfl (show sCode 240 100 = some (.istore 4, 2) by decide +kernel) (Nat.lt_of_lt_of_le (Nat.lt_succ_self _) (Nat.le_of_ble_eq_true rfl)) rfl rfl ?_
  refine q_iinc [vO 12 a0, vI x1, vN, vN, vI (s1 + s0), vI (x5 + 1)] 105 rfl (show sCode 240 102 = some (.iinc 5 1, 3) by decide +kernel) rfl rfl h2 rfl ?_
  refine q_goto 61 (by decide) (show sCode 240 105 = some (.goto (-44), 3) by decide +kernel) ?_
  exact kk
theorem b240_108 {d : Nat} {P : Int → sM → sG → Prop} {M : sM} {G : sG} {x4 : Int}  (kk : P (iDiv x4 2) M G) : sW (sC d) 240 (QI P) 108 [vN, vN, vN, vN, vI x4, vN] [] M G 0 0 := by
  refine q_iload 110 rfl (show sCode 240 108 = some (.iload 4, 2) by decide +kernel) rfl ?_
  refine q_iconst 111 rfl (show sCode 240 110 = some (.iconst 2, 1) by decide +kernel) ⟨by decide, by decide⟩ ?_
  refine q_idiv 112 rfl (show sCode 240 111 = some (.idiv, 1) by decide +kernel) (by decide) ?_
  exact q_iret (show sCode 240 112 = some (.ireturn, 1) by decide +kernel) (by decide +kernel) (by decide +kernel) kk
-- 241 AfterTheLastModel.isSet (I)Z
theorem b241_0 {d : Nat} {Q : Option sV → sM → sG → Prop} {M : sM} {G : sG} {a0 : Nat} {x1 : Int}  (k1 : x1 < 0 → sW (sC d) 241 Q 20 [vN, vN] [] M G 0 0) (k2 : 0 ≤ x1 → sW (sC d) 241 Q 4 [vO 12 a0, vI x1] [] M G 0 0) : sW (sC d) 241 Q 0 [vO 12 a0, vI x1] [] M G 0 0 := by
  refine q_iload_n 1 rfl (show sCode 241 0 = some (.iload_n 1, 1) by decide +kernel) rfl ?_
  refine q_iflt 20 4 rfl (by decide) (show sCode 241 1 = some (.ifCond .lt 19, 3) by decide +kernel) ?_ ?_
  · intro q; refine q_forget (L' := [vN, vI x1]) 0 rfl ?_; refine q_forget (L' := [vN, vN]) 1 rfl ?_; exact k1 q
  · intro q; exact k2 q
theorem b241_4 {d : Nat} {Q : Option sV → sM → sG → Prop} {M : sM} {G : sG} {a0 : Nat} {x1 : Int}  (k1 : iShl 1 (M (a0 + 11) 1) ≤ x1 → sW (sC d) 241 Q 20 [vN, vN] [] M G 0 0) (k2 : x1 < iShl 1 (M (a0 + 11) 1) → sW (sC d) 241 Q 16 [vN, vN] [] M G 0 0) : sW (sC d) 241 Q 4 [vO 12 a0, vI x1] [] M G 0 0 := by
  refine q_iload_n 5 rfl (show sCode 241 4 = some (.iload_n 1, 1) by decide +kernel) rfl ?_
  refine q_iconst 6 rfl (show sCode 241 5 = some (.iconst 1, 1) by decide +kernel) ⟨by decide, by decide⟩ ?_
  refine q_aload_n 7 rfl (show sCode 241 6 = some (.aload_n 0, 1) by decide +kernel) rfl (Nat.le_of_ble_eq_true rfl) ?_
  refine q_getR (vA 0 (a0 + 11) 274) 10 rfl (show sCode 241 7 = some (.getfield 42, 3) by decide +kernel) (show sFR (sKo 241).1 42 = some (12, 23) by decide +kernel) (by decide +kernel) (Or.inl (Or.inl rfl)) rfl ?_
  refine q_iconst 11 rfl (show sCode 241 10 = some (.iconst 1, 1) by decide +kernel) ⟨by decide, by decide⟩ ?_
  refine q_iald 12 rfl (show sCode 241 11 = some (.iaload, 1) by decide +kernel) ⟨by decide, by decide⟩ ?_
  refine q_ishl 13 rfl (show sCode 241 12 = some (.ishl, 1) by decide +kernel) ?_
  refine q_icmpge 20 16 rfl (by decide) (show sCode 241 13 = some (.if_icmp .ge 7, 3) by decide +kernel) ?_ ?_
  · intro q; refine q_forget (L' := [vN, vI x1]) 0 rfl ?_; refine q_forget (L' := [vN, vN]) 1 rfl ?_; exact k1 q
  · intro q; refine q_forget (L' := [vN, vI x1]) 0 rfl ?_; refine q_forget (L' := [vN, vN]) 1 rfl ?_; exact k2 q
theorem b241_16 {d : Nat} {Q : Option sV → sM → sG → Prop} {M : sM} {G : sG}   (kk : sW (sC d) 241 Q 21 [vN, vN] [vI 1] M G 0 0) : sW (sC d) 241 Q 16 [vN, vN] [] M G 0 0 := by
  refine q_iconst 17 rfl (show sCode 241 16 = some (.iconst 1, 1) by decide +kernel) ⟨by decide, by decide⟩ ?_
  refine q_goto 21 (by decide) (show sCode 241 17 = some (.goto 4, 3) by decide +kernel) ?_
  exact kk
theorem b241_20 {d : Nat} {Q : Option sV → sM → sG → Prop} {M : sM} {G : sG}   (kk : sW (sC d) 241 Q 21 [vN, vN] [vI 0] M G 0 0) : sW (sC d) 241 Q 20 [vN, vN] [] M G 0 0 := by
  refine q_iconst 21 rfl (show sCode 241 20 = some (.iconst 0, 1) by decide +kernel) ⟨by decide, by decide⟩ ?_
  exact kk
theorem b241_21 {d : Nat} {P : Int → sM → sG → Prop} {M : sM} {G : sG} {s0 : Int}  (h01 : s0 = 0 ∨ s0 = 1) (kk : P s0 M G) : sW (sC d) 241 (QI P) 21 [vN, vN] [vI s0] M G 0 0 := by
  exact q_zret (show sCode 241 21 = some (.ireturn, 1) by decide +kernel) (by decide +kernel) h01 (by decide +kernel) kk
-- 242 AfterTheLastModel.crosses (I)V
theorem b242_0 {d : Nat} {Q : Option sV → sM → sG → Prop} {M : sM} {G : sG} {a0 : Nat} {x1 : Int}  (kk : sW (sC d) 242 Q 2 [vO 12 a0, vI x1, vI 0, vN] [] M G 0 0) : sW (sC d) 242 Q 0 [vO 12 a0, vI x1, vN, vN] [] M G 0 0 := by
  refine q_iconst 1 rfl (show sCode 242 0 = some (.iconst 0, 1) by decide +kernel) ⟨by decide, by decide⟩ ?_
  refine q_istore_n [vO 12 a0, vI x1, vI 0, vN] 2 rfl (show sCode 242 1 = some (.istore_n 2, 1) by decide +kernel) (Nat.lt_of_lt_of_le (Nat.lt_succ_self _) (Nat.le_of_ble_eq_true rfl)) rfl rfl ?_
  exact kk
theorem b242_2 {d : Nat} {Q : Option sV → sM → sG → Prop} {M : sM} {G : sG} {a0 : Nat} {x1 : Int} {x2 : Int}  (k1 : M (a0 + 11) 1 ≤ x2 → sW (sC d) 242 Q 74 [vN, vN, vN, vN] [] M G 0 0) (k2 : x2 < M (a0 + 11) 1 → sW (sC d) 242 Q 12 [vO 12 a0, vI x1, vI x2, vN] [] M G 0 0) : sW (sC d) 242 Q 2 [vO 12 a0, vI x1, vI x2, vN] [] M G 0 0 := by
  refine q_iload_n 3 rfl (show sCode 242 2 = some (.iload_n 2, 1) by decide +kernel) rfl ?_
  refine q_aload_n 4 rfl (show sCode 242 3 = some (.aload_n 0, 1) by decide +kernel) rfl (Nat.le_of_ble_eq_true rfl) ?_
  refine q_getR (vA 0 (a0 + 11) 274) 7 rfl (show sCode 242 4 = some (.getfield 42, 3) by decide +kernel) (show sFR (sKo 242).1 42 = some (12, 23) by decide +kernel) (by decide +kernel) (Or.inl (Or.inl rfl)) rfl ?_
  refine q_iconst 8 rfl (show sCode 242 7 = some (.iconst 1, 1) by decide +kernel) ⟨by decide, by decide⟩ ?_
  refine q_iald 9 rfl (show sCode 242 8 = some (.iaload, 1) by decide +kernel) ⟨by decide, by decide⟩ ?_
  refine q_icmpge 74 12 rfl (by decide) (show sCode 242 9 = some (.if_icmp .ge 65, 3) by decide +kernel) ?_ ?_
  · intro q; refine q_forget (L' := [vN, vI x1, vI x2, vN]) 0 rfl ?_; refine q_forget (L' := [vN, vN, vI x2, vN]) 1 rfl ?_; refine q_forget (L' := [vN, vN, vN, vN]) 2 rfl ?_; exact k1 q
  · intro q; exact k2 q
theorem b242_12 {d : Nat} {Q : Option sV → sM → sG → Prop} {M : sM} {G : sG} {a0 : Nat} {x1 : Int} {x2 : Int} (h1 : 0 ≤ x2 ∧ x2 < 18) (kk : sW (sC d) 242 Q 21 [vO 12 a0, vI x1, vI x2, vI 0] [] (sUpd M (a0 + 13) x2.toNat 0) G 0 0) : sW (sC d) 242 Q 12 [vO 12 a0, vI x1, vI x2, vN] [] M G 0 0 := by
  refine q_aload_n 13 rfl (show sCode 242 12 = some (.aload_n 0, 1) by decide +kernel) rfl (Nat.le_of_ble_eq_true rfl) ?_
  refine q_getR (vA 0 (a0 + 13) 18) 16 rfl (show sCode 242 13 = some (.getfield 48, 3) by decide +kernel) (show sFR (sKo 242).1 48 = some (12, 25) by decide +kernel) (by decide +kernel) (Or.inl (Or.inl rfl)) rfl ?_
  refine q_iload_n 17 rfl (show sCode 242 16 = some (.iload_n 2, 1) by decide +kernel) rfl ?_
  refine q_iconst 18 rfl (show sCode 242 17 = some (.iconst 0, 1) by decide +kernel) ⟨by decide, by decide⟩ ?_
  refine q_iast 19 rfl (show sCode 242 18 = some (.iastore, 1) by decide +kernel) h1 ?_
  refine q_iconst 20 rfl (show sCode 242 19 = some (.iconst 0, 1) by decide +kernel) ⟨by decide, by decide⟩ ?_
  refine q_istore_n [vO 12 a0, vI x1, vI x2, vI 0] 21 rfl (show sCode 242 20 = some (.istore_n 3, 1) by decide +kernel) (Nat.lt_of_lt_of_le (Nat.lt_succ_self _) (Nat.le_of_ble_eq_true rfl)) rfl rfl ?_
  exact kk
theorem b242_21 {d : Nat} {Q : Option sV → sM → sG → Prop} {M : sM} {G : sG} {a0 : Nat} {x1 : Int} {x2 : Int} {x3 : Int}  (k1 : M (a0 + 11) 1 ≤ x3 → sW (sC d) 242 Q 68 [vO 12 a0, vI x1, vI x2, vN] [] M G 0 0) (k2 : x3 < M (a0 + 11) 1 → sW (sC d) 242 Q 31 [vO 12 a0, vI x1, vI x2, vI x3] [] M G 0 0) : sW (sC d) 242 Q 21 [vO 12 a0, vI x1, vI x2, vI x3] [] M G 0 0 := by
  refine q_iload_n 22 rfl (show sCode 242 21 = some (.iload_n 3, 1) by decide +kernel) rfl ?_
  refine q_aload_n 23 rfl (show sCode 242 22 = some (.aload_n 0, 1) by decide +kernel) rfl (Nat.le_of_ble_eq_true rfl) ?_
  refine q_getR (vA 0 (a0 + 11) 274) 26 rfl (show sCode 242 23 = some (.getfield 42, 3) by decide +kernel) (show sFR (sKo 242).1 42 = some (12, 23) by decide +kernel) (by decide +kernel) (Or.inl (Or.inl rfl)) rfl ?_
  refine q_iconst 27 rfl (show sCode 242 26 = some (.iconst 1, 1) by decide +kernel) ⟨by decide, by decide⟩ ?_
  refine q_iald 28 rfl (show sCode 242 27 = some (.iaload, 1) by decide +kernel) ⟨by decide, by decide⟩ ?_
  refine q_icmpge 68 31 rfl (by decide) (show sCode 242 28 = some (.if_icmp .ge 40, 3) by decide +kernel) ?_ ?_
  · intro q; refine q_forget (L' := [vO 12 a0, vI x1, vI x2, vN]) 3 rfl ?_; exact k1 q
  · intro q; exact k2 q
theorem b242_31 {d : Nat} {Q : Option sV → sM → sG → Prop} {M : sM} {G : sG} {a0 : Nat} {x1 : Int} {x2 : Int} {x3 : Int} (h1 : 0 ≤ x2 ∧ x2 < 18) (k1 : x2 = x3 → sW (sC d) 242 Q 59 [vO 12 a0, vI x1, vI x2, vI x3] [vI (M (a0 + 13) x2.toNat), vI x2, vA 0 (a0 + 13) 18] M G 0 0) (k2 : x2 ≠ x3 → sW (sC d) 242 Q 43 [vO 12 a0, vI x1, vI x2, vI x3] [vI (M (a0 + 13) x2.toNat), vI x2, vA 0 (a0 + 13) 18] M G 0 0) : sW (sC d) 242 Q 31 [vO 12 a0, vI x1, vI x2, vI x3] [] M G 0 0 := by
  refine q_aload_n 32 rfl (show sCode 242 31 = some (.aload_n 0, 1) by decide +kernel) rfl (Nat.le_of_ble_eq_true rfl) ?_
  refine q_getR (vA 0 (a0 + 13) 18) 35 rfl (show sCode 242 32 = some (.getfield 48, 3) by decide +kernel) (show sFR (sKo 242).1 48 = some (12, 25) by decide +kernel) (by decide +kernel) (Or.inl (Or.inl rfl)) rfl ?_
  refine q_iload_n 36 rfl (show sCode 242 35 = some (.iload_n 2, 1) by decide +kernel) rfl ?_
  refine q_dup2 37 rfl (show sCode 242 36 = some (.dup2, 1) by decide +kernel) rfl rfl ?_
  refine q_iald 38 rfl (show sCode 242 37 = some (.iaload, 1) by decide +kernel) h1 ?_
  refine q_iload_n 39 rfl (show sCode 242 38 = some (.iload_n 2, 1) by decide +kernel) rfl ?_
  refine q_iload_n 40 rfl (show sCode 242 39 = some (.iload_n 3, 1) by decide +kernel) rfl ?_
  refine q_icmpeq 59 43 rfl (by decide) (show sCode 242 40 = some (.if_icmp .eq 19, 3) by decide +kernel) ?_ ?_
  · intro q; exact k1 q
  · intro q; exact k2 q
theorem b242_43 {d : Nat} {Q : Option sV → sM → sG → Prop} {M : sM} {G : sG} {a0 : Nat} {x1 : Int} {x2 : Int} {x3 : Int} {s0 : Int} {s1 : Int} {sa2 : Nat}  (kk : sC d 238 [vO 12 a0, vI x2, vI x3, vI x1] M G (QI (fun r M1 G1 => sW (sC d) 242 Q 50 [vO 12 a0, vI x1, vI x2, vI x3] (vI r :: [vI s0, vI s1, vA 0 sa2 18]) M1 G1 0 0))) : sW (sC d) 242 Q 43 [vO 12 a0, vI x1, vI x2, vI x3] [vI s0, vI s1, vA 0 sa2 18] M G 0 0 := by
  refine q_aload_n 44 rfl (show sCode 242 43 = some (.aload_n 0, 1) by decide +kernel) rfl (Nat.le_of_ble_eq_true rfl) ?_
  refine q_iload_n 45 rfl (show sCode 242 44 = some (.iload_n 2, 1) by decide +kernel) rfl ?_
  refine q_iload_n 46 rfl (show sCode 242 45 = some (.iload_n 3, 1) by decide +kernel) rfl ?_
  refine q_iload_n 47 rfl (show sCode 242 46 = some (.iload_n 1, 1) by decide +kernel) rfl ?_
  exact q_virtI [vI x2, vI x3, vI x1] 50 rfl (show sCode 242 47 = some (.invokevirtual 365, 3) by decide +kernel) (show sMR (sKo 242).1 365 = some 238 by decide +kernel) (show 238 < 1000 ∧ sStat 238 = false ∧ sIni 238 = false ∧ sKo 238 = (12, 3, 2, 0, 0) by decide +kernel) rfl (Or.inl rfl) rfl (Nat.le_of_ble_eq_true rfl) rfl rfl rfl (by decide +kernel) kk
theorem b242_50 {d : Nat} {Q : Option sV → sM → sG → Prop} {M : sM} {G : sG} {a0 : Nat} {x1 : Int} {x2 : Int} {x3 : Int} {s0 : Int} {s1 : Int} {s2 : Int} {sa3 : Nat}  (k1 : s0 = 0 → sW (sC d) 242 Q 59 [vO 12 a0, vI x1, vI x2, vI x3] [vI s1, vI s2, vA 0 sa3 18] M G 0 0) (k2 : s0 ≠ 0 → sW (sC d) 242 Q 53 [vO 12 a0, vI x1, vI x2, vI x3] [vI s1, vI s2, vA 0 sa3 18] M G 0 0) : sW (sC d) 242 Q 50 [vO 12 a0, vI x1, vI x2, vI x3] [vI s0, vI s1, vI s2, vA 0 sa3 18] M G 0 0 := by
  refine q_ifeq 59 53 rfl (by decide) (show sCode 242 50 = some (.ifCond .eq 9, 3) by decide +kernel) ?_ ?_
  · intro q; exact k1 q
  · intro q; exact k2 q
theorem b242_53 {d : Nat} {Q : Option sV → sM → sG → Prop} {M : sM} {G : sG} {a0 : Nat} {x1 : Int} {x2 : Int} {x3 : Int} {s0 : Int} {s1 : Int} {sa2 : Nat}  (kk : sW (sC d) 242 Q 60 [vO 12 a0, vI x1, vI x2, vI x3] [vI (iShl 1 x3), vI s0, vI s1, vA 0 sa2 18] M G 0 0) : sW (sC d) 242 Q 53 [vO 12 a0, vI x1, vI x2, vI x3] [vI s0, vI s1, vA 0 sa2 18] M G 0 0 := by
  refine q_iconst 54 rfl (show sCode 242 53 = some (.iconst 1, 1) by decide +kernel) ⟨by decide, by decide⟩ ?_
  refine q_iload_n 55 rfl (show sCode 242 54 = some (.iload_n 3, 1) by decide +kernel) rfl ?_
  refine q_ishl 56 rfl (show sCode 242 55 = some (.ishl, 1) by decide +kernel) ?_
  refine q_goto 60 (by decide) (show sCode 242 56 = some (.goto 4, 3) by decide +kernel) ?_
  exact kk
theorem b242_59 {d : Nat} {Q : Option sV → sM → sG → Prop} {M : sM} {G : sG} {a0 : Nat} {x1 : Int} {x2 : Int} {x3 : Int} {s0 : Int} {s1 : Int} {sa2 : Nat}  (kk : sW (sC d) 242 Q 60 [vO 12 a0, vI x1, vI x2, vI x3] [vI 0, vI s0, vI s1, vA 0 sa2 18] M G 0 0) : sW (sC d) 242 Q 59 [vO 12 a0, vI x1, vI x2, vI x3] [vI s0, vI s1, vA 0 sa2 18] M G 0 0 := by
  refine q_iconst 60 rfl (show sCode 242 59 = some (.iconst 0, 1) by decide +kernel) ⟨by decide, by decide⟩ ?_
  exact kk
theorem b242_60 {d : Nat} {Q : Option sV → sM → sG → Prop} {M : sM} {G : sG} {a0 : Nat} {x1 : Int} {x2 : Int} {x3 : Int} {s0 : Int} {s1 : Int} {s2 : Int} {sa3 : Nat} (h1 : 0 ≤ s2 ∧ s2 < 18) (h2 : sI (x3 + 1)) (kk : sW (sC d) 242 Q 21 [vO 12 a0, vI x1, vI x2, vI (x3 + 1)] [] (sUpd M sa3 s2.toNat (iOr s1 s0)) G 0 0) : sW (sC d) 242 Q 60 [vO 12 a0, vI x1, vI x2, vI x3] [vI s0, vI s1, vI s2, vA 0 sa3 18] M G 0 0 := by
  refine q_ior 61 rfl (show sCode 242 60 = some (.ior, 1) by decide +kernel) ?_
  refine q_iast 62 rfl (show sCode 242 61 = some (.iastore, 1) by decide +kernel) h1 ?_
  refine q_iinc [vO 12 a0, vI x1, vI x2, vI (x3 + 1)] 65 rfl (show sCode 242 62 = some (.iinc 3 1, 3) by decide +kernel) rfl rfl h2 rfl ?_
  refine q_goto 21 (by decide) (show sCode 242 65 = some (.goto (-44), 3) by decide +kernel) ?_
  exact kk
theorem b242_68 {d : Nat} {Q : Option sV → sM → sG → Prop} {M : sM} {G : sG} {a0 : Nat} {x1 : Int} {x2 : Int} (h1 : sI (x2 + 1)) (kk : sW (sC d) 242 Q 2 [vO 12 a0, vI x1, vI (x2 + 1), vN] [] M G 0 0) : sW (sC d) 242 Q 68 [vO 12 a0, vI x1, vI x2, vN] [] M G 0 0 := by
  refine q_iinc [vO 12 a0, vI x1, vI (x2 + 1), vN] 71 rfl (show sCode 242 68 = some (.iinc 2 1, 3) by decide +kernel) rfl rfl h1 rfl ?_
  refine q_goto 2 (by decide) (show sCode 242 71 = some (.goto (-69), 3) by decide +kernel) ?_
  exact kk
theorem b242_74 {d : Nat} {P : sM → sG → Prop} {M : sM} {G : sG}   (kk : P M G) : sW (sC d) 242 (QV P) 74 [vN, vN, vN, vN] [] M G 0 0 := by
  exact q_vret (show sCode 242 74 = some (.return_, 1) by decide +kernel) (by decide +kernel) (by decide +kernel) kk
-- 243 AfterTheLastModel.hasNone (I)Z
theorem b243_0 {d : Nat} {Q : Option sV → sM → sG → Prop} {M : sM} {G : sG} {a0 : Nat} {x1 : Int}  (kk : sW (sC d) 243 Q 2 [vO 12 a0, vI x1, vI 0] [] M G 0 0) : sW (sC d) 243 Q 0 [vO 12 a0, vI x1, vN] [] M G 0 0 := by
  refine q_iconst 1 rfl (show sCode 243 0 = some (.iconst 0, 1) by decide +kernel) ⟨by decide, by decide⟩ ?_
  refine q_istore_n [vO 12 a0, vI x1, vI 0] 2 rfl (show sCode 243 1 = some (.istore_n 2, 1) by decide +kernel) (Nat.lt_of_lt_of_le (Nat.lt_succ_self _) (Nat.le_of_ble_eq_true rfl)) rfl rfl ?_
  exact kk
theorem b243_2 {d : Nat} {Q : Option sV → sM → sG → Prop} {M : sM} {G : sG} {a0 : Nat} {x1 : Int} {x2 : Int}  (k1 : M (a0 + 11) 1 ≤ x2 → sW (sC d) 243 Q 39 [vN, vN, vN] [] M G 0 0) (k2 : x2 < M (a0 + 11) 1 → sW (sC d) 243 Q 12 [vO 12 a0, vI x1, vI x2] [] M G 0 0) : sW (sC d) 243 Q 2 [vO 12 a0, vI x1, vI x2] [] M G 0 0 := by
  refine q_iload_n 3 rfl (show sCode 243 2 = some (.iload_n 2, 1) by decide +kernel) rfl ?_
  refine q_aload_n 4 rfl (show sCode 243 3 = some (.aload_n 0, 1) by decide +kernel) rfl (Nat.le_of_ble_eq_true rfl) ?_
  refine q_getR (vA 0 (a0 + 11) 274) 7 rfl (show sCode 243 4 = some (.getfield 42, 3) by decide +kernel) (show sFR (sKo 243).1 42 = some (12, 23) by decide +kernel) (by decide +kernel) (Or.inl (Or.inl rfl)) rfl ?_
  refine q_iconst 8 rfl (show sCode 243 7 = some (.iconst 1, 1) by decide +kernel) ⟨by decide, by decide⟩ ?_
  refine q_iald 9 rfl (show sCode 243 8 = some (.iaload, 1) by decide +kernel) ⟨by decide, by decide⟩ ?_
  refine q_icmpge 39 12 rfl (by decide) (show sCode 243 9 = some (.if_icmp .ge 30, 3) by decide +kernel) ?_ ?_
  · intro q; refine q_forget (L' := [vN, vI x1, vI x2]) 0 rfl ?_; refine q_forget (L' := [vN, vN, vI x2]) 1 rfl ?_; refine q_forget (L' := [vN, vN, vN]) 2 rfl ?_; exact k1 q
  · intro q; exact k2 q
theorem b243_12 {d : Nat} {Q : Option sV → sM → sG → Prop} {M : sM} {G : sG} {a0 : Nat} {x1 : Int} {x2 : Int}  (kk : sC d 244 [vI x1, vI x2] M G (QI (fun r M1 G1 => sW (sC d) 243 Q 17 [vO 12 a0, vI x1, vI x2] (vI r :: []) M1 G1 0 0))) : sW (sC d) 243 Q 12 [vO 12 a0, vI x1, vI x2] [] M G 0 0 := by
  refine q_iload_n 13 rfl (show sCode 243 12 = some (.iload_n 1, 1) by decide +kernel) rfl ?_
  refine q_iload_n 14 rfl (show sCode 243 13 = some (.iload_n 2, 1) by decide +kernel) rfl ?_
  exact q_statI [vI x1, vI x2] 17 rfl (show sCode 243 14 = some (.invokestatic 369, 3) by decide +kernel) (show sMR (sKo 243).1 369 = some 244 by decide +kernel) (show 244 < 1000 ∧ sStat 244 = true ∧ sKo 244 = (12, 2, 2, 0, 0) by decide +kernel) rfl rfl (Nat.le_of_ble_eq_true rfl) rfl rfl rfl (by decide +kernel) kk
theorem b243_17 {d : Nat} {Q : Option sV → sM → sG → Prop} {M : sM} {G : sG} {a0 : Nat} {x1 : Int} {x2 : Int} {s0 : Int}  (k1 : s0 = 0 → sW (sC d) 243 Q 33 [vO 12 a0, vI x1, vI x2] [] M G 0 0) (k2 : s0 ≠ 0 → sW (sC d) 243 Q 20 [vO 12 a0, vI x1, vI x2] [] M G 0 0) : sW (sC d) 243 Q 17 [vO 12 a0, vI x1, vI x2] [vI s0] M G 0 0 := by
  refine q_ifeq 33 20 rfl (by decide) (show sCode 243 17 = some (.ifCond .eq 16, 3) by decide +kernel) ?_ ?_
  · intro q; exact k1 q
  · intro q; exact k2 q
theorem b243_20 {d : Nat} {Q : Option sV → sM → sG → Prop} {M : sM} {G : sG} {a0 : Nat} {x1 : Int} {x2 : Int} (h1 : 0 ≤ x2 ∧ x2 < 18) (k1 : iAnd (M (a0 + 13) x2.toNat) x1 = 0 → sW (sC d) 243 Q 33 [vO 12 a0, vI x1, vI x2] [] M G 0 0) (k2 : iAnd (M (a0 + 13) x2.toNat) x1 ≠ 0 → sW (sC d) 243 Q 31 [vN, vN, vN] [] M G 0 0) : sW (sC d) 243 Q 20 [vO 12 a0, vI x1, vI x2] [] M G 0 0 := by
  refine q_aload_n 21 rfl (show sCode 243 20 = some (.aload_n 0, 1) by decide +kernel) rfl (Nat.le_of_ble_eq_true rfl) ?_
  refine q_getR (vA 0 (a0 + 13) 18) 24 rfl (show sCode 243 21 = some (.getfield 48, 3) by decide +kernel) (show sFR (sKo 243).1 48 = some (12, 25) by decide +kernel) (by decide +kernel) (Or.inl (Or.inl rfl)) rfl ?_
  refine q_iload_n 25 rfl (show sCode 243 24 = some (.iload_n 2, 1) by decide +kernel) rfl ?_
  refine q_iald 26 rfl (show sCode 243 25 = some (.iaload, 1) by decide +kernel) h1 ?_
  refine q_iload_n 27 rfl (show sCode 243 26 = some (.iload_n 1, 1) by decide +kernel) rfl ?_
  refine q_iand 28 rfl (show sCode 243 27 = some (.iand, 1) by decide +kernel) ?_
  refine q_ifeq 33 31 rfl (by decide) (show sCode 243 28 = some (.ifCond .eq 5, 3) by decide +kernel) ?_ ?_
  · intro q; exact k1 q
  · intro q; refine q_forget (L' := [vN, vI x1, vI x2]) 0 rfl ?_; refine q_forget (L' := [vN, vN, vI x2]) 1 rfl ?_; refine q_forget (L' := [vN, vN, vN]) 2 rfl ?_; exact k2 q
theorem b243_31 {d : Nat} {P : Int → sM → sG → Prop} {M : sM} {G : sG}   (kk : P 0 M G) : sW (sC d) 243 (QI P) 31 [vN, vN, vN] [] M G 0 0 := by
  refine q_iconst 32 rfl (show sCode 243 31 = some (.iconst 0, 1) by decide +kernel) ⟨by decide, by decide⟩ ?_
  exact q_zret (show sCode 243 32 = some (.ireturn, 1) by decide +kernel) (by decide +kernel) (by decide) (by decide +kernel) kk
theorem b243_33 {d : Nat} {Q : Option sV → sM → sG → Prop} {M : sM} {G : sG} {a0 : Nat} {x1 : Int} {x2 : Int} (h1 : sI (x2 + 1)) (kk : sW (sC d) 243 Q 2 [vO 12 a0, vI x1, vI (x2 + 1)] [] M G 0 0) : sW (sC d) 243 Q 33 [vO 12 a0, vI x1, vI x2] [] M G 0 0 := by
  refine q_iinc [vO 12 a0, vI x1, vI (x2 + 1)] 36 rfl (show sCode 243 33 = some (.iinc 2 1, 3) by decide +kernel) rfl rfl h1 rfl ?_
  refine q_goto 2 (by decide) (show sCode 243 36 = some (.goto (-34), 3) by decide +kernel) ?_
  exact kk
theorem b243_39 {d : Nat} {P : Int → sM → sG → Prop} {M : sM} {G : sG}   (kk : P 1 M G) : sW (sC d) 243 (QI P) 39 [vN, vN, vN] [] M G 0 0 := by
  refine q_iconst 40 rfl (show sCode 243 39 = some (.iconst 1, 1) by decide +kernel) ⟨by decide, by decide⟩ ?_
  exact q_zret (show sCode 243 40 = some (.ireturn, 1) by decide +kernel) (by decide +kernel) (by decide) (by decide +kernel) kk
-- 244 AfterTheLastModel.has (II)Z
theorem b244_0 {d : Nat} {Q : Option sV → sM → sG → Prop} {M : sM} {G : sG} {x0 : Int} {x1 : Int}  (k1 : iAnd (iShr x0 x1) 1 ≠ 1 → sW (sC d) 244 Q 13 [vN, vN] [] M G 0 0) (k2 : iAnd (iShr x0 x1) 1 = 1 → sW (sC d) 244 Q 9 [vN, vN] [] M G 0 0) : sW (sC d) 244 Q 0 [vI x0, vI x1] [] M G 0 0 := by
  refine q_iload_n 1 rfl (show sCode 244 0 = some (.iload_n 0, 1) by decide +kernel) rfl ?_
  refine q_iload_n 2 rfl (show sCode 244 1 = some (.iload_n 1, 1) by decide +kernel) rfl ?_
  refine q_ishr 3 rfl (show sCode 244 2 = some (.ishr, 1) by decide +kernel) ?_
  refine q_iconst 4 rfl (show sCode 244 3 = some (.iconst 1, 1) by decide +kernel) ⟨by decide, by decide⟩ ?_
  refine q_iand 5 rfl (show sCode 244 4 = some (.iand, 1) by decide +kernel) ?_
  refine q_iconst 6 rfl (show sCode 244 5 = some (.iconst 1, 1) by decide +kernel) ⟨by decide, by decide⟩ ?_
  refine q_icmpne 13 9 rfl (by decide) (show sCode 244 6 = some (.if_icmp .ne 7, 3) by decide +kernel) ?_ ?_
  · intro q; refine q_forget (L' := [vN, vI x1]) 0 rfl ?_; refine q_forget (L' := [vN, vN]) 1 rfl ?_; exact k1 q
  · intro q; refine q_forget (L' := [vN, vI x1]) 0 rfl ?_; refine q_forget (L' := [vN, vN]) 1 rfl ?_; exact k2 q
theorem b244_9 {d : Nat} {Q : Option sV → sM → sG → Prop} {M : sM} {G : sG}   (kk : sW (sC d) 244 Q 14 [vN, vN] [vI 1] M G 0 0) : sW (sC d) 244 Q 9 [vN, vN] [] M G 0 0 := by
  refine q_iconst 10 rfl (show sCode 244 9 = some (.iconst 1, 1) by decide +kernel) ⟨by decide, by decide⟩ ?_
  refine q_goto 14 (by decide) (show sCode 244 10 = some (.goto 4, 3) by decide +kernel) ?_
  exact kk
theorem b244_13 {d : Nat} {Q : Option sV → sM → sG → Prop} {M : sM} {G : sG}   (kk : sW (sC d) 244 Q 14 [vN, vN] [vI 0] M G 0 0) : sW (sC d) 244 Q 13 [vN, vN] [] M G 0 0 := by
  refine q_iconst 14 rfl (show sCode 244 13 = some (.iconst 0, 1) by decide +kernel) ⟨by decide, by decide⟩ ?_
  exact kk
theorem b244_14 {d : Nat} {P : Int → sM → sG → Prop} {M : sM} {G : sG} {s0 : Int}  (h01 : s0 = 0 ∨ s0 = 1) (kk : P s0 M G) : sW (sC d) 244 (QI P) 14 [vN, vN] [vI s0] M G 0 0 := by
  exact q_zret (show sCode 244 14 = some (.ireturn, 1) by decide +kernel) (by decide +kernel) h01 (by decide +kernel) kk
-- 245 AfterTheLastModel.bits (I)I
theorem b245_0 {d : Nat} {Q : Option sV → sM → sG → Prop} {M : sM} {G : sG} {x0 : Int}  (kk : sW (sC d) 245 Q 4 [vN, vI 0, vI x0] [] M G 0 0) : sW (sC d) 245 Q 0 [vI x0, vN, vN] [] M G 0 0 := by
  refine q_iconst 1 rfl (show sCode 245 0 = some (.iconst 0, 1) by decide +kernel) ⟨by decide, by decide⟩ ?_
  refine q_istore_n [vI x0, vI 0, vN] 2 rfl (show sCode 245 1 = some (.istore_n 1, 1) by decide +kernel) (Nat.lt_of_lt_of_le (Nat.lt_succ_self _) (Nat.le_of_ble_eq_true rfl)) rfl rfl ?_
  refine q_iload_n 3 rfl (show sCode 245 2 = some (.iload_n 0, 1) by decide +kernel) rfl ?_
  refine q_istore_n [vI x0, vI 0, vI x0] 4 rfl (show sCode 245 3 = some (.istore_n 2, 1) by decide +kernel) (Nat.lt_of_lt_of_le (Nat.lt_succ_self _) (Nat.le_of_ble_eq_true rfl)) rfl rfl ?_
  refine q_forget (L' := [vN, vI 0, vI x0]) 0 rfl ?_
  exact kk
theorem b245_4 {d : Nat} {Q : Option sV → sM → sG → Prop} {M : sM} {G : sG} {x1 : Int} {x2 : Int}  (k1 : x2 = 0 → sW (sC d) 245 Q 20 [vN, vI x1, vN] [] M G 0 0) (k2 : x2 ≠ 0 → sW (sC d) 245 Q 8 [vN, vI x1, vI x2] [] M G 0 0) : sW (sC d) 245 Q 4 [vN, vI x1, vI x2] [] M G 0 0 := by
  refine q_iload_n 5 rfl (show sCode 245 4 = some (.iload_n 2, 1) by decide +kernel) rfl ?_
  refine q_ifeq 20 8 rfl (by decide) (show sCode 245 5 = some (.ifCond .eq 15, 3) by decide +kernel) ?_ ?_
  · intro q; refine q_forget (L' := [vN, vI x1, vN]) 2 rfl ?_; exact k1 q
  · intro q; exact k2 q
theorem b245_8 {d : Nat} {Q : Option sV → sM → sG → Prop} {M : sM} {G : sG} {x1 : Int} {x2 : Int} (h1 : sI (x1 + 1)) (h2 : sI (x2 - 1)) (kk : sW (sC d) 245 Q 4 [vN, vI (x1 + 1), vI (iAnd x2 (x2 - 1))] [] M G 0 0) : sW (sC d) 245 Q 8 [vN, vI x1, vI x2] [] M G 0 0 := by
  refine q_iinc [vN, vI (x1 + 1), vI x2] 11 rfl (show sCode 245 8 = some (.iinc 1 1, 3) by decide +kernel) rfl rfl h1 rfl ?_
  refine q_iload_n 12 rfl (show sCode 245 11 = some (.iload_n 2, 1) by decide +kernel) rfl ?_
  refine q_iload_n 13 rfl (show sCode 245 12 = some (.iload_n 2, 1) by decide +kernel) rfl ?_
  refine q_iconst 14 rfl (show sCode 245 13 = some (.iconst 1, 1) by decide +kernel) ⟨by decide, by decide⟩ ?_
  refine q_isub 15 rfl (show sCode 245 14 = some (.isub, 1) by decide +kernel) h2 ?_
  refine q_iand 16 rfl (show sCode 245 15 = some (.iand, 1) by decide +kernel) ?_
  refine q_istore_n [vN, vI (x1 + 1), vI (iAnd x2 (x2 - 1))] 17 rfl (show sCode 245 16 = some (.istore_n 2, 1) by decide +kernel) (Nat.lt_of_lt_of_le (Nat.lt_succ_self _) (Nat.le_of_ble_eq_true rfl)) rfl rfl ?_
  refine q_goto 4 (by decide) (show sCode 245 17 = some (.goto (-13), 3) by decide +kernel) ?_
  exact kk
theorem b245_20 {d : Nat} {P : Int → sM → sG → Prop} {M : sM} {G : sG} {x1 : Int}  (kk : P x1 M G) : sW (sC d) 245 (QI P) 20 [vN, vI x1, vN] [] M G 0 0 := by
  refine q_iload_n 21 rfl (show sCode 245 20 = some (.iload_n 1, 1) by decide +kernel) rfl ?_
  exact q_iret (show sCode 245 21 = some (.ireturn, 1) by decide +kernel) (by decide +kernel) (by decide +kernel) kk
-- 246 AfterTheLastModel.most (II)I
theorem b246_0 {d : Nat} {Q : Option sV → sM → sG → Prop} {M : sM} {G : sG} {a0 : Nat} {x1 : Int} {x2 : Int}  (kk : sC d 203 [vO 12 a0, vI x1] M G (QI (fun r M1 G1 => sW (sC d) 246 Q 5 [vO 12 a0, vI x1, vI x2, vN, vN, vN, vN, vN, vN, vN] (vI r :: []) M1 G1 0 0))) : sW (sC d) 246 Q 0 [vO 12 a0, vI x1, vI x2, vN, vN, vN, vN, vN, vN, vN] [] M G 0 0 := by
  refine q_aload_n 1 rfl (show sCode 246 0 = some (.aload_n 0, 1) by decide +kernel) rfl (Nat.le_of_ble_eq_true rfl) ?_
  refine q_iload_n 2 rfl (show sCode 246 1 = some (.iload_n 1, 1) by decide +kernel) rfl ?_
  exact q_virtI [vI x1] 5 rfl (show sCode 246 2 = some (.invokevirtual 291, 3) by decide +kernel) (show sMR (sKo 246).1 291 = some 203 by decide +kernel) (show 203 < 1000 ∧ sStat 203 = false ∧ sIni 203 = false ∧ sKo 203 = (12, 1, 2, 0, 0) by decide +kernel) rfl (Or.inl rfl) rfl (Nat.le_of_ble_eq_true rfl) rfl rfl rfl (by decide +kernel) kk
theorem b246_5 {d : Nat} {Q : Option sV → sM → sG → Prop} {M : sM} {G : sG} {a0 : Nat} {x1 : Int} {x2 : Int} {s0 : Int}  (k1 : s0 = 0 → sW (sC d) 246 Q 18 [vN, vN, vN, vN, vN, vN, vN, vN, vN, vN] [] M G 0 0) (k2 : s0 ≠ 0 → sW (sC d) 246 Q 8 [vO 12 a0, vI x1, vI x2, vN, vN, vN, vN, vN, vN, vN] [] M G 0 0) : sW (sC d) 246 Q 5 [vO 12 a0, vI x1, vI x2, vN, vN, vN, vN, vN, vN, vN] [vI s0] M G 0 0 := by
  refine q_ifeq 18 8 rfl (by decide) (show sCode 246 5 = some (.ifCond .eq 13, 3) by decide +kernel) ?_ ?_
  · intro q; refine q_forget (L' := [vN, vI x1, vI x2, vN, vN, vN, vN, vN, vN, vN]) 0 rfl ?_; refine q_forget (L' := [vN, vN, vI x2, vN, vN, vN, vN, vN, vN, vN]) 1 rfl ?_; refine q_forget (L' := [vN, vN, vN, vN, vN, vN, vN, vN, vN, vN]) 2 rfl ?_; exact k1 q
  · intro q; exact k2 q
theorem b246_8 {d : Nat} {Q : Option sV → sM → sG → Prop} {M : sM} {G : sG} {a0 : Nat} {x1 : Int} {x2 : Int}  (kk : sC d 183 [vL x2, vL 0, vL 1] M G (QI (fun r M1 G1 => sW (sC d) 246 Q 15 [vO 12 a0, vI x1, vI x2, vN, vN, vN, vN, vN, vN, vN] (vI r :: []) M1 G1 0 0))) : sW (sC d) 246 Q 8 [vO 12 a0, vI x1, vI x2, vN, vN, vN, vN, vN, vN, vN] [] M G 0 0 := by
  refine q_iload_n 9 rfl (show sCode 246 8 = some (.iload_n 2, 1) by decide +kernel) rfl ?_
  refine q_i2l 10 rfl (show sCode 246 9 = some (.i2l, 1) by decide +kernel) ?_
  refine q_lconst 11 rfl (show sCode 246 10 = some (.lconst 0, 1) by decide +kernel) ?_
  refine q_lconst 12 rfl (show sCode 246 11 = some (.lconst 1, 1) by decide +kernel) ?_
  exact q_statI [vL x2, vL 0, vL 1] 15 rfl (show sCode 246 12 = some (.invokestatic 127, 3) by decide +kernel) (show sMR (sKo 246).1 127 = some 183 by decide +kernel) (show 183 < 1000 ∧ sStat 183 = true ∧ sKo 183 = (12, 3, 2, 0, 0) by decide +kernel) rfl rfl (Nat.le_of_ble_eq_true rfl) rfl rfl rfl (by decide +kernel) kk
theorem b246_15 {d : Nat} {Q : Option sV → sM → sG → Prop} {M : sM} {G : sG} {a0 : Nat} {x1 : Int} {x2 : Int} {s0 : Int}  (k1 : s0 ≠ 0 → sW (sC d) 246 Q 20 [vO 12 a0, vI x1, vI x2, vN, vN, vN, vN, vN, vN, vN] [] M G 0 0) (k2 : s0 = 0 → sW (sC d) 246 Q 18 [vN, vN, vN, vN, vN, vN, vN, vN, vN, vN] [] M G 0 0) : sW (sC d) 246 Q 15 [vO 12 a0, vI x1, vI x2, vN, vN, vN, vN, vN, vN, vN] [vI s0] M G 0 0 := by
  refine q_ifne 20 18 rfl (by decide) (show sCode 246 15 = some (.ifCond .ne 5, 3) by decide +kernel) ?_ ?_
  · intro q; exact k1 q
  · intro q; refine q_forget (L' := [vN, vI x1, vI x2, vN, vN, vN, vN, vN, vN, vN]) 0 rfl ?_; refine q_forget (L' := [vN, vN, vI x2, vN, vN, vN, vN, vN, vN, vN]) 1 rfl ?_; refine q_forget (L' := [vN, vN, vN, vN, vN, vN, vN, vN, vN, vN]) 2 rfl ?_; exact k2 q
theorem b246_18 {d : Nat} {P : Int → sM → sG → Prop} {M : sM} {G : sG}   (kk : P (-1) M G) : sW (sC d) 246 (QI P) 18 [vN, vN, vN, vN, vN, vN, vN, vN, vN, vN] [] M G 0 0 := by
  refine q_iconst 19 rfl (show sCode 246 18 = some (.iconst (-1), 1) by decide +kernel) ⟨by decide, by decide⟩ ?_
  exact q_iret (show sCode 246 19 = some (.ireturn, 1) by decide +kernel) (by decide +kernel) (by decide +kernel) kk
theorem b246_20 {d : Nat} {Q : Option sV → sM → sG → Prop} {M : sM} {G : sG} {a0 : Nat} {x1 : Int} {x2 : Int}  (kk : sC d 242 [vO 12 a0, vI 0] M G (QV (fun M1 G1 => sW (sC d) 246 Q 25 [vO 12 a0, vI x1, vI x2, vN, vN, vN, vN, vN, vN, vN] [] M1 G1 0 0))) : sW (sC d) 246 Q 20 [vO 12 a0, vI x1, vI x2, vN, vN, vN, vN, vN, vN, vN] [] M G 0 0 := by
  refine q_aload_n 21 rfl (show sCode 246 20 = some (.aload_n 0, 1) by decide +kernel) rfl (Nat.le_of_ble_eq_true rfl) ?_
  refine q_iconst 22 rfl (show sCode 246 21 = some (.iconst 0, 1) by decide +kernel) ⟨by decide, by decide⟩ ?_
  exact q_virtV [vI 0] 25 rfl (show sCode 246 22 = some (.invokevirtual 375, 3) by decide +kernel) (show sMR (sKo 246).1 375 = some 242 by decide +kernel) (show 242 < 1000 ∧ sStat 242 = false ∧ sIni 242 = false ∧ sKo 242 = (12, 1, 0, 0, 0) by decide +kernel) rfl (Or.inl rfl) rfl (Nat.le_of_ble_eq_true rfl) rfl rfl rfl (by decide +kernel) kk
theorem b246_25 {d : Nat} {Q : Option sV → sM → sG → Prop} {M : sM} {G : sG} {a0 : Nat} {x1 : Int} {x2 : Int}  (kk : sW (sC d) 246 Q 30 [vO 12 a0, vI x1, vI x2, vI 0, vI 0, vN, vN, vN, vN, vN] [] M G 0 0) : sW (sC d) 246 Q 25 [vO 12 a0, vI x1, vI x2, vN, vN, vN, vN, vN, vN, vN] [] M G 0 0 := by
  refine q_iconst 26 rfl (show sCode 246 25 = some (.iconst 0, 1) by decide +kernel) ⟨by decide, by decide⟩ ?_
  refine q_istore_n [vO 12 a0, vI x1, vI x2, vI 0, vN, vN, vN, vN, vN, vN] 27 rfl (show sCode 246 26 = some (.istore_n 3, 1) by decide +kernel) (Nat.lt_of_lt_of_le (Nat.lt_succ_self _) (Nat.le_of_ble_eq_true rfl)) rfl rfl ?_
  refine q_iconst 28 rfl (show sCode 246 27 = some (.iconst 0, 1) by decide +kernel) ⟨by decide, by decide⟩ ?_
  refine q_istore [vO 12 a0, vI x1, vI x2, vI 0, vI 0, vN, vN, vN, vN, vN] 30 rfl (show sCode 246 28 = some (.istore 4, 2) by decide +kernel) (Nat.lt_of_lt_of_le (Nat.lt_succ_self _) (Nat.le_of_ble_eq_true rfl)) rfl rfl ?_
  exact kk
theorem b246_30 {d : Nat} {Q : Option sV → sM → sG → Prop} {M : sM} {G : sG} {a0 : Nat} {x1 : Int} {x2 : Int} {x3 : Int} {x4 : Int}  (k1 : M (a0 + 11) 1 ≤ x4 → sW (sC d) 246 Q 149 [vO 12 a0, vI x1, vI x2, vI x3, vN, vN, vN, vN, vN, vN] [] M G 0 0) (k2 : x4 < M (a0 + 11) 1 → sW (sC d) 246 Q 41 [vO 12 a0, vI x1, vI x2, vI x3, vI x4, vN, vN, vN, vN, vN] [] M G 0 0) : sW (sC d) 246 Q 30 [vO 12 a0, vI x1, vI x2, vI x3, vI x4, vN, vN, vN, vN, vN] [] M G 0 0 := by
  refine q_iload 32 rfl (show sCode 246 30 = some (.iload 4, 2) by decide +kernel) rfl ?_
  refine q_aload_n 33 rfl (show sCode 246 32 = some (.aload_n 0, 1) by decide +kernel) rfl (Nat.le_of_ble_eq_true rfl) ?_
  refine q_getR (vA 0 (a0 + 11) 274) 36 rfl (show sCode 246 33 = some (.getfield 42, 3) by decide +kernel) (show sFR (sKo 246).1 42 = some (12, 23) by decide +kernel) (by decide +kernel) (Or.inl (Or.inl rfl)) rfl ?_
  refine q_iconst 37 rfl (show sCode 246 36 = some (.iconst 1, 1) by decide +kernel) ⟨by decide, by decide⟩ ?_
  refine q_iald 38 rfl (show sCode 246 37 = some (.iaload, 1) by decide +kernel) ⟨by decide, by decide⟩ ?_
  refine q_icmpge 149 41 rfl (by decide) (show sCode 246 38 = some (.if_icmp .ge 111, 3) by decide +kernel) ?_ ?_
  · intro q; refine q_forget (L' := [vO 12 a0, vI x1, vI x2, vI x3, vN, vN, vN, vN, vN, vN]) 4 rfl ?_; exact k1 q
  · intro q; exact k2 q
theorem b246_41 {d : Nat} {Q : Option sV → sM → sG → Prop} {M : sM} {G : sG} {a0 : Nat} {x1 : Int} {x2 : Int} {x3 : Int} {x4 : Int}  (kk : sC d 209 [vO 12 a0, vI x4, vI 1] M G (QI (fun r M1 G1 => sW (sC d) 246 Q 49 [vO 12 a0, vI x1, vI x2, vN, vI x4, vN, vN, vN, vN, vN] (vI r :: [vI x3]) M1 G1 0 0))) : sW (sC d) 246 Q 41 [vO 12 a0, vI x1, vI x2, vI x3, vI x4, vN, vN, vN, vN, vN] [] M G 0 0 := by
  refine q_iload_n 42 rfl (show sCode 246 41 = some (.iload_n 3, 1) by decide +kernel) rfl ?_
  refine q_aload_n 43 rfl (show sCode 246 42 = some (.aload_n 0, 1) by decide +kernel) rfl (Nat.le_of_ble_eq_true rfl) ?_
  refine q_iload 45 rfl (show sCode 246 43 = some (.iload 4, 2) by decide +kernel) rfl ?_
  refine q_iconst 46 rfl (show sCode 246 45 = some (.iconst 1, 1) by decide +kernel) ⟨by decide, by decide⟩ ?_
  refine q_forget (L' := [vO 12 a0, vI x1, vI x2, vN, vI x4, vN, vN, vN, vN, vN]) 3 rfl ?_
  exact q_virtI [vI x4, vI 1] 49 rfl (show sCode 246 46 = some (.invokevirtual 302, 3) by decide +kernel) (show sMR (sKo 246).1 302 = some 209 by decide +kernel) (show 209 < 1000 ∧ sStat 209 = false ∧ sIni 209 = false ∧ sKo 209 = (12, 2, 1, 0, 0) by decide +kernel) rfl (Or.inl rfl) rfl (Nat.le_of_ble_eq_true rfl) rfl rfl rfl (by decide +kernel) kk
theorem b246_49 {d : Nat} {Q : Option sV → sM → sG → Prop} {M : sM} {G : sG} {a0 : Nat} {x1 : Int} {x2 : Int} {x4 : Int} {s0 : Int} {s1 : Int}  (k1 : s0 ≠ x1 → sW (sC d) 246 Q 60 [vO 12 a0, vI x1, vI x2, vN, vI x4, vN, vN, vN, vN, vN] [vI s1] M G 0 0) (k2 : s0 = x1 → sW (sC d) 246 Q 53 [vO 12 a0, vI x1, vI x2, vN, vI x4, vN, vN, vN, vN, vN] [vI s1] M G 0 0) : sW (sC d) 246 Q 49 [vO 12 a0, vI x1, vI x2, vN, vI x4, vN, vN, vN, vN, vN] [vI s0, vI s1] M G 0 0 := by
  refine q_iload_n 50 rfl (show sCode 246 49 = some (.iload_n 1, 1) by decide +kernel) rfl ?_
  refine q_icmpne 60 53 rfl (by decide) (show sCode 246 50 = some (.if_icmp .ne 10, 3) by decide +kernel) ?_ ?_
  · intro q; exact k1 q
  · intro q; exact k2 q
theorem b246_53 {d : Nat} {Q : Option sV → sM → sG → Prop} {M : sM} {G : sG} {a0 : Nat} {x1 : Int} {x2 : Int} {x4 : Int} {s0 : Int}  (kk : sW (sC d) 246 Q 61 [vO 12 a0, vI x1, vI x2, vN, vI x4, vN, vN, vN, vN, vN] [vI (iShl 1 x4), vI s0] M G 0 0) : sW (sC d) 246 Q 53 [vO 12 a0, vI x1, vI x2, vN, vI x4, vN, vN, vN, vN, vN] [vI s0] M G 0 0 := by
  refine q_iconst 54 rfl (show sCode 246 53 = some (.iconst 1, 1) by decide +kernel) ⟨by decide, by decide⟩ ?_
  refine q_iload 56 rfl (show sCode 246 54 = some (.iload 4, 2) by decide +kernel) rfl ?_
  refine q_ishl 57 rfl (show sCode 246 56 = some (.ishl, 1) by decide +kernel) ?_
  refine q_goto 61 (by decide) (show sCode 246 57 = some (.goto 4, 3) by decide +kernel) ?_
  exact kk
theorem b246_60 {d : Nat} {Q : Option sV → sM → sG → Prop} {M : sM} {G : sG} {a0 : Nat} {x1 : Int} {x2 : Int} {x4 : Int} {s0 : Int}  (kk : sW (sC d) 246 Q 61 [vO 12 a0, vI x1, vI x2, vN, vI x4, vN, vN, vN, vN, vN] [vI 0, vI s0] M G 0 0) : sW (sC d) 246 Q 60 [vO 12 a0, vI x1, vI x2, vN, vI x4, vN, vN, vN, vN, vN] [vI s0] M G 0 0 := by
  refine q_iconst 61 rfl (show sCode 246 60 = some (.iconst 0, 1) by decide +kernel) ⟨by decide, by decide⟩ ?_
  exact kk
theorem b246_61 {d : Nat} {Q : Option sV → sM → sG → Prop} {M : sM} {G : sG} {a0 : Nat} {x1 : Int} {x2 : Int} {x4 : Int} {s0 : Int} {s1 : Int} (h1 : 0 ≤ x4 ∧ x4 < 18) (kk : sW (sC d) 246 Q 74 [vO 12 a0, vI x1, vI x2, vI (iOr s1 s0), vI x4, vI 0, vN, vN, vN, vN] [] (sUpd M (a0 + 14) x4.toNat 0) G 0 0) : sW (sC d) 246 Q 61 [vO 12 a0, vI x1, vI x2, vN, vI x4, vN, vN, vN, vN, vN] [vI s0, vI s1] M G 0 0 := by
  refine q_ior 62 rfl (show sCode 246 61 = some (.ior, 1) by decide +kernel) ?_
  refine q_istore_n [vO 12 a0, vI x1, vI x2, vI (iOr s1 s0), vI x4, vN, vN, vN, vN, vN] 63 rfl (show sCode 246 62 = some (.istore_n 3, 1) by decide +kernel) (Nat.lt_of_lt_of_le (Nat.lt_succ_self _) (Nat.le_of_ble_eq_true rfl)) rfl rfl ?_
  refine q_aload_n 64 rfl (show sCode 246 63 = some (.aload_n 0, 1) by decide +kernel) rfl (Nat.le_of_ble_eq_true rfl) ?_
  refine q_getR (vA 0 (a0 + 14) 18) 67 rfl (show sCode 246 64 = some (.getfield 51, 3) by decide +kernel) (show sFR (sKo 246).1 51 = some (12, 26) by decide +kernel) (by decide +kernel) (Or.inl (Or.inl rfl)) rfl ?_
  refine q_iload 69 rfl (show sCode 246 67 = some (.iload 4, 2) by decide +kernel) rfl ?_
  refine q_iconst 70 rfl (show sCode 246 69 = some (.iconst 0, 1) by decide +kernel) ⟨by decide, by decide⟩ ?_
  refine q_iast 71 rfl (show sCode 246 70 = some (.iastore, 1) by decide +kernel) h1 ?_
  refine q_iconst 72 rfl (show sCode 246 71 = some (.iconst 0, 1) by decide +kernel) ⟨by decide, by decide⟩ ?_
  refine q_istore [vO 12 a0, vI x1, vI x2, vI (iOr s1 s0), vI x4, vI 0, vN, vN, vN, vN] 74 rfl (show sCode 246 72 = some (.istore 5, 2) by decide +kernel) (Nat.lt_of_lt_of_le (Nat.lt_succ_self _) (Nat.le_of_ble_eq_true rfl)) rfl rfl ?_
  exact kk
theorem b246_74 {d : Nat} {Q : Option sV → sM → sG → Prop} {M : sM} {G : sG} {a0 : Nat} {x1 : Int} {x2 : Int} {x3 : Int} {x4 : Int} {x5 : Int}  (k1 : M (a0 + 11) 1 ≤ x5 → sW (sC d) 246 Q 143 [vO 12 a0, vI x1, vI x2, vI x3, vI x4, vN, vN, vN, vN, vN] [] M G 0 0) (k2 : x5 < M (a0 + 11) 1 → sW (sC d) 246 Q 85 [vO 12 a0, vI x1, vI x2, vI x3, vI x4, vI x5, vN, vN, vN, vN] [] M G 0 0) : sW (sC d) 246 Q 74 [vO 12 a0, vI x1, vI x2, vI x3, vI x4, vI x5, vN, vN, vN, vN] [] M G 0 0 := by
  refine q_iload 76 rfl (show sCode 246 74 = some (.iload 5, 2) by decide +kernel) rfl ?_
  refine q_aload_n 77 rfl (show sCode 246 76 = some (.aload_n 0, 1) by decide +kernel) rfl (Nat.le_of_ble_eq_true rfl) ?_
  refine q_getR (vA 0 (a0 + 11) 274) 80 rfl (show sCode 246 77 = some (.getfield 42, 3) by decide +kernel) (show sFR (sKo 246).1 42 = some (12, 23) by decide +kernel) (by decide +kernel) (Or.inl (Or.inl rfl)) rfl ?_
  refine q_iconst 81 rfl (show sCode 246 80 = some (.iconst 1, 1) by decide +kernel) ⟨by decide, by decide⟩ ?_
  refine q_iald 82 rfl (show sCode 246 81 = some (.iaload, 1) by decide +kernel) ⟨by decide, by decide⟩ ?_
  refine q_icmpge 143 85 rfl (by decide) (show sCode 246 82 = some (.if_icmp .ge 61, 3) by decide +kernel) ?_ ?_
  · intro q; refine q_forget (L' := [vO 12 a0, vI x1, vI x2, vI x3, vI x4, vN, vN, vN, vN, vN]) 5 rfl ?_; exact k1 q
  · intro q; exact k2 q
theorem b246_85 {d : Nat} {Q : Option sV → sM → sG → Prop} {M : sM} {G : sG} {a0 : Nat} {x1 : Int} {x2 : Int} {x3 : Int} {x4 : Int} {x5 : Int} (h1 : 0 ≤ x4 ∧ x4 < 18) (kk : sC d 209 [vO 12 a0, vI x5, vI 2] M G (QI (fun r M1 G1 => sW (sC d) 246 Q 100 [vO 12 a0, vI x1, vI x2, vI x3, vI x4, vI x5, vN, vN, vN, vN] (vI r :: [vI (M (a0 + 14) x4.toNat), vI x4, vA 0 (a0 + 14) 18]) M1 G1 0 0))) : sW (sC d) 246 Q 85 [vO 12 a0, vI x1, vI x2, vI x3, vI x4, vI x5, vN, vN, vN, vN] [] M G 0 0 := by
  refine q_aload_n 86 rfl (show sCode 246 85 = some (.aload_n 0, 1) by decide +kernel) rfl (Nat.le_of_ble_eq_true rfl) ?_
  refine q_getR (vA 0 (a0 + 14) 18) 89 rfl (show sCode 246 86 = some (.getfield 51, 3) by decide +kernel) (show sFR (sKo 246).1 51 = some (12, 26) by decide +kernel) (by decide +kernel) (Or.inl (Or.inl rfl)) rfl ?_
  refine q_iload 91 rfl (show sCode 246 89 = some (.iload 4, 2) by decide +kernel) rfl ?_
  refine q_dup2 92 rfl (show sCode 246 91 = some (.dup2, 1) by decide +kernel) rfl rfl ?_
  refine q_iald 93 rfl (show sCode 246 92 = some (.iaload, 1) by decide +kernel) h1 ?_
  refine q_aload_n 94 rfl (show sCode 246 93 = some (.aload_n 0, 1) by decide +kernel) rfl (Nat.le_of_ble_eq_true rfl) ?_
  refine q_iload 96 rfl (show sCode 246 94 = some (.iload 5, 2) by decide +kernel) rfl ?_
  refine q_iconst 97 rfl (show sCode 246 96 = some (.iconst 2, 1) by decide +kernel) ⟨by decide, by decide⟩ ?_
  exact q_virtI [vI x5, vI 2] 100 rfl (show sCode 246 97 = some (.invokevirtual 302, 3) by decide +kernel) (show sMR (sKo 246).1 302 = some 209 by decide +kernel) (show 209 < 1000 ∧ sStat 209 = false ∧ sIni 209 = false ∧ sKo 209 = (12, 2, 1, 0, 0) by decide +kernel) rfl (Or.inl rfl) rfl (Nat.le_of_ble_eq_true rfl) rfl rfl rfl (by decide +kernel) kk
theorem b246_100 {d : Nat} {Q : Option sV → sM → sG → Prop} {M : sM} {G : sG} {a0 : Nat} {x1 : Int} {x2 : Int} {x3 : Int} {x4 : Int} {x5 : Int} {s0 : Int} {s1 : Int} {s2 : Int} {sa3 : Nat}  (kk : sC d 209 [vO 12 a0, vI x4, vI 2] M G (QI (fun r M1 G1 => sW (sC d) 246 Q 107 [vO 12 a0, vI x1, vI x2, vI x3, vI x4, vI x5, vN, vN, vN, vN] (vI r :: [vI s0, vI s1, vI s2, vA 0 sa3 18]) M1 G1 0 0))) : sW (sC d) 246 Q 100 [vO 12 a0, vI x1, vI x2, vI x3, vI x4, vI x5, vN, vN, vN, vN] [vI s0, vI s1, vI s2, vA 0 sa3 18] M G 0 0 := by
  refine q_aload_n 101 rfl (show sCode 246 100 = some (.aload_n 0, 1) by decide +kernel) rfl (Nat.le_of_ble_eq_true rfl) ?_
  refine q_iload 103 rfl (show sCode 246 101 = some (.iload 4, 2) by decide +kernel) rfl ?_
  refine q_iconst 104 rfl (show sCode 246 103 = some (.iconst 2, 1) by decide +kernel) ⟨by decide, by decide⟩ ?_
  exact q_virtI [vI x4, vI 2] 107 rfl (show sCode 246 104 = some (.invokevirtual 302, 3) by decide +kernel) (show sMR (sKo 246).1 302 = some 209 by decide +kernel) (show 209 < 1000 ∧ sStat 209 = false ∧ sIni 209 = false ∧ sKo 209 = (12, 2, 1, 0, 0) by decide +kernel) rfl (Or.inl rfl) rfl (Nat.le_of_ble_eq_true rfl) rfl rfl rfl (by decide +kernel) kk
theorem b246_107 {d : Nat} {Q : Option sV → sM → sG → Prop} {M : sM} {G : sG} {a0 : Nat} {x1 : Int} {x2 : Int} {x3 : Int} {x4 : Int} {x5 : Int} {s0 : Int} {s1 : Int} {s2 : Int} {s3 : Int} {sa4 : Nat}  (k1 : s0 < s1 → sW (sC d) 246 Q 134 [vO 12 a0, vI x1, vI x2, vI x3, vI x4, vI x5, vN, vN, vN, vN] [vI s2, vI s3, vA 0 sa4 18] M G 0 0) (k2 : s1 ≤ s0 → sW (sC d) 246 Q 110 [vO 12 a0, vI x1, vI x2, vI x3, vI x4, vI x5, vN, vN, vN, vN] [vI s2, vI s3, vA 0 sa4 18] M G 0 0) : sW (sC d) 246 Q 107 [vO 12 a0, vI x1, vI x2, vI x3, vI x4, vI x5, vN, vN, vN, vN] [vI s0, vI s1, vI s2, vI s3, vA 0 sa4 18] M G 0 0 := by
  refine q_icmpgt 134 110 rfl (by decide) (show sCode 246 107 = some (.if_icmp .gt 27, 3) by decide +kernel) ?_ ?_
  · intro q; exact k1 q
  · intro q; exact k2 q
theorem b246_110 {d : Nat} {Q : Option sV → sM → sG → Prop} {M : sM} {G : sG} {a0 : Nat} {x1 : Int} {x2 : Int} {x3 : Int} {x4 : Int} {x5 : Int} {s0 : Int} {s1 : Int} {sa2 : Nat}  (kk : sC d 209 [vO 12 a0, vI x5, vI 3] M G (QI (fun r M1 G1 => sW (sC d) 246 Q 117 [vO 12 a0, vI x1, vI x2, vI x3, vI x4, vI x5, vN, vN, vN, vN] (vI r :: [vI s0, vI s1, vA 0 sa2 18]) M1 G1 0 0))) : sW (sC d) 246 Q 110 [vO 12 a0, vI x1, vI x2, vI x3, vI x4, vI x5, vN, vN, vN, vN] [vI s0, vI s1, vA 0 sa2 18] M G 0 0 := by
  refine q_aload_n 111 rfl (show sCode 246 110 = some (.aload_n 0, 1) by decide +kernel) rfl (Nat.le_of_ble_eq_true rfl) ?_
  refine q_iload 113 rfl (show sCode 246 111 = some (.iload 5, 2) by decide +kernel) rfl ?_
  refine q_iconst 114 rfl (show sCode 246 113 = some (.iconst 3, 1) by decide +kernel) ⟨by decide, by decide⟩ ?_
  exact q_virtI [vI x5, vI 3] 117 rfl (show sCode 246 114 = some (.invokevirtual 302, 3) by decide +kernel) (show sMR (sKo 246).1 302 = some 209 by decide +kernel) (show 209 < 1000 ∧ sStat 209 = false ∧ sIni 209 = false ∧ sKo 209 = (12, 2, 1, 0, 0) by decide +kernel) rfl (Or.inl rfl) rfl (Nat.le_of_ble_eq_true rfl) rfl rfl rfl (by decide +kernel) kk
theorem b246_117 {d : Nat} {Q : Option sV → sM → sG → Prop} {M : sM} {G : sG} {a0 : Nat} {x1 : Int} {x2 : Int} {x3 : Int} {x4 : Int} {x5 : Int} {s0 : Int} {s1 : Int} {s2 : Int} {sa3 : Nat}  (kk : sC d 209 [vO 12 a0, vI x4, vI 2] M G (QI (fun r M1 G1 => sW (sC d) 246 Q 124 [vO 12 a0, vI x1, vI x2, vI x3, vI x4, vI x5, vN, vN, vN, vN] (vI r :: [vI s0, vI s1, vI s2, vA 0 sa3 18]) M1 G1 0 0))) : sW (sC d) 246 Q 117 [vO 12 a0, vI x1, vI x2, vI x3, vI x4, vI x5, vN, vN, vN, vN] [vI s0, vI s1, vI s2, vA 0 sa3 18] M G 0 0 := by
  refine q_aload_n 118 rfl (show sCode 246 117 = some (.aload_n 0, 1) by decide +kernel) rfl (Nat.le_of_ble_eq_true rfl) ?_
  refine q_iload 120 rfl (show sCode 246 118 = some (.iload 4, 2) by decide +kernel) rfl ?_
  refine q_iconst 121 rfl (show sCode 246 120 = some (.iconst 2, 1) by decide +kernel) ⟨by decide, by decide⟩ ?_
  exact q_virtI [vI x4, vI 2] 124 rfl (show sCode 246 121 = some (.invokevirtual 302, 3) by decide +kernel) (show sMR (sKo 246).1 302 = some 209 by decide +kernel) (show 209 < 1000 ∧ sStat 209 = false ∧ sIni 209 = false ∧ sKo 209 = (12, 2, 1, 0, 0) by decide +kernel) rfl (Or.inl rfl) rfl (Nat.le_of_ble_eq_true rfl) rfl rfl rfl (by decide +kernel) kk
theorem b246_124 {d : Nat} {Q : Option sV → sM → sG → Prop} {M : sM} {G : sG} {a0 : Nat} {x1 : Int} {x2 : Int} {x3 : Int} {x4 : Int} {x5 : Int} {s0 : Int} {s1 : Int} {s2 : Int} {s3 : Int} {sa4 : Nat}  (k1 : s1 ≤ s0 → sW (sC d) 246 Q 134 [vO 12 a0, vI x1, vI x2, vI x3, vI x4, vI x5, vN, vN, vN, vN] [vI s2, vI s3, vA 0 sa4 18] M G 0 0) (k2 : s0 < s1 → sW (sC d) 246 Q 127 [vO 12 a0, vI x1, vI x2, vI x3, vI x4, vI x5, vN, vN, vN, vN] [vI s2, vI s3, vA 0 sa4 18] M G 0 0) : sW (sC d) 246 Q 124 [vO 12 a0, vI x1, vI x2, vI x3, vI x4, vI x5, vN, vN, vN, vN] [vI s0, vI s1, vI s2, vI s3, vA 0 sa4 18] M G 0 0 := by
  refine q_icmple 134 127 rfl (by decide) (show sCode 246 124 = some (.if_icmp .le 10, 3) by decide +kernel) ?_ ?_
  · intro q; exact k1 q
  · intro q; exact k2 q
theorem b246_127 {d : Nat} {Q : Option sV → sM → sG → Prop} {M : sM} {G : sG} {a0 : Nat} {x1 : Int} {x2 : Int} {x3 : Int} {x4 : Int} {x5 : Int} {s0 : Int} {s1 : Int} {sa2 : Nat}  (kk : sW (sC d) 246 Q 135 [vO 12 a0, vI x1, vI x2, vI x3, vI x4, vI x5, vN, vN, vN, vN] [vI (iShl 1 x5), vI s0, vI s1, vA 0 sa2 18] M G 0 0) : sW (sC d) 246 Q 127 [vO 12 a0, vI x1, vI x2, vI x3, vI x4, vI x5, vN, vN, vN, vN] [vI s0, vI s1, vA 0 sa2 18] M G 0 0 := by
  refine q_iconst 128 rfl (show sCode 246 127 = some (.iconst 1, 1) by decide +kernel) ⟨by decide, by decide⟩ ?_
  refine q_iload 130 rfl (show sCode 246 128 = some (.iload 5, 2) by decide +kernel) rfl ?_
  refine q_ishl 131 rfl (show sCode 246 130 = some (.ishl, 1) by decide +kernel) ?_
  refine q_goto 135 (by decide) (show sCode 246 131 = some (.goto 4, 3) by decide +kernel) ?_
  exact kk
theorem b246_134 {d : Nat} {Q : Option sV → sM → sG → Prop} {M : sM} {G : sG} {a0 : Nat} {x1 : Int} {x2 : Int} {x3 : Int} {x4 : Int} {x5 : Int} {s0 : Int} {s1 : Int} {sa2 : Nat}  (kk : sW (sC d) 246 Q 135 [vO 12 a0, vI x1, vI x2, vI x3, vI x4, vI x5, vN, vN, vN, vN] [vI 0, vI s0, vI s1, vA 0 sa2 18] M G 0 0) : sW (sC d) 246 Q 134 [vO 12 a0, vI x1, vI x2, vI x3, vI x4, vI x5, vN, vN, vN, vN] [vI s0, vI s1, vA 0 sa2 18] M G 0 0 := by
  refine q_iconst 135 rfl (show sCode 246 134 = some (.iconst 0, 1) by decide +kernel) ⟨by decide, by decide⟩ ?_
  exact kk
theorem b246_135 {d : Nat} {Q : Option sV → sM → sG → Prop} {M : sM} {G : sG} {a0 : Nat} {x1 : Int} {x2 : Int} {x3 : Int} {x4 : Int} {x5 : Int} {s0 : Int} {s1 : Int} {s2 : Int} {sa3 : Nat} (h1 : 0 ≤ s2 ∧ s2 < 18) (h2 : sI (x5 + 1)) (kk : sW (sC d) 246 Q 74 [vO 12 a0, vI x1, vI x2, vI x3, vI x4, vI (x5 + 1), vN, vN, vN, vN] [] (sUpd M sa3 s2.toNat (iOr s1 s0)) G 0 0) : sW (sC d) 246 Q 135 [vO 12 a0, vI x1, vI x2, vI x3, vI x4, vI x5, vN, vN, vN, vN] [vI s0, vI s1, vI s2, vA 0 sa3 18] M G 0 0 := by
  refine q_ior 136 rfl (show sCode 246 135 = some (.ior, 1) by decide +kernel) ?_
  refine q_iast 137 rfl (show sCode 246 136 = some (.iastore, 1) by decide +kernel) h1 ?_
  refine q_iinc [vO 12 a0, vI x1, vI x2, vI x3, vI x4, vI (x5 + 1), vN, vN, vN, vN] 140 rfl (show sCode 246 137 = some (.iinc 5 1, 3) by decide +kernel) rfl rfl h2 rfl ?_
  refine q_goto 74 (by decide) (show sCode 246 140 = some (.goto (-66), 3) by decide +kernel) ?_
  exact kk
theorem b246_143 {d : Nat} {Q : Option sV → sM → sG → Prop} {M : sM} {G : sG} {a0 : Nat} {x1 : Int} {x2 : Int} {x3 : Int} {x4 : Int} (h1 : sI (x4 + 1)) (kk : sW (sC d) 246 Q 30 [vO 12 a0, vI x1, vI x2, vI x3, vI (x4 + 1), vN, vN, vN, vN, vN] [] M G 0 0) : sW (sC d) 246 Q 143 [vO 12 a0, vI x1, vI x2, vI x3, vI x4, vN, vN, vN, vN, vN] [] M G 0 0 := by
  refine q_iinc [vO 12 a0, vI x1, vI x2, vI x3, vI (x4 + 1), vN, vN, vN, vN, vN] 146 rfl (show sCode 246 143 = some (.iinc 4 1, 3) by decide +kernel) rfl rfl h1 rfl ?_
  refine q_goto 30 (by decide) (show sCode 246 146 = some (.goto (-116), 3) by decide +kernel) ?_
  exact kk
theorem b246_149 {d : Nat} {Q : Option sV → sM → sG → Prop} {M : sM} {G : sG} {a0 : Nat} {x1 : Int} {x2 : Int} {x3 : Int}  (kk : sW (sC d) 246 Q 158 [vO 12 a0, vI x1, vI x2, vI x3, vI 0, vI 0, vI 0, vN, vN, vN] [] M G 0 0) : sW (sC d) 246 Q 149 [vO 12 a0, vI x1, vI x2, vI x3, vN, vN, vN, vN, vN, vN] [] M G 0 0 := by
  refine q_iconst 150 rfl (show sCode 246 149 = some (.iconst 0, 1) by decide +kernel) ⟨by decide, by decide⟩ ?_
  refine q_istore [vO 12 a0, vI x1, vI x2, vI x3, vI 0, vN, vN, vN, vN, vN] 152 rfl (show sCode 246 150 = some (.istore 4, 2) by decide +kernel) (Nat.lt_of_lt_of_le (Nat.lt_succ_self _) (Nat.le_of_ble_eq_true rfl)) rfl rfl ?_
  refine q_iconst 153 rfl (show sCode 246 152 = some (.iconst 0, 1) by decide +kernel) ⟨by decide, by decide⟩ ?_
  refine q_istore [vO 12 a0, vI x1, vI x2, vI x3, vI 0, vI 0, vN, vN, vN, vN] 155 rfl (show sCode 246 153 = some (.istore 5, 2) by decide +kernel) (Nat.lt_of_lt_of_le (Nat.lt_succ_self _) (Nat.le_of_ble_eq_true rfl)) rfl rfl ?_
  refine q_iconst 156 rfl (show sCode 246 155 = some (.iconst 0, 1) by decide +kernel) ⟨by decide, by decide⟩ ?_
  refine q_istore [vO 12 a0, vI x1, vI x2, vI x3, vI 0, vI 0, vI 0, vN, vN, vN] 158 rfl (show sCode 246 156 = some (.istore 6, 2) by decide +kernel) (Nat.lt_of_lt_of_le (Nat.lt_succ_self _) (Nat.le_of_ble_eq_true rfl)) rfl rfl ?_
  exact kk
theorem b246_158 {d : Nat} {Q : Option sV → sM → sG → Prop} {M : sM} {G : sG} {a0 : Nat} {x1 : Int} {x2 : Int} {x3 : Int} {x4 : Int} {x5 : Int} {x6 : Int}  (k1 : iShl 1 (M (a0 + 11) 1) ≤ x6 → sW (sC d) 246 Q 306 [vN, vN, vI x2, vN, vI x4, vI x5, vN, vN, vN, vN] [] M G 0 0) (k2 : x6 < iShl 1 (M (a0 + 11) 1) → sW (sC d) 246 Q 171 [vO 12 a0, vI x1, vI x2, vI x3, vI x4, vI x5, vI x6, vN, vN, vN] [] M G 0 0) : sW (sC d) 246 Q 158 [vO 12 a0, vI x1, vI x2, vI x3, vI x4, vI x5, vI x6, vN, vN, vN] [] M G 0 0 := by
  refine q_iload 160 rfl (show sCode 246 158 = some (.iload 6, 2) by decide +kernel) rfl ?_
  refine q_iconst 161 rfl (show sCode 246 160 = some (.iconst 1, 1) by decide +kernel) ⟨by decide, by decide⟩ ?_
  refine q_aload_n 162 rfl (show sCode 246 161 = some (.aload_n 0, 1) by decide +kernel) rfl (Nat.le_of_ble_eq_true rfl) ?_
  refine q_getR (vA 0 (a0 + 11) 274) 165 rfl (show sCode 246 162 = some (.getfield 42, 3) by decide +kernel) (show sFR (sKo 246).1 42 = some (12, 23) by decide +kernel) (by decide +kernel) (Or.inl (Or.inl rfl)) rfl ?_
  refine q_iconst 166 rfl (show sCode 246 165 = some (.iconst 1, 1) by decide +kernel) ⟨by decide, by decide⟩ ?_
  refine q_iald 167 rfl (show sCode 246 166 = some (.iaload, 1) by decide +kernel) ⟨by decide, by decide⟩ ?_
  refine q_ishl 168 rfl (show sCode 246 167 = some (.ishl, 1) by decide +kernel) ?_
  refine q_icmpge 306 171 rfl (by decide) (show sCode 246 168 = some (.if_icmp .ge 138, 3) by decide +kernel) ?_ ?_
  · intro q; refine q_forget (L' := [vN, vI x1, vI x2, vI x3, vI x4, vI x5, vI x6, vN, vN, vN]) 0 rfl ?_; refine q_forget (L' := [vN, vN, vI x2, vI x3, vI x4, vI x5, vI x6, vN, vN, vN]) 1 rfl ?_; refine q_forget (L' := [vN, vN, vI x2, vN, vI x4, vI x5, vI x6, vN, vN, vN]) 3 rfl ?_; refine q_forget (L' := [vN, vN, vI x2, vN, vI x4, vI x5, vN, vN, vN, vN]) 6 rfl ?_; exact k1 q
  · intro q; exact k2 q
theorem b246_171 {d : Nat} {Q : Option sV → sM → sG → Prop} {M : sM} {G : sG} {a0 : Nat} {x1 : Int} {x2 : Int} {x3 : Int} {x4 : Int} {x5 : Int} {x6 : Int}  (k1 : iAnd x6 (iXor x3 (-1)) ≠ 0 → sW (sC d) 246 Q 300 [vO 12 a0, vI x1, vI x2, vI x3, vI x4, vI x5, vI x6, vN, vN, vN] [] M G 0 0) (k2 : iAnd x6 (iXor x3 (-1)) = 0 → sW (sC d) 246 Q 180 [vO 12 a0, vI x1, vI x2, vI x3, vI x4, vI x5, vI x6, vN, vN, vN] [] M G 0 0) : sW (sC d) 246 Q 171 [vO 12 a0, vI x1, vI x2, vI x3, vI x4, vI x5, vI x6, vN, vN, vN] [] M G 0 0 := by
  refine q_iload 173 rfl (show sCode 246 171 = some (.iload 6, 2) by decide +kernel) rfl ?_
  refine q_iload_n 174 rfl (show sCode 246 173 = some (.iload_n 3, 1) by decide +kernel) rfl ?_
  refine q_iconst 175 rfl (show sCode 246 174 = some (.iconst (-1), 1) by decide +kernel) ⟨by decide, by decide⟩ ?_
  refine q_ixor 176 rfl (show sCode 246 175 = some (.ixor, 1) by decide +kernel) ?_
  refine q_iand 177 rfl (show sCode 246 176 = some (.iand, 1) by decide +kernel) ?_
  refine q_ifne 300 180 rfl (by decide) (show sCode 246 177 = some (.ifCond .ne 123, 3) by decide +kernel) ?_ ?_
  · intro q; exact k1 q
  · intro q; exact k2 q
theorem b246_180 {d : Nat} {Q : Option sV → sM → sG → Prop} {M : sM} {G : sG} {a0 : Nat} {x1 : Int} {x2 : Int} {x3 : Int} {x4 : Int} {x5 : Int} {x6 : Int}  (kk : sC d 243 [vO 12 a0, vI x6] M G (QI (fun r M1 G1 => sW (sC d) 246 Q 186 [vO 12 a0, vI x1, vI x2, vI x3, vI x4, vI x5, vI x6, vN, vN, vN] (vI r :: []) M1 G1 0 0))) : sW (sC d) 246 Q 180 [vO 12 a0, vI x1, vI x2, vI x3, vI x4, vI x5, vI x6, vN, vN, vN] [] M G 0 0 := by
  refine q_aload_n 181 rfl (show sCode 246 180 = some (.aload_n 0, 1) by decide +kernel) rfl (Nat.le_of_ble_eq_true rfl) ?_
  refine q_iload 183 rfl (show sCode 246 181 = some (.iload 6, 2) by decide +kernel) rfl ?_
  exact q_virtI [vI x6] 186 rfl (show sCode 246 183 = some (.invokevirtual 378, 3) by decide +kernel) (show sMR (sKo 246).1 378 = some 243 by decide +kernel) (show 243 < 1000 ∧ sStat 243 = false ∧ sIni 243 = false ∧ sKo 243 = (12, 1, 2, 0, 0) by decide +kernel) rfl (Or.inl rfl) rfl (Nat.le_of_ble_eq_true rfl) rfl rfl rfl (by decide +kernel) kk
theorem b246_186 {d : Nat} {Q : Option sV → sM → sG → Prop} {M : sM} {G : sG} {a0 : Nat} {x1 : Int} {x2 : Int} {x3 : Int} {x4 : Int} {x5 : Int} {x6 : Int} {s0 : Int}  (k1 : s0 ≠ 0 → sW (sC d) 246 Q 192 [vO 12 a0, vI x1, vI x2, vI x3, vI x4, vI x5, vI x6, vN, vN, vN] [] M G 0 0) (k2 : s0 = 0 → sW (sC d) 246 Q 189 [vO 12 a0, vI x1, vI x2, vI x3, vI x4, vI x5, vI x6, vN, vN, vN] [] M G 0 0) : sW (sC d) 246 Q 186 [vO 12 a0, vI x1, vI x2, vI x3, vI x4, vI x5, vI x6, vN, vN, vN] [vI s0] M G 0 0 := by
  refine q_ifne 192 189 rfl (by decide) (show sCode 246 186 = some (.ifCond .ne 6, 3) by decide +kernel) ?_ ?_
  · intro q; exact k1 q
  · intro q; exact k2 q
theorem b246_189 {d : Nat} {Q : Option sV → sM → sG → Prop} {M : sM} {G : sG} {a0 : Nat} {x1 : Int} {x2 : Int} {x3 : Int} {x4 : Int} {x5 : Int} {x6 : Int}  (kk : sW (sC d) 246 Q 300 [vO 12 a0, vI x1, vI x2, vI x3, vI x4, vI x5, vI x6, vN, vN, vN] [] M G 0 0) : sW (sC d) 246 Q 189 [vO 12 a0, vI x1, vI x2, vI x3, vI x4, vI x5, vI x6, vN, vN, vN] [] M G 0 0 := by
  refine q_goto 300 (by decide) (show sCode 246 189 = some (.goto 111, 3) by decide +kernel) ?_
  exact kk
theorem b246_192 {d : Nat} {Q : Option sV → sM → sG → Prop} {M : sM} {G : sG} {a0 : Nat} {x1 : Int} {x2 : Int} {x3 : Int} {x4 : Int} {x5 : Int} {x6 : Int}  (kk : sW (sC d) 246 Q 201 [vO 12 a0, vI x1, vI x2, vI x3, vI x4, vI x5, vI x6, vI 0, vI 1, vI 0] [] M G 0 0) : sW (sC d) 246 Q 192 [vO 12 a0, vI x1, vI x2, vI x3, vI x4, vI x5, vI x6, vN, vN, vN] [] M G 0 0 := by
  refine q_iconst 193 rfl (show sCode 246 192 = some (.iconst 0, 1) by decide +kernel) ⟨by decide, by decide⟩ ?_
  refine q_istore [vO 12 a0, vI x1, vI x2, vI x3, vI x4, vI x5, vI x6, vI 0, vN, vN] 195 rfl (show sCode 246 193 = some (.istore 7, 2) by decide +kernel) (Nat.lt_of_lt_of_le (Nat.lt_succ_self _) (Nat.le_of_ble_eq_true rfl)) rfl rfl ?_
  refine q_iconst 196 rfl (show sCode 246 195 = some (.iconst 1, 1) by decide +kernel) ⟨by decide, by decide⟩ ?_
  refine q_istore [vO 12 a0, vI x1, vI x2, vI x3, vI x4, vI x5, vI x6, vI 0, vI 1, vN] 198 rfl (show sCode 246 196 = some (.istore 8, 2) by decide +kernel) (Nat.lt_of_lt_of_le (Nat.lt_succ_self _) (Nat.le_of_ble_eq_true rfl)) rfl rfl ?_
  refine q_iconst 199 rfl (show sCode 246 198 = some (.iconst 0, 1) by decide +kernel) ⟨by decide, by decide⟩ ?_
  refine q_istore [vO 12 a0, vI x1, vI x2, vI x3, vI x4, vI x5, vI x6, vI 0, vI 1, vI 0] 201 rfl (show sCode 246 199 = some (.istore 9, 2) by decide +kernel) (Nat.lt_of_lt_of_le (Nat.lt_succ_self _) (Nat.le_of_ble_eq_true rfl)) rfl rfl ?_
  exact kk
theorem b246_201 {d : Nat} {Q : Option sV → sM → sG → Prop} {M : sM} {G : sG} {a0 : Nat} {x1 : Int} {x2 : Int} {x3 : Int} {x4 : Int} {x5 : Int} {x6 : Int} {x7 : Int} {x8 : Int} {x9 : Int}  (k1 : M (a0 + 11) 1 ≤ x9 → sW (sC d) 246 Q 277 [vO 12 a0, vI x1, vI x2, vI x3, vI x4, vI x5, vI x6, vI x7, vI x8, vN] [] M G 0 0) (k2 : x9 < M (a0 + 11) 1 → sW (sC d) 246 Q 212 [vO 12 a0, vI x1, vI x2, vI x3, vI x4, vI x5, vI x6, vI x7, vI x8, vI x9] [] M G 0 0) : sW (sC d) 246 Q 201 [vO 12 a0, vI x1, vI x2, vI x3, vI x4, vI x5, vI x6, vI x7, vI x8, vI x9] [] M G 0 0 := by
  refine q_iload 203 rfl (show sCode 246 201 = some (.iload 9, 2) by decide +kernel) rfl ?_
  refine q_aload_n 204 rfl (show sCode 246 203 = some (.aload_n 0, 1) by decide +kernel) rfl (Nat.le_of_ble_eq_true rfl) ?_
  refine q_getR (vA 0 (a0 + 11) 274) 207 rfl (show sCode 246 204 = some (.getfield 42, 3) by decide +kernel) (show sFR (sKo 246).1 42 = some (12, 23) by decide +kernel) (by decide +kernel) (Or.inl (Or.inl rfl)) rfl ?_
  refine q_iconst 208 rfl (show sCode 246 207 = some (.iconst 1, 1) by decide +kernel) ⟨by decide, by decide⟩ ?_
  refine q_iald 209 rfl (show sCode 246 208 = some (.iaload, 1) by decide +kernel) ⟨by decide, by decide⟩ ?_
  refine q_icmpge 277 212 rfl (by decide) (show sCode 246 209 = some (.if_icmp .ge 68, 3) by decide +kernel) ?_ ?_
  · intro q; refine q_forget (L' := [vO 12 a0, vI x1, vI x2, vI x3, vI x4, vI x5, vI x6, vI x7, vI x8, vN]) 9 rfl ?_; exact k1 q
  · intro q; exact k2 q
theorem b246_212 {d : Nat} {Q : Option sV → sM → sG → Prop} {M : sM} {G : sG} {a0 : Nat} {x1 : Int} {x2 : Int} {x3 : Int} {x4 : Int} {x5 : Int} {x6 : Int} {x7 : Int} {x8 : Int} {x9 : Int}  (kk : sC d 244 [vI x6, vI x9] M G (QI (fun r M1 G1 => sW (sC d) 246 Q 219 [vO 12 a0, vI x1, vI x2, vI x3, vI x4, vI x5, vI x6, vI x7, vI x8, vI x9] (vI r :: []) M1 G1 0 0))) : sW (sC d) 246 Q 212 [vO 12 a0, vI x1, vI x2, vI x3, vI x4, vI x5, vI x6, vI x7, vI x8, vI x9] [] M G 0 0 := by
  refine q_iload 214 rfl (show sCode 246 212 = some (.iload 6, 2) by decide +kernel) rfl ?_
  refine q_iload 216 rfl (show sCode 246 214 = some (.iload 9, 2) by decide +kernel) rfl ?_
  exact q_statI [vI x6, vI x9] 219 rfl (show sCode 246 216 = some (.invokestatic 369, 3) by decide +kernel) (show sMR (sKo 246).1 369 = some 244 by decide +kernel) (show 244 < 1000 ∧ sStat 244 = true ∧ sKo 244 = (12, 2, 2, 0, 0) by decide +kernel) rfl rfl (Nat.le_of_ble_eq_true rfl) rfl rfl rfl (by decide +kernel) kk
theorem b246_219 {d : Nat} {Q : Option sV → sM → sG → Prop} {M : sM} {G : sG} {a0 : Nat} {x1 : Int} {x2 : Int} {x3 : Int} {x4 : Int} {x5 : Int} {x6 : Int} {x7 : Int} {x8 : Int} {x9 : Int} {s0 : Int}  (k1 : s0 ≠ 0 → sW (sC d) 246 Q 225 [vO 12 a0, vI x1, vI x2, vI x3, vI x4, vI x5, vI x6, vI x7, vI x8, vI x9] [] M G 0 0) (k2 : s0 = 0 → sW (sC d) 246 Q 222 [vO 12 a0, vI x1, vI x2, vI x3, vI x4, vI x5, vI x6, vI x7, vI x8, vI x9] [] M G 0 0) : sW (sC d) 246 Q 219 [vO 12 a0, vI x1, vI x2, vI x3, vI x4, vI x5, vI x6, vI x7, vI x8, vI x9] [vI s0] M G 0 0 := by
  refine q_ifne 225 222 rfl (by decide) (show sCode 246 219 = some (.ifCond .ne 6, 3) by decide +kernel) ?_ ?_
  · intro q; exact k1 q
  · intro q; exact k2 q
theorem b246_222 {d : Nat} {Q : Option sV → sM → sG → Prop} {M : sM} {G : sG} {a0 : Nat} {x1 : Int} {x2 : Int} {x3 : Int} {x4 : Int} {x5 : Int} {x6 : Int} {x7 : Int} {x8 : Int} {x9 : Int}  (kk : sW (sC d) 246 Q 271 [vO 12 a0, vI x1, vI x2, vI x3, vI x4, vI x5, vI x6, vI x7, vI x8, vI x9] [] M G 0 0) : sW (sC d) 246 Q 222 [vO 12 a0, vI x1, vI x2, vI x3, vI x4, vI x5, vI x6, vI x7, vI x8, vI x9] [] M G 0 0 := by
  refine q_goto 271 (by decide) (show sCode 246 222 = some (.goto 49, 3) by decide +kernel) ?_
  exact kk
theorem b246_225 {d : Nat} {Q : Option sV → sM → sG → Prop} {M : sM} {G : sG} {a0 : Nat} {x1 : Int} {x2 : Int} {x3 : Int} {x4 : Int} {x5 : Int} {x6 : Int} {x7 : Int} {x8 : Int} {x9 : Int}  (kk : sC d 209 [vO 12 a0, vI x9, vI 4] M G (QI (fun r M1 G1 => sW (sC d) 246 Q 234 [vO 12 a0, vI x1, vI x2, vI x3, vI x4, vI x5, vI x6, vN, vI x8, vI x9] (vI r :: [vI x7]) M1 G1 0 0))) : sW (sC d) 246 Q 225 [vO 12 a0, vI x1, vI x2, vI x3, vI x4, vI x5, vI x6, vI x7, vI x8, vI x9] [] M G 0 0 := by
  refine q_iload 227 rfl (show sCode 246 225 = some (.iload 7, 2) by decide +kernel) rfl ?_
  refine q_aload_n 228 rfl (show sCode 246 227 = some (.aload_n 0, 1) by decide +kernel) rfl (Nat.le_of_ble_eq_true rfl) ?_
  refine q_iload 230 rfl (show sCode 246 228 = some (.iload 9, 2) by decide +kernel) rfl ?_
  refine q_iconst 231 rfl (show sCode 246 230 = some (.iconst 4, 1) by decide +kernel) ⟨by decide, by decide⟩ ?_
  refine q_forget (L' := [vO 12 a0, vI x1, vI x2, vI x3, vI x4, vI x5, vI x6, vN, vI x8, vI x9]) 7 rfl ?_
  exact q_virtI [vI x9, vI 4] 234 rfl (show sCode 246 231 = some (.invokevirtual 302, 3) by decide +kernel) (show sMR (sKo 246).1 302 = some 209 by decide +kernel) (show 209 < 1000 ∧ sStat 209 = false ∧ sIni 209 = false ∧ sKo 209 = (12, 2, 1, 0, 0) by decide +kernel) rfl (Or.inl rfl) rfl (Nat.le_of_ble_eq_true rfl) rfl rfl rfl (by decide +kernel) kk
theorem b246_234 {d : Nat} {Q : Option sV → sM → sG → Prop} {M : sM} {G : sG} {a0 : Nat} {x1 : Int} {x2 : Int} {x3 : Int} {x4 : Int} {x5 : Int} {x6 : Int} {x8 : Int} {x9 : Int} {s0 : Int} {s1 : Int} (h1 : sI (s1 + s0)) (k1 : x8 = 0 → sW (sC d) 246 Q 268 [vO 12 a0, vI x1, vI x2, vI x3, vI x4, vI x5, vI x6, vI (s1 + s0), vN, vI x9] [] M G 0 0) (k2 : x8 ≠ 0 → sW (sC d) 246 Q 242 [vO 12 a0, vI x1, vI x2, vI x3, vI x4, vI x5, vI x6, vI (s1 + s0), vN, vI x9] [] M G 0 0) : sW (sC d) 246 Q 234 [vO 12 a0, vI x1, vI x2, vI x3, vI x4, vI x5, vI x6, vN, vI x8, vI x9] [vI s0, vI s1] M G 0 0 := by
  refine q_iadd 235 rfl (show sCode 246 234 = some (.iadd, 1) by decide +kernel) h1 ?_
  refine q_istore [vO 12 a0, vI x1, vI x2, vI x3, vI x4, vI x5, vI x6, vI (s1 + s0), vI x8, vI x9] 237 rfl (show sCode 246 235 = some (.istore 7, 2) by decide +kernel) (Nat.lt_of_lt_of_le (Nat.lt_succ_self _) (Nat.le_of_ble_eq_true rfl)) rfl rfl ?_
  refine q_iload 239 rfl (show sCode 246 237 = some (.iload 8, 2) by decide +kernel) rfl ?_
  refine q_ifeq 268 242 rfl (by decide) (show sCode 246 239 = some (.ifCond .eq 29, 3) by decide +kernel) ?_ ?_
  · intro q; refine q_forget (L' := [vO 12 a0, vI x1, vI x2, vI x3, vI x4, vI x5, vI x6, vI (s1 + s0), vN, vI x9]) 8 rfl ?_; exact k1 q
  · intro q; refine q_forget (L' := [vO 12 a0, vI x1, vI x2, vI x3, vI x4, vI x5, vI x6, vI (s1 + s0), vN, vI x9]) 8 rfl ?_; exact k2 q
theorem b246_242 {d : Nat} {Q : Option sV → sM → sG → Prop} {M : sM} {G : sG} {a0 : Nat} {x1 : Int} {x2 : Int} {x3 : Int} {x4 : Int} {x5 : Int} {x6 : Int} {x7 : Int} {x9 : Int} (h1 : 0 ≤ x9 ∧ x9 < 18) (kk : sC d 245 [vI (iAnd (M (a0 + 14) x9.toNat) x6)] M G (QI (fun r M1 G1 => sW (sC d) 246 Q 255 [vO 12 a0, vI x1, vI x2, vI x3, vI x4, vI x5, vI x6, vI x7, vN, vI x9] (vI r :: []) M1 G1 0 0))) : sW (sC d) 246 Q 242 [vO 12 a0, vI x1, vI x2, vI x3, vI x4, vI x5, vI x6, vI x7, vN, vI x9] [] M G 0 0 := by
  refine q_aload_n 243 rfl (show sCode 246 242 = some (.aload_n 0, 1) by decide +kernel) rfl (Nat.le_of_ble_eq_true rfl) ?_
  refine q_getR (vA 0 (a0 + 14) 18) 246 rfl (show sCode 246 243 = some (.getfield 51, 3) by decide +kernel) (show sFR (sKo 246).1 51 = some (12, 26) by decide +kernel) (by decide +kernel) (Or.inl (Or.inl rfl)) rfl ?_
  refine q_iload 248 rfl (show sCode 246 246 = some (.iload 9, 2) by decide +kernel) rfl ?_
  refine q_iald 249 rfl (show sCode 246 248 = some (.iaload, 1) by decide +kernel) h1 ?_
  refine q_iload 251 rfl (show sCode 246 249 = some (.iload 6, 2) by decide +kernel) rfl ?_
  refine q_iand 252 rfl (show sCode 246 251 = some (.iand, 1) by decide +kernel) ?_
  exact q_statI [vI (iAnd (M (a0 + 14) x9.toNat) x6)] 255 rfl (show sCode 246 252 = some (.invokestatic 381, 3) by decide +kernel) (show sMR (sKo 246).1 381 = some 245 by decide +kernel) (show 245 < 1000 ∧ sStat 245 = true ∧ sKo 245 = (12, 1, 1, 0, 0) by decide +kernel) rfl rfl (Nat.le_of_ble_eq_true rfl) rfl rfl rfl (by decide +kernel) kk
theorem b246_255 {d : Nat} {Q : Option sV → sM → sG → Prop} {M : sM} {G : sG} {a0 : Nat} {x1 : Int} {x2 : Int} {x3 : Int} {x4 : Int} {x5 : Int} {x6 : Int} {x7 : Int} {x9 : Int} {s0 : Int}  (kk : sC d 204 [vO 12 a0, vI x1, vI 1] M G (QI (fun r M1 G1 => sW (sC d) 246 Q 261 [vO 12 a0, vI x1, vI x2, vI x3, vI x4, vI x5, vI x6, vI x7, vN, vI x9] (vI r :: [vI s0]) M1 G1 0 0))) : sW (sC d) 246 Q 255 [vO 12 a0, vI x1, vI x2, vI x3, vI x4, vI x5, vI x6, vI x7, vN, vI x9] [vI s0] M G 0 0 := by
  refine q_aload_n 256 rfl (show sCode 246 255 = some (.aload_n 0, 1) by decide +kernel) rfl (Nat.le_of_ble_eq_true rfl) ?_
  refine q_iload_n 257 rfl (show sCode 246 256 = some (.iload_n 1, 1) by decide +kernel) rfl ?_
  refine q_iconst 258 rfl (show sCode 246 257 = some (.iconst 1, 1) by decide +kernel) ⟨by decide, by decide⟩ ?_
  exact q_virtI [vI x1, vI 1] 261 rfl (show sCode 246 258 = some (.invokevirtual 284, 3) by decide +kernel) (show sMR (sKo 246).1 284 = some 204 by decide +kernel) (show 204 < 1000 ∧ sStat 204 = false ∧ sIni 204 = false ∧ sKo 204 = (12, 2, 1, 0, 0) by decide +kernel) rfl (Or.inl rfl) rfl (Nat.le_of_ble_eq_true rfl) rfl rfl rfl (by decide +kernel) kk
theorem b246_261 {d : Nat} {Q : Option sV → sM → sG → Prop} {M : sM} {G : sG} {a0 : Nat} {x1 : Int} {x2 : Int} {x3 : Int} {x4 : Int} {x5 : Int} {x6 : Int} {x7 : Int} {x9 : Int} {s0 : Int} {s1 : Int}  (k1 : s0 < s1 → sW (sC d) 246 Q 268 [vO 12 a0, vI x1, vI x2, vI x3, vI x4, vI x5, vI x6, vI x7, vN, vI x9] [] M G 0 0) (k2 : s1 ≤ s0 → sW (sC d) 246 Q 264 [vO 12 a0, vI x1, vI x2, vI x3, vI x4, vI x5, vI x6, vI x7, vN, vI x9] [] M G 0 0) : sW (sC d) 246 Q 261 [vO 12 a0, vI x1, vI x2, vI x3, vI x4, vI x5, vI x6, vI x7, vN, vI x9] [vI s0, vI s1] M G 0 0 := by
  refine q_icmpgt 268 264 rfl (by decide) (show sCode 246 261 = some (.if_icmp .gt 7, 3) by decide +kernel) ?_ ?_
  · intro q; exact k1 q
  · intro q; exact k2 q
theorem b246_264 {d : Nat} {Q : Option sV → sM → sG → Prop} {M : sM} {G : sG} {a0 : Nat} {x1 : Int} {x2 : Int} {x3 : Int} {x4 : Int} {x5 : Int} {x6 : Int} {x7 : Int} {x9 : Int}  (kk : sW (sC d) 246 Q 269 [vO 12 a0, vI x1, vI x2, vI x3, vI x4, vI x5, vI x6, vI x7, vN, vI x9] [vI 1] M G 0 0) : sW (sC d) 246 Q 264 [vO 12 a0, vI x1, vI x2, vI x3, vI x4, vI x5, vI x6, vI x7, vN, vI x9] [] M G 0 0 := by
  refine q_iconst 265 rfl (show sCode 246 264 = some (.iconst 1, 1) by decide +kernel) ⟨by decide, by decide⟩ ?_
  refine q_goto 269 (by decide) (show sCode 246 265 = some (.goto 4, 3) by decide +kernel) ?_
  exact kk
theorem b246_268 {d : Nat} {Q : Option sV → sM → sG → Prop} {M : sM} {G : sG} {a0 : Nat} {x1 : Int} {x2 : Int} {x3 : Int} {x4 : Int} {x5 : Int} {x6 : Int} {x7 : Int} {x9 : Int}  (kk : sW (sC d) 246 Q 269 [vO 12 a0, vI x1, vI x2, vI x3, vI x4, vI x5, vI x6, vI x7, vN, vI x9] [vI 0] M G 0 0) : sW (sC d) 246 Q 268 [vO 12 a0, vI x1, vI x2, vI x3, vI x4, vI x5, vI x6, vI x7, vN, vI x9] [] M G 0 0 := by
  refine q_iconst 269 rfl (show sCode 246 268 = some (.iconst 0, 1) by decide +kernel) ⟨by decide, by decide⟩ ?_
  exact kk
theorem b246_269 {d : Nat} {Q : Option sV → sM → sG → Prop} {M : sM} {G : sG} {a0 : Nat} {x1 : Int} {x2 : Int} {x3 : Int} {x4 : Int} {x5 : Int} {x6 : Int} {x7 : Int} {x9 : Int} {s0 : Int}  (kk : sW (sC d) 246 Q 271 [vO 12 a0, vI x1, vI x2, vI x3, vI x4, vI x5, vI x6, vI x7, vI s0, vI x9] [] M G 0 0) : sW (sC d) 246 Q 269 [vO 12 a0, vI x1, vI x2, vI x3, vI x4, vI x5, vI x6, vI x7, vN, vI x9] [vI s0] M G 0 0 := by
  refine q_istore [vO 12 a0, vI x1, vI x2, vI x3, vI x4, vI x5, vI x6, vI x7, vI s0, vI x9] 271 rfl (show sCode 246 269 = some (.istore 8, 2) by decide +kernel) (Nat.lt_of_lt_of_le (Nat.lt_succ_self _) (Nat.le_of_ble_eq_true rfl)) rfl rfl ?_
  exact kk
theorem b246_271 {d : Nat} {Q : Option sV → sM → sG → Prop} {M : sM} {G : sG} {a0 : Nat} {x1 : Int} {x2 : Int} {x3 : Int} {x4 : Int} {x5 : Int} {x6 : Int} {x7 : Int} {x8 : Int} {x9 : Int} (h1 : sI (x9 + 1)) (kk : sW (sC d) 246 Q 201 [vO 12 a0, vI x1, vI x2, vI x3, vI x4, vI x5, vI x6, vI x7, vI x8, vI (x9 + 1)] [] M G 0 0) : sW (sC d) 246 Q 271 [vO 12 a0, vI x1, vI x2, vI x3, vI x4, vI x5, vI x6, vI x7, vI x8, vI x9] [] M G 0 0 := by
  refine q_iinc [vO 12 a0, vI x1, vI x2, vI x3, vI x4, vI x5, vI x6, vI x7, vI x8, vI (x9 + 1)] 274 rfl (show sCode 246 271 = some (.iinc 9 1, 3) by decide +kernel) rfl rfl h1 rfl ?_
  refine q_goto 201 (by decide) (show sCode 246 274 = some (.goto (-73), 3) by decide +kernel) ?_
  exact kk
theorem b246_277 {d : Nat} {Q : Option sV → sM → sG → Prop} {M : sM} {G : sG} {a0 : Nat} {x1 : Int} {x2 : Int} {x3 : Int} {x4 : Int} {x5 : Int} {x6 : Int} {x7 : Int} {x8 : Int}  (k1 : x8 = 0 → sW (sC d) 246 Q 300 [vO 12 a0, vI x1, vI x2, vI x3, vI x4, vI x5, vI x6, vN, vN, vN] [] M G 0 0) (k2 : x8 ≠ 0 → sW (sC d) 246 Q 282 [vO 12 a0, vI x1, vI x2, vI x3, vI x4, vI x5, vI x6, vI x7, vN, vN] [] M G 0 0) : sW (sC d) 246 Q 277 [vO 12 a0, vI x1, vI x2, vI x3, vI x4, vI x5, vI x6, vI x7, vI x8, vN] [] M G 0 0 := by
  refine q_iload 279 rfl (show sCode 246 277 = some (.iload 8, 2) by decide +kernel) rfl ?_
  refine q_ifeq 300 282 rfl (by decide) (show sCode 246 279 = some (.ifCond .eq 21, 3) by decide +kernel) ?_ ?_
  · intro q; refine q_forget (L' := [vO 12 a0, vI x1, vI x2, vI x3, vI x4, vI x5, vI x6, vN, vI x8, vN]) 7 rfl ?_; refine q_forget (L' := [vO 12 a0, vI x1, vI x2, vI x3, vI x4, vI x5, vI x6, vN, vN, vN]) 8 rfl ?_; exact k1 q
  · intro q; refine q_forget (L' := [vO 12 a0, vI x1, vI x2, vI x3, vI x4, vI x5, vI x6, vI x7, vN, vN]) 8 rfl ?_; exact k2 q
theorem b246_282 {d : Nat} {Q : Option sV → sM → sG → Prop} {M : sM} {G : sG} {a0 : Nat} {x1 : Int} {x2 : Int} {x3 : Int} {x4 : Int} {x5 : Int} {x6 : Int} {x7 : Int}  (k1 : x5 < x7 → sW (sC d) 246 Q 292 [vO 12 a0, vI x1, vI x2, vI x3, vN, vN, vI x6, vI x7, vN, vN] [] M G 0 0) (k2 : x7 ≤ x5 → sW (sC d) 246 Q 289 [vO 12 a0, vI x1, vI x2, vI x3, vI x4, vI x5, vI x6, vN, vN, vN] [] M G 0 0) : sW (sC d) 246 Q 282 [vO 12 a0, vI x1, vI x2, vI x3, vI x4, vI x5, vI x6, vI x7, vN, vN] [] M G 0 0 := by
  refine q_iload 284 rfl (show sCode 246 282 = some (.iload 7, 2) by decide +kernel) rfl ?_
  refine q_iload 286 rfl (show sCode 246 284 = some (.iload 5, 2) by decide +kernel) rfl ?_
  refine q_icmpgt 292 289 rfl (by decide) (show sCode 246 286 = some (.if_icmp .gt 6, 3) by decide +kernel) ?_ ?_
  · intro q; refine q_forget (L' := [vO 12 a0, vI x1, vI x2, vI x3, vN, vI x5, vI x6, vI x7, vN, vN]) 4 rfl ?_; refine q_forget (L' := [vO 12 a0, vI x1, vI x2, vI x3, vN, vN, vI x6, vI x7, vN, vN]) 5 rfl ?_; exact k1 q
  · intro q; refine q_forget (L' := [vO 12 a0, vI x1, vI x2, vI x3, vI x4, vI x5, vI x6, vN, vN, vN]) 7 rfl ?_; exact k2 q
theorem b246_289 {d : Nat} {Q : Option sV → sM → sG → Prop} {M : sM} {G : sG} {a0 : Nat} {x1 : Int} {x2 : Int} {x3 : Int} {x4 : Int} {x5 : Int} {x6 : Int}  (kk : sW (sC d) 246 Q 300 [vO 12 a0, vI x1, vI x2, vI x3, vI x4, vI x5, vI x6, vN, vN, vN] [] M G 0 0) : sW (sC d) 246 Q 289 [vO 12 a0, vI x1, vI x2, vI x3, vI x4, vI x5, vI x6, vN, vN, vN] [] M G 0 0 := by
  refine q_goto 300 (by decide) (show sCode 246 289 = some (.goto 11, 3) by decide +kernel) ?_
  exact kk
theorem b246_292 {d : Nat} {Q : Option sV → sM → sG → Prop} {M : sM} {G : sG} {a0 : Nat} {x1 : Int} {x2 : Int} {x3 : Int} {x6 : Int} {x7 : Int}  (kk : sW (sC d) 246 Q 300 [vO 12 a0, vI x1, vI x2, vI x3, vI x6, vI x7, vI x6, vN, vN, vN] [] M G 0 0) : sW (sC d) 246 Q 292 [vO 12 a0, vI x1, vI x2, vI x3, vN, vN, vI x6, vI x7, vN, vN] [] M G 0 0 := by
  refine q_iload 294 rfl (show sCode 246 292 = some (.iload 6, 2) by decide +kernel) rfl ?_
  refine q_istore [vO 12 a0, vI x1, vI x2, vI x3, vI x6, vN, vI x6, vI x7, vN, vN] 296 rfl (show sCode 246 294 = some (.istore 4, 2) by decide +kernel) (Nat.lt_of_lt_of_le (Nat.lt_succ_self _) (Nat.le_of_ble_eq_true rfl)) rfl rfl ?_
  refine q_iload 298 rfl (show sCode 246 296 = some (.iload 7, 2) by decide +kernel) rfl ?_
  refine q_istore [vO 12 a0, vI x1, vI x2, vI x3, vI x6, vI x7, vI x6, vI x7, vN, vN] 300 rfl (show sCode 246 298 = some (.istore 5, 2) by decide +kernel) (Nat.lt_of_lt_of_le (Nat.lt_succ_self _) (Nat.le_of_ble_eq_true rfl)) rfl rfl ?_
  refine q_forget (L' := [vO 12 a0, vI x1, vI x2, vI x3, vI x6, vI x7, vI x6, vN, vN, vN]) 7 rfl ?_
  exact kk
theorem b246_300 {d : Nat} {Q : Option sV → sM → sG → Prop} {M : sM} {G : sG} {a0 : Nat} {x1 : Int} {x2 : Int} {x3 : Int} {x4 : Int} {x5 : Int} {x6 : Int} (h1 : sI (x6 + 1)) (kk : sW (sC d) 246 Q 158 [vO 12 a0, vI x1, vI x2, vI x3, vI x4, vI x5, vI (x6 + 1), vN, vN, vN] [] M G 0 0) : sW (sC d) 246 Q 300 [vO 12 a0, vI x1, vI x2, vI x3, vI x4, vI x5, vI x6, vN, vN, vN] [] M G 0 0 := by
  refine q_iinc [vO 12 a0, vI x1, vI x2, vI x3, vI x4, vI x5, vI (x6 + 1), vN, vN, vN] 303 rfl (show sCode 246 300 = some (.iinc 6 1, 3) by decide +kernel) rfl rfl h1 rfl ?_
  refine q_goto 158 (by decide) (show sCode 246 303 = some (.goto (-145), 3) by decide +kernel) ?_
  exact kk
theorem b246_306 {d : Nat} {Q : Option sV → sM → sG → Prop} {M : sM} {G : sG} {x2 : Int} {x4 : Int} {x5 : Int}  (k1 : x2 ≠ 0 → sW (sC d) 246 Q 315 [vN, vN, vN, vN, vI x4, vN, vN, vN, vN, vN] [] M G 0 0) (k2 : x2 = 0 → sW (sC d) 246 Q 310 [vN, vN, vN, vN, vN, vI x5, vN, vN, vN, vN] [] M G 0 0) : sW (sC d) 246 Q 306 [vN, vN, vI x2, vN, vI x4, vI x5, vN, vN, vN, vN] [] M G 0 0 := by
  refine q_iload_n 307 rfl (show sCode 246 306 = some (.iload_n 2, 1) by decide +kernel) rfl ?_
  refine q_ifne 315 310 rfl (by decide) (show sCode 246 307 = some (.ifCond .ne 8, 3) by decide +kernel) ?_ ?_
  · intro q; refine q_forget (L' := [vN, vN, vN, vN, vI x4, vI x5, vN, vN, vN, vN]) 2 rfl ?_; refine q_forget (L' := [vN, vN, vN, vN, vI x4, vN, vN, vN, vN, vN]) 5 rfl ?_; exact k1 q
  · intro q; refine q_forget (L' := [vN, vN, vN, vN, vI x4, vI x5, vN, vN, vN, vN]) 2 rfl ?_; refine q_forget (L' := [vN, vN, vN, vN, vN, vI x5, vN, vN, vN, vN]) 4 rfl ?_; exact k2 q
theorem b246_310 {d : Nat} {Q : Option sV → sM → sG → Prop} {M : sM} {G : sG} {x5 : Int}  (kk : sW (sC d) 246 Q 317 [vN, vN, vN, vN, vN, vN, vN, vN, vN, vN] [vI x5] M G 0 0) : sW (sC d) 246 Q 310 [vN, vN, vN, vN, vN, vI x5, vN, vN, vN, vN] [] M G 0 0 := by
  refine q_iload 312 rfl (show sCode 246 310 = some (.iload 5, 2) by decide +kernel) rfl ?_
  refine q_goto 317 (by decide) (show sCode 246 312 = some (.goto 5, 3) by decide +kernel) ?_
  refine q_forget (L' := [vN, vN, vN, vN, vN, vN, vN, vN, vN, vN]) 5 rfl ?_
  exact kk
theorem b246_315 {d : Nat} {Q : Option sV → sM → sG → Prop} {M : sM} {G : sG} {x4 : Int}  (kk : sW (sC d) 246 Q 317 [vN, vN, vN, vN, vN, vN, vN, vN, vN, vN] [vI x4] M G 0 0) : sW (sC d) 246 Q 315 [vN, vN, vN, vN, vI x4, vN, vN, vN, vN, vN] [] M G 0 0 := by
  refine q_iload 317 rfl (show sCode 246 315 = some (.iload 4, 2) by decide +kernel) rfl ?_
  refine q_forget (L' := [vN, vN, vN, vN, vN, vN, vN, vN, vN, vN]) 4 rfl ?_
  exact kk
theorem b246_317 {d : Nat} {P : Int → sM → sG → Prop} {M : sM} {G : sG} {s0 : Int}  (kk : P s0 M G) : sW (sC d) 246 (QI P) 317 [vN, vN, vN, vN, vN, vN, vN, vN, vN, vN] [vI s0] M G 0 0 := by
  exact q_iret (show sCode 246 317 = some (.ireturn, 1) by decide +kernel) (by decide +kernel) (by decide +kernel) kk
-- 247 AfterTheLastModel.houses (III)I
theorem b247_0 {d : Nat} {Q : Option sV → sM → sG → Prop} {M : sM} {G : sG} {a0 : Nat} {x1 : Int} {x2 : Int} {x3 : Int}  (kk : sC d 241 [vO 12 a0, vI x1] M G (QI (fun r M1 G1 => sW (sC d) 247 Q 5 [vO 12 a0, vI x1, vI x2, vI x3, vN, vN, vN, vN, vN, vN, vN, vN] (vI r :: []) M1 G1 0 0))) : sW (sC d) 247 Q 0 [vO 12 a0, vI x1, vI x2, vI x3, vN, vN, vN, vN, vN, vN, vN, vN] [] M G 0 0 := by
  refine q_aload_n 1 rfl (show sCode 247 0 = some (.aload_n 0, 1) by decide +kernel) rfl (Nat.le_of_ble_eq_true rfl) ?_
  refine q_iload_n 2 rfl (show sCode 247 1 = some (.iload_n 1, 1) by decide +kernel) rfl ?_
  exact q_virtI [vI x1] 5 rfl (show sCode 247 2 = some (.invokevirtual 372, 3) by decide +kernel) (show sMR (sKo 247).1 372 = some 241 by decide +kernel) (show 241 < 1000 ∧ sStat 241 = false ∧ sIni 241 = false ∧ sKo 241 = (12, 1, 2, 0, 0) by decide +kernel) rfl (Or.inl rfl) rfl (Nat.le_of_ble_eq_true rfl) rfl rfl rfl (by decide +kernel) kk
theorem b247_5 {d : Nat} {Q : Option sV → sM → sG → Prop} {M : sM} {G : sG} {a0 : Nat} {x1 : Int} {x2 : Int} {x3 : Int} {s0 : Int}  (k1 : s0 = 0 → sW (sC d) 247 Q 45 [vN, vN, vN, vN, vN, vN, vN, vN, vN, vN, vN, vN] [] M G 0 0) (k2 : s0 ≠ 0 → sW (sC d) 247 Q 8 [vO 12 a0, vI x1, vI x2, vI x3, vN, vN, vN, vN, vN, vN, vN, vN] [] M G 0 0) : sW (sC d) 247 Q 5 [vO 12 a0, vI x1, vI x2, vI x3, vN, vN, vN, vN, vN, vN, vN, vN] [vI s0] M G 0 0 := by
  refine q_ifeq 45 8 rfl (by decide) (show sCode 247 5 = some (.ifCond .eq 40, 3) by decide +kernel) ?_ ?_
  · intro q; refine q_forget (L' := [vN, vI x1, vI x2, vI x3, vN, vN, vN, vN, vN, vN, vN, vN]) 0 rfl ?_; refine q_forget (L' := [vN, vN, vI x2, vI x3, vN, vN, vN, vN, vN, vN, vN, vN]) 1 rfl ?_; refine q_forget (L' := [vN, vN, vN, vI x3, vN, vN, vN, vN, vN, vN, vN, vN]) 2 rfl ?_; refine q_forget (L' := [vN, vN, vN, vN, vN, vN, vN, vN, vN, vN, vN, vN]) 3 rfl ?_; exact k1 q
  · intro q; exact k2 q
theorem b247_8 {d : Nat} {Q : Option sV → sM → sG → Prop} {M : sM} {G : sG} {a0 : Nat} {x1 : Int} {x2 : Int} {x3 : Int}  (kk : sC d 245 [vI x1] M G (QI (fun r M1 G1 => sW (sC d) 247 Q 12 [vO 12 a0, vI x1, vI x2, vI x3, vN, vN, vN, vN, vN, vN, vN, vN] (vI r :: []) M1 G1 0 0))) : sW (sC d) 247 Q 8 [vO 12 a0, vI x1, vI x2, vI x3, vN, vN, vN, vN, vN, vN, vN, vN] [] M G 0 0 := by
  refine q_iload_n 9 rfl (show sCode 247 8 = some (.iload_n 1, 1) by decide +kernel) rfl ?_
  exact q_statI [vI x1] 12 rfl (show sCode 247 9 = some (.invokestatic 381, 3) by decide +kernel) (show sMR (sKo 247).1 381 = some 245 by decide +kernel) (show 245 < 1000 ∧ sStat 245 = true ∧ sKo 245 = (12, 1, 1, 0, 0) by decide +kernel) rfl rfl (Nat.le_of_ble_eq_true rfl) rfl rfl rfl (by decide +kernel) kk
theorem b247_12 {d : Nat} {Q : Option sV → sM → sG → Prop} {M : sM} {G : sG} {a0 : Nat} {x1 : Int} {x2 : Int} {x3 : Int} {s0 : Int}  (kk : sC d 183 [vL s0, vL 1, vL 12] M G (QI (fun r M1 G1 => sW (sC d) 247 Q 20 [vO 12 a0, vI x1, vI x2, vI x3, vN, vN, vN, vN, vN, vN, vN, vN] (vI r :: []) M1 G1 0 0))) : sW (sC d) 247 Q 12 [vO 12 a0, vI x1, vI x2, vI x3, vN, vN, vN, vN, vN, vN, vN, vN] [vI s0] M G 0 0 := by
  refine q_i2l 13 rfl (show sCode 247 12 = some (.i2l, 1) by decide +kernel) ?_
  refine q_lconst 14 rfl (show sCode 247 13 = some (.lconst 1, 1) by decide +kernel) ?_
  refine q_ldc2_w 17 rfl (show sCode 247 14 = some (.ldc2_w 384, 3) by decide +kernel) (show sLR (sKo 247).1 384 = some 12 by decide +kernel) ⟨by decide, by decide⟩ ?_
  exact q_statI [vL s0, vL 1, vL 12] 20 rfl (show sCode 247 17 = some (.invokestatic 127, 3) by decide +kernel) (show sMR (sKo 247).1 127 = some 183 by decide +kernel) (show 183 < 1000 ∧ sStat 183 = true ∧ sKo 183 = (12, 3, 2, 0, 0) by decide +kernel) rfl rfl (Nat.le_of_ble_eq_true rfl) rfl rfl rfl (by decide +kernel) kk
theorem b247_20 {d : Nat} {Q : Option sV → sM → sG → Prop} {M : sM} {G : sG} {a0 : Nat} {x1 : Int} {x2 : Int} {x3 : Int} {s0 : Int}  (k1 : s0 = 0 → sW (sC d) 247 Q 45 [vN, vN, vN, vN, vN, vN, vN, vN, vN, vN, vN, vN] [] M G 0 0) (k2 : s0 ≠ 0 → sW (sC d) 247 Q 23 [vO 12 a0, vI x1, vI x2, vI x3, vN, vN, vN, vN, vN, vN, vN, vN] [] M G 0 0) : sW (sC d) 247 Q 20 [vO 12 a0, vI x1, vI x2, vI x3, vN, vN, vN, vN, vN, vN, vN, vN] [vI s0] M G 0 0 := by
  refine q_ifeq 45 23 rfl (by decide) (show sCode 247 20 = some (.ifCond .eq 25, 3) by decide +kernel) ?_ ?_
  · intro q; refine q_forget (L' := [vN, vI x1, vI x2, vI x3, vN, vN, vN, vN, vN, vN, vN, vN]) 0 rfl ?_; refine q_forget (L' := [vN, vN, vI x2, vI x3, vN, vN, vN, vN, vN, vN, vN, vN]) 1 rfl ?_; refine q_forget (L' := [vN, vN, vN, vI x3, vN, vN, vN, vN, vN, vN, vN, vN]) 2 rfl ?_; refine q_forget (L' := [vN, vN, vN, vN, vN, vN, vN, vN, vN, vN, vN, vN]) 3 rfl ?_; exact k1 q
  · intro q; exact k2 q
theorem b247_23 {d : Nat} {Q : Option sV → sM → sG → Prop} {M : sM} {G : sG} {a0 : Nat} {x1 : Int} {x2 : Int} {x3 : Int}  (kk : sC d 183 [vL x2, vL 0, vL 2] M G (QI (fun r M1 G1 => sW (sC d) 247 Q 32 [vO 12 a0, vI x1, vI x2, vI x3, vN, vN, vN, vN, vN, vN, vN, vN] (vI r :: []) M1 G1 0 0))) : sW (sC d) 247 Q 23 [vO 12 a0, vI x1, vI x2, vI x3, vN, vN, vN, vN, vN, vN, vN, vN] [] M G 0 0 := by
  refine q_iload_n 24 rfl (show sCode 247 23 = some (.iload_n 2, 1) by decide +kernel) rfl ?_
  refine q_i2l 25 rfl (show sCode 247 24 = some (.i2l, 1) by decide +kernel) ?_
  refine q_lconst 26 rfl (show sCode 247 25 = some (.lconst 0, 1) by decide +kernel) ?_
  refine q_ldc2_w 29 rfl (show sCode 247 26 = some (.ldc2_w 363, 3) by decide +kernel) (show sLR (sKo 247).1 363 = some 2 by decide +kernel) ⟨by decide, by decide⟩ ?_
  exact q_statI [vL x2, vL 0, vL 2] 32 rfl (show sCode 247 29 = some (.invokestatic 127, 3) by decide +kernel) (show sMR (sKo 247).1 127 = some 183 by decide +kernel) (show 183 < 1000 ∧ sStat 183 = true ∧ sKo 183 = (12, 3, 2, 0, 0) by decide +kernel) rfl rfl (Nat.le_of_ble_eq_true rfl) rfl rfl rfl (by decide +kernel) kk
theorem b247_32 {d : Nat} {Q : Option sV → sM → sG → Prop} {M : sM} {G : sG} {a0 : Nat} {x1 : Int} {x2 : Int} {x3 : Int} {s0 : Int}  (k1 : s0 = 0 → sW (sC d) 247 Q 45 [vN, vN, vN, vN, vN, vN, vN, vN, vN, vN, vN, vN] [] M G 0 0) (k2 : s0 ≠ 0 → sW (sC d) 247 Q 35 [vO 12 a0, vI x1, vI x2, vI x3, vN, vN, vN, vN, vN, vN, vN, vN] [] M G 0 0) : sW (sC d) 247 Q 32 [vO 12 a0, vI x1, vI x2, vI x3, vN, vN, vN, vN, vN, vN, vN, vN] [vI s0] M G 0 0 := by
  refine q_ifeq 45 35 rfl (by decide) (show sCode 247 32 = some (.ifCond .eq 13, 3) by decide +kernel) ?_ ?_
  · intro q; refine q_forget (L' := [vN, vI x1, vI x2, vI x3, vN, vN, vN, vN, vN, vN, vN, vN]) 0 rfl ?_; refine q_forget (L' := [vN, vN, vI x2, vI x3, vN, vN, vN, vN, vN, vN, vN, vN]) 1 rfl ?_; refine q_forget (L' := [vN, vN, vN, vI x3, vN, vN, vN, vN, vN, vN, vN, vN]) 2 rfl ?_; refine q_forget (L' := [vN, vN, vN, vN, vN, vN, vN, vN, vN, vN, vN, vN]) 3 rfl ?_; exact k1 q
  · intro q; exact k2 q
theorem b247_35 {d : Nat} {Q : Option sV → sM → sG → Prop} {M : sM} {G : sG} {a0 : Nat} {x1 : Int} {x2 : Int} {x3 : Int}  (kk : sC d 183 [vL x3, vL 0, vL 1] M G (QI (fun r M1 G1 => sW (sC d) 247 Q 42 [vO 12 a0, vI x1, vI x2, vI x3, vN, vN, vN, vN, vN, vN, vN, vN] (vI r :: []) M1 G1 0 0))) : sW (sC d) 247 Q 35 [vO 12 a0, vI x1, vI x2, vI x3, vN, vN, vN, vN, vN, vN, vN, vN] [] M G 0 0 := by
  refine q_iload_n 36 rfl (show sCode 247 35 = some (.iload_n 3, 1) by decide +kernel) rfl ?_
  refine q_i2l 37 rfl (show sCode 247 36 = some (.i2l, 1) by decide +kernel) ?_
  refine q_lconst 38 rfl (show sCode 247 37 = some (.lconst 0, 1) by decide +kernel) ?_
  refine q_lconst 39 rfl (show sCode 247 38 = some (.lconst 1, 1) by decide +kernel) ?_
  exact q_statI [vL x3, vL 0, vL 1] 42 rfl (show sCode 247 39 = some (.invokestatic 127, 3) by decide +kernel) (show sMR (sKo 247).1 127 = some 183 by decide +kernel) (show 183 < 1000 ∧ sStat 183 = true ∧ sKo 183 = (12, 3, 2, 0, 0) by decide +kernel) rfl rfl (Nat.le_of_ble_eq_true rfl) rfl rfl rfl (by decide +kernel) kk
theorem b247_42 {d : Nat} {Q : Option sV → sM → sG → Prop} {M : sM} {G : sG} {a0 : Nat} {x1 : Int} {x2 : Int} {x3 : Int} {s0 : Int}  (k1 : s0 ≠ 0 → sW (sC d) 247 Q 47 [vO 12 a0, vI x1, vI x2, vI x3, vN, vN, vN, vN, vN, vN, vN, vN] [] M G 0 0) (k2 : s0 = 0 → sW (sC d) 247 Q 45 [vN, vN, vN, vN, vN, vN, vN, vN, vN, vN, vN, vN] [] M G 0 0) : sW (sC d) 247 Q 42 [vO 12 a0, vI x1, vI x2, vI x3, vN, vN, vN, vN, vN, vN, vN, vN] [vI s0] M G 0 0 := by
  refine q_ifne 47 45 rfl (by decide) (show sCode 247 42 = some (.ifCond .ne 5, 3) by decide +kernel) ?_ ?_
  · intro q; exact k1 q
  · intro q; refine q_forget (L' := [vN, vI x1, vI x2, vI x3, vN, vN, vN, vN, vN, vN, vN, vN]) 0 rfl ?_; refine q_forget (L' := [vN, vN, vI x2, vI x3, vN, vN, vN, vN, vN, vN, vN, vN]) 1 rfl ?_; refine q_forget (L' := [vN, vN, vN, vI x3, vN, vN, vN, vN, vN, vN, vN, vN]) 2 rfl ?_; refine q_forget (L' := [vN, vN, vN, vN, vN, vN, vN, vN, vN, vN, vN, vN]) 3 rfl ?_; exact k2 q
theorem b247_45 {d : Nat} {P : Int → sM → sG → Prop} {M : sM} {G : sG}   (kk : P (-1) M G) : sW (sC d) 247 (QI P) 45 [vN, vN, vN, vN, vN, vN, vN, vN, vN, vN, vN, vN] [] M G 0 0 := by
  refine q_iconst 46 rfl (show sCode 247 45 = some (.iconst (-1), 1) by decide +kernel) ⟨by decide, by decide⟩ ?_
  exact q_iret (show sCode 247 46 = some (.ireturn, 1) by decide +kernel) (by decide +kernel) (by decide +kernel) kk
theorem b247_47 {d : Nat} {Q : Option sV → sM → sG → Prop} {M : sM} {G : sG} {a0 : Nat} {x1 : Int} {x2 : Int} {x3 : Int}  (kk : sC d 242 [vO 12 a0, vI x2] M G (QV (fun M1 G1 => sW (sC d) 247 Q 52 [vO 12 a0, vI x1, vN, vI x3, vN, vN, vN, vN, vN, vN, vN, vN] [] M1 G1 0 0))) : sW (sC d) 247 Q 47 [vO 12 a0, vI x1, vI x2, vI x3, vN, vN, vN, vN, vN, vN, vN, vN] [] M G 0 0 := by
  refine q_aload_n 48 rfl (show sCode 247 47 = some (.aload_n 0, 1) by decide +kernel) rfl (Nat.le_of_ble_eq_true rfl) ?_
  refine q_iload_n 49 rfl (show sCode 247 48 = some (.iload_n 2, 1) by decide +kernel) rfl ?_
  refine q_forget (L' := [vO 12 a0, vI x1, vN, vI x3, vN, vN, vN, vN, vN, vN, vN, vN]) 2 rfl ?_
  exact q_virtV [vI x2] 52 rfl (show sCode 247 49 = some (.invokevirtual 375, 3) by decide +kernel) (show sMR (sKo 247).1 375 = some 242 by decide +kernel) (show 242 < 1000 ∧ sStat 242 = false ∧ sIni 242 = false ∧ sKo 242 = (12, 1, 0, 0, 0) by decide +kernel) rfl (Or.inl rfl) rfl (Nat.le_of_ble_eq_true rfl) rfl rfl rfl (by decide +kernel) kk
theorem b247_52 {d : Nat} {Q : Option sV → sM → sG → Prop} {M : sM} {G : sG} {a0 : Nat} {x1 : Int} {x3 : Int}  (kk : sW (sC d) 247 Q 58 [vO 12 a0, vI x1, vN, vI x3, vI 0, vI 0, vN, vN, vN, vN, vN, vN] [] M G 0 0) : sW (sC d) 247 Q 52 [vO 12 a0, vI x1, vN, vI x3, vN, vN, vN, vN, vN, vN, vN, vN] [] M G 0 0 := by
  refine q_iconst 53 rfl (show sCode 247 52 = some (.iconst 0, 1) by decide +kernel) ⟨by decide, by decide⟩ ?_
  refine q_istore [vO 12 a0, vI x1, vN, vI x3, vI 0, vN, vN, vN, vN, vN, vN, vN] 55 rfl (show sCode 247 53 = some (.istore 4, 2) by decide +kernel) (Nat.lt_of_lt_of_le (Nat.lt_succ_self _) (Nat.le_of_ble_eq_true rfl)) rfl rfl ?_
  refine q_iconst 56 rfl (show sCode 247 55 = some (.iconst 0, 1) by decide +kernel) ⟨by decide, by decide⟩ ?_
  refine q_istore [vO 12 a0, vI x1, vN, vI x3, vI 0, vI 0, vN, vN, vN, vN, vN, vN] 58 rfl (show sCode 247 56 = some (.istore 5, 2) by decide +kernel) (Nat.lt_of_lt_of_le (Nat.lt_succ_self _) (Nat.le_of_ble_eq_true rfl)) rfl rfl ?_
  exact kk
theorem b247_58 {d : Nat} {Q : Option sV → sM → sG → Prop} {M : sM} {G : sG} {a0 : Nat} {x1 : Int} {x3 : Int} {x4 : Int} {x5 : Int}  (k1 : M (a0 + 11) 1 ≤ x5 → sW (sC d) 247 Q 99 [vO 12 a0, vN, vN, vI x3, vI x4, vN, vN, vN, vN, vN, vN, vN] [] M G 0 0) (k2 : x5 < M (a0 + 11) 1 → sW (sC d) 247 Q 69 [vO 12 a0, vI x1, vN, vI x3, vI x4, vI x5, vN, vN, vN, vN, vN, vN] [] M G 0 0) : sW (sC d) 247 Q 58 [vO 12 a0, vI x1, vN, vI x3, vI x4, vI x5, vN, vN, vN, vN, vN, vN] [] M G 0 0 := by
  refine q_iload 60 rfl (show sCode 247 58 = some (.iload 5, 2) by decide +kernel) rfl ?_
  refine q_aload_n 61 rfl (show sCode 247 60 = some (.aload_n 0, 1) by decide +kernel) rfl (Nat.le_of_ble_eq_true rfl) ?_
  refine q_getR (vA 0 (a0 + 11) 274) 64 rfl (show sCode 247 61 = some (.getfield 42, 3) by decide +kernel) (show sFR (sKo 247).1 42 = some (12, 23) by decide +kernel) (by decide +kernel) (Or.inl (Or.inl rfl)) rfl ?_
  refine q_iconst 65 rfl (show sCode 247 64 = some (.iconst 1, 1) by decide +kernel) ⟨by decide, by decide⟩ ?_
  refine q_iald 66 rfl (show sCode 247 65 = some (.iaload, 1) by decide +kernel) ⟨by decide, by decide⟩ ?_
  refine q_icmpge 99 69 rfl (by decide) (show sCode 247 66 = some (.if_icmp .ge 33, 3) by decide +kernel) ?_ ?_
  · intro q; refine q_forget (L' := [vO 12 a0, vN, vN, vI x3, vI x4, vI x5, vN, vN, vN, vN, vN, vN]) 1 rfl ?_; refine q_forget (L' := [vO 12 a0, vN, vN, vI x3, vI x4, vN, vN, vN, vN, vN, vN, vN]) 5 rfl ?_; exact k1 q
  · intro q; exact k2 q
theorem b247_69 {d : Nat} {Q : Option sV → sM → sG → Prop} {M : sM} {G : sG} {a0 : Nat} {x1 : Int} {x3 : Int} {x4 : Int} {x5 : Int}  (kk : sC d 244 [vI x1, vI x5] M G (QI (fun r M1 G1 => sW (sC d) 247 Q 75 [vO 12 a0, vI x1, vN, vI x3, vI x4, vI x5, vN, vN, vN, vN, vN, vN] (vI r :: []) M1 G1 0 0))) : sW (sC d) 247 Q 69 [vO 12 a0, vI x1, vN, vI x3, vI x4, vI x5, vN, vN, vN, vN, vN, vN] [] M G 0 0 := by
  refine q_iload_n 70 rfl (show sCode 247 69 = some (.iload_n 1, 1) by decide +kernel) rfl ?_
  refine q_iload 72 rfl (show sCode 247 70 = some (.iload 5, 2) by decide +kernel) rfl ?_
  exact q_statI [vI x1, vI x5] 75 rfl (show sCode 247 72 = some (.invokestatic 369, 3) by decide +kernel) (show sMR (sKo 247).1 369 = some 244 by decide +kernel) (show 244 < 1000 ∧ sStat 244 = true ∧ sKo 244 = (12, 2, 2, 0, 0) by decide +kernel) rfl rfl (Nat.le_of_ble_eq_true rfl) rfl rfl rfl (by decide +kernel) kk
theorem b247_75 {d : Nat} {Q : Option sV → sM → sG → Prop} {M : sM} {G : sG} {a0 : Nat} {x1 : Int} {x3 : Int} {x4 : Int} {x5 : Int} {s0 : Int}  (k1 : s0 ≠ 0 → sW (sC d) 247 Q 81 [vO 12 a0, vI x1, vN, vI x3, vI x4, vI x5, vN, vN, vN, vN, vN, vN] [] M G 0 0) (k2 : s0 = 0 → sW (sC d) 247 Q 78 [vO 12 a0, vI x1, vN, vI x3, vI x4, vI x5, vN, vN, vN, vN, vN, vN] [] M G 0 0) : sW (sC d) 247 Q 75 [vO 12 a0, vI x1, vN, vI x3, vI x4, vI x5, vN, vN, vN, vN, vN, vN] [vI s0] M G 0 0 := by
  refine q_ifne 81 78 rfl (by decide) (show sCode 247 75 = some (.ifCond .ne 6, 3) by decide +kernel) ?_ ?_
  · intro q; exact k1 q
  · intro q; exact k2 q
theorem b247_78 {d : Nat} {Q : Option sV → sM → sG → Prop} {M : sM} {G : sG} {a0 : Nat} {x1 : Int} {x3 : Int} {x4 : Int} {x5 : Int}  (kk : sW (sC d) 247 Q 93 [vO 12 a0, vI x1, vN, vI x3, vI x4, vI x5, vN, vN, vN, vN, vN, vN] [] M G 0 0) : sW (sC d) 247 Q 78 [vO 12 a0, vI x1, vN, vI x3, vI x4, vI x5, vN, vN, vN, vN, vN, vN] [] M G 0 0 := by
  refine q_goto 93 (by decide) (show sCode 247 78 = some (.goto 15, 3) by decide +kernel) ?_
  exact kk
theorem b247_81 {d : Nat} {Q : Option sV → sM → sG → Prop} {M : sM} {G : sG} {a0 : Nat} {x1 : Int} {x3 : Int} {x4 : Int} {x5 : Int} (h1 : 0 ≤ x4 ∧ x4 < 12) (h2 : sI (x4 + 1)) (kk : sW (sC d) 247 Q 93 [vO 12 a0, vI x1, vN, vI x3, vI (x4 + 1), vI x5, vN, vN, vN, vN, vN, vN] [] (sUpd M (a0 + 16) x4.toNat x5) G 0 0) : sW (sC d) 247 Q 81 [vO 12 a0, vI x1, vN, vI x3, vI x4, vI x5, vN, vN, vN, vN, vN, vN] [] M G 0 0 := by
  refine q_aload_n 82 rfl (show sCode 247 81 = some (.aload_n 0, 1) by decide +kernel) rfl (Nat.le_of_ble_eq_true rfl) ?_
  refine q_getR (vA 0 (a0 + 16) 12) 85 rfl (show sCode 247 82 = some (.getfield 57, 3) by decide +kernel) (show sFR (sKo 247).1 57 = some (12, 28) by decide +kernel) (by decide +kernel) (Or.inl (Or.inl rfl)) rfl ?_
  refine q_iload 87 rfl (show sCode 247 85 = some (.iload 4, 2) by decide +kernel) rfl ?_
  refine q_iload 89 rfl (show sCode 247 87 = some (.iload 5, 2) by decide +kernel) rfl ?_
  refine q_iast 90 rfl (show sCode 247 89 = some (.iastore, 1) by decide +kernel) h1 ?_
  refine q_iinc [vO 12 a0, vI x1, vN, vI x3, vI (x4 + 1), vI x5, vN, vN, vN, vN, vN, vN] 93 rfl (show sCode 247 90 = some (.iinc 4 1, 3) by decide +kernel) rfl rfl h2 rfl ?_
  exact kk
theorem b247_93 {d : Nat} {Q : Option sV → sM → sG → Prop} {M : sM} {G : sG} {a0 : Nat} {x1 : Int} {x3 : Int} {x4 : Int} {x5 : Int} (h1 : sI (x5 + 1)) (kk : sW (sC d) 247 Q 58 [vO 12 a0, vI x1, vN, vI x3, vI x4, vI (x5 + 1), vN, vN, vN, vN, vN, vN] [] M G 0 0) : sW (sC d) 247 Q 93 [vO 12 a0, vI x1, vN, vI x3, vI x4, vI x5, vN, vN, vN, vN, vN, vN] [] M G 0 0 := by
  refine q_iinc [vO 12 a0, vI x1, vN, vI x3, vI x4, vI (x5 + 1), vN, vN, vN, vN, vN, vN] 96 rfl (show sCode 247 93 = some (.iinc 5 1, 3) by decide +kernel) rfl rfl h1 rfl ?_
  refine q_goto 58 (by decide) (show sCode 247 96 = some (.goto (-38), 3) by decide +kernel) ?_
  exact kk
theorem b247_99 {d : Nat} {Q : Option sV → sM → sG → Prop} {M : sM} {G : sG} {a0 : Nat} {x3 : Int} {x4 : Int}  (kk : sW (sC d) 247 Q 112 [vO 12 a0, vN, vN, vI x3, vI x4, vI 0, vI 1, vN, vN, vN, vN, vN] [] (sUpd M (a0 + 15) 0 0) G 0 0) : sW (sC d) 247 Q 99 [vO 12 a0, vN, vN, vI x3, vI x4, vN, vN, vN, vN, vN, vN, vN] [] M G 0 0 := by
  refine q_iconst 100 rfl (show sCode 247 99 = some (.iconst 0, 1) by decide +kernel) ⟨by decide, by decide⟩ ?_
  refine q_istore [vO 12 a0, vN, vN, vI x3, vI x4, vI 0, vN, vN, vN, vN, vN, vN] 102 rfl (show sCode 247 100 = some (.istore 5, 2) by decide +kernel) (Nat.lt_of_lt_of_le (Nat.lt_succ_self _) (Nat.le_of_ble_eq_true rfl)) rfl rfl ?_
  refine q_aload_n 103 rfl (show sCode 247 102 = some (.aload_n 0, 1) by decide +kernel) rfl (Nat.le_of_ble_eq_true rfl) ?_
  refine q_getR (vA 0 (a0 + 15) 4096) 106 rfl (show sCode 247 103 = some (.getfield 54, 3) by decide +kernel) (show sFR (sKo 247).1 54 = some (12, 27) by decide +kernel) (by decide +kernel) (Or.inl (Or.inl rfl)) rfl ?_
  refine q_iconst 107 rfl (show sCode 247 106 = some (.iconst 0, 1) by decide +kernel) ⟨by decide, by decide⟩ ?_
  refine q_iconst 108 rfl (show sCode 247 107 = some (.iconst 0, 1) by decide +kernel) ⟨by decide, by decide⟩ ?_
  refine q_iast 109 rfl (show sCode 247 108 = some (.iastore, 1) by decide +kernel) ⟨by decide, by decide⟩ ?_
  refine q_iconst 110 rfl (show sCode 247 109 = some (.iconst 1, 1) by decide +kernel) ⟨by decide, by decide⟩ ?_
  refine q_istore [vO 12 a0, vN, vN, vI x3, vI x4, vI 0, vI 1, vN, vN, vN, vN, vN] 112 rfl (show sCode 247 110 = some (.istore 6, 2) by decide +kernel) (Nat.lt_of_lt_of_le (Nat.lt_succ_self _) (Nat.le_of_ble_eq_true rfl)) rfl rfl ?_
  exact kk
theorem b247_112 {d : Nat} {Q : Option sV → sM → sG → Prop} {M : sM} {G : sG} {a0 : Nat} {x3 : Int} {x4 : Int} {x5 : Int} {x6 : Int}  (k1 : iShl 1 x4 ≤ x6 → sW (sC d) 247 Q 286 [vO 12 a0, vN, vN, vI x3, vI x4, vI x5, vN, vN, vN, vN, vN, vN] [] M G 0 0) (k2 : x6 < iShl 1 x4 → sW (sC d) 247 Q 121 [vO 12 a0, vN, vN, vI x3, vI x4, vI x5, vI x6, vN, vN, vN, vN, vN] [] M G 0 0) : sW (sC d) 247 Q 112 [vO 12 a0, vN, vN, vI x3, vI x4, vI x5, vI x6, vN, vN, vN, vN, vN] [] M G 0 0 := by
  refine q_iload 114 rfl (show sCode 247 112 = some (.iload 6, 2) by decide +kernel) rfl ?_
  refine q_iconst 115 rfl (show sCode 247 114 = some (.iconst 1, 1) by decide +kernel) ⟨by decide, by decide⟩ ?_
  refine q_iload 117 rfl (show sCode 247 115 = some (.iload 4, 2) by decide +kernel) rfl ?_
  refine q_ishl 118 rfl (show sCode 247 117 = some (.ishl, 1) by decide +kernel) ?_
  refine q_icmpge 286 121 rfl (by decide) (show sCode 247 118 = some (.if_icmp .ge 168, 3) by decide +kernel) ?_ ?_
  · intro q; refine q_forget (L' := [vO 12 a0, vN, vN, vI x3, vI x4, vI x5, vN, vN, vN, vN, vN, vN]) 6 rfl ?_; exact k1 q
  · intro q; exact k2 q
theorem b247_121 {d : Nat} {Q : Option sV → sM → sG → Prop} {M : sM} {G : sG} {a0 : Nat} {x3 : Int} {x4 : Int} {x5 : Int} {x6 : Int}  (k1 : x3 ≠ 1 → sW (sC d) 247 Q 167 [vO 12 a0, vN, vN, vI x3, vI x4, vI x5, vI x6, vN, vN, vN, vN, vN] [] M G 0 0) (k2 : x3 = 1 → sW (sC d) 247 Q 126 [vO 12 a0, vN, vN, vI x3, vI x4, vI x5, vI x6, vN, vN, vN, vN, vN] [] M G 0 0) : sW (sC d) 247 Q 121 [vO 12 a0, vN, vN, vI x3, vI x4, vI x5, vI x6, vN, vN, vN, vN, vN] [] M G 0 0 := by
  refine q_iload_n 122 rfl (show sCode 247 121 = some (.iload_n 3, 1) by decide +kernel) rfl ?_
  refine q_iconst 123 rfl (show sCode 247 122 = some (.iconst 1, 1) by decide +kernel) ⟨by decide, by decide⟩ ?_
  refine q_icmpne 167 126 rfl (by decide) (show sCode 247 123 = some (.if_icmp .ne 44, 3) by decide +kernel) ?_ ?_
  · intro q; exact k1 q
  · intro q; exact k2 q
theorem b247_126 {d : Nat} {Q : Option sV → sM → sG → Prop} {M : sM} {G : sG} {a0 : Nat} {x3 : Int} {x4 : Int} {x5 : Int} {x6 : Int}  (kk : sC d 245 [vI x6] M G (QI (fun r M1 G1 => sW (sC d) 247 Q 131 [vO 12 a0, vN, vN, vI x3, vI x4, vI x5, vI x6, vN, vN, vN, vN, vN] (vI r :: []) M1 G1 0 0))) : sW (sC d) 247 Q 126 [vO 12 a0, vN, vN, vI x3, vI x4, vI x5, vI x6, vN, vN, vN, vN, vN] [] M G 0 0 := by
  refine q_iload 128 rfl (show sCode 247 126 = some (.iload 6, 2) by decide +kernel) rfl ?_
  exact q_statI [vI x6] 131 rfl (show sCode 247 128 = some (.invokestatic 381, 3) by decide +kernel) (show sMR (sKo 247).1 381 = some 245 by decide +kernel) (show 245 < 1000 ∧ sStat 245 = true ∧ sKo 245 = (12, 1, 1, 0, 0) by decide +kernel) rfl rfl (Nat.le_of_ble_eq_true rfl) rfl rfl rfl (by decide +kernel) kk
theorem b247_131 {d : Nat} {Q : Option sV → sM → sG → Prop} {M : sM} {G : sG} {a0 : Nat} {x3 : Int} {x4 : Int} {x5 : Int} {x6 : Int} {s0 : Int}  (k1 : s0 ≤ x5 → sW (sC d) 247 Q 160 [vO 12 a0, vN, vN, vI x3, vI x4, vI x5, vI x6, vN, vN, vN, vN, vN] [] M G 0 0) (k2 : x5 < s0 → sW (sC d) 247 Q 140 [vO 12 a0, vN, vN, vI x3, vI x4, vI x5, vI x6, vI s0, vN, vN, vN, vN] [] M G 0 0) : sW (sC d) 247 Q 131 [vO 12 a0, vN, vN, vI x3, vI x4, vI x5, vI x6, vN, vN, vN, vN, vN] [vI s0] M G 0 0 := by
  refine q_istore [vO 12 a0, vN, vN, vI x3, vI x4, vI x5, vI x6, vI s0, vN, vN, vN, vN] 133 rfl (show sCode 247 131 = some (.istore 7, 2) by decide +kernel) (Nat.lt_of_lt_of_le (Nat.lt_succ_self _) (Nat.le_of_ble_eq_true rfl)) rfl rfl ?_
  refine q_iload 135 rfl (show sCode 247 133 = some (.iload 7, 2) by decide +kernel) rfl ?_
  refine q_iload 137 rfl (show sCode 247 135 = some (.iload 5, 2) by decide +kernel) rfl ?_
  refine q_icmple 160 140 rfl (by decide) (show sCode 247 137 = some (.if_icmp .le 23, 3) by decide +kernel) ?_ ?_
  · intro q; refine q_forget (L' := [vO 12 a0, vN, vN, vI x3, vI x4, vI x5, vI x6, vN, vN, vN, vN, vN]) 7 rfl ?_; exact k1 q
  · intro q; exact k2 q
theorem b247_140 {d : Nat} {Q : Option sV → sM → sG → Prop} {M : sM} {G : sG} {a0 : Nat} {x3 : Int} {x4 : Int} {x5 : Int} {x6 : Int} {x7 : Int}  (kk : sC d 248 [vO 12 a0, vI x6, vI x4] M G (QI (fun r M1 G1 => sW (sC d) 247 Q 149 [vO 12 a0, vN, vN, vI x3, vI x4, vI x5, vI x6, vI x7, vN, vN, vN, vN] (vI r :: [vO 12 a0]) M1 G1 0 0))) : sW (sC d) 247 Q 140 [vO 12 a0, vN, vN, vI x3, vI x4, vI x5, vI x6, vI x7, vN, vN, vN, vN] [] M G 0 0 := by
  refine q_aload_n 141 rfl (show sCode 247 140 = some (.aload_n 0, 1) by decide +kernel) rfl (Nat.le_of_ble_eq_true rfl) ?_
  refine q_aload_n 142 rfl (show sCode 247 141 = some (.aload_n 0, 1) by decide +kernel) rfl (Nat.le_of_ble_eq_true rfl) ?_
  refine q_iload 144 rfl (show sCode 247 142 = some (.iload 6, 2) by decide +kernel) rfl ?_
  refine q_iload 146 rfl (show sCode 247 144 = some (.iload 4, 2) by decide +kernel) rfl ?_
  exact q_virtI [vI x6, vI x4] 149 rfl (show sCode 247 146 = some (.invokevirtual 386, 3) by decide +kernel) (show sMR (sKo 247).1 386 = some 248 by decide +kernel) (show 248 < 1000 ∧ sStat 248 = false ∧ sIni 248 = false ∧ sKo 248 = (12, 2, 1, 0, 0) by decide +kernel) rfl (Or.inl rfl) rfl (Nat.le_of_ble_eq_true rfl) rfl rfl rfl (by decide +kernel) kk
theorem b247_149 {d : Nat} {Q : Option sV → sM → sG → Prop} {M : sM} {G : sG} {a0 : Nat} {x3 : Int} {x4 : Int} {x5 : Int} {x6 : Int} {x7 : Int} {s0 : Int} {sa1 : Nat}  (kk : sC d 249 [vO 12 sa1, vI s0] M G (QI (fun r M1 G1 => sW (sC d) 247 Q 152 [vO 12 a0, vN, vN, vI x3, vI x4, vI x5, vI x6, vI x7, vN, vN, vN, vN] (vI r :: []) M1 G1 0 0))) : sW (sC d) 247 Q 149 [vO 12 a0, vN, vN, vI x3, vI x4, vI x5, vI x6, vI x7, vN, vN, vN, vN] [vI s0, vO 12 sa1] M G 0 0 := by
  exact q_virtI [vI s0] 152 rfl (show sCode 247 149 = some (.invokevirtual 389, 3) by decide +kernel) (show sMR (sKo 247).1 389 = some 249 by decide +kernel) (show 249 < 1000 ∧ sStat 249 = false ∧ sIni 249 = false ∧ sKo 249 = (12, 1, 2, 0, 0) by decide +kernel) rfl (Or.inl rfl) rfl (Nat.le_of_ble_eq_true rfl) rfl rfl rfl (by decide +kernel) kk
theorem b247_152 {d : Nat} {Q : Option sV → sM → sG → Prop} {M : sM} {G : sG} {a0 : Nat} {x3 : Int} {x4 : Int} {x5 : Int} {x6 : Int} {x7 : Int} {s0 : Int}  (k1 : s0 = 0 → sW (sC d) 247 Q 160 [vO 12 a0, vN, vN, vI x3, vI x4, vI x5, vI x6, vN, vN, vN, vN, vN] [] M G 0 0) (k2 : s0 ≠ 0 → sW (sC d) 247 Q 155 [vO 12 a0, vN, vN, vI x3, vI x4, vN, vI x6, vI x7, vN, vN, vN, vN] [] M G 0 0) : sW (sC d) 247 Q 152 [vO 12 a0, vN, vN, vI x3, vI x4, vI x5, vI x6, vI x7, vN, vN, vN, vN] [vI s0] M G 0 0 := by
  refine q_ifeq 160 155 rfl (by decide) (show sCode 247 152 = some (.ifCond .eq 8, 3) by decide +kernel) ?_ ?_
  · intro q; refine q_forget (L' := [vO 12 a0, vN, vN, vI x3, vI x4, vI x5, vI x6, vN, vN, vN, vN, vN]) 7 rfl ?_; exact k1 q
  · intro q; refine q_forget (L' := [vO 12 a0, vN, vN, vI x3, vI x4, vN, vI x6, vI x7, vN, vN, vN, vN]) 5 rfl ?_; exact k2 q
theorem b247_155 {d : Nat} {Q : Option sV → sM → sG → Prop} {M : sM} {G : sG} {a0 : Nat} {x3 : Int} {x4 : Int} {x6 : Int} {x7 : Int}  (kk : sW (sC d) 247 Q 162 [vO 12 a0, vN, vN, vI x3, vI x4, vN, vI x6, vN, vN, vN, vN, vN] [vI x7] M G 0 0) : sW (sC d) 247 Q 155 [vO 12 a0, vN, vN, vI x3, vI x4, vN, vI x6, vI x7, vN, vN, vN, vN] [] M G 0 0 := by
  refine q_iload 157 rfl (show sCode 247 155 = some (.iload 7, 2) by decide +kernel) rfl ?_
  refine q_goto 162 (by decide) (show sCode 247 157 = some (.goto 5, 3) by decide +kernel) ?_
  refine q_forget (L' := [vO 12 a0, vN, vN, vI x3, vI x4, vN, vI x6, vN, vN, vN, vN, vN]) 7 rfl ?_
  exact kk
theorem b247_160 {d : Nat} {Q : Option sV → sM → sG → Prop} {M : sM} {G : sG} {a0 : Nat} {x3 : Int} {x4 : Int} {x5 : Int} {x6 : Int}  (kk : sW (sC d) 247 Q 162 [vO 12 a0, vN, vN, vI x3, vI x4, vN, vI x6, vN, vN, vN, vN, vN] [vI x5] M G 0 0) : sW (sC d) 247 Q 160 [vO 12 a0, vN, vN, vI x3, vI x4, vI x5, vI x6, vN, vN, vN, vN, vN] [] M G 0 0 := by
  refine q_iload 162 rfl (show sCode 247 160 = some (.iload 5, 2) by decide +kernel) rfl ?_
  refine q_forget (L' := [vO 12 a0, vN, vN, vI x3, vI x4, vN, vI x6, vN, vN, vN, vN, vN]) 5 rfl ?_
  exact kk
theorem b247_162 {d : Nat} {Q : Option sV → sM → sG → Prop} {M : sM} {G : sG} {a0 : Nat} {x3 : Int} {x4 : Int} {x6 : Int} {s0 : Int}  (kk : sW (sC d) 247 Q 280 [vO 12 a0, vN, vN, vI x3, vI x4, vI s0, vI x6, vN, vN, vN, vN, vN] [] M G 0 0) : sW (sC d) 247 Q 162 [vO 12 a0, vN, vN, vI x3, vI x4, vN, vI x6, vN, vN, vN, vN, vN] [vI s0] M G 0 0 := by
  refine q_istore [vO 12 a0, vN, vN, vI x3, vI x4, vI s0, vI x6, vN, vN, vN, vN, vN] 164 rfl (show sCode 247 162 = some (.istore 5, 2) by decide +kernel) (Nat.lt_of_lt_of_le (Nat.lt_succ_self _) (Nat.le_of_ble_eq_true rfl)) rfl rfl ?_
  refine q_goto 280 (by decide) (show sCode 247 164 = some (.goto 116, 3) by decide +kernel) ?_
  exact kk
theorem b247_167 {d : Nat} {Q : Option sV → sM → sG → Prop} {M : sM} {G : sG} {a0 : Nat} {x3 : Int} {x4 : Int} {x5 : Int} {x6 : Int} (h1 : 0 ≤ x6 ∧ x6 < 4096) (h2 : sI ((-x6))) (kk : sW (sC d) 247 Q 198 [vO 12 a0, vN, vN, vI x3, vI x4, vI x5, vI x6, vI (iAnd x6 (-x6)), vI (iXor x6 (iAnd x6 (-x6))), vI (iXor x6 (iAnd x6 (-x6))), vI 1, vN] [] (sUpd M (a0 + 15) x6.toNat 18) G 0 0) : sW (sC d) 247 Q 167 [vO 12 a0, vN, vN, vI x3, vI x4, vI x5, vI x6, vN, vN, vN, vN, vN] [] M G 0 0 := by
  refine q_aload_n 168 rfl (show sCode 247 167 = some (.aload_n 0, 1) by decide +kernel) rfl (Nat.le_of_ble_eq_true rfl) ?_
  refine q_getR (vA 0 (a0 + 15) 4096) 171 rfl (show sCode 247 168 = some (.getfield 54, 3) by decide +kernel) (show sFR (sKo 247).1 54 = some (12, 27) by decide +kernel) (by decide +kernel) (Or.inl (Or.inl rfl)) rfl ?_
  refine q_iload 173 rfl (show sCode 247 171 = some (.iload 6, 2) by decide +kernel) rfl ?_
  refine q_bipush 175 rfl (show sCode 247 173 = some (.bipush 18, 2) by decide +kernel) ⟨by decide, by decide⟩ (by decide +kernel) ?_
  refine q_iast 176 rfl (show sCode 247 175 = some (.iastore, 1) by decide +kernel) h1 ?_
  refine q_iload 178 rfl (show sCode 247 176 = some (.iload 6, 2) by decide +kernel) rfl ?_
  refine q_iload 180 rfl (show sCode 247 178 = some (.iload 6, 2) by decide +kernel) rfl ?_
  refine q_ineg 181 rfl (show sCode 247 180 = some (.ineg, 1) by decide +kernel) h2 ?_
  refine q_iand 182 rfl (show sCode 247 181 = some (.iand, 1) by decide +kernel) ?_
  refine q_istore [vO 12 a0, vN, vN, vI x3, vI x4, vI x5, vI x6, vI (iAnd x6 (-x6)), vN, vN, vN, vN] 184 rfl (show sCode 247 182 = some (.istore 7, 2) by decide +kernel) (Nat.lt_of_lt_of_le (Nat.lt_succ_self _) (Nat.le_of_ble_eq_true rfl)) rfl rfl ?_
  refine q_iload 186 rfl (show sCode 247 184 = some (.iload 6, 2) by decide +kernel) rfl ?_
  refine q_iload 188 rfl (show sCode 247 186 = some (.iload 7, 2) by decide +kernel) rfl ?_
  refine q_ixor 189 rfl (show sCode 247 188 = some (.ixor, 1) by decide +kernel) ?_
  refine q_istore [vO 12 a0, vN, vN, vI x3, vI x4, vI x5, vI x6, vI (iAnd x6 (-x6)), vI (iXor x6 (iAnd x6 (-x6))), vN, vN, vN] 191 rfl (show sCode 247 189 = some (.istore 8, 2) by decide +kernel) (Nat.lt_of_lt_of_le (Nat.lt_succ_self _) (Nat.le_of_ble_eq_true rfl)) rfl rfl ?_
  refine q_iload 193 rfl (show sCode 247 191 = some (.iload 8, 2) by decide +kernel) rfl ?_
  refine q_istore [vO 12 a0, vN, vN, vI x3, vI x4, vI x5, vI x6, vI (iAnd x6 (-x6)), vI (iXor x6 (iAnd x6 (-x6))), vI (iXor x6 (iAnd x6 (-x6))), vN, vN] 195 rfl (show sCode 247 193 = some (.istore 9, 2) by decide +kernel) (Nat.lt_of_lt_of_le (Nat.lt_succ_self _) (Nat.le_of_ble_eq_true rfl)) rfl rfl ?_
  refine q_iconst 196 rfl (show sCode 247 195 = some (.iconst 1, 1) by decide +kernel) ⟨by decide, by decide⟩ ?_
  refine q_istore [vO 12 a0, vN, vN, vI x3, vI x4, vI x5, vI x6, vI (iAnd x6 (-x6)), vI (iXor x6 (iAnd x6 (-x6))), vI (iXor x6 (iAnd x6 (-x6))), vI 1, vN] 198 rfl (show sCode 247 196 = some (.istore 10, 2) by decide +kernel) (Nat.lt_of_lt_of_le (Nat.lt_succ_self _) (Nat.le_of_ble_eq_true rfl)) rfl rfl ?_
  exact kk
theorem b247_198 {d : Nat} {Q : Option sV → sM → sG → Prop} {M : sM} {G : sG} {a0 : Nat} {x3 : Int} {x4 : Int} {x5 : Int} {x6 : Int} {x7 : Int} {x8 : Int} {x9 : Int} {x10 : Int}  (k1 : x10 = 0 → sW (sC d) 247 Q 280 [vO 12 a0, vN, vN, vI x3, vI x4, vI x5, vI x6, vN, vN, vN, vN, vN] [] M G 0 0) (k2 : x10 ≠ 0 → sW (sC d) 247 Q 203 [vO 12 a0, vN, vN, vI x3, vI x4, vI x5, vI x6, vI x7, vI x8, vI x9, vN, vN] [] M G 0 0) : sW (sC d) 247 Q 198 [vO 12 a0, vN, vN, vI x3, vI x4, vI x5, vI x6, vI x7, vI x8, vI x9, vI x10, vN] [] M G 0 0 := by
  refine q_iload 200 rfl (show sCode 247 198 = some (.iload 10, 2) by decide +kernel) rfl ?_
  refine q_ifeq 280 203 rfl (by decide) (show sCode 247 200 = some (.ifCond .eq 80, 3) by decide +kernel) ?_ ?_
  · intro q; refine q_forget (L' := [vO 12 a0, vN, vN, vI x3, vI x4, vI x5, vI x6, vN, vI x8, vI x9, vI x10, vN]) 7 rfl ?_; refine q_forget (L' := [vO 12 a0, vN, vN, vI x3, vI x4, vI x5, vI x6, vN, vN, vI x9, vI x10, vN]) 8 rfl ?_; refine q_forget (L' := [vO 12 a0, vN, vN, vI x3, vI x4, vI x5, vI x6, vN, vN, vN, vI x10, vN]) 9 rfl ?_; refine q_forget (L' := [vO 12 a0, vN, vN, vI x3, vI x4, vI x5, vI x6, vN, vN, vN, vN, vN]) 10 rfl ?_; exact k1 q
  · intro q; refine q_forget (L' := [vO 12 a0, vN, vN, vI x3, vI x4, vI x5, vI x6, vI x7, vI x8, vI x9, vN, vN]) 10 rfl ?_; exact k2 q
theorem b247_203 {d : Nat} {Q : Option sV → sM → sG → Prop} {M : sM} {G : sG} {a0 : Nat} {x3 : Int} {x4 : Int} {x5 : Int} {x6 : Int} {x7 : Int} {x8 : Int} {x9 : Int} (h1 : 0 ≤ iXor x8 x9 ∧ iXor x8 x9 < 4096) (h2 : sI (1 + (M (a0 + 15) (iXor x8 x9).toNat))) (h3 : 0 ≤ x6 ∧ x6 < 4096) (k1 : M (a0 + 15) x6.toNat ≤ 1 + (M (a0 + 15) (iXor x8 x9).toNat) → sW (sC d) 247 Q 256 [vO 12 a0, vN, vN, vI x3, vI x4, vI x5, vI x6, vI x7, vI x8, vI x9, vN, vN] [] M G 0 0) (k2 : 1 + (M (a0 + 15) (iXor x8 x9).toNat) < M (a0 + 15) x6.toNat → sW (sC d) 247 Q 229 [vO 12 a0, vN, vN, vI x3, vI x4, vI x5, vI x6, vI x7, vI x8, vI x9, vN, vI (1 + (M (a0 + 15) (iXor x8 x9).toNat))] [] M G 0 0) : sW (sC d) 247 Q 203 [vO 12 a0, vN, vN, vI x3, vI x4, vI x5, vI x6, vI x7, vI x8, vI x9, vN, vN] [] M G 0 0 := by
  refine q_iconst 204 rfl (show sCode 247 203 = some (.iconst 1, 1) by decide +kernel) ⟨by decide, by decide⟩ ?_
  refine q_aload_n 205 rfl (show sCode 247 204 = some (.aload_n 0, 1) by decide +kernel) rfl (Nat.le_of_ble_eq_true rfl) ?_
  refine q_getR (vA 0 (a0 + 15) 4096) 208 rfl (show sCode 247 205 = some (.getfield 54, 3) by decide +kernel) (show sFR (sKo 247).1 54 = some (12, 27) by decide +kernel) (by decide +kernel) (Or.inl (Or.inl rfl)) rfl ?_
  refine q_iload 210 rfl (show sCode 247 208 = some (.iload 8, 2) by decide +kernel) rfl ?_
  refine q_iload 212 rfl (show sCode 247 210 = some (.iload 9, 2) by decide +kernel) rfl ?_
  refine q_ixor 213 rfl (show sCode 247 212 = some (.ixor, 1) by decide +kernel) ?_
  refine q_iald 214 rfl (show sCode 247 213 = some (.iaload, 1) by decide +kernel) h1 ?_
  refine q_iadd 215 rfl (show sCode 247 214 = some (.iadd, 1) by decide +kernel) h2 ?_
  refine q_istore [vO 12 a0, vN, vN, vI x3, vI x4, vI x5, vI x6, vI x7, vI x8, vI x9, vN, vI (1 + (M (a0 + 15) (iXor x8 x9).toNat))] 217 rfl (show sCode 247 215 = some (.istore 11, 2) by decide +kernel) (Nat.lt_of_lt_of_le (Nat.lt_succ_self _) (Nat.le_of_ble_eq_true rfl)) rfl rfl ?_
  refine q_iload 219 rfl (show sCode 247 217 = some (.iload 11, 2) by decide +kernel) rfl ?_
  refine q_aload_n 220 rfl (show sCode 247 219 = some (.aload_n 0, 1) by decide +kernel) rfl (Nat.le_of_ble_eq_true rfl) ?_
  refine q_getR (vA 0 (a0 + 15) 4096) 223 rfl (show sCode 247 220 = some (.getfield 54, 3) by decide +kernel) (show sFR (sKo 247).1 54 = some (12, 27) by decide +kernel) (by decide +kernel) (Or.inl (Or.inl rfl)) rfl ?_
  refine q_iload 225 rfl (show sCode 247 223 = some (.iload 6, 2) by decide +kernel) rfl ?_
  refine q_iald 226 rfl (show sCode 247 225 = some (.iaload, 1) by decide +kernel) h3 ?_
  refine q_icmpge 256 229 rfl (by decide) (show sCode 247 226 = some (.if_icmp .ge 30, 3) by decide +kernel) ?_ ?_
  · intro q; refine q_forget (L' := [vO 12 a0, vN, vN, vI x3, vI x4, vI x5, vI x6, vI x7, vI x8, vI x9, vN, vN]) 11 rfl ?_; exact k1 q
  · intro q; exact k2 q
theorem b247_229 {d : Nat} {Q : Option sV → sM → sG → Prop} {M : sM} {G : sG} {a0 : Nat} {x3 : Int} {x4 : Int} {x5 : Int} {x6 : Int} {x7 : Int} {x8 : Int} {x9 : Int} {x11 : Int}  (kk : sC d 248 [vO 12 a0, vI (iOr x9 x7), vI x4] M G (QI (fun r M1 G1 => sW (sC d) 247 Q 241 [vO 12 a0, vN, vN, vI x3, vI x4, vI x5, vI x6, vI x7, vI x8, vI x9, vN, vI x11] (vI r :: [vO 12 a0]) M1 G1 0 0))) : sW (sC d) 247 Q 229 [vO 12 a0, vN, vN, vI x3, vI x4, vI x5, vI x6, vI x7, vI x8, vI x9, vN, vI x11] [] M G 0 0 := by
  refine q_aload_n 230 rfl (show sCode 247 229 = some (.aload_n 0, 1) by decide +kernel) rfl (Nat.le_of_ble_eq_true rfl) ?_
  refine q_aload_n 231 rfl (show sCode 247 230 = some (.aload_n 0, 1) by decide +kernel) rfl (Nat.le_of_ble_eq_true rfl) ?_
  refine q_iload 233 rfl (show sCode 247 231 = some (.iload 9, 2) by decide +kernel) rfl ?_
  refine q_iload 235 rfl (show sCode 247 233 = some (.iload 7, 2) by decide +kernel) rfl ?_
  refine q_ior 236 rfl (show sCode 247 235 = some (.ior, 1) by decide +kernel) ?_
  refine q_iload 238 rfl (show sCode 247 236 = some (.iload 4, 2) by decide +kernel) rfl ?_
  exact q_virtI [vI (iOr x9 x7), vI x4] 241 rfl (show sCode 247 238 = some (.invokevirtual 386, 3) by decide +kernel) (show sMR (sKo 247).1 386 = some 248 by decide +kernel) (show 248 < 1000 ∧ sStat 248 = false ∧ sIni 248 = false ∧ sKo 248 = (12, 2, 1, 0, 0) by decide +kernel) rfl (Or.inl rfl) rfl (Nat.le_of_ble_eq_true rfl) rfl rfl rfl (by decide +kernel) kk
theorem b247_241 {d : Nat} {Q : Option sV → sM → sG → Prop} {M : sM} {G : sG} {a0 : Nat} {x3 : Int} {x4 : Int} {x5 : Int} {x6 : Int} {x7 : Int} {x8 : Int} {x9 : Int} {x11 : Int} {s0 : Int} {sa1 : Nat}  (kk : sC d 243 [vO 12 sa1, vI s0] M G (QI (fun r M1 G1 => sW (sC d) 247 Q 244 [vO 12 a0, vN, vN, vI x3, vI x4, vI x5, vI x6, vI x7, vI x8, vI x9, vN, vI x11] (vI r :: []) M1 G1 0 0))) : sW (sC d) 247 Q 241 [vO 12 a0, vN, vN, vI x3, vI x4, vI x5, vI x6, vI x7, vI x8, vI x9, vN, vI x11] [vI s0, vO 12 sa1] M G 0 0 := by
  exact q_virtI [vI s0] 244 rfl (show sCode 247 241 = some (.invokevirtual 378, 3) by decide +kernel) (show sMR (sKo 247).1 378 = some 243 by decide +kernel) (show 243 < 1000 ∧ sStat 243 = false ∧ sIni 243 = false ∧ sKo 243 = (12, 1, 2, 0, 0) by decide +kernel) rfl (Or.inl rfl) rfl (Nat.le_of_ble_eq_true rfl) rfl rfl rfl (by decide +kernel) kk
theorem b247_244 {d : Nat} {Q : Option sV → sM → sG → Prop} {M : sM} {G : sG} {a0 : Nat} {x3 : Int} {x4 : Int} {x5 : Int} {x6 : Int} {x7 : Int} {x8 : Int} {x9 : Int} {x11 : Int} {s0 : Int}  (k1 : s0 = 0 → sW (sC d) 247 Q 256 [vO 12 a0, vN, vN, vI x3, vI x4, vI x5, vI x6, vI x7, vI x8, vI x9, vN, vN] [] M G 0 0) (k2 : s0 ≠ 0 → sW (sC d) 247 Q 247 [vO 12 a0, vN, vN, vI x3, vI x4, vI x5, vI x6, vI x7, vI x8, vI x9, vN, vI x11] [] M G 0 0) : sW (sC d) 247 Q 244 [vO 12 a0, vN, vN, vI x3, vI x4, vI x5, vI x6, vI x7, vI x8, vI x9, vN, vI x11] [vI s0] M G 0 0 := by
  refine q_ifeq 256 247 rfl (by decide) (show sCode 247 244 = some (.ifCond .eq 12, 3) by decide +kernel) ?_ ?_
  · intro q; refine q_forget (L' := [vO 12 a0, vN, vN, vI x3, vI x4, vI x5, vI x6, vI x7, vI x8, vI x9, vN, vN]) 11 rfl ?_; exact k1 q
  · intro q; exact k2 q
theorem b247_247 {d : Nat} {Q : Option sV → sM → sG → Prop} {M : sM} {G : sG} {a0 : Nat} {x3 : Int} {x4 : Int} {x5 : Int} {x6 : Int} {x7 : Int} {x8 : Int} {x9 : Int} {x11 : Int} (h1 : 0 ≤ x6 ∧ x6 < 4096) (kk : sW (sC d) 247 Q 256 [vO 12 a0, vN, vN, vI x3, vI x4, vI x5, vI x6, vI x7, vI x8, vI x9, vN, vN] [] (sUpd M (a0 + 15) x6.toNat x11) G 0 0) : sW (sC d) 247 Q 247 [vO 12 a0, vN, vN, vI x3, vI x4, vI x5, vI x6, vI x7, vI x8, vI x9, vN, vI x11] [] M G 0 0 := by
  refine q_aload_n 248 rfl (show sCode 247 247 = some (.aload_n 0, 1) by decide +kernel) rfl (Nat.le_of_ble_eq_true rfl) ?_
  refine q_getR (vA 0 (a0 + 15) 4096) 251 rfl (show sCode 247 248 = some (.getfield 54, 3) by decide +kernel) (show sFR (sKo 247).1 54 = some (12, 27) by decide +kernel) (by decide +kernel) (Or.inl (Or.inl rfl)) rfl ?_
  refine q_iload 253 rfl (show sCode 247 251 = some (.iload 6, 2) by decide +kernel) rfl ?_
  refine q_iload 255 rfl (show sCode 247 253 = some (.iload 11, 2) by decide +kernel) rfl ?_
  refine q_iast 256 rfl (show sCode 247 255 = some (.iastore, 1) by decide +kernel) h1 ?_
  refine q_forget (L' := [vO 12 a0, vN, vN, vI x3, vI x4, vI x5, vI x6, vI x7, vI x8, vI x9, vN, vN]) 11 rfl ?_
  exact kk
theorem b247_256 {d : Nat} {Q : Option sV → sM → sG → Prop} {M : sM} {G : sG} {a0 : Nat} {x3 : Int} {x4 : Int} {x5 : Int} {x6 : Int} {x7 : Int} {x8 : Int} {x9 : Int}  (k1 : x9 ≤ 0 → sW (sC d) 247 Q 265 [vO 12 a0, vN, vN, vI x3, vI x4, vI x5, vI x6, vI x7, vI x8, vI x9, vN, vN] [] M G 0 0) (k2 : 0 < x9 → sW (sC d) 247 Q 261 [vO 12 a0, vN, vN, vI x3, vI x4, vI x5, vI x6, vI x7, vI x8, vI x9, vN, vN] [] M G 0 0) : sW (sC d) 247 Q 256 [vO 12 a0, vN, vN, vI x3, vI x4, vI x5, vI x6, vI x7, vI x8, vI x9, vN, vN] [] M G 0 0 := by
  refine q_iload 258 rfl (show sCode 247 256 = some (.iload 9, 2) by decide +kernel) rfl ?_
  refine q_ifle 265 261 rfl (by decide) (show sCode 247 258 = some (.ifCond .le 7, 3) by decide +kernel) ?_ ?_
  · intro q; exact k1 q
  · intro q; exact k2 q
theorem b247_261 {d : Nat} {Q : Option sV → sM → sG → Prop} {M : sM} {G : sG} {a0 : Nat} {x3 : Int} {x4 : Int} {x5 : Int} {x6 : Int} {x7 : Int} {x8 : Int} {x9 : Int}  (kk : sW (sC d) 247 Q 266 [vO 12 a0, vN, vN, vI x3, vI x4, vI x5, vI x6, vI x7, vI x8, vI x9, vN, vN] [vI 1] M G 0 0) : sW (sC d) 247 Q 261 [vO 12 a0, vN, vN, vI x3, vI x4, vI x5, vI x6, vI x7, vI x8, vI x9, vN, vN] [] M G 0 0 := by
  refine q_iconst 262 rfl (show sCode 247 261 = some (.iconst 1, 1) by decide +kernel) ⟨by decide, by decide⟩ ?_
  refine q_goto 266 (by decide) (show sCode 247 262 = some (.goto 4, 3) by decide +kernel) ?_
  exact kk
theorem b247_265 {d : Nat} {Q : Option sV → sM → sG → Prop} {M : sM} {G : sG} {a0 : Nat} {x3 : Int} {x4 : Int} {x5 : Int} {x6 : Int} {x7 : Int} {x8 : Int} {x9 : Int}  (kk : sW (sC d) 247 Q 266 [vO 12 a0, vN, vN, vI x3, vI x4, vI x5, vI x6, vI x7, vI x8, vI x9, vN, vN] [vI 0] M G 0 0) : sW (sC d) 247 Q 265 [vO 12 a0, vN, vN, vI x3, vI x4, vI x5, vI x6, vI x7, vI x8, vI x9, vN, vN] [] M G 0 0 := by
  refine q_iconst 266 rfl (show sCode 247 265 = some (.iconst 0, 1) by decide +kernel) ⟨by decide, by decide⟩ ?_
  exact kk
theorem b247_266 {d : Nat} {Q : Option sV → sM → sG → Prop} {M : sM} {G : sG} {a0 : Nat} {x3 : Int} {x4 : Int} {x5 : Int} {x6 : Int} {x7 : Int} {x8 : Int} {x9 : Int} {s0 : Int} (h1 : sI (x9 - 1)) (kk : sW (sC d) 247 Q 198 [vO 12 a0, vN, vN, vI x3, vI x4, vI x5, vI x6, vI x7, vI x8, vI (iAnd (x9 - 1) x8), vI s0, vN] [] M G 0 0) : sW (sC d) 247 Q 266 [vO 12 a0, vN, vN, vI x3, vI x4, vI x5, vI x6, vI x7, vI x8, vI x9, vN, vN] [vI s0] M G 0 0 := by
  refine q_istore [vO 12 a0, vN, vN, vI x3, vI x4, vI x5, vI x6, vI x7, vI x8, vI x9, vI s0, vN] 268 rfl (show sCode 247 266 = some (.istore 10, 2) by decide +kernel) (Nat.lt_of_lt_of_le (Nat.lt_succ_self _) (Nat.le_of_ble_eq_true rfl)) rfl rfl ?_
  refine q_iload 270 rfl (show sCode 247 268 = some (.iload 9, 2) by decide +kernel) rfl ?_
  refine q_iconst 271 rfl (show sCode 247 270 = some (.iconst 1, 1) by decide +kernel) ⟨by decide, by decide⟩ ?_
  refine q_isub 272 rfl (show sCode 247 271 = some (.isub, 1) by decide +kernel) h1 ?_
  refine q_iload 274 rfl (show sCode 247 272 = some (.iload 8, 2) by decide +kernel) rfl ?_
  refine q_iand 275 rfl (show sCode 247 274 = some (.iand, 1) by decide +kernel) ?_
  refine q_istore [vO 12 a0, vN, vN, vI x3, vI x4, vI x5, vI x6, vI x7, vI x8, vI (iAnd (x9 - 1) x8), vI s0, vN] 277 rfl (show sCode 247 275 = some (.istore 9, 2) by decide +kernel) (Nat.lt_of_lt_of_le (Nat.lt_succ_self _) (Nat.le_of_ble_eq_true rfl)) rfl rfl ?_
  refine q_goto 198 (by decide) (show sCode 247 277 = some (.goto (-79), 3) by decide +kernel) ?_
  exact kk
theorem b247_280 {d : Nat} {Q : Option sV → sM → sG → Prop} {M : sM} {G : sG} {a0 : Nat} {x3 : Int} {x4 : Int} {x5 : Int} {x6 : Int} (h1 : sI (x6 + 1)) (kk : sW (sC d) 247 Q 112 [vO 12 a0, vN, vN, vI x3, vI x4, vI x5, vI (x6 + 1), vN, vN, vN, vN, vN] [] M G 0 0) : sW (sC d) 247 Q 280 [vO 12 a0, vN, vN, vI x3, vI x4, vI x5, vI x6, vN, vN, vN, vN, vN] [] M G 0 0 := by
  refine q_iinc [vO 12 a0, vN, vN, vI x3, vI x4, vI x5, vI (x6 + 1), vN, vN, vN, vN, vN] 283 rfl (show sCode 247 280 = some (.iinc 6 1, 3) by decide +kernel) rfl rfl h1 rfl ?_
  refine q_goto 112 (by decide) (show sCode 247 283 = some (.goto (-171), 3) by decide +kernel) ?_
  exact kk
theorem b247_286 {d : Nat} {Q : Option sV → sM → sG → Prop} {M : sM} {G : sG} {a0 : Nat} {x3 : Int} {x4 : Int} {x5 : Int}  (k1 : x3 ≠ 1 → sW (sC d) 247 Q 296 [vO 12 a0, vN, vN, vN, vI x4, vN, vN, vN, vN, vN, vN, vN] [] M G 0 0) (k2 : x3 = 1 → sW (sC d) 247 Q 291 [vN, vN, vN, vN, vN, vI x5, vN, vN, vN, vN, vN, vN] [] M G 0 0) : sW (sC d) 247 Q 286 [vO 12 a0, vN, vN, vI x3, vI x4, vI x5, vN, vN, vN, vN, vN, vN] [] M G 0 0 := by
  refine q_iload_n 287 rfl (show sCode 247 286 = some (.iload_n 3, 1) by decide +kernel) rfl ?_
  refine q_iconst 288 rfl (show sCode 247 287 = some (.iconst 1, 1) by decide +kernel) ⟨by decide, by decide⟩ ?_
  refine q_icmpne 296 291 rfl (by decide) (show sCode 247 288 = some (.if_icmp .ne 8, 3) by decide +kernel) ?_ ?_
  · intro q; refine q_forget (L' := [vO 12 a0, vN, vN, vN, vI x4, vI x5, vN, vN, vN, vN, vN, vN]) 3 rfl ?_; refine q_forget (L' := [vO 12 a0, vN, vN, vN, vI x4, vN, vN, vN, vN, vN, vN, vN]) 5 rfl ?_; exact k1 q
  · intro q; refine q_forget (L' := [vN, vN, vN, vI x3, vI x4, vI x5, vN, vN, vN, vN, vN, vN]) 0 rfl ?_; refine q_forget (L' := [vN, vN, vN, vN, vI x4, vI x5, vN, vN, vN, vN, vN, vN]) 3 rfl ?_; refine q_forget (L' := [vN, vN, vN, vN, vN, vI x5, vN, vN, vN, vN, vN, vN]) 4 rfl ?_; exact k2 q
theorem b247_291 {d : Nat} {Q : Option sV → sM → sG → Prop} {M : sM} {G : sG} {x5 : Int}  (kk : sW (sC d) 247 Q 307 [vN, vN, vN, vN, vN, vN, vN, vN, vN, vN, vN, vN] [vI x5] M G 0 0) : sW (sC d) 247 Q 291 [vN, vN, vN, vN, vN, vI x5, vN, vN, vN, vN, vN, vN] [] M G 0 0 := by
  refine q_iload 293 rfl (show sCode 247 291 = some (.iload 5, 2) by decide +kernel) rfl ?_
  refine q_goto 307 (by decide) (show sCode 247 293 = some (.goto 14, 3) by decide +kernel) ?_
  refine q_forget (L' := [vN, vN, vN, vN, vN, vN, vN, vN, vN, vN, vN, vN]) 5 rfl ?_
  exact kk
theorem b247_296 {d : Nat} {Q : Option sV → sM → sG → Prop} {M : sM} {G : sG} {a0 : Nat} {x4 : Int} (h1 : sI ((iShl 1 x4) - 1)) (h2 : 0 ≤ (iShl 1 x4) - 1 ∧ (iShl 1 x4) - 1 < 4096) (kk : sW (sC d) 247 Q 307 [vN, vN, vN, vN, vN, vN, vN, vN, vN, vN, vN, vN] [vI (M (a0 + 15) ((iShl 1 x4) - 1).toNat)] M G 0 0) : sW (sC d) 247 Q 296 [vO 12 a0, vN, vN, vN, vI x4, vN, vN, vN, vN, vN, vN, vN] [] M G 0 0 := by
  refine q_aload_n 297 rfl (show sCode 247 296 = some (.aload_n 0, 1) by decide +kernel) rfl (Nat.le_of_ble_eq_true rfl) ?_
  refine q_getR (vA 0 (a0 + 15) 4096) 300 rfl (show sCode 247 297 = some (.getfield 54, 3) by decide +kernel) (show sFR (sKo 247).1 54 = some (12, 27) by decide +kernel) (by decide +kernel) (Or.inl (Or.inl rfl)) rfl ?_
  refine q_iconst 301 rfl (show sCode 247 300 = some (.iconst 1, 1) by decide +kernel) ⟨by decide, by decide⟩ ?_
  refine q_iload 303 rfl (show sCode 247 301 = some (.iload 4, 2) by decide +kernel) rfl ?_
  refine q_ishl 304 rfl (show sCode 247 303 = some (.ishl, 1) by decide +kernel) ?_
  refine q_iconst 305 rfl (show sCode 247 304 = some (.iconst 1, 1) by decide +kernel) ⟨by decide, by decide⟩ ?_
  refine q_isub 306 rfl (show sCode 247 305 = some (.isub, 1) by decide +kernel) h1 ?_
  refine q_iald 307 rfl (show sCode 247 306 = some (.iaload, 1) by decide +kernel) h2 ?_
  refine q_forget (L' := [vN, vN, vN, vN, vI x4, vN, vN, vN, vN, vN, vN, vN]) 0 rfl ?_
  refine q_forget (L' := [vN, vN, vN, vN, vN, vN, vN, vN, vN, vN, vN, vN]) 4 rfl ?_
  exact kk
theorem b247_307 {d : Nat} {P : Int → sM → sG → Prop} {M : sM} {G : sG} {s0 : Int}  (kk : P s0 M G) : sW (sC d) 247 (QI P) 307 [vN, vN, vN, vN, vN, vN, vN, vN, vN, vN, vN, vN] [vI s0] M G 0 0 := by
  exact q_iret (show sCode 247 307 = some (.ireturn, 1) by decide +kernel) (by decide +kernel) (by decide +kernel) kk
-- 248 AfterTheLastModel.staysOf (II)I
theorem b248_0 {d : Nat} {Q : Option sV → sM → sG → Prop} {M : sM} {G : sG} {a0 : Nat} {x1 : Int} {x2 : Int}  (kk : sW (sC d) 248 Q 5 [vO 12 a0, vI x1, vI x2, vI 0, vI 0] [] M G 0 0) : sW (sC d) 248 Q 0 [vO 12 a0, vI x1, vI x2, vN, vN] [] M G 0 0 := by
  refine q_iconst 1 rfl (show sCode 248 0 = some (.iconst 0, 1) by decide +kernel) ⟨by decide, by decide⟩ ?_
  refine q_istore_n [vO 12 a0, vI x1, vI x2, vI 0, vN] 2 rfl (show sCode 248 1 = some (.istore_n 3, 1) by decide +kernel) (Nat.lt_of_lt_of_le (Nat.lt_succ_self _) (Nat.le_of_ble_eq_true rfl)) rfl rfl ?_
  refine q_iconst 3 rfl (show sCode 248 2 = some (.iconst 0, 1) by decide +kernel) ⟨by decide, by decide⟩ ?_
  refine q_istore [vO 12 a0, vI x1, vI x2, vI 0, vI 0] 5 rfl (show sCode 248 3 = some (.istore 4, 2) by decide +kernel) (Nat.lt_of_lt_of_le (Nat.lt_succ_self _) (Nat.le_of_ble_eq_true rfl)) rfl rfl ?_
  exact kk
theorem b248_5 {d : Nat} {Q : Option sV → sM → sG → Prop} {M : sM} {G : sG} {a0 : Nat} {x1 : Int} {x2 : Int} {x3 : Int} {x4 : Int}  (k1 : x2 ≤ x4 → sW (sC d) 248 Q 42 [vN, vN, vN, vI x3, vN] [] M G 0 0) (k2 : x4 < x2 → sW (sC d) 248 Q 11 [vO 12 a0, vI x1, vI x2, vI x3, vI x4] [] M G 0 0) : sW (sC d) 248 Q 5 [vO 12 a0, vI x1, vI x2, vI x3, vI x4] [] M G 0 0 := by
  refine q_iload 7 rfl (show sCode 248 5 = some (.iload 4, 2) by decide +kernel) rfl ?_
  refine q_iload_n 8 rfl (show sCode 248 7 = some (.iload_n 2, 1) by decide +kernel) rfl ?_
  refine q_icmpge 42 11 rfl (by decide) (show sCode 248 8 = some (.if_icmp .ge 34, 3) by decide +kernel) ?_ ?_
  · intro q; refine q_forget (L' := [vN, vI x1, vI x2, vI x3, vI x4]) 0 rfl ?_; refine q_forget (L' := [vN, vN, vI x2, vI x3, vI x4]) 1 rfl ?_; refine q_forget (L' := [vN, vN, vN, vI x3, vI x4]) 2 rfl ?_; refine q_forget (L' := [vN, vN, vN, vI x3, vN]) 4 rfl ?_; exact k1 q
  · intro q; exact k2 q
theorem b248_11 {d : Nat} {Q : Option sV → sM → sG → Prop} {M : sM} {G : sG} {a0 : Nat} {x1 : Int} {x2 : Int} {x3 : Int} {x4 : Int}  (kk : sC d 244 [vI x1, vI x4] M G (QI (fun r M1 G1 => sW (sC d) 248 Q 18 [vO 12 a0, vI x1, vI x2, vN, vI x4] (vI r :: [vI x3]) M1 G1 0 0))) : sW (sC d) 248 Q 11 [vO 12 a0, vI x1, vI x2, vI x3, vI x4] [] M G 0 0 := by
  refine q_iload_n 12 rfl (show sCode 248 11 = some (.iload_n 3, 1) by decide +kernel) rfl ?_
  refine q_iload_n 13 rfl (show sCode 248 12 = some (.iload_n 1, 1) by decide +kernel) rfl ?_
  refine q_iload 15 rfl (show sCode 248 13 = some (.iload 4, 2) by decide +kernel) rfl ?_
  refine q_forget (L' := [vO 12 a0, vI x1, vI x2, vN, vI x4]) 3 rfl ?_
  exact q_statI [vI x1, vI x4] 18 rfl (show sCode 248 15 = some (.invokestatic 369, 3) by decide +kernel) (show sMR (sKo 248).1 369 = some 244 by decide +kernel) (show 244 < 1000 ∧ sStat 244 = true ∧ sKo 244 = (12, 2, 2, 0, 0) by decide +kernel) rfl rfl (Nat.le_of_ble_eq_true rfl) rfl rfl rfl (by decide +kernel) kk
theorem b248_18 {d : Nat} {Q : Option sV → sM → sG → Prop} {M : sM} {G : sG} {a0 : Nat} {x1 : Int} {x2 : Int} {x4 : Int} {s0 : Int} {s1 : Int}  (k1 : s0 = 0 → sW (sC d) 248 Q 33 [vO 12 a0, vI x1, vI x2, vN, vI x4] [vI s1] M G 0 0) (k2 : s0 ≠ 0 → sW (sC d) 248 Q 21 [vO 12 a0, vI x1, vI x2, vN, vI x4] [vI s1] M G 0 0) : sW (sC d) 248 Q 18 [vO 12 a0, vI x1, vI x2, vN, vI x4] [vI s0, vI s1] M G 0 0 := by
  refine q_ifeq 33 21 rfl (by decide) (show sCode 248 18 = some (.ifCond .eq 15, 3) by decide +kernel) ?_ ?_
  · intro q; exact k1 q
  · intro q; exact k2 q
theorem b248_21 {d : Nat} {Q : Option sV → sM → sG → Prop} {M : sM} {G : sG} {a0 : Nat} {x1 : Int} {x2 : Int} {x4 : Int} {s0 : Int} (h1 : 0 ≤ x4 ∧ x4 < 12) (kk : sW (sC d) 248 Q 34 [vO 12 a0, vI x1, vI x2, vN, vI x4] [vI (iShl 1 (M (a0 + 16) x4.toNat)), vI s0] M G 0 0) : sW (sC d) 248 Q 21 [vO 12 a0, vI x1, vI x2, vN, vI x4] [vI s0] M G 0 0 := by
  refine q_iconst 22 rfl (show sCode 248 21 = some (.iconst 1, 1) by decide +kernel) ⟨by decide, by decide⟩ ?_
  refine q_aload_n 23 rfl (show sCode 248 22 = some (.aload_n 0, 1) by decide +kernel) rfl (Nat.le_of_ble_eq_true rfl) ?_
  refine q_getR (vA 0 (a0 + 16) 12) 26 rfl (show sCode 248 23 = some (.getfield 57, 3) by decide +kernel) (show sFR (sKo 248).1 57 = some (12, 28) by decide +kernel) (by decide +kernel) (Or.inl (Or.inl rfl)) rfl ?_
  refine q_iload 28 rfl (show sCode 248 26 = some (.iload 4, 2) by decide +kernel) rfl ?_
  refine q_iald 29 rfl (show sCode 248 28 = some (.iaload, 1) by decide +kernel) h1 ?_
  refine q_ishl 30 rfl (show sCode 248 29 = some (.ishl, 1) by decide +kernel) ?_
  refine q_goto 34 (by decide) (show sCode 248 30 = some (.goto 4, 3) by decide +kernel) ?_
  exact kk
theorem b248_33 {d : Nat} {Q : Option sV → sM → sG → Prop} {M : sM} {G : sG} {a0 : Nat} {x1 : Int} {x2 : Int} {x4 : Int} {s0 : Int}  (kk : sW (sC d) 248 Q 34 [vO 12 a0, vI x1, vI x2, vN, vI x4] [vI 0, vI s0] M G 0 0) : sW (sC d) 248 Q 33 [vO 12 a0, vI x1, vI x2, vN, vI x4] [vI s0] M G 0 0 := by
  refine q_iconst 34 rfl (show sCode 248 33 = some (.iconst 0, 1) by decide +kernel) ⟨by decide, by decide⟩ ?_
  exact kk
theorem b248_34 {d : Nat} {Q : Option sV → sM → sG → Prop} {M : sM} {G : sG} {a0 : Nat} {x1 : Int} {x2 : Int} {x4 : Int} {s0 : Int} {s1 : Int} (h1 : sI (x4 + 1)) (kk : sW (sC d) 248 Q 5 [vO 12 a0, vI x1, vI x2, vI (iOr s1 s0), vI (x4 + 1)] [] M G 0 0) : sW (sC d) 248 Q 34 [vO 12 a0, vI x1, vI x2, vN, vI x4] [vI s0, vI s1] M G 0 0 := by
  refine q_ior 35 rfl (show sCode 248 34 = some (.ior, 1) by decide +kernel) ?_
  refine q_istore_n [vO 12 a0, vI x1, vI x2, vI (iOr s1 s0), vI x4] 36 rfl (show sCode 248 35 = some (.istore_n 3, 1) by decide +kernel) (Nat.lt_of_lt_of_le (Nat.lt_succ_self _) (Nat.le_of_ble_eq_true rfl)) rfl rfl ?_
  refine q_iinc [vO 12 a0, vI x1, vI x2, vI (iOr s1 s0), vI (x4 + 1)] 39 rfl (show sCode 248 36 = some (.iinc 4 1, 3) by decide +kernel) rfl rfl h1 rfl ?_
  refine q_goto 5 (by decide) (show sCode 248 39 = some (.goto (-34), 3) by decide +kernel) ?_
  exact kk
theorem b248_42 {d : Nat} {P : Int → sM → sG → Prop} {M : sM} {G : sG} {x3 : Int}  (kk : P x3 M G) : sW (sC d) 248 (QI P) 42 [vN, vN, vN, vI x3, vN] [] M G 0 0 := by
  refine q_iload_n 43 rfl (show sCode 248 42 = some (.iload_n 3, 1) by decide +kernel) rfl ?_
  exact q_iret (show sCode 248 43 = some (.ireturn, 1) by decide +kernel) (by decide +kernel) (by decide +kernel) kk
-- 249 AfterTheLastModel.areAllCrossed (I)Z
theorem b249_0 {d : Nat} {Q : Option sV → sM → sG → Prop} {M : sM} {G : sG} {a0 : Nat} {x1 : Int}  (kk : sW (sC d) 249 Q 2 [vO 12 a0, vI x1, vI 0] [] M G 0 0) : sW (sC d) 249 Q 0 [vO 12 a0, vI x1, vN] [] M G 0 0 := by
  refine q_iconst 1 rfl (show sCode 249 0 = some (.iconst 0, 1) by decide +kernel) ⟨by decide, by decide⟩ ?_
  refine q_istore_n [vO 12 a0, vI x1, vI 0] 2 rfl (show sCode 249 1 = some (.istore_n 2, 1) by decide +kernel) (Nat.lt_of_lt_of_le (Nat.lt_succ_self _) (Nat.le_of_ble_eq_true rfl)) rfl rfl ?_
  exact kk
theorem b249_2 {d : Nat} {Q : Option sV → sM → sG → Prop} {M : sM} {G : sG} {a0 : Nat} {x1 : Int} {x2 : Int}  (k1 : M (a0 + 11) 1 ≤ x2 → sW (sC d) 249 Q 46 [vN, vN, vN] [] M G 0 0) (k2 : x2 < M (a0 + 11) 1 → sW (sC d) 249 Q 12 [vO 12 a0, vI x1, vI x2] [] M G 0 0) : sW (sC d) 249 Q 2 [vO 12 a0, vI x1, vI x2] [] M G 0 0 := by
  refine q_iload_n 3 rfl (show sCode 249 2 = some (.iload_n 2, 1) by decide +kernel) rfl ?_
  refine q_aload_n 4 rfl (show sCode 249 3 = some (.aload_n 0, 1) by decide +kernel) rfl (Nat.le_of_ble_eq_true rfl) ?_
  refine q_getR (vA 0 (a0 + 11) 274) 7 rfl (show sCode 249 4 = some (.getfield 42, 3) by decide +kernel) (show sFR (sKo 249).1 42 = some (12, 23) by decide +kernel) (by decide +kernel) (Or.inl (Or.inl rfl)) rfl ?_
  refine q_iconst 8 rfl (show sCode 249 7 = some (.iconst 1, 1) by decide +kernel) ⟨by decide, by decide⟩ ?_
  refine q_iald 9 rfl (show sCode 249 8 = some (.iaload, 1) by decide +kernel) ⟨by decide, by decide⟩ ?_
  refine q_icmpge 46 12 rfl (by decide) (show sCode 249 9 = some (.if_icmp .ge 37, 3) by decide +kernel) ?_ ?_
  · intro q; refine q_forget (L' := [vN, vI x1, vI x2]) 0 rfl ?_; refine q_forget (L' := [vN, vN, vI x2]) 1 rfl ?_; refine q_forget (L' := [vN, vN, vN]) 2 rfl ?_; exact k1 q
  · intro q; exact k2 q
theorem b249_12 {d : Nat} {Q : Option sV → sM → sG → Prop} {M : sM} {G : sG} {a0 : Nat} {x1 : Int} {x2 : Int}  (kk : sC d 244 [vI x1, vI x2] M G (QI (fun r M1 G1 => sW (sC d) 249 Q 17 [vO 12 a0, vI x1, vI x2] (vI r :: []) M1 G1 0 0))) : sW (sC d) 249 Q 12 [vO 12 a0, vI x1, vI x2] [] M G 0 0 := by
  refine q_iload_n 13 rfl (show sCode 249 12 = some (.iload_n 1, 1) by decide +kernel) rfl ?_
  refine q_iload_n 14 rfl (show sCode 249 13 = some (.iload_n 2, 1) by decide +kernel) rfl ?_
  exact q_statI [vI x1, vI x2] 17 rfl (show sCode 249 14 = some (.invokestatic 369, 3) by decide +kernel) (show sMR (sKo 249).1 369 = some 244 by decide +kernel) (show 244 < 1000 ∧ sStat 244 = true ∧ sKo 244 = (12, 2, 2, 0, 0) by decide +kernel) rfl rfl (Nat.le_of_ble_eq_true rfl) rfl rfl rfl (by decide +kernel) kk
theorem b249_17 {d : Nat} {Q : Option sV → sM → sG → Prop} {M : sM} {G : sG} {a0 : Nat} {x1 : Int} {x2 : Int} {s0 : Int}  (k1 : s0 = 0 → sW (sC d) 249 Q 40 [vO 12 a0, vI x1, vI x2] [] M G 0 0) (k2 : s0 ≠ 0 → sW (sC d) 249 Q 20 [vO 12 a0, vI x1, vI x2] [] M G 0 0) : sW (sC d) 249 Q 17 [vO 12 a0, vI x1, vI x2] [vI s0] M G 0 0 := by
  refine q_ifeq 40 20 rfl (by decide) (show sCode 249 17 = some (.ifCond .eq 23, 3) by decide +kernel) ?_ ?_
  · intro q; exact k1 q
  · intro q; exact k2 q
theorem b249_20 {d : Nat} {Q : Option sV → sM → sG → Prop} {M : sM} {G : sG} {a0 : Nat} {x1 : Int} {x2 : Int} (h1 : 0 ≤ x2 ∧ x2 < 18) (k1 : iAnd (M (a0 + 13) x2.toNat) x1 = iAnd x1 (iXor (iShl 1 x2) (-1)) → sW (sC d) 249 Q 40 [vO 12 a0, vI x1, vI x2] [] M G 0 0) (k2 : iAnd (M (a0 + 13) x2.toNat) x1 ≠ iAnd x1 (iXor (iShl 1 x2) (-1)) → sW (sC d) 249 Q 38 [vN, vN, vN] [] M G 0 0) : sW (sC d) 249 Q 20 [vO 12 a0, vI x1, vI x2] [] M G 0 0 := by
  refine q_aload_n 21 rfl (show sCode 249 20 = some (.aload_n 0, 1) by decide +kernel) rfl (Nat.le_of_ble_eq_true rfl) ?_
  refine q_getR (vA 0 (a0 + 13) 18) 24 rfl (show sCode 249 21 = some (.getfield 48, 3) by decide +kernel) (show sFR (sKo 249).1 48 = some (12, 25) by decide +kernel) (by decide +kernel) (Or.inl (Or.inl rfl)) rfl ?_
  refine q_iload_n 25 rfl (show sCode 249 24 = some (.iload_n 2, 1) by decide +kernel) rfl ?_
  refine q_iald 26 rfl (show sCode 249 25 = some (.iaload, 1) by decide +kernel) h1 ?_
  refine q_iload_n 27 rfl (show sCode 249 26 = some (.iload_n 1, 1) by decide +kernel) rfl ?_
  refine q_iand 28 rfl (show sCode 249 27 = some (.iand, 1) by decide +kernel) ?_
  refine q_iload_n 29 rfl (show sCode 249 28 = some (.iload_n 1, 1) by decide +kernel) rfl ?_
  refine q_iconst 30 rfl (show sCode 249 29 = some (.iconst 1, 1) by decide +kernel) ⟨by decide, by decide⟩ ?_
  refine q_iload_n 31 rfl (show sCode 249 30 = some (.iload_n 2, 1) by decide +kernel) rfl ?_
  refine q_ishl 32 rfl (show sCode 249 31 = some (.ishl, 1) by decide +kernel) ?_
  refine q_iconst 33 rfl (show sCode 249 32 = some (.iconst (-1), 1) by decide +kernel) ⟨by decide, by decide⟩ ?_
  refine q_ixor 34 rfl (show sCode 249 33 = some (.ixor, 1) by decide +kernel) ?_
  refine q_iand 35 rfl (show sCode 249 34 = some (.iand, 1) by decide +kernel) ?_
  refine q_icmpeq 40 38 rfl (by decide) (show sCode 249 35 = some (.if_icmp .eq 5, 3) by decide +kernel) ?_ ?_
  · intro q; exact k1 q
  · intro q; refine q_forget (L' := [vN, vI x1, vI x2]) 0 rfl ?_; refine q_forget (L' := [vN, vN, vI x2]) 1 rfl ?_; refine q_forget (L' := [vN, vN, vN]) 2 rfl ?_; exact k2 q
theorem b249_38 {d : Nat} {P : Int → sM → sG → Prop} {M : sM} {G : sG}   (kk : P 0 M G) : sW (sC d) 249 (QI P) 38 [vN, vN, vN] [] M G 0 0 := by
  refine q_iconst 39 rfl (show sCode 249 38 = some (.iconst 0, 1) by decide +kernel) ⟨by decide, by decide⟩ ?_
  exact q_zret (show sCode 249 39 = some (.ireturn, 1) by decide +kernel) (by decide +kernel) (by decide) (by decide +kernel) kk
theorem b249_40 {d : Nat} {Q : Option sV → sM → sG → Prop} {M : sM} {G : sG} {a0 : Nat} {x1 : Int} {x2 : Int} (h1 : sI (x2 + 1)) (kk : sW (sC d) 249 Q 2 [vO 12 a0, vI x1, vI (x2 + 1)] [] M G 0 0) : sW (sC d) 249 Q 40 [vO 12 a0, vI x1, vI x2] [] M G 0 0 := by
  refine q_iinc [vO 12 a0, vI x1, vI (x2 + 1)] 43 rfl (show sCode 249 40 = some (.iinc 2 1, 3) by decide +kernel) rfl rfl h1 rfl ?_
  refine q_goto 2 (by decide) (show sCode 249 43 = some (.goto (-41), 3) by decide +kernel) ?_
  exact kk
theorem b249_46 {d : Nat} {P : Int → sM → sG → Prop} {M : sM} {G : sG}   (kk : P 1 M G) : sW (sC d) 249 (QI P) 46 [vN, vN, vN] [] M G 0 0 := by
  refine q_iconst 47 rfl (show sCode 249 46 = some (.iconst 1, 1) by decide +kernel) ⟨by decide, by decide⟩ ?_
  exact q_zret (show sCode 249 47 = some (.ireturn, 1) by decide +kernel) (by decide +kernel) (by decide) (by decide +kernel) kk
-- 250 AfterTheLastModel.wishes (IIIII)I
theorem b250_0 {d : Nat} {Q : Option sV → sM → sG → Prop} {M : sM} {G : sG} {a0 : Nat} {x1 : Int} {x2 : Int} {x3 : Int} {x4 : Int} {x5 : Int}  (k1 : x1 ≠ (-1) → sW (sC d) 250 Q 14 [vO 12 a0, vI x1, vI x2, vI x3, vI x4, vI x5, vN] [] M G 0 0) (k2 : x1 = (-1) → sW (sC d) 250 Q 5 [vO 12 a0, vN, vN, vN, vN, vN, vN] [] M G 0 0) : sW (sC d) 250 Q 0 [vO 12 a0, vI x1, vI x2, vI x3, vI x4, vI x5, vN] [] M G 0 0 := by
  refine q_iload_n 1 rfl (show sCode 250 0 = some (.iload_n 1, 1) by decide +kernel) rfl ?_
  refine q_iconst 2 rfl (show sCode 250 1 = some (.iconst (-1), 1) by decide +kernel) ⟨by decide, by decide⟩ ?_
  refine q_icmpne 14 5 rfl (by decide) (show sCode 250 2 = some (.if_icmp .ne 12, 3) by decide +kernel) ?_ ?_
  · intro q; exact k1 q
  · intro q; refine q_forget (L' := [vO 12 a0, vN, vI x2, vI x3, vI x4, vI x5, vN]) 1 rfl ?_; refine q_forget (L' := [vO 12 a0, vN, vN, vI x3, vI x4, vI x5, vN]) 2 rfl ?_; refine q_forget (L' := [vO 12 a0, vN, vN, vN, vI x4, vI x5, vN]) 3 rfl ?_; refine q_forget (L' := [vO 12 a0, vN, vN, vN, vN, vI x5, vN]) 4 rfl ?_; refine q_forget (L' := [vO 12 a0, vN, vN, vN, vN, vN, vN]) 5 rfl ?_; exact k2 q
theorem b250_5 {d : Nat} {P : Int → sM → sG → Prop} {M : sM} {G : sG} {a0 : Nat}  (kk : P 0 (sUpd M (a0 + 11) 5 0) G) : sW (sC d) 250 (QI P) 5 [vO 12 a0, vN, vN, vN, vN, vN, vN] [] M G 0 0 := by
  refine q_aload_n 6 rfl (show sCode 250 5 = some (.aload_n 0, 1) by decide +kernel) rfl (Nat.le_of_ble_eq_true rfl) ?_
  refine q_getR (vA 0 (a0 + 11) 274) 9 rfl (show sCode 250 6 = some (.getfield 42, 3) by decide +kernel) (show sFR (sKo 250).1 42 = some (12, 23) by decide +kernel) (by decide +kernel) (Or.inl (Or.inl rfl)) rfl ?_
  refine q_iconst 10 rfl (show sCode 250 9 = some (.iconst 5, 1) by decide +kernel) ⟨by decide, by decide⟩ ?_
  refine q_iconst 11 rfl (show sCode 250 10 = some (.iconst 0, 1) by decide +kernel) ⟨by decide, by decide⟩ ?_
  refine q_iast 12 rfl (show sCode 250 11 = some (.iastore, 1) by decide +kernel) ⟨by decide, by decide⟩ ?_
  refine q_iconst 13 rfl (show sCode 250 12 = some (.iconst 0, 1) by decide +kernel) ⟨by decide, by decide⟩ ?_
  exact q_iret (show sCode 250 13 = some (.ireturn, 1) by decide +kernel) (by decide +kernel) (by decide +kernel) kk
theorem b250_14 {d : Nat} {Q : Option sV → sM → sG → Prop} {M : sM} {G : sG} {a0 : Nat} {x1 : Int} {x2 : Int} {x3 : Int} {x4 : Int} {x5 : Int}  (k1 : M (a0 + 11) 5 = 6 → sW (sC d) 250 Q 99 [vN, vN, vN, vN, vN, vN, vN] [] M G 0 0) (k2 : M (a0 + 11) 5 ≠ 6 → sW (sC d) 250 Q 25 [vO 12 a0, vI x1, vI x2, vI x3, vI x4, vI x5, vN] [] M G 0 0) : sW (sC d) 250 Q 14 [vO 12 a0, vI x1, vI x2, vI x3, vI x4, vI x5, vN] [] M G 0 0 := by
  refine q_aload_n 15 rfl (show sCode 250 14 = some (.aload_n 0, 1) by decide +kernel) rfl (Nat.le_of_ble_eq_true rfl) ?_
  refine q_getR (vA 0 (a0 + 11) 274) 18 rfl (show sCode 250 15 = some (.getfield 42, 3) by decide +kernel) (show sFR (sKo 250).1 42 = some (12, 23) by decide +kernel) (by decide +kernel) (Or.inl (Or.inl rfl)) rfl ?_
  refine q_iconst 19 rfl (show sCode 250 18 = some (.iconst 5, 1) by decide +kernel) ⟨by decide, by decide⟩ ?_
  refine q_iald 20 rfl (show sCode 250 19 = some (.iaload, 1) by decide +kernel) ⟨by decide, by decide⟩ ?_
  refine q_bipush 22 rfl (show sCode 250 20 = some (.bipush 6, 2) by decide +kernel) ⟨by decide, by decide⟩ (by decide +kernel) ?_
  refine q_icmpeq 99 25 rfl (by decide) (show sCode 250 22 = some (.if_icmp .eq 77, 3) by decide +kernel) ?_ ?_
  · intro q; refine q_forget (L' := [vN, vI x1, vI x2, vI x3, vI x4, vI x5, vN]) 0 rfl ?_; refine q_forget (L' := [vN, vN, vI x2, vI x3, vI x4, vI x5, vN]) 1 rfl ?_; refine q_forget (L' := [vN, vN, vN, vI x3, vI x4, vI x5, vN]) 2 rfl ?_; refine q_forget (L' := [vN, vN, vN, vN, vI x4, vI x5, vN]) 3 rfl ?_; refine q_forget (L' := [vN, vN, vN, vN, vN, vI x5, vN]) 4 rfl ?_; refine q_forget (L' := [vN, vN, vN, vN, vN, vN, vN]) 5 rfl ?_; exact k1 q
  · intro q; exact k2 q
theorem b250_25 {d : Nat} {Q : Option sV → sM → sG → Prop} {M : sM} {G : sG} {a0 : Nat} {x1 : Int} {x2 : Int} {x3 : Int} {x4 : Int} {x5 : Int}  (kk : sC d 211 [vI x1] M G (QI (fun r M1 G1 => sW (sC d) 250 Q 29 [vO 12 a0, vI x1, vI x2, vI x3, vI x4, vI x5, vN] (vI r :: []) M1 G1 0 0))) : sW (sC d) 250 Q 25 [vO 12 a0, vI x1, vI x2, vI x3, vI x4, vI x5, vN] [] M G 0 0 := by
  refine q_iload_n 26 rfl (show sCode 250 25 = some (.iload_n 1, 1) by decide +kernel) rfl ?_
  exact q_statI [vI x1] 29 rfl (show sCode 250 26 = some (.invokestatic 305, 3) by decide +kernel) (show sMR (sKo 250).1 305 = some 211 by decide +kernel) (show 211 < 1000 ∧ sStat 211 = true ∧ sKo 211 = (12, 1, 2, 0, 0) by decide +kernel) rfl rfl (Nat.le_of_ble_eq_true rfl) rfl rfl rfl (by decide +kernel) kk
theorem b250_29 {d : Nat} {Q : Option sV → sM → sG → Prop} {M : sM} {G : sG} {a0 : Nat} {x1 : Int} {x2 : Int} {x3 : Int} {x4 : Int} {x5 : Int} {s0 : Int}  (k1 : s0 = 0 → sW (sC d) 250 Q 99 [vN, vN, vN, vN, vN, vN, vN] [] M G 0 0) (k2 : s0 ≠ 0 → sW (sC d) 250 Q 32 [vO 12 a0, vI x1, vI x2, vI x3, vI x4, vI x5, vN] [] M G 0 0) : sW (sC d) 250 Q 29 [vO 12 a0, vI x1, vI x2, vI x3, vI x4, vI x5, vN] [vI s0] M G 0 0 := by
  refine q_ifeq 99 32 rfl (by decide) (show sCode 250 29 = some (.ifCond .eq 70, 3) by decide +kernel) ?_ ?_
  · intro q; refine q_forget (L' := [vN, vI x1, vI x2, vI x3, vI x4, vI x5, vN]) 0 rfl ?_; refine q_forget (L' := [vN, vN, vI x2, vI x3, vI x4, vI x5, vN]) 1 rfl ?_; refine q_forget (L' := [vN, vN, vN, vI x3, vI x4, vI x5, vN]) 2 rfl ?_; refine q_forget (L' := [vN, vN, vN, vN, vI x4, vI x5, vN]) 3 rfl ?_; refine q_forget (L' := [vN, vN, vN, vN, vN, vI x5, vN]) 4 rfl ?_; refine q_forget (L' := [vN, vN, vN, vN, vN, vN, vN]) 5 rfl ?_; exact k1 q
  · intro q; exact k2 q
theorem b250_32 {d : Nat} {Q : Option sV → sM → sG → Prop} {M : sM} {G : sG} {a0 : Nat} {x1 : Int} {x2 : Int} {x3 : Int} {x4 : Int} {x5 : Int}  (kk : sC d 183 [vL x2, vL 0, vL 5] M G (QI (fun r M1 G1 => sW (sC d) 250 Q 41 [vO 12 a0, vI x1, vI x2, vI x3, vI x4, vI x5, vN] (vI r :: []) M1 G1 0 0))) : sW (sC d) 250 Q 32 [vO 12 a0, vI x1, vI x2, vI x3, vI x4, vI x5, vN] [] M G 0 0 := by
  refine q_iload_n 33 rfl (show sCode 250 32 = some (.iload_n 2, 1) by decide +kernel) rfl ?_
  refine q_i2l 34 rfl (show sCode 250 33 = some (.i2l, 1) by decide +kernel) ?_
  refine q_lconst 35 rfl (show sCode 250 34 = some (.lconst 0, 1) by decide +kernel) ?_
  refine q_ldc2_w 38 rfl (show sCode 250 35 = some (.ldc2_w 294, 3) by decide +kernel) (show sLR (sKo 250).1 294 = some 5 by decide +kernel) ⟨by decide, by decide⟩ ?_
  exact q_statI [vL x2, vL 0, vL 5] 41 rfl (show sCode 250 38 = some (.invokestatic 127, 3) by decide +kernel) (show sMR (sKo 250).1 127 = some 183 by decide +kernel) (show 183 < 1000 ∧ sStat 183 = true ∧ sKo 183 = (12, 3, 2, 0, 0) by decide +kernel) rfl rfl (Nat.le_of_ble_eq_true rfl) rfl rfl rfl (by decide +kernel) kk
theorem b250_41 {d : Nat} {Q : Option sV → sM → sG → Prop} {M : sM} {G : sG} {a0 : Nat} {x1 : Int} {x2 : Int} {x3 : Int} {x4 : Int} {x5 : Int} {s0 : Int}  (k1 : s0 = 0 → sW (sC d) 250 Q 99 [vN, vN, vN, vN, vN, vN, vN] [] M G 0 0) (k2 : s0 ≠ 0 → sW (sC d) 250 Q 44 [vO 12 a0, vI x1, vI x2, vI x3, vI x4, vI x5, vN] [] M G 0 0) : sW (sC d) 250 Q 41 [vO 12 a0, vI x1, vI x2, vI x3, vI x4, vI x5, vN] [vI s0] M G 0 0 := by
  refine q_ifeq 99 44 rfl (by decide) (show sCode 250 41 = some (.ifCond .eq 58, 3) by decide +kernel) ?_ ?_
  · intro q; refine q_forget (L' := [vN, vI x1, vI x2, vI x3, vI x4, vI x5, vN]) 0 rfl ?_; refine q_forget (L' := [vN, vN, vI x2, vI x3, vI x4, vI x5, vN]) 1 rfl ?_; refine q_forget (L' := [vN, vN, vN, vI x3, vI x4, vI x5, vN]) 2 rfl ?_; refine q_forget (L' := [vN, vN, vN, vN, vI x4, vI x5, vN]) 3 rfl ?_; refine q_forget (L' := [vN, vN, vN, vN, vN, vI x5, vN]) 4 rfl ?_; refine q_forget (L' := [vN, vN, vN, vN, vN, vN, vN]) 5 rfl ?_; exact k1 q
  · intro q; exact k2 q
theorem b250_44 {d : Nat} {Q : Option sV → sM → sG → Prop} {M : sM} {G : sG} {a0 : Nat} {x1 : Int} {x2 : Int} {x3 : Int} {x4 : Int} {x5 : Int}  (kk : sC d 183 [vL x3, vL 0, vL 95] M G (QI (fun r M1 G1 => sW (sC d) 250 Q 53 [vO 12 a0, vI x1, vI x2, vI x3, vI x4, vI x5, vN] (vI r :: []) M1 G1 0 0))) : sW (sC d) 250 Q 44 [vO 12 a0, vI x1, vI x2, vI x3, vI x4, vI x5, vN] [] M G 0 0 := by
  refine q_iload_n 45 rfl (show sCode 250 44 = some (.iload_n 3, 1) by decide +kernel) rfl ?_
  refine q_i2l 46 rfl (show sCode 250 45 = some (.i2l, 1) by decide +kernel) ?_
  refine q_lconst 47 rfl (show sCode 250 46 = some (.lconst 0, 1) by decide +kernel) ?_
  refine q_ldc2_w 50 rfl (show sCode 250 47 = some (.ldc2_w 392, 3) by decide +kernel) (show sLR (sKo 250).1 392 = some 95 by decide +kernel) ⟨by decide, by decide⟩ ?_
  exact q_statI [vL x3, vL 0, vL 95] 53 rfl (show sCode 250 50 = some (.invokestatic 127, 3) by decide +kernel) (show sMR (sKo 250).1 127 = some 183 by decide +kernel) (show 183 < 1000 ∧ sStat 183 = true ∧ sKo 183 = (12, 3, 2, 0, 0) by decide +kernel) rfl rfl (Nat.le_of_ble_eq_true rfl) rfl rfl rfl (by decide +kernel) kk
theorem b250_53 {d : Nat} {Q : Option sV → sM → sG → Prop} {M : sM} {G : sG} {a0 : Nat} {x1 : Int} {x2 : Int} {x3 : Int} {x4 : Int} {x5 : Int} {s0 : Int}  (k1 : s0 = 0 → sW (sC d) 250 Q 99 [vN, vN, vN, vN, vN, vN, vN] [] M G 0 0) (k2 : s0 ≠ 0 → sW (sC d) 250 Q 56 [vO 12 a0, vI x1, vI x2, vI x3, vI x4, vI x5, vN] [] M G 0 0) : sW (sC d) 250 Q 53 [vO 12 a0, vI x1, vI x2, vI x3, vI x4, vI x5, vN] [vI s0] M G 0 0 := by
  refine q_ifeq 99 56 rfl (by decide) (show sCode 250 53 = some (.ifCond .eq 46, 3) by decide +kernel) ?_ ?_
  · intro q; refine q_forget (L' := [vN, vI x1, vI x2, vI x3, vI x4, vI x5, vN]) 0 rfl ?_; refine q_forget (L' := [vN, vN, vI x2, vI x3, vI x4, vI x5, vN]) 1 rfl ?_; refine q_forget (L' := [vN, vN, vN, vI x3, vI x4, vI x5, vN]) 2 rfl ?_; refine q_forget (L' := [vN, vN, vN, vN, vI x4, vI x5, vN]) 3 rfl ?_; refine q_forget (L' := [vN, vN, vN, vN, vN, vI x5, vN]) 4 rfl ?_; refine q_forget (L' := [vN, vN, vN, vN, vN, vN, vN]) 5 rfl ?_; exact k1 q
  · intro q; exact k2 q
theorem b250_56 {d : Nat} {Q : Option sV → sM → sG → Prop} {M : sM} {G : sG} {a0 : Nat} {x1 : Int} {x2 : Int} {x3 : Int} {x4 : Int} {x5 : Int} (h1 : sI (x3 + 1)) (kk : sC d 183 [vL x4, vL (x3 + 1), vL 95] M G (QI (fun r M1 G1 => sW (sC d) 250 Q 69 [vO 12 a0, vI x1, vI x2, vI x3, vI x4, vI x5, vN] (vI r :: []) M1 G1 0 0))) : sW (sC d) 250 Q 56 [vO 12 a0, vI x1, vI x2, vI x3, vI x4, vI x5, vN] [] M G 0 0 := by
  refine q_iload 58 rfl (show sCode 250 56 = some (.iload 4, 2) by decide +kernel) rfl ?_
  refine q_i2l 59 rfl (show sCode 250 58 = some (.i2l, 1) by decide +kernel) ?_
  refine q_iload_n 60 rfl (show sCode 250 59 = some (.iload_n 3, 1) by decide +kernel) rfl ?_
  refine q_iconst 61 rfl (show sCode 250 60 = some (.iconst 1, 1) by decide +kernel) ⟨by decide, by decide⟩ ?_
  refine q_iadd 62 rfl (show sCode 250 61 = some (.iadd, 1) by decide +kernel) h1 ?_
  refine q_i2l 63 rfl (show sCode 250 62 = some (.i2l, 1) by decide +kernel) ?_
  refine q_ldc2_w 66 rfl (show sCode 250 63 = some (.ldc2_w 392, 3) by decide +kernel) (show sLR (sKo 250).1 392 = some 95 by decide +kernel) ⟨by decide, by decide⟩ ?_
  exact q_statI [vL x4, vL (x3 + 1), vL 95] 69 rfl (show sCode 250 66 = some (.invokestatic 127, 3) by decide +kernel) (show sMR (sKo 250).1 127 = some 183 by decide +kernel) (show 183 < 1000 ∧ sStat 183 = true ∧ sKo 183 = (12, 3, 2, 0, 0) by decide +kernel) rfl rfl (Nat.le_of_ble_eq_true rfl) rfl rfl rfl (by decide +kernel) kk
theorem b250_69 {d : Nat} {Q : Option sV → sM → sG → Prop} {M : sM} {G : sG} {a0 : Nat} {x1 : Int} {x2 : Int} {x3 : Int} {x4 : Int} {x5 : Int} {s0 : Int}  (k1 : s0 = 0 → sW (sC d) 250 Q 99 [vN, vN, vN, vN, vN, vN, vN] [] M G 0 0) (k2 : s0 ≠ 0 → sW (sC d) 250 Q 72 [vO 12 a0, vI x1, vI x2, vI x3, vI x4, vI x5, vN] [] M G 0 0) : sW (sC d) 250 Q 69 [vO 12 a0, vI x1, vI x2, vI x3, vI x4, vI x5, vN] [vI s0] M G 0 0 := by
  refine q_ifeq 99 72 rfl (by decide) (show sCode 250 69 = some (.ifCond .eq 30, 3) by decide +kernel) ?_ ?_
  · intro q; refine q_forget (L' := [vN, vI x1, vI x2, vI x3, vI x4, vI x5, vN]) 0 rfl ?_; refine q_forget (L' := [vN, vN, vI x2, vI x3, vI x4, vI x5, vN]) 1 rfl ?_; refine q_forget (L' := [vN, vN, vN, vI x3, vI x4, vI x5, vN]) 2 rfl ?_; refine q_forget (L' := [vN, vN, vN, vN, vI x4, vI x5, vN]) 3 rfl ?_; refine q_forget (L' := [vN, vN, vN, vN, vN, vI x5, vN]) 4 rfl ?_; refine q_forget (L' := [vN, vN, vN, vN, vN, vN, vN]) 5 rfl ?_; exact k1 q
  · intro q; exact k2 q
theorem b250_72 {d : Nat} {Q : Option sV → sM → sG → Prop} {M : sM} {G : sG} {a0 : Nat} {x1 : Int} {x2 : Int} {x3 : Int} {x4 : Int} {x5 : Int} (h1 : sI (x4 - x3)) (kk : sC d 183 [vL x5, vL 1, vL (x4 - x3)] M G (QI (fun r M1 G1 => sW (sC d) 250 Q 84 [vO 12 a0, vI x1, vI x2, vI x3, vI x4, vI x5, vN] (vI r :: []) M1 G1 0 0))) : sW (sC d) 250 Q 72 [vO 12 a0, vI x1, vI x2, vI x3, vI x4, vI x5, vN] [] M G 0 0 := by
  refine q_iload 74 rfl (show sCode 250 72 = some (.iload 5, 2) by decide +kernel) rfl ?_
  refine q_i2l 75 rfl (show sCode 250 74 = some (.i2l, 1) by decide +kernel) ?_
  refine q_lconst 76 rfl (show sCode 250 75 = some (.lconst 1, 1) by decide +kernel) ?_
  refine q_iload 78 rfl (show sCode 250 76 = some (.iload 4, 2) by decide +kernel) rfl ?_
  refine q_iload_n 79 rfl (show sCode 250 78 = some (.iload_n 3, 1) by decide +kernel) rfl ?_
  refine q_isub 80 rfl (show sCode 250 79 = some (.isub, 1) by decide +kernel) h1 ?_
  refine q_i2l 81 rfl (show sCode 250 80 = some (.i2l, 1) by decide +kernel) ?_
  exact q_statI [vL x5, vL 1, vL (x4 - x3)] 84 rfl (show sCode 250 81 = some (.invokestatic 127, 3) by decide +kernel) (show sMR (sKo 250).1 127 = some 183 by decide +kernel) (show 183 < 1000 ∧ sStat 183 = true ∧ sKo 183 = (12, 3, 2, 0, 0) by decide +kernel) rfl rfl (Nat.le_of_ble_eq_true rfl) rfl rfl rfl (by decide +kernel) kk
theorem b250_84 {d : Nat} {Q : Option sV → sM → sG → Prop} {M : sM} {G : sG} {a0 : Nat} {x1 : Int} {x2 : Int} {x3 : Int} {x4 : Int} {x5 : Int} {s0 : Int}  (k1 : s0 = 0 → sW (sC d) 250 Q 99 [vN, vN, vN, vN, vN, vN, vN] [] M G 0 0) (k2 : s0 ≠ 0 → sW (sC d) 250 Q 87 [vO 12 a0, vI x1, vI x2, vI x3, vI x4, vI x5, vN] [] M G 0 0) : sW (sC d) 250 Q 84 [vO 12 a0, vI x1, vI x2, vI x3, vI x4, vI x5, vN] [vI s0] M G 0 0 := by
  refine q_ifeq 99 87 rfl (by decide) (show sCode 250 84 = some (.ifCond .eq 15, 3) by decide +kernel) ?_ ?_
  · intro q; refine q_forget (L' := [vN, vI x1, vI x2, vI x3, vI x4, vI x5, vN]) 0 rfl ?_; refine q_forget (L' := [vN, vN, vI x2, vI x3, vI x4, vI x5, vN]) 1 rfl ?_; refine q_forget (L' := [vN, vN, vN, vI x3, vI x4, vI x5, vN]) 2 rfl ?_; refine q_forget (L' := [vN, vN, vN, vN, vI x4, vI x5, vN]) 3 rfl ?_; refine q_forget (L' := [vN, vN, vN, vN, vN, vI x5, vN]) 4 rfl ?_; refine q_forget (L' := [vN, vN, vN, vN, vN, vN, vN]) 5 rfl ?_; exact k1 q
  · intro q; exact k2 q
theorem b250_87 {d : Nat} {Q : Option sV → sM → sG → Prop} {M : sM} {G : sG} {a0 : Nat} {x1 : Int} {x2 : Int} {x3 : Int} {x4 : Int} {x5 : Int} (h1 : sI (x4 - x3)) (h2 : sI ((x4 - x3) - x5)) (k1 : (x4 - x3) - x5 < 12 → sW (sC d) 250 Q 102 [vO 12 a0, vI x1, vI x2, vI x3, vI x4, vI x5, vN] [] M G 0 0) (k2 : 12 ≤ (x4 - x3) - x5 → sW (sC d) 250 Q 99 [vN, vN, vN, vN, vN, vN, vN] [] M G 0 0) : sW (sC d) 250 Q 87 [vO 12 a0, vI x1, vI x2, vI x3, vI x4, vI x5, vN] [] M G 0 0 := by
  refine q_iload 89 rfl (show sCode 250 87 = some (.iload 4, 2) by decide +kernel) rfl ?_
  refine q_iload_n 90 rfl (show sCode 250 89 = some (.iload_n 3, 1) by decide +kernel) rfl ?_
  refine q_isub 91 rfl (show sCode 250 90 = some (.isub, 1) by decide +kernel) h1 ?_
  refine q_iload 93 rfl (show sCode 250 91 = some (.iload 5, 2) by decide +kernel) rfl ?_
  refine q_isub 94 rfl (show sCode 250 93 = some (.isub, 1) by decide +kernel) h2 ?_
  refine q_bipush 96 rfl (show sCode 250 94 = some (.bipush 12, 2) by decide +kernel) ⟨by decide, by decide⟩ (by decide +kernel) ?_
  refine q_icmplt 102 99 rfl (by decide) (show sCode 250 96 = some (.if_icmp .lt 6, 3) by decide +kernel) ?_ ?_
  · intro q; exact k1 q
  · intro q; refine q_forget (L' := [vN, vI x1, vI x2, vI x3, vI x4, vI x5, vN]) 0 rfl ?_; refine q_forget (L' := [vN, vN, vI x2, vI x3, vI x4, vI x5, vN]) 1 rfl ?_; refine q_forget (L' := [vN, vN, vN, vI x3, vI x4, vI x5, vN]) 2 rfl ?_; refine q_forget (L' := [vN, vN, vN, vN, vI x4, vI x5, vN]) 3 rfl ?_; refine q_forget (L' := [vN, vN, vN, vN, vN, vI x5, vN]) 4 rfl ?_; refine q_forget (L' := [vN, vN, vN, vN, vN, vN, vN]) 5 rfl ?_; exact k2 q
theorem b250_99 {d : Nat} {P : Int → sM → sG → Prop} {M : sM} {G : sG}   (kk : P (-2) M G) : sW (sC d) 250 (QI P) 99 [vN, vN, vN, vN, vN, vN, vN] [] M G 0 0 := by
  refine q_bipush 101 rfl (show sCode 250 99 = some (.bipush (-2), 2) by decide +kernel) ⟨by decide, by decide⟩ (by decide +kernel) ?_
  exact q_iret (show sCode 250 101 = some (.ireturn, 1) by decide +kernel) (by decide +kernel) (by decide +kernel) kk
theorem b250_102 {d : Nat} {P : Int → sM → sG → Prop} {M : sM} {G : sG} {a0 : Nat} {x1 : Int} {x2 : Int} {x3 : Int} {x4 : Int} {x5 : Int} (h1 : sI (5 * (M (a0 + 11) 5))) (h2 : sI (196 + (5 * (M (a0 + 11) 5)))) (h3 : 0 ≤ 196 + (5 * (M (a0 + 11) 5)) ∧ 196 + (5 * (M (a0 + 11) 5)) < 274) (h4 : sI ((196 + (5 * (M (a0 + 11) 5))) + 1)) (h5 : 0 ≤ (196 + (5 * (M (a0 + 11) 5))) + 1 ∧ (196 + (5 * (M (a0 + 11) 5))) + 1 < 274) (h6 : sI ((196 + (5 * (M (a0 + 11) 5))) + 2)) (h7 : 0 ≤ (196 + (5 * (M (a0 + 11) 5))) + 2 ∧ (196 + (5 * (M (a0 + 11) 5))) + 2 < 274) (h8 : sI ((196 + (5 * (M (a0 + 11) 5))) + 3)) (h9 : 0 ≤ (196 + (5 * (M (a0 + 11) 5))) + 3 ∧ (196 + (5 * (M (a0 + 11) 5))) + 3 < 274) (h10 : sI ((196 + (5 * (M (a0 + 11) 5))) + 4)) (h11 : 0 ≤ (196 + (5 * (M (a0 + 11) 5))) + 4 ∧ (196 + (5 * (M (a0 + 11) 5))) + 4 < 274) (h12 : sI (((sUpd (sUpd (sUpd (sUpd (sUpd M (a0 + 11) (196 + (5 * (M (a0 + 11) 5))).toNat x1) (a0 + 11) ((196 + (5 * (M (a0 + 11) 5))) + 1).toNat x2) (a0 + 11) ((196 + (5 * (M (a0 + 11) 5))) + 2).toNat x3) (a0 + 11) ((196 + (5 * (M (a0 + 11) 5))) + 3).toNat x4) (a0 + 11) ((196 + (5 * (M (a0 + 11) 5))) + 4).toNat x5) (a0 + 11) 5) + 1)) (kk : P ((sUpd (sUpd (sUpd (sUpd (sUpd (sUpd M (a0 + 11) (196 + (5 * (M (a0 + 11) 5))).toNat x1) (a0 + 11) ((196 + (5 * (M (a0 + 11) 5))) + 1).toNat x2) (a0 + 11) ((196 + (5 * (M (a0 + 11) 5))) + 2).toNat x3) (a0 + 11) ((196 + (5 * (M (a0 + 11) 5))) + 3).toNat x4) (a0 + 11) ((196 + (5 * (M (a0 + 11) 5))) + 4).toNat x5) (a0 + 11) 5 (((sUpd (sUpd (sUpd (sUpd (sUpd M (a0 + 11) (196 + (5 * (M (a0 + 11) 5))).toNat x1) (a0 + 11) ((196 + (5 * (M (a0 + 11) 5))) + 1).toNat x2) (a0 + 11) ((196 + (5 * (M (a0 + 11) 5))) + 2).toNat x3) (a0 + 11) ((196 + (5 * (M (a0 + 11) 5))) + 3).toNat x4) (a0 + 11) ((196 + (5 * (M (a0 + 11) 5))) + 4).toNat x5) (a0 + 11) 5) + 1)) (a0 + 11) 5) (sUpd (sUpd (sUpd (sUpd (sUpd (sUpd M (a0 + 11) (196 + (5 * (M (a0 + 11) 5))).toNat x1) (a0 + 11) ((196 + (5 * (M (a0 + 11) 5))) + 1).toNat x2) (a0 + 11) ((196 + (5 * (M (a0 + 11) 5))) + 2).toNat x3) (a0 + 11) ((196 + (5 * (M (a0 + 11) 5))) + 3).toNat x4) (a0 + 11) ((196 + (5 * (M (a0 + 11) 5))) + 4).toNat x5) (a0 + 11) 5 (((sUpd (sUpd (sUpd (sUpd (sUpd M (a0 + 11) (196 + (5 * (M (a0 + 11) 5))).toNat x1) (a0 + 11) ((196 + (5 * (M (a0 + 11) 5))) + 1).toNat x2) (a0 + 11) ((196 + (5 * (M (a0 + 11) 5))) + 2).toNat x3) (a0 + 11) ((196 + (5 * (M (a0 + 11) 5))) + 3).toNat x4) (a0 + 11) ((196 + (5 * (M (a0 + 11) 5))) + 4).toNat x5) (a0 + 11) 5) + 1)) G) : sW (sC d) 250 (QI P) 102 [vO 12 a0, vI x1, vI x2, vI x3, vI x4, vI x5, vN] [] M G 0 0 := by
  refine q_sipush 105 rfl (show sCode 250 102 = some (.sipush 196, 3) by decide +kernel) ⟨by decide, by decide⟩ (by decide +kernel) ?_
  refine q_iconst 106 rfl (show sCode 250 105 = some (.iconst 5, 1) by decide +kernel) ⟨by decide, by decide⟩ ?_
  refine q_aload_n 107 rfl (show sCode 250 106 = some (.aload_n 0, 1) by decide +kernel) rfl (Nat.le_of_ble_eq_true rfl) ?_
  refine q_getR (vA 0 (a0 + 11) 274) 110 rfl (show sCode 250 107 = some (.getfield 42, 3) by decide +kernel) (show sFR (sKo 250).1 42 = some (12, 23) by decide +kernel) (by decide +kernel) (Or.inl (Or.inl rfl)) rfl ?_
  refine q_iconst 111 rfl (show sCode 250 110 = some (.iconst 5, 1) by decide +kernel) ⟨by decide, by decide⟩ ?_
  refine q_iald 112 rfl (show sCode 250 111 = some (.iaload, 1) by decide +kernel) ⟨by decide, by decide⟩ ?_
  refine q_imul 113 rfl (show sCode 250 112 = some (.imul, 1) by decide +kernel) h1 ?_
  refine q_iadd 114 rfl (show sCode 250 113 = some (.iadd, 1) by decide +kernel) h2 ?_
  refine q_istore [vO 12 a0, vI x1, vI x2, vI x3, vI x4, vI x5, vI (196 + (5 * (M (a0 + 11) 5)))] 116 rfl (show sCode 250 114 = some (.istore 6, 2) by decide +kernel) (Nat.lt_of_lt_of_le (Nat.lt_succ_self _) (Nat.le_of_ble_eq_true rfl)) rfl rfl ?_
  refine q_aload_n 117 rfl (show sCode 250 116 = some (.aload_n 0, 1) by decide +kernel) rfl (Nat.le_of_ble_eq_true rfl) ?_
  refine q_getR (vA 0 (a0 + 11) 274) 120 rfl (show sCode 250 117 = some (.getfield 42, 3) by decide +kernel) (show sFR (sKo 250).1 42 = some (12, 23) by decide +kernel) (by decide +kernel) (Or.inl (Or.inl rfl)) rfl ?_
  refine q_iload 122 rfl (show sCode 250 120 = some (.iload 6, 2) by decide +kernel) rfl ?_
  refine q_iload_n 123 rfl (show sCode 250 122 = some (.iload_n 1, 1) by decide +kernel) rfl ?_
  refine q_iast 124 rfl (show sCode 250 123 = some (.iastore, 1) by decide +kernel) h3 ?_
  refine q_aload_n 125 rfl (show sCode 250 124 = some (.aload_n 0, 1) by decide +kernel) rfl (Nat.le_of_ble_eq_true rfl) ?_
  refine q_getR (vA 0 (a0 + 11) 274) 128 rfl (show sCode 250 125 = some (.getfield 42, 3) by decide +kernel) (show sFR (sKo 250).1 42 = some (12, 23) by decide +kernel) (by decide +kernel) (Or.inl (Or.inl rfl)) rfl ?_
  refine q_iload 130 rfl (show sCode 250 128 = some (.iload 6, 2) by decide +kernel) rfl ?_
  refine q_iconst 131 rfl (show sCode 250 130 = some (.iconst 1, 1) by decide +kernel) ⟨by decide, by decide⟩ ?_
  refine q_iadd 132 rfl (show sCode 250 131 = some (.iadd, 1) by decide +kernel) h4 ?_
  refine q_iload_n 133 rfl (show sCode 250 132 = some (.iload_n 2, 1) by decide +kernel) rfl ?_
  refine q_iast 134 rfl (show sCode 250 133 = some (.iastore, 1) by decide +kernel) h5 ?_
  refine q_aload_n 135 rfl (show sCode 250 134 = some (.aload_n 0, 1) by decide +kernel) rfl (Nat.le_of_ble_eq_true rfl) ?_
  refine q_getR (vA 0 (a0 + 11) 274) 138 rfl (show sCode 250 135 = some (.getfield 42, 3) by decide +kernel) (show sFR (sKo 250).1 42 = some (12, 23) by decide +kernel) (by decide +kernel) (Or.inl (Or.inl rfl)) rfl ?_
  refine q_iload 140 rfl (show sCode 250 138 = some (.iload 6, 2) by decide +kernel) rfl ?_
  refine q_iconst 141 rfl (show sCode 250 140 = some (.iconst 2, 1) by decide +kernel) ⟨by decide, by decide⟩ ?_
  refine q_iadd 142 rfl (show sCode 250 141 = some (.iadd, 1) by decide +kernel) h6 ?_
  refine q_iload_n 143 rfl (show sCode 250 142 = some (.iload_n 3, 1) by decide +kernel) rfl ?_
  refine q_iast 144 rfl (show sCode 250 143 = some (.iastore, 1) by decide +kernel) h7 ?_
  refine q_aload_n 145 rfl (show sCode 250 144 = some (.aload_n 0, 1) by decide +kernel) rfl (Nat.le_of_ble_eq_true rfl) ?_
  refine q_getR (vA 0 (a0 + 11) 274) 148 rfl (show sCode 250 145 = some (.getfield 42, 3) by decide +kernel) (show sFR (sKo 250).1 42 = some (12, 23) by decide +kernel) (by decide +kernel) (Or.inl (Or.inl rfl)) rfl ?_
  refine q_iload 150 rfl (show sCode 250 148 = some (.iload 6, 2) by decide +kernel) rfl ?_
  refine q_iconst 151 rfl (show sCode 250 150 = some (.iconst 3, 1) by decide +kernel) ⟨by decide, by decide⟩ ?_
  refine q_iadd 152 rfl (show sCode 250 151 = some (.iadd, 1) by decide +kernel) h8 ?_
  refine q_iload 154 rfl (show sCode 250 152 = some (.iload 4, 2) by decide +kernel) rfl ?_
  refine q_iast 155 rfl (show sCode 250 154 = some (.iastore, 1) by decide +kernel) h9 ?_
  refine q_aload_n 156 rfl (show sCode 250 155 = some (.aload_n 0, 1) by decide +kernel) rfl (Nat.le_of_ble_eq_true rfl) ?_
  refine q_getR (vA 0 (a0 + 11) 274) 159 rfl (show sCode 250 156 = some (.getfield 42, 3) by decide +kernel) (show sFR (sKo 250).1 42 = some (12, 23) by decide +kernel) (by decide +kernel) (Or.inl (Or.inl rfl)) rfl ?_
  refine q_iload 161 rfl (show sCode 250 159 = some (.iload 6, 2) by decide +kernel) rfl ?_
  refine q_iconst 162 rfl (show sCode 250 161 = some (.iconst 4, 1) by decide +kernel) ⟨by decide, by decide⟩ ?_
  refine q_iadd 163 rfl (show sCode 250 162 = some (.iadd, 1) by decide +kernel) h10 ?_
  refine q_iload 165 rfl (show sCode 250 163 = some (.iload 5, 2) by decide +kernel) rfl ?_
  refine q_iast 166 rfl (show sCode 250 165 = some (.iastore, 1) by decide +kernel) h11 ?_
  refine q_aload_n 167 rfl (show sCode 250 166 = some (.aload_n 0, 1) by decide +kernel) rfl (Nat.le_of_ble_eq_true rfl) ?_
  refine q_getR (vA 0 (a0 + 11) 274) 170 rfl (show sCode 250 167 = some (.getfield 42, 3) by decide +kernel) (show sFR (sKo 250).1 42 = some (12, 23) by decide +kernel) (by decide +kernel) (Or.inl (Or.inl rfl)) rfl ?_
  refine q_iconst 171 rfl (show sCode 250 170 = some (.iconst 5, 1) by decide +kernel) ⟨by decide, by decide⟩ ?_
  refine q_dup2 172 rfl (show sCode 250 171 = some (.dup2, 1) by decide +kernel) rfl rfl ?_
  refine q_iald 173 rfl (show sCode 250 172 = some (.iaload, 1) by decide +kernel) ⟨by decide, by decide⟩ ?_
  refine q_iconst 174 rfl (show sCode 250 173 = some (.iconst 1, 1) by decide +kernel) ⟨by decide, by decide⟩ ?_
  refine q_iadd 175 rfl (show sCode 250 174 = some (.iadd, 1) by decide +kernel) h12 ?_
  refine q_iast 176 rfl (show sCode 250 175 = some (.iastore, 1) by decide +kernel) ⟨by decide, by decide⟩ ?_
  refine q_aload_n 177 rfl (show sCode 250 176 = some (.aload_n 0, 1) by decide +kernel) rfl (Nat.le_of_ble_eq_true rfl) ?_
  refine q_getR (vA 0 (a0 + 11) 274) 180 rfl (show sCode 250 177 = some (.getfield 42, 3) by decide +kernel) (show sFR (sKo 250).1 42 = some (12, 23) by decide +kernel) (by decide +kernel) (Or.inl (Or.inl rfl)) rfl ?_
  refine q_iconst 181 rfl (show sCode 250 180 = some (.iconst 5, 1) by decide +kernel) ⟨by decide, by decide⟩ ?_
  refine q_iald 182 rfl (show sCode 250 181 = some (.iaload, 1) by decide +kernel) ⟨by decide, by decide⟩ ?_
  exact q_iret (show sCode 250 182 = some (.ireturn, 1) by decide +kernel) (by decide +kernel) (by decide +kernel) kk
-- 251 AfterTheLastModel.plan (I)I
theorem b251_0 {d : Nat} {Q : Option sV → sM → sG → Prop} {M : sM} {G : sG} {a0 : Nat} {x1 : Int}  (kk : sC d 183 [vL x1, vL 0, vL 6] M G (QI (fun r M1 G1 => sW (sC d) 251 Q 9 [vO 12 a0, vI x1, vN] (vI r :: []) M1 G1 0 0))) : sW (sC d) 251 Q 0 [vO 12 a0, vI x1, vN] [] M G 0 0 := by
  refine q_iload_n 1 rfl (show sCode 251 0 = some (.iload_n 1, 1) by decide +kernel) rfl ?_
  refine q_i2l 2 rfl (show sCode 251 1 = some (.i2l, 1) by decide +kernel) ?_
  refine q_lconst 3 rfl (show sCode 251 2 = some (.lconst 0, 1) by decide +kernel) ?_
  refine q_ldc2_w 6 rfl (show sCode 251 3 = some (.ldc2_w 401, 3) by decide +kernel) (show sLR (sKo 251).1 401 = some 6 by decide +kernel) ⟨by decide, by decide⟩ ?_
  exact q_statI [vL x1, vL 0, vL 6] 9 rfl (show sCode 251 6 = some (.invokestatic 127, 3) by decide +kernel) (show sMR (sKo 251).1 127 = some 183 by decide +kernel) (show 183 < 1000 ∧ sStat 183 = true ∧ sKo 183 = (12, 3, 2, 0, 0) by decide +kernel) rfl rfl (Nat.le_of_ble_eq_true rfl) rfl rfl rfl (by decide +kernel) kk
theorem b251_9 {d : Nat} {Q : Option sV → sM → sG → Prop} {M : sM} {G : sG} {a0 : Nat} {x1 : Int} {s0 : Int}  (k1 : s0 = 0 → sW (sC d) 251 Q 28 [vN, vN, vN] [] M G 0 0) (k2 : s0 ≠ 0 → sW (sC d) 251 Q 12 [vO 12 a0, vI x1, vN] [] M G 0 0) : sW (sC d) 251 Q 9 [vO 12 a0, vI x1, vN] [vI s0] M G 0 0 := by
  refine q_ifeq 28 12 rfl (by decide) (show sCode 251 9 = some (.ifCond .eq 19, 3) by decide +kernel) ?_ ?_
  · intro q; refine q_forget (L' := [vN, vI x1, vN]) 0 rfl ?_; refine q_forget (L' := [vN, vN, vN]) 1 rfl ?_; exact k1 q
  · intro q; exact k2 q
theorem b251_12 {d : Nat} {Q : Option sV → sM → sG → Prop} {M : sM} {G : sG} {a0 : Nat} {x1 : Int}  (k1 : 6 ≤ x1 → sW (sC d) 251 Q 30 [vO 12 a0, vI x1, vN] [] M G 0 0) (k2 : x1 < 6 → sW (sC d) 251 Q 18 [vO 12 a0, vI x1, vN] [] M G 0 0) : sW (sC d) 251 Q 12 [vO 12 a0, vI x1, vN] [] M G 0 0 := by
  refine q_iload_n 13 rfl (show sCode 251 12 = some (.iload_n 1, 1) by decide +kernel) rfl ?_
  refine q_bipush 15 rfl (show sCode 251 13 = some (.bipush 6, 2) by decide +kernel) ⟨by decide, by decide⟩ (by decide +kernel) ?_
  refine q_icmpge 30 18 rfl (by decide) (show sCode 251 15 = some (.if_icmp .ge 15, 3) by decide +kernel) ?_ ?_
  · intro q; exact k1 q
  · intro q; exact k2 q
theorem b251_18 {d : Nat} {Q : Option sV → sM → sG → Prop} {M : sM} {G : sG} {a0 : Nat} {x1 : Int}  (k1 : x1 < M (a0 + 11) 5 → sW (sC d) 251 Q 30 [vO 12 a0, vI x1, vN] [] M G 0 0) (k2 : M (a0 + 11) 5 ≤ x1 → sW (sC d) 251 Q 28 [vN, vN, vN] [] M G 0 0) : sW (sC d) 251 Q 18 [vO 12 a0, vI x1, vN] [] M G 0 0 := by
  refine q_iload_n 19 rfl (show sCode 251 18 = some (.iload_n 1, 1) by decide +kernel) rfl ?_
  refine q_aload_n 20 rfl (show sCode 251 19 = some (.aload_n 0, 1) by decide +kernel) rfl (Nat.le_of_ble_eq_true rfl) ?_
  refine q_getR (vA 0 (a0 + 11) 274) 23 rfl (show sCode 251 20 = some (.getfield 42, 3) by decide +kernel) (show sFR (sKo 251).1 42 = some (12, 23) by decide +kernel) (by decide +kernel) (Or.inl (Or.inl rfl)) rfl ?_
  refine q_iconst 24 rfl (show sCode 251 23 = some (.iconst 5, 1) by decide +kernel) ⟨by decide, by decide⟩ ?_
  refine q_iald 25 rfl (show sCode 251 24 = some (.iaload, 1) by decide +kernel) ⟨by decide, by decide⟩ ?_
  refine q_icmplt 30 28 rfl (by decide) (show sCode 251 25 = some (.if_icmp .lt 5, 3) by decide +kernel) ?_ ?_
  · intro q; exact k1 q
  · intro q; refine q_forget (L' := [vN, vI x1, vN]) 0 rfl ?_; refine q_forget (L' := [vN, vN, vN]) 1 rfl ?_; exact k2 q
theorem b251_28 {d : Nat} {P : Int → sM → sG → Prop} {M : sM} {G : sG}   (kk : P (-1) M G) : sW (sC d) 251 (QI P) 28 [vN, vN, vN] [] M G 0 0 := by
  refine q_iconst 29 rfl (show sCode 251 28 = some (.iconst (-1), 1) by decide +kernel) ⟨by decide, by decide⟩ ?_
  exact q_iret (show sCode 251 29 = some (.ireturn, 1) by decide +kernel) (by decide +kernel) (by decide +kernel) kk
theorem b251_30 {d : Nat} {Q : Option sV → sM → sG → Prop} {M : sM} {G : sG} {a0 : Nat} {x1 : Int}  (kk : sC d 252 [vO 12 a0] M G (QI (fun r M1 G1 => sW (sC d) 251 Q 34 [vO 12 a0, vI x1, vN] (vI r :: []) M1 G1 0 0))) : sW (sC d) 251 Q 30 [vO 12 a0, vI x1, vN] [] M G 0 0 := by
  refine q_aload_n 31 rfl (show sCode 251 30 = some (.aload_n 0, 1) by decide +kernel) rfl (Nat.le_of_ble_eq_true rfl) ?_
  exact q_virtI [] 34 rfl (show sCode 251 31 = some (.invokevirtual 403, 3) by decide +kernel) (show sMR (sKo 251).1 403 = some 252 by decide +kernel) (show 252 < 1000 ∧ sStat 252 = false ∧ sIni 252 = false ∧ sKo 252 = (12, 0, 1, 0, 0) by decide +kernel) rfl (Or.inl rfl) rfl (Nat.le_of_ble_eq_true rfl) rfl rfl rfl (by decide +kernel) kk
theorem b251_34 {d : Nat} {Q : Option sV → sM → sG → Prop} {M : sM} {G : sG} {a0 : Nat} {x1 : Int} {s0 : Int}  (k1 : x1 ≠ 6 → sW (sC d) 251 Q 45 [vO 12 a0, vI x1, vI s0] [] M G 0 0) (k2 : x1 = 6 → sW (sC d) 251 Q 41 [vN, vN, vI s0] [] M G 0 0) : sW (sC d) 251 Q 34 [vO 12 a0, vI x1, vN] [vI s0] M G 0 0 := by
  refine q_istore_n [vO 12 a0, vI x1, vI s0] 35 rfl (show sCode 251 34 = some (.istore_n 2, 1) by decide +kernel) (Nat.lt_of_lt_of_le (Nat.lt_succ_self _) (Nat.le_of_ble_eq_true rfl)) rfl rfl ?_
  refine q_iload_n 36 rfl (show sCode 251 35 = some (.iload_n 1, 1) by decide +kernel) rfl ?_
  refine q_bipush 38 rfl (show sCode 251 36 = some (.bipush 6, 2) by decide +kernel) ⟨by decide, by decide⟩ (by decide +kernel) ?_
  refine q_icmpne 45 41 rfl (by decide) (show sCode 251 38 = some (.if_icmp .ne 7, 3) by decide +kernel) ?_ ?_
  · intro q; exact k1 q
  · intro q; refine q_forget (L' := [vN, vI x1, vI s0]) 0 rfl ?_; refine q_forget (L' := [vN, vN, vI s0]) 1 rfl ?_; exact k2 q
theorem b251_41 {d : Nat} {Q : Option sV → sM → sG → Prop} {M : sM} {G : sG} {x2 : Int}  (kk : sW (sC d) 251 Q 60 [vN, vN, vN] [vI x2] M G 0 0) : sW (sC d) 251 Q 41 [vN, vN, vI x2] [] M G 0 0 := by
  refine q_iload_n 42 rfl (show sCode 251 41 = some (.iload_n 2, 1) by decide +kernel) rfl ?_
  refine q_goto 60 (by decide) (show sCode 251 42 = some (.goto 18, 3) by decide +kernel) ?_
  refine q_forget (L' := [vN, vN, vN]) 2 rfl ?_
  exact kk
theorem b251_45 {d : Nat} {Q : Option sV → sM → sG → Prop} {M : sM} {G : sG} {a0 : Nat} {x1 : Int} {x2 : Int}  (k1 : x2 ≠ 0 → sW (sC d) 251 Q 54 [vO 12 a0, vI x1, vN] [] M G 0 0) (k2 : x2 = 0 → sW (sC d) 251 Q 49 [vN, vN, vN] [] M G 0 0) : sW (sC d) 251 Q 45 [vO 12 a0, vI x1, vI x2] [] M G 0 0 := by
  refine q_iload_n 46 rfl (show sCode 251 45 = some (.iload_n 2, 1) by decide +kernel) rfl ?_
  refine q_ifne 54 49 rfl (by decide) (show sCode 251 46 = some (.ifCond .ne 8, 3) by decide +kernel) ?_ ?_
  · intro q; refine q_forget (L' := [vO 12 a0, vI x1, vN]) 2 rfl ?_; exact k1 q
  · intro q; refine q_forget (L' := [vN, vI x1, vI x2]) 0 rfl ?_; refine q_forget (L' := [vN, vN, vI x2]) 1 rfl ?_; refine q_forget (L' := [vN, vN, vN]) 2 rfl ?_; exact k2 q
theorem b251_49 {d : Nat} {Q : Option sV → sM → sG → Prop} {M : sM} {G : sG}   (kk : sW (sC d) 251 Q 60 [vN, vN, vN] [vI (-2)] M G 0 0) : sW (sC d) 251 Q 49 [vN, vN, vN] [] M G 0 0 := by
  refine q_bipush 51 rfl (show sCode 251 49 = some (.bipush (-2), 2) by decide +kernel) ⟨by decide, by decide⟩ (by decide +kernel) ?_
  refine q_goto 60 (by decide) (show sCode 251 51 = some (.goto 9, 3) by decide +kernel) ?_
  exact kk
theorem b251_54 {d : Nat} {Q : Option sV → sM → sG → Prop} {M : sM} {G : sG} {a0 : Nat} {x1 : Int} (h1 : 0 ≤ x1 ∧ x1 < 6) (kk : sW (sC d) 251 Q 60 [vN, vN, vN] [vI (M (a0 + 18) x1.toNat)] M G 0 0) : sW (sC d) 251 Q 54 [vO 12 a0, vI x1, vN] [] M G 0 0 := by
  refine q_aload_n 55 rfl (show sCode 251 54 = some (.aload_n 0, 1) by decide +kernel) rfl (Nat.le_of_ble_eq_true rfl) ?_
  refine q_getR (vA 0 (a0 + 18) 6) 58 rfl (show sCode 251 55 = some (.getfield 63, 3) by decide +kernel) (show sFR (sKo 251).1 63 = some (12, 30) by decide +kernel) (by decide +kernel) (Or.inl (Or.inl rfl)) rfl ?_
  refine q_iload_n 59 rfl (show sCode 251 58 = some (.iload_n 1, 1) by decide +kernel) rfl ?_
  refine q_iald 60 rfl (show sCode 251 59 = some (.iaload, 1) by decide +kernel) h1 ?_
  refine q_forget (L' := [vN, vI x1, vN]) 0 rfl ?_
  refine q_forget (L' := [vN, vN, vN]) 1 rfl ?_
  exact kk
theorem b251_60 {d : Nat} {P : Int → sM → sG → Prop} {M : sM} {G : sG} {s0 : Int}  (kk : P s0 M G) : sW (sC d) 251 (QI P) 60 [vN, vN, vN] [vI s0] M G 0 0 := by
  exact q_iret (show sCode 251 60 = some (.ireturn, 1) by decide +kernel) (by decide +kernel) (by decide +kernel) kk
-- 252 AfterTheLastModel.plans ()I
theorem b252_0 {d : Nat} {Q : Option sV → sM → sG → Prop} {M : sM} {G : sG} {a0 : Nat}  (k1 : M (a0 + 11) 5 ≠ 0 → sW (sC d) 252 Q 17 [vO 12 a0, vI (M (a0 + 11) 5), vI 0, vI 0, vN] [] M G 0 0) (k2 : M (a0 + 11) 5 = 0 → sW (sC d) 252 Q 15 [vN, vN, vN, vN, vN] [] M G 0 0) : sW (sC d) 252 Q 0 [vO 12 a0, vN, vN, vN, vN] [] M G 0 0 := by
  refine q_aload_n 1 rfl (show sCode 252 0 = some (.aload_n 0, 1) by decide +kernel) rfl (Nat.le_of_ble_eq_true rfl) ?_
  refine q_getR (vA 0 (a0 + 11) 274) 4 rfl (show sCode 252 1 = some (.getfield 42, 3) by decide +kernel) (show sFR (sKo 252).1 42 = some (12, 23) by decide +kernel) (by decide +kernel) (Or.inl (Or.inl rfl)) rfl ?_
  refine q_iconst 5 rfl (show sCode 252 4 = some (.iconst 5, 1) by decide +kernel) ⟨by decide, by decide⟩ ?_
  refine q_iald 6 rfl (show sCode 252 5 = some (.iaload, 1) by decide +kernel) ⟨by decide, by decide⟩ ?_
  refine q_istore_n [vO 12 a0, vI (M (a0 + 11) 5), vN, vN, vN] 7 rfl (show sCode 252 6 = some (.istore_n 1, 1) by decide +kernel) (Nat.lt_of_lt_of_le (Nat.lt_succ_self _) (Nat.le_of_ble_eq_true rfl)) rfl rfl ?_
  refine q_iconst 8 rfl (show sCode 252 7 = some (.iconst 0, 1) by decide +kernel) ⟨by decide, by decide⟩ ?_
  refine q_istore_n [vO 12 a0, vI (M (a0 + 11) 5), vI 0, vN, vN] 9 rfl (show sCode 252 8 = some (.istore_n 2, 1) by decide +kernel) (Nat.lt_of_lt_of_le (Nat.lt_succ_self _) (Nat.le_of_ble_eq_true rfl)) rfl rfl ?_
  refine q_iconst 10 rfl (show sCode 252 9 = some (.iconst 0, 1) by decide +kernel) ⟨by decide, by decide⟩ ?_
  refine q_istore_n [vO 12 a0, vI (M (a0 + 11) 5), vI 0, vI 0, vN] 11 rfl (show sCode 252 10 = some (.istore_n 3, 1) by decide +kernel) (Nat.lt_of_lt_of_le (Nat.lt_succ_self _) (Nat.le_of_ble_eq_true rfl)) rfl rfl ?_
  refine q_iload_n 12 rfl (show sCode 252 11 = some (.iload_n 1, 1) by decide +kernel) rfl ?_
  refine q_ifne 17 15 rfl (by decide) (show sCode 252 12 = some (.ifCond .ne 5, 3) by decide +kernel) ?_ ?_
  · intro q; exact k1 q
  · intro q; refine q_forget (L' := [vN, vI (M (a0 + 11) 5), vI 0, vI 0, vN]) 0 rfl ?_; refine q_forget (L' := [vN, vN, vI 0, vI 0, vN]) 1 rfl ?_; refine q_forget (L' := [vN, vN, vN, vI 0, vN]) 2 rfl ?_; refine q_forget (L' := [vN, vN, vN, vN, vN]) 3 rfl ?_; exact k2 q
theorem b252_15 {d : Nat} {P : Int → sM → sG → Prop} {M : sM} {G : sG}   (kk : P 1 M G) : sW (sC d) 252 (QI P) 15 [vN, vN, vN, vN, vN] [] M G 0 0 := by
  refine q_iconst 16 rfl (show sCode 252 15 = some (.iconst 1, 1) by decide +kernel) ⟨by decide, by decide⟩ ?_
  exact q_iret (show sCode 252 16 = some (.ireturn, 1) by decide +kernel) (by decide +kernel) (by decide +kernel) kk
theorem b252_17 {d : Nat} {Q : Option sV → sM → sG → Prop} {M : sM} {G : sG} {a0 : Nat} {x1 : Int} {x2 : Int} {x3 : Int} (h1 : sI ((M (a0 + 11) 198) - 1)) (kk : sW (sC d) 252 Q 33 [vO 12 a0, vI x1, vI x2, vI x3, vN] [] (sUpd M (a0 + 17) 0 ((M (a0 + 11) 198) - 1)) G 0 0) : sW (sC d) 252 Q 17 [vO 12 a0, vI x1, vI x2, vI x3, vN] [] M G 0 0 := by
  refine q_aload_n 18 rfl (show sCode 252 17 = some (.aload_n 0, 1) by decide +kernel) rfl (Nat.le_of_ble_eq_true rfl) ?_
  refine q_getR (vA 0 (a0 + 17) 6) 21 rfl (show sCode 252 18 = some (.getfield 60, 3) by decide +kernel) (show sFR (sKo 252).1 60 = some (12, 29) by decide +kernel) (by decide +kernel) (Or.inl (Or.inl rfl)) rfl ?_
  refine q_iconst 22 rfl (show sCode 252 21 = some (.iconst 0, 1) by decide +kernel) ⟨by decide, by decide⟩ ?_
  refine q_aload_n 23 rfl (show sCode 252 22 = some (.aload_n 0, 1) by decide +kernel) rfl (Nat.le_of_ble_eq_true rfl) ?_
  refine q_getR (vA 0 (a0 + 11) 274) 26 rfl (show sCode 252 23 = some (.getfield 42, 3) by decide +kernel) (show sFR (sKo 252).1 42 = some (12, 23) by decide +kernel) (by decide +kernel) (Or.inl (Or.inl rfl)) rfl ?_
  refine q_sipush 29 rfl (show sCode 252 26 = some (.sipush 198, 3) by decide +kernel) ⟨by decide, by decide⟩ (by decide +kernel) ?_
  refine q_iald 30 rfl (show sCode 252 29 = some (.iaload, 1) by decide +kernel) ⟨by decide, by decide⟩ ?_
  refine q_iconst 31 rfl (show sCode 252 30 = some (.iconst 1, 1) by decide +kernel) ⟨by decide, by decide⟩ ?_
  refine q_isub 32 rfl (show sCode 252 31 = some (.isub, 1) by decide +kernel) h1 ?_
  refine q_iast 33 rfl (show sCode 252 32 = some (.iastore, 1) by decide +kernel) ⟨by decide, by decide⟩ ?_
  exact kk
theorem b252_33 {d : Nat} {Q : Option sV → sM → sG → Prop} {M : sM} {G : sG} {a0 : Nat} {x1 : Int} {x2 : Int} {x3 : Int}  (k1 : x3 < 0 → sW (sC d) 252 Q 167 [vN, vN, vI x2, vN, vN] [] M G 0 0) (k2 : 0 ≤ x3 → sW (sC d) 252 Q 37 [vO 12 a0, vI x1, vI x2, vI x3, vN] [] M G 0 0) : sW (sC d) 252 Q 33 [vO 12 a0, vI x1, vI x2, vI x3, vN] [] M G 0 0 := by
  refine q_iload_n 34 rfl (show sCode 252 33 = some (.iload_n 3, 1) by decide +kernel) rfl ?_
  refine q_iflt 167 37 rfl (by decide) (show sCode 252 34 = some (.ifCond .lt 133, 3) by decide +kernel) ?_ ?_
  · intro q; refine q_forget (L' := [vN, vI x1, vI x2, vI x3, vN]) 0 rfl ?_; refine q_forget (L' := [vN, vN, vI x2, vI x3, vN]) 1 rfl ?_; refine q_forget (L' := [vN, vN, vI x2, vN, vN]) 3 rfl ?_; exact k1 q
  · intro q; exact k2 q
theorem b252_37 {d : Nat} {Q : Option sV → sM → sG → Prop} {M : sM} {G : sG} {a0 : Nat} {x1 : Int} {x2 : Int} {x3 : Int}  (k1 : 1000000 ≤ x2 → sW (sC d) 252 Q 167 [vN, vN, vI x2, vN, vN] [] M G 0 0) (k2 : x2 < 1000000 → sW (sC d) 252 Q 44 [vO 12 a0, vI x1, vI x2, vI x3, vN] [] M G 0 0) : sW (sC d) 252 Q 37 [vO 12 a0, vI x1, vI x2, vI x3, vN] [] M G 0 0 := by
  refine q_iload_n 38 rfl (show sCode 252 37 = some (.iload_n 2, 1) by decide +kernel) rfl ?_
  refine q_ldc_w 41 rfl (show sCode 252 38 = some (.ldc_w 397, 3) by decide +kernel) (show sIR (sKo 252).1 397 = some 1000000 by decide +kernel) ⟨by decide, by decide⟩ ?_
  refine q_icmpge 167 44 rfl (by decide) (show sCode 252 41 = some (.if_icmp .ge 126, 3) by decide +kernel) ?_ ?_
  · intro q; refine q_forget (L' := [vN, vI x1, vI x2, vI x3, vN]) 0 rfl ?_; refine q_forget (L' := [vN, vN, vI x2, vI x3, vN]) 1 rfl ?_; refine q_forget (L' := [vN, vN, vI x2, vN, vN]) 3 rfl ?_; exact k1 q
  · intro q; exact k2 q
theorem b252_44 {d : Nat} {Q : Option sV → sM → sG → Prop} {M : sM} {G : sG} {a0 : Nat} {x1 : Int} {x2 : Int} {x3 : Int} (h1 : 0 ≤ x3 ∧ x3 < 6) (h2 : sI ((M (a0 + 17) x3.toNat) + 1)) (h3 : 0 ≤ x3 ∧ x3 < 6) (kk : sC d 253 [vO 12 a0, vI x3] (sUpd M (a0 + 17) x3.toNat ((M (a0 + 17) x3.toNat) + 1)) G (QI (fun r M1 G1 => sW (sC d) 252 Q 59 [vO 12 a0, vI x1, vI x2, vI x3, vN] (vI r :: []) M1 G1 0 0))) : sW (sC d) 252 Q 44 [vO 12 a0, vI x1, vI x2, vI x3, vN] [] M G 0 0 := by
  refine q_aload_n 45 rfl (show sCode 252 44 = some (.aload_n 0, 1) by decide +kernel) rfl (Nat.le_of_ble_eq_true rfl) ?_
  refine q_getR (vA 0 (a0 + 17) 6) 48 rfl (show sCode 252 45 = some (.getfield 60, 3) by decide +kernel) (show sFR (sKo 252).1 60 = some (12, 29) by decide +kernel) (by decide +kernel) (Or.inl (Or.inl rfl)) rfl ?_
  refine q_iload_n 49 rfl (show sCode 252 48 = some (.iload_n 3, 1) by decide +kernel) rfl ?_
  refine q_dup2 50 rfl (show sCode 252 49 = some (.dup2, 1) by decide +kernel) rfl rfl ?_
  refine q_iald 51 rfl (show sCode 252 50 = some (.iaload, 1) by decide +kernel) h1 ?_
  refine q_iconst 52 rfl (show sCode 252 51 = some (.iconst 1, 1) by decide +kernel) ⟨by decide, by decide⟩ ?_
  refine q_iadd 53 rfl (show sCode 252 52 = some (.iadd, 1) by decide +kernel) h2 ?_
  refine q_iast 54 rfl (show sCode 252 53 = some (.iastore, 1) by decide +kernel) h3 ?_
  refine q_aload_n 55 rfl (show sCode 252 54 = some (.aload_n 0, 1) by decide +kernel) rfl (Nat.le_of_ble_eq_true rfl) ?_
  refine q_iload_n 56 rfl (show sCode 252 55 = some (.iload_n 3, 1) by decide +kernel) rfl ?_
  exact q_virtI [vI x3] 59 rfl (show sCode 252 56 = some (.invokevirtual 394, 3) by decide +kernel) (show sMR (sKo 252).1 394 = some 253 by decide +kernel) (show 253 < 1000 ∧ sStat 253 = false ∧ sIni 253 = false ∧ sKo 253 = (12, 1, 1, 0, 0) by decide +kernel) rfl (Or.inl rfl) rfl (Nat.le_of_ble_eq_true rfl) rfl rfl rfl (by decide +kernel) kk
theorem b252_59 {d : Nat} {Q : Option sV → sM → sG → Prop} {M : sM} {G : sG} {a0 : Nat} {x1 : Int} {x2 : Int} {x3 : Int} {s0 : Int} (h1 : sI (5 * x3)) (h2 : sI (196 + (5 * x3))) (h3 : sI ((196 + (5 * x3)) + 3)) (h4 : 0 ≤ (196 + (5 * x3)) + 3 ∧ (196 + (5 * x3)) + 3 < 274) (k1 : s0 ≤ M (a0 + 11) ((196 + (5 * x3)) + 3).toNat → sW (sC d) 252 Q 82 [vO 12 a0, vI x1, vI x2, vI x3, vN] [] M G 0 0) (k2 : M (a0 + 11) ((196 + (5 * x3)) + 3).toNat < s0 → sW (sC d) 252 Q 76 [vO 12 a0, vI x1, vI x2, vI x3, vN] [] M G 0 0) : sW (sC d) 252 Q 59 [vO 12 a0, vI x1, vI x2, vI x3, vN] [vI s0] M G 0 0 := by
  refine q_aload_n 60 rfl (show sCode 252 59 = some (.aload_n 0, 1) by decide +kernel) rfl (Nat.le_of_ble_eq_true rfl) ?_
  refine q_getR (vA 0 (a0 + 11) 274) 63 rfl (show sCode 252 60 = some (.getfield 42, 3) by decide +kernel) (show sFR (sKo 252).1 42 = some (12, 23) by decide +kernel) (by decide +kernel) (Or.inl (Or.inl rfl)) rfl ?_
  refine q_sipush 66 rfl (show sCode 252 63 = some (.sipush 196, 3) by decide +kernel) ⟨by decide, by decide⟩ (by decide +kernel) ?_
  refine q_iconst 67 rfl (show sCode 252 66 = some (.iconst 5, 1) by decide +kernel) ⟨by decide, by decide⟩ ?_
  refine q_iload_n 68 rfl (show sCode 252 67 = some (.iload_n 3, 1) by decide +kernel) rfl ?_
  refine q_imul 69 rfl (show sCode 252 68 = some (.imul, 1) by decide +kernel) h1 ?_
  refine q_iadd 70 rfl (show sCode 252 69 = some (.iadd, 1) by decide +kernel) h2 ?_
  refine q_iconst 71 rfl (show sCode 252 70 = some (.iconst 3, 1) by decide +kernel) ⟨by decide, by decide⟩ ?_
  refine q_iadd 72 rfl (show sCode 252 71 = some (.iadd, 1) by decide +kernel) h3 ?_
  refine q_iald 73 rfl (show sCode 252 72 = some (.iaload, 1) by decide +kernel) h4 ?_
  refine q_icmple 82 76 rfl (by decide) (show sCode 252 73 = some (.if_icmp .le 9, 3) by decide +kernel) ?_ ?_
  · intro q; exact k1 q
  · intro q; exact k2 q
theorem b252_76 {d : Nat} {Q : Option sV → sM → sG → Prop} {M : sM} {G : sG} {a0 : Nat} {x1 : Int} {x2 : Int} {x3 : Int} (h1 : sI (x3 + (-1))) (kk : sW (sC d) 252 Q 33 [vO 12 a0, vI x1, vI x2, vI (x3 + (-1)), vN] [] M G 0 0) : sW (sC d) 252 Q 76 [vO 12 a0, vI x1, vI x2, vI x3, vN] [] M G 0 0 := by
  refine q_iinc [vO 12 a0, vI x1, vI x2, vI (x3 + (-1)), vN] 79 rfl (show sCode 252 76 = some (.iinc 3 (-1), 3) by decide +kernel) rfl rfl h1 rfl ?_
  refine q_goto 33 (by decide) (show sCode 252 79 = some (.goto (-46), 3) by decide +kernel) ?_
  exact kk
theorem b252_82 {d : Nat} {Q : Option sV → sM → sG → Prop} {M : sM} {G : sG} {a0 : Nat} {x1 : Int} {x2 : Int} {x3 : Int}  (kk : sC d 254 [vO 12 a0, vI x3] M G (QI (fun r M1 G1 => sW (sC d) 252 Q 87 [vO 12 a0, vI x1, vI x2, vI x3, vN] (vI r :: []) M1 G1 0 0))) : sW (sC d) 252 Q 82 [vO 12 a0, vI x1, vI x2, vI x3, vN] [] M G 0 0 := by
  refine q_aload_n 83 rfl (show sCode 252 82 = some (.aload_n 0, 1) by decide +kernel) rfl (Nat.le_of_ble_eq_true rfl) ?_
  refine q_iload_n 84 rfl (show sCode 252 83 = some (.iload_n 3, 1) by decide +kernel) rfl ?_
  exact q_virtI [vI x3] 87 rfl (show sCode 252 84 = some (.invokevirtual 398, 3) by decide +kernel) (show sMR (sKo 252).1 398 = some 254 by decide +kernel) (show 254 < 1000 ∧ sStat 254 = false ∧ sIni 254 = false ∧ sKo 254 = (12, 1, 2, 0, 0) by decide +kernel) rfl (Or.inl rfl) rfl (Nat.le_of_ble_eq_true rfl) rfl rfl rfl (by decide +kernel) kk
theorem b252_87 {d : Nat} {Q : Option sV → sM → sG → Prop} {M : sM} {G : sG} {a0 : Nat} {x1 : Int} {x2 : Int} {x3 : Int} {s0 : Int}  (k1 : s0 ≠ 0 → sW (sC d) 252 Q 93 [vO 12 a0, vI x1, vI x2, vI x3, vN] [] M G 0 0) (k2 : s0 = 0 → sW (sC d) 252 Q 90 [vO 12 a0, vI x1, vI x2, vI x3, vN] [] M G 0 0) : sW (sC d) 252 Q 87 [vO 12 a0, vI x1, vI x2, vI x3, vN] [vI s0] M G 0 0 := by
  refine q_ifne 93 90 rfl (by decide) (show sCode 252 87 = some (.ifCond .ne 6, 3) by decide +kernel) ?_ ?_
  · intro q; exact k1 q
  · intro q; exact k2 q
theorem b252_90 {d : Nat} {Q : Option sV → sM → sG → Prop} {M : sM} {G : sG} {a0 : Nat} {x1 : Int} {x2 : Int} {x3 : Int}  (kk : sW (sC d) 252 Q 33 [vO 12 a0, vI x1, vI x2, vI x3, vN] [] M G 0 0) : sW (sC d) 252 Q 90 [vO 12 a0, vI x1, vI x2, vI x3, vN] [] M G 0 0 := by
  refine q_goto 33 (by decide) (show sCode 252 90 = some (.goto (-57), 3) by decide +kernel) ?_
  exact kk
theorem b252_93 {d : Nat} {Q : Option sV → sM → sG → Prop} {M : sM} {G : sG} {a0 : Nat} {x1 : Int} {x2 : Int} {x3 : Int} (h1 : sI (x1 - 1)) (k1 : x1 - 1 ≤ x3 → sW (sC d) 252 Q 128 [vO 12 a0, vI x1, vI x2, vI x3, vN] [] M G 0 0) (k2 : x3 < x1 - 1 → sW (sC d) 252 Q 100 [vO 12 a0, vI x1, vI x2, vI x3, vN] [] M G 0 0) : sW (sC d) 252 Q 93 [vO 12 a0, vI x1, vI x2, vI x3, vN] [] M G 0 0 := by
  refine q_iload_n 94 rfl (show sCode 252 93 = some (.iload_n 3, 1) by decide +kernel) rfl ?_
  refine q_iload_n 95 rfl (show sCode 252 94 = some (.iload_n 1, 1) by decide +kernel) rfl ?_
  refine q_iconst 96 rfl (show sCode 252 95 = some (.iconst 1, 1) by decide +kernel) ⟨by decide, by decide⟩ ?_
  refine q_isub 97 rfl (show sCode 252 96 = some (.isub, 1) by decide +kernel) h1 ?_
  refine q_icmpge 128 100 rfl (by decide) (show sCode 252 97 = some (.if_icmp .ge 31, 3) by decide +kernel) ?_ ?_
  · intro q; exact k1 q
  · intro q; exact k2 q
theorem b252_100 {d : Nat} {Q : Option sV → sM → sG → Prop} {M : sM} {G : sG} {a0 : Nat} {x1 : Int} {x2 : Int} {x3 : Int} (h1 : sI (x3 + 1)) (h2 : sI (5 * (x3 + 1))) (h3 : sI (196 + (5 * (x3 + 1)))) (h4 : sI ((196 + (5 * (x3 + 1))) + 2)) (h5 : 0 ≤ (196 + (5 * (x3 + 1))) + 2 ∧ (196 + (5 * (x3 + 1))) + 2 < 274) (h6 : sI ((M (a0 + 11) ((196 + (5 * (x3 + 1))) + 2).toNat) - 1)) (h7 : 0 ≤ x3 + 1 ∧ x3 + 1 < 6) (kk : sW (sC d) 252 Q 33 [vO 12 a0, vI x1, vI x2, vI (x3 + 1), vN] [] (sUpd M (a0 + 17) (x3 + 1).toNat ((M (a0 + 11) ((196 + (5 * (x3 + 1))) + 2).toNat) - 1)) G 0 0) : sW (sC d) 252 Q 100 [vO 12 a0, vI x1, vI x2, vI x3, vN] [] M G 0 0 := by
  refine q_iinc [vO 12 a0, vI x1, vI x2, vI (x3 + 1), vN] 103 rfl (show sCode 252 100 = some (.iinc 3 1, 3) by decide +kernel) rfl rfl h1 rfl ?_
  refine q_aload_n 104 rfl (show sCode 252 103 = some (.aload_n 0, 1) by decide +kernel) rfl (Nat.le_of_ble_eq_true rfl) ?_
  refine q_getR (vA 0 (a0 + 17) 6) 107 rfl (show sCode 252 104 = some (.getfield 60, 3) by decide +kernel) (show sFR (sKo 252).1 60 = some (12, 29) by decide +kernel) (by decide +kernel) (Or.inl (Or.inl rfl)) rfl ?_
  refine q_iload_n 108 rfl (show sCode 252 107 = some (.iload_n 3, 1) by decide +kernel) rfl ?_
  refine q_aload_n 109 rfl (show sCode 252 108 = some (.aload_n 0, 1) by decide +kernel) rfl (Nat.le_of_ble_eq_true rfl) ?_
  refine q_getR (vA 0 (a0 + 11) 274) 112 rfl (show sCode 252 109 = some (.getfield 42, 3) by decide +kernel) (show sFR (sKo 252).1 42 = some (12, 23) by decide +kernel) (by decide +kernel) (Or.inl (Or.inl rfl)) rfl ?_
  refine q_sipush 115 rfl (show sCode 252 112 = some (.sipush 196, 3) by decide +kernel) ⟨by decide, by decide⟩ (by decide +kernel) ?_
  refine q_iconst 116 rfl (show sCode 252 115 = some (.iconst 5, 1) by decide +kernel) ⟨by decide, by decide⟩ ?_
  refine q_iload_n 117 rfl (show sCode 252 116 = some (.iload_n 3, 1) by decide +kernel) rfl ?_
  refine q_imul 118 rfl (show sCode 252 117 = some (.imul, 1) by decide +kernel) h2 ?_
  refine q_iadd 119 rfl (show sCode 252 118 = some (.iadd, 1) by decide +kernel) h3 ?_
  refine q_iconst 120 rfl (show sCode 252 119 = some (.iconst 2, 1) by decide +kernel) ⟨by decide, by decide⟩ ?_
  refine q_iadd 121 rfl (show sCode 252 120 = some (.iadd, 1) by decide +kernel) h4 ?_
  refine q_iald 122 rfl (show sCode 252 121 = some (.iaload, 1) by decide +kernel) h5 ?_
  refine q_iconst 123 rfl (show sCode 252 122 = some (.iconst 1, 1) by decide +kernel) ⟨by decide, by decide⟩ ?_
  refine q_isub 124 rfl (show sCode 252 123 = some (.isub, 1) by decide +kernel) h6 ?_
  refine q_iast 125 rfl (show sCode 252 124 = some (.iastore, 1) by decide +kernel) h7 ?_
  refine q_goto 33 (by decide) (show sCode 252 125 = some (.goto (-92), 3) by decide +kernel) ?_
  exact kk
theorem b252_128 {d : Nat} {Q : Option sV → sM → sG → Prop} {M : sM} {G : sG} {a0 : Nat} {x1 : Int} {x2 : Int} {x3 : Int}  (kk : sW (sC d) 252 Q 131 [vO 12 a0, vI x1, vI x2, vI x3, vI 0] [] M G 0 0) : sW (sC d) 252 Q 128 [vO 12 a0, vI x1, vI x2, vI x3, vN] [] M G 0 0 := by
  refine q_iconst 129 rfl (show sCode 252 128 = some (.iconst 0, 1) by decide +kernel) ⟨by decide, by decide⟩ ?_
  refine q_istore [vO 12 a0, vI x1, vI x2, vI x3, vI 0] 131 rfl (show sCode 252 129 = some (.istore 4, 2) by decide +kernel) (Nat.lt_of_lt_of_le (Nat.lt_succ_self _) (Nat.le_of_ble_eq_true rfl)) rfl rfl ?_
  exact kk
theorem b252_131 {d : Nat} {Q : Option sV → sM → sG → Prop} {M : sM} {G : sG} {a0 : Nat} {x1 : Int} {x2 : Int} {x3 : Int} {x4 : Int}  (k1 : x1 ≤ x4 → sW (sC d) 252 Q 161 [vO 12 a0, vI x1, vI x2, vI x3, vN] [] M G 0 0) (k2 : x4 < x1 → sW (sC d) 252 Q 137 [vO 12 a0, vI x1, vI x2, vI x3, vI x4] [] M G 0 0) : sW (sC d) 252 Q 131 [vO 12 a0, vI x1, vI x2, vI x3, vI x4] [] M G 0 0 := by
  refine q_iload 133 rfl (show sCode 252 131 = some (.iload 4, 2) by decide +kernel) rfl ?_
  refine q_iload_n 134 rfl (show sCode 252 133 = some (.iload_n 1, 1) by decide +kernel) rfl ?_
  refine q_icmpge 161 137 rfl (by decide) (show sCode 252 134 = some (.if_icmp .ge 27, 3) by decide +kernel) ?_ ?_
  · intro q; refine q_forget (L' := [vO 12 a0, vI x1, vI x2, vI x3, vN]) 4 rfl ?_; exact k1 q
  · intro q; exact k2 q
theorem b252_137 {d : Nat} {Q : Option sV → sM → sG → Prop} {M : sM} {G : sG} {a0 : Nat} {x1 : Int} {x2 : Int} {x3 : Int} {x4 : Int}  (k1 : x2 ≠ 0 → sW (sC d) 252 Q 161 [vO 12 a0, vI x1, vI x2, vI x3, vN] [] M G 0 0) (k2 : x2 = 0 → sW (sC d) 252 Q 141 [vO 12 a0, vI x1, vI x2, vI x3, vI x4] [] M G 0 0) : sW (sC d) 252 Q 137 [vO 12 a0, vI x1, vI x2, vI x3, vI x4] [] M G 0 0 := by
  refine q_iload_n 138 rfl (show sCode 252 137 = some (.iload_n 2, 1) by decide +kernel) rfl ?_
  refine q_ifne 161 141 rfl (by decide) (show sCode 252 138 = some (.ifCond .ne 23, 3) by decide +kernel) ?_ ?_
  · intro q; refine q_forget (L' := [vO 12 a0, vI x1, vI x2, vI x3, vN]) 4 rfl ?_; exact k1 q
  · intro q; exact k2 q
theorem b252_141 {d : Nat} {Q : Option sV → sM → sG → Prop} {M : sM} {G : sG} {a0 : Nat} {x1 : Int} {x2 : Int} {x3 : Int} {x4 : Int} (h1 : 0 ≤ x4 ∧ x4 < 6) (h2 : 0 ≤ x4 ∧ x4 < 6) (h3 : sI (x4 + 1)) (kk : sW (sC d) 252 Q 131 [vO 12 a0, vI x1, vI x2, vI x3, vI (x4 + 1)] [] (sUpd M (a0 + 18) x4.toNat (M (a0 + 17) x4.toNat)) G 0 0) : sW (sC d) 252 Q 141 [vO 12 a0, vI x1, vI x2, vI x3, vI x4] [] M G 0 0 := by
  refine q_aload_n 142 rfl (show sCode 252 141 = some (.aload_n 0, 1) by decide +kernel) rfl (Nat.le_of_ble_eq_true rfl) ?_
  refine q_getR (vA 0 (a0 + 18) 6) 145 rfl (show sCode 252 142 = some (.getfield 63, 3) by decide +kernel) (show sFR (sKo 252).1 63 = some (12, 30) by decide +kernel) (by decide +kernel) (Or.inl (Or.inl rfl)) rfl ?_
  refine q_iload 147 rfl (show sCode 252 145 = some (.iload 4, 2) by decide +kernel) rfl ?_
  refine q_aload_n 148 rfl (show sCode 252 147 = some (.aload_n 0, 1) by decide +kernel) rfl (Nat.le_of_ble_eq_true rfl) ?_
  refine q_getR (vA 0 (a0 + 17) 6) 151 rfl (show sCode 252 148 = some (.getfield 60, 3) by decide +kernel) (show sFR (sKo 252).1 60 = some (12, 29) by decide +kernel) (by decide +kernel) (Or.inl (Or.inl rfl)) rfl ?_
  refine q_iload 153 rfl (show sCode 252 151 = some (.iload 4, 2) by decide +kernel) rfl ?_
  refine q_iald 154 rfl (show sCode 252 153 = some (.iaload, 1) by decide +kernel) h1 ?_
  refine q_iast 155 rfl (show sCode 252 154 = some (.iastore, 1) by decide +kernel) h2 ?_
  refine q_iinc [vO 12 a0, vI x1, vI x2, vI x3, vI (x4 + 1)] 158 rfl (show sCode 252 155 = some (.iinc 4 1, 3) by decide +kernel) rfl rfl h3 rfl ?_
  refine q_goto 131 (by decide) (show sCode 252 158 = some (.goto (-27), 3) by decide +kernel) ?_
  exact kk
theorem b252_161 {d : Nat} {Q : Option sV → sM → sG → Prop} {M : sM} {G : sG} {a0 : Nat} {x1 : Int} {x2 : Int} {x3 : Int} (h1 : sI (x2 + 1)) (kk : sW (sC d) 252 Q 33 [vO 12 a0, vI x1, vI (x2 + 1), vI x3, vN] [] M G 0 0) : sW (sC d) 252 Q 161 [vO 12 a0, vI x1, vI x2, vI x3, vN] [] M G 0 0 := by
  refine q_iinc [vO 12 a0, vI x1, vI (x2 + 1), vI x3, vN] 164 rfl (show sCode 252 161 = some (.iinc 2 1, 3) by decide +kernel) rfl rfl h1 rfl ?_
  refine q_goto 33 (by decide) (show sCode 252 164 = some (.goto (-131), 3) by decide +kernel) ?_
  exact kk
theorem b252_167 {d : Nat} {P : Int → sM → sG → Prop} {M : sM} {G : sG} {x2 : Int}  (kk : P x2 M G) : sW (sC d) 252 (QI P) 167 [vN, vN, vI x2, vN, vN] [] M G 0 0 := by
  refine q_iload_n 168 rfl (show sCode 252 167 = some (.iload_n 2, 1) by decide +kernel) rfl ?_
  exact q_iret (show sCode 252 168 = some (.ireturn, 1) by decide +kernel) (by decide +kernel) (by decide +kernel) kk
-- 253 AfterTheLastModel.endOf (I)I
theorem b253_0 {d : Nat} {P : Int → sM → sG → Prop} {M : sM} {G : sG} {a0 : Nat} {x1 : Int} (h1 : 0 ≤ x1 ∧ x1 < 6) (h2 : sI (5 * x1)) (h3 : sI (196 + (5 * x1))) (h4 : sI ((196 + (5 * x1)) + 4)) (h5 : 0 ≤ (196 + (5 * x1)) + 4 ∧ (196 + (5 * x1)) + 4 < 274) (h6 : sI ((M (a0 + 17) x1.toNat) + (M (a0 + 11) ((196 + (5 * x1)) + 4).toNat))) (kk : P ((M (a0 + 17) x1.toNat) + (M (a0 + 11) ((196 + (5 * x1)) + 4).toNat)) M G) : sW (sC d) 253 (QI P) 0 [vO 12 a0, vI x1] [] M G 0 0 := by
  refine q_aload_n 1 rfl (show sCode 253 0 = some (.aload_n 0, 1) by decide +kernel) rfl (Nat.le_of_ble_eq_true rfl) ?_
  refine q_getR (vA 0 (a0 + 17) 6) 4 rfl (show sCode 253 1 = some (.getfield 60, 3) by decide +kernel) (show sFR (sKo 253).1 60 = some (12, 29) by decide +kernel) (by decide +kernel) (Or.inl (Or.inl rfl)) rfl ?_
  refine q_iload_n 5 rfl (show sCode 253 4 = some (.iload_n 1, 1) by decide +kernel) rfl ?_
  refine q_iald 6 rfl (show sCode 253 5 = some (.iaload, 1) by decide +kernel) h1 ?_
  refine q_aload_n 7 rfl (show sCode 253 6 = some (.aload_n 0, 1) by decide +kernel) rfl (Nat.le_of_ble_eq_true rfl) ?_
  refine q_getR (vA 0 (a0 + 11) 274) 10 rfl (show sCode 253 7 = some (.getfield 42, 3) by decide +kernel) (show sFR (sKo 253).1 42 = some (12, 23) by decide +kernel) (by decide +kernel) (Or.inl (Or.inl rfl)) rfl ?_
  refine q_sipush 13 rfl (show sCode 253 10 = some (.sipush 196, 3) by decide +kernel) ⟨by decide, by decide⟩ (by decide +kernel) ?_
  refine q_iconst 14 rfl (show sCode 253 13 = some (.iconst 5, 1) by decide +kernel) ⟨by decide, by decide⟩ ?_
  refine q_iload_n 15 rfl (show sCode 253 14 = some (.iload_n 1, 1) by decide +kernel) rfl ?_
  refine q_imul 16 rfl (show sCode 253 15 = some (.imul, 1) by decide +kernel) h2 ?_
  refine q_iadd 17 rfl (show sCode 253 16 = some (.iadd, 1) by decide +kernel) h3 ?_
  refine q_iconst 18 rfl (show sCode 253 17 = some (.iconst 4, 1) by decide +kernel) ⟨by decide, by decide⟩ ?_
  refine q_iadd 19 rfl (show sCode 253 18 = some (.iadd, 1) by decide +kernel) h4 ?_
  refine q_iald 20 rfl (show sCode 253 19 = some (.iaload, 1) by decide +kernel) h5 ?_
  refine q_iadd 21 rfl (show sCode 253 20 = some (.iadd, 1) by decide +kernel) h6 ?_
  exact q_iret (show sCode 253 21 = some (.ireturn, 1) by decide +kernel) (by decide +kernel) (by decide +kernel) kk
-- 254 AfterTheLastModel.goTogether (I)Z
theorem b254_0 {d : Nat} {Q : Option sV → sM → sG → Prop} {M : sM} {G : sG} {a0 : Nat} {x1 : Int}  (kk : sW (sC d) 254 Q 2 [vO 12 a0, vI x1, vI 0] [] M G 0 0) : sW (sC d) 254 Q 0 [vO 12 a0, vI x1, vN] [] M G 0 0 := by
  refine q_iconst 1 rfl (show sCode 254 0 = some (.iconst 0, 1) by decide +kernel) ⟨by decide, by decide⟩ ?_
  refine q_istore_n [vO 12 a0, vI x1, vI 0] 2 rfl (show sCode 254 1 = some (.istore_n 2, 1) by decide +kernel) (Nat.lt_of_lt_of_le (Nat.lt_succ_self _) (Nat.le_of_ble_eq_true rfl)) rfl rfl ?_
  exact kk
theorem b254_2 {d : Nat} {Q : Option sV → sM → sG → Prop} {M : sM} {G : sG} {a0 : Nat} {x1 : Int} {x2 : Int}  (k1 : x1 ≤ x2 → sW (sC d) 254 Q 132 [vN, vN, vN] [] M G 0 0) (k2 : x2 < x1 → sW (sC d) 254 Q 7 [vO 12 a0, vI x1, vI x2] [] M G 0 0) : sW (sC d) 254 Q 2 [vO 12 a0, vI x1, vI x2] [] M G 0 0 := by
  refine q_iload_n 3 rfl (show sCode 254 2 = some (.iload_n 2, 1) by decide +kernel) rfl ?_
  refine q_iload_n 4 rfl (show sCode 254 3 = some (.iload_n 1, 1) by decide +kernel) rfl ?_
  refine q_icmpge 132 7 rfl (by decide) (show sCode 254 4 = some (.if_icmp .ge 128, 3) by decide +kernel) ?_ ?_
  · intro q; refine q_forget (L' := [vN, vI x1, vI x2]) 0 rfl ?_; refine q_forget (L' := [vN, vN, vI x2]) 1 rfl ?_; refine q_forget (L' := [vN, vN, vN]) 2 rfl ?_; exact k1 q
  · intro q; exact k2 q
theorem b254_7 {d : Nat} {Q : Option sV → sM → sG → Prop} {M : sM} {G : sG} {a0 : Nat} {x1 : Int} {x2 : Int} (h1 : sI (5 * x2)) (h2 : sI (196 + (5 * x2))) (h3 : sI ((196 + (5 * x2)) + 1)) (h4 : 0 ≤ (196 + (5 * x2)) + 1 ∧ (196 + (5 * x2)) + 1 < 274) (h5 : sI (5 * x1)) (h6 : sI (196 + (5 * x1))) (h7 : sI ((196 + (5 * x1)) + 1)) (h8 : 0 ≤ (196 + (5 * x1)) + 1 ∧ (196 + (5 * x1)) + 1 < 274) (k1 : M (a0 + 11) ((196 + (5 * x2)) + 1).toNat ≠ M (a0 + 11) ((196 + (5 * x1)) + 1).toNat → sW (sC d) 254 Q 69 [vO 12 a0, vI x1, vI x2] [] M G 0 0) (k2 : M (a0 + 11) ((196 + (5 * x2)) + 1).toNat = M (a0 + 11) ((196 + (5 * x1)) + 1).toNat → sW (sC d) 254 Q 38 [vO 12 a0, vI x1, vI x2] [] M G 0 0) : sW (sC d) 254 Q 7 [vO 12 a0, vI x1, vI x2] [] M G 0 0 := by
  refine q_aload_n 8 rfl (show sCode 254 7 = some (.aload_n 0, 1) by decide +kernel) rfl (Nat.le_of_ble_eq_true rfl) ?_
  refine q_getR (vA 0 (a0 + 11) 274) 11 rfl (show sCode 254 8 = some (.getfield 42, 3) by decide +kernel) (show sFR (sKo 254).1 42 = some (12, 23) by decide +kernel) (by decide +kernel) (Or.inl (Or.inl rfl)) rfl ?_
  refine q_sipush 14 rfl (show sCode 254 11 = some (.sipush 196, 3) by decide +kernel) ⟨by decide, by decide⟩ (by decide +kernel) ?_
  refine q_iconst 15 rfl (show sCode 254 14 = some (.iconst 5, 1) by decide +kernel) ⟨by decide, by decide⟩ ?_
  refine q_iload_n 16 rfl (show sCode 254 15 = some (.iload_n 2, 1) by decide +kernel) rfl ?_
  refine q_imul 17 rfl (show sCode 254 16 = some (.imul, 1) by decide +kernel) h1 ?_
  refine q_iadd 18 rfl (show sCode 254 17 = some (.iadd, 1) by decide +kernel) h2 ?_
  refine q_iconst 19 rfl (show sCode 254 18 = some (.iconst 1, 1) by decide +kernel) ⟨by decide, by decide⟩ ?_
  refine q_iadd 20 rfl (show sCode 254 19 = some (.iadd, 1) by decide +kernel) h3 ?_
  refine q_iald 21 rfl (show sCode 254 20 = some (.iaload, 1) by decide +kernel) h4 ?_
  refine q_aload_n 22 rfl (show sCode 254 21 = some (.aload_n 0, 1) by decide +kernel) rfl (Nat.le_of_ble_eq_true rfl) ?_
  refine q_getR (vA 0 (a0 + 11) 274) 25 rfl (show sCode 254 22 = some (.getfield 42, 3) by decide +kernel) (show sFR (sKo 254).1 42 = some (12, 23) by decide +kernel) (by decide +kernel) (Or.inl (Or.inl rfl)) rfl ?_
  refine q_sipush 28 rfl (show sCode 254 25 = some (.sipush 196, 3) by decide +kernel) ⟨by decide, by decide⟩ (by decide +kernel) ?_
  refine q_iconst 29 rfl (show sCode 254 28 = some (.iconst 5, 1) by decide +kernel) ⟨by decide, by decide⟩ ?_
  refine q_iload_n 30 rfl (show sCode 254 29 = some (.iload_n 1, 1) by decide +kernel) rfl ?_
  refine q_imul 31 rfl (show sCode 254 30 = some (.imul, 1) by decide +kernel) h5 ?_
  refine q_iadd 32 rfl (show sCode 254 31 = some (.iadd, 1) by decide +kernel) h6 ?_
  refine q_iconst 33 rfl (show sCode 254 32 = some (.iconst 1, 1) by decide +kernel) ⟨by decide, by decide⟩ ?_
  refine q_iadd 34 rfl (show sCode 254 33 = some (.iadd, 1) by decide +kernel) h7 ?_
  refine q_iald 35 rfl (show sCode 254 34 = some (.iaload, 1) by decide +kernel) h8 ?_
  refine q_icmpne 69 38 rfl (by decide) (show sCode 254 35 = some (.if_icmp .ne 34, 3) by decide +kernel) ?_ ?_
  · intro q; exact k1 q
  · intro q; exact k2 q
theorem b254_38 {d : Nat} {Q : Option sV → sM → sG → Prop} {M : sM} {G : sG} {a0 : Nat} {x1 : Int} {x2 : Int} (h1 : 0 ≤ x2 ∧ x2 < 6) (kk : sC d 253 [vO 12 a0, vI x2] M G (QI (fun r M1 G1 => sW (sC d) 254 Q 49 [vO 12 a0, vI x1, vI x2] (vI r :: [vI (M (a0 + 17) x2.toNat)]) M1 G1 0 0))) : sW (sC d) 254 Q 38 [vO 12 a0, vI x1, vI x2] [] M G 0 0 := by
  refine q_aload_n 39 rfl (show sCode 254 38 = some (.aload_n 0, 1) by decide +kernel) rfl (Nat.le_of_ble_eq_true rfl) ?_
  refine q_getR (vA 0 (a0 + 17) 6) 42 rfl (show sCode 254 39 = some (.getfield 60, 3) by decide +kernel) (show sFR (sKo 254).1 60 = some (12, 29) by decide +kernel) (by decide +kernel) (Or.inl (Or.inl rfl)) rfl ?_
  refine q_iload_n 43 rfl (show sCode 254 42 = some (.iload_n 2, 1) by decide +kernel) rfl ?_
  refine q_iald 44 rfl (show sCode 254 43 = some (.iaload, 1) by decide +kernel) h1 ?_
  refine q_aload_n 45 rfl (show sCode 254 44 = some (.aload_n 0, 1) by decide +kernel) rfl (Nat.le_of_ble_eq_true rfl) ?_
  refine q_iload_n 46 rfl (show sCode 254 45 = some (.iload_n 2, 1) by decide +kernel) rfl ?_
  exact q_virtI [vI x2] 49 rfl (show sCode 254 46 = some (.invokevirtual 394, 3) by decide +kernel) (show sMR (sKo 254).1 394 = some 253 by decide +kernel) (show 253 < 1000 ∧ sStat 253 = false ∧ sIni 253 = false ∧ sKo 253 = (12, 1, 1, 0, 0) by decide +kernel) rfl (Or.inl rfl) rfl (Nat.le_of_ble_eq_true rfl) rfl rfl rfl (by decide +kernel) kk
theorem b254_49 {d : Nat} {Q : Option sV → sM → sG → Prop} {M : sM} {G : sG} {a0 : Nat} {x1 : Int} {x2 : Int} {s0 : Int} {s1 : Int} (h1 : 0 ≤ x1 ∧ x1 < 6) (kk : sC d 253 [vO 12 a0, vI x1] M G (QI (fun r M1 G1 => sW (sC d) 254 Q 60 [vO 12 a0, vI x1, vI x2] (vI r :: [vI (M (a0 + 17) x1.toNat), vI s0, vI s1]) M1 G1 0 0))) : sW (sC d) 254 Q 49 [vO 12 a0, vI x1, vI x2] [vI s0, vI s1] M G 0 0 := by
  refine q_aload_n 50 rfl (show sCode 254 49 = some (.aload_n 0, 1) by decide +kernel) rfl (Nat.le_of_ble_eq_true rfl) ?_
  refine q_getR (vA 0 (a0 + 17) 6) 53 rfl (show sCode 254 50 = some (.getfield 60, 3) by decide +kernel) (show sFR (sKo 254).1 60 = some (12, 29) by decide +kernel) (by decide +kernel) (Or.inl (Or.inl rfl)) rfl ?_
  refine q_iload_n 54 rfl (show sCode 254 53 = some (.iload_n 1, 1) by decide +kernel) rfl ?_
  refine q_iald 55 rfl (show sCode 254 54 = some (.iaload, 1) by decide +kernel) h1 ?_
  refine q_aload_n 56 rfl (show sCode 254 55 = some (.aload_n 0, 1) by decide +kernel) rfl (Nat.le_of_ble_eq_true rfl) ?_
  refine q_iload_n 57 rfl (show sCode 254 56 = some (.iload_n 1, 1) by decide +kernel) rfl ?_
  exact q_virtI [vI x1] 60 rfl (show sCode 254 57 = some (.invokevirtual 394, 3) by decide +kernel) (show sMR (sKo 254).1 394 = some 253 by decide +kernel) (show 253 < 1000 ∧ sStat 253 = false ∧ sIni 253 = false ∧ sKo 253 = (12, 1, 1, 0, 0) by decide +kernel) rfl (Or.inl rfl) rfl (Nat.le_of_ble_eq_true rfl) rfl rfl rfl (by decide +kernel) kk
theorem b254_60 {d : Nat} {Q : Option sV → sM → sG → Prop} {M : sM} {G : sG} {a0 : Nat} {x1 : Int} {x2 : Int} {s0 : Int} {s1 : Int} {s2 : Int} {s3 : Int}  (kk : sC d 239 [vI s3, vI s2, vI s1, vI s0, vI 0] M G (QI (fun r M1 G1 => sW (sC d) 254 Q 64 [vO 12 a0, vI x1, vI x2] (vI r :: []) M1 G1 0 0))) : sW (sC d) 254 Q 60 [vO 12 a0, vI x1, vI x2] [vI s0, vI s1, vI s2, vI s3] M G 0 0 := by
  refine q_iconst 61 rfl (show sCode 254 60 = some (.iconst 0, 1) by decide +kernel) ⟨by decide, by decide⟩ ?_
  exact q_statI [vI s3, vI s2, vI s1, vI s0, vI 0] 64 rfl (show sCode 254 61 = some (.invokestatic 359, 3) by decide +kernel) (show sMR (sKo 254).1 359 = some 239 by decide +kernel) (show 239 < 1000 ∧ sStat 239 = true ∧ sKo 239 = (12, 5, 2, 0, 0) by decide +kernel) rfl rfl (Nat.le_of_ble_eq_true rfl) rfl rfl rfl (by decide +kernel) kk
theorem b254_64 {d : Nat} {Q : Option sV → sM → sG → Prop} {M : sM} {G : sG} {a0 : Nat} {x1 : Int} {x2 : Int} {s0 : Int}  (k1 : s0 = 0 → sW (sC d) 254 Q 69 [vO 12 a0, vI x1, vI x2] [] M G 0 0) (k2 : s0 ≠ 0 → sW (sC d) 254 Q 67 [vN, vN, vN] [] M G 0 0) : sW (sC d) 254 Q 64 [vO 12 a0, vI x1, vI x2] [vI s0] M G 0 0 := by
  refine q_ifeq 69 67 rfl (by decide) (show sCode 254 64 = some (.ifCond .eq 5, 3) by decide +kernel) ?_ ?_
  · intro q; exact k1 q
  · intro q; refine q_forget (L' := [vN, vI x1, vI x2]) 0 rfl ?_; refine q_forget (L' := [vN, vN, vI x2]) 1 rfl ?_; refine q_forget (L' := [vN, vN, vN]) 2 rfl ?_; exact k2 q
theorem b254_67 {d : Nat} {P : Int → sM → sG → Prop} {M : sM} {G : sG}   (kk : P 0 M G) : sW (sC d) 254 (QI P) 67 [vN, vN, vN] [] M G 0 0 := by
  refine q_iconst 68 rfl (show sCode 254 67 = some (.iconst 0, 1) by decide +kernel) ⟨by decide, by decide⟩ ?_
  exact q_zret (show sCode 254 68 = some (.ireturn, 1) by decide +kernel) (by decide +kernel) (by decide) (by decide +kernel) kk
theorem b254_69 {d : Nat} {Q : Option sV → sM → sG → Prop} {M : sM} {G : sG} {a0 : Nat} {x1 : Int} {x2 : Int} (h1 : sI (5 * x2)) (h2 : sI (196 + (5 * x2))) (h3 : 0 ≤ 196 + (5 * x2) ∧ 196 + (5 * x2) < 274) (h4 : sI (5 * x1)) (h5 : sI (196 + (5 * x1))) (h6 : 0 ≤ 196 + (5 * x1) ∧ 196 + (5 * x1) < 274) (k1 : M (a0 + 11) (196 + (5 * x2)).toNat ≠ M (a0 + 11) (196 + (5 * x1)).toNat → sW (sC d) 254 Q 126 [vO 12 a0, vI x1, vI x2] [] M G 0 0) (k2 : M (a0 + 11) (196 + (5 * x2)).toNat = M (a0 + 11) (196 + (5 * x1)).toNat → sW (sC d) 254 Q 96 [vO 12 a0, vI x1, vI x2] [] M G 0 0) : sW (sC d) 254 Q 69 [vO 12 a0, vI x1, vI x2] [] M G 0 0 := by
  refine q_aload_n 70 rfl (show sCode 254 69 = some (.aload_n 0, 1) by decide +kernel) rfl (Nat.le_of_ble_eq_true rfl) ?_
  refine q_getR (vA 0 (a0 + 11) 274) 73 rfl (show sCode 254 70 = some (.getfield 42, 3) by decide +kernel) (show sFR (sKo 254).1 42 = some (12, 23) by decide +kernel) (by decide +kernel) (Or.inl (Or.inl rfl)) rfl ?_
  refine q_sipush 76 rfl (show sCode 254 73 = some (.sipush 196, 3) by decide +kernel) ⟨by decide, by decide⟩ (by decide +kernel) ?_
  refine q_iconst 77 rfl (show sCode 254 76 = some (.iconst 5, 1) by decide +kernel) ⟨by decide, by decide⟩ ?_
  refine q_iload_n 78 rfl (show sCode 254 77 = some (.iload_n 2, 1) by decide +kernel) rfl ?_
  refine q_imul 79 rfl (show sCode 254 78 = some (.imul, 1) by decide +kernel) h1 ?_
  refine q_iadd 80 rfl (show sCode 254 79 = some (.iadd, 1) by decide +kernel) h2 ?_
  refine q_iald 81 rfl (show sCode 254 80 = some (.iaload, 1) by decide +kernel) h3 ?_
  refine q_aload_n 82 rfl (show sCode 254 81 = some (.aload_n 0, 1) by decide +kernel) rfl (Nat.le_of_ble_eq_true rfl) ?_
  refine q_getR (vA 0 (a0 + 11) 274) 85 rfl (show sCode 254 82 = some (.getfield 42, 3) by decide +kernel) (show sFR (sKo 254).1 42 = some (12, 23) by decide +kernel) (by decide +kernel) (Or.inl (Or.inl rfl)) rfl ?_
  refine q_sipush 88 rfl (show sCode 254 85 = some (.sipush 196, 3) by decide +kernel) ⟨by decide, by decide⟩ (by decide +kernel) ?_
  refine q_iconst 89 rfl (show sCode 254 88 = some (.iconst 5, 1) by decide +kernel) ⟨by decide, by decide⟩ ?_
  refine q_iload_n 90 rfl (show sCode 254 89 = some (.iload_n 1, 1) by decide +kernel) rfl ?_
  refine q_imul 91 rfl (show sCode 254 90 = some (.imul, 1) by decide +kernel) h4 ?_
  refine q_iadd 92 rfl (show sCode 254 91 = some (.iadd, 1) by decide +kernel) h5 ?_
  refine q_iald 93 rfl (show sCode 254 92 = some (.iaload, 1) by decide +kernel) h6 ?_
  refine q_icmpne 126 96 rfl (by decide) (show sCode 254 93 = some (.if_icmp .ne 33, 3) by decide +kernel) ?_ ?_
  · intro q; exact k1 q
  · intro q; exact k2 q
theorem b254_96 {d : Nat} {Q : Option sV → sM → sG → Prop} {M : sM} {G : sG} {a0 : Nat} {x1 : Int} {x2 : Int} (h1 : 0 ≤ x2 ∧ x2 < 6) (kk : sC d 253 [vO 12 a0, vI x1] M G (QI (fun r M1 G1 => sW (sC d) 254 Q 107 [vO 12 a0, vI x1, vI x2] (vI r :: [vI (M (a0 + 17) x2.toNat)]) M1 G1 0 0))) : sW (sC d) 254 Q 96 [vO 12 a0, vI x1, vI x2] [] M G 0 0 := by
  refine q_aload_n 97 rfl (show sCode 254 96 = some (.aload_n 0, 1) by decide +kernel) rfl (Nat.le_of_ble_eq_true rfl) ?_
  refine q_getR (vA 0 (a0 + 17) 6) 100 rfl (show sCode 254 97 = some (.getfield 60, 3) by decide +kernel) (show sFR (sKo 254).1 60 = some (12, 29) by decide +kernel) (by decide +kernel) (Or.inl (Or.inl rfl)) rfl ?_
  refine q_iload_n 101 rfl (show sCode 254 100 = some (.iload_n 2, 1) by decide +kernel) rfl ?_
  refine q_iald 102 rfl (show sCode 254 101 = some (.iaload, 1) by decide +kernel) h1 ?_
  refine q_aload_n 103 rfl (show sCode 254 102 = some (.aload_n 0, 1) by decide +kernel) rfl (Nat.le_of_ble_eq_true rfl) ?_
  refine q_iload_n 104 rfl (show sCode 254 103 = some (.iload_n 1, 1) by decide +kernel) rfl ?_
  exact q_virtI [vI x1] 107 rfl (show sCode 254 104 = some (.invokevirtual 394, 3) by decide +kernel) (show sMR (sKo 254).1 394 = some 253 by decide +kernel) (show 253 < 1000 ∧ sStat 253 = false ∧ sIni 253 = false ∧ sKo 253 = (12, 1, 1, 0, 0) by decide +kernel) rfl (Or.inl rfl) rfl (Nat.le_of_ble_eq_true rfl) rfl rfl rfl (by decide +kernel) kk
theorem b254_107 {d : Nat} {Q : Option sV → sM → sG → Prop} {M : sM} {G : sG} {a0 : Nat} {x1 : Int} {x2 : Int} {s0 : Int} {s1 : Int}  (k1 : s0 ≤ s1 → sW (sC d) 254 Q 126 [vO 12 a0, vI x1, vI x2] [] M G 0 0) (k2 : s1 < s0 → sW (sC d) 254 Q 110 [vO 12 a0, vI x1, vI x2] [] M G 0 0) : sW (sC d) 254 Q 107 [vO 12 a0, vI x1, vI x2] [vI s0, vI s1] M G 0 0 := by
  refine q_icmpge 126 110 rfl (by decide) (show sCode 254 107 = some (.if_icmp .ge 19, 3) by decide +kernel) ?_ ?_
  · intro q; exact k1 q
  · intro q; exact k2 q
theorem b254_110 {d : Nat} {Q : Option sV → sM → sG → Prop} {M : sM} {G : sG} {a0 : Nat} {x1 : Int} {x2 : Int} (h1 : 0 ≤ x1 ∧ x1 < 6) (kk : sC d 253 [vO 12 a0, vI x2] M G (QI (fun r M1 G1 => sW (sC d) 254 Q 121 [vO 12 a0, vI x1, vI x2] (vI r :: [vI (M (a0 + 17) x1.toNat)]) M1 G1 0 0))) : sW (sC d) 254 Q 110 [vO 12 a0, vI x1, vI x2] [] M G 0 0 := by
  refine q_aload_n 111 rfl (show sCode 254 110 = some (.aload_n 0, 1) by decide +kernel) rfl (Nat.le_of_ble_eq_true rfl) ?_
  refine q_getR (vA 0 (a0 + 17) 6) 114 rfl (show sCode 254 111 = some (.getfield 60, 3) by decide +kernel) (show sFR (sKo 254).1 60 = some (12, 29) by decide +kernel) (by decide +kernel) (Or.inl (Or.inl rfl)) rfl ?_
  refine q_iload_n 115 rfl (show sCode 254 114 = some (.iload_n 1, 1) by decide +kernel) rfl ?_
  refine q_iald 116 rfl (show sCode 254 115 = some (.iaload, 1) by decide +kernel) h1 ?_
  refine q_aload_n 117 rfl (show sCode 254 116 = some (.aload_n 0, 1) by decide +kernel) rfl (Nat.le_of_ble_eq_true rfl) ?_
  refine q_iload_n 118 rfl (show sCode 254 117 = some (.iload_n 2, 1) by decide +kernel) rfl ?_
  exact q_virtI [vI x2] 121 rfl (show sCode 254 118 = some (.invokevirtual 394, 3) by decide +kernel) (show sMR (sKo 254).1 394 = some 253 by decide +kernel) (show 253 < 1000 ∧ sStat 253 = false ∧ sIni 253 = false ∧ sKo 253 = (12, 1, 1, 0, 0) by decide +kernel) rfl (Or.inl rfl) rfl (Nat.le_of_ble_eq_true rfl) rfl rfl rfl (by decide +kernel) kk
theorem b254_121 {d : Nat} {Q : Option sV → sM → sG → Prop} {M : sM} {G : sG} {a0 : Nat} {x1 : Int} {x2 : Int} {s0 : Int} {s1 : Int}  (k1 : s0 ≤ s1 → sW (sC d) 254 Q 126 [vO 12 a0, vI x1, vI x2] [] M G 0 0) (k2 : s1 < s0 → sW (sC d) 254 Q 124 [vN, vN, vN] [] M G 0 0) : sW (sC d) 254 Q 121 [vO 12 a0, vI x1, vI x2] [vI s0, vI s1] M G 0 0 := by
  refine q_icmpge 126 124 rfl (by decide) (show sCode 254 121 = some (.if_icmp .ge 5, 3) by decide +kernel) ?_ ?_
  · intro q; exact k1 q
  · intro q; refine q_forget (L' := [vN, vI x1, vI x2]) 0 rfl ?_; refine q_forget (L' := [vN, vN, vI x2]) 1 rfl ?_; refine q_forget (L' := [vN, vN, vN]) 2 rfl ?_; exact k2 q
theorem b254_124 {d : Nat} {P : Int → sM → sG → Prop} {M : sM} {G : sG}   (kk : P 0 M G) : sW (sC d) 254 (QI P) 124 [vN, vN, vN] [] M G 0 0 := by
  refine q_iconst 125 rfl (show sCode 254 124 = some (.iconst 0, 1) by decide +kernel) ⟨by decide, by decide⟩ ?_
  exact q_zret (show sCode 254 125 = some (.ireturn, 1) by decide +kernel) (by decide +kernel) (by decide) (by decide +kernel) kk
theorem b254_126 {d : Nat} {Q : Option sV → sM → sG → Prop} {M : sM} {G : sG} {a0 : Nat} {x1 : Int} {x2 : Int} (h1 : sI (x2 + 1)) (kk : sW (sC d) 254 Q 2 [vO 12 a0, vI x1, vI (x2 + 1)] [] M G 0 0) : sW (sC d) 254 Q 126 [vO 12 a0, vI x1, vI x2] [] M G 0 0 := by
  refine q_iinc [vO 12 a0, vI x1, vI (x2 + 1)] 129 rfl (show sCode 254 126 = some (.iinc 2 1, 3) by decide +kernel) rfl rfl h1 rfl ?_
  refine q_goto 2 (by decide) (show sCode 254 129 = some (.goto (-127), 3) by decide +kernel) ?_
  exact kk
theorem b254_132 {d : Nat} {P : Int → sM → sG → Prop} {M : sM} {G : sG}   (kk : P 1 M G) : sW (sC d) 254 (QI P) 132 [vN, vN, vN] [] M G 0 0 := by
  refine q_iconst 133 rfl (show sCode 254 132 = some (.iconst 1, 1) by decide +kernel) ⟨by decide, by decide⟩ ?_
  exact q_zret (show sCode 254 133 = some (.ireturn, 1) by decide +kernel) (by decide +kernel) (by decide) (by decide +kernel) kk
-- 255 AfterTheLastModel.waits (II)I
theorem b255_0 {d : Nat} {Q : Option sV → sM → sG → Prop} {M : sM} {G : sG} {a0 : Nat} {x1 : Int} {x2 : Int}  (kk : sC d 211 [vI x1] M G (QI (fun r M1 G1 => sW (sC d) 255 Q 4 [vO 12 a0, vI x1, vI x2, vN] (vI r :: []) M1 G1 0 0))) : sW (sC d) 255 Q 0 [vO 12 a0, vI x1, vI x2, vN] [] M G 0 0 := by
  refine q_iload_n 1 rfl (show sCode 255 0 = some (.iload_n 1, 1) by decide +kernel) rfl ?_
  exact q_statI [vI x1] 4 rfl (show sCode 255 1 = some (.invokestatic 305, 3) by decide +kernel) (show sMR (sKo 255).1 305 = some 211 by decide +kernel) (show 211 < 1000 ∧ sStat 211 = true ∧ sKo 211 = (12, 1, 2, 0, 0) by decide +kernel) rfl rfl (Nat.le_of_ble_eq_true rfl) rfl rfl rfl (by decide +kernel) kk
theorem b255_4 {d : Nat} {Q : Option sV → sM → sG → Prop} {M : sM} {G : sG} {a0 : Nat} {x1 : Int} {x2 : Int} {s0 : Int}  (k1 : s0 = 0 → sW (sC d) 255 Q 24 [vN, vN, vN, vN] [] M G 0 0) (k2 : s0 ≠ 0 → sW (sC d) 255 Q 7 [vO 12 a0, vI x1, vI x2, vN] [] M G 0 0) : sW (sC d) 255 Q 4 [vO 12 a0, vI x1, vI x2, vN] [vI s0] M G 0 0 := by
  refine q_ifeq 24 7 rfl (by decide) (show sCode 255 4 = some (.ifCond .eq 20, 3) by decide +kernel) ?_ ?_
  · intro q; refine q_forget (L' := [vN, vI x1, vI x2, vN]) 0 rfl ?_; refine q_forget (L' := [vN, vN, vI x2, vN]) 1 rfl ?_; refine q_forget (L' := [vN, vN, vN, vN]) 2 rfl ?_; exact k1 q
  · intro q; exact k2 q
theorem b255_7 {d : Nat} {Q : Option sV → sM → sG → Prop} {M : sM} {G : sG} {a0 : Nat} {x1 : Int} {x2 : Int}  (k1 : x2 = (-1) → sW (sC d) 255 Q 27 [vO 12 a0, vI x1, vI x2, vN] [] M G 0 0) (k2 : x2 ≠ (-1) → sW (sC d) 255 Q 12 [vO 12 a0, vI x1, vI x2, vN] [] M G 0 0) : sW (sC d) 255 Q 7 [vO 12 a0, vI x1, vI x2, vN] [] M G 0 0 := by
  refine q_iload_n 8 rfl (show sCode 255 7 = some (.iload_n 2, 1) by decide +kernel) rfl ?_
  refine q_iconst 9 rfl (show sCode 255 8 = some (.iconst (-1), 1) by decide +kernel) ⟨by decide, by decide⟩ ?_
  refine q_icmpeq 27 12 rfl (by decide) (show sCode 255 9 = some (.if_icmp .eq 18, 3) by decide +kernel) ?_ ?_
  · intro q; exact k1 q
  · intro q; exact k2 q
theorem b255_12 {d : Nat} {Q : Option sV → sM → sG → Prop} {M : sM} {G : sG} {a0 : Nat} {x1 : Int} {x2 : Int}  (kk : sC d 211 [vI x2] M G (QI (fun r M1 G1 => sW (sC d) 255 Q 16 [vO 12 a0, vI x1, vI x2, vN] (vI r :: []) M1 G1 0 0))) : sW (sC d) 255 Q 12 [vO 12 a0, vI x1, vI x2, vN] [] M G 0 0 := by
  refine q_iload_n 13 rfl (show sCode 255 12 = some (.iload_n 2, 1) by decide +kernel) rfl ?_
  exact q_statI [vI x2] 16 rfl (show sCode 255 13 = some (.invokestatic 305, 3) by decide +kernel) (show sMR (sKo 255).1 305 = some 211 by decide +kernel) (show 211 < 1000 ∧ sStat 211 = true ∧ sKo 211 = (12, 1, 2, 0, 0) by decide +kernel) rfl rfl (Nat.le_of_ble_eq_true rfl) rfl rfl rfl (by decide +kernel) kk
theorem b255_16 {d : Nat} {Q : Option sV → sM → sG → Prop} {M : sM} {G : sG} {a0 : Nat} {x1 : Int} {x2 : Int} {s0 : Int}  (k1 : s0 = 0 → sW (sC d) 255 Q 24 [vN, vN, vN, vN] [] M G 0 0) (k2 : s0 ≠ 0 → sW (sC d) 255 Q 19 [vO 12 a0, vI x1, vI x2, vN] [] M G 0 0) : sW (sC d) 255 Q 16 [vO 12 a0, vI x1, vI x2, vN] [vI s0] M G 0 0 := by
  refine q_ifeq 24 19 rfl (by decide) (show sCode 255 16 = some (.ifCond .eq 8, 3) by decide +kernel) ?_ ?_
  · intro q; refine q_forget (L' := [vN, vI x1, vI x2, vN]) 0 rfl ?_; refine q_forget (L' := [vN, vN, vI x2, vN]) 1 rfl ?_; refine q_forget (L' := [vN, vN, vN, vN]) 2 rfl ?_; exact k1 q
  · intro q; exact k2 q
theorem b255_19 {d : Nat} {Q : Option sV → sM → sG → Prop} {M : sM} {G : sG} {a0 : Nat} {x1 : Int} {x2 : Int}  (k1 : x2 ≠ x1 → sW (sC d) 255 Q 27 [vO 12 a0, vI x1, vI x2, vN] [] M G 0 0) (k2 : x2 = x1 → sW (sC d) 255 Q 24 [vN, vN, vN, vN] [] M G 0 0) : sW (sC d) 255 Q 19 [vO 12 a0, vI x1, vI x2, vN] [] M G 0 0 := by
  refine q_iload_n 20 rfl (show sCode 255 19 = some (.iload_n 2, 1) by decide +kernel) rfl ?_
  refine q_iload_n 21 rfl (show sCode 255 20 = some (.iload_n 1, 1) by decide +kernel) rfl ?_
  refine q_icmpne 27 24 rfl (by decide) (show sCode 255 21 = some (.if_icmp .ne 6, 3) by decide +kernel) ?_ ?_
  · intro q; exact k1 q
  · intro q; refine q_forget (L' := [vN, vI x1, vI x2, vN]) 0 rfl ?_; refine q_forget (L' := [vN, vN, vI x2, vN]) 1 rfl ?_; refine q_forget (L' := [vN, vN, vN, vN]) 2 rfl ?_; exact k2 q
theorem b255_24 {d : Nat} {P : Int → sM → sG → Prop} {M : sM} {G : sG}   (kk : P (-2) M G) : sW (sC d) 255 (QI P) 24 [vN, vN, vN, vN] [] M G 0 0 := by
  refine q_bipush 26 rfl (show sCode 255 24 = some (.bipush (-2), 2) by decide +kernel) ⟨by decide, by decide⟩ (by decide +kernel) ?_
  exact q_iret (show sCode 255 26 = some (.ireturn, 1) by decide +kernel) (by decide +kernel) (by decide +kernel) kk
theorem b255_27 {d : Nat} {Q : Option sV → sM → sG → Prop} {M : sM} {G : sG} {a0 : Nat} {x1 : Int} {x2 : Int}  (kk : sC d 206 [vO 12 a0, vI x1, vI 3] M G (QI (fun r M1 G1 => sW (sC d) 255 Q 33 [vO 12 a0, vI x1, vI x2, vN] (vI r :: []) M1 G1 0 0))) : sW (sC d) 255 Q 27 [vO 12 a0, vI x1, vI x2, vN] [] M G 0 0 := by
  refine q_aload_n 28 rfl (show sCode 255 27 = some (.aload_n 0, 1) by decide +kernel) rfl (Nat.le_of_ble_eq_true rfl) ?_
  refine q_iload_n 29 rfl (show sCode 255 28 = some (.iload_n 1, 1) by decide +kernel) rfl ?_
  refine q_iconst 30 rfl (show sCode 255 29 = some (.iconst 3, 1) by decide +kernel) ⟨by decide, by decide⟩ ?_
  exact q_virtI [vI x1, vI 3] 33 rfl (show sCode 255 30 = some (.invokevirtual 280, 3) by decide +kernel) (show sMR (sKo 255).1 280 = some 206 by decide +kernel) (show 206 < 1000 ∧ sStat 206 = false ∧ sIni 206 = false ∧ sKo 206 = (12, 2, 1, 0, 0) by decide +kernel) rfl (Or.inl rfl) rfl (Nat.le_of_ble_eq_true rfl) rfl rfl rfl (by decide +kernel) kk
theorem b255_33 {d : Nat} {P : Int → sM → sG → Prop} {M : sM} {G : sG} {a0 : Nat} {x1 : Int} {x2 : Int} {s0 : Int} (h1 : sI (5 * x1)) (h2 : sI (136 + (5 * x1))) (h3 : sI ((136 + (5 * x1)) + 3)) (h4 : 0 ≤ (136 + (5 * x1)) + 3 ∧ (136 + (5 * x1)) + 3 < 274) (kk : P s0 (sUpd M (a0 + 11) ((136 + (5 * x1)) + 3).toNat x2) G) : sW (sC d) 255 (QI P) 33 [vO 12 a0, vI x1, vI x2, vN] [vI s0] M G 0 0 := by
  refine q_istore_n [vO 12 a0, vI x1, vI x2, vI s0] 34 rfl (show sCode 255 33 = some (.istore_n 3, 1) by decide +kernel) (Nat.lt_of_lt_of_le (Nat.lt_succ_self _) (Nat.le_of_ble_eq_true rfl)) rfl rfl ?_
  refine q_aload_n 35 rfl (show sCode 255 34 = some (.aload_n 0, 1) by decide +kernel) rfl (Nat.le_of_ble_eq_true rfl) ?_
  refine q_getR (vA 0 (a0 + 11) 274) 38 rfl (show sCode 255 35 = some (.getfield 42, 3) by decide +kernel) (show sFR (sKo 255).1 42 = some (12, 23) by decide +kernel) (by decide +kernel) (Or.inl (Or.inl rfl)) rfl ?_
  refine q_sipush 41 rfl (show sCode 255 38 = some (.sipush 136, 3) by decide +kernel) ⟨by decide, by decide⟩ (by decide +kernel) ?_
  refine q_iconst 42 rfl (show sCode 255 41 = some (.iconst 5, 1) by decide +kernel) ⟨by decide, by decide⟩ ?_
  refine q_iload_n 43 rfl (show sCode 255 42 = some (.iload_n 1, 1) by decide +kernel) rfl ?_
  refine q_imul 44 rfl (show sCode 255 43 = some (.imul, 1) by decide +kernel) h1 ?_
  refine q_iadd 45 rfl (show sCode 255 44 = some (.iadd, 1) by decide +kernel) h2 ?_
  refine q_iconst 46 rfl (show sCode 255 45 = some (.iconst 3, 1) by decide +kernel) ⟨by decide, by decide⟩ ?_
  refine q_iadd 47 rfl (show sCode 255 46 = some (.iadd, 1) by decide +kernel) h3 ?_
  refine q_iload_n 48 rfl (show sCode 255 47 = some (.iload_n 2, 1) by decide +kernel) rfl ?_
  refine q_iast 49 rfl (show sCode 255 48 = some (.iastore, 1) by decide +kernel) h4 ?_
  refine q_iload_n 50 rfl (show sCode 255 49 = some (.iload_n 3, 1) by decide +kernel) rfl ?_
  exact q_iret (show sCode 255 50 = some (.ireturn, 1) by decide +kernel) (by decide +kernel) (by decide +kernel) kk
-- 256 AfterTheLastModel.rings (I)I
theorem b256_0 {d : Nat} {Q : Option sV → sM → sG → Prop} {M : sM} {G : sG} {a0 : Nat} {x1 : Int}  (kk : sC d 183 [vL x1, vL 0, vL 3] M G (QI (fun r M1 G1 => sW (sC d) 256 Q 9 [vO 12 a0, vI x1, vN, vN, vN, vN] (vI r :: []) M1 G1 0 0))) : sW (sC d) 256 Q 0 [vO 12 a0, vI x1, vN, vN, vN, vN] [] M G 0 0 := by
  refine q_iload_n 1 rfl (show sCode 256 0 = some (.iload_n 1, 1) by decide +kernel) rfl ?_
  refine q_i2l 2 rfl (show sCode 256 1 = some (.i2l, 1) by decide +kernel) ?_
  refine q_lconst 3 rfl (show sCode 256 2 = some (.lconst 0, 1) by decide +kernel) ?_
  refine q_ldc2_w 6 rfl (show sCode 256 3 = some (.ldc2_w 345, 3) by decide +kernel) (show sLR (sKo 256).1 345 = some 3 by decide +kernel) ⟨by decide, by decide⟩ ?_
  exact q_statI [vL x1, vL 0, vL 3] 9 rfl (show sCode 256 6 = some (.invokestatic 127, 3) by decide +kernel) (show sMR (sKo 256).1 127 = some 183 by decide +kernel) (show 183 < 1000 ∧ sStat 183 = true ∧ sKo 183 = (12, 3, 2, 0, 0) by decide +kernel) rfl rfl (Nat.le_of_ble_eq_true rfl) rfl rfl rfl (by decide +kernel) kk
theorem b256_9 {d : Nat} {Q : Option sV → sM → sG → Prop} {M : sM} {G : sG} {a0 : Nat} {x1 : Int} {s0 : Int}  (k1 : s0 ≠ 0 → sW (sC d) 256 Q 14 [vO 12 a0, vI x1, vN, vN, vN, vN] [] M G 0 0) (k2 : s0 = 0 → sW (sC d) 256 Q 12 [vN, vN, vN, vN, vN, vN] [] M G 0 0) : sW (sC d) 256 Q 9 [vO 12 a0, vI x1, vN, vN, vN, vN] [vI s0] M G 0 0 := by
  refine q_ifne 14 12 rfl (by decide) (show sCode 256 9 = some (.ifCond .ne 5, 3) by decide +kernel) ?_ ?_
  · intro q; exact k1 q
  · intro q; refine q_forget (L' := [vN, vI x1, vN, vN, vN, vN]) 0 rfl ?_; refine q_forget (L' := [vN, vN, vN, vN, vN, vN]) 1 rfl ?_; exact k2 q
theorem b256_12 {d : Nat} {P : Int → sM → sG → Prop} {M : sM} {G : sG}   (kk : P (-1) M G) : sW (sC d) 256 (QI P) 12 [vN, vN, vN, vN, vN, vN] [] M G 0 0 := by
  refine q_iconst 13 rfl (show sCode 256 12 = some (.iconst (-1), 1) by decide +kernel) ⟨by decide, by decide⟩ ?_
  exact q_iret (show sCode 256 13 = some (.ireturn, 1) by decide +kernel) (by decide +kernel) (by decide +kernel) kk
theorem b256_14 {d : Nat} {Q : Option sV → sM → sG → Prop} {M : sM} {G : sG} {a0 : Nat} {x1 : Int}  (k1 : x1 ≤ 1 → sW (sC d) 256 Q 39 [vO 12 a0, vI x1, vN, vN, vN, vN] [] M G 0 0) (k2 : 1 < x1 → sW (sC d) 256 Q 19 [vO 12 a0, vI x1, vN, vN, vN, vN] [] M G 0 0) : sW (sC d) 256 Q 14 [vO 12 a0, vI x1, vN, vN, vN, vN] [] M G 0 0 := by
  refine q_iload_n 15 rfl (show sCode 256 14 = some (.iload_n 1, 1) by decide +kernel) rfl ?_
  refine q_iconst 16 rfl (show sCode 256 15 = some (.iconst 1, 1) by decide +kernel) ⟨by decide, by decide⟩ ?_
  refine q_icmple 39 19 rfl (by decide) (show sCode 256 16 = some (.if_icmp .le 23, 3) by decide +kernel) ?_ ?_
  · intro q; exact k1 q
  · intro q; exact k2 q
theorem b256_19 {d : Nat} {Q : Option sV → sM → sG → Prop} {M : sM} {G : sG} {a0 : Nat} {x1 : Int}  (k1 : x1 ≠ 2 → sW (sC d) 256 Q 31 [vO 12 a0, vN, vN, vN, vN, vN] [] M G 0 0) (k2 : x1 = 2 → sW (sC d) 256 Q 24 [vO 12 a0, vN, vN, vN, vN, vN] [] M G 0 0) : sW (sC d) 256 Q 19 [vO 12 a0, vI x1, vN, vN, vN, vN] [] M G 0 0 := by
  refine q_iload_n 20 rfl (show sCode 256 19 = some (.iload_n 1, 1) by decide +kernel) rfl ?_
  refine q_iconst 21 rfl (show sCode 256 20 = some (.iconst 2, 1) by decide +kernel) ⟨by decide, by decide⟩ ?_
  refine q_icmpne 31 24 rfl (by decide) (show sCode 256 21 = some (.if_icmp .ne 10, 3) by decide +kernel) ?_ ?_
  · intro q; refine q_forget (L' := [vO 12 a0, vN, vN, vN, vN, vN]) 1 rfl ?_; exact k1 q
  · intro q; refine q_forget (L' := [vO 12 a0, vN, vN, vN, vN, vN]) 1 rfl ?_; exact k2 q
theorem b256_24 {d : Nat} {Q : Option sV → sM → sG → Prop} {M : sM} {G : sG} {a0 : Nat}  (kk : sC d 257 [vO 12 a0] M G (QI (fun r M1 G1 => sW (sC d) 256 Q 28 [vN, vN, vN, vN, vN, vN] (vI r :: []) M1 G1 0 0))) : sW (sC d) 256 Q 24 [vO 12 a0, vN, vN, vN, vN, vN] [] M G 0 0 := by
  refine q_aload_n 25 rfl (show sCode 256 24 = some (.aload_n 0, 1) by decide +kernel) rfl (Nat.le_of_ble_eq_true rfl) ?_
  refine q_forget (L' := [vN, vN, vN, vN, vN, vN]) 0 rfl ?_
  exact q_virtI [] 28 rfl (show sCode 256 25 = some (.invokevirtual 415, 3) by decide +kernel) (show sMR (sKo 256).1 415 = some 257 by decide +kernel) (show 257 < 1000 ∧ sStat 257 = false ∧ sIni 257 = false ∧ sKo 257 = (12, 0, 1, 0, 0) by decide +kernel) rfl (Or.inl rfl) rfl (Nat.le_of_ble_eq_true rfl) rfl rfl rfl (by decide +kernel) kk
theorem b256_28 {d : Nat} {Q : Option sV → sM → sG → Prop} {M : sM} {G : sG} {s0 : Int}  (kk : sW (sC d) 256 Q 38 [vN, vN, vN, vN, vN, vN] [vI s0] M G 0 0) : sW (sC d) 256 Q 28 [vN, vN, vN, vN, vN, vN] [vI s0] M G 0 0 := by
  refine q_goto 38 (by decide) (show sCode 256 28 = some (.goto 10, 3) by decide +kernel) ?_
  exact kk
theorem b256_31 {d : Nat} {Q : Option sV → sM → sG → Prop} {M : sM} {G : sG} {a0 : Nat}  (kk : sC d 257 [vO 12 a0] M G (QI (fun r M1 G1 => sW (sC d) 256 Q 35 [vN, vN, vN, vN, vN, vN] (vI r :: []) M1 G1 0 0))) : sW (sC d) 256 Q 31 [vO 12 a0, vN, vN, vN, vN, vN] [] M G 0 0 := by
  refine q_aload_n 32 rfl (show sCode 256 31 = some (.aload_n 0, 1) by decide +kernel) rfl (Nat.le_of_ble_eq_true rfl) ?_
  refine q_forget (L' := [vN, vN, vN, vN, vN, vN]) 0 rfl ?_
  exact q_virtI [] 35 rfl (show sCode 256 32 = some (.invokevirtual 415, 3) by decide +kernel) (show sMR (sKo 256).1 415 = some 257 by decide +kernel) (show 257 < 1000 ∧ sStat 257 = false ∧ sIni 257 = false ∧ sKo 257 = (12, 0, 1, 0, 0) by decide +kernel) rfl (Or.inl rfl) rfl (Nat.le_of_ble_eq_true rfl) rfl rfl rfl (by decide +kernel) kk
theorem b256_35 {d : Nat} {Q : Option sV → sM → sG → Prop} {M : sM} {G : sG} {s0 : Int}  (kk : sC d 245 [vI s0] M G (QI (fun r M1 G1 => sW (sC d) 256 Q 38 [vN, vN, vN, vN, vN, vN] (vI r :: []) M1 G1 0 0))) : sW (sC d) 256 Q 35 [vN, vN, vN, vN, vN, vN] [vI s0] M G 0 0 := by
  exact q_statI [vI s0] 38 rfl (show sCode 256 35 = some (.invokestatic 381, 3) by decide +kernel) (show sMR (sKo 256).1 381 = some 245 by decide +kernel) (show 245 < 1000 ∧ sStat 245 = true ∧ sKo 245 = (12, 1, 1, 0, 0) by decide +kernel) rfl rfl (Nat.le_of_ble_eq_true rfl) rfl rfl rfl (by decide +kernel) kk
theorem b256_38 {d : Nat} {P : Int → sM → sG → Prop} {M : sM} {G : sG} {s0 : Int}  (kk : P s0 M G) : sW (sC d) 256 (QI P) 38 [vN, vN, vN, vN, vN, vN] [vI s0] M G 0 0 := by
  exact q_iret (show sCode 256 38 = some (.ireturn, 1) by decide +kernel) (by decide +kernel) (by decide +kernel) kk
theorem b256_39 {d : Nat} {Q : Option sV → sM → sG → Prop} {M : sM} {G : sG} {a0 : Nat} {x1 : Int}  (kk : sC d 258 [vO 12 a0, vI 0] M G (QV (fun M1 G1 => sW (sC d) 256 Q 44 [vO 12 a0, vI x1, vN, vN, vN, vN] [] M1 G1 0 0))) : sW (sC d) 256 Q 39 [vO 12 a0, vI x1, vN, vN, vN, vN] [] M G 0 0 := by
  refine q_aload_n 40 rfl (show sCode 256 39 = some (.aload_n 0, 1) by decide +kernel) rfl (Nat.le_of_ble_eq_true rfl) ?_
  refine q_iconst 41 rfl (show sCode 256 40 = some (.iconst 0, 1) by decide +kernel) ⟨by decide, by decide⟩ ?_
  exact q_virtV [vI 0] 44 rfl (show sCode 256 41 = some (.invokevirtual 409, 3) by decide +kernel) (show sMR (sKo 256).1 409 = some 258 by decide +kernel) (show 258 < 1000 ∧ sStat 258 = false ∧ sIni 258 = false ∧ sKo 258 = (12, 1, 0, 0, 0) by decide +kernel) rfl (Or.inl rfl) rfl (Nat.le_of_ble_eq_true rfl) rfl rfl rfl (by decide +kernel) kk
theorem b256_44 {d : Nat} {Q : Option sV → sM → sG → Prop} {M : sM} {G : sG} {a0 : Nat} {x1 : Int}  (kk : sC d 259 [vO 12 a0] M G (QI (fun r M1 G1 => sW (sC d) 256 Q 48 [vO 12 a0, vI x1, vN, vN, vN, vN] (vI r :: []) M1 G1 0 0))) : sW (sC d) 256 Q 44 [vO 12 a0, vI x1, vN, vN, vN, vN] [] M G 0 0 := by
  refine q_aload_n 45 rfl (show sCode 256 44 = some (.aload_n 0, 1) by decide +kernel) rfl (Nat.le_of_ble_eq_true rfl) ?_
  exact q_virtI [] 48 rfl (show sCode 256 45 = some (.invokevirtual 412, 3) by decide +kernel) (show sMR (sKo 256).1 412 = some 259 by decide +kernel) (show 259 < 1000 ∧ sStat 259 = false ∧ sIni 259 = false ∧ sKo 259 = (12, 0, 1, 0, 0) by decide +kernel) rfl (Or.inl rfl) rfl (Nat.le_of_ble_eq_true rfl) rfl rfl rfl (by decide +kernel) kk
theorem b256_48 {d : Nat} {Q : Option sV → sM → sG → Prop} {M : sM} {G : sG} {a0 : Nat} {x1 : Int} {s0 : Int}  (k1 : x1 ≠ 1 → sW (sC d) 256 Q 107 [vO 12 a0, vN, vN, vN, vN, vN] [] M G 0 0) (k2 : x1 = 1 → sW (sC d) 256 Q 54 [vO 12 a0, vN, vI s0, vN, vN, vN] [] M G 0 0) : sW (sC d) 256 Q 48 [vO 12 a0, vI x1, vN, vN, vN, vN] [vI s0] M G 0 0 := by
  refine q_istore_n [vO 12 a0, vI x1, vI s0, vN, vN, vN] 49 rfl (show sCode 256 48 = some (.istore_n 2, 1) by decide +kernel) (Nat.lt_of_lt_of_le (Nat.lt_succ_self _) (Nat.le_of_ble_eq_true rfl)) rfl rfl ?_
  refine q_iload_n 50 rfl (show sCode 256 49 = some (.iload_n 1, 1) by decide +kernel) rfl ?_
  refine q_iconst 51 rfl (show sCode 256 50 = some (.iconst 1, 1) by decide +kernel) ⟨by decide, by decide⟩ ?_
  refine q_icmpne 107 54 rfl (by decide) (show sCode 256 51 = some (.if_icmp .ne 56, 3) by decide +kernel) ?_ ?_
  · intro q; refine q_forget (L' := [vO 12 a0, vN, vI s0, vN, vN, vN]) 1 rfl ?_; refine q_forget (L' := [vO 12 a0, vN, vN, vN, vN, vN]) 2 rfl ?_; exact k1 q
  · intro q; refine q_forget (L' := [vO 12 a0, vN, vI s0, vN, vN, vN]) 1 rfl ?_; exact k2 q
theorem b256_54 {d : Nat} {Q : Option sV → sM → sG → Prop} {M : sM} {G : sG} {a0 : Nat} {x2 : Int}  (kk : sW (sC d) 256 Q 56 [vO 12 a0, vN, vI x2, vI 0, vN, vN] [] M G 0 0) : sW (sC d) 256 Q 54 [vO 12 a0, vN, vI x2, vN, vN, vN] [] M G 0 0 := by
  refine q_iconst 55 rfl (show sCode 256 54 = some (.iconst 0, 1) by decide +kernel) ⟨by decide, by decide⟩ ?_
  refine q_istore_n [vO 12 a0, vN, vI x2, vI 0, vN, vN] 56 rfl (show sCode 256 55 = some (.istore_n 3, 1) by decide +kernel) (Nat.lt_of_lt_of_le (Nat.lt_succ_self _) (Nat.le_of_ble_eq_true rfl)) rfl rfl ?_
  exact kk
theorem b256_56 {d : Nat} {Q : Option sV → sM → sG → Prop} {M : sM} {G : sG} {a0 : Nat} {x2 : Int} {x3 : Int}  (k1 : x3 = x2 → sW (sC d) 256 Q 105 [vN, vN, vI x2, vN, vN, vN] [] M G 0 0) (k2 : x3 ≠ x2 → sW (sC d) 256 Q 61 [vO 12 a0, vN, vI x2, vN, vN, vN] [] M G 0 0) : sW (sC d) 256 Q 56 [vO 12 a0, vN, vI x2, vI x3, vN, vN] [] M G 0 0 := by
  refine q_iload_n 57 rfl (show sCode 256 56 = some (.iload_n 3, 1) by decide +kernel) rfl ?_
  refine q_iload_n 58 rfl (show sCode 256 57 = some (.iload_n 2, 1) by decide +kernel) rfl ?_
  refine q_icmpeq 105 61 rfl (by decide) (show sCode 256 58 = some (.if_icmp .eq 47, 3) by decide +kernel) ?_ ?_
  · intro q; refine q_forget (L' := [vN, vN, vI x2, vI x3, vN, vN]) 0 rfl ?_; refine q_forget (L' := [vN, vN, vI x2, vN, vN, vN]) 3 rfl ?_; exact k1 q
  · intro q; refine q_forget (L' := [vO 12 a0, vN, vI x2, vN, vN, vN]) 3 rfl ?_; exact k2 q
theorem b256_61 {d : Nat} {Q : Option sV → sM → sG → Prop} {M : sM} {G : sG} {a0 : Nat} {x2 : Int}  (kk : sW (sC d) 256 Q 66 [vO 12 a0, vN, vI x2, vI x2, vI 0, vN] [] M G 0 0) : sW (sC d) 256 Q 61 [vO 12 a0, vN, vI x2, vN, vN, vN] [] M G 0 0 := by
  refine q_iload_n 62 rfl (show sCode 256 61 = some (.iload_n 2, 1) by decide +kernel) rfl ?_
  refine q_istore_n [vO 12 a0, vN, vI x2, vI x2, vN, vN] 63 rfl (show sCode 256 62 = some (.istore_n 3, 1) by decide +kernel) (Nat.lt_of_lt_of_le (Nat.lt_succ_self _) (Nat.le_of_ble_eq_true rfl)) rfl rfl ?_
  refine q_iconst 64 rfl (show sCode 256 63 = some (.iconst 0, 1) by decide +kernel) ⟨by decide, by decide⟩ ?_
  refine q_istore [vO 12 a0, vN, vI x2, vI x2, vI 0, vN] 66 rfl (show sCode 256 64 = some (.istore 4, 2) by decide +kernel) (Nat.lt_of_lt_of_le (Nat.lt_succ_self _) (Nat.le_of_ble_eq_true rfl)) rfl rfl ?_
  exact kk
theorem b256_66 {d : Nat} {Q : Option sV → sM → sG → Prop} {M : sM} {G : sG} {a0 : Nat} {x2 : Int} {x3 : Int} {x4 : Int}  (k1 : 12 ≤ x4 → sW (sC d) 256 Q 102 [vO 12 a0, vN, vI x2, vI x3, vN, vN] [] M G 0 0) (k2 : x4 < 12 → sW (sC d) 256 Q 73 [vO 12 a0, vN, vI x2, vI x3, vI x4, vN] [] M G 0 0) : sW (sC d) 256 Q 66 [vO 12 a0, vN, vI x2, vI x3, vI x4, vN] [] M G 0 0 := by
  refine q_iload 68 rfl (show sCode 256 66 = some (.iload 4, 2) by decide +kernel) rfl ?_
  refine q_bipush 70 rfl (show sCode 256 68 = some (.bipush 12, 2) by decide +kernel) ⟨by decide, by decide⟩ (by decide +kernel) ?_
  refine q_icmpge 102 73 rfl (by decide) (show sCode 256 70 = some (.if_icmp .ge 32, 3) by decide +kernel) ?_ ?_
  · intro q; refine q_forget (L' := [vO 12 a0, vN, vI x2, vI x3, vN, vN]) 4 rfl ?_; exact k1 q
  · intro q; exact k2 q
theorem b256_73 {d : Nat} {Q : Option sV → sM → sG → Prop} {M : sM} {G : sG} {a0 : Nat} {x2 : Int} {x3 : Int} {x4 : Int} (h1 : 0 ≤ x4 ∧ x4 < 12) (k1 : iAnd (M (a0 + 19) x4.toNat) x3 = 0 → sW (sC d) 256 Q 93 [vO 12 a0, vN, vN, vI x3, vI x4, vN] [vI x2] M G 0 0) (k2 : iAnd (M (a0 + 19) x4.toNat) x3 ≠ 0 → sW (sC d) 256 Q 86 [vO 12 a0, vN, vN, vI x3, vI x4, vN] [vI x2] M G 0 0) : sW (sC d) 256 Q 73 [vO 12 a0, vN, vI x2, vI x3, vI x4, vN] [] M G 0 0 := by
  refine q_iload_n 74 rfl (show sCode 256 73 = some (.iload_n 2, 1) by decide +kernel) rfl ?_
  refine q_aload_n 75 rfl (show sCode 256 74 = some (.aload_n 0, 1) by decide +kernel) rfl (Nat.le_of_ble_eq_true rfl) ?_
  refine q_getR (vA 0 (a0 + 19) 12) 78 rfl (show sCode 256 75 = some (.getfield 66, 3) by decide +kernel) (show sFR (sKo 256).1 66 = some (12, 31) by decide +kernel) (by decide +kernel) (Or.inl (Or.inl rfl)) rfl ?_
  refine q_iload 80 rfl (show sCode 256 78 = some (.iload 4, 2) by decide +kernel) rfl ?_
  refine q_iald 81 rfl (show sCode 256 80 = some (.iaload, 1) by decide +kernel) h1 ?_
  refine q_iload_n 82 rfl (show sCode 256 81 = some (.iload_n 3, 1) by decide +kernel) rfl ?_
  refine q_iand 83 rfl (show sCode 256 82 = some (.iand, 1) by decide +kernel) ?_
  refine q_ifeq 93 86 rfl (by decide) (show sCode 256 83 = some (.ifCond .eq 10, 3) by decide +kernel) ?_ ?_
  · intro q; refine q_forget (L' := [vO 12 a0, vN, vN, vI x3, vI x4, vN]) 2 rfl ?_; exact k1 q
  · intro q; refine q_forget (L' := [vO 12 a0, vN, vN, vI x3, vI x4, vN]) 2 rfl ?_; exact k2 q
theorem b256_86 {d : Nat} {Q : Option sV → sM → sG → Prop} {M : sM} {G : sG} {a0 : Nat} {x3 : Int} {x4 : Int} {s0 : Int}  (kk : sW (sC d) 256 Q 94 [vO 12 a0, vN, vN, vI x3, vI x4, vN] [vI (iShl 1 x4), vI s0] M G 0 0) : sW (sC d) 256 Q 86 [vO 12 a0, vN, vN, vI x3, vI x4, vN] [vI s0] M G 0 0 := by
  refine q_iconst 87 rfl (show sCode 256 86 = some (.iconst 1, 1) by decide +kernel) ⟨by decide, by decide⟩ ?_
  refine q_iload 89 rfl (show sCode 256 87 = some (.iload 4, 2) by decide +kernel) rfl ?_
  refine q_ishl 90 rfl (show sCode 256 89 = some (.ishl, 1) by decide +kernel) ?_
  refine q_goto 94 (by decide) (show sCode 256 90 = some (.goto 4, 3) by decide +kernel) ?_
  exact kk
theorem b256_93 {d : Nat} {Q : Option sV → sM → sG → Prop} {M : sM} {G : sG} {a0 : Nat} {x3 : Int} {x4 : Int} {s0 : Int}  (kk : sW (sC d) 256 Q 94 [vO 12 a0, vN, vN, vI x3, vI x4, vN] [vI 0, vI s0] M G 0 0) : sW (sC d) 256 Q 93 [vO 12 a0, vN, vN, vI x3, vI x4, vN] [vI s0] M G 0 0 := by
  refine q_iconst 94 rfl (show sCode 256 93 = some (.iconst 0, 1) by decide +kernel) ⟨by decide, by decide⟩ ?_
  exact kk
theorem b256_94 {d : Nat} {Q : Option sV → sM → sG → Prop} {M : sM} {G : sG} {a0 : Nat} {x3 : Int} {x4 : Int} {s0 : Int} {s1 : Int} (h1 : sI (x4 + 1)) (kk : sW (sC d) 256 Q 66 [vO 12 a0, vN, vI (iOr s1 s0), vI x3, vI (x4 + 1), vN] [] M G 0 0) : sW (sC d) 256 Q 94 [vO 12 a0, vN, vN, vI x3, vI x4, vN] [vI s0, vI s1] M G 0 0 := by
  refine q_ior 95 rfl (show sCode 256 94 = some (.ior, 1) by decide +kernel) ?_
  refine q_istore_n [vO 12 a0, vN, vI (iOr s1 s0), vI x3, vI x4, vN] 96 rfl (show sCode 256 95 = some (.istore_n 2, 1) by decide +kernel) (Nat.lt_of_lt_of_le (Nat.lt_succ_self _) (Nat.le_of_ble_eq_true rfl)) rfl rfl ?_
  refine q_iinc [vO 12 a0, vN, vI (iOr s1 s0), vI x3, vI (x4 + 1), vN] 99 rfl (show sCode 256 96 = some (.iinc 4 1, 3) by decide +kernel) rfl rfl h1 rfl ?_
  refine q_goto 66 (by decide) (show sCode 256 99 = some (.goto (-33), 3) by decide +kernel) ?_
  exact kk
theorem b256_102 {d : Nat} {Q : Option sV → sM → sG → Prop} {M : sM} {G : sG} {a0 : Nat} {x2 : Int} {x3 : Int}  (kk : sW (sC d) 256 Q 56 [vO 12 a0, vN, vI x2, vI x3, vN, vN] [] M G 0 0) : sW (sC d) 256 Q 102 [vO 12 a0, vN, vI x2, vI x3, vN, vN] [] M G 0 0 := by
  refine q_goto 56 (by decide) (show sCode 256 102 = some (.goto (-46), 3) by decide +kernel) ?_
  exact kk
theorem b256_105 {d : Nat} {P : Int → sM → sG → Prop} {M : sM} {G : sG} {x2 : Int}  (kk : P x2 M G) : sW (sC d) 256 (QI P) 105 [vN, vN, vI x2, vN, vN, vN] [] M G 0 0 := by
  refine q_iload_n 106 rfl (show sCode 256 105 = some (.iload_n 2, 1) by decide +kernel) rfl ?_
  exact q_iret (show sCode 256 106 = some (.ireturn, 1) by decide +kernel) (by decide +kernel) (by decide +kernel) kk
theorem b256_107 {d : Nat} {Q : Option sV → sM → sG → Prop} {M : sM} {G : sG} {a0 : Nat}  (kk : sW (sC d) 256 Q 112 [vO 12 a0, vN, vN, vI 0, vI 0, vN] [] M G 0 0) : sW (sC d) 256 Q 107 [vO 12 a0, vN, vN, vN, vN, vN] [] M G 0 0 := by
  refine q_iconst 108 rfl (show sCode 256 107 = some (.iconst 0, 1) by decide +kernel) ⟨by decide, by decide⟩ ?_
  refine q_istore_n [vO 12 a0, vN, vN, vI 0, vN, vN] 109 rfl (show sCode 256 108 = some (.istore_n 3, 1) by decide +kernel) (Nat.lt_of_lt_of_le (Nat.lt_succ_self _) (Nat.le_of_ble_eq_true rfl)) rfl rfl ?_
  refine q_iconst 110 rfl (show sCode 256 109 = some (.iconst 0, 1) by decide +kernel) ⟨by decide, by decide⟩ ?_
  refine q_istore [vO 12 a0, vN, vN, vI 0, vI 0, vN] 112 rfl (show sCode 256 110 = some (.istore 4, 2) by decide +kernel) (Nat.lt_of_lt_of_le (Nat.lt_succ_self _) (Nat.le_of_ble_eq_true rfl)) rfl rfl ?_
  exact kk
theorem b256_112 {d : Nat} {Q : Option sV → sM → sG → Prop} {M : sM} {G : sG} {a0 : Nat} {x3 : Int} {x4 : Int}  (k1 : 12 ≤ x4 → sW (sC d) 256 Q 155 [vN, vN, vN, vI x3, vN, vN] [] M G 0 0) (k2 : x4 < 12 → sW (sC d) 256 Q 119 [vO 12 a0, vN, vN, vI x3, vI x4, vN] [] M G 0 0) : sW (sC d) 256 Q 112 [vO 12 a0, vN, vN, vI x3, vI x4, vN] [] M G 0 0 := by
  refine q_iload 114 rfl (show sCode 256 112 = some (.iload 4, 2) by decide +kernel) rfl ?_
  refine q_bipush 116 rfl (show sCode 256 114 = some (.bipush 12, 2) by decide +kernel) ⟨by decide, by decide⟩ (by decide +kernel) ?_
  refine q_icmpge 155 119 rfl (by decide) (show sCode 256 116 = some (.if_icmp .ge 39, 3) by decide +kernel) ?_ ?_
  · intro q; refine q_forget (L' := [vN, vN, vN, vI x3, vI x4, vN]) 0 rfl ?_; refine q_forget (L' := [vN, vN, vN, vI x3, vN, vN]) 4 rfl ?_; exact k1 q
  · intro q; exact k2 q
theorem b256_119 {d : Nat} {Q : Option sV → sM → sG → Prop} {M : sM} {G : sG} {a0 : Nat} {x3 : Int} {x4 : Int}  (kk : sC d 260 [vO 12 a0, vI x4] M G (QI (fun r M1 G1 => sW (sC d) 256 Q 125 [vO 12 a0, vN, vN, vI x3, vI x4, vN] (vI r :: []) M1 G1 0 0))) : sW (sC d) 256 Q 119 [vO 12 a0, vN, vN, vI x3, vI x4, vN] [] M G 0 0 := by
  refine q_aload_n 120 rfl (show sCode 256 119 = some (.aload_n 0, 1) by decide +kernel) rfl (Nat.le_of_ble_eq_true rfl) ?_
  refine q_iload 122 rfl (show sCode 256 120 = some (.iload 4, 2) by decide +kernel) rfl ?_
  exact q_virtI [vI x4] 125 rfl (show sCode 256 122 = some (.invokevirtual 406, 3) by decide +kernel) (show sMR (sKo 256).1 406 = some 260 by decide +kernel) (show 260 < 1000 ∧ sStat 260 = false ∧ sIni 260 = false ∧ sKo 260 = (12, 1, 1, 0, 0) by decide +kernel) rfl (Or.inl rfl) rfl (Nat.le_of_ble_eq_true rfl) rfl rfl rfl (by decide +kernel) kk
theorem b256_125 {d : Nat} {Q : Option sV → sM → sG → Prop} {M : sM} {G : sG} {a0 : Nat} {x3 : Int} {x4 : Int} {s0 : Int}  (k1 : s0 ≤ 0 → sW (sC d) 256 Q 147 [vO 12 a0, vN, vN, vI x3, vI x4, vN] [] M G 0 0) (k2 : 0 < s0 → sW (sC d) 256 Q 132 [vO 12 a0, vN, vN, vI x3, vI x4, vI s0] [] M G 0 0) : sW (sC d) 256 Q 125 [vO 12 a0, vN, vN, vI x3, vI x4, vN] [vI s0] M G 0 0 := by
  refine q_istore [vO 12 a0, vN, vN, vI x3, vI x4, vI s0] 127 rfl (show sCode 256 125 = some (.istore 5, 2) by decide +kernel) (Nat.lt_of_lt_of_le (Nat.lt_succ_self _) (Nat.le_of_ble_eq_true rfl)) rfl rfl ?_
  refine q_iload 129 rfl (show sCode 256 127 = some (.iload 5, 2) by decide +kernel) rfl ?_
  refine q_ifle 147 132 rfl (by decide) (show sCode 256 129 = some (.ifCond .le 18, 3) by decide +kernel) ?_ ?_
  · intro q; refine q_forget (L' := [vO 12 a0, vN, vN, vI x3, vI x4, vN]) 5 rfl ?_; exact k1 q
  · intro q; exact k2 q
theorem b256_132 {d : Nat} {Q : Option sV → sM → sG → Prop} {M : sM} {G : sG} {a0 : Nat} {x3 : Int} {x4 : Int} {x5 : Int}  (k1 : x3 = 0 → sW (sC d) 256 Q 142 [vO 12 a0, vN, vN, vN, vI x4, vI x5] [] M G 0 0) (k2 : x3 ≠ 0 → sW (sC d) 256 Q 136 [vO 12 a0, vN, vN, vI x3, vI x4, vI x5] [] M G 0 0) : sW (sC d) 256 Q 132 [vO 12 a0, vN, vN, vI x3, vI x4, vI x5] [] M G 0 0 := by
  refine q_iload_n 133 rfl (show sCode 256 132 = some (.iload_n 3, 1) by decide +kernel) rfl ?_
  refine q_ifeq 142 136 rfl (by decide) (show sCode 256 133 = some (.ifCond .eq 9, 3) by decide +kernel) ?_ ?_
  · intro q; refine q_forget (L' := [vO 12 a0, vN, vN, vN, vI x4, vI x5]) 3 rfl ?_; exact k1 q
  · intro q; exact k2 q
theorem b256_136 {d : Nat} {Q : Option sV → sM → sG → Prop} {M : sM} {G : sG} {a0 : Nat} {x3 : Int} {x4 : Int} {x5 : Int}  (k1 : x3 ≤ x5 → sW (sC d) 256 Q 147 [vO 12 a0, vN, vN, vI x3, vI x4, vN] [] M G 0 0) (k2 : x5 < x3 → sW (sC d) 256 Q 142 [vO 12 a0, vN, vN, vN, vI x4, vI x5] [] M G 0 0) : sW (sC d) 256 Q 136 [vO 12 a0, vN, vN, vI x3, vI x4, vI x5] [] M G 0 0 := by
  refine q_iload 138 rfl (show sCode 256 136 = some (.iload 5, 2) by decide +kernel) rfl ?_
  refine q_iload_n 139 rfl (show sCode 256 138 = some (.iload_n 3, 1) by decide +kernel) rfl ?_
  refine q_icmpge 147 142 rfl (by decide) (show sCode 256 139 = some (.if_icmp .ge 8, 3) by decide +kernel) ?_ ?_
  · intro q; refine q_forget (L' := [vO 12 a0, vN, vN, vI x3, vI x4, vN]) 5 rfl ?_; exact k1 q
  · intro q; refine q_forget (L' := [vO 12 a0, vN, vN, vN, vI x4, vI x5]) 3 rfl ?_; exact k2 q
theorem b256_142 {d : Nat} {Q : Option sV → sM → sG → Prop} {M : sM} {G : sG} {a0 : Nat} {x4 : Int} {x5 : Int}  (kk : sW (sC d) 256 Q 148 [vO 12 a0, vN, vN, vN, vI x4, vN] [vI x5] M G 0 0) : sW (sC d) 256 Q 142 [vO 12 a0, vN, vN, vN, vI x4, vI x5] [] M G 0 0 := by
  refine q_iload 144 rfl (show sCode 256 142 = some (.iload 5, 2) by decide +kernel) rfl ?_
  refine q_goto 148 (by decide) (show sCode 256 144 = some (.goto 4, 3) by decide +kernel) ?_
  refine q_forget (L' := [vO 12 a0, vN, vN, vN, vI x4, vN]) 5 rfl ?_
  exact kk
theorem b256_147 {d : Nat} {Q : Option sV → sM → sG → Prop} {M : sM} {G : sG} {a0 : Nat} {x3 : Int} {x4 : Int}  (kk : sW (sC d) 256 Q 148 [vO 12 a0, vN, vN, vN, vI x4, vN] [vI x3] M G 0 0) : sW (sC d) 256 Q 147 [vO 12 a0, vN, vN, vI x3, vI x4, vN] [] M G 0 0 := by
  refine q_iload_n 148 rfl (show sCode 256 147 = some (.iload_n 3, 1) by decide +kernel) rfl ?_
  refine q_forget (L' := [vO 12 a0, vN, vN, vN, vI x4, vN]) 3 rfl ?_
  exact kk
theorem b256_148 {d : Nat} {Q : Option sV → sM → sG → Prop} {M : sM} {G : sG} {a0 : Nat} {x4 : Int} {s0 : Int} (h1 : sI (x4 + 1)) (kk : sW (sC d) 256 Q 112 [vO 12 a0, vN, vN, vI s0, vI (x4 + 1), vN] [] M G 0 0) : sW (sC d) 256 Q 148 [vO 12 a0, vN, vN, vN, vI x4, vN] [vI s0] M G 0 0 := by
  refine q_istore_n [vO 12 a0, vN, vN, vI s0, vI x4, vN] 149 rfl (show sCode 256 148 = some (.istore_n 3, 1) by decide +kernel) (Nat.lt_of_lt_of_le (Nat.lt_succ_self _) (Nat.le_of_ble_eq_true rfl)) rfl rfl ?_
  refine q_iinc [vO 12 a0, vN, vN, vI s0, vI (x4 + 1), vN] 152 rfl (show sCode 256 149 = some (.iinc 4 1, 3) by decide +kernel) rfl rfl h1 rfl ?_
  refine q_goto 112 (by decide) (show sCode 256 152 = some (.goto (-40), 3) by decide +kernel) ?_
  exact kk
theorem b256_155 {d : Nat} {P : Int → sM → sG → Prop} {M : sM} {G : sG} {x3 : Int}  (kk : P x3 M G) : sW (sC d) 256 (QI P) 155 [vN, vN, vN, vI x3, vN, vN] [] M G 0 0 := by
  refine q_iload_n 156 rfl (show sCode 256 155 = some (.iload_n 3, 1) by decide +kernel) rfl ?_
  exact q_iret (show sCode 256 156 = some (.ireturn, 1) by decide +kernel) (by decide +kernel) (by decide +kernel) kk
-- 257 AfterTheLastModel.undone ()I
theorem b257_0 {d : Nat} {Q : Option sV → sM → sG → Prop} {M : sM} {G : sG} {a0 : Nat}  (kk : sW (sC d) 257 Q 4 [vO 12 a0, vI 0, vI 0, vN] [] M G 0 0) : sW (sC d) 257 Q 0 [vO 12 a0, vN, vN, vN] [] M G 0 0 := by
  refine q_iconst 1 rfl (show sCode 257 0 = some (.iconst 0, 1) by decide +kernel) ⟨by decide, by decide⟩ ?_
  refine q_istore_n [vO 12 a0, vI 0, vN, vN] 2 rfl (show sCode 257 1 = some (.istore_n 1, 1) by decide +kernel) (Nat.lt_of_lt_of_le (Nat.lt_succ_self _) (Nat.le_of_ble_eq_true rfl)) rfl rfl ?_
  refine q_iconst 3 rfl (show sCode 257 2 = some (.iconst 0, 1) by decide +kernel) ⟨by decide, by decide⟩ ?_
  refine q_istore_n [vO 12 a0, vI 0, vI 0, vN] 4 rfl (show sCode 257 3 = some (.istore_n 2, 1) by decide +kernel) (Nat.lt_of_lt_of_le (Nat.lt_succ_self _) (Nat.le_of_ble_eq_true rfl)) rfl rfl ?_
  exact kk
theorem b257_4 {d : Nat} {Q : Option sV → sM → sG → Prop} {M : sM} {G : sG} {a0 : Nat} {x1 : Int} {x2 : Int}  (k1 : 12 ≤ x2 → sW (sC d) 257 Q 35 [vO 12 a0, vI x1, vN, vN] [] M G 0 0) (k2 : x2 < 12 → sW (sC d) 257 Q 10 [vO 12 a0, vI x1, vI x2, vN] [] M G 0 0) : sW (sC d) 257 Q 4 [vO 12 a0, vI x1, vI x2, vN] [] M G 0 0 := by
  refine q_iload_n 5 rfl (show sCode 257 4 = some (.iload_n 2, 1) by decide +kernel) rfl ?_
  refine q_bipush 7 rfl (show sCode 257 5 = some (.bipush 12, 2) by decide +kernel) ⟨by decide, by decide⟩ (by decide +kernel) ?_
  refine q_icmpge 35 10 rfl (by decide) (show sCode 257 7 = some (.if_icmp .ge 28, 3) by decide +kernel) ?_ ?_
  · intro q; refine q_forget (L' := [vO 12 a0, vI x1, vN, vN]) 2 rfl ?_; exact k1 q
  · intro q; exact k2 q
theorem b257_10 {d : Nat} {Q : Option sV → sM → sG → Prop} {M : sM} {G : sG} {a0 : Nat} {x1 : Int} {x2 : Int}  (kk : sC d 206 [vO 12 a0, vI x2, vI 0] M G (QI (fun r M1 G1 => sW (sC d) 257 Q 17 [vO 12 a0, vN, vI x2, vN] (vI r :: [vI x1]) M1 G1 0 0))) : sW (sC d) 257 Q 10 [vO 12 a0, vI x1, vI x2, vN] [] M G 0 0 := by
  refine q_iload_n 11 rfl (show sCode 257 10 = some (.iload_n 1, 1) by decide +kernel) rfl ?_
  refine q_aload_n 12 rfl (show sCode 257 11 = some (.aload_n 0, 1) by decide +kernel) rfl (Nat.le_of_ble_eq_true rfl) ?_
  refine q_iload_n 13 rfl (show sCode 257 12 = some (.iload_n 2, 1) by decide +kernel) rfl ?_
  refine q_iconst 14 rfl (show sCode 257 13 = some (.iconst 0, 1) by decide +kernel) ⟨by decide, by decide⟩ ?_
  refine q_forget (L' := [vO 12 a0, vN, vI x2, vN]) 1 rfl ?_
  exact q_virtI [vI x2, vI 0] 17 rfl (show sCode 257 14 = some (.invokevirtual 280, 3) by decide +kernel) (show sMR (sKo 257).1 280 = some 206 by decide +kernel) (show 206 < 1000 ∧ sStat 206 = false ∧ sIni 206 = false ∧ sKo 206 = (12, 2, 1, 0, 0) by decide +kernel) rfl (Or.inl rfl) rfl (Nat.le_of_ble_eq_true rfl) rfl rfl rfl (by decide +kernel) kk
theorem b257_17 {d : Nat} {Q : Option sV → sM → sG → Prop} {M : sM} {G : sG} {a0 : Nat} {x2 : Int} {s0 : Int} {s1 : Int}  (k1 : s0 < 0 → sW (sC d) 257 Q 26 [vO 12 a0, vN, vI x2, vN] [vI s1] M G 0 0) (k2 : 0 ≤ s0 → sW (sC d) 257 Q 20 [vO 12 a0, vN, vI x2, vN] [vI s1] M G 0 0) : sW (sC d) 257 Q 17 [vO 12 a0, vN, vI x2, vN] [vI s0, vI s1] M G 0 0 := by
  refine q_iflt 26 20 rfl (by decide) (show sCode 257 17 = some (.ifCond .lt 9, 3) by decide +kernel) ?_ ?_
  · intro q; exact k1 q
  · intro q; exact k2 q
theorem b257_20 {d : Nat} {Q : Option sV → sM → sG → Prop} {M : sM} {G : sG} {a0 : Nat} {x2 : Int} {s0 : Int}  (kk : sW (sC d) 257 Q 27 [vO 12 a0, vN, vI x2, vN] [vI (iShl 1 x2), vI s0] M G 0 0) : sW (sC d) 257 Q 20 [vO 12 a0, vN, vI x2, vN] [vI s0] M G 0 0 := by
  refine q_iconst 21 rfl (show sCode 257 20 = some (.iconst 1, 1) by decide +kernel) ⟨by decide, by decide⟩ ?_
  refine q_iload_n 22 rfl (show sCode 257 21 = some (.iload_n 2, 1) by decide +kernel) rfl ?_
  refine q_ishl 23 rfl (show sCode 257 22 = some (.ishl, 1) by decide +kernel) ?_
  refine q_goto 27 (by decide) (show sCode 257 23 = some (.goto 4, 3) by decide +kernel) ?_
  exact kk
theorem b257_26 {d : Nat} {Q : Option sV → sM → sG → Prop} {M : sM} {G : sG} {a0 : Nat} {x2 : Int} {s0 : Int}  (kk : sW (sC d) 257 Q 27 [vO 12 a0, vN, vI x2, vN] [vI 0, vI s0] M G 0 0) : sW (sC d) 257 Q 26 [vO 12 a0, vN, vI x2, vN] [vI s0] M G 0 0 := by
  refine q_iconst 27 rfl (show sCode 257 26 = some (.iconst 0, 1) by decide +kernel) ⟨by decide, by decide⟩ ?_
  exact kk
theorem b257_27 {d : Nat} {Q : Option sV → sM → sG → Prop} {M : sM} {G : sG} {a0 : Nat} {x2 : Int} {s0 : Int} {s1 : Int} (h1 : sI (x2 + 1)) (kk : sW (sC d) 257 Q 4 [vO 12 a0, vI (iOr s1 s0), vI (x2 + 1), vN] [] M G 0 0) : sW (sC d) 257 Q 27 [vO 12 a0, vN, vI x2, vN] [vI s0, vI s1] M G 0 0 := by
  refine q_ior 28 rfl (show sCode 257 27 = some (.ior, 1) by decide +kernel) ?_
  refine q_istore_n [vO 12 a0, vI (iOr s1 s0), vI x2, vN] 29 rfl (show sCode 257 28 = some (.istore_n 1, 1) by decide +kernel) (Nat.lt_of_lt_of_le (Nat.lt_succ_self _) (Nat.le_of_ble_eq_true rfl)) rfl rfl ?_
  refine q_iinc [vO 12 a0, vI (iOr s1 s0), vI (x2 + 1), vN] 32 rfl (show sCode 257 29 = some (.iinc 2 1, 3) by decide +kernel) rfl rfl h1 rfl ?_
  refine q_goto 4 (by decide) (show sCode 257 32 = some (.goto (-28), 3) by decide +kernel) ?_
  exact kk
theorem b257_35 {d : Nat} {Q : Option sV → sM → sG → Prop} {M : sM} {G : sG} {a0 : Nat} {x1 : Int}  (kk : sW (sC d) 257 Q 39 [vO 12 a0, vI x1, vI x1, vI 0] [] M G 0 0) : sW (sC d) 257 Q 35 [vO 12 a0, vI x1, vN, vN] [] M G 0 0 := by
  refine q_iload_n 36 rfl (show sCode 257 35 = some (.iload_n 1, 1) by decide +kernel) rfl ?_
  refine q_istore_n [vO 12 a0, vI x1, vI x1, vN] 37 rfl (show sCode 257 36 = some (.istore_n 2, 1) by decide +kernel) (Nat.lt_of_lt_of_le (Nat.lt_succ_self _) (Nat.le_of_ble_eq_true rfl)) rfl rfl ?_
  refine q_iconst 38 rfl (show sCode 257 37 = some (.iconst 0, 1) by decide +kernel) ⟨by decide, by decide⟩ ?_
  refine q_istore_n [vO 12 a0, vI x1, vI x1, vI 0] 39 rfl (show sCode 257 38 = some (.istore_n 3, 1) by decide +kernel) (Nat.lt_of_lt_of_le (Nat.lt_succ_self _) (Nat.le_of_ble_eq_true rfl)) rfl rfl ?_
  exact kk
theorem b257_39 {d : Nat} {Q : Option sV → sM → sG → Prop} {M : sM} {G : sG} {a0 : Nat} {x1 : Int} {x2 : Int} {x3 : Int}  (k1 : 4096 ≤ x3 → sW (sC d) 257 Q 104 [vN, vN, vI x2, vN] [] M G 0 0) (k2 : x3 < 4096 → sW (sC d) 257 Q 46 [vO 12 a0, vI x1, vI x2, vI x3] [] M G 0 0) : sW (sC d) 257 Q 39 [vO 12 a0, vI x1, vI x2, vI x3] [] M G 0 0 := by
  refine q_iload_n 40 rfl (show sCode 257 39 = some (.iload_n 3, 1) by decide +kernel) rfl ?_
  refine q_sipush 43 rfl (show sCode 257 40 = some (.sipush 4096, 3) by decide +kernel) ⟨by decide, by decide⟩ (by decide +kernel) ?_
  refine q_icmpge 104 46 rfl (by decide) (show sCode 257 43 = some (.if_icmp .ge 61, 3) by decide +kernel) ?_ ?_
  · intro q; refine q_forget (L' := [vN, vI x1, vI x2, vI x3]) 0 rfl ?_; refine q_forget (L' := [vN, vN, vI x2, vI x3]) 1 rfl ?_; refine q_forget (L' := [vN, vN, vI x2, vN]) 3 rfl ?_; exact k1 q
  · intro q; exact k2 q
theorem b257_46 {d : Nat} {Q : Option sV → sM → sG → Prop} {M : sM} {G : sG} {a0 : Nat} {x1 : Int} {x2 : Int} {x3 : Int}  (k1 : iAnd x3 (iXor x1 (-1)) ≠ 0 → sW (sC d) 257 Q 98 [vO 12 a0, vI x1, vI x2, vI x3] [] M G 0 0) (k2 : iAnd x3 (iXor x1 (-1)) = 0 → sW (sC d) 257 Q 54 [vO 12 a0, vI x1, vI x2, vI x3] [] M G 0 0) : sW (sC d) 257 Q 46 [vO 12 a0, vI x1, vI x2, vI x3] [] M G 0 0 := by
  refine q_iload_n 47 rfl (show sCode 257 46 = some (.iload_n 3, 1) by decide +kernel) rfl ?_
  refine q_iload_n 48 rfl (show sCode 257 47 = some (.iload_n 1, 1) by decide +kernel) rfl ?_
  refine q_iconst 49 rfl (show sCode 257 48 = some (.iconst (-1), 1) by decide +kernel) ⟨by decide, by decide⟩ ?_
  refine q_ixor 50 rfl (show sCode 257 49 = some (.ixor, 1) by decide +kernel) ?_
  refine q_iand 51 rfl (show sCode 257 50 = some (.iand, 1) by decide +kernel) ?_
  refine q_ifne 98 54 rfl (by decide) (show sCode 257 51 = some (.ifCond .ne 47, 3) by decide +kernel) ?_ ?_
  · intro q; exact k1 q
  · intro q; exact k2 q
theorem b257_54 {d : Nat} {Q : Option sV → sM → sG → Prop} {M : sM} {G : sG} {a0 : Nat} {x1 : Int} {x2 : Int} {x3 : Int}  (kk : sC d 245 [vI x3] M G (QI (fun r M1 G1 => sW (sC d) 257 Q 58 [vO 12 a0, vI x1, vI x2, vI x3] (vI r :: []) M1 G1 0 0))) : sW (sC d) 257 Q 54 [vO 12 a0, vI x1, vI x2, vI x3] [] M G 0 0 := by
  refine q_iload_n 55 rfl (show sCode 257 54 = some (.iload_n 3, 1) by decide +kernel) rfl ?_
  exact q_statI [vI x3] 58 rfl (show sCode 257 55 = some (.invokestatic 381, 3) by decide +kernel) (show sMR (sKo 257).1 381 = some 245 by decide +kernel) (show 245 < 1000 ∧ sStat 245 = true ∧ sKo 245 = (12, 1, 1, 0, 0) by decide +kernel) rfl rfl (Nat.le_of_ble_eq_true rfl) rfl rfl rfl (by decide +kernel) kk
theorem b257_58 {d : Nat} {Q : Option sV → sM → sG → Prop} {M : sM} {G : sG} {a0 : Nat} {x1 : Int} {x2 : Int} {x3 : Int} {s0 : Int}  (kk : sC d 245 [vI x2] M G (QI (fun r M1 G1 => sW (sC d) 257 Q 62 [vO 12 a0, vI x1, vI x2, vI x3] (vI r :: [vI s0]) M1 G1 0 0))) : sW (sC d) 257 Q 58 [vO 12 a0, vI x1, vI x2, vI x3] [vI s0] M G 0 0 := by
  refine q_iload_n 59 rfl (show sCode 257 58 = some (.iload_n 2, 1) by decide +kernel) rfl ?_
  exact q_statI [vI x2] 62 rfl (show sCode 257 59 = some (.invokestatic 381, 3) by decide +kernel) (show sMR (sKo 257).1 381 = some 245 by decide +kernel) (show 245 < 1000 ∧ sStat 245 = true ∧ sKo 245 = (12, 1, 1, 0, 0) by decide +kernel) rfl rfl (Nat.le_of_ble_eq_true rfl) rfl rfl rfl (by decide +kernel) kk
theorem b257_62 {d : Nat} {Q : Option sV → sM → sG → Prop} {M : sM} {G : sG} {a0 : Nat} {x1 : Int} {x2 : Int} {x3 : Int} {s0 : Int} {s1 : Int}  (k1 : s0 < s1 → sW (sC d) 257 Q 98 [vO 12 a0, vI x1, vI x2, vI x3] [] M G 0 0) (k2 : s1 ≤ s0 → sW (sC d) 257 Q 65 [vO 12 a0, vI x1, vI x2, vI x3] [] M G 0 0) : sW (sC d) 257 Q 62 [vO 12 a0, vI x1, vI x2, vI x3] [vI s0, vI s1] M G 0 0 := by
  refine q_icmpgt 98 65 rfl (by decide) (show sCode 257 62 = some (.if_icmp .gt 36, 3) by decide +kernel) ?_ ?_
  · intro q; exact k1 q
  · intro q; exact k2 q
theorem b257_65 {d : Nat} {Q : Option sV → sM → sG → Prop} {M : sM} {G : sG} {a0 : Nat} {x1 : Int} {x2 : Int} {x3 : Int}  (kk : sC d 245 [vI x3] M G (QI (fun r M1 G1 => sW (sC d) 257 Q 69 [vO 12 a0, vI x1, vI x2, vI x3] (vI r :: []) M1 G1 0 0))) : sW (sC d) 257 Q 65 [vO 12 a0, vI x1, vI x2, vI x3] [] M G 0 0 := by
  refine q_iload_n 66 rfl (show sCode 257 65 = some (.iload_n 3, 1) by decide +kernel) rfl ?_
  exact q_statI [vI x3] 69 rfl (show sCode 257 66 = some (.invokestatic 381, 3) by decide +kernel) (show sMR (sKo 257).1 381 = some 245 by decide +kernel) (show 245 < 1000 ∧ sStat 245 = true ∧ sKo 245 = (12, 1, 1, 0, 0) by decide +kernel) rfl rfl (Nat.le_of_ble_eq_true rfl) rfl rfl rfl (by decide +kernel) kk
theorem b257_69 {d : Nat} {Q : Option sV → sM → sG → Prop} {M : sM} {G : sG} {a0 : Nat} {x1 : Int} {x2 : Int} {x3 : Int} {s0 : Int}  (kk : sC d 245 [vI x2] M G (QI (fun r M1 G1 => sW (sC d) 257 Q 73 [vO 12 a0, vI x1, vI x2, vI x3] (vI r :: [vI s0]) M1 G1 0 0))) : sW (sC d) 257 Q 69 [vO 12 a0, vI x1, vI x2, vI x3] [vI s0] M G 0 0 := by
  refine q_iload_n 70 rfl (show sCode 257 69 = some (.iload_n 2, 1) by decide +kernel) rfl ?_
  exact q_statI [vI x2] 73 rfl (show sCode 257 70 = some (.invokestatic 381, 3) by decide +kernel) (show sMR (sKo 257).1 381 = some 245 by decide +kernel) (show 245 < 1000 ∧ sStat 245 = true ∧ sKo 245 = (12, 1, 1, 0, 0) by decide +kernel) rfl rfl (Nat.le_of_ble_eq_true rfl) rfl rfl rfl (by decide +kernel) kk
theorem b257_73 {d : Nat} {Q : Option sV → sM → sG → Prop} {M : sM} {G : sG} {a0 : Nat} {x1 : Int} {x2 : Int} {x3 : Int} {s0 : Int} {s1 : Int}  (k1 : s1 ≠ s0 → sW (sC d) 257 Q 84 [vO 12 a0, vI x1, vI x2, vI x3] [] M G 0 0) (k2 : s1 = s0 → sW (sC d) 257 Q 76 [vO 12 a0, vI x1, vI x2, vI x3] [] M G 0 0) : sW (sC d) 257 Q 73 [vO 12 a0, vI x1, vI x2, vI x3] [vI s0, vI s1] M G 0 0 := by
  refine q_icmpne 84 76 rfl (by decide) (show sCode 257 73 = some (.if_icmp .ne 11, 3) by decide +kernel) ?_ ?_
  · intro q; exact k1 q
  · intro q; exact k2 q
theorem b257_76 {d : Nat} {Q : Option sV → sM → sG → Prop} {M : sM} {G : sG} {a0 : Nat} {x1 : Int} {x2 : Int} {x3 : Int}  (k1 : x3 < x2 → sW (sC d) 257 Q 84 [vO 12 a0, vI x1, vI x2, vI x3] [] M G 0 0) (k2 : x2 ≤ x3 → sW (sC d) 257 Q 81 [vO 12 a0, vI x1, vI x2, vI x3] [] M G 0 0) : sW (sC d) 257 Q 76 [vO 12 a0, vI x1, vI x2, vI x3] [] M G 0 0 := by
  refine q_iload_n 77 rfl (show sCode 257 76 = some (.iload_n 3, 1) by decide +kernel) rfl ?_
  refine q_iload_n 78 rfl (show sCode 257 77 = some (.iload_n 2, 1) by decide +kernel) rfl ?_
  refine q_icmplt 84 81 rfl (by decide) (show sCode 257 78 = some (.if_icmp .lt 6, 3) by decide +kernel) ?_ ?_
  · intro q; exact k1 q
  · intro q; exact k2 q
theorem b257_81 {d : Nat} {Q : Option sV → sM → sG → Prop} {M : sM} {G : sG} {a0 : Nat} {x1 : Int} {x2 : Int} {x3 : Int}  (kk : sW (sC d) 257 Q 98 [vO 12 a0, vI x1, vI x2, vI x3] [] M G 0 0) : sW (sC d) 257 Q 81 [vO 12 a0, vI x1, vI x2, vI x3] [] M G 0 0 := by
  refine q_goto 98 (by decide) (show sCode 257 81 = some (.goto 17, 3) by decide +kernel) ?_
  exact kk
theorem b257_84 {d : Nat} {Q : Option sV → sM → sG → Prop} {M : sM} {G : sG} {a0 : Nat} {x1 : Int} {x2 : Int} {x3 : Int}  (kk : sC d 258 [vO 12 a0, vI x3] M G (QV (fun M1 G1 => sW (sC d) 257 Q 89 [vO 12 a0, vI x1, vI x2, vI x3] [] M1 G1 0 0))) : sW (sC d) 257 Q 84 [vO 12 a0, vI x1, vI x2, vI x3] [] M G 0 0 := by
  refine q_aload_n 85 rfl (show sCode 257 84 = some (.aload_n 0, 1) by decide +kernel) rfl (Nat.le_of_ble_eq_true rfl) ?_
  refine q_iload_n 86 rfl (show sCode 257 85 = some (.iload_n 3, 1) by decide +kernel) rfl ?_
  exact q_virtV [vI x3] 89 rfl (show sCode 257 86 = some (.invokevirtual 409, 3) by decide +kernel) (show sMR (sKo 257).1 409 = some 258 by decide +kernel) (show 258 < 1000 ∧ sStat 258 = false ∧ sIni 258 = false ∧ sKo 258 = (12, 1, 0, 0, 0) by decide +kernel) rfl (Or.inl rfl) rfl (Nat.le_of_ble_eq_true rfl) rfl rfl rfl (by decide +kernel) kk
theorem b257_89 {d : Nat} {Q : Option sV → sM → sG → Prop} {M : sM} {G : sG} {a0 : Nat} {x1 : Int} {x2 : Int} {x3 : Int}  (kk : sC d 259 [vO 12 a0] M G (QI (fun r M1 G1 => sW (sC d) 257 Q 93 [vO 12 a0, vI x1, vI x2, vI x3] (vI r :: []) M1 G1 0 0))) : sW (sC d) 257 Q 89 [vO 12 a0, vI x1, vI x2, vI x3] [] M G 0 0 := by
  refine q_aload_n 90 rfl (show sCode 257 89 = some (.aload_n 0, 1) by decide +kernel) rfl (Nat.le_of_ble_eq_true rfl) ?_
  exact q_virtI [] 93 rfl (show sCode 257 90 = some (.invokevirtual 412, 3) by decide +kernel) (show sMR (sKo 257).1 412 = some 259 by decide +kernel) (show 259 < 1000 ∧ sStat 259 = false ∧ sIni 259 = false ∧ sKo 259 = (12, 0, 1, 0, 0) by decide +kernel) rfl (Or.inl rfl) rfl (Nat.le_of_ble_eq_true rfl) rfl rfl rfl (by decide +kernel) kk
theorem b257_93 {d : Nat} {Q : Option sV → sM → sG → Prop} {M : sM} {G : sG} {a0 : Nat} {x1 : Int} {x2 : Int} {x3 : Int} {s0 : Int}  (k1 : s0 ≠ 0 → sW (sC d) 257 Q 98 [vO 12 a0, vI x1, vI x2, vI x3] [] M G 0 0) (k2 : s0 = 0 → sW (sC d) 257 Q 96 [vO 12 a0, vI x1, vN, vI x3] [] M G 0 0) : sW (sC d) 257 Q 93 [vO 12 a0, vI x1, vI x2, vI x3] [vI s0] M G 0 0 := by
  refine q_ifne 98 96 rfl (by decide) (show sCode 257 93 = some (.ifCond .ne 5, 3) by decide +kernel) ?_ ?_
  · intro q; exact k1 q
  · intro q; refine q_forget (L' := [vO 12 a0, vI x1, vN, vI x3]) 2 rfl ?_; exact k2 q
theorem b257_96 {d : Nat} {Q : Option sV → sM → sG → Prop} {M : sM} {G : sG} {a0 : Nat} {x1 : Int} {x3 : Int}  (kk : sW (sC d) 257 Q 98 [vO 12 a0, vI x1, vI x3, vI x3] [] M G 0 0) : sW (sC d) 257 Q 96 [vO 12 a0, vI x1, vN, vI x3] [] M G 0 0 := by
  refine q_iload_n 97 rfl (show sCode 257 96 = some (.iload_n 3, 1) by decide +kernel) rfl ?_
  refine q_istore_n [vO 12 a0, vI x1, vI x3, vI x3] 98 rfl (show sCode 257 97 = some (.istore_n 2, 1) by decide +kernel) (Nat.lt_of_lt_of_le (Nat.lt_succ_self _) (Nat.le_of_ble_eq_true rfl)) rfl rfl ?_
  exact kk
theorem b257_98 {d : Nat} {Q : Option sV → sM → sG → Prop} {M : sM} {G : sG} {a0 : Nat} {x1 : Int} {x2 : Int} {x3 : Int} (h1 : sI (x3 + 1)) (kk : sW (sC d) 257 Q 39 [vO 12 a0, vI x1, vI x2, vI (x3 + 1)] [] M G 0 0) : sW (sC d) 257 Q 98 [vO 12 a0, vI x1, vI x2, vI x3] [] M G 0 0 := by
  refine q_iinc [vO 12 a0, vI x1, vI x2, vI (x3 + 1)] 101 rfl (show sCode 257 98 = some (.iinc 3 1, 3) by decide +kernel) rfl rfl h1 rfl ?_
  refine q_goto 39 (by decide) (show sCode 257 101 = some (.goto (-62), 3) by decide +kernel) ?_
  exact kk
theorem b257_104 {d : Nat} {P : Int → sM → sG → Prop} {M : sM} {G : sG} {x2 : Int}  (kk : P x2 M G) : sW (sC d) 257 (QI P) 104 [vN, vN, vI x2, vN] [] M G 0 0 := by
  refine q_iload_n 105 rfl (show sCode 257 104 = some (.iload_n 2, 1) by decide +kernel) rfl ?_
  exact q_iret (show sCode 257 105 = some (.ireturn, 1) by decide +kernel) (by decide +kernel) (by decide +kernel) kk
-- 258 AfterTheLastModel.needs (I)V
theorem b258_0 {d : Nat} {Q : Option sV → sM → sG → Prop} {M : sM} {G : sG} {a0 : Nat} {x1 : Int}  (kk : sW (sC d) 258 Q 2 [vO 12 a0, vI x1, vI 0, vN, vN, vN, vN] [] M G 0 0) : sW (sC d) 258 Q 0 [vO 12 a0, vI x1, vN, vN, vN, vN, vN] [] M G 0 0 := by
  refine q_iconst 1 rfl (show sCode 258 0 = some (.iconst 0, 1) by decide +kernel) ⟨by decide, by decide⟩ ?_
  refine q_istore_n [vO 12 a0, vI x1, vI 0, vN, vN, vN, vN] 2 rfl (show sCode 258 1 = some (.istore_n 2, 1) by decide +kernel) (Nat.lt_of_lt_of_le (Nat.lt_succ_self _) (Nat.le_of_ble_eq_true rfl)) rfl rfl ?_
  exact kk
theorem b258_2 {d : Nat} {Q : Option sV → sM → sG → Prop} {M : sM} {G : sG} {a0 : Nat} {x1 : Int} {x2 : Int}  (k1 : 12 ≤ x2 → sW (sC d) 258 Q 203 [vN, vN, vN, vN, vN, vN, vN] [] M G 0 0) (k2 : x2 < 12 → sW (sC d) 258 Q 8 [vO 12 a0, vI x1, vI x2, vN, vN, vN, vN] [] M G 0 0) : sW (sC d) 258 Q 2 [vO 12 a0, vI x1, vI x2, vN, vN, vN, vN] [] M G 0 0 := by
  refine q_iload_n 3 rfl (show sCode 258 2 = some (.iload_n 2, 1) by decide +kernel) rfl ?_
  refine q_bipush 5 rfl (show sCode 258 3 = some (.bipush 12, 2) by decide +kernel) ⟨by decide, by decide⟩ (by decide +kernel) ?_
  refine q_icmpge 203 8 rfl (by decide) (show sCode 258 5 = some (.if_icmp .ge 198, 3) by decide +kernel) ?_ ?_
  · intro q; refine q_forget (L' := [vN, vI x1, vI x2, vN, vN, vN, vN]) 0 rfl ?_; refine q_forget (L' := [vN, vN, vI x2, vN, vN, vN, vN]) 1 rfl ?_; refine q_forget (L' := [vN, vN, vN, vN, vN, vN, vN]) 2 rfl ?_; exact k1 q
  · intro q; exact k2 q
theorem b258_8 {d : Nat} {Q : Option sV → sM → sG → Prop} {M : sM} {G : sG} {a0 : Nat} {x1 : Int} {x2 : Int} (h1 : 0 ≤ x2 ∧ x2 < 12) (kk : sC d 206 [vO 12 a0, vI x2, vI 0] (sUpd M (a0 + 19) x2.toNat 0) G (QI (fun r M1 G1 => sW (sC d) 258 Q 21 [vO 12 a0, vI x1, vI x2, vN, vN, vN, vN] (vI r :: []) M1 G1 0 0))) : sW (sC d) 258 Q 8 [vO 12 a0, vI x1, vI x2, vN, vN, vN, vN] [] M G 0 0 := by
  refine q_aload_n 9 rfl (show sCode 258 8 = some (.aload_n 0, 1) by decide +kernel) rfl (Nat.le_of_ble_eq_true rfl) ?_
  refine q_getR (vA 0 (a0 + 19) 12) 12 rfl (show sCode 258 9 = some (.getfield 66, 3) by decide +kernel) (show sFR (sKo 258).1 66 = some (12, 31) by decide +kernel) (by decide +kernel) (Or.inl (Or.inl rfl)) rfl ?_
  refine q_iload_n 13 rfl (show sCode 258 12 = some (.iload_n 2, 1) by decide +kernel) rfl ?_
  refine q_iconst 14 rfl (show sCode 258 13 = some (.iconst 0, 1) by decide +kernel) ⟨by decide, by decide⟩ ?_
  refine q_iast 15 rfl (show sCode 258 14 = some (.iastore, 1) by decide +kernel) h1 ?_
  refine q_aload_n 16 rfl (show sCode 258 15 = some (.aload_n 0, 1) by decide +kernel) rfl (Nat.le_of_ble_eq_true rfl) ?_
  refine q_iload_n 17 rfl (show sCode 258 16 = some (.iload_n 2, 1) by decide +kernel) rfl ?_
  refine q_iconst 18 rfl (show sCode 258 17 = some (.iconst 0, 1) by decide +kernel) ⟨by decide, by decide⟩ ?_
  exact q_virtI [vI x2, vI 0] 21 rfl (show sCode 258 18 = some (.invokevirtual 280, 3) by decide +kernel) (show sMR (sKo 258).1 280 = some 206 by decide +kernel) (show 206 < 1000 ∧ sStat 206 = false ∧ sIni 206 = false ∧ sKo 206 = (12, 2, 1, 0, 0) by decide +kernel) rfl (Or.inl rfl) rfl (Nat.le_of_ble_eq_true rfl) rfl rfl rfl (by decide +kernel) kk
theorem b258_21 {d : Nat} {Q : Option sV → sM → sG → Prop} {M : sM} {G : sG} {a0 : Nat} {x1 : Int} {x2 : Int} {s0 : Int}  (k1 : s0 < 0 → sW (sC d) 258 Q 197 [vO 12 a0, vI x1, vI x2, vN, vN, vN, vN] [] M G 0 0) (k2 : 0 ≤ s0 → sW (sC d) 258 Q 26 [vO 12 a0, vI x1, vI x2, vI s0, vN, vN, vN] [] M G 0 0) : sW (sC d) 258 Q 21 [vO 12 a0, vI x1, vI x2, vN, vN, vN, vN] [vI s0] M G 0 0 := by
  refine q_istore_n [vO 12 a0, vI x1, vI x2, vI s0, vN, vN, vN] 22 rfl (show sCode 258 21 = some (.istore_n 3, 1) by decide +kernel) (Nat.lt_of_lt_of_le (Nat.lt_succ_self _) (Nat.le_of_ble_eq_true rfl)) rfl rfl ?_
  refine q_iload_n 23 rfl (show sCode 258 22 = some (.iload_n 3, 1) by decide +kernel) rfl ?_
  refine q_iflt 197 26 rfl (by decide) (show sCode 258 23 = some (.ifCond .lt 174, 3) by decide +kernel) ?_ ?_
  · intro q; refine q_forget (L' := [vO 12 a0, vI x1, vI x2, vN, vN, vN, vN]) 3 rfl ?_; exact k1 q
  · intro q; exact k2 q
theorem b258_26 {d : Nat} {Q : Option sV → sM → sG → Prop} {M : sM} {G : sG} {a0 : Nat} {x1 : Int} {x2 : Int} {x3 : Int}  (kk : sC d 244 [vI x1, vI x2] M G (QI (fun r M1 G1 => sW (sC d) 258 Q 31 [vO 12 a0, vI x1, vI x2, vI x3, vN, vN, vN] (vI r :: []) M1 G1 0 0))) : sW (sC d) 258 Q 26 [vO 12 a0, vI x1, vI x2, vI x3, vN, vN, vN] [] M G 0 0 := by
  refine q_iload_n 27 rfl (show sCode 258 26 = some (.iload_n 1, 1) by decide +kernel) rfl ?_
  refine q_iload_n 28 rfl (show sCode 258 27 = some (.iload_n 2, 1) by decide +kernel) rfl ?_
  exact q_statI [vI x1, vI x2] 31 rfl (show sCode 258 28 = some (.invokestatic 369, 3) by decide +kernel) (show sMR (sKo 258).1 369 = some 244 by decide +kernel) (show 244 < 1000 ∧ sStat 244 = true ∧ sKo 244 = (12, 2, 2, 0, 0) by decide +kernel) rfl rfl (Nat.le_of_ble_eq_true rfl) rfl rfl rfl (by decide +kernel) kk
theorem b258_31 {d : Nat} {Q : Option sV → sM → sG → Prop} {M : sM} {G : sG} {a0 : Nat} {x1 : Int} {x2 : Int} {x3 : Int} {s0 : Int}  (k1 : s0 = 0 → sW (sC d) 258 Q 37 [vO 12 a0, vI x1, vI x2, vI x3, vN, vN, vN] [] M G 0 0) (k2 : s0 ≠ 0 → sW (sC d) 258 Q 34 [vO 12 a0, vI x1, vI x2, vN, vN, vN, vN] [] M G 0 0) : sW (sC d) 258 Q 31 [vO 12 a0, vI x1, vI x2, vI x3, vN, vN, vN] [vI s0] M G 0 0 := by
  refine q_ifeq 37 34 rfl (by decide) (show sCode 258 31 = some (.ifCond .eq 6, 3) by decide +kernel) ?_ ?_
  · intro q; exact k1 q
  · intro q; refine q_forget (L' := [vO 12 a0, vI x1, vI x2, vN, vN, vN, vN]) 3 rfl ?_; exact k2 q
theorem b258_34 {d : Nat} {Q : Option sV → sM → sG → Prop} {M : sM} {G : sG} {a0 : Nat} {x1 : Int} {x2 : Int}  (kk : sW (sC d) 258 Q 197 [vO 12 a0, vI x1, vI x2, vN, vN, vN, vN] [] M G 0 0) : sW (sC d) 258 Q 34 [vO 12 a0, vI x1, vI x2, vN, vN, vN, vN] [] M G 0 0 := by
  refine q_goto 197 (by decide) (show sCode 258 34 = some (.goto 163, 3) by decide +kernel) ?_
  exact kk
theorem b258_37 {d : Nat} {Q : Option sV → sM → sG → Prop} {M : sM} {G : sG} {a0 : Nat} {x1 : Int} {x2 : Int} {x3 : Int}  (kk : sC d 204 [vO 12 a0, vI x3, vI 0] M G (QI (fun r M1 G1 => sW (sC d) 258 Q 43 [vO 12 a0, vI x1, vI x2, vI x3, vN, vN, vN] (vI r :: []) M1 G1 0 0))) : sW (sC d) 258 Q 37 [vO 12 a0, vI x1, vI x2, vI x3, vN, vN, vN] [] M G 0 0 := by
  refine q_aload_n 38 rfl (show sCode 258 37 = some (.aload_n 0, 1) by decide +kernel) rfl (Nat.le_of_ble_eq_true rfl) ?_
  refine q_iload_n 39 rfl (show sCode 258 38 = some (.iload_n 3, 1) by decide +kernel) rfl ?_
  refine q_iconst 40 rfl (show sCode 258 39 = some (.iconst 0, 1) by decide +kernel) ⟨by decide, by decide⟩ ?_
  exact q_virtI [vI x3, vI 0] 43 rfl (show sCode 258 40 = some (.invokevirtual 284, 3) by decide +kernel) (show sMR (sKo 258).1 284 = some 204 by decide +kernel) (show 204 < 1000 ∧ sStat 204 = false ∧ sIni 204 = false ∧ sKo 204 = (12, 2, 1, 0, 0) by decide +kernel) rfl (Or.inl rfl) rfl (Nat.le_of_ble_eq_true rfl) rfl rfl rfl (by decide +kernel) kk
theorem b258_43 {d : Nat} {Q : Option sV → sM → sG → Prop} {M : sM} {G : sG} {a0 : Nat} {x1 : Int} {x2 : Int} {x3 : Int} {s0 : Int}  (kk : sW (sC d) 258 Q 48 [vO 12 a0, vI x1, vI x2, vI x3, vI s0, vI 0, vN] [] M G 0 0) : sW (sC d) 258 Q 43 [vO 12 a0, vI x1, vI x2, vI x3, vN, vN, vN] [vI s0] M G 0 0 := by
  refine q_istore [vO 12 a0, vI x1, vI x2, vI x3, vI s0, vN, vN] 45 rfl (show sCode 258 43 = some (.istore 4, 2) by decide +kernel) (Nat.lt_of_lt_of_le (Nat.lt_succ_self _) (Nat.le_of_ble_eq_true rfl)) rfl rfl ?_
  refine q_iconst 46 rfl (show sCode 258 45 = some (.iconst 0, 1) by decide +kernel) ⟨by decide, by decide⟩ ?_
  refine q_istore [vO 12 a0, vI x1, vI x2, vI x3, vI s0, vI 0, vN] 48 rfl (show sCode 258 46 = some (.istore 5, 2) by decide +kernel) (Nat.lt_of_lt_of_le (Nat.lt_succ_self _) (Nat.le_of_ble_eq_true rfl)) rfl rfl ?_
  exact kk
theorem b258_48 {d : Nat} {Q : Option sV → sM → sG → Prop} {M : sM} {G : sG} {a0 : Nat} {x1 : Int} {x2 : Int} {x3 : Int} {x4 : Int} {x5 : Int}  (k1 : 12 ≤ x5 → sW (sC d) 258 Q 151 [vO 12 a0, vI x1, vI x2, vI x3, vN, vN, vN] [] M G 0 0) (k2 : x5 < 12 → sW (sC d) 258 Q 55 [vO 12 a0, vI x1, vI x2, vI x3, vI x4, vI x5, vN] [] M G 0 0) : sW (sC d) 258 Q 48 [vO 12 a0, vI x1, vI x2, vI x3, vI x4, vI x5, vN] [] M G 0 0 := by
  refine q_iload 50 rfl (show sCode 258 48 = some (.iload 5, 2) by decide +kernel) rfl ?_
  refine q_bipush 52 rfl (show sCode 258 50 = some (.bipush 12, 2) by decide +kernel) ⟨by decide, by decide⟩ (by decide +kernel) ?_
  refine q_icmpge 151 55 rfl (by decide) (show sCode 258 52 = some (.if_icmp .ge 99, 3) by decide +kernel) ?_ ?_
  · intro q; refine q_forget (L' := [vO 12 a0, vI x1, vI x2, vI x3, vN, vI x5, vN]) 4 rfl ?_; refine q_forget (L' := [vO 12 a0, vI x1, vI x2, vI x3, vN, vN, vN]) 5 rfl ?_; exact k1 q
  · intro q; exact k2 q
theorem b258_55 {d : Nat} {Q : Option sV → sM → sG → Prop} {M : sM} {G : sG} {a0 : Nat} {x1 : Int} {x2 : Int} {x3 : Int} {x4 : Int} {x5 : Int}  (kk : sC d 206 [vO 12 a0, vI x5, vI 0] M G (QI (fun r M1 G1 => sW (sC d) 258 Q 62 [vO 12 a0, vI x1, vI x2, vI x3, vI x4, vI x5, vN] (vI r :: []) M1 G1 0 0))) : sW (sC d) 258 Q 55 [vO 12 a0, vI x1, vI x2, vI x3, vI x4, vI x5, vN] [] M G 0 0 := by
  refine q_aload_n 56 rfl (show sCode 258 55 = some (.aload_n 0, 1) by decide +kernel) rfl (Nat.le_of_ble_eq_true rfl) ?_
  refine q_iload 58 rfl (show sCode 258 56 = some (.iload 5, 2) by decide +kernel) rfl ?_
  refine q_iconst 59 rfl (show sCode 258 58 = some (.iconst 0, 1) by decide +kernel) ⟨by decide, by decide⟩ ?_
  exact q_virtI [vI x5, vI 0] 62 rfl (show sCode 258 59 = some (.invokevirtual 280, 3) by decide +kernel) (show sMR (sKo 258).1 280 = some 206 by decide +kernel) (show 206 < 1000 ∧ sStat 206 = false ∧ sIni 206 = false ∧ sKo 206 = (12, 2, 1, 0, 0) by decide +kernel) rfl (Or.inl rfl) rfl (Nat.le_of_ble_eq_true rfl) rfl rfl rfl (by decide +kernel) kk
theorem b258_62 {d : Nat} {Q : Option sV → sM → sG → Prop} {M : sM} {G : sG} {a0 : Nat} {x1 : Int} {x2 : Int} {x3 : Int} {x4 : Int} {x5 : Int} {s0 : Int}  (k1 : s0 ≠ x3 → sW (sC d) 258 Q 145 [vO 12 a0, vI x1, vI x2, vI x3, vI x4, vI x5, vN] [] M G 0 0) (k2 : s0 = x3 → sW (sC d) 258 Q 66 [vO 12 a0, vI x1, vI x2, vI x3, vI x4, vI x5, vN] [] M G 0 0) : sW (sC d) 258 Q 62 [vO 12 a0, vI x1, vI x2, vI x3, vI x4, vI x5, vN] [vI s0] M G 0 0 := by
  refine q_iload_n 63 rfl (show sCode 258 62 = some (.iload_n 3, 1) by decide +kernel) rfl ?_
  refine q_icmpne 145 66 rfl (by decide) (show sCode 258 63 = some (.if_icmp .ne 82, 3) by decide +kernel) ?_ ?_
  · intro q; exact k1 q
  · intro q; exact k2 q
theorem b258_66 {d : Nat} {Q : Option sV → sM → sG → Prop} {M : sM} {G : sG} {a0 : Nat} {x1 : Int} {x2 : Int} {x3 : Int} {x4 : Int} {x5 : Int}  (kk : sC d 244 [vI x1, vI x5] M G (QI (fun r M1 G1 => sW (sC d) 258 Q 72 [vO 12 a0, vI x1, vI x2, vI x3, vI x4, vI x5, vN] (vI r :: []) M1 G1 0 0))) : sW (sC d) 258 Q 66 [vO 12 a0, vI x1, vI x2, vI x3, vI x4, vI x5, vN] [] M G 0 0 := by
  refine q_iload_n 67 rfl (show sCode 258 66 = some (.iload_n 1, 1) by decide +kernel) rfl ?_
  refine q_iload 69 rfl (show sCode 258 67 = some (.iload 5, 2) by decide +kernel) rfl ?_
  exact q_statI [vI x1, vI x5] 72 rfl (show sCode 258 69 = some (.invokestatic 369, 3) by decide +kernel) (show sMR (sKo 258).1 369 = some 244 by decide +kernel) (show 244 < 1000 ∧ sStat 244 = true ∧ sKo 244 = (12, 2, 2, 0, 0) by decide +kernel) rfl rfl (Nat.le_of_ble_eq_true rfl) rfl rfl rfl (by decide +kernel) kk
theorem b258_72 {d : Nat} {Q : Option sV → sM → sG → Prop} {M : sM} {G : sG} {a0 : Nat} {x1 : Int} {x2 : Int} {x3 : Int} {x4 : Int} {x5 : Int} {s0 : Int}  (k1 : s0 ≠ 0 → sW (sC d) 258 Q 145 [vO 12 a0, vI x1, vI x2, vI x3, vI x4, vI x5, vN] [] M G 0 0) (k2 : s0 = 0 → sW (sC d) 258 Q 75 [vO 12 a0, vI x1, vI x2, vI x3, vI x4, vI x5, vN] [] M G 0 0) : sW (sC d) 258 Q 72 [vO 12 a0, vI x1, vI x2, vI x3, vI x4, vI x5, vN] [vI s0] M G 0 0 := by
  refine q_ifne 145 75 rfl (by decide) (show sCode 258 72 = some (.ifCond .ne 73, 3) by decide +kernel) ?_ ?_
  · intro q; exact k1 q
  · intro q; exact k2 q
theorem b258_75 {d : Nat} {Q : Option sV → sM → sG → Prop} {M : sM} {G : sG} {a0 : Nat} {x1 : Int} {x2 : Int} {x3 : Int} {x4 : Int} {x5 : Int}  (k1 : x5 ≠ x2 → sW (sC d) 258 Q 84 [vO 12 a0, vI x1, vI x2, vI x3, vI x4, vI x5, vN] [] M G 0 0) (k2 : x5 = x2 → sW (sC d) 258 Q 81 [vO 12 a0, vI x1, vI x2, vI x3, vI x4, vI x5, vN] [] M G 0 0) : sW (sC d) 258 Q 75 [vO 12 a0, vI x1, vI x2, vI x3, vI x4, vI x5, vN] [] M G 0 0 := by
  refine q_iload 77 rfl (show sCode 258 75 = some (.iload 5, 2) by decide +kernel) rfl ?_
  refine q_iload_n 78 rfl (show sCode 258 77 = some (.iload_n 2, 1) by decide +kernel) rfl ?_
  refine q_icmpne 84 81 rfl (by decide) (show sCode 258 78 = some (.if_icmp .ne 6, 3) by decide +kernel) ?_ ?_
  · intro q; exact k1 q
  · intro q; exact k2 q
theorem b258_81 {d : Nat} {Q : Option sV → sM → sG → Prop} {M : sM} {G : sG} {a0 : Nat} {x1 : Int} {x2 : Int} {x3 : Int} {x4 : Int} {x5 : Int}  (kk : sW (sC d) 258 Q 145 [vO 12 a0, vI x1, vI x2, vI x3, vI x4, vI x5, vN] [] M G 0 0) : sW (sC d) 258 Q 81 [vO 12 a0, vI x1, vI x2, vI x3, vI x4, vI x5, vN] [] M G 0 0 := by
  refine q_goto 145 (by decide) (show sCode 258 81 = some (.goto 64, 3) by decide +kernel) ?_
  exact kk
theorem b258_84 {d : Nat} {Q : Option sV → sM → sG → Prop} {M : sM} {G : sG} {a0 : Nat} {x1 : Int} {x2 : Int} {x3 : Int} {x4 : Int} {x5 : Int}  (kk : sC d 206 [vO 12 a0, vI x5, vI 2] M G (QI (fun r M1 G1 => sW (sC d) 258 Q 91 [vO 12 a0, vI x1, vI x2, vI x3, vI x4, vI x5, vN] (vI r :: []) M1 G1 0 0))) : sW (sC d) 258 Q 84 [vO 12 a0, vI x1, vI x2, vI x3, vI x4, vI x5, vN] [] M G 0 0 := by
  refine q_aload_n 85 rfl (show sCode 258 84 = some (.aload_n 0, 1) by decide +kernel) rfl (Nat.le_of_ble_eq_true rfl) ?_
  refine q_iload 87 rfl (show sCode 258 85 = some (.iload 5, 2) by decide +kernel) rfl ?_
  refine q_iconst 88 rfl (show sCode 258 87 = some (.iconst 2, 1) by decide +kernel) ⟨by decide, by decide⟩ ?_
  exact q_virtI [vI x5, vI 2] 91 rfl (show sCode 258 88 = some (.invokevirtual 280, 3) by decide +kernel) (show sMR (sKo 258).1 280 = some 206 by decide +kernel) (show 206 < 1000 ∧ sStat 206 = false ∧ sIni 206 = false ∧ sKo 206 = (12, 2, 1, 0, 0) by decide +kernel) rfl (Or.inl rfl) rfl (Nat.le_of_ble_eq_true rfl) rfl rfl rfl (by decide +kernel) kk
theorem b258_91 {d : Nat} {Q : Option sV → sM → sG → Prop} {M : sM} {G : sG} {a0 : Nat} {x1 : Int} {x2 : Int} {x3 : Int} {x4 : Int} {x5 : Int} {s0 : Int}  (kk : sC d 206 [vO 12 a0, vI x2, vI 2] M G (QI (fun r M1 G1 => sW (sC d) 258 Q 97 [vO 12 a0, vI x1, vI x2, vI x3, vI x4, vI x5, vN] (vI r :: [vI s0]) M1 G1 0 0))) : sW (sC d) 258 Q 91 [vO 12 a0, vI x1, vI x2, vI x3, vI x4, vI x5, vN] [vI s0] M G 0 0 := by
  refine q_aload_n 92 rfl (show sCode 258 91 = some (.aload_n 0, 1) by decide +kernel) rfl (Nat.le_of_ble_eq_true rfl) ?_
  refine q_iload_n 93 rfl (show sCode 258 92 = some (.iload_n 2, 1) by decide +kernel) rfl ?_
  refine q_iconst 94 rfl (show sCode 258 93 = some (.iconst 2, 1) by decide +kernel) ⟨by decide, by decide⟩ ?_
  exact q_virtI [vI x2, vI 2] 97 rfl (show sCode 258 94 = some (.invokevirtual 280, 3) by decide +kernel) (show sMR (sKo 258).1 280 = some 206 by decide +kernel) (show 206 < 1000 ∧ sStat 206 = false ∧ sIni 206 = false ∧ sKo 206 = (12, 2, 1, 0, 0) by decide +kernel) rfl (Or.inl rfl) rfl (Nat.le_of_ble_eq_true rfl) rfl rfl rfl (by decide +kernel) kk
theorem b258_97 {d : Nat} {Q : Option sV → sM → sG → Prop} {M : sM} {G : sG} {a0 : Nat} {x1 : Int} {x2 : Int} {x3 : Int} {x4 : Int} {x5 : Int} {s0 : Int} {s1 : Int}  (k1 : s1 ≤ s0 → sW (sC d) 258 Q 104 [vO 12 a0, vI x1, vI x2, vI x3, vI x4, vI x5, vN] [] M G 0 0) (k2 : s0 < s1 → sW (sC d) 258 Q 100 [vO 12 a0, vI x1, vI x2, vI x3, vI x4, vI x5, vN] [] M G 0 0) : sW (sC d) 258 Q 97 [vO 12 a0, vI x1, vI x2, vI x3, vI x4, vI x5, vN] [vI s0, vI s1] M G 0 0 := by
  refine q_icmple 104 100 rfl (by decide) (show sCode 258 97 = some (.if_icmp .le 7, 3) by decide +kernel) ?_ ?_
  · intro q; exact k1 q
  · intro q; exact k2 q
theorem b258_100 {d : Nat} {Q : Option sV → sM → sG → Prop} {M : sM} {G : sG} {a0 : Nat} {x1 : Int} {x2 : Int} {x3 : Int} {x4 : Int} {x5 : Int}  (kk : sW (sC d) 258 Q 105 [vO 12 a0, vI x1, vI x2, vI x3, vI x4, vI x5, vN] [vI 1] M G 0 0) : sW (sC d) 258 Q 100 [vO 12 a0, vI x1, vI x2, vI x3, vI x4, vI x5, vN] [] M G 0 0 := by
  refine q_iconst 101 rfl (show sCode 258 100 = some (.iconst 1, 1) by decide +kernel) ⟨by decide, by decide⟩ ?_
  refine q_goto 105 (by decide) (show sCode 258 101 = some (.goto 4, 3) by decide +kernel) ?_
  exact kk
theorem b258_104 {d : Nat} {Q : Option sV → sM → sG → Prop} {M : sM} {G : sG} {a0 : Nat} {x1 : Int} {x2 : Int} {x3 : Int} {x4 : Int} {x5 : Int}  (kk : sW (sC d) 258 Q 105 [vO 12 a0, vI x1, vI x2, vI x3, vI x4, vI x5, vN] [vI 0] M G 0 0) : sW (sC d) 258 Q 104 [vO 12 a0, vI x1, vI x2, vI x3, vI x4, vI x5, vN] [] M G 0 0 := by
  refine q_iconst 105 rfl (show sCode 258 104 = some (.iconst 0, 1) by decide +kernel) ⟨by decide, by decide⟩ ?_
  exact kk
theorem b258_105 {d : Nat} {Q : Option sV → sM → sG → Prop} {M : sM} {G : sG} {a0 : Nat} {x1 : Int} {x2 : Int} {x3 : Int} {x4 : Int} {x5 : Int} {s0 : Int} (h1 : 0 ≤ x2 ∧ x2 < 12) (k1 : x4 ≠ 0 → sW (sC d) 258 Q 124 [vO 12 a0, vI x1, vI x2, vI x3, vI x4, vI x5, vI s0] [vI (M (a0 + 19) x2.toNat), vI x2, vA 0 (a0 + 19) 12] M G 0 0) (k2 : x4 = 0 → sW (sC d) 258 Q 119 [vO 12 a0, vI x1, vI x2, vI x3, vI x4, vI x5, vI s0] [vI (M (a0 + 19) x2.toNat), vI x2, vA 0 (a0 + 19) 12] M G 0 0) : sW (sC d) 258 Q 105 [vO 12 a0, vI x1, vI x2, vI x3, vI x4, vI x5, vN] [vI s0] M G 0 0 := by
  refine q_istore [vO 12 a0, vI x1, vI x2, vI x3, vI x4, vI x5, vI s0] 107 rfl (show sCode 258 105 = some (.istore 6, 2) by decide +kernel) (Nat.lt_of_lt_of_le (Nat.lt_succ_self _) (Nat.le_of_ble_eq_true rfl)) rfl rfl ?_
  refine q_aload_n 108 rfl (show sCode 258 107 = some (.aload_n 0, 1) by decide +kernel) rfl (Nat.le_of_ble_eq_true rfl) ?_
  refine q_getR (vA 0 (a0 + 19) 12) 111 rfl (show sCode 258 108 = some (.getfield 66, 3) by decide +kernel) (show sFR (sKo 258).1 66 = some (12, 31) by decide +kernel) (by decide +kernel) (Or.inl (Or.inl rfl)) rfl ?_
  refine q_iload_n 112 rfl (show sCode 258 111 = some (.iload_n 2, 1) by decide +kernel) rfl ?_
  refine q_dup2 113 rfl (show sCode 258 112 = some (.dup2, 1) by decide +kernel) rfl rfl ?_
  refine q_iald 114 rfl (show sCode 258 113 = some (.iaload, 1) by decide +kernel) h1 ?_
  refine q_iload 116 rfl (show sCode 258 114 = some (.iload 4, 2) by decide +kernel) rfl ?_
  refine q_ifne 124 119 rfl (by decide) (show sCode 258 116 = some (.ifCond .ne 8, 3) by decide +kernel) ?_ ?_
  · intro q; exact k1 q
  · intro q; exact k2 q
theorem b258_119 {d : Nat} {Q : Option sV → sM → sG → Prop} {M : sM} {G : sG} {a0 : Nat} {x1 : Int} {x2 : Int} {x3 : Int} {x4 : Int} {x5 : Int} {x6 : Int} {s0 : Int} {s1 : Int} {sa2 : Nat}  (k1 : x6 ≠ 0 → sW (sC d) 258 Q 135 [vO 12 a0, vI x1, vI x2, vI x3, vI x4, vI x5, vN] [vI s0, vI s1, vA 0 sa2 12] M G 0 0) (k2 : x6 = 0 → sW (sC d) 258 Q 124 [vO 12 a0, vI x1, vI x2, vI x3, vI x4, vI x5, vI x6] [vI s0, vI s1, vA 0 sa2 12] M G 0 0) : sW (sC d) 258 Q 119 [vO 12 a0, vI x1, vI x2, vI x3, vI x4, vI x5, vI x6] [vI s0, vI s1, vA 0 sa2 12] M G 0 0 := by
  refine q_iload 121 rfl (show sCode 258 119 = some (.iload 6, 2) by decide +kernel) rfl ?_
  refine q_ifne 135 124 rfl (by decide) (show sCode 258 121 = some (.ifCond .ne 14, 3) by decide +kernel) ?_ ?_
  · intro q; refine q_forget (L' := [vO 12 a0, vI x1, vI x2, vI x3, vI x4, vI x5, vN]) 6 rfl ?_; exact k1 q
  · intro q; exact k2 q
theorem b258_124 {d : Nat} {Q : Option sV → sM → sG → Prop} {M : sM} {G : sG} {a0 : Nat} {x1 : Int} {x2 : Int} {x3 : Int} {x4 : Int} {x5 : Int} {x6 : Int} {s0 : Int} {s1 : Int} {sa2 : Nat}  (k1 : x4 ≠ 1 → sW (sC d) 258 Q 142 [vO 12 a0, vI x1, vI x2, vI x3, vI x4, vI x5, vN] [vI s0, vI s1, vA 0 sa2 12] M G 0 0) (k2 : x4 = 1 → sW (sC d) 258 Q 130 [vO 12 a0, vI x1, vI x2, vI x3, vI x4, vI x5, vI x6] [vI s0, vI s1, vA 0 sa2 12] M G 0 0) : sW (sC d) 258 Q 124 [vO 12 a0, vI x1, vI x2, vI x3, vI x4, vI x5, vI x6] [vI s0, vI s1, vA 0 sa2 12] M G 0 0 := by
  refine q_iload 126 rfl (show sCode 258 124 = some (.iload 4, 2) by decide +kernel) rfl ?_
  refine q_iconst 127 rfl (show sCode 258 126 = some (.iconst 1, 1) by decide +kernel) ⟨by decide, by decide⟩ ?_
  refine q_icmpne 142 130 rfl (by decide) (show sCode 258 127 = some (.if_icmp .ne 15, 3) by decide +kernel) ?_ ?_
  · intro q; refine q_forget (L' := [vO 12 a0, vI x1, vI x2, vI x3, vI x4, vI x5, vN]) 6 rfl ?_; exact k1 q
  · intro q; exact k2 q
theorem b258_130 {d : Nat} {Q : Option sV → sM → sG → Prop} {M : sM} {G : sG} {a0 : Nat} {x1 : Int} {x2 : Int} {x3 : Int} {x4 : Int} {x5 : Int} {x6 : Int} {s0 : Int} {s1 : Int} {sa2 : Nat}  (k1 : x6 ≠ 0 → sW (sC d) 258 Q 142 [vO 12 a0, vI x1, vI x2, vI x3, vI x4, vI x5, vN] [vI s0, vI s1, vA 0 sa2 12] M G 0 0) (k2 : x6 = 0 → sW (sC d) 258 Q 135 [vO 12 a0, vI x1, vI x2, vI x3, vI x4, vI x5, vN] [vI s0, vI s1, vA 0 sa2 12] M G 0 0) : sW (sC d) 258 Q 130 [vO 12 a0, vI x1, vI x2, vI x3, vI x4, vI x5, vI x6] [vI s0, vI s1, vA 0 sa2 12] M G 0 0 := by
  refine q_iload 132 rfl (show sCode 258 130 = some (.iload 6, 2) by decide +kernel) rfl ?_
  refine q_ifne 142 135 rfl (by decide) (show sCode 258 132 = some (.ifCond .ne 10, 3) by decide +kernel) ?_ ?_
  · intro q; refine q_forget (L' := [vO 12 a0, vI x1, vI x2, vI x3, vI x4, vI x5, vN]) 6 rfl ?_; exact k1 q
  · intro q; refine q_forget (L' := [vO 12 a0, vI x1, vI x2, vI x3, vI x4, vI x5, vN]) 6 rfl ?_; exact k2 q
theorem b258_135 {d : Nat} {Q : Option sV → sM → sG → Prop} {M : sM} {G : sG} {a0 : Nat} {x1 : Int} {x2 : Int} {x3 : Int} {x4 : Int} {x5 : Int} {s0 : Int} {s1 : Int} {sa2 : Nat}  (kk : sW (sC d) 258 Q 143 [vO 12 a0, vI x1, vI x2, vI x3, vI x4, vI x5, vN] [vI (iShl 1 x5), vI s0, vI s1, vA 0 sa2 12] M G 0 0) : sW (sC d) 258 Q 135 [vO 12 a0, vI x1, vI x2, vI x3, vI x4, vI x5, vN] [vI s0, vI s1, vA 0 sa2 12] M G 0 0 := by
  refine q_iconst 136 rfl (show sCode 258 135 = some (.iconst 1, 1) by decide +kernel) ⟨by decide, by decide⟩ ?_
  refine q_iload 138 rfl (show sCode 258 136 = some (.iload 5, 2) by decide +kernel) rfl ?_
  refine q_ishl 139 rfl (show sCode 258 138 = some (.ishl, 1) by decide +kernel) ?_
  refine q_goto 143 (by decide) (show sCode 258 139 = some (.goto 4, 3) by decide +kernel) ?_
  exact kk
theorem b258_142 {d : Nat} {Q : Option sV → sM → sG → Prop} {M : sM} {G : sG} {a0 : Nat} {x1 : Int} {x2 : Int} {x3 : Int} {x4 : Int} {x5 : Int} {s0 : Int} {s1 : Int} {sa2 : Nat}  (kk : sW (sC d) 258 Q 143 [vO 12 a0, vI x1, vI x2, vI x3, vI x4, vI x5, vN] [vI 0, vI s0, vI s1, vA 0 sa2 12] M G 0 0) : sW (sC d) 258 Q 142 [vO 12 a0, vI x1, vI x2, vI x3, vI x4, vI x5, vN] [vI s0, vI s1, vA 0 sa2 12] M G 0 0 := by
  refine q_iconst 143 rfl (show sCode 258 142 = some (.iconst 0, 1) by decide +kernel) ⟨by decide, by decide⟩ ?_
  exact kk
theorem b258_143 {d : Nat} {Q : Option sV → sM → sG → Prop} {M : sM} {G : sG} {a0 : Nat} {x1 : Int} {x2 : Int} {x3 : Int} {x4 : Int} {x5 : Int} {s0 : Int} {s1 : Int} {s2 : Int} {sa3 : Nat} (h1 : 0 ≤ s2 ∧ s2 < 12) (kk : sW (sC d) 258 Q 145 [vO 12 a0, vI x1, vI x2, vI x3, vI x4, vI x5, vN] [] (sUpd M sa3 s2.toNat (iOr s1 s0)) G 0 0) : sW (sC d) 258 Q 143 [vO 12 a0, vI x1, vI x2, vI x3, vI x4, vI x5, vN] [vI s0, vI s1, vI s2, vA 0 sa3 12] M G 0 0 := by
  refine q_ior 144 rfl (show sCode 258 143 = some (.ior, 1) by decide +kernel) ?_
  refine q_iast 145 rfl (show sCode 258 144 = some (.iastore, 1) by decide +kernel) h1 ?_
  exact kk
theorem b258_145 {d : Nat} {Q : Option sV → sM → sG → Prop} {M : sM} {G : sG} {a0 : Nat} {x1 : Int} {x2 : Int} {x3 : Int} {x4 : Int} {x5 : Int} (h1 : sI (x5 + 1)) (kk : sW (sC d) 258 Q 48 [vO 12 a0, vI x1, vI x2, vI x3, vI x4, vI (x5 + 1), vN] [] M G 0 0) : sW (sC d) 258 Q 145 [vO 12 a0, vI x1, vI x2, vI x3, vI x4, vI x5, vN] [] M G 0 0 := by
  refine q_iinc [vO 12 a0, vI x1, vI x2, vI x3, vI x4, vI (x5 + 1), vN] 148 rfl (show sCode 258 145 = some (.iinc 5 1, 3) by decide +kernel) rfl rfl h1 rfl ?_
  refine q_goto 48 (by decide) (show sCode 258 148 = some (.goto (-100), 3) by decide +kernel) ?_
  exact kk
theorem b258_151 {d : Nat} {Q : Option sV → sM → sG → Prop} {M : sM} {G : sG} {a0 : Nat} {x1 : Int} {x2 : Int} {x3 : Int}  (kk : sC d 206 [vO 12 a0, vI x2, vI 3] M G (QI (fun r M1 G1 => sW (sC d) 258 Q 157 [vO 12 a0, vI x1, vI x2, vI x3, vN, vN, vN] (vI r :: []) M1 G1 0 0))) : sW (sC d) 258 Q 151 [vO 12 a0, vI x1, vI x2, vI x3, vN, vN, vN] [] M G 0 0 := by
  refine q_aload_n 152 rfl (show sCode 258 151 = some (.aload_n 0, 1) by decide +kernel) rfl (Nat.le_of_ble_eq_true rfl) ?_
  refine q_iload_n 153 rfl (show sCode 258 152 = some (.iload_n 2, 1) by decide +kernel) rfl ?_
  refine q_iconst 154 rfl (show sCode 258 153 = some (.iconst 3, 1) by decide +kernel) ⟨by decide, by decide⟩ ?_
  exact q_virtI [vI x2, vI 3] 157 rfl (show sCode 258 154 = some (.invokevirtual 280, 3) by decide +kernel) (show sMR (sKo 258).1 280 = some 206 by decide +kernel) (show 206 < 1000 ∧ sStat 206 = false ∧ sIni 206 = false ∧ sKo 206 = (12, 2, 1, 0, 0) by decide +kernel) rfl (Or.inl rfl) rfl (Nat.le_of_ble_eq_true rfl) rfl rfl rfl (by decide +kernel) kk
theorem b258_157 {d : Nat} {Q : Option sV → sM → sG → Prop} {M : sM} {G : sG} {a0 : Nat} {x1 : Int} {x2 : Int} {x3 : Int} {s0 : Int}  (k1 : s0 < 0 → sW (sC d) 258 Q 197 [vO 12 a0, vI x1, vI x2, vN, vN, vN, vN] [] M G 0 0) (k2 : 0 ≤ s0 → sW (sC d) 258 Q 164 [vO 12 a0, vI x1, vI x2, vI x3, vN, vI s0, vN] [] M G 0 0) : sW (sC d) 258 Q 157 [vO 12 a0, vI x1, vI x2, vI x3, vN, vN, vN] [vI s0] M G 0 0 := by
  refine q_istore [vO 12 a0, vI x1, vI x2, vI x3, vN, vI s0, vN] 159 rfl (show sCode 258 157 = some (.istore 5, 2) by decide +kernel) (Nat.lt_of_lt_of_le (Nat.lt_succ_self _) (Nat.le_of_ble_eq_true rfl)) rfl rfl ?_
  refine q_iload 161 rfl (show sCode 258 159 = some (.iload 5, 2) by decide +kernel) rfl ?_
  refine q_iflt 197 164 rfl (by decide) (show sCode 258 161 = some (.ifCond .lt 36, 3) by decide +kernel) ?_ ?_
  · intro q; refine q_forget (L' := [vO 12 a0, vI x1, vI x2, vN, vN, vI s0, vN]) 3 rfl ?_; refine q_forget (L' := [vO 12 a0, vI x1, vI x2, vN, vN, vN, vN]) 5 rfl ?_; exact k1 q
  · intro q; exact k2 q
theorem b258_164 {d : Nat} {Q : Option sV → sM → sG → Prop} {M : sM} {G : sG} {a0 : Nat} {x1 : Int} {x2 : Int} {x3 : Int} {x5 : Int}  (kk : sC d 206 [vO 12 a0, vI x5, vI 0] M G (QI (fun r M1 G1 => sW (sC d) 258 Q 171 [vO 12 a0, vI x1, vI x2, vI x3, vN, vI x5, vN] (vI r :: []) M1 G1 0 0))) : sW (sC d) 258 Q 164 [vO 12 a0, vI x1, vI x2, vI x3, vN, vI x5, vN] [] M G 0 0 := by
  refine q_aload_n 165 rfl (show sCode 258 164 = some (.aload_n 0, 1) by decide +kernel) rfl (Nat.le_of_ble_eq_true rfl) ?_
  refine q_iload 167 rfl (show sCode 258 165 = some (.iload 5, 2) by decide +kernel) rfl ?_
  refine q_iconst 168 rfl (show sCode 258 167 = some (.iconst 0, 1) by decide +kernel) ⟨by decide, by decide⟩ ?_
  exact q_virtI [vI x5, vI 0] 171 rfl (show sCode 258 168 = some (.invokevirtual 280, 3) by decide +kernel) (show sMR (sKo 258).1 280 = some 206 by decide +kernel) (show 206 < 1000 ∧ sStat 206 = false ∧ sIni 206 = false ∧ sKo 206 = (12, 2, 1, 0, 0) by decide +kernel) rfl (Or.inl rfl) rfl (Nat.le_of_ble_eq_true rfl) rfl rfl rfl (by decide +kernel) kk
theorem b258_171 {d : Nat} {Q : Option sV → sM → sG → Prop} {M : sM} {G : sG} {a0 : Nat} {x1 : Int} {x2 : Int} {x3 : Int} {x5 : Int} {s0 : Int}  (k1 : s0 ≠ x3 → sW (sC d) 258 Q 184 [vO 12 a0, vI x1, vI x2, vN, vN, vI x5, vN] [] M G 0 0) (k2 : s0 = x3 → sW (sC d) 258 Q 175 [vO 12 a0, vI x1, vI x2, vN, vN, vI x5, vN] [] M G 0 0) : sW (sC d) 258 Q 171 [vO 12 a0, vI x1, vI x2, vI x3, vN, vI x5, vN] [vI s0] M G 0 0 := by
  refine q_iload_n 172 rfl (show sCode 258 171 = some (.iload_n 3, 1) by decide +kernel) rfl ?_
  refine q_icmpne 184 175 rfl (by decide) (show sCode 258 172 = some (.if_icmp .ne 12, 3) by decide +kernel) ?_ ?_
  · intro q; refine q_forget (L' := [vO 12 a0, vI x1, vI x2, vN, vN, vI x5, vN]) 3 rfl ?_; exact k1 q
  · intro q; refine q_forget (L' := [vO 12 a0, vI x1, vI x2, vN, vN, vI x5, vN]) 3 rfl ?_; exact k2 q
theorem b258_175 {d : Nat} {Q : Option sV → sM → sG → Prop} {M : sM} {G : sG} {a0 : Nat} {x1 : Int} {x2 : Int} {x5 : Int}  (kk : sC d 244 [vI x1, vI x5] M G (QI (fun r M1 G1 => sW (sC d) 258 Q 181 [vO 12 a0, vI x1, vI x2, vN, vN, vI x5, vN] (vI r :: []) M1 G1 0 0))) : sW (sC d) 258 Q 175 [vO 12 a0, vI x1, vI x2, vN, vN, vI x5, vN] [] M G 0 0 := by
  refine q_iload_n 176 rfl (show sCode 258 175 = some (.iload_n 1, 1) by decide +kernel) rfl ?_
  refine q_iload 178 rfl (show sCode 258 176 = some (.iload 5, 2) by decide +kernel) rfl ?_
  exact q_statI [vI x1, vI x5] 181 rfl (show sCode 258 178 = some (.invokestatic 369, 3) by decide +kernel) (show sMR (sKo 258).1 369 = some 244 by decide +kernel) (show 244 < 1000 ∧ sStat 244 = true ∧ sKo 244 = (12, 2, 2, 0, 0) by decide +kernel) rfl rfl (Nat.le_of_ble_eq_true rfl) rfl rfl rfl (by decide +kernel) kk
theorem b258_181 {d : Nat} {Q : Option sV → sM → sG → Prop} {M : sM} {G : sG} {a0 : Nat} {x1 : Int} {x2 : Int} {x5 : Int} {s0 : Int}  (k1 : s0 = 0 → sW (sC d) 258 Q 197 [vO 12 a0, vI x1, vI x2, vN, vN, vN, vN] [] M G 0 0) (k2 : s0 ≠ 0 → sW (sC d) 258 Q 184 [vO 12 a0, vI x1, vI x2, vN, vN, vI x5, vN] [] M G 0 0) : sW (sC d) 258 Q 181 [vO 12 a0, vI x1, vI x2, vN, vN, vI x5, vN] [vI s0] M G 0 0 := by
  refine q_ifeq 197 184 rfl (by decide) (show sCode 258 181 = some (.ifCond .eq 16, 3) by decide +kernel) ?_ ?_
  · intro q; refine q_forget (L' := [vO 12 a0, vI x1, vI x2, vN, vN, vN, vN]) 5 rfl ?_; exact k1 q
  · intro q; exact k2 q
theorem b258_184 {d : Nat} {Q : Option sV → sM → sG → Prop} {M : sM} {G : sG} {a0 : Nat} {x1 : Int} {x2 : Int} {x5 : Int} (h1 : 0 ≤ x2 ∧ x2 < 12) (h2 : 0 ≤ x2 ∧ x2 < 12) (kk : sW (sC d) 258 Q 197 [vO 12 a0, vI x1, vI x2, vN, vN, vN, vN] [] (sUpd M (a0 + 19) x2.toNat (iOr (M (a0 + 19) x2.toNat) (iShl 1 x5))) G 0 0) : sW (sC d) 258 Q 184 [vO 12 a0, vI x1, vI x2, vN, vN, vI x5, vN] [] M G 0 0 := by
  refine q_aload_n 185 rfl (show sCode 258 184 = some (.aload_n 0, 1) by decide +kernel) rfl (Nat.le_of_ble_eq_true rfl) ?_
  refine q_getR (vA 0 (a0 + 19) 12) 188 rfl (show sCode 258 185 = some (.getfield 66, 3) by decide +kernel) (show sFR (sKo 258).1 66 = some (12, 31) by decide +kernel) (by decide +kernel) (Or.inl (Or.inl rfl)) rfl ?_
  refine q_iload_n 189 rfl (show sCode 258 188 = some (.iload_n 2, 1) by decide +kernel) rfl ?_
  refine q_dup2 190 rfl (show sCode 258 189 = some (.dup2, 1) by decide +kernel) rfl rfl ?_
  refine q_iald 191 rfl (show sCode 258 190 = some (.iaload, 1) by decide +kernel) h1 ?_
  refine q_iconst 192 rfl (show sCode 258 191 = some (.iconst 1, 1) by decide +kernel) ⟨by decide, by decide⟩ ?_
  refine q_iload 194 rfl (show sCode 258 192 = some (.iload 5, 2) by decide +kernel) rfl ?_
  refine q_ishl 195 rfl (show sCode 258 194 = some (.ishl, 1) by decide +kernel) ?_
  refine q_ior 196 rfl (show sCode 258 195 = some (.ior, 1) by decide +kernel) ?_
  refine q_iast 197 rfl (show sCode 258 196 = some (.iastore, 1) by decide +kernel) h2 ?_
  refine q_forget (L' := [vO 12 a0, vI x1, vI x2, vN, vN, vN, vN]) 5 rfl ?_
  exact kk
theorem b258_197 {d : Nat} {Q : Option sV → sM → sG → Prop} {M : sM} {G : sG} {a0 : Nat} {x1 : Int} {x2 : Int} (h1 : sI (x2 + 1)) (kk : sW (sC d) 258 Q 2 [vO 12 a0, vI x1, vI (x2 + 1), vN, vN, vN, vN] [] M G 0 0) : sW (sC d) 258 Q 197 [vO 12 a0, vI x1, vI x2, vN, vN, vN, vN] [] M G 0 0 := by
  refine q_iinc [vO 12 a0, vI x1, vI (x2 + 1), vN, vN, vN, vN] 200 rfl (show sCode 258 197 = some (.iinc 2 1, 3) by decide +kernel) rfl rfl h1 rfl ?_
  refine q_goto 2 (by decide) (show sCode 258 200 = some (.goto (-198), 3) by decide +kernel) ?_
  exact kk
theorem b258_203 {d : Nat} {P : sM → sG → Prop} {M : sM} {G : sG}   (kk : P M G) : sW (sC d) 258 (QV P) 203 [vN, vN, vN, vN, vN, vN, vN] [] M G 0 0 := by
  exact q_vret (show sCode 258 203 = some (.return_, 1) by decide +kernel) (by decide +kernel) (by decide +kernel) kk
-- 259 AfterTheLastModel.inRings ()I
theorem b259_0 {d : Nat} {Q : Option sV → sM → sG → Prop} {M : sM} {G : sG} {a0 : Nat}  (kk : sW (sC d) 259 Q 4 [vO 12 a0, vI 0, vI 0] [] M G 0 0) : sW (sC d) 259 Q 0 [vO 12 a0, vN, vN] [] M G 0 0 := by
  refine q_iconst 1 rfl (show sCode 259 0 = some (.iconst 0, 1) by decide +kernel) ⟨by decide, by decide⟩ ?_
  refine q_istore_n [vO 12 a0, vI 0, vN] 2 rfl (show sCode 259 1 = some (.istore_n 1, 1) by decide +kernel) (Nat.lt_of_lt_of_le (Nat.lt_succ_self _) (Nat.le_of_ble_eq_true rfl)) rfl rfl ?_
  refine q_iconst 3 rfl (show sCode 259 2 = some (.iconst 0, 1) by decide +kernel) ⟨by decide, by decide⟩ ?_
  refine q_istore_n [vO 12 a0, vI 0, vI 0] 4 rfl (show sCode 259 3 = some (.istore_n 2, 1) by decide +kernel) (Nat.lt_of_lt_of_le (Nat.lt_succ_self _) (Nat.le_of_ble_eq_true rfl)) rfl rfl ?_
  exact kk
theorem b259_4 {d : Nat} {Q : Option sV → sM → sG → Prop} {M : sM} {G : sG} {a0 : Nat} {x1 : Int} {x2 : Int}  (k1 : 12 ≤ x2 → sW (sC d) 259 Q 34 [vN, vI x1, vN] [] M G 0 0) (k2 : x2 < 12 → sW (sC d) 259 Q 10 [vO 12 a0, vI x1, vI x2] [] M G 0 0) : sW (sC d) 259 Q 4 [vO 12 a0, vI x1, vI x2] [] M G 0 0 := by
  refine q_iload_n 5 rfl (show sCode 259 4 = some (.iload_n 2, 1) by decide +kernel) rfl ?_
  refine q_bipush 7 rfl (show sCode 259 5 = some (.bipush 12, 2) by decide +kernel) ⟨by decide, by decide⟩ (by decide +kernel) ?_
  refine q_icmpge 34 10 rfl (by decide) (show sCode 259 7 = some (.if_icmp .ge 27, 3) by decide +kernel) ?_ ?_
  · intro q; refine q_forget (L' := [vN, vI x1, vI x2]) 0 rfl ?_; refine q_forget (L' := [vN, vI x1, vN]) 2 rfl ?_; exact k1 q
  · intro q; exact k2 q
theorem b259_10 {d : Nat} {Q : Option sV → sM → sG → Prop} {M : sM} {G : sG} {a0 : Nat} {x1 : Int} {x2 : Int}  (kk : sC d 260 [vO 12 a0, vI x2] M G (QI (fun r M1 G1 => sW (sC d) 259 Q 16 [vO 12 a0, vN, vI x2] (vI r :: [vI x1]) M1 G1 0 0))) : sW (sC d) 259 Q 10 [vO 12 a0, vI x1, vI x2] [] M G 0 0 := by
  refine q_iload_n 11 rfl (show sCode 259 10 = some (.iload_n 1, 1) by decide +kernel) rfl ?_
  refine q_aload_n 12 rfl (show sCode 259 11 = some (.aload_n 0, 1) by decide +kernel) rfl (Nat.le_of_ble_eq_true rfl) ?_
  refine q_iload_n 13 rfl (show sCode 259 12 = some (.iload_n 2, 1) by decide +kernel) rfl ?_
  refine q_forget (L' := [vO 12 a0, vN, vI x2]) 1 rfl ?_
  exact q_virtI [vI x2] 16 rfl (show sCode 259 13 = some (.invokevirtual 406, 3) by decide +kernel) (show sMR (sKo 259).1 406 = some 260 by decide +kernel) (show 260 < 1000 ∧ sStat 260 = false ∧ sIni 260 = false ∧ sKo 260 = (12, 1, 1, 0, 0) by decide +kernel) rfl (Or.inl rfl) rfl (Nat.le_of_ble_eq_true rfl) rfl rfl rfl (by decide +kernel) kk
theorem b259_16 {d : Nat} {Q : Option sV → sM → sG → Prop} {M : sM} {G : sG} {a0 : Nat} {x2 : Int} {s0 : Int} {s1 : Int}  (k1 : s0 ≤ 0 → sW (sC d) 259 Q 25 [vO 12 a0, vN, vI x2] [vI s1] M G 0 0) (k2 : 0 < s0 → sW (sC d) 259 Q 19 [vO 12 a0, vN, vI x2] [vI s1] M G 0 0) : sW (sC d) 259 Q 16 [vO 12 a0, vN, vI x2] [vI s0, vI s1] M G 0 0 := by
  refine q_ifle 25 19 rfl (by decide) (show sCode 259 16 = some (.ifCond .le 9, 3) by decide +kernel) ?_ ?_
  · intro q; exact k1 q
  · intro q; exact k2 q
theorem b259_19 {d : Nat} {Q : Option sV → sM → sG → Prop} {M : sM} {G : sG} {a0 : Nat} {x2 : Int} {s0 : Int}  (kk : sW (sC d) 259 Q 26 [vO 12 a0, vN, vI x2] [vI (iShl 1 x2), vI s0] M G 0 0) : sW (sC d) 259 Q 19 [vO 12 a0, vN, vI x2] [vI s0] M G 0 0 := by
  refine q_iconst 20 rfl (show sCode 259 19 = some (.iconst 1, 1) by decide +kernel) ⟨by decide, by decide⟩ ?_
  refine q_iload_n 21 rfl (show sCode 259 20 = some (.iload_n 2, 1) by decide +kernel) rfl ?_
  refine q_ishl 22 rfl (show sCode 259 21 = some (.ishl, 1) by decide +kernel) ?_
  refine q_goto 26 (by decide) (show sCode 259 22 = some (.goto 4, 3) by decide +kernel) ?_
  exact kk
theorem b259_25 {d : Nat} {Q : Option sV → sM → sG → Prop} {M : sM} {G : sG} {a0 : Nat} {x2 : Int} {s0 : Int}  (kk : sW (sC d) 259 Q 26 [vO 12 a0, vN, vI x2] [vI 0, vI s0] M G 0 0) : sW (sC d) 259 Q 25 [vO 12 a0, vN, vI x2] [vI s0] M G 0 0 := by
  refine q_iconst 26 rfl (show sCode 259 25 = some (.iconst 0, 1) by decide +kernel) ⟨by decide, by decide⟩ ?_
  exact kk
theorem b259_26 {d : Nat} {Q : Option sV → sM → sG → Prop} {M : sM} {G : sG} {a0 : Nat} {x2 : Int} {s0 : Int} {s1 : Int} (h1 : sI (x2 + 1)) (kk : sW (sC d) 259 Q 4 [vO 12 a0, vI (iOr s1 s0), vI (x2 + 1)] [] M G 0 0) : sW (sC d) 259 Q 26 [vO 12 a0, vN, vI x2] [vI s0, vI s1] M G 0 0 := by
  refine q_ior 27 rfl (show sCode 259 26 = some (.ior, 1) by decide +kernel) ?_
  refine q_istore_n [vO 12 a0, vI (iOr s1 s0), vI x2] 28 rfl (show sCode 259 27 = some (.istore_n 1, 1) by decide +kernel) (Nat.lt_of_lt_of_le (Nat.lt_succ_self _) (Nat.le_of_ble_eq_true rfl)) rfl rfl ?_
  refine q_iinc [vO 12 a0, vI (iOr s1 s0), vI (x2 + 1)] 31 rfl (show sCode 259 28 = some (.iinc 2 1, 3) by decide +kernel) rfl rfl h1 rfl ?_
  refine q_goto 4 (by decide) (show sCode 259 31 = some (.goto (-27), 3) by decide +kernel) ?_
  exact kk
theorem b259_34 {d : Nat} {P : Int → sM → sG → Prop} {M : sM} {G : sG} {x1 : Int}  (kk : P x1 M G) : sW (sC d) 259 (QI P) 34 [vN, vI x1, vN] [] M G 0 0 := by
  refine q_iload_n 35 rfl (show sCode 259 34 = some (.iload_n 1, 1) by decide +kernel) rfl ?_
  exact q_iret (show sCode 259 35 = some (.ireturn, 1) by decide +kernel) (by decide +kernel) (by decide +kernel) kk
-- 260 AfterTheLastModel.roundOf (I)I
theorem b260_0 {d : Nat} {Q : Option sV → sM → sG → Prop} {M : sM} {G : sG} {a0 : Nat} {x1 : Int} (h1 : 0 ≤ x1 ∧ x1 < 12) (kk : sW (sC d) 260 Q 12 [vO 12 a0, vI x1, vI 0, vI (M (a0 + 19) x1.toNat), vI 1, vN, vN] [] M G 0 0) : sW (sC d) 260 Q 0 [vO 12 a0, vI x1, vN, vN, vN, vN, vN] [] M G 0 0 := by
  refine q_iconst 1 rfl (show sCode 260 0 = some (.iconst 0, 1) by decide +kernel) ⟨by decide, by decide⟩ ?_
  refine q_istore_n [vO 12 a0, vI x1, vI 0, vN, vN, vN, vN] 2 rfl (show sCode 260 1 = some (.istore_n 2, 1) by decide +kernel) (Nat.lt_of_lt_of_le (Nat.lt_succ_self _) (Nat.le_of_ble_eq_true rfl)) rfl rfl ?_
  refine q_aload_n 3 rfl (show sCode 260 2 = some (.aload_n 0, 1) by decide +kernel) rfl (Nat.le_of_ble_eq_true rfl) ?_
  refine q_getR (vA 0 (a0 + 19) 12) 6 rfl (show sCode 260 3 = some (.getfield 66, 3) by decide +kernel) (show sFR (sKo 260).1 66 = some (12, 31) by decide +kernel) (by decide +kernel) (Or.inl (Or.inl rfl)) rfl ?_
  refine q_iload_n 7 rfl (show sCode 260 6 = some (.iload_n 1, 1) by decide +kernel) rfl ?_
  refine q_iald 8 rfl (show sCode 260 7 = some (.iaload, 1) by decide +kernel) h1 ?_
  refine q_istore_n [vO 12 a0, vI x1, vI 0, vI (M (a0 + 19) x1.toNat), vN, vN, vN] 9 rfl (show sCode 260 8 = some (.istore_n 3, 1) by decide +kernel) (Nat.lt_of_lt_of_le (Nat.lt_succ_self _) (Nat.le_of_ble_eq_true rfl)) rfl rfl ?_
  refine q_iconst 10 rfl (show sCode 260 9 = some (.iconst 1, 1) by decide +kernel) ⟨by decide, by decide⟩ ?_
  refine q_istore [vO 12 a0, vI x1, vI 0, vI (M (a0 + 19) x1.toNat), vI 1, vN, vN] 12 rfl (show sCode 260 10 = some (.istore 4, 2) by decide +kernel) (Nat.lt_of_lt_of_le (Nat.lt_succ_self _) (Nat.le_of_ble_eq_true rfl)) rfl rfl ?_
  exact kk
theorem b260_12 {d : Nat} {Q : Option sV → sM → sG → Prop} {M : sM} {G : sG} {a0 : Nat} {x1 : Int} {x2 : Int} {x3 : Int} {x4 : Int}  (k1 : 12 < x4 → sW (sC d) 260 Q 95 [vN, vN, vN, vN, vN, vN, vN] [] M G 0 0) (k2 : x4 ≤ 12 → sW (sC d) 260 Q 19 [vO 12 a0, vI x1, vI x2, vI x3, vI x4, vN, vN] [] M G 0 0) : sW (sC d) 260 Q 12 [vO 12 a0, vI x1, vI x2, vI x3, vI x4, vN, vN] [] M G 0 0 := by
  refine q_iload 14 rfl (show sCode 260 12 = some (.iload 4, 2) by decide +kernel) rfl ?_
  refine q_bipush 16 rfl (show sCode 260 14 = some (.bipush 12, 2) by decide +kernel) ⟨by decide, by decide⟩ (by decide +kernel) ?_
  refine q_icmpgt 95 19 rfl (by decide) (show sCode 260 16 = some (.if_icmp .gt 79, 3) by decide +kernel) ?_ ?_
  · intro q; refine q_forget (L' := [vN, vI x1, vI x2, vI x3, vI x4, vN, vN]) 0 rfl ?_; refine q_forget (L' := [vN, vN, vI x2, vI x3, vI x4, vN, vN]) 1 rfl ?_; refine q_forget (L' := [vN, vN, vN, vI x3, vI x4, vN, vN]) 2 rfl ?_; refine q_forget (L' := [vN, vN, vN, vN, vI x4, vN, vN]) 3 rfl ?_; refine q_forget (L' := [vN, vN, vN, vN, vN, vN, vN]) 4 rfl ?_; exact k1 q
  · intro q; exact k2 q
theorem b260_19 {d : Nat} {Q : Option sV → sM → sG → Prop} {M : sM} {G : sG} {a0 : Nat} {x1 : Int} {x2 : Int} {x3 : Int} {x4 : Int}  (k1 : x3 = 0 → sW (sC d) 260 Q 95 [vN, vN, vN, vN, vN, vN, vN] [] M G 0 0) (k2 : x3 ≠ 0 → sW (sC d) 260 Q 23 [vO 12 a0, vI x1, vI x2, vI x3, vI x4, vN, vN] [] M G 0 0) : sW (sC d) 260 Q 19 [vO 12 a0, vI x1, vI x2, vI x3, vI x4, vN, vN] [] M G 0 0 := by
  refine q_iload_n 20 rfl (show sCode 260 19 = some (.iload_n 3, 1) by decide +kernel) rfl ?_
  refine q_ifeq 95 23 rfl (by decide) (show sCode 260 20 = some (.ifCond .eq 75, 3) by decide +kernel) ?_ ?_
  · intro q; refine q_forget (L' := [vN, vI x1, vI x2, vI x3, vI x4, vN, vN]) 0 rfl ?_; refine q_forget (L' := [vN, vN, vI x2, vI x3, vI x4, vN, vN]) 1 rfl ?_; refine q_forget (L' := [vN, vN, vN, vI x3, vI x4, vN, vN]) 2 rfl ?_; refine q_forget (L' := [vN, vN, vN, vN, vI x4, vN, vN]) 3 rfl ?_; refine q_forget (L' := [vN, vN, vN, vN, vN, vN, vN]) 4 rfl ?_; exact k1 q
  · intro q; exact k2 q
theorem b260_23 {d : Nat} {Q : Option sV → sM → sG → Prop} {M : sM} {G : sG} {a0 : Nat} {x1 : Int} {x2 : Int} {x3 : Int} {x4 : Int}  (kk : sC d 244 [vI x3, vI x1] M G (QI (fun r M1 G1 => sW (sC d) 260 Q 28 [vO 12 a0, vI x1, vI x2, vI x3, vI x4, vN, vN] (vI r :: []) M1 G1 0 0))) : sW (sC d) 260 Q 23 [vO 12 a0, vI x1, vI x2, vI x3, vI x4, vN, vN] [] M G 0 0 := by
  refine q_iload_n 24 rfl (show sCode 260 23 = some (.iload_n 3, 1) by decide +kernel) rfl ?_
  refine q_iload_n 25 rfl (show sCode 260 24 = some (.iload_n 1, 1) by decide +kernel) rfl ?_
  exact q_statI [vI x3, vI x1] 28 rfl (show sCode 260 25 = some (.invokestatic 369, 3) by decide +kernel) (show sMR (sKo 260).1 369 = some 244 by decide +kernel) (show 244 < 1000 ∧ sStat 244 = true ∧ sKo 244 = (12, 2, 2, 0, 0) by decide +kernel) rfl rfl (Nat.le_of_ble_eq_true rfl) rfl rfl rfl (by decide +kernel) kk
theorem b260_28 {d : Nat} {Q : Option sV → sM → sG → Prop} {M : sM} {G : sG} {a0 : Nat} {x1 : Int} {x2 : Int} {x3 : Int} {x4 : Int} {s0 : Int}  (k1 : s0 = 0 → sW (sC d) 260 Q 34 [vO 12 a0, vI x1, vI x2, vI x3, vI x4, vN, vN] [] M G 0 0) (k2 : s0 ≠ 0 → sW (sC d) 260 Q 31 [vN, vN, vN, vN, vI x4, vN, vN] [] M G 0 0) : sW (sC d) 260 Q 28 [vO 12 a0, vI x1, vI x2, vI x3, vI x4, vN, vN] [vI s0] M G 0 0 := by
  refine q_ifeq 34 31 rfl (by decide) (show sCode 260 28 = some (.ifCond .eq 6, 3) by decide +kernel) ?_ ?_
  · intro q; exact k1 q
  · intro q; refine q_forget (L' := [vN, vI x1, vI x2, vI x3, vI x4, vN, vN]) 0 rfl ?_; refine q_forget (L' := [vN, vN, vI x2, vI x3, vI x4, vN, vN]) 1 rfl ?_; refine q_forget (L' := [vN, vN, vN, vI x3, vI x4, vN, vN]) 2 rfl ?_; refine q_forget (L' := [vN, vN, vN, vN, vI x4, vN, vN]) 3 rfl ?_; exact k2 q
theorem b260_31 {d : Nat} {P : Int → sM → sG → Prop} {M : sM} {G : sG} {x4 : Int}  (kk : P x4 M G) : sW (sC d) 260 (QI P) 31 [vN, vN, vN, vN, vI x4, vN, vN] [] M G 0 0 := by
  refine q_iload 33 rfl (show sCode 260 31 = some (.iload 4, 2) by decide +kernel) rfl ?_
  exact q_iret (show sCode 260 33 = some (.ireturn, 1) by decide +kernel) (by decide +kernel) (by decide +kernel) kk
theorem b260_34 {d : Nat} {Q : Option sV → sM → sG → Prop} {M : sM} {G : sG} {a0 : Nat} {x1 : Int} {x2 : Int} {x3 : Int} {x4 : Int}  (kk : sW (sC d) 260 Q 44 [vO 12 a0, vI x1, vI (iOr x2 x3), vI x3, vI x4, vI 0, vI 0] [] M G 0 0) : sW (sC d) 260 Q 34 [vO 12 a0, vI x1, vI x2, vI x3, vI x4, vN, vN] [] M G 0 0 := by
  refine q_iload_n 35 rfl (show sCode 260 34 = some (.iload_n 2, 1) by decide +kernel) rfl ?_
  refine q_iload_n 36 rfl (show sCode 260 35 = some (.iload_n 3, 1) by decide +kernel) rfl ?_
  refine q_ior 37 rfl (show sCode 260 36 = some (.ior, 1) by decide +kernel) ?_
  refine q_istore_n [vO 12 a0, vI x1, vI (iOr x2 x3), vI x3, vI x4, vN, vN] 38 rfl (show sCode 260 37 = some (.istore_n 2, 1) by decide +kernel) (Nat.lt_of_lt_of_le (Nat.lt_succ_self _) (Nat.le_of_ble_eq_true rfl)) rfl rfl ?_
  refine q_iconst 39 rfl (show sCode 260 38 = some (.iconst 0, 1) by decide +kernel) ⟨by decide, by decide⟩ ?_
  refine q_istore [vO 12 a0, vI x1, vI (iOr x2 x3), vI x3, vI x4, vI 0, vN] 41 rfl (show sCode 260 39 = some (.istore 5, 2) by decide +kernel) (Nat.lt_of_lt_of_le (Nat.lt_succ_self _) (Nat.le_of_ble_eq_true rfl)) rfl rfl ?_
  refine q_iconst 42 rfl (show sCode 260 41 = some (.iconst 0, 1) by decide +kernel) ⟨by decide, by decide⟩ ?_
  refine q_istore [vO 12 a0, vI x1, vI (iOr x2 x3), vI x3, vI x4, vI 0, vI 0] 44 rfl (show sCode 260 42 = some (.istore 6, 2) by decide +kernel) (Nat.lt_of_lt_of_le (Nat.lt_succ_self _) (Nat.le_of_ble_eq_true rfl)) rfl rfl ?_
  exact kk
theorem b260_44 {d : Nat} {Q : Option sV → sM → sG → Prop} {M : sM} {G : sG} {a0 : Nat} {x1 : Int} {x2 : Int} {x3 : Int} {x4 : Int} {x5 : Int} {x6 : Int}  (k1 : 12 ≤ x6 → sW (sC d) 260 Q 82 [vO 12 a0, vI x1, vI x2, vN, vI x4, vI x5, vN] [] M G 0 0) (k2 : x6 < 12 → sW (sC d) 260 Q 51 [vO 12 a0, vI x1, vI x2, vI x3, vI x4, vI x5, vI x6] [] M G 0 0) : sW (sC d) 260 Q 44 [vO 12 a0, vI x1, vI x2, vI x3, vI x4, vI x5, vI x6] [] M G 0 0 := by
  refine q_iload 46 rfl (show sCode 260 44 = some (.iload 6, 2) by decide +kernel) rfl ?_
  refine q_bipush 48 rfl (show sCode 260 46 = some (.bipush 12, 2) by decide +kernel) ⟨by decide, by decide⟩ (by decide +kernel) ?_
  refine q_icmpge 82 51 rfl (by decide) (show sCode 260 48 = some (.if_icmp .ge 34, 3) by decide +kernel) ?_ ?_
  · intro q; refine q_forget (L' := [vO 12 a0, vI x1, vI x2, vN, vI x4, vI x5, vI x6]) 3 rfl ?_; refine q_forget (L' := [vO 12 a0, vI x1, vI x2, vN, vI x4, vI x5, vN]) 6 rfl ?_; exact k1 q
  · intro q; exact k2 q
theorem b260_51 {d : Nat} {Q : Option sV → sM → sG → Prop} {M : sM} {G : sG} {a0 : Nat} {x1 : Int} {x2 : Int} {x3 : Int} {x4 : Int} {x5 : Int} {x6 : Int}  (kk : sC d 244 [vI x3, vI x6] M G (QI (fun r M1 G1 => sW (sC d) 260 Q 59 [vO 12 a0, vI x1, vI x2, vI x3, vI x4, vN, vI x6] (vI r :: [vI x5]) M1 G1 0 0))) : sW (sC d) 260 Q 51 [vO 12 a0, vI x1, vI x2, vI x3, vI x4, vI x5, vI x6] [] M G 0 0 := by
  refine q_iload 53 rfl (show sCode 260 51 = some (.iload 5, 2) by decide +kernel) rfl ?_
  refine q_iload_n 54 rfl (show sCode 260 53 = some (.iload_n 3, 1) by decide +kernel) rfl ?_
  refine q_iload 56 rfl (show sCode 260 54 = some (.iload 6, 2) by decide +kernel) rfl ?_
  refine q_forget (L' := [vO 12 a0, vI x1, vI x2, vI x3, vI x4, vN, vI x6]) 5 rfl ?_
  exact q_statI [vI x3, vI x6] 59 rfl (show sCode 260 56 = some (.invokestatic 369, 3) by decide +kernel) (show sMR (sKo 260).1 369 = some 244 by decide +kernel) (show 244 < 1000 ∧ sStat 244 = true ∧ sKo 244 = (12, 2, 2, 0, 0) by decide +kernel) rfl rfl (Nat.le_of_ble_eq_true rfl) rfl rfl rfl (by decide +kernel) kk
theorem b260_59 {d : Nat} {Q : Option sV → sM → sG → Prop} {M : sM} {G : sG} {a0 : Nat} {x1 : Int} {x2 : Int} {x3 : Int} {x4 : Int} {x6 : Int} {s0 : Int} {s1 : Int}  (k1 : s0 = 0 → sW (sC d) 260 Q 72 [vO 12 a0, vI x1, vI x2, vI x3, vI x4, vN, vI x6] [vI s1] M G 0 0) (k2 : s0 ≠ 0 → sW (sC d) 260 Q 62 [vO 12 a0, vI x1, vI x2, vI x3, vI x4, vN, vI x6] [vI s1] M G 0 0) : sW (sC d) 260 Q 59 [vO 12 a0, vI x1, vI x2, vI x3, vI x4, vN, vI x6] [vI s0, vI s1] M G 0 0 := by
  refine q_ifeq 72 62 rfl (by decide) (show sCode 260 59 = some (.ifCond .eq 13, 3) by decide +kernel) ?_ ?_
  · intro q; exact k1 q
  · intro q; exact k2 q
theorem b260_62 {d : Nat} {Q : Option sV → sM → sG → Prop} {M : sM} {G : sG} {a0 : Nat} {x1 : Int} {x2 : Int} {x3 : Int} {x4 : Int} {x6 : Int} {s0 : Int} (h1 : 0 ≤ x6 ∧ x6 < 12) (kk : sW (sC d) 260 Q 73 [vO 12 a0, vI x1, vI x2, vI x3, vI x4, vN, vI x6] [vI (M (a0 + 19) x6.toNat), vI s0] M G 0 0) : sW (sC d) 260 Q 62 [vO 12 a0, vI x1, vI x2, vI x3, vI x4, vN, vI x6] [vI s0] M G 0 0 := by
  refine q_aload_n 63 rfl (show sCode 260 62 = some (.aload_n 0, 1) by decide +kernel) rfl (Nat.le_of_ble_eq_true rfl) ?_
  refine q_getR (vA 0 (a0 + 19) 12) 66 rfl (show sCode 260 63 = some (.getfield 66, 3) by decide +kernel) (show sFR (sKo 260).1 66 = some (12, 31) by decide +kernel) (by decide +kernel) (Or.inl (Or.inl rfl)) rfl ?_
  refine q_iload 68 rfl (show sCode 260 66 = some (.iload 6, 2) by decide +kernel) rfl ?_
  refine q_iald 69 rfl (show sCode 260 68 = some (.iaload, 1) by decide +kernel) h1 ?_
  refine q_goto 73 (by decide) (show sCode 260 69 = some (.goto 4, 3) by decide +kernel) ?_
  exact kk
theorem b260_72 {d : Nat} {Q : Option sV → sM → sG → Prop} {M : sM} {G : sG} {a0 : Nat} {x1 : Int} {x2 : Int} {x3 : Int} {x4 : Int} {x6 : Int} {s0 : Int}  (kk : sW (sC d) 260 Q 73 [vO 12 a0, vI x1, vI x2, vI x3, vI x4, vN, vI x6] [vI 0, vI s0] M G 0 0) : sW (sC d) 260 Q 72 [vO 12 a0, vI x1, vI x2, vI x3, vI x4, vN, vI x6] [vI s0] M G 0 0 := by
  refine q_iconst 73 rfl (show sCode 260 72 = some (.iconst 0, 1) by decide +kernel) ⟨by decide, by decide⟩ ?_
  exact kk
theorem b260_73 {d : Nat} {Q : Option sV → sM → sG → Prop} {M : sM} {G : sG} {a0 : Nat} {x1 : Int} {x2 : Int} {x3 : Int} {x4 : Int} {x6 : Int} {s0 : Int} {s1 : Int} (h1 : sI (x6 + 1)) (kk : sW (sC d) 260 Q 44 [vO 12 a0, vI x1, vI x2, vI x3, vI x4, vI (iOr s1 s0), vI (x6 + 1)] [] M G 0 0) : sW (sC d) 260 Q 73 [vO 12 a0, vI x1, vI x2, vI x3, vI x4, vN, vI x6] [vI s0, vI s1] M G 0 0 := by
  refine q_ior 74 rfl (show sCode 260 73 = some (.ior, 1) by decide +kernel) ?_
  refine q_istore [vO 12 a0, vI x1, vI x2, vI x3, vI x4, vI (iOr s1 s0), vI x6] 76 rfl (show sCode 260 74 = some (.istore 5, 2) by decide +kernel) (Nat.lt_of_lt_of_le (Nat.lt_succ_self _) (Nat.le_of_ble_eq_true rfl)) rfl rfl ?_
  refine q_iinc [vO 12 a0, vI x1, vI x2, vI x3, vI x4, vI (iOr s1 s0), vI (x6 + 1)] 79 rfl (show sCode 260 76 = some (.iinc 6 1, 3) by decide +kernel) rfl rfl h1 rfl ?_
  refine q_goto 44 (by decide) (show sCode 260 79 = some (.goto (-35), 3) by decide +kernel) ?_
  exact kk
theorem b260_82 {d : Nat} {Q : Option sV → sM → sG → Prop} {M : sM} {G : sG} {a0 : Nat} {x1 : Int} {x2 : Int} {x4 : Int} {x5 : Int} (h1 : sI (x4 + 1)) (kk : sW (sC d) 260 Q 12 [vO 12 a0, vI x1, vI x2, vI (iAnd x5 (iXor x2 (-1))), vI (x4 + 1), vN, vN] [] M G 0 0) : sW (sC d) 260 Q 82 [vO 12 a0, vI x1, vI x2, vN, vI x4, vI x5, vN] [] M G 0 0 := by
  refine q_iload 84 rfl (show sCode 260 82 = some (.iload 5, 2) by decide +kernel) rfl ?_
  refine q_iload_n 85 rfl (show sCode 260 84 = some (.iload_n 2, 1) by decide +kernel) rfl ?_
  refine q_iconst 86 rfl (show sCode 260 85 = some (.iconst (-1), 1) by decide +kernel) ⟨by decide, by decide⟩ ?_
  refine q_ixor 87 rfl (show sCode 260 86 = some (.ixor, 1) by decide +kernel) ?_
  refine q_iand 88 rfl (show sCode 260 87 = some (.iand, 1) by decide +kernel) ?_
  refine q_istore_n [vO 12 a0, vI x1, vI x2, vI (iAnd x5 (iXor x2 (-1))), vI x4, vI x5, vN] 89 rfl (show sCode 260 88 = some (.istore_n 3, 1) by decide +kernel) (Nat.lt_of_lt_of_le (Nat.lt_succ_self _) (Nat.le_of_ble_eq_true rfl)) rfl rfl ?_
  refine q_iinc [vO 12 a0, vI x1, vI x2, vI (iAnd x5 (iXor x2 (-1))), vI (x4 + 1), vI x5, vN] 92 rfl (show sCode 260 89 = some (.iinc 4 1, 3) by decide +kernel) rfl rfl h1 rfl ?_
  refine q_goto 12 (by decide) (show sCode 260 92 = some (.goto (-80), 3) by decide +kernel) ?_
  refine q_forget (L' := [vO 12 a0, vI x1, vI x2, vI (iAnd x5 (iXor x2 (-1))), vI (x4 + 1), vN, vN]) 5 rfl ?_
  exact kk
theorem b260_95 {d : Nat} {P : Int → sM → sG → Prop} {M : sM} {G : sG}   (kk : P 0 M G) : sW (sC d) 260 (QI P) 95 [vN, vN, vN, vN, vN, vN, vN] [] M G 0 0 := by
  refine q_iconst 96 rfl (show sCode 260 95 = some (.iconst 0, 1) by decide +kernel) ⟨by decide, by decide⟩ ?_
  exact q_iret (show sCode 260 96 = some (.ireturn, 1) by decide +kernel) (by decide +kernel) (by decide +kernel) kk
-- 261 AfterTheLastModel.worth (II)I
theorem b261_0 {d : Nat} {Q : Option sV → sM → sG → Prop} {M : sM} {G : sG} {a0 : Nat} {x1 : Int} {x2 : Int}  (kk : sC d 211 [vI x1] M G (QI (fun r M1 G1 => sW (sC d) 261 Q 4 [vO 12 a0, vI x1, vI x2, vN] (vI r :: []) M1 G1 0 0))) : sW (sC d) 261 Q 0 [vO 12 a0, vI x1, vI x2, vN] [] M G 0 0 := by
  refine q_iload_n 1 rfl (show sCode 261 0 = some (.iload_n 1, 1) by decide +kernel) rfl ?_
  exact q_statI [vI x1] 4 rfl (show sCode 261 1 = some (.invokestatic 305, 3) by decide +kernel) (show sMR (sKo 261).1 305 = some 211 by decide +kernel) (show 211 < 1000 ∧ sStat 211 = true ∧ sKo 211 = (12, 1, 2, 0, 0) by decide +kernel) rfl rfl (Nat.le_of_ble_eq_true rfl) rfl rfl rfl (by decide +kernel) kk
theorem b261_4 {d : Nat} {Q : Option sV → sM → sG → Prop} {M : sM} {G : sG} {a0 : Nat} {x1 : Int} {x2 : Int} {s0 : Int}  (k1 : s0 = 0 → sW (sC d) 261 Q 19 [vN, vN, vN, vN] [] M G 0 0) (k2 : s0 ≠ 0 → sW (sC d) 261 Q 7 [vO 12 a0, vI x1, vI x2, vN] [] M G 0 0) : sW (sC d) 261 Q 4 [vO 12 a0, vI x1, vI x2, vN] [vI s0] M G 0 0 := by
  refine q_ifeq 19 7 rfl (by decide) (show sCode 261 4 = some (.ifCond .eq 15, 3) by decide +kernel) ?_ ?_
  · intro q; refine q_forget (L' := [vN, vI x1, vI x2, vN]) 0 rfl ?_; refine q_forget (L' := [vN, vN, vI x2, vN]) 1 rfl ?_; refine q_forget (L' := [vN, vN, vN, vN]) 2 rfl ?_; exact k1 q
  · intro q; exact k2 q
theorem b261_7 {d : Nat} {Q : Option sV → sM → sG → Prop} {M : sM} {G : sG} {a0 : Nat} {x1 : Int} {x2 : Int}  (kk : sC d 183 [vL x2, vL 0, vL 99] M G (QI (fun r M1 G1 => sW (sC d) 261 Q 16 [vO 12 a0, vI x1, vI x2, vN] (vI r :: []) M1 G1 0 0))) : sW (sC d) 261 Q 7 [vO 12 a0, vI x1, vI x2, vN] [] M G 0 0 := by
  refine q_iload_n 8 rfl (show sCode 261 7 = some (.iload_n 2, 1) by decide +kernel) rfl ?_
  refine q_i2l 9 rfl (show sCode 261 8 = some (.i2l, 1) by decide +kernel) ?_
  refine q_lconst 10 rfl (show sCode 261 9 = some (.lconst 0, 1) by decide +kernel) ?_
  refine q_ldc2_w 13 rfl (show sCode 261 10 = some (.ldc2_w 418, 3) by decide +kernel) (show sLR (sKo 261).1 418 = some 99 by decide +kernel) ⟨by decide, by decide⟩ ?_
  exact q_statI [vL x2, vL 0, vL 99] 16 rfl (show sCode 261 13 = some (.invokestatic 127, 3) by decide +kernel) (show sMR (sKo 261).1 127 = some 183 by decide +kernel) (show 183 < 1000 ∧ sStat 183 = true ∧ sKo 183 = (12, 3, 2, 0, 0) by decide +kernel) rfl rfl (Nat.le_of_ble_eq_true rfl) rfl rfl rfl (by decide +kernel) kk
theorem b261_16 {d : Nat} {Q : Option sV → sM → sG → Prop} {M : sM} {G : sG} {a0 : Nat} {x1 : Int} {x2 : Int} {s0 : Int}  (k1 : s0 ≠ 0 → sW (sC d) 261 Q 21 [vO 12 a0, vI x1, vI x2, vN] [] M G 0 0) (k2 : s0 = 0 → sW (sC d) 261 Q 19 [vN, vN, vN, vN] [] M G 0 0) : sW (sC d) 261 Q 16 [vO 12 a0, vI x1, vI x2, vN] [vI s0] M G 0 0 := by
  refine q_ifne 21 19 rfl (by decide) (show sCode 261 16 = some (.ifCond .ne 5, 3) by decide +kernel) ?_ ?_
  · intro q; exact k1 q
  · intro q; refine q_forget (L' := [vN, vI x1, vI x2, vN]) 0 rfl ?_; refine q_forget (L' := [vN, vN, vI x2, vN]) 1 rfl ?_; refine q_forget (L' := [vN, vN, vN, vN]) 2 rfl ?_; exact k2 q
theorem b261_19 {d : Nat} {P : Int → sM → sG → Prop} {M : sM} {G : sG}   (kk : P (-1) M G) : sW (sC d) 261 (QI P) 19 [vN, vN, vN, vN] [] M G 0 0 := by
  refine q_iconst 20 rfl (show sCode 261 19 = some (.iconst (-1), 1) by decide +kernel) ⟨by decide, by decide⟩ ?_
  exact q_iret (show sCode 261 20 = some (.ireturn, 1) by decide +kernel) (by decide +kernel) (by decide +kernel) kk
theorem b261_21 {d : Nat} {Q : Option sV → sM → sG → Prop} {M : sM} {G : sG} {a0 : Nat} {x1 : Int} {x2 : Int}  (kk : sC d 206 [vO 12 a0, vI x1, vI 4] M G (QI (fun r M1 G1 => sW (sC d) 261 Q 27 [vO 12 a0, vI x1, vI x2, vN] (vI r :: []) M1 G1 0 0))) : sW (sC d) 261 Q 21 [vO 12 a0, vI x1, vI x2, vN] [] M G 0 0 := by
  refine q_aload_n 22 rfl (show sCode 261 21 = some (.aload_n 0, 1) by decide +kernel) rfl (Nat.le_of_ble_eq_true rfl) ?_
  refine q_iload_n 23 rfl (show sCode 261 22 = some (.iload_n 1, 1) by decide +kernel) rfl ?_
  refine q_iconst 24 rfl (show sCode 261 23 = some (.iconst 4, 1) by decide +kernel) ⟨by decide, by decide⟩ ?_
  exact q_virtI [vI x1, vI 4] 27 rfl (show sCode 261 24 = some (.invokevirtual 280, 3) by decide +kernel) (show sMR (sKo 261).1 280 = some 206 by decide +kernel) (show 206 < 1000 ∧ sStat 206 = false ∧ sIni 206 = false ∧ sKo 206 = (12, 2, 1, 0, 0) by decide +kernel) rfl (Or.inl rfl) rfl (Nat.le_of_ble_eq_true rfl) rfl rfl rfl (by decide +kernel) kk
theorem b261_27 {d : Nat} {P : Int → sM → sG → Prop} {M : sM} {G : sG} {a0 : Nat} {x1 : Int} {x2 : Int} {s0 : Int} (h1 : sI (5 * x1)) (h2 : sI (136 + (5 * x1))) (h3 : sI ((136 + (5 * x1)) + 4)) (h4 : 0 ≤ (136 + (5 * x1)) + 4 ∧ (136 + (5 * x1)) + 4 < 274) (kk : P s0 (sUpd M (a0 + 11) ((136 + (5 * x1)) + 4).toNat x2) G) : sW (sC d) 261 (QI P) 27 [vO 12 a0, vI x1, vI x2, vN] [vI s0] M G 0 0 := by
  refine q_istore_n [vO 12 a0, vI x1, vI x2, vI s0] 28 rfl (show sCode 261 27 = some (.istore_n 3, 1) by decide +kernel) (Nat.lt_of_lt_of_le (Nat.lt_succ_self _) (Nat.le_of_ble_eq_true rfl)) rfl rfl ?_
  refine q_aload_n 29 rfl (show sCode 261 28 = some (.aload_n 0, 1) by decide +kernel) rfl (Nat.le_of_ble_eq_true rfl) ?_
  refine q_getR (vA 0 (a0 + 11) 274) 32 rfl (show sCode 261 29 = some (.getfield 42, 3) by decide +kernel) (show sFR (sKo 261).1 42 = some (12, 23) by decide +kernel) (by decide +kernel) (Or.inl (Or.inl rfl)) rfl ?_
  refine q_sipush 35 rfl (show sCode 261 32 = some (.sipush 136, 3) by decide +kernel) ⟨by decide, by decide⟩ (by decide +kernel) ?_
  refine q_iconst 36 rfl (show sCode 261 35 = some (.iconst 5, 1) by decide +kernel) ⟨by decide, by decide⟩ ?_
  refine q_iload_n 37 rfl (show sCode 261 36 = some (.iload_n 1, 1) by decide +kernel) rfl ?_
  refine q_imul 38 rfl (show sCode 261 37 = some (.imul, 1) by decide +kernel) h1 ?_
  refine q_iadd 39 rfl (show sCode 261 38 = some (.iadd, 1) by decide +kernel) h2 ?_
  refine q_iconst 40 rfl (show sCode 261 39 = some (.iconst 4, 1) by decide +kernel) ⟨by decide, by decide⟩ ?_
  refine q_iadd 41 rfl (show sCode 261 40 = some (.iadd, 1) by decide +kernel) h3 ?_
  refine q_iload_n 42 rfl (show sCode 261 41 = some (.iload_n 2, 1) by decide +kernel) rfl ?_
  refine q_iast 43 rfl (show sCode 261 42 = some (.iastore, 1) by decide +kernel) h4 ?_
  refine q_iload_n 44 rfl (show sCode 261 43 = some (.iload_n 3, 1) by decide +kernel) rfl ?_
  exact q_iret (show sCode 261 44 = some (.ireturn, 1) by decide +kernel) (by decide +kernel) (by decide +kernel) kk
