/-! BLOCKS, by program. -/
-- 262 AfterTheLastModel.asks (I)I
theorem b262_0 {d : Nat} {Q : Option sV → sM → sG → Prop} {M : sM} {G : sG} {a0 : Nat} {x1 : Int}  (kk : sC d 203 [vO 12 a0, vI x1] M G (QI (fun r M1 G1 => sW (sC d) 262 Q 5 [vO 12 a0, vI x1, vN, vN] (vI r :: []) M1 G1 0 0))) : sW (sC d) 262 Q 0 [vO 12 a0, vI x1, vN, vN] [] M G 0 0 := by
  refine q_aload_n 1 rfl (show sCode 262 0 = some (.aload_n 0, 1) by decide +kernel) rfl (Nat.le_of_ble_eq_true rfl) ?_
  refine q_iload_n 2 rfl (show sCode 262 1 = some (.iload_n 1, 1) by decide +kernel) rfl ?_
  exact q_virtI [vI x1] 5 rfl (show sCode 262 2 = some (.invokevirtual 291, 3) by decide +kernel) (show sMR (sKo 262).1 291 = some 203 by decide +kernel) (show 203 < 1000 ∧ sStat 203 = false ∧ sIni 203 = false ∧ sKo 203 = (12, 1, 2, 0, 0) by decide +kernel) rfl (Or.inl rfl) rfl (Nat.le_of_ble_eq_true rfl) rfl rfl rfl (by decide +kernel) kk
theorem b262_5 {d : Nat} {Q : Option sV → sM → sG → Prop} {M : sM} {G : sG} {a0 : Nat} {x1 : Int} {s0 : Int}  (k1 : s0 ≠ 0 → sW (sC d) 262 Q 10 [vO 12 a0, vI x1, vN, vN] [] M G 0 0) (k2 : s0 = 0 → sW (sC d) 262 Q 8 [vN, vN, vN, vN] [] M G 0 0) : sW (sC d) 262 Q 5 [vO 12 a0, vI x1, vN, vN] [vI s0] M G 0 0 := by
  refine q_ifne 10 8 rfl (by decide) (show sCode 262 5 = some (.ifCond .ne 5, 3) by decide +kernel) ?_ ?_
  · intro q; exact k1 q
  · intro q; refine q_forget (L' := [vN, vI x1, vN, vN]) 0 rfl ?_; refine q_forget (L' := [vN, vN, vN, vN]) 1 rfl ?_; exact k2 q
theorem b262_8 {d : Nat} {P : Int → sM → sG → Prop} {M : sM} {G : sG}   (kk : P (-1) M G) : sW (sC d) 262 (QI P) 8 [vN, vN, vN, vN] [] M G 0 0 := by
  refine q_iconst 9 rfl (show sCode 262 8 = some (.iconst (-1), 1) by decide +kernel) ⟨by decide, by decide⟩ ?_
  exact q_iret (show sCode 262 9 = some (.ireturn, 1) by decide +kernel) (by decide +kernel) (by decide +kernel) kk
theorem b262_10 {d : Nat} {Q : Option sV → sM → sG → Prop} {M : sM} {G : sG} {a0 : Nat} {x1 : Int}  (kk : sC d 204 [vO 12 a0, vI x1, vI 0] M G (QI (fun r M1 G1 => sW (sC d) 262 Q 16 [vO 12 a0, vI x1, vN, vN] (vI r :: []) M1 G1 0 0))) : sW (sC d) 262 Q 10 [vO 12 a0, vI x1, vN, vN] [] M G 0 0 := by
  refine q_aload_n 11 rfl (show sCode 262 10 = some (.aload_n 0, 1) by decide +kernel) rfl (Nat.le_of_ble_eq_true rfl) ?_
  refine q_iload_n 12 rfl (show sCode 262 11 = some (.iload_n 1, 1) by decide +kernel) rfl ?_
  refine q_iconst 13 rfl (show sCode 262 12 = some (.iconst 0, 1) by decide +kernel) ⟨by decide, by decide⟩ ?_
  exact q_virtI [vI x1, vI 0] 16 rfl (show sCode 262 13 = some (.invokevirtual 284, 3) by decide +kernel) (show sMR (sKo 262).1 284 = some 204 by decide +kernel) (show 204 < 1000 ∧ sStat 204 = false ∧ sIni 204 = false ∧ sKo 204 = (12, 2, 1, 0, 0) by decide +kernel) rfl (Or.inl rfl) rfl (Nat.le_of_ble_eq_true rfl) rfl rfl rfl (by decide +kernel) kk
theorem b262_16 {d : Nat} {Q : Option sV → sM → sG → Prop} {M : sM} {G : sG} {a0 : Nat} {x1 : Int} {s0 : Int}  (k1 : s0 = 0 → sW (sC d) 262 Q 21 [vO 12 a0, vI x1, vN, vN] [] M G 0 0) (k2 : s0 ≠ 0 → sW (sC d) 262 Q 19 [vN, vN, vN, vN] [] M G 0 0) : sW (sC d) 262 Q 16 [vO 12 a0, vI x1, vN, vN] [vI s0] M G 0 0 := by
  refine q_ifeq 21 19 rfl (by decide) (show sCode 262 16 = some (.ifCond .eq 5, 3) by decide +kernel) ?_ ?_
  · intro q; exact k1 q
  · intro q; refine q_forget (L' := [vN, vI x1, vN, vN]) 0 rfl ?_; refine q_forget (L' := [vN, vN, vN, vN]) 1 rfl ?_; exact k2 q
theorem b262_19 {d : Nat} {P : Int → sM → sG → Prop} {M : sM} {G : sG}   (kk : P 0 M G) : sW (sC d) 262 (QI P) 19 [vN, vN, vN, vN] [] M G 0 0 := by
  refine q_iconst 20 rfl (show sCode 262 19 = some (.iconst 0, 1) by decide +kernel) ⟨by decide, by decide⟩ ?_
  exact q_iret (show sCode 262 20 = some (.ireturn, 1) by decide +kernel) (by decide +kernel) (by decide +kernel) kk
theorem b262_21 {d : Nat} {Q : Option sV → sM → sG → Prop} {M : sM} {G : sG} {a0 : Nat} {x1 : Int}  (kk : sW (sC d) 262 Q 25 [vO 12 a0, vI x1, vI 0, vI 0] [] M G 0 0) : sW (sC d) 262 Q 21 [vO 12 a0, vI x1, vN, vN] [] M G 0 0 := by
  refine q_iconst 22 rfl (show sCode 262 21 = some (.iconst 0, 1) by decide +kernel) ⟨by decide, by decide⟩ ?_
  refine q_istore_n [vO 12 a0, vI x1, vI 0, vN] 23 rfl (show sCode 262 22 = some (.istore_n 2, 1) by decide +kernel) (Nat.lt_of_lt_of_le (Nat.lt_succ_self _) (Nat.le_of_ble_eq_true rfl)) rfl rfl ?_
  refine q_iconst 24 rfl (show sCode 262 23 = some (.iconst 0, 1) by decide +kernel) ⟨by decide, by decide⟩ ?_
  refine q_istore_n [vO 12 a0, vI x1, vI 0, vI 0] 25 rfl (show sCode 262 24 = some (.istore_n 3, 1) by decide +kernel) (Nat.lt_of_lt_of_le (Nat.lt_succ_self _) (Nat.le_of_ble_eq_true rfl)) rfl rfl ?_
  exact kk
theorem b262_25 {d : Nat} {Q : Option sV → sM → sG → Prop} {M : sM} {G : sG} {a0 : Nat} {x1 : Int} {x2 : Int} {x3 : Int}  (k1 : 12 ≤ x3 → sW (sC d) 262 Q 69 [vN, vN, vI x2, vN] [] M G 0 0) (k2 : x3 < 12 → sW (sC d) 262 Q 31 [vO 12 a0, vI x1, vI x2, vI x3] [] M G 0 0) : sW (sC d) 262 Q 25 [vO 12 a0, vI x1, vI x2, vI x3] [] M G 0 0 := by
  refine q_iload_n 26 rfl (show sCode 262 25 = some (.iload_n 3, 1) by decide +kernel) rfl ?_
  refine q_bipush 28 rfl (show sCode 262 26 = some (.bipush 12, 2) by decide +kernel) ⟨by decide, by decide⟩ (by decide +kernel) ?_
  refine q_icmpge 69 31 rfl (by decide) (show sCode 262 28 = some (.if_icmp .ge 41, 3) by decide +kernel) ?_ ?_
  · intro q; refine q_forget (L' := [vN, vI x1, vI x2, vI x3]) 0 rfl ?_; refine q_forget (L' := [vN, vN, vI x2, vI x3]) 1 rfl ?_; refine q_forget (L' := [vN, vN, vI x2, vN]) 3 rfl ?_; exact k1 q
  · intro q; exact k2 q
theorem b262_31 {d : Nat} {Q : Option sV → sM → sG → Prop} {M : sM} {G : sG} {a0 : Nat} {x1 : Int} {x2 : Int} {x3 : Int}  (kk : sC d 206 [vO 12 a0, vI x3, vI 0] M G (QI (fun r M1 G1 => sW (sC d) 262 Q 38 [vO 12 a0, vI x1, vN, vI x3] (vI r :: [vI x2]) M1 G1 0 0))) : sW (sC d) 262 Q 31 [vO 12 a0, vI x1, vI x2, vI x3] [] M G 0 0 := by
  refine q_iload_n 32 rfl (show sCode 262 31 = some (.iload_n 2, 1) by decide +kernel) rfl ?_
  refine q_aload_n 33 rfl (show sCode 262 32 = some (.aload_n 0, 1) by decide +kernel) rfl (Nat.le_of_ble_eq_true rfl) ?_
  refine q_iload_n 34 rfl (show sCode 262 33 = some (.iload_n 3, 1) by decide +kernel) rfl ?_
  refine q_iconst 35 rfl (show sCode 262 34 = some (.iconst 0, 1) by decide +kernel) ⟨by decide, by decide⟩ ?_
  refine q_forget (L' := [vO 12 a0, vI x1, vN, vI x3]) 2 rfl ?_
  exact q_virtI [vI x3, vI 0] 38 rfl (show sCode 262 35 = some (.invokevirtual 280, 3) by decide +kernel) (show sMR (sKo 262).1 280 = some 206 by decide +kernel) (show 206 < 1000 ∧ sStat 206 = false ∧ sIni 206 = false ∧ sKo 206 = (12, 2, 1, 0, 0) by decide +kernel) rfl (Or.inl rfl) rfl (Nat.le_of_ble_eq_true rfl) rfl rfl rfl (by decide +kernel) kk
theorem b262_38 {d : Nat} {Q : Option sV → sM → sG → Prop} {M : sM} {G : sG} {a0 : Nat} {x1 : Int} {x3 : Int} {s0 : Int} {s1 : Int}  (k1 : s0 ≠ x1 → sW (sC d) 262 Q 60 [vO 12 a0, vI x1, vN, vI x3] [vI s1] M G 0 0) (k2 : s0 = x1 → sW (sC d) 262 Q 42 [vO 12 a0, vI x1, vN, vI x3] [vI s1] M G 0 0) : sW (sC d) 262 Q 38 [vO 12 a0, vI x1, vN, vI x3] [vI s0, vI s1] M G 0 0 := by
  refine q_iload_n 39 rfl (show sCode 262 38 = some (.iload_n 1, 1) by decide +kernel) rfl ?_
  refine q_icmpne 60 42 rfl (by decide) (show sCode 262 39 = some (.if_icmp .ne 21, 3) by decide +kernel) ?_ ?_
  · intro q; exact k1 q
  · intro q; exact k2 q
theorem b262_42 {d : Nat} {Q : Option sV → sM → sG → Prop} {M : sM} {G : sG} {a0 : Nat} {x1 : Int} {x3 : Int} {s0 : Int}  (kk : sC d 213 [vO 12 a0, vI x3, vI 1] M G (QI (fun r M1 G1 => sW (sC d) 262 Q 48 [vO 12 a0, vI x1, vN, vI x3] (vI r :: [vI s0]) M1 G1 0 0))) : sW (sC d) 262 Q 42 [vO 12 a0, vI x1, vN, vI x3] [vI s0] M G 0 0 := by
  refine q_aload_n 43 rfl (show sCode 262 42 = some (.aload_n 0, 1) by decide +kernel) rfl (Nat.le_of_ble_eq_true rfl) ?_
  refine q_iload_n 44 rfl (show sCode 262 43 = some (.iload_n 3, 1) by decide +kernel) rfl ?_
  refine q_iconst 45 rfl (show sCode 262 44 = some (.iconst 1, 1) by decide +kernel) ⟨by decide, by decide⟩ ?_
  exact q_virtI [vI x3, vI 1] 48 rfl (show sCode 262 45 = some (.invokevirtual 287, 3) by decide +kernel) (show sMR (sKo 262).1 287 = some 213 by decide +kernel) (show 213 < 1000 ∧ sStat 213 = false ∧ sIni 213 = false ∧ sKo 213 = (12, 2, 1, 0, 0) by decide +kernel) rfl (Or.inl rfl) rfl (Nat.le_of_ble_eq_true rfl) rfl rfl rfl (by decide +kernel) kk
theorem b262_48 {d : Nat} {Q : Option sV → sM → sG → Prop} {M : sM} {G : sG} {a0 : Nat} {x1 : Int} {x3 : Int} {s0 : Int} {s1 : Int}  (k1 : s0 ≤ 0 → sW (sC d) 262 Q 60 [vO 12 a0, vI x1, vN, vI x3] [vI s1] M G 0 0) (k2 : 0 < s0 → sW (sC d) 262 Q 51 [vO 12 a0, vI x1, vN, vI x3] [vI s1] M G 0 0) : sW (sC d) 262 Q 48 [vO 12 a0, vI x1, vN, vI x3] [vI s0, vI s1] M G 0 0 := by
  refine q_ifle 60 51 rfl (by decide) (show sCode 262 48 = some (.ifCond .le 12, 3) by decide +kernel) ?_ ?_
  · intro q; exact k1 q
  · intro q; exact k2 q
theorem b262_51 {d : Nat} {Q : Option sV → sM → sG → Prop} {M : sM} {G : sG} {a0 : Nat} {x1 : Int} {x3 : Int} {s0 : Int}  (kk : sC d 206 [vO 12 a0, vI x3, vI 4] M G (QI (fun r M1 G1 => sW (sC d) 262 Q 57 [vO 12 a0, vI x1, vN, vI x3] (vI r :: [vI s0]) M1 G1 0 0))) : sW (sC d) 262 Q 51 [vO 12 a0, vI x1, vN, vI x3] [vI s0] M G 0 0 := by
  refine q_aload_n 52 rfl (show sCode 262 51 = some (.aload_n 0, 1) by decide +kernel) rfl (Nat.le_of_ble_eq_true rfl) ?_
  refine q_iload_n 53 rfl (show sCode 262 52 = some (.iload_n 3, 1) by decide +kernel) rfl ?_
  refine q_iconst 54 rfl (show sCode 262 53 = some (.iconst 4, 1) by decide +kernel) ⟨by decide, by decide⟩ ?_
  exact q_virtI [vI x3, vI 4] 57 rfl (show sCode 262 54 = some (.invokevirtual 280, 3) by decide +kernel) (show sMR (sKo 262).1 280 = some 206 by decide +kernel) (show 206 < 1000 ∧ sStat 206 = false ∧ sIni 206 = false ∧ sKo 206 = (12, 2, 1, 0, 0) by decide +kernel) rfl (Or.inl rfl) rfl (Nat.le_of_ble_eq_true rfl) rfl rfl rfl (by decide +kernel) kk
theorem b262_57 {d : Nat} {Q : Option sV → sM → sG → Prop} {M : sM} {G : sG} {a0 : Nat} {x1 : Int} {x3 : Int} {s0 : Int} {s1 : Int}  (kk : sW (sC d) 262 Q 61 [vO 12 a0, vI x1, vN, vI x3] [vI s0, vI s1] M G 0 0) : sW (sC d) 262 Q 57 [vO 12 a0, vI x1, vN, vI x3] [vI s0, vI s1] M G 0 0 := by
  refine q_goto 61 (by decide) (show sCode 262 57 = some (.goto 4, 3) by decide +kernel) ?_
  exact kk
theorem b262_60 {d : Nat} {Q : Option sV → sM → sG → Prop} {M : sM} {G : sG} {a0 : Nat} {x1 : Int} {x3 : Int} {s0 : Int}  (kk : sW (sC d) 262 Q 61 [vO 12 a0, vI x1, vN, vI x3] [vI 0, vI s0] M G 0 0) : sW (sC d) 262 Q 60 [vO 12 a0, vI x1, vN, vI x3] [vI s0] M G 0 0 := by
  refine q_iconst 61 rfl (show sCode 262 60 = some (.iconst 0, 1) by decide +kernel) ⟨by decide, by decide⟩ ?_
  exact kk
theorem b262_61 {d : Nat} {Q : Option sV → sM → sG → Prop} {M : sM} {G : sG} {a0 : Nat} {x1 : Int} {x3 : Int} {s0 : Int} {s1 : Int} (h1 : sI (s1 + s0)) (h2 : sI (x3 + 1)) (kk : sW (sC d) 262 Q 25 [vO 12 a0, vI x1, vI (s1 + s0), vI (x3 + 1)] [] M G 0 0) : sW (sC d) 262 Q 61 [vO 12 a0, vI x1, vN, vI x3] [vI s0, vI s1] M G 0 0 := by
  refine q_iadd 62 rfl (show sCode 262 61 = some (.iadd, 1) by decide +kernel) h1 ?_
  refine q_istore_n [vO 12 a0, vI x1, vI (s1 + s0), vI x3] 63 rfl (show sCode 262 62 = some (.istore_n 2, 1) by decide +kernel) (Nat.lt_of_lt_of_le (Nat.lt_succ_self _) (Nat.le_of_ble_eq_true rfl)) rfl rfl ?_
  refine q_iinc [vO 12 a0, vI x1, vI (s1 + s0), vI (x3 + 1)] 66 rfl (show sCode 262 63 = some (.iinc 3 1, 3) by decide +kernel) rfl rfl h2 rfl ?_
  refine q_goto 25 (by decide) (show sCode 262 66 = some (.goto (-41), 3) by decide +kernel) ?_
  exact kk
theorem b262_69 {d : Nat} {P : Int → sM → sG → Prop} {M : sM} {G : sG} {x2 : Int}  (kk : P x2 M G) : sW (sC d) 262 (QI P) 69 [vN, vN, vI x2, vN] [] M G 0 0 := by
  refine q_iload_n 70 rfl (show sCode 262 69 = some (.iload_n 2, 1) by decide +kernel) rfl ?_
  exact q_iret (show sCode 262 70 = some (.ireturn, 1) by decide +kernel) (by decide +kernel) (by decide +kernel) kk
-- 263 AfterTheLastModel.went (I)I
theorem b263_0 {d : Nat} {Q : Option sV → sM → sG → Prop} {M : sM} {G : sG} {a0 : Nat} {x1 : Int}  (k1 : x1 ≠ (-1) → sW (sC d) 263 Q 15 [vO 12 a0, vI x1] [] M G 0 0) (k2 : x1 = (-1) → sW (sC d) 263 Q 5 [vO 12 a0, vN] [] M G 0 0) : sW (sC d) 263 Q 0 [vO 12 a0, vI x1] [] M G 0 0 := by
  refine q_iload_n 1 rfl (show sCode 263 0 = some (.iload_n 1, 1) by decide +kernel) rfl ?_
  refine q_iconst 2 rfl (show sCode 263 1 = some (.iconst (-1), 1) by decide +kernel) ⟨by decide, by decide⟩ ?_
  refine q_icmpne 15 5 rfl (by decide) (show sCode 263 2 = some (.if_icmp .ne 13, 3) by decide +kernel) ?_ ?_
  · intro q; exact k1 q
  · intro q; refine q_forget (L' := [vO 12 a0, vN]) 1 rfl ?_; exact k2 q
theorem b263_5 {d : Nat} {P : Int → sM → sG → Prop} {M : sM} {G : sG} {a0 : Nat}  (kk : P 0 (sUpd M (a0 + 11) 6 0) G) : sW (sC d) 263 (QI P) 5 [vO 12 a0, vN] [] M G 0 0 := by
  refine q_aload_n 6 rfl (show sCode 263 5 = some (.aload_n 0, 1) by decide +kernel) rfl (Nat.le_of_ble_eq_true rfl) ?_
  refine q_getR (vA 0 (a0 + 11) 274) 9 rfl (show sCode 263 6 = some (.getfield 42, 3) by decide +kernel) (show sFR (sKo 263).1 42 = some (12, 23) by decide +kernel) (by decide +kernel) (Or.inl (Or.inl rfl)) rfl ?_
  refine q_bipush 11 rfl (show sCode 263 9 = some (.bipush 6, 2) by decide +kernel) ⟨by decide, by decide⟩ (by decide +kernel) ?_
  refine q_iconst 12 rfl (show sCode 263 11 = some (.iconst 0, 1) by decide +kernel) ⟨by decide, by decide⟩ ?_
  refine q_iast 13 rfl (show sCode 263 12 = some (.iastore, 1) by decide +kernel) ⟨by decide, by decide⟩ ?_
  refine q_iconst 14 rfl (show sCode 263 13 = some (.iconst 0, 1) by decide +kernel) ⟨by decide, by decide⟩ ?_
  exact q_iret (show sCode 263 14 = some (.ireturn, 1) by decide +kernel) (by decide +kernel) (by decide +kernel) kk
theorem b263_15 {d : Nat} {Q : Option sV → sM → sG → Prop} {M : sM} {G : sG} {a0 : Nat} {x1 : Int}  (kk : sC d 211 [vI x1] M G (QI (fun r M1 G1 => sW (sC d) 263 Q 19 [vO 12 a0, vI x1] (vI r :: []) M1 G1 0 0))) : sW (sC d) 263 Q 15 [vO 12 a0, vI x1] [] M G 0 0 := by
  refine q_iload_n 16 rfl (show sCode 263 15 = some (.iload_n 1, 1) by decide +kernel) rfl ?_
  exact q_statI [vI x1] 19 rfl (show sCode 263 16 = some (.invokestatic 305, 3) by decide +kernel) (show sMR (sKo 263).1 305 = some 211 by decide +kernel) (show 211 < 1000 ∧ sStat 211 = true ∧ sKo 211 = (12, 1, 2, 0, 0) by decide +kernel) rfl rfl (Nat.le_of_ble_eq_true rfl) rfl rfl rfl (by decide +kernel) kk
theorem b263_19 {d : Nat} {Q : Option sV → sM → sG → Prop} {M : sM} {G : sG} {a0 : Nat} {x1 : Int} {s0 : Int}  (k1 : s0 = 0 → sW (sC d) 263 Q 53 [vN, vN] [] M G 0 0) (k2 : s0 ≠ 0 → sW (sC d) 263 Q 22 [vO 12 a0, vI x1] [] M G 0 0) : sW (sC d) 263 Q 19 [vO 12 a0, vI x1] [vI s0] M G 0 0 := by
  refine q_ifeq 53 22 rfl (by decide) (show sCode 263 19 = some (.ifCond .eq 34, 3) by decide +kernel) ?_ ?_
  · intro q; refine q_forget (L' := [vN, vI x1]) 0 rfl ?_; refine q_forget (L' := [vN, vN]) 1 rfl ?_; exact k1 q
  · intro q; exact k2 q
theorem b263_22 {d : Nat} {Q : Option sV → sM → sG → Prop} {M : sM} {G : sG} {a0 : Nat} {x1 : Int}  (k1 : M (a0 + 11) 6 = 8 → sW (sC d) 263 Q 53 [vN, vN] [] M G 0 0) (k2 : M (a0 + 11) 6 ≠ 8 → sW (sC d) 263 Q 34 [vO 12 a0, vI x1] [] M G 0 0) : sW (sC d) 263 Q 22 [vO 12 a0, vI x1] [] M G 0 0 := by
  refine q_aload_n 23 rfl (show sCode 263 22 = some (.aload_n 0, 1) by decide +kernel) rfl (Nat.le_of_ble_eq_true rfl) ?_
  refine q_getR (vA 0 (a0 + 11) 274) 26 rfl (show sCode 263 23 = some (.getfield 42, 3) by decide +kernel) (show sFR (sKo 263).1 42 = some (12, 23) by decide +kernel) (by decide +kernel) (Or.inl (Or.inl rfl)) rfl ?_
  refine q_bipush 28 rfl (show sCode 263 26 = some (.bipush 6, 2) by decide +kernel) ⟨by decide, by decide⟩ (by decide +kernel) ?_
  refine q_iald 29 rfl (show sCode 263 28 = some (.iaload, 1) by decide +kernel) ⟨by decide, by decide⟩ ?_
  refine q_bipush 31 rfl (show sCode 263 29 = some (.bipush 8, 2) by decide +kernel) ⟨by decide, by decide⟩ (by decide +kernel) ?_
  refine q_icmpeq 53 34 rfl (by decide) (show sCode 263 31 = some (.if_icmp .eq 22, 3) by decide +kernel) ?_ ?_
  · intro q; refine q_forget (L' := [vN, vI x1]) 0 rfl ?_; refine q_forget (L' := [vN, vN]) 1 rfl ?_; exact k1 q
  · intro q; exact k2 q
theorem b263_34 {d : Nat} {Q : Option sV → sM → sG → Prop} {M : sM} {G : sG} {a0 : Nat} {x1 : Int}  (kk : sC d 264 [vO 12 a0, vI 226, vI (M (a0 + 11) 6), vI 1, vI x1] M G (QI (fun r M1 G1 => sW (sC d) 263 Q 50 [vO 12 a0, vI x1] (vI r :: []) M1 G1 0 0))) : sW (sC d) 263 Q 34 [vO 12 a0, vI x1] [] M G 0 0 := by
  refine q_aload_n 35 rfl (show sCode 263 34 = some (.aload_n 0, 1) by decide +kernel) rfl (Nat.le_of_ble_eq_true rfl) ?_
  refine q_sipush 38 rfl (show sCode 263 35 = some (.sipush 226, 3) by decide +kernel) ⟨by decide, by decide⟩ (by decide +kernel) ?_
  refine q_aload_n 39 rfl (show sCode 263 38 = some (.aload_n 0, 1) by decide +kernel) rfl (Nat.le_of_ble_eq_true rfl) ?_
  refine q_getR (vA 0 (a0 + 11) 274) 42 rfl (show sCode 263 39 = some (.getfield 42, 3) by decide +kernel) (show sFR (sKo 263).1 42 = some (12, 23) by decide +kernel) (by decide +kernel) (Or.inl (Or.inl rfl)) rfl ?_
  refine q_bipush 44 rfl (show sCode 263 42 = some (.bipush 6, 2) by decide +kernel) ⟨by decide, by decide⟩ (by decide +kernel) ?_
  refine q_iald 45 rfl (show sCode 263 44 = some (.iaload, 1) by decide +kernel) ⟨by decide, by decide⟩ ?_
  refine q_iconst 46 rfl (show sCode 263 45 = some (.iconst 1, 1) by decide +kernel) ⟨by decide, by decide⟩ ?_
  refine q_iload_n 47 rfl (show sCode 263 46 = some (.iload_n 1, 1) by decide +kernel) rfl ?_
  exact q_virtI [vI 226, vI (M (a0 + 11) 6), vI 1, vI x1] 50 rfl (show sCode 263 47 = some (.invokevirtual 420, 3) by decide +kernel) (show sMR (sKo 263).1 420 = some 264 by decide +kernel) (show 264 < 1000 ∧ sStat 264 = false ∧ sIni 264 = false ∧ sKo 264 = (12, 4, 2, 0, 0) by decide +kernel) rfl (Or.inl rfl) rfl (Nat.le_of_ble_eq_true rfl) rfl rfl rfl (by decide +kernel) kk
theorem b263_50 {d : Nat} {Q : Option sV → sM → sG → Prop} {M : sM} {G : sG} {a0 : Nat} {x1 : Int} {s0 : Int}  (k1 : s0 = 0 → sW (sC d) 263 Q 56 [vO 12 a0, vI x1] [] M G 0 0) (k2 : s0 ≠ 0 → sW (sC d) 263 Q 53 [vN, vN] [] M G 0 0) : sW (sC d) 263 Q 50 [vO 12 a0, vI x1] [vI s0] M G 0 0 := by
  refine q_ifeq 56 53 rfl (by decide) (show sCode 263 50 = some (.ifCond .eq 6, 3) by decide +kernel) ?_ ?_
  · intro q; exact k1 q
  · intro q; refine q_forget (L' := [vN, vI x1]) 0 rfl ?_; refine q_forget (L' := [vN, vN]) 1 rfl ?_; exact k2 q
theorem b263_53 {d : Nat} {P : Int → sM → sG → Prop} {M : sM} {G : sG}   (kk : P (-2) M G) : sW (sC d) 263 (QI P) 53 [vN, vN] [] M G 0 0 := by
  refine q_bipush 55 rfl (show sCode 263 53 = some (.bipush (-2), 2) by decide +kernel) ⟨by decide, by decide⟩ (by decide +kernel) ?_
  exact q_iret (show sCode 263 55 = some (.ireturn, 1) by decide +kernel) (by decide +kernel) (by decide +kernel) kk
theorem b263_56 {d : Nat} {P : Int → sM → sG → Prop} {M : sM} {G : sG} {a0 : Nat} {x1 : Int} (h1 : sI (226 + (M (a0 + 11) 6))) (h2 : 0 ≤ 226 + (M (a0 + 11) 6) ∧ 226 + (M (a0 + 11) 6) < 274) (h3 : sI (((sUpd M (a0 + 11) (226 + (M (a0 + 11) 6)).toNat x1) (a0 + 11) 6) + 1)) (kk : P ((sUpd (sUpd M (a0 + 11) (226 + (M (a0 + 11) 6)).toNat x1) (a0 + 11) 6 (((sUpd M (a0 + 11) (226 + (M (a0 + 11) 6)).toNat x1) (a0 + 11) 6) + 1)) (a0 + 11) 6) (sUpd (sUpd M (a0 + 11) (226 + (M (a0 + 11) 6)).toNat x1) (a0 + 11) 6 (((sUpd M (a0 + 11) (226 + (M (a0 + 11) 6)).toNat x1) (a0 + 11) 6) + 1)) G) : sW (sC d) 263 (QI P) 56 [vO 12 a0, vI x1] [] M G 0 0 := by
  refine q_aload_n 57 rfl (show sCode 263 56 = some (.aload_n 0, 1) by decide +kernel) rfl (Nat.le_of_ble_eq_true rfl) ?_
  refine q_getR (vA 0 (a0 + 11) 274) 60 rfl (show sCode 263 57 = some (.getfield 42, 3) by decide +kernel) (show sFR (sKo 263).1 42 = some (12, 23) by decide +kernel) (by decide +kernel) (Or.inl (Or.inl rfl)) rfl ?_
  refine q_sipush 63 rfl (show sCode 263 60 = some (.sipush 226, 3) by decide +kernel) ⟨by decide, by decide⟩ (by decide +kernel) ?_
  refine q_aload_n 64 rfl (show sCode 263 63 = some (.aload_n 0, 1) by decide +kernel) rfl (Nat.le_of_ble_eq_true rfl) ?_
  refine q_getR (vA 0 (a0 + 11) 274) 67 rfl (show sCode 263 64 = some (.getfield 42, 3) by decide +kernel) (show sFR (sKo 263).1 42 = some (12, 23) by decide +kernel) (by decide +kernel) (Or.inl (Or.inl rfl)) rfl ?_
  refine q_bipush 69 rfl (show sCode 263 67 = some (.bipush 6, 2) by decide +kernel) ⟨by decide, by decide⟩ (by decide +kernel) ?_
  refine q_iald 70 rfl (show sCode 263 69 = some (.iaload, 1) by decide +kernel) ⟨by decide, by decide⟩ ?_
  refine q_iadd 71 rfl (show sCode 263 70 = some (.iadd, 1) by decide +kernel) h1 ?_
  refine q_iload_n 72 rfl (show sCode 263 71 = some (.iload_n 1, 1) by decide +kernel) rfl ?_
  refine q_iast 73 rfl (show sCode 263 72 = some (.iastore, 1) by decide +kernel) h2 ?_
  refine q_aload_n 74 rfl (show sCode 263 73 = some (.aload_n 0, 1) by decide +kernel) rfl (Nat.le_of_ble_eq_true rfl) ?_
  refine q_getR (vA 0 (a0 + 11) 274) 77 rfl (show sCode 263 74 = some (.getfield 42, 3) by decide +kernel) (show sFR (sKo 263).1 42 = some (12, 23) by decide +kernel) (by decide +kernel) (Or.inl (Or.inl rfl)) rfl ?_
  refine q_bipush 79 rfl (show sCode 263 77 = some (.bipush 6, 2) by decide +kernel) ⟨by decide, by decide⟩ (by decide +kernel) ?_
  refine q_dup2 80 rfl (show sCode 263 79 = some (.dup2, 1) by decide +kernel) rfl rfl ?_
  refine q_iald 81 rfl (show sCode 263 80 = some (.iaload, 1) by decide +kernel) ⟨by decide, by decide⟩ ?_
  refine q_iconst 82 rfl (show sCode 263 81 = some (.iconst 1, 1) by decide +kernel) ⟨by decide, by decide⟩ ?_
  refine q_iadd 83 rfl (show sCode 263 82 = some (.iadd, 1) by decide +kernel) h3 ?_
  refine q_iast 84 rfl (show sCode 263 83 = some (.iastore, 1) by decide +kernel) ⟨by decide, by decide⟩ ?_
  refine q_aload_n 85 rfl (show sCode 263 84 = some (.aload_n 0, 1) by decide +kernel) rfl (Nat.le_of_ble_eq_true rfl) ?_
  refine q_getR (vA 0 (a0 + 11) 274) 88 rfl (show sCode 263 85 = some (.getfield 42, 3) by decide +kernel) (show sFR (sKo 263).1 42 = some (12, 23) by decide +kernel) (by decide +kernel) (Or.inl (Or.inl rfl)) rfl ?_
  refine q_bipush 90 rfl (show sCode 263 88 = some (.bipush 6, 2) by decide +kernel) ⟨by decide, by decide⟩ (by decide +kernel) ?_
  refine q_iald 91 rfl (show sCode 263 90 = some (.iaload, 1) by decide +kernel) ⟨by decide, by decide⟩ ?_
  exact q_iret (show sCode 263 91 = some (.ireturn, 1) by decide +kernel) (by decide +kernel) (by decide +kernel) kk
-- 264 AfterTheLastModel.isIn (IIII)Z
theorem b264_0 {d : Nat} {Q : Option sV → sM → sG → Prop} {M : sM} {G : sG} {a0 : Nat} {x1 : Int} {x2 : Int} {x3 : Int} {x4 : Int}  (kk : sW (sC d) 264 Q 3 [vO 12 a0, vI x1, vI x2, vI x3, vI x4, vI 0] [] M G 0 0) : sW (sC d) 264 Q 0 [vO 12 a0, vI x1, vI x2, vI x3, vI x4, vN] [] M G 0 0 := by
  refine q_iconst 1 rfl (show sCode 264 0 = some (.iconst 0, 1) by decide +kernel) ⟨by decide, by decide⟩ ?_
  refine q_istore [vO 12 a0, vI x1, vI x2, vI x3, vI x4, vI 0] 3 rfl (show sCode 264 1 = some (.istore 5, 2) by decide +kernel) (Nat.lt_of_lt_of_le (Nat.lt_succ_self _) (Nat.le_of_ble_eq_true rfl)) rfl rfl ?_
  exact kk
theorem b264_3 {d : Nat} {Q : Option sV → sM → sG → Prop} {M : sM} {G : sG} {a0 : Nat} {x1 : Int} {x2 : Int} {x3 : Int} {x4 : Int} {x5 : Int}  (k1 : x2 ≤ x5 → sW (sC d) 264 Q 33 [vN, vN, vN, vN, vN, vN] [] M G 0 0) (k2 : x5 < x2 → sW (sC d) 264 Q 9 [vO 12 a0, vI x1, vI x2, vI x3, vI x4, vI x5] [] M G 0 0) : sW (sC d) 264 Q 3 [vO 12 a0, vI x1, vI x2, vI x3, vI x4, vI x5] [] M G 0 0 := by
  refine q_iload 5 rfl (show sCode 264 3 = some (.iload 5, 2) by decide +kernel) rfl ?_
  refine q_iload_n 6 rfl (show sCode 264 5 = some (.iload_n 2, 1) by decide +kernel) rfl ?_
  refine q_icmpge 33 9 rfl (by decide) (show sCode 264 6 = some (.if_icmp .ge 27, 3) by decide +kernel) ?_ ?_
  · intro q; refine q_forget (L' := [vN, vI x1, vI x2, vI x3, vI x4, vI x5]) 0 rfl ?_; refine q_forget (L' := [vN, vN, vI x2, vI x3, vI x4, vI x5]) 1 rfl ?_; refine q_forget (L' := [vN, vN, vN, vI x3, vI x4, vI x5]) 2 rfl ?_; refine q_forget (L' := [vN, vN, vN, vN, vI x4, vI x5]) 3 rfl ?_; refine q_forget (L' := [vN, vN, vN, vN, vN, vI x5]) 4 rfl ?_; refine q_forget (L' := [vN, vN, vN, vN, vN, vN]) 5 rfl ?_; exact k1 q
  · intro q; exact k2 q
theorem b264_9 {d : Nat} {Q : Option sV → sM → sG → Prop} {M : sM} {G : sG} {a0 : Nat} {x1 : Int} {x2 : Int} {x3 : Int} {x4 : Int} {x5 : Int} (h1 : sI (x3 * x5)) (h2 : sI (x1 + (x3 * x5))) (h3 : 0 ≤ x1 + (x3 * x5) ∧ x1 + (x3 * x5) < 274) (k1 : M (a0 + 11) (x1 + (x3 * x5)).toNat ≠ x4 → sW (sC d) 264 Q 27 [vO 12 a0, vI x1, vI x2, vI x3, vI x4, vI x5] [] M G 0 0) (k2 : M (a0 + 11) (x1 + (x3 * x5)).toNat = x4 → sW (sC d) 264 Q 25 [vN, vN, vN, vN, vN, vN] [] M G 0 0) : sW (sC d) 264 Q 9 [vO 12 a0, vI x1, vI x2, vI x3, vI x4, vI x5] [] M G 0 0 := by
  refine q_aload_n 10 rfl (show sCode 264 9 = some (.aload_n 0, 1) by decide +kernel) rfl (Nat.le_of_ble_eq_true rfl) ?_
  refine q_getR (vA 0 (a0 + 11) 274) 13 rfl (show sCode 264 10 = some (.getfield 42, 3) by decide +kernel) (show sFR (sKo 264).1 42 = some (12, 23) by decide +kernel) (by decide +kernel) (Or.inl (Or.inl rfl)) rfl ?_
  refine q_iload_n 14 rfl (show sCode 264 13 = some (.iload_n 1, 1) by decide +kernel) rfl ?_
  refine q_iload_n 15 rfl (show sCode 264 14 = some (.iload_n 3, 1) by decide +kernel) rfl ?_
  refine q_iload 17 rfl (show sCode 264 15 = some (.iload 5, 2) by decide +kernel) rfl ?_
  refine q_imul 18 rfl (show sCode 264 17 = some (.imul, 1) by decide +kernel) h1 ?_
  refine q_iadd 19 rfl (show sCode 264 18 = some (.iadd, 1) by decide +kernel) h2 ?_
  refine q_iald 20 rfl (show sCode 264 19 = some (.iaload, 1) by decide +kernel) h3 ?_
  refine q_iload 22 rfl (show sCode 264 20 = some (.iload 4, 2) by decide +kernel) rfl ?_
  refine q_icmpne 27 25 rfl (by decide) (show sCode 264 22 = some (.if_icmp .ne 5, 3) by decide +kernel) ?_ ?_
  · intro q; exact k1 q
  · intro q; refine q_forget (L' := [vN, vI x1, vI x2, vI x3, vI x4, vI x5]) 0 rfl ?_; refine q_forget (L' := [vN, vN, vI x2, vI x3, vI x4, vI x5]) 1 rfl ?_; refine q_forget (L' := [vN, vN, vN, vI x3, vI x4, vI x5]) 2 rfl ?_; refine q_forget (L' := [vN, vN, vN, vN, vI x4, vI x5]) 3 rfl ?_; refine q_forget (L' := [vN, vN, vN, vN, vN, vI x5]) 4 rfl ?_; refine q_forget (L' := [vN, vN, vN, vN, vN, vN]) 5 rfl ?_; exact k2 q
theorem b264_25 {d : Nat} {P : Int → sM → sG → Prop} {M : sM} {G : sG}   (kk : P 1 M G) : sW (sC d) 264 (QI P) 25 [vN, vN, vN, vN, vN, vN] [] M G 0 0 := by
  refine q_iconst 26 rfl (show sCode 264 25 = some (.iconst 1, 1) by decide +kernel) ⟨by decide, by decide⟩ ?_
  exact q_zret (show sCode 264 26 = some (.ireturn, 1) by decide +kernel) (by decide +kernel) (by decide) (by decide +kernel) kk
theorem b264_27 {d : Nat} {Q : Option sV → sM → sG → Prop} {M : sM} {G : sG} {a0 : Nat} {x1 : Int} {x2 : Int} {x3 : Int} {x4 : Int} {x5 : Int} (h1 : sI (x5 + 1)) (kk : sW (sC d) 264 Q 3 [vO 12 a0, vI x1, vI x2, vI x3, vI x4, vI (x5 + 1)] [] M G 0 0) : sW (sC d) 264 Q 27 [vO 12 a0, vI x1, vI x2, vI x3, vI x4, vI x5] [] M G 0 0 := by
  refine q_iinc [vO 12 a0, vI x1, vI x2, vI x3, vI x4, vI (x5 + 1)] 30 rfl (show sCode 264 27 = some (.iinc 5 1, 3) by decide +kernel) rfl rfl h1 rfl ?_
  refine q_goto 3 (by decide) (show sCode 264 30 = some (.goto (-27), 3) by decide +kernel) ?_
  exact kk
theorem b264_33 {d : Nat} {P : Int → sM → sG → Prop} {M : sM} {G : sG}   (kk : P 0 M G) : sW (sC d) 264 (QI P) 33 [vN, vN, vN, vN, vN, vN] [] M G 0 0 := by
  refine q_iconst 34 rfl (show sCode 264 33 = some (.iconst 0, 1) by decide +kernel) ⟨by decide, by decide⟩ ?_
  exact q_zret (show sCode 264 34 = some (.ireturn, 1) by decide +kernel) (by decide +kernel) (by decide) (by decide +kernel) kk
-- 265 AfterTheLastModel.before (II)I
theorem b265_0 {d : Nat} {Q : Option sV → sM → sG → Prop} {M : sM} {G : sG} {a0 : Nat} {x1 : Int} {x2 : Int}  (k1 : x1 ≠ (-1) → sW (sC d) 265 Q 15 [vO 12 a0, vI x1, vI x2] [] M G 0 0) (k2 : x1 = (-1) → sW (sC d) 265 Q 5 [vO 12 a0, vN, vN] [] M G 0 0) : sW (sC d) 265 Q 0 [vO 12 a0, vI x1, vI x2] [] M G 0 0 := by
  refine q_iload_n 1 rfl (show sCode 265 0 = some (.iload_n 1, 1) by decide +kernel) rfl ?_
  refine q_iconst 2 rfl (show sCode 265 1 = some (.iconst (-1), 1) by decide +kernel) ⟨by decide, by decide⟩ ?_
  refine q_icmpne 15 5 rfl (by decide) (show sCode 265 2 = some (.if_icmp .ne 13, 3) by decide +kernel) ?_ ?_
  · intro q; exact k1 q
  · intro q; refine q_forget (L' := [vO 12 a0, vN, vI x2]) 1 rfl ?_; refine q_forget (L' := [vO 12 a0, vN, vN]) 2 rfl ?_; exact k2 q
theorem b265_5 {d : Nat} {P : Int → sM → sG → Prop} {M : sM} {G : sG} {a0 : Nat}  (kk : P 0 (sUpd M (a0 + 11) 7 0) G) : sW (sC d) 265 (QI P) 5 [vO 12 a0, vN, vN] [] M G 0 0 := by
  refine q_aload_n 6 rfl (show sCode 265 5 = some (.aload_n 0, 1) by decide +kernel) rfl (Nat.le_of_ble_eq_true rfl) ?_
  refine q_getR (vA 0 (a0 + 11) 274) 9 rfl (show sCode 265 6 = some (.getfield 42, 3) by decide +kernel) (show sFR (sKo 265).1 42 = some (12, 23) by decide +kernel) (by decide +kernel) (Or.inl (Or.inl rfl)) rfl ?_
  refine q_bipush 11 rfl (show sCode 265 9 = some (.bipush 7, 2) by decide +kernel) ⟨by decide, by decide⟩ (by decide +kernel) ?_
  refine q_iconst 12 rfl (show sCode 265 11 = some (.iconst 0, 1) by decide +kernel) ⟨by decide, by decide⟩ ?_
  refine q_iast 13 rfl (show sCode 265 12 = some (.iastore, 1) by decide +kernel) ⟨by decide, by decide⟩ ?_
  refine q_iconst 14 rfl (show sCode 265 13 = some (.iconst 0, 1) by decide +kernel) ⟨by decide, by decide⟩ ?_
  exact q_iret (show sCode 265 14 = some (.ireturn, 1) by decide +kernel) (by decide +kernel) (by decide +kernel) kk
theorem b265_15 {d : Nat} {Q : Option sV → sM → sG → Prop} {M : sM} {G : sG} {a0 : Nat} {x1 : Int} {x2 : Int}  (kk : sC d 211 [vI x1] M G (QI (fun r M1 G1 => sW (sC d) 265 Q 19 [vO 12 a0, vI x1, vI x2] (vI r :: []) M1 G1 0 0))) : sW (sC d) 265 Q 15 [vO 12 a0, vI x1, vI x2] [] M G 0 0 := by
  refine q_iload_n 16 rfl (show sCode 265 15 = some (.iload_n 1, 1) by decide +kernel) rfl ?_
  exact q_statI [vI x1] 19 rfl (show sCode 265 16 = some (.invokestatic 305, 3) by decide +kernel) (show sMR (sKo 265).1 305 = some 211 by decide +kernel) (show 211 < 1000 ∧ sStat 211 = true ∧ sKo 211 = (12, 1, 2, 0, 0) by decide +kernel) rfl rfl (Nat.le_of_ble_eq_true rfl) rfl rfl rfl (by decide +kernel) kk
theorem b265_19 {d : Nat} {Q : Option sV → sM → sG → Prop} {M : sM} {G : sG} {a0 : Nat} {x1 : Int} {x2 : Int} {s0 : Int}  (k1 : s0 = 0 → sW (sC d) 265 Q 46 [vN, vN, vN] [] M G 0 0) (k2 : s0 ≠ 0 → sW (sC d) 265 Q 22 [vO 12 a0, vI x1, vI x2] [] M G 0 0) : sW (sC d) 265 Q 19 [vO 12 a0, vI x1, vI x2] [vI s0] M G 0 0 := by
  refine q_ifeq 46 22 rfl (by decide) (show sCode 265 19 = some (.ifCond .eq 27, 3) by decide +kernel) ?_ ?_
  · intro q; refine q_forget (L' := [vN, vI x1, vI x2]) 0 rfl ?_; refine q_forget (L' := [vN, vN, vI x2]) 1 rfl ?_; refine q_forget (L' := [vN, vN, vN]) 2 rfl ?_; exact k1 q
  · intro q; exact k2 q
theorem b265_22 {d : Nat} {Q : Option sV → sM → sG → Prop} {M : sM} {G : sG} {a0 : Nat} {x1 : Int} {x2 : Int}  (kk : sC d 211 [vI x2] M G (QI (fun r M1 G1 => sW (sC d) 265 Q 26 [vO 12 a0, vI x1, vI x2] (vI r :: []) M1 G1 0 0))) : sW (sC d) 265 Q 22 [vO 12 a0, vI x1, vI x2] [] M G 0 0 := by
  refine q_iload_n 23 rfl (show sCode 265 22 = some (.iload_n 2, 1) by decide +kernel) rfl ?_
  exact q_statI [vI x2] 26 rfl (show sCode 265 23 = some (.invokestatic 305, 3) by decide +kernel) (show sMR (sKo 265).1 305 = some 211 by decide +kernel) (show 211 < 1000 ∧ sStat 211 = true ∧ sKo 211 = (12, 1, 2, 0, 0) by decide +kernel) rfl rfl (Nat.le_of_ble_eq_true rfl) rfl rfl rfl (by decide +kernel) kk
theorem b265_26 {d : Nat} {Q : Option sV → sM → sG → Prop} {M : sM} {G : sG} {a0 : Nat} {x1 : Int} {x2 : Int} {s0 : Int}  (k1 : s0 = 0 → sW (sC d) 265 Q 46 [vN, vN, vN] [] M G 0 0) (k2 : s0 ≠ 0 → sW (sC d) 265 Q 29 [vO 12 a0, vI x1, vI x2] [] M G 0 0) : sW (sC d) 265 Q 26 [vO 12 a0, vI x1, vI x2] [vI s0] M G 0 0 := by
  refine q_ifeq 46 29 rfl (by decide) (show sCode 265 26 = some (.ifCond .eq 20, 3) by decide +kernel) ?_ ?_
  · intro q; refine q_forget (L' := [vN, vI x1, vI x2]) 0 rfl ?_; refine q_forget (L' := [vN, vN, vI x2]) 1 rfl ?_; refine q_forget (L' := [vN, vN, vN]) 2 rfl ?_; exact k1 q
  · intro q; exact k2 q
theorem b265_29 {d : Nat} {Q : Option sV → sM → sG → Prop} {M : sM} {G : sG} {a0 : Nat} {x1 : Int} {x2 : Int}  (k1 : x1 = x2 → sW (sC d) 265 Q 46 [vN, vN, vN] [] M G 0 0) (k2 : x1 ≠ x2 → sW (sC d) 265 Q 34 [vO 12 a0, vI x1, vI x2] [] M G 0 0) : sW (sC d) 265 Q 29 [vO 12 a0, vI x1, vI x2] [] M G 0 0 := by
  refine q_iload_n 30 rfl (show sCode 265 29 = some (.iload_n 1, 1) by decide +kernel) rfl ?_
  refine q_iload_n 31 rfl (show sCode 265 30 = some (.iload_n 2, 1) by decide +kernel) rfl ?_
  refine q_icmpeq 46 34 rfl (by decide) (show sCode 265 31 = some (.if_icmp .eq 15, 3) by decide +kernel) ?_ ?_
  · intro q; refine q_forget (L' := [vN, vI x1, vI x2]) 0 rfl ?_; refine q_forget (L' := [vN, vN, vI x2]) 1 rfl ?_; refine q_forget (L' := [vN, vN, vN]) 2 rfl ?_; exact k1 q
  · intro q; exact k2 q
theorem b265_34 {d : Nat} {Q : Option sV → sM → sG → Prop} {M : sM} {G : sG} {a0 : Nat} {x1 : Int} {x2 : Int}  (k1 : M (a0 + 11) 7 ≠ 8 → sW (sC d) 265 Q 49 [vO 12 a0, vI x1, vI x2] [] M G 0 0) (k2 : M (a0 + 11) 7 = 8 → sW (sC d) 265 Q 46 [vN, vN, vN] [] M G 0 0) : sW (sC d) 265 Q 34 [vO 12 a0, vI x1, vI x2] [] M G 0 0 := by
  refine q_aload_n 35 rfl (show sCode 265 34 = some (.aload_n 0, 1) by decide +kernel) rfl (Nat.le_of_ble_eq_true rfl) ?_
  refine q_getR (vA 0 (a0 + 11) 274) 38 rfl (show sCode 265 35 = some (.getfield 42, 3) by decide +kernel) (show sFR (sKo 265).1 42 = some (12, 23) by decide +kernel) (by decide +kernel) (Or.inl (Or.inl rfl)) rfl ?_
  refine q_bipush 40 rfl (show sCode 265 38 = some (.bipush 7, 2) by decide +kernel) ⟨by decide, by decide⟩ (by decide +kernel) ?_
  refine q_iald 41 rfl (show sCode 265 40 = some (.iaload, 1) by decide +kernel) ⟨by decide, by decide⟩ ?_
  refine q_bipush 43 rfl (show sCode 265 41 = some (.bipush 8, 2) by decide +kernel) ⟨by decide, by decide⟩ (by decide +kernel) ?_
  refine q_icmpne 49 46 rfl (by decide) (show sCode 265 43 = some (.if_icmp .ne 6, 3) by decide +kernel) ?_ ?_
  · intro q; exact k1 q
  · intro q; refine q_forget (L' := [vN, vI x1, vI x2]) 0 rfl ?_; refine q_forget (L' := [vN, vN, vI x2]) 1 rfl ?_; refine q_forget (L' := [vN, vN, vN]) 2 rfl ?_; exact k2 q
theorem b265_46 {d : Nat} {P : Int → sM → sG → Prop} {M : sM} {G : sG}   (kk : P (-2) M G) : sW (sC d) 265 (QI P) 46 [vN, vN, vN] [] M G 0 0 := by
  refine q_bipush 48 rfl (show sCode 265 46 = some (.bipush (-2), 2) by decide +kernel) ⟨by decide, by decide⟩ (by decide +kernel) ?_
  exact q_iret (show sCode 265 48 = some (.ireturn, 1) by decide +kernel) (by decide +kernel) (by decide +kernel) kk
theorem b265_49 {d : Nat} {P : Int → sM → sG → Prop} {M : sM} {G : sG} {a0 : Nat} {x1 : Int} {x2 : Int} (h1 : sI (2 * (M (a0 + 11) 7))) (h2 : sI (234 + (2 * (M (a0 + 11) 7)))) (h3 : 0 ≤ 234 + (2 * (M (a0 + 11) 7)) ∧ 234 + (2 * (M (a0 + 11) 7)) < 274) (h4 : sI (2 * ((sUpd M (a0 + 11) (234 + (2 * (M (a0 + 11) 7))).toNat x1) (a0 + 11) 7))) (h5 : sI (234 + (2 * ((sUpd M (a0 + 11) (234 + (2 * (M (a0 + 11) 7))).toNat x1) (a0 + 11) 7)))) (h6 : sI ((234 + (2 * ((sUpd M (a0 + 11) (234 + (2 * (M (a0 + 11) 7))).toNat x1) (a0 + 11) 7))) + 1)) (h7 : 0 ≤ (234 + (2 * ((sUpd M (a0 + 11) (234 + (2 * (M (a0 + 11) 7))).toNat x1) (a0 + 11) 7))) + 1 ∧ (234 + (2 * ((sUpd M (a0 + 11) (234 + (2 * (M (a0 + 11) 7))).toNat x1) (a0 + 11) 7))) + 1 < 274) (h8 : sI (((sUpd (sUpd M (a0 + 11) (234 + (2 * (M (a0 + 11) 7))).toNat x1) (a0 + 11) ((234 + (2 * ((sUpd M (a0 + 11) (234 + (2 * (M (a0 + 11) 7))).toNat x1) (a0 + 11) 7))) + 1).toNat x2) (a0 + 11) 7) + 1)) (kk : P ((sUpd (sUpd (sUpd M (a0 + 11) (234 + (2 * (M (a0 + 11) 7))).toNat x1) (a0 + 11) ((234 + (2 * ((sUpd M (a0 + 11) (234 + (2 * (M (a0 + 11) 7))).toNat x1) (a0 + 11) 7))) + 1).toNat x2) (a0 + 11) 7 (((sUpd (sUpd M (a0 + 11) (234 + (2 * (M (a0 + 11) 7))).toNat x1) (a0 + 11) ((234 + (2 * ((sUpd M (a0 + 11) (234 + (2 * (M (a0 + 11) 7))).toNat x1) (a0 + 11) 7))) + 1).toNat x2) (a0 + 11) 7) + 1)) (a0 + 11) 7) (sUpd (sUpd (sUpd M (a0 + 11) (234 + (2 * (M (a0 + 11) 7))).toNat x1) (a0 + 11) ((234 + (2 * ((sUpd M (a0 + 11) (234 + (2 * (M (a0 + 11) 7))).toNat x1) (a0 + 11) 7))) + 1).toNat x2) (a0 + 11) 7 (((sUpd (sUpd M (a0 + 11) (234 + (2 * (M (a0 + 11) 7))).toNat x1) (a0 + 11) ((234 + (2 * ((sUpd M (a0 + 11) (234 + (2 * (M (a0 + 11) 7))).toNat x1) (a0 + 11) 7))) + 1).toNat x2) (a0 + 11) 7) + 1)) G) : sW (sC d) 265 (QI P) 49 [vO 12 a0, vI x1, vI x2] [] M G 0 0 := by
  refine q_aload_n 50 rfl (show sCode 265 49 = some (.aload_n 0, 1) by decide +kernel) rfl (Nat.le_of_ble_eq_true rfl) ?_
  refine q_getR (vA 0 (a0 + 11) 274) 53 rfl (show sCode 265 50 = some (.getfield 42, 3) by decide +kernel) (show sFR (sKo 265).1 42 = some (12, 23) by decide +kernel) (by decide +kernel) (Or.inl (Or.inl rfl)) rfl ?_
  refine q_sipush 56 rfl (show sCode 265 53 = some (.sipush 234, 3) by decide +kernel) ⟨by decide, by decide⟩ (by decide +kernel) ?_
  refine q_iconst 57 rfl (show sCode 265 56 = some (.iconst 2, 1) by decide +kernel) ⟨by decide, by decide⟩ ?_
  refine q_aload_n 58 rfl (show sCode 265 57 = some (.aload_n 0, 1) by decide +kernel) rfl (Nat.le_of_ble_eq_true rfl) ?_
  refine q_getR (vA 0 (a0 + 11) 274) 61 rfl (show sCode 265 58 = some (.getfield 42, 3) by decide +kernel) (show sFR (sKo 265).1 42 = some (12, 23) by decide +kernel) (by decide +kernel) (Or.inl (Or.inl rfl)) rfl ?_
  refine q_bipush 63 rfl (show sCode 265 61 = some (.bipush 7, 2) by decide +kernel) ⟨by decide, by decide⟩ (by decide +kernel) ?_
  refine q_iald 64 rfl (show sCode 265 63 = some (.iaload, 1) by decide +kernel) ⟨by decide, by decide⟩ ?_
  refine q_imul 65 rfl (show sCode 265 64 = some (.imul, 1) by decide +kernel) h1 ?_
  refine q_iadd 66 rfl (show sCode 265 65 = some (.iadd, 1) by decide +kernel) h2 ?_
  refine q_iload_n 67 rfl (show sCode 265 66 = some (.iload_n 1, 1) by decide +kernel) rfl ?_
  refine q_iast 68 rfl (show sCode 265 67 = some (.iastore, 1) by decide +kernel) h3 ?_
  refine q_aload_n 69 rfl (show sCode 265 68 = some (.aload_n 0, 1) by decide +kernel) rfl (Nat.le_of_ble_eq_true rfl) ?_
  refine q_getR (vA 0 (a0 + 11) 274) 72 rfl (show sCode 265 69 = some (.getfield 42, 3) by decide +kernel) (show sFR (sKo 265).1 42 = some (12, 23) by decide +kernel) (by decide +kernel) (Or.inl (Or.inl rfl)) rfl ?_
  refine q_sipush 75 rfl (show sCode 265 72 = some (.sipush 234, 3) by decide +kernel) ⟨by decide, by decide⟩ (by decide +kernel) ?_
  refine q_iconst 76 rfl (show sCode 265 75 = some (.iconst 2, 1) by decide +kernel) ⟨by decide, by decide⟩ ?_
  refine q_aload_n 77 rfl (show sCode 265 76 = some (.aload_n 0, 1) by decide +kernel) rfl (Nat.le_of_ble_eq_true rfl) ?_
  refine q_getR (vA 0 (a0 + 11) 274) 80 rfl (show sCode 265 77 = some (.getfield 42, 3) by decide +kernel) (show sFR (sKo 265).1 42 = some (12, 23) by decide +kernel) (by decide +kernel) (Or.inl (Or.inl rfl)) rfl ?_
  refine q_bipush 82 rfl (show sCode 265 80 = some (.bipush 7, 2) by decide +kernel) ⟨by decide, by decide⟩ (by decide +kernel) ?_
  refine q_iald 83 rfl (show sCode 265 82 = some (.iaload, 1) by decide +kernel) ⟨by decide, by decide⟩ ?_
  refine q_imul 84 rfl (show sCode 265 83 = some (.imul, 1) by decide +kernel) h4 ?_
  refine q_iadd 85 rfl (show sCode 265 84 = some (.iadd, 1) by decide +kernel) h5 ?_
  refine q_iconst 86 rfl (show sCode 265 85 = some (.iconst 1, 1) by decide +kernel) ⟨by decide, by decide⟩ ?_
  refine q_iadd 87 rfl (show sCode 265 86 = some (.iadd, 1) by decide +kernel) h6 ?_
  refine q_iload_n 88 rfl (show sCode 265 87 = some (.iload_n 2, 1) by decide +kernel) rfl ?_
  refine q_iast 89 rfl (show sCode 265 88 = some (.iastore, 1) by decide +kernel) h7 ?_
  refine q_aload_n 90 rfl (show sCode 265 89 = some (.aload_n 0, 1) by decide +kernel) rfl (Nat.le_of_ble_eq_true rfl) ?_
  refine q_getR (vA 0 (a0 + 11) 274) 93 rfl (show sCode 265 90 = some (.getfield 42, 3) by decide +kernel) (show sFR (sKo 265).1 42 = some (12, 23) by decide +kernel) (by decide +kernel) (Or.inl (Or.inl rfl)) rfl ?_
  refine q_bipush 95 rfl (show sCode 265 93 = some (.bipush 7, 2) by decide +kernel) ⟨by decide, by decide⟩ (by decide +kernel) ?_
  refine q_dup2 96 rfl (show sCode 265 95 = some (.dup2, 1) by decide +kernel) rfl rfl ?_
  refine q_iald 97 rfl (show sCode 265 96 = some (.iaload, 1) by decide +kernel) ⟨by decide, by decide⟩ ?_
  refine q_iconst 98 rfl (show sCode 265 97 = some (.iconst 1, 1) by decide +kernel) ⟨by decide, by decide⟩ ?_
  refine q_iadd 99 rfl (show sCode 265 98 = some (.iadd, 1) by decide +kernel) h8 ?_
  refine q_iast 100 rfl (show sCode 265 99 = some (.iastore, 1) by decide +kernel) ⟨by decide, by decide⟩ ?_
  refine q_aload_n 101 rfl (show sCode 265 100 = some (.aload_n 0, 1) by decide +kernel) rfl (Nat.le_of_ble_eq_true rfl) ?_
  refine q_getR (vA 0 (a0 + 11) 274) 104 rfl (show sCode 265 101 = some (.getfield 42, 3) by decide +kernel) (show sFR (sKo 265).1 42 = some (12, 23) by decide +kernel) (by decide +kernel) (Or.inl (Or.inl rfl)) rfl ?_
  refine q_bipush 106 rfl (show sCode 265 104 = some (.bipush 7, 2) by decide +kernel) ⟨by decide, by decide⟩ (by decide +kernel) ?_
  refine q_iald 107 rfl (show sCode 265 106 = some (.iaload, 1) by decide +kernel) ⟨by decide, by decide⟩ ?_
  exact q_iret (show sCode 265 107 = some (.ireturn, 1) by decide +kernel) (by decide +kernel) (by decide +kernel) kk
-- 266 AfterTheLastModel.orders (I)I
theorem b266_0 {d : Nat} {Q : Option sV → sM → sG → Prop} {M : sM} {G : sG} {a0 : Nat} {x1 : Int} (h1 : sI ((M (a0 + 11) 6) - 1)) (kk : sC d 183 [vL x1, vL (-1), vL ((M (a0 + 11) 6) - 1)] M G (QI (fun r M1 G1 => sW (sC d) 266 Q 18 [vO 12 a0, vI x1, vN, vN, vN] (vI r :: []) M1 G1 0 0))) : sW (sC d) 266 Q 0 [vO 12 a0, vI x1, vN, vN, vN] [] M G 0 0 := by
  refine q_iload_n 1 rfl (show sCode 266 0 = some (.iload_n 1, 1) by decide +kernel) rfl ?_
  refine q_i2l 2 rfl (show sCode 266 1 = some (.i2l, 1) by decide +kernel) ?_
  refine q_ldc2_w 5 rfl (show sCode 266 2 = some (.ldc2_w 427, 3) by decide +kernel) (show sLR (sKo 266).1 427 = some (-1) by decide +kernel) ⟨by decide, by decide⟩ ?_
  refine q_aload_n 6 rfl (show sCode 266 5 = some (.aload_n 0, 1) by decide +kernel) rfl (Nat.le_of_ble_eq_true rfl) ?_
  refine q_getR (vA 0 (a0 + 11) 274) 9 rfl (show sCode 266 6 = some (.getfield 42, 3) by decide +kernel) (show sFR (sKo 266).1 42 = some (12, 23) by decide +kernel) (by decide +kernel) (Or.inl (Or.inl rfl)) rfl ?_
  refine q_bipush 11 rfl (show sCode 266 9 = some (.bipush 6, 2) by decide +kernel) ⟨by decide, by decide⟩ (by decide +kernel) ?_
  refine q_iald 12 rfl (show sCode 266 11 = some (.iaload, 1) by decide +kernel) ⟨by decide, by decide⟩ ?_
  refine q_iconst 13 rfl (show sCode 266 12 = some (.iconst 1, 1) by decide +kernel) ⟨by decide, by decide⟩ ?_
  refine q_isub 14 rfl (show sCode 266 13 = some (.isub, 1) by decide +kernel) h1 ?_
  refine q_i2l 15 rfl (show sCode 266 14 = some (.i2l, 1) by decide +kernel) ?_
  exact q_statI [vL x1, vL (-1), vL ((M (a0 + 11) 6) - 1)] 18 rfl (show sCode 266 15 = some (.invokestatic 127, 3) by decide +kernel) (show sMR (sKo 266).1 127 = some 183 by decide +kernel) (show 183 < 1000 ∧ sStat 183 = true ∧ sKo 183 = (12, 3, 2, 0, 0) by decide +kernel) rfl rfl (Nat.le_of_ble_eq_true rfl) rfl rfl rfl (by decide +kernel) kk
theorem b266_18 {d : Nat} {Q : Option sV → sM → sG → Prop} {M : sM} {G : sG} {a0 : Nat} {x1 : Int} {s0 : Int}  (k1 : s0 ≠ 0 → sW (sC d) 266 Q 23 [vO 12 a0, vI x1, vN, vN, vN] [] M G 0 0) (k2 : s0 = 0 → sW (sC d) 266 Q 21 [vN, vN, vN, vN, vN] [] M G 0 0) : sW (sC d) 266 Q 18 [vO 12 a0, vI x1, vN, vN, vN] [vI s0] M G 0 0 := by
  refine q_ifne 23 21 rfl (by decide) (show sCode 266 18 = some (.ifCond .ne 5, 3) by decide +kernel) ?_ ?_
  · intro q; exact k1 q
  · intro q; refine q_forget (L' := [vN, vI x1, vN, vN, vN]) 0 rfl ?_; refine q_forget (L' := [vN, vN, vN, vN, vN]) 1 rfl ?_; exact k2 q
theorem b266_21 {d : Nat} {P : Int → sM → sG → Prop} {M : sM} {G : sG}   (kk : P (-1) M G) : sW (sC d) 266 (QI P) 21 [vN, vN, vN, vN, vN] [] M G 0 0 := by
  refine q_iconst 22 rfl (show sCode 266 21 = some (.iconst (-1), 1) by decide +kernel) ⟨by decide, by decide⟩ ?_
  exact q_iret (show sCode 266 22 = some (.ireturn, 1) by decide +kernel) (by decide +kernel) (by decide +kernel) kk
theorem b266_23 {d : Nat} {Q : Option sV → sM → sG → Prop} {M : sM} {G : sG} {a0 : Nat} {x1 : Int}  (kk : sW (sC d) 266 Q 27 [vO 12 a0, vI x1, vI 0, vI 0, vN] [] M G 0 0) : sW (sC d) 266 Q 23 [vO 12 a0, vI x1, vN, vN, vN] [] M G 0 0 := by
  refine q_iconst 24 rfl (show sCode 266 23 = some (.iconst 0, 1) by decide +kernel) ⟨by decide, by decide⟩ ?_
  refine q_istore_n [vO 12 a0, vI x1, vI 0, vN, vN] 25 rfl (show sCode 266 24 = some (.istore_n 2, 1) by decide +kernel) (Nat.lt_of_lt_of_le (Nat.lt_succ_self _) (Nat.le_of_ble_eq_true rfl)) rfl rfl ?_
  refine q_iconst 26 rfl (show sCode 266 25 = some (.iconst 0, 1) by decide +kernel) ⟨by decide, by decide⟩ ?_
  refine q_istore_n [vO 12 a0, vI x1, vI 0, vI 0, vN] 27 rfl (show sCode 266 26 = some (.istore_n 3, 1) by decide +kernel) (Nat.lt_of_lt_of_le (Nat.lt_succ_self _) (Nat.le_of_ble_eq_true rfl)) rfl rfl ?_
  exact kk
theorem b266_27 {d : Nat} {Q : Option sV → sM → sG → Prop} {M : sM} {G : sG} {a0 : Nat} {x1 : Int} {x2 : Int} {x3 : Int}  (k1 : 12 ≤ x3 → sW (sC d) 266 Q 71 [vO 12 a0, vI x1, vN, vN, vN] [] M G 0 0) (k2 : x3 < 12 → sW (sC d) 266 Q 33 [vO 12 a0, vI x1, vI x2, vI x3, vN] [] M G 0 0) : sW (sC d) 266 Q 27 [vO 12 a0, vI x1, vI x2, vI x3, vN] [] M G 0 0 := by
  refine q_iload_n 28 rfl (show sCode 266 27 = some (.iload_n 3, 1) by decide +kernel) rfl ?_
  refine q_bipush 30 rfl (show sCode 266 28 = some (.bipush 12, 2) by decide +kernel) ⟨by decide, by decide⟩ (by decide +kernel) ?_
  refine q_icmpge 71 33 rfl (by decide) (show sCode 266 30 = some (.if_icmp .ge 41, 3) by decide +kernel) ?_ ?_
  · intro q; refine q_forget (L' := [vO 12 a0, vI x1, vN, vI x3, vN]) 2 rfl ?_; refine q_forget (L' := [vO 12 a0, vI x1, vN, vN, vN]) 3 rfl ?_; exact k1 q
  · intro q; exact k2 q
theorem b266_33 {d : Nat} {Q : Option sV → sM → sG → Prop} {M : sM} {G : sG} {a0 : Nat} {x1 : Int} {x2 : Int} {x3 : Int}  (kk : sC d 264 [vO 12 a0, vI 226, vI (M (a0 + 11) 6), vI 1, vI x3] M G (QI (fun r M1 G1 => sW (sC d) 266 Q 49 [vO 12 a0, vI x1, vI x2, vI x3, vN] (vI r :: []) M1 G1 0 0))) : sW (sC d) 266 Q 33 [vO 12 a0, vI x1, vI x2, vI x3, vN] [] M G 0 0 := by
  refine q_aload_n 34 rfl (show sCode 266 33 = some (.aload_n 0, 1) by decide +kernel) rfl (Nat.le_of_ble_eq_true rfl) ?_
  refine q_sipush 37 rfl (show sCode 266 34 = some (.sipush 226, 3) by decide +kernel) ⟨by decide, by decide⟩ (by decide +kernel) ?_
  refine q_aload_n 38 rfl (show sCode 266 37 = some (.aload_n 0, 1) by decide +kernel) rfl (Nat.le_of_ble_eq_true rfl) ?_
  refine q_getR (vA 0 (a0 + 11) 274) 41 rfl (show sCode 266 38 = some (.getfield 42, 3) by decide +kernel) (show sFR (sKo 266).1 42 = some (12, 23) by decide +kernel) (by decide +kernel) (Or.inl (Or.inl rfl)) rfl ?_
  refine q_bipush 43 rfl (show sCode 266 41 = some (.bipush 6, 2) by decide +kernel) ⟨by decide, by decide⟩ (by decide +kernel) ?_
  refine q_iald 44 rfl (show sCode 266 43 = some (.iaload, 1) by decide +kernel) ⟨by decide, by decide⟩ ?_
  refine q_iconst 45 rfl (show sCode 266 44 = some (.iconst 1, 1) by decide +kernel) ⟨by decide, by decide⟩ ?_
  refine q_iload_n 46 rfl (show sCode 266 45 = some (.iload_n 3, 1) by decide +kernel) rfl ?_
  exact q_virtI [vI 226, vI (M (a0 + 11) 6), vI 1, vI x3] 49 rfl (show sCode 266 46 = some (.invokevirtual 420, 3) by decide +kernel) (show sMR (sKo 266).1 420 = some 264 by decide +kernel) (show 264 < 1000 ∧ sStat 264 = false ∧ sIni 264 = false ∧ sKo 264 = (12, 4, 2, 0, 0) by decide +kernel) rfl (Or.inl rfl) rfl (Nat.le_of_ble_eq_true rfl) rfl rfl rfl (by decide +kernel) kk
theorem b266_49 {d : Nat} {Q : Option sV → sM → sG → Prop} {M : sM} {G : sG} {a0 : Nat} {x1 : Int} {x2 : Int} {x3 : Int} {s0 : Int}  (k1 : s0 ≠ 0 → sW (sC d) 266 Q 55 [vO 12 a0, vI x1, vI x2, vI x3, vN] [] M G 0 0) (k2 : s0 = 0 → sW (sC d) 266 Q 52 [vO 12 a0, vI x1, vI x2, vI x3, vN] [] M G 0 0) : sW (sC d) 266 Q 49 [vO 12 a0, vI x1, vI x2, vI x3, vN] [vI s0] M G 0 0 := by
  refine q_ifne 55 52 rfl (by decide) (show sCode 266 49 = some (.ifCond .ne 6, 3) by decide +kernel) ?_ ?_
  · intro q; exact k1 q
  · intro q; exact k2 q
theorem b266_52 {d : Nat} {Q : Option sV → sM → sG → Prop} {M : sM} {G : sG} {a0 : Nat} {x1 : Int} {x2 : Int} {x3 : Int}  (kk : sW (sC d) 266 Q 65 [vO 12 a0, vI x1, vI x2, vI x3, vN] [] M G 0 0) : sW (sC d) 266 Q 52 [vO 12 a0, vI x1, vI x2, vI x3, vN] [] M G 0 0 := by
  refine q_goto 65 (by decide) (show sCode 266 52 = some (.goto 13, 3) by decide +kernel) ?_
  exact kk
theorem b266_55 {d : Nat} {Q : Option sV → sM → sG → Prop} {M : sM} {G : sG} {a0 : Nat} {x1 : Int} {x2 : Int} {x3 : Int} (h1 : 0 ≤ x2 ∧ x2 < 8) (h2 : sI (x2 + 1)) (kk : sW (sC d) 266 Q 65 [vO 12 a0, vI x1, vI (x2 + 1), vI x3, vN] [] (sUpd M (a0 + 20) x2.toNat x3) G 0 0) : sW (sC d) 266 Q 55 [vO 12 a0, vI x1, vI x2, vI x3, vN] [] M G 0 0 := by
  refine q_aload_n 56 rfl (show sCode 266 55 = some (.aload_n 0, 1) by decide +kernel) rfl (Nat.le_of_ble_eq_true rfl) ?_
  refine q_getR (vA 0 (a0 + 20) 8) 59 rfl (show sCode 266 56 = some (.getfield 69, 3) by decide +kernel) (show sFR (sKo 266).1 69 = some (12, 32) by decide +kernel) (by decide +kernel) (Or.inl (Or.inl rfl)) rfl ?_
  refine q_iload_n 60 rfl (show sCode 266 59 = some (.iload_n 2, 1) by decide +kernel) rfl ?_
  refine q_iload_n 61 rfl (show sCode 266 60 = some (.iload_n 3, 1) by decide +kernel) rfl ?_
  refine q_iast 62 rfl (show sCode 266 61 = some (.iastore, 1) by decide +kernel) h1 ?_
  refine q_iinc [vO 12 a0, vI x1, vI (x2 + 1), vI x3, vN] 65 rfl (show sCode 266 62 = some (.iinc 2 1, 3) by decide +kernel) rfl rfl h2 rfl ?_
  exact kk
theorem b266_65 {d : Nat} {Q : Option sV → sM → sG → Prop} {M : sM} {G : sG} {a0 : Nat} {x1 : Int} {x2 : Int} {x3 : Int} (h1 : sI (x3 + 1)) (kk : sW (sC d) 266 Q 27 [vO 12 a0, vI x1, vI x2, vI (x3 + 1), vN] [] M G 0 0) : sW (sC d) 266 Q 65 [vO 12 a0, vI x1, vI x2, vI x3, vN] [] M G 0 0 := by
  refine q_iinc [vO 12 a0, vI x1, vI x2, vI (x3 + 1), vN] 68 rfl (show sCode 266 65 = some (.iinc 3 1, 3) by decide +kernel) rfl rfl h1 rfl ?_
  refine q_goto 27 (by decide) (show sCode 266 68 = some (.goto (-41), 3) by decide +kernel) ?_
  exact kk
theorem b266_71 {d : Nat} {Q : Option sV → sM → sG → Prop} {M : sM} {G : sG} {a0 : Nat} {x1 : Int}  (kk : sW (sC d) 266 Q 75 [vO 12 a0, vI x1, vI 0, vI 1, vN] [] M G 0 0) : sW (sC d) 266 Q 71 [vO 12 a0, vI x1, vN, vN, vN] [] M G 0 0 := by
  refine q_iconst 72 rfl (show sCode 266 71 = some (.iconst 0, 1) by decide +kernel) ⟨by decide, by decide⟩ ?_
  refine q_istore_n [vO 12 a0, vI x1, vI 0, vN, vN] 73 rfl (show sCode 266 72 = some (.istore_n 2, 1) by decide +kernel) (Nat.lt_of_lt_of_le (Nat.lt_succ_self _) (Nat.le_of_ble_eq_true rfl)) rfl rfl ?_
  refine q_iconst 74 rfl (show sCode 266 73 = some (.iconst 1, 1) by decide +kernel) ⟨by decide, by decide⟩ ?_
  refine q_istore_n [vO 12 a0, vI x1, vI 0, vI 1, vN] 75 rfl (show sCode 266 74 = some (.istore_n 3, 1) by decide +kernel) (Nat.lt_of_lt_of_le (Nat.lt_succ_self _) (Nat.le_of_ble_eq_true rfl)) rfl rfl ?_
  exact kk
theorem b266_75 {d : Nat} {Q : Option sV → sM → sG → Prop} {M : sM} {G : sG} {a0 : Nat} {x1 : Int} {x2 : Int} {x3 : Int}  (k1 : x3 = 0 → sW (sC d) 266 Q 136 [vO 12 a0, vI x1, vI x2, vN, vN] [] M G 0 0) (k2 : x3 ≠ 0 → sW (sC d) 266 Q 79 [vO 12 a0, vI x1, vI x2, vN, vN] [] M G 0 0) : sW (sC d) 266 Q 75 [vO 12 a0, vI x1, vI x2, vI x3, vN] [] M G 0 0 := by
  refine q_iload_n 76 rfl (show sCode 266 75 = some (.iload_n 3, 1) by decide +kernel) rfl ?_
  refine q_ifeq 136 79 rfl (by decide) (show sCode 266 76 = some (.ifCond .eq 60, 3) by decide +kernel) ?_ ?_
  · intro q; refine q_forget (L' := [vO 12 a0, vI x1, vI x2, vN, vN]) 3 rfl ?_; exact k1 q
  · intro q; refine q_forget (L' := [vO 12 a0, vI x1, vI x2, vN, vN]) 3 rfl ?_; exact k2 q
theorem b266_79 {d : Nat} {Q : Option sV → sM → sG → Prop} {M : sM} {G : sG} {a0 : Nat} {x1 : Int} {x2 : Int}  (kk : sC d 267 [vO 12 a0] M G (QI (fun r M1 G1 => sW (sC d) 266 Q 83 [vO 12 a0, vI x1, vI x2, vN, vN] (vI r :: []) M1 G1 0 0))) : sW (sC d) 266 Q 79 [vO 12 a0, vI x1, vI x2, vN, vN] [] M G 0 0 := by
  refine q_aload_n 80 rfl (show sCode 266 79 = some (.aload_n 0, 1) by decide +kernel) rfl (Nat.le_of_ble_eq_true rfl) ?_
  exact q_virtI [] 83 rfl (show sCode 266 80 = some (.invokevirtual 429, 3) by decide +kernel) (show sMR (sKo 266).1 429 = some 267 by decide +kernel) (show 267 < 1000 ∧ sStat 267 = false ∧ sIni 267 = false ∧ sKo 267 = (12, 0, 2, 0, 0) by decide +kernel) rfl (Or.inl rfl) rfl (Nat.le_of_ble_eq_true rfl) rfl rfl rfl (by decide +kernel) kk
theorem b266_83 {d : Nat} {Q : Option sV → sM → sG → Prop} {M : sM} {G : sG} {a0 : Nat} {x1 : Int} {x2 : Int} {s0 : Int}  (k1 : s0 = 0 → sW (sC d) 266 Q 128 [vO 12 a0, vI x1, vI x2, vN, vN] [] M G 0 0) (k2 : s0 ≠ 0 → sW (sC d) 266 Q 86 [vO 12 a0, vI x1, vI x2, vN, vN] [] M G 0 0) : sW (sC d) 266 Q 83 [vO 12 a0, vI x1, vI x2, vN, vN] [vI s0] M G 0 0 := by
  refine q_ifeq 128 86 rfl (by decide) (show sCode 266 83 = some (.ifCond .eq 45, 3) by decide +kernel) ?_ ?_
  · intro q; exact k1 q
  · intro q; exact k2 q
theorem b266_86 {d : Nat} {Q : Option sV → sM → sG → Prop} {M : sM} {G : sG} {a0 : Nat} {x1 : Int} {x2 : Int}  (kk : sW (sC d) 266 Q 89 [vO 12 a0, vI x1, vI x2, vN, vI 0] [] M G 0 0) : sW (sC d) 266 Q 86 [vO 12 a0, vI x1, vI x2, vN, vN] [] M G 0 0 := by
  refine q_iconst 87 rfl (show sCode 266 86 = some (.iconst 0, 1) by decide +kernel) ⟨by decide, by decide⟩ ?_
  refine q_istore [vO 12 a0, vI x1, vI x2, vN, vI 0] 89 rfl (show sCode 266 87 = some (.istore 4, 2) by decide +kernel) (Nat.lt_of_lt_of_le (Nat.lt_succ_self _) (Nat.le_of_ble_eq_true rfl)) rfl rfl ?_
  exact kk
theorem b266_89 {d : Nat} {Q : Option sV → sM → sG → Prop} {M : sM} {G : sG} {a0 : Nat} {x1 : Int} {x2 : Int} {x4 : Int}  (k1 : M (a0 + 11) 6 ≤ x4 → sW (sC d) 266 Q 125 [vO 12 a0, vI x1, vI x2, vN, vN] [] M G 0 0) (k2 : x4 < M (a0 + 11) 6 → sW (sC d) 266 Q 101 [vO 12 a0, vI x1, vI x2, vN, vI x4] [] M G 0 0) : sW (sC d) 266 Q 89 [vO 12 a0, vI x1, vI x2, vN, vI x4] [] M G 0 0 := by
  refine q_iload 91 rfl (show sCode 266 89 = some (.iload 4, 2) by decide +kernel) rfl ?_
  refine q_aload_n 92 rfl (show sCode 266 91 = some (.aload_n 0, 1) by decide +kernel) rfl (Nat.le_of_ble_eq_true rfl) ?_
  refine q_getR (vA 0 (a0 + 11) 274) 95 rfl (show sCode 266 92 = some (.getfield 42, 3) by decide +kernel) (show sFR (sKo 266).1 42 = some (12, 23) by decide +kernel) (by decide +kernel) (Or.inl (Or.inl rfl)) rfl ?_
  refine q_bipush 97 rfl (show sCode 266 95 = some (.bipush 6, 2) by decide +kernel) ⟨by decide, by decide⟩ (by decide +kernel) ?_
  refine q_iald 98 rfl (show sCode 266 97 = some (.iaload, 1) by decide +kernel) ⟨by decide, by decide⟩ ?_
  refine q_icmpge 125 101 rfl (by decide) (show sCode 266 98 = some (.if_icmp .ge 27, 3) by decide +kernel) ?_ ?_
  · intro q; refine q_forget (L' := [vO 12 a0, vI x1, vI x2, vN, vN]) 4 rfl ?_; exact k1 q
  · intro q; exact k2 q
theorem b266_101 {d : Nat} {Q : Option sV → sM → sG → Prop} {M : sM} {G : sG} {a0 : Nat} {x1 : Int} {x2 : Int} {x4 : Int}  (k1 : x2 ≠ 0 → sW (sC d) 266 Q 125 [vO 12 a0, vI x1, vI x2, vN, vN] [] M G 0 0) (k2 : x2 = 0 → sW (sC d) 266 Q 105 [vO 12 a0, vI x1, vI x2, vN, vI x4] [] M G 0 0) : sW (sC d) 266 Q 101 [vO 12 a0, vI x1, vI x2, vN, vI x4] [] M G 0 0 := by
  refine q_iload_n 102 rfl (show sCode 266 101 = some (.iload_n 2, 1) by decide +kernel) rfl ?_
  refine q_ifne 125 105 rfl (by decide) (show sCode 266 102 = some (.ifCond .ne 23, 3) by decide +kernel) ?_ ?_
  · intro q; refine q_forget (L' := [vO 12 a0, vI x1, vI x2, vN, vN]) 4 rfl ?_; exact k1 q
  · intro q; exact k2 q
theorem b266_105 {d : Nat} {Q : Option sV → sM → sG → Prop} {M : sM} {G : sG} {a0 : Nat} {x1 : Int} {x2 : Int} {x4 : Int} (h1 : 0 ≤ x4 ∧ x4 < 8) (h2 : 0 ≤ x4 ∧ x4 < 8) (h3 : sI (x4 + 1)) (kk : sW (sC d) 266 Q 89 [vO 12 a0, vI x1, vI x2, vN, vI (x4 + 1)] [] (sUpd M (a0 + 21) x4.toNat (M (a0 + 20) x4.toNat)) G 0 0) : sW (sC d) 266 Q 105 [vO 12 a0, vI x1, vI x2, vN, vI x4] [] M G 0 0 := by
  refine q_aload_n 106 rfl (show sCode 266 105 = some (.aload_n 0, 1) by decide +kernel) rfl (Nat.le_of_ble_eq_true rfl) ?_
  refine q_getR (vA 0 (a0 + 21) 8) 109 rfl (show sCode 266 106 = some (.getfield 72, 3) by decide +kernel) (show sFR (sKo 266).1 72 = some (12, 33) by decide +kernel) (by decide +kernel) (Or.inl (Or.inl rfl)) rfl ?_
  refine q_iload 111 rfl (show sCode 266 109 = some (.iload 4, 2) by decide +kernel) rfl ?_
  refine q_aload_n 112 rfl (show sCode 266 111 = some (.aload_n 0, 1) by decide +kernel) rfl (Nat.le_of_ble_eq_true rfl) ?_
  refine q_getR (vA 0 (a0 + 20) 8) 115 rfl (show sCode 266 112 = some (.getfield 69, 3) by decide +kernel) (show sFR (sKo 266).1 69 = some (12, 32) by decide +kernel) (by decide +kernel) (Or.inl (Or.inl rfl)) rfl ?_
  refine q_iload 117 rfl (show sCode 266 115 = some (.iload 4, 2) by decide +kernel) rfl ?_
  refine q_iald 118 rfl (show sCode 266 117 = some (.iaload, 1) by decide +kernel) h1 ?_
  refine q_iast 119 rfl (show sCode 266 118 = some (.iastore, 1) by decide +kernel) h2 ?_
  refine q_iinc [vO 12 a0, vI x1, vI x2, vN, vI (x4 + 1)] 122 rfl (show sCode 266 119 = some (.iinc 4 1, 3) by decide +kernel) rfl rfl h3 rfl ?_
  refine q_goto 89 (by decide) (show sCode 266 122 = some (.goto (-33), 3) by decide +kernel) ?_
  exact kk
theorem b266_125 {d : Nat} {Q : Option sV → sM → sG → Prop} {M : sM} {G : sG} {a0 : Nat} {x1 : Int} {x2 : Int} (h1 : sI (x2 + 1)) (kk : sW (sC d) 266 Q 128 [vO 12 a0, vI x1, vI (x2 + 1), vN, vN] [] M G 0 0) : sW (sC d) 266 Q 125 [vO 12 a0, vI x1, vI x2, vN, vN] [] M G 0 0 := by
  refine q_iinc [vO 12 a0, vI x1, vI (x2 + 1), vN, vN] 128 rfl (show sCode 266 125 = some (.iinc 2 1, 3) by decide +kernel) rfl rfl h1 rfl ?_
  exact kk
theorem b266_128 {d : Nat} {Q : Option sV → sM → sG → Prop} {M : sM} {G : sG} {a0 : Nat} {x1 : Int} {x2 : Int}  (kk : sC d 269 [vO 12 a0] M G (QI (fun r M1 G1 => sW (sC d) 266 Q 132 [vO 12 a0, vI x1, vI x2, vN, vN] (vI r :: []) M1 G1 0 0))) : sW (sC d) 266 Q 128 [vO 12 a0, vI x1, vI x2, vN, vN] [] M G 0 0 := by
  refine q_aload_n 129 rfl (show sCode 266 128 = some (.aload_n 0, 1) by decide +kernel) rfl (Nat.le_of_ble_eq_true rfl) ?_
  exact q_virtI [] 132 rfl (show sCode 266 129 = some (.invokevirtual 432, 3) by decide +kernel) (show sMR (sKo 266).1 432 = some 269 by decide +kernel) (show 269 < 1000 ∧ sStat 269 = false ∧ sIni 269 = false ∧ sKo 269 = (12, 0, 2, 0, 0) by decide +kernel) rfl (Or.inl rfl) rfl (Nat.le_of_ble_eq_true rfl) rfl rfl rfl (by decide +kernel) kk
theorem b266_132 {d : Nat} {Q : Option sV → sM → sG → Prop} {M : sM} {G : sG} {a0 : Nat} {x1 : Int} {x2 : Int} {s0 : Int}  (kk : sW (sC d) 266 Q 75 [vO 12 a0, vI x1, vI x2, vI s0, vN] [] M G 0 0) : sW (sC d) 266 Q 132 [vO 12 a0, vI x1, vI x2, vN, vN] [vI s0] M G 0 0 := by
  refine q_istore_n [vO 12 a0, vI x1, vI x2, vI s0, vN] 133 rfl (show sCode 266 132 = some (.istore_n 3, 1) by decide +kernel) (Nat.lt_of_lt_of_le (Nat.lt_succ_self _) (Nat.le_of_ble_eq_true rfl)) rfl rfl ?_
  refine q_goto 75 (by decide) (show sCode 266 133 = some (.goto (-58), 3) by decide +kernel) ?_
  exact kk
theorem b266_136 {d : Nat} {Q : Option sV → sM → sG → Prop} {M : sM} {G : sG} {a0 : Nat} {x1 : Int} {x2 : Int}  (k1 : 0 ≤ x1 → sW (sC d) 266 Q 144 [vO 12 a0, vI x1, vI x2, vN, vN] [] M G 0 0) (k2 : x1 < 0 → sW (sC d) 266 Q 140 [vN, vN, vI x2, vN, vN] [] M G 0 0) : sW (sC d) 266 Q 136 [vO 12 a0, vI x1, vI x2, vN, vN] [] M G 0 0 := by
  refine q_iload_n 137 rfl (show sCode 266 136 = some (.iload_n 1, 1) by decide +kernel) rfl ?_
  refine q_ifge 144 140 rfl (by decide) (show sCode 266 137 = some (.ifCond .ge 7, 3) by decide +kernel) ?_ ?_
  · intro q; exact k1 q
  · intro q; refine q_forget (L' := [vN, vI x1, vI x2, vN, vN]) 0 rfl ?_; refine q_forget (L' := [vN, vN, vI x2, vN, vN]) 1 rfl ?_; exact k2 q
theorem b266_140 {d : Nat} {Q : Option sV → sM → sG → Prop} {M : sM} {G : sG} {x2 : Int}  (kk : sW (sC d) 266 Q 159 [vN, vN, vN, vN, vN] [vI x2] M G 0 0) : sW (sC d) 266 Q 140 [vN, vN, vI x2, vN, vN] [] M G 0 0 := by
  refine q_iload_n 141 rfl (show sCode 266 140 = some (.iload_n 2, 1) by decide +kernel) rfl ?_
  refine q_goto 159 (by decide) (show sCode 266 141 = some (.goto 18, 3) by decide +kernel) ?_
  refine q_forget (L' := [vN, vN, vN, vN, vN]) 2 rfl ?_
  exact kk
theorem b266_144 {d : Nat} {Q : Option sV → sM → sG → Prop} {M : sM} {G : sG} {a0 : Nat} {x1 : Int} {x2 : Int}  (k1 : x2 ≠ 0 → sW (sC d) 266 Q 153 [vO 12 a0, vI x1, vN, vN, vN] [] M G 0 0) (k2 : x2 = 0 → sW (sC d) 266 Q 148 [vN, vN, vN, vN, vN] [] M G 0 0) : sW (sC d) 266 Q 144 [vO 12 a0, vI x1, vI x2, vN, vN] [] M G 0 0 := by
  refine q_iload_n 145 rfl (show sCode 266 144 = some (.iload_n 2, 1) by decide +kernel) rfl ?_
  refine q_ifne 153 148 rfl (by decide) (show sCode 266 145 = some (.ifCond .ne 8, 3) by decide +kernel) ?_ ?_
  · intro q; refine q_forget (L' := [vO 12 a0, vI x1, vN, vN, vN]) 2 rfl ?_; exact k1 q
  · intro q; refine q_forget (L' := [vN, vI x1, vI x2, vN, vN]) 0 rfl ?_; refine q_forget (L' := [vN, vN, vI x2, vN, vN]) 1 rfl ?_; refine q_forget (L' := [vN, vN, vN, vN, vN]) 2 rfl ?_; exact k2 q
theorem b266_148 {d : Nat} {Q : Option sV → sM → sG → Prop} {M : sM} {G : sG}   (kk : sW (sC d) 266 Q 159 [vN, vN, vN, vN, vN] [vI (-2)] M G 0 0) : sW (sC d) 266 Q 148 [vN, vN, vN, vN, vN] [] M G 0 0 := by
  refine q_bipush 150 rfl (show sCode 266 148 = some (.bipush (-2), 2) by decide +kernel) ⟨by decide, by decide⟩ (by decide +kernel) ?_
  refine q_goto 159 (by decide) (show sCode 266 150 = some (.goto 9, 3) by decide +kernel) ?_
  exact kk
theorem b266_153 {d : Nat} {Q : Option sV → sM → sG → Prop} {M : sM} {G : sG} {a0 : Nat} {x1 : Int} (h1 : 0 ≤ x1 ∧ x1 < 8) (kk : sW (sC d) 266 Q 159 [vN, vN, vN, vN, vN] [vI (M (a0 + 21) x1.toNat)] M G 0 0) : sW (sC d) 266 Q 153 [vO 12 a0, vI x1, vN, vN, vN] [] M G 0 0 := by
  refine q_aload_n 154 rfl (show sCode 266 153 = some (.aload_n 0, 1) by decide +kernel) rfl (Nat.le_of_ble_eq_true rfl) ?_
  refine q_getR (vA 0 (a0 + 21) 8) 157 rfl (show sCode 266 154 = some (.getfield 72, 3) by decide +kernel) (show sFR (sKo 266).1 72 = some (12, 33) by decide +kernel) (by decide +kernel) (Or.inl (Or.inl rfl)) rfl ?_
  refine q_iload_n 158 rfl (show sCode 266 157 = some (.iload_n 1, 1) by decide +kernel) rfl ?_
  refine q_iald 159 rfl (show sCode 266 158 = some (.iaload, 1) by decide +kernel) h1 ?_
  refine q_forget (L' := [vN, vI x1, vN, vN, vN]) 0 rfl ?_
  refine q_forget (L' := [vN, vN, vN, vN, vN]) 1 rfl ?_
  exact kk
theorem b266_159 {d : Nat} {P : Int → sM → sG → Prop} {M : sM} {G : sG} {s0 : Int}  (kk : P s0 M G) : sW (sC d) 266 (QI P) 159 [vN, vN, vN, vN, vN] [vI s0] M G 0 0 := by
  exact q_iret (show sCode 266 159 = some (.ireturn, 1) by decide +kernel) (by decide +kernel) (by decide +kernel) kk
-- 267 AfterTheLastModel.isOrder ()Z
theorem b267_0 {d : Nat} {Q : Option sV → sM → sG → Prop} {M : sM} {G : sG} {a0 : Nat}  (kk : sW (sC d) 267 Q 15 [vO 12 a0, vI (M (a0 + 11) 6), vI 0, vI 0, vI 0, vN, vN] [] M G 0 0) : sW (sC d) 267 Q 0 [vO 12 a0, vN, vN, vN, vN, vN, vN] [] M G 0 0 := by
  refine q_aload_n 1 rfl (show sCode 267 0 = some (.aload_n 0, 1) by decide +kernel) rfl (Nat.le_of_ble_eq_true rfl) ?_
  refine q_getR (vA 0 (a0 + 11) 274) 4 rfl (show sCode 267 1 = some (.getfield 42, 3) by decide +kernel) (show sFR (sKo 267).1 42 = some (12, 23) by decide +kernel) (by decide +kernel) (Or.inl (Or.inl rfl)) rfl ?_
  refine q_bipush 6 rfl (show sCode 267 4 = some (.bipush 6, 2) by decide +kernel) ⟨by decide, by decide⟩ (by decide +kernel) ?_
  refine q_iald 7 rfl (show sCode 267 6 = some (.iaload, 1) by decide +kernel) ⟨by decide, by decide⟩ ?_
  refine q_istore_n [vO 12 a0, vI (M (a0 + 11) 6), vN, vN, vN, vN, vN] 8 rfl (show sCode 267 7 = some (.istore_n 1, 1) by decide +kernel) (Nat.lt_of_lt_of_le (Nat.lt_succ_self _) (Nat.le_of_ble_eq_true rfl)) rfl rfl ?_
  refine q_iconst 9 rfl (show sCode 267 8 = some (.iconst 0, 1) by decide +kernel) ⟨by decide, by decide⟩ ?_
  refine q_istore_n [vO 12 a0, vI (M (a0 + 11) 6), vI 0, vN, vN, vN, vN] 10 rfl (show sCode 267 9 = some (.istore_n 2, 1) by decide +kernel) (Nat.lt_of_lt_of_le (Nat.lt_succ_self _) (Nat.le_of_ble_eq_true rfl)) rfl rfl ?_
  refine q_iconst 11 rfl (show sCode 267 10 = some (.iconst 0, 1) by decide +kernel) ⟨by decide, by decide⟩ ?_
  refine q_istore_n [vO 12 a0, vI (M (a0 + 11) 6), vI 0, vI 0, vN, vN, vN] 12 rfl (show sCode 267 11 = some (.istore_n 3, 1) by decide +kernel) (Nat.lt_of_lt_of_le (Nat.lt_succ_self _) (Nat.le_of_ble_eq_true rfl)) rfl rfl ?_
  refine q_iconst 13 rfl (show sCode 267 12 = some (.iconst 0, 1) by decide +kernel) ⟨by decide, by decide⟩ ?_
  refine q_istore [vO 12 a0, vI (M (a0 + 11) 6), vI 0, vI 0, vI 0, vN, vN] 15 rfl (show sCode 267 13 = some (.istore 4, 2) by decide +kernel) (Nat.lt_of_lt_of_le (Nat.lt_succ_self _) (Nat.le_of_ble_eq_true rfl)) rfl rfl ?_
  exact kk
theorem b267_15 {d : Nat} {Q : Option sV → sM → sG → Prop} {M : sM} {G : sG} {a0 : Nat} {x1 : Int} {x2 : Int} {x3 : Int} {x4 : Int}  (k1 : x1 ≤ x4 → sW (sC d) 267 Q 84 [vO 12 a0, vI x1, vN, vI x3, vN, vN, vN] [] M G 0 0) (k2 : x4 < x1 → sW (sC d) 267 Q 21 [vO 12 a0, vI x1, vI x2, vI x3, vI x4, vN, vN] [] M G 0 0) : sW (sC d) 267 Q 15 [vO 12 a0, vI x1, vI x2, vI x3, vI x4, vN, vN] [] M G 0 0 := by
  refine q_iload 17 rfl (show sCode 267 15 = some (.iload 4, 2) by decide +kernel) rfl ?_
  refine q_iload_n 18 rfl (show sCode 267 17 = some (.iload_n 1, 1) by decide +kernel) rfl ?_
  refine q_icmpge 84 21 rfl (by decide) (show sCode 267 18 = some (.if_icmp .ge 66, 3) by decide +kernel) ?_ ?_
  · intro q; refine q_forget (L' := [vO 12 a0, vI x1, vN, vI x3, vI x4, vN, vN]) 2 rfl ?_; refine q_forget (L' := [vO 12 a0, vI x1, vN, vI x3, vN, vN, vN]) 4 rfl ?_; exact k1 q
  · intro q; exact k2 q
theorem b267_21 {d : Nat} {Q : Option sV → sM → sG → Prop} {M : sM} {G : sG} {a0 : Nat} {x1 : Int} {x2 : Int} {x3 : Int} {x4 : Int} (h1 : 0 ≤ x4 ∧ x4 < 8) (h2 : 0 ≤ x2 ∧ x2 < 8) (h3 : sI (x2 + 1)) (kk : sW (sC d) 267 Q 37 [vO 12 a0, vI x1, vI (x2 + 1), vI x3, vI x4, vN, vN] [] (sUpd M (a0 + 22) x2.toNat (M (a0 + 20) x4.toNat)) G 0 0) : sW (sC d) 267 Q 21 [vO 12 a0, vI x1, vI x2, vI x3, vI x4, vN, vN] [] M G 0 0 := by
  refine q_aload_n 22 rfl (show sCode 267 21 = some (.aload_n 0, 1) by decide +kernel) rfl (Nat.le_of_ble_eq_true rfl) ?_
  refine q_getR (vA 0 (a0 + 22) 8) 25 rfl (show sCode 267 22 = some (.getfield 75, 3) by decide +kernel) (show sFR (sKo 267).1 75 = some (12, 34) by decide +kernel) (by decide +kernel) (Or.inl (Or.inl rfl)) rfl ?_
  refine q_iload_n 26 rfl (show sCode 267 25 = some (.iload_n 2, 1) by decide +kernel) rfl ?_
  refine q_aload_n 27 rfl (show sCode 267 26 = some (.aload_n 0, 1) by decide +kernel) rfl (Nat.le_of_ble_eq_true rfl) ?_
  refine q_getR (vA 0 (a0 + 20) 8) 30 rfl (show sCode 267 27 = some (.getfield 69, 3) by decide +kernel) (show sFR (sKo 267).1 69 = some (12, 32) by decide +kernel) (by decide +kernel) (Or.inl (Or.inl rfl)) rfl ?_
  refine q_iload 32 rfl (show sCode 267 30 = some (.iload 4, 2) by decide +kernel) rfl ?_
  refine q_iald 33 rfl (show sCode 267 32 = some (.iaload, 1) by decide +kernel) h1 ?_
  refine q_iast 34 rfl (show sCode 267 33 = some (.iastore, 1) by decide +kernel) h2 ?_
  refine q_iinc [vO 12 a0, vI x1, vI (x2 + 1), vI x3, vI x4, vN, vN] 37 rfl (show sCode 267 34 = some (.iinc 2 1, 3) by decide +kernel) rfl rfl h3 rfl ?_
  exact kk
theorem b267_37 {d : Nat} {Q : Option sV → sM → sG → Prop} {M : sM} {G : sG} {a0 : Nat} {x1 : Int} {x2 : Int} {x3 : Int} {x4 : Int}  (k1 : x2 ≤ 0 → sW (sC d) 267 Q 78 [vO 12 a0, vI x1, vI x2, vI x3, vI x4, vN, vN] [] M G 0 0) (k2 : 0 < x2 → sW (sC d) 267 Q 41 [vO 12 a0, vI x1, vI x2, vI x3, vI x4, vN, vN] [] M G 0 0) : sW (sC d) 267 Q 37 [vO 12 a0, vI x1, vI x2, vI x3, vI x4, vN, vN] [] M G 0 0 := by
  refine q_iload_n 38 rfl (show sCode 267 37 = some (.iload_n 2, 1) by decide +kernel) rfl ?_
  refine q_ifle 78 41 rfl (by decide) (show sCode 267 38 = some (.ifCond .le 40, 3) by decide +kernel) ?_ ?_
  · intro q; exact k1 q
  · intro q; exact k2 q
theorem b267_41 {d : Nat} {Q : Option sV → sM → sG → Prop} {M : sM} {G : sG} {a0 : Nat} {x1 : Int} {x2 : Int} {x3 : Int} {x4 : Int} (h1 : sI (x2 - 1)) (h2 : 0 ≤ x2 - 1 ∧ x2 - 1 < 8) (h3 : sI (226 + x3)) (h4 : 0 ≤ 226 + x3 ∧ 226 + x3 < 274) (k1 : M (a0 + 22) (x2 - 1).toNat ≠ M (a0 + 11) (226 + x3).toNat → sW (sC d) 267 Q 78 [vO 12 a0, vI x1, vI x2, vI x3, vI x4, vN, vN] [] M G 0 0) (k2 : M (a0 + 22) (x2 - 1).toNat = M (a0 + 11) (226 + x3).toNat → sW (sC d) 267 Q 62 [vO 12 a0, vI x1, vI x2, vI x3, vI x4, vN, vN] [] M G 0 0) : sW (sC d) 267 Q 41 [vO 12 a0, vI x1, vI x2, vI x3, vI x4, vN, vN] [] M G 0 0 := by
  refine q_aload_n 42 rfl (show sCode 267 41 = some (.aload_n 0, 1) by decide +kernel) rfl (Nat.le_of_ble_eq_true rfl) ?_
  refine q_getR (vA 0 (a0 + 22) 8) 45 rfl (show sCode 267 42 = some (.getfield 75, 3) by decide +kernel) (show sFR (sKo 267).1 75 = some (12, 34) by decide +kernel) (by decide +kernel) (Or.inl (Or.inl rfl)) rfl ?_
  refine q_iload_n 46 rfl (show sCode 267 45 = some (.iload_n 2, 1) by decide +kernel) rfl ?_
  refine q_iconst 47 rfl (show sCode 267 46 = some (.iconst 1, 1) by decide +kernel) ⟨by decide, by decide⟩ ?_
  refine q_isub 48 rfl (show sCode 267 47 = some (.isub, 1) by decide +kernel) h1 ?_
  refine q_iald 49 rfl (show sCode 267 48 = some (.iaload, 1) by decide +kernel) h2 ?_
  refine q_aload_n 50 rfl (show sCode 267 49 = some (.aload_n 0, 1) by decide +kernel) rfl (Nat.le_of_ble_eq_true rfl) ?_
  refine q_getR (vA 0 (a0 + 11) 274) 53 rfl (show sCode 267 50 = some (.getfield 42, 3) by decide +kernel) (show sFR (sKo 267).1 42 = some (12, 23) by decide +kernel) (by decide +kernel) (Or.inl (Or.inl rfl)) rfl ?_
  refine q_sipush 56 rfl (show sCode 267 53 = some (.sipush 226, 3) by decide +kernel) ⟨by decide, by decide⟩ (by decide +kernel) ?_
  refine q_iload_n 57 rfl (show sCode 267 56 = some (.iload_n 3, 1) by decide +kernel) rfl ?_
  refine q_iadd 58 rfl (show sCode 267 57 = some (.iadd, 1) by decide +kernel) h3 ?_
  refine q_iald 59 rfl (show sCode 267 58 = some (.iaload, 1) by decide +kernel) h4 ?_
  refine q_icmpne 78 62 rfl (by decide) (show sCode 267 59 = some (.if_icmp .ne 19, 3) by decide +kernel) ?_ ?_
  · intro q; exact k1 q
  · intro q; exact k2 q
theorem b267_62 {d : Nat} {Q : Option sV → sM → sG → Prop} {M : sM} {G : sG} {a0 : Nat} {x1 : Int} {x2 : Int} {x3 : Int} {x4 : Int} (h1 : sI (x2 + (-1))) (h2 : sI (x3 + 1)) (k1 : x3 + 1 ≠ x1 → sW (sC d) 267 Q 37 [vO 12 a0, vI x1, vI (x2 + (-1)), vI (x3 + 1), vI x4, vN, vN] [] M G 0 0) (k2 : x3 + 1 = x1 → sW (sC d) 267 Q 73 [vO 12 a0, vI x1, vN, vI (x3 + 1), vI x4, vN, vN] [] M G 0 0) : sW (sC d) 267 Q 62 [vO 12 a0, vI x1, vI x2, vI x3, vI x4, vN, vN] [] M G 0 0 := by
  refine q_iinc [vO 12 a0, vI x1, vI (x2 + (-1)), vI x3, vI x4, vN, vN] 65 rfl (show sCode 267 62 = some (.iinc 2 (-1), 3) by decide +kernel) rfl rfl h1 rfl ?_
  refine q_iinc [vO 12 a0, vI x1, vI (x2 + (-1)), vI (x3 + 1), vI x4, vN, vN] 68 rfl (show sCode 267 65 = some (.iinc 3 1, 3) by decide +kernel) rfl rfl h2 rfl ?_
  refine q_iload_n 69 rfl (show sCode 267 68 = some (.iload_n 3, 1) by decide +kernel) rfl ?_
  refine q_iload_n 70 rfl (show sCode 267 69 = some (.iload_n 1, 1) by decide +kernel) rfl ?_
  refine q_icmpne 37 73 rfl (by decide) (show sCode 267 70 = some (.if_icmp .ne (-33), 3) by decide +kernel) ?_ ?_
  · intro q; exact k1 q
  · intro q; refine q_forget (L' := [vO 12 a0, vI x1, vN, vI (x3 + 1), vI x4, vN, vN]) 2 rfl ?_; exact k2 q
theorem b267_73 {d : Nat} {Q : Option sV → sM → sG → Prop} {M : sM} {G : sG} {a0 : Nat} {x1 : Int} {x3 : Int} {x4 : Int}  (kk : sW (sC d) 267 Q 37 [vO 12 a0, vI x1, vI 0, vI x3, vI x4, vN, vN] [] M G 0 0) : sW (sC d) 267 Q 73 [vO 12 a0, vI x1, vN, vI x3, vI x4, vN, vN] [] M G 0 0 := by
  refine q_iconst 74 rfl (show sCode 267 73 = some (.iconst 0, 1) by decide +kernel) ⟨by decide, by decide⟩ ?_
  refine q_istore_n [vO 12 a0, vI x1, vI 0, vI x3, vI x4, vN, vN] 75 rfl (show sCode 267 74 = some (.istore_n 2, 1) by decide +kernel) (Nat.lt_of_lt_of_le (Nat.lt_succ_self _) (Nat.le_of_ble_eq_true rfl)) rfl rfl ?_
  refine q_goto 37 (by decide) (show sCode 267 75 = some (.goto (-38), 3) by decide +kernel) ?_
  exact kk
theorem b267_78 {d : Nat} {Q : Option sV → sM → sG → Prop} {M : sM} {G : sG} {a0 : Nat} {x1 : Int} {x2 : Int} {x3 : Int} {x4 : Int} (h1 : sI (x4 + 1)) (kk : sW (sC d) 267 Q 15 [vO 12 a0, vI x1, vI x2, vI x3, vI (x4 + 1), vN, vN] [] M G 0 0) : sW (sC d) 267 Q 78 [vO 12 a0, vI x1, vI x2, vI x3, vI x4, vN, vN] [] M G 0 0 := by
  refine q_iinc [vO 12 a0, vI x1, vI x2, vI x3, vI (x4 + 1), vN, vN] 81 rfl (show sCode 267 78 = some (.iinc 4 1, 3) by decide +kernel) rfl rfl h1 rfl ?_
  refine q_goto 15 (by decide) (show sCode 267 81 = some (.goto (-66), 3) by decide +kernel) ?_
  exact kk
theorem b267_84 {d : Nat} {Q : Option sV → sM → sG → Prop} {M : sM} {G : sG} {a0 : Nat} {x1 : Int} {x3 : Int}  (k1 : x1 ≤ x3 → sW (sC d) 267 Q 91 [vO 12 a0, vN, vN, vN, vN, vN, vN] [] M G 0 0) (k2 : x3 < x1 → sW (sC d) 267 Q 89 [vN, vN, vN, vN, vN, vN, vN] [] M G 0 0) : sW (sC d) 267 Q 84 [vO 12 a0, vI x1, vN, vI x3, vN, vN, vN] [] M G 0 0 := by
  refine q_iload_n 85 rfl (show sCode 267 84 = some (.iload_n 3, 1) by decide +kernel) rfl ?_
  refine q_iload_n 86 rfl (show sCode 267 85 = some (.iload_n 1, 1) by decide +kernel) rfl ?_
  refine q_icmpge 91 89 rfl (by decide) (show sCode 267 86 = some (.if_icmp .ge 5, 3) by decide +kernel) ?_ ?_
  · intro q; refine q_forget (L' := [vO 12 a0, vN, vN, vI x3, vN, vN, vN]) 1 rfl ?_; refine q_forget (L' := [vO 12 a0, vN, vN, vN, vN, vN, vN]) 3 rfl ?_; exact k1 q
  · intro q; refine q_forget (L' := [vN, vI x1, vN, vI x3, vN, vN, vN]) 0 rfl ?_; refine q_forget (L' := [vN, vN, vN, vI x3, vN, vN, vN]) 1 rfl ?_; refine q_forget (L' := [vN, vN, vN, vN, vN, vN, vN]) 3 rfl ?_; exact k2 q
theorem b267_89 {d : Nat} {P : Int → sM → sG → Prop} {M : sM} {G : sG}   (kk : P 0 M G) : sW (sC d) 267 (QI P) 89 [vN, vN, vN, vN, vN, vN, vN] [] M G 0 0 := by
  refine q_iconst 90 rfl (show sCode 267 89 = some (.iconst 0, 1) by decide +kernel) ⟨by decide, by decide⟩ ?_
  exact q_zret (show sCode 267 90 = some (.ireturn, 1) by decide +kernel) (by decide +kernel) (by decide) (by decide +kernel) kk
theorem b267_91 {d : Nat} {Q : Option sV → sM → sG → Prop} {M : sM} {G : sG} {a0 : Nat}  (kk : sW (sC d) 267 Q 94 [vO 12 a0, vN, vN, vN, vI 0, vN, vN] [] M G 0 0) : sW (sC d) 267 Q 91 [vO 12 a0, vN, vN, vN, vN, vN, vN] [] M G 0 0 := by
  refine q_iconst 92 rfl (show sCode 267 91 = some (.iconst 0, 1) by decide +kernel) ⟨by decide, by decide⟩ ?_
  refine q_istore [vO 12 a0, vN, vN, vN, vI 0, vN, vN] 94 rfl (show sCode 267 92 = some (.istore 4, 2) by decide +kernel) (Nat.lt_of_lt_of_le (Nat.lt_succ_self _) (Nat.le_of_ble_eq_true rfl)) rfl rfl ?_
  exact kk
theorem b267_94 {d : Nat} {Q : Option sV → sM → sG → Prop} {M : sM} {G : sG} {a0 : Nat} {x4 : Int}  (k1 : M (a0 + 11) 7 ≤ x4 → sW (sC d) 267 Q 171 [vN, vN, vN, vN, vN, vN, vN] [] M G 0 0) (k2 : x4 < M (a0 + 11) 7 → sW (sC d) 267 Q 106 [vO 12 a0, vN, vN, vN, vI x4, vN, vN] [] M G 0 0) : sW (sC d) 267 Q 94 [vO 12 a0, vN, vN, vN, vI x4, vN, vN] [] M G 0 0 := by
  refine q_iload 96 rfl (show sCode 267 94 = some (.iload 4, 2) by decide +kernel) rfl ?_
  refine q_aload_n 97 rfl (show sCode 267 96 = some (.aload_n 0, 1) by decide +kernel) rfl (Nat.le_of_ble_eq_true rfl) ?_
  refine q_getR (vA 0 (a0 + 11) 274) 100 rfl (show sCode 267 97 = some (.getfield 42, 3) by decide +kernel) (show sFR (sKo 267).1 42 = some (12, 23) by decide +kernel) (by decide +kernel) (Or.inl (Or.inl rfl)) rfl ?_
  refine q_bipush 102 rfl (show sCode 267 100 = some (.bipush 7, 2) by decide +kernel) ⟨by decide, by decide⟩ (by decide +kernel) ?_
  refine q_iald 103 rfl (show sCode 267 102 = some (.iaload, 1) by decide +kernel) ⟨by decide, by decide⟩ ?_
  refine q_icmpge 171 106 rfl (by decide) (show sCode 267 103 = some (.if_icmp .ge 68, 3) by decide +kernel) ?_ ?_
  · intro q; refine q_forget (L' := [vN, vN, vN, vN, vI x4, vN, vN]) 0 rfl ?_; refine q_forget (L' := [vN, vN, vN, vN, vN, vN, vN]) 4 rfl ?_; exact k1 q
  · intro q; exact k2 q
theorem b267_106 {d : Nat} {Q : Option sV → sM → sG → Prop} {M : sM} {G : sG} {a0 : Nat} {x4 : Int} (h1 : sI (2 * x4)) (h2 : sI (234 + (2 * x4))) (h3 : 0 ≤ 234 + (2 * x4) ∧ 234 + (2 * x4) < 274) (kk : sC d 268 [vO 12 a0, vI (M (a0 + 11) (234 + (2 * x4)).toNat)] M G (QI (fun r M1 G1 => sW (sC d) 267 Q 123 [vO 12 a0, vN, vN, vN, vI x4, vN, vN] (vI r :: []) M1 G1 0 0))) : sW (sC d) 267 Q 106 [vO 12 a0, vN, vN, vN, vI x4, vN, vN] [] M G 0 0 := by
  refine q_aload_n 107 rfl (show sCode 267 106 = some (.aload_n 0, 1) by decide +kernel) rfl (Nat.le_of_ble_eq_true rfl) ?_
  refine q_aload_n 108 rfl (show sCode 267 107 = some (.aload_n 0, 1) by decide +kernel) rfl (Nat.le_of_ble_eq_true rfl) ?_
  refine q_getR (vA 0 (a0 + 11) 274) 111 rfl (show sCode 267 108 = some (.getfield 42, 3) by decide +kernel) (show sFR (sKo 267).1 42 = some (12, 23) by decide +kernel) (by decide +kernel) (Or.inl (Or.inl rfl)) rfl ?_
  refine q_sipush 114 rfl (show sCode 267 111 = some (.sipush 234, 3) by decide +kernel) ⟨by decide, by decide⟩ (by decide +kernel) ?_
  refine q_iconst 115 rfl (show sCode 267 114 = some (.iconst 2, 1) by decide +kernel) ⟨by decide, by decide⟩ ?_
  refine q_iload 117 rfl (show sCode 267 115 = some (.iload 4, 2) by decide +kernel) rfl ?_
  refine q_imul 118 rfl (show sCode 267 117 = some (.imul, 1) by decide +kernel) h1 ?_
  refine q_iadd 119 rfl (show sCode 267 118 = some (.iadd, 1) by decide +kernel) h2 ?_
  refine q_iald 120 rfl (show sCode 267 119 = some (.iaload, 1) by decide +kernel) h3 ?_
  exact q_virtI [vI (M (a0 + 11) (234 + (2 * x4)).toNat)] 123 rfl (show sCode 267 120 = some (.invokevirtual 424, 3) by decide +kernel) (show sMR (sKo 267).1 424 = some 268 by decide +kernel) (show 268 < 1000 ∧ sStat 268 = false ∧ sIni 268 = false ∧ sKo 268 = (12, 1, 1, 0, 0) by decide +kernel) rfl (Or.inl rfl) rfl (Nat.le_of_ble_eq_true rfl) rfl rfl rfl (by decide +kernel) kk
theorem b267_123 {d : Nat} {Q : Option sV → sM → sG → Prop} {M : sM} {G : sG} {a0 : Nat} {x4 : Int} {s0 : Int} (h1 : sI (2 * x4)) (h2 : sI (234 + (2 * x4))) (h3 : sI ((234 + (2 * x4)) + 1)) (h4 : 0 ≤ (234 + (2 * x4)) + 1 ∧ (234 + (2 * x4)) + 1 < 274) (kk : sC d 268 [vO 12 a0, vI (M (a0 + 11) ((234 + (2 * x4)) + 1).toNat)] M G (QI (fun r M1 G1 => sW (sC d) 267 Q 144 [vO 12 a0, vN, vN, vN, vI x4, vI s0, vN] (vI r :: []) M1 G1 0 0))) : sW (sC d) 267 Q 123 [vO 12 a0, vN, vN, vN, vI x4, vN, vN] [vI s0] M G 0 0 := by
  refine q_istore [vO 12 a0, vN, vN, vN, vI x4, vI s0, vN] 125 rfl (show sCode 267 123 = some (.istore 5, 2) by decide +kernel) (Nat.lt_of_lt_of_le (Nat.lt_succ_self _) (Nat.le_of_ble_eq_true rfl)) rfl rfl ?_
  refine q_aload_n 126 rfl (show sCode 267 125 = some (.aload_n 0, 1) by decide +kernel) rfl (Nat.le_of_ble_eq_true rfl) ?_
  refine q_aload_n 127 rfl (show sCode 267 126 = some (.aload_n 0, 1) by decide +kernel) rfl (Nat.le_of_ble_eq_true rfl) ?_
  refine q_getR (vA 0 (a0 + 11) 274) 130 rfl (show sCode 267 127 = some (.getfield 42, 3) by decide +kernel) (show sFR (sKo 267).1 42 = some (12, 23) by decide +kernel) (by decide +kernel) (Or.inl (Or.inl rfl)) rfl ?_
  refine q_sipush 133 rfl (show sCode 267 130 = some (.sipush 234, 3) by decide +kernel) ⟨by decide, by decide⟩ (by decide +kernel) ?_
  refine q_iconst 134 rfl (show sCode 267 133 = some (.iconst 2, 1) by decide +kernel) ⟨by decide, by decide⟩ ?_
  refine q_iload 136 rfl (show sCode 267 134 = some (.iload 4, 2) by decide +kernel) rfl ?_
  refine q_imul 137 rfl (show sCode 267 136 = some (.imul, 1) by decide +kernel) h1 ?_
  refine q_iadd 138 rfl (show sCode 267 137 = some (.iadd, 1) by decide +kernel) h2 ?_
  refine q_iconst 139 rfl (show sCode 267 138 = some (.iconst 1, 1) by decide +kernel) ⟨by decide, by decide⟩ ?_
  refine q_iadd 140 rfl (show sCode 267 139 = some (.iadd, 1) by decide +kernel) h3 ?_
  refine q_iald 141 rfl (show sCode 267 140 = some (.iaload, 1) by decide +kernel) h4 ?_
  exact q_virtI [vI (M (a0 + 11) ((234 + (2 * x4)) + 1).toNat)] 144 rfl (show sCode 267 141 = some (.invokevirtual 424, 3) by decide +kernel) (show sMR (sKo 267).1 424 = some 268 by decide +kernel) (show 268 < 1000 ∧ sStat 268 = false ∧ sIni 268 = false ∧ sKo 268 = (12, 1, 1, 0, 0) by decide +kernel) rfl (Or.inl rfl) rfl (Nat.le_of_ble_eq_true rfl) rfl rfl rfl (by decide +kernel) kk
theorem b267_144 {d : Nat} {Q : Option sV → sM → sG → Prop} {M : sM} {G : sG} {a0 : Nat} {x4 : Int} {x5 : Int} {s0 : Int}  (k1 : x5 < 0 → sW (sC d) 267 Q 165 [vO 12 a0, vN, vN, vN, vI x4, vN, vN] [] M G 0 0) (k2 : 0 ≤ x5 → sW (sC d) 267 Q 151 [vO 12 a0, vN, vN, vN, vI x4, vI x5, vI s0] [] M G 0 0) : sW (sC d) 267 Q 144 [vO 12 a0, vN, vN, vN, vI x4, vI x5, vN] [vI s0] M G 0 0 := by
  refine q_istore [vO 12 a0, vN, vN, vN, vI x4, vI x5, vI s0] 146 rfl (show sCode 267 144 = some (.istore 6, 2) by decide +kernel) (Nat.lt_of_lt_of_le (Nat.lt_succ_self _) (Nat.le_of_ble_eq_true rfl)) rfl rfl ?_
  refine q_iload 148 rfl (show sCode 267 146 = some (.iload 5, 2) by decide +kernel) rfl ?_
  refine q_iflt 165 151 rfl (by decide) (show sCode 267 148 = some (.ifCond .lt 17, 3) by decide +kernel) ?_ ?_
  · intro q; refine q_forget (L' := [vO 12 a0, vN, vN, vN, vI x4, vN, vI s0]) 5 rfl ?_; refine q_forget (L' := [vO 12 a0, vN, vN, vN, vI x4, vN, vN]) 6 rfl ?_; exact k1 q
  · intro q; exact k2 q
theorem b267_151 {d : Nat} {Q : Option sV → sM → sG → Prop} {M : sM} {G : sG} {a0 : Nat} {x4 : Int} {x5 : Int} {x6 : Int}  (k1 : x6 < 0 → sW (sC d) 267 Q 165 [vO 12 a0, vN, vN, vN, vI x4, vN, vN] [] M G 0 0) (k2 : 0 ≤ x6 → sW (sC d) 267 Q 156 [vO 12 a0, vN, vN, vN, vI x4, vI x5, vI x6] [] M G 0 0) : sW (sC d) 267 Q 151 [vO 12 a0, vN, vN, vN, vI x4, vI x5, vI x6] [] M G 0 0 := by
  refine q_iload 153 rfl (show sCode 267 151 = some (.iload 6, 2) by decide +kernel) rfl ?_
  refine q_iflt 165 156 rfl (by decide) (show sCode 267 153 = some (.ifCond .lt 12, 3) by decide +kernel) ?_ ?_
  · intro q; refine q_forget (L' := [vO 12 a0, vN, vN, vN, vI x4, vN, vI x6]) 5 rfl ?_; refine q_forget (L' := [vO 12 a0, vN, vN, vN, vI x4, vN, vN]) 6 rfl ?_; exact k1 q
  · intro q; exact k2 q
theorem b267_156 {d : Nat} {Q : Option sV → sM → sG → Prop} {M : sM} {G : sG} {a0 : Nat} {x4 : Int} {x5 : Int} {x6 : Int}  (k1 : x5 ≤ x6 → sW (sC d) 267 Q 165 [vO 12 a0, vN, vN, vN, vI x4, vN, vN] [] M G 0 0) (k2 : x6 < x5 → sW (sC d) 267 Q 163 [vN, vN, vN, vN, vN, vN, vN] [] M G 0 0) : sW (sC d) 267 Q 156 [vO 12 a0, vN, vN, vN, vI x4, vI x5, vI x6] [] M G 0 0 := by
  refine q_iload 158 rfl (show sCode 267 156 = some (.iload 5, 2) by decide +kernel) rfl ?_
  refine q_iload 160 rfl (show sCode 267 158 = some (.iload 6, 2) by decide +kernel) rfl ?_
  refine q_icmple 165 163 rfl (by decide) (show sCode 267 160 = some (.if_icmp .le 5, 3) by decide +kernel) ?_ ?_
  · intro q; refine q_forget (L' := [vO 12 a0, vN, vN, vN, vI x4, vN, vI x6]) 5 rfl ?_; refine q_forget (L' := [vO 12 a0, vN, vN, vN, vI x4, vN, vN]) 6 rfl ?_; exact k1 q
  · intro q; refine q_forget (L' := [vN, vN, vN, vN, vI x4, vI x5, vI x6]) 0 rfl ?_; refine q_forget (L' := [vN, vN, vN, vN, vN, vI x5, vI x6]) 4 rfl ?_; refine q_forget (L' := [vN, vN, vN, vN, vN, vN, vI x6]) 5 rfl ?_; refine q_forget (L' := [vN, vN, vN, vN, vN, vN, vN]) 6 rfl ?_; exact k2 q
theorem b267_163 {d : Nat} {P : Int → sM → sG → Prop} {M : sM} {G : sG}   (kk : P 0 M G) : sW (sC d) 267 (QI P) 163 [vN, vN, vN, vN, vN, vN, vN] [] M G 0 0 := by
  refine q_iconst 164 rfl (show sCode 267 163 = some (.iconst 0, 1) by decide +kernel) ⟨by decide, by decide⟩ ?_
  exact q_zret (show sCode 267 164 = some (.ireturn, 1) by decide +kernel) (by decide +kernel) (by decide) (by decide +kernel) kk
theorem b267_165 {d : Nat} {Q : Option sV → sM → sG → Prop} {M : sM} {G : sG} {a0 : Nat} {x4 : Int} (h1 : sI (x4 + 1)) (kk : sW (sC d) 267 Q 94 [vO 12 a0, vN, vN, vN, vI (x4 + 1), vN, vN] [] M G 0 0) : sW (sC d) 267 Q 165 [vO 12 a0, vN, vN, vN, vI x4, vN, vN] [] M G 0 0 := by
  refine q_iinc [vO 12 a0, vN, vN, vN, vI (x4 + 1), vN, vN] 168 rfl (show sCode 267 165 = some (.iinc 4 1, 3) by decide +kernel) rfl rfl h1 rfl ?_
  refine q_goto 94 (by decide) (show sCode 267 168 = some (.goto (-74), 3) by decide +kernel) ?_
  exact kk
theorem b267_171 {d : Nat} {P : Int → sM → sG → Prop} {M : sM} {G : sG}   (kk : P 1 M G) : sW (sC d) 267 (QI P) 171 [vN, vN, vN, vN, vN, vN, vN] [] M G 0 0 := by
  refine q_iconst 172 rfl (show sCode 267 171 = some (.iconst 1, 1) by decide +kernel) ⟨by decide, by decide⟩ ?_
  exact q_zret (show sCode 267 172 = some (.ireturn, 1) by decide +kernel) (by decide +kernel) (by decide) (by decide +kernel) kk
-- 268 AfterTheLastModel.placeIn (I)I
theorem b268_0 {d : Nat} {Q : Option sV → sM → sG → Prop} {M : sM} {G : sG} {a0 : Nat} {x1 : Int}  (kk : sW (sC d) 268 Q 2 [vO 12 a0, vI x1, vI 0] [] M G 0 0) : sW (sC d) 268 Q 0 [vO 12 a0, vI x1, vN] [] M G 0 0 := by
  refine q_iconst 1 rfl (show sCode 268 0 = some (.iconst 0, 1) by decide +kernel) ⟨by decide, by decide⟩ ?_
  refine q_istore_n [vO 12 a0, vI x1, vI 0] 2 rfl (show sCode 268 1 = some (.istore_n 2, 1) by decide +kernel) (Nat.lt_of_lt_of_le (Nat.lt_succ_self _) (Nat.le_of_ble_eq_true rfl)) rfl rfl ?_
  exact kk
theorem b268_2 {d : Nat} {Q : Option sV → sM → sG → Prop} {M : sM} {G : sG} {a0 : Nat} {x1 : Int} {x2 : Int}  (k1 : M (a0 + 11) 6 ≤ x2 → sW (sC d) 268 Q 31 [vN, vN, vN] [] M G 0 0) (k2 : x2 < M (a0 + 11) 6 → sW (sC d) 268 Q 13 [vO 12 a0, vI x1, vI x2] [] M G 0 0) : sW (sC d) 268 Q 2 [vO 12 a0, vI x1, vI x2] [] M G 0 0 := by
  refine q_iload_n 3 rfl (show sCode 268 2 = some (.iload_n 2, 1) by decide +kernel) rfl ?_
  refine q_aload_n 4 rfl (show sCode 268 3 = some (.aload_n 0, 1) by decide +kernel) rfl (Nat.le_of_ble_eq_true rfl) ?_
  refine q_getR (vA 0 (a0 + 11) 274) 7 rfl (show sCode 268 4 = some (.getfield 42, 3) by decide +kernel) (show sFR (sKo 268).1 42 = some (12, 23) by decide +kernel) (by decide +kernel) (Or.inl (Or.inl rfl)) rfl ?_
  refine q_bipush 9 rfl (show sCode 268 7 = some (.bipush 6, 2) by decide +kernel) ⟨by decide, by decide⟩ (by decide +kernel) ?_
  refine q_iald 10 rfl (show sCode 268 9 = some (.iaload, 1) by decide +kernel) ⟨by decide, by decide⟩ ?_
  refine q_icmpge 31 13 rfl (by decide) (show sCode 268 10 = some (.if_icmp .ge 21, 3) by decide +kernel) ?_ ?_
  · intro q; refine q_forget (L' := [vN, vI x1, vI x2]) 0 rfl ?_; refine q_forget (L' := [vN, vN, vI x2]) 1 rfl ?_; refine q_forget (L' := [vN, vN, vN]) 2 rfl ?_; exact k1 q
  · intro q; exact k2 q
theorem b268_13 {d : Nat} {Q : Option sV → sM → sG → Prop} {M : sM} {G : sG} {a0 : Nat} {x1 : Int} {x2 : Int} (h1 : 0 ≤ x2 ∧ x2 < 8) (k1 : M (a0 + 20) x2.toNat ≠ x1 → sW (sC d) 268 Q 25 [vO 12 a0, vI x1, vI x2] [] M G 0 0) (k2 : M (a0 + 20) x2.toNat = x1 → sW (sC d) 268 Q 23 [vN, vN, vI x2] [] M G 0 0) : sW (sC d) 268 Q 13 [vO 12 a0, vI x1, vI x2] [] M G 0 0 := by
  refine q_aload_n 14 rfl (show sCode 268 13 = some (.aload_n 0, 1) by decide +kernel) rfl (Nat.le_of_ble_eq_true rfl) ?_
  refine q_getR (vA 0 (a0 + 20) 8) 17 rfl (show sCode 268 14 = some (.getfield 69, 3) by decide +kernel) (show sFR (sKo 268).1 69 = some (12, 32) by decide +kernel) (by decide +kernel) (Or.inl (Or.inl rfl)) rfl ?_
  refine q_iload_n 18 rfl (show sCode 268 17 = some (.iload_n 2, 1) by decide +kernel) rfl ?_
  refine q_iald 19 rfl (show sCode 268 18 = some (.iaload, 1) by decide +kernel) h1 ?_
  refine q_iload_n 20 rfl (show sCode 268 19 = some (.iload_n 1, 1) by decide +kernel) rfl ?_
  refine q_icmpne 25 23 rfl (by decide) (show sCode 268 20 = some (.if_icmp .ne 5, 3) by decide +kernel) ?_ ?_
  · intro q; exact k1 q
  · intro q; refine q_forget (L' := [vN, vI x1, vI x2]) 0 rfl ?_; refine q_forget (L' := [vN, vN, vI x2]) 1 rfl ?_; exact k2 q
theorem b268_23 {d : Nat} {P : Int → sM → sG → Prop} {M : sM} {G : sG} {x2 : Int}  (kk : P x2 M G) : sW (sC d) 268 (QI P) 23 [vN, vN, vI x2] [] M G 0 0 := by
  refine q_iload_n 24 rfl (show sCode 268 23 = some (.iload_n 2, 1) by decide +kernel) rfl ?_
  exact q_iret (show sCode 268 24 = some (.ireturn, 1) by decide +kernel) (by decide +kernel) (by decide +kernel) kk
theorem b268_25 {d : Nat} {Q : Option sV → sM → sG → Prop} {M : sM} {G : sG} {a0 : Nat} {x1 : Int} {x2 : Int} (h1 : sI (x2 + 1)) (kk : sW (sC d) 268 Q 2 [vO 12 a0, vI x1, vI (x2 + 1)] [] M G 0 0) : sW (sC d) 268 Q 25 [vO 12 a0, vI x1, vI x2] [] M G 0 0 := by
  refine q_iinc [vO 12 a0, vI x1, vI (x2 + 1)] 28 rfl (show sCode 268 25 = some (.iinc 2 1, 3) by decide +kernel) rfl rfl h1 rfl ?_
  refine q_goto 2 (by decide) (show sCode 268 28 = some (.goto (-26), 3) by decide +kernel) ?_
  exact kk
theorem b268_31 {d : Nat} {P : Int → sM → sG → Prop} {M : sM} {G : sG}   (kk : P (-1) M G) : sW (sC d) 268 (QI P) 31 [vN, vN, vN] [] M G 0 0 := by
  refine q_iconst 32 rfl (show sCode 268 31 = some (.iconst (-1), 1) by decide +kernel) ⟨by decide, by decide⟩ ?_
  exact q_iret (show sCode 268 32 = some (.ireturn, 1) by decide +kernel) (by decide +kernel) (by decide +kernel) kk
-- 269 AfterTheLastModel.isNextOrder ()Z
theorem b269_0 {d : Nat} {Q : Option sV → sM → sG → Prop} {M : sM} {G : sG} {a0 : Nat} (h1 : sI ((M (a0 + 11) 6) - 2)) (kk : sW (sC d) 269 Q 10 [vO 12 a0, vI ((M (a0 + 11) 6) - 2), vN, vN, vN, vN] [] M G 0 0) : sW (sC d) 269 Q 0 [vO 12 a0, vN, vN, vN, vN, vN] [] M G 0 0 := by
  refine q_aload_n 1 rfl (show sCode 269 0 = some (.aload_n 0, 1) by decide +kernel) rfl (Nat.le_of_ble_eq_true rfl) ?_
  refine q_getR (vA 0 (a0 + 11) 274) 4 rfl (show sCode 269 1 = some (.getfield 42, 3) by decide +kernel) (show sFR (sKo 269).1 42 = some (12, 23) by decide +kernel) (by decide +kernel) (Or.inl (Or.inl rfl)) rfl ?_
  refine q_bipush 6 rfl (show sCode 269 4 = some (.bipush 6, 2) by decide +kernel) ⟨by decide, by decide⟩ (by decide +kernel) ?_
  refine q_iald 7 rfl (show sCode 269 6 = some (.iaload, 1) by decide +kernel) ⟨by decide, by decide⟩ ?_
  refine q_iconst 8 rfl (show sCode 269 7 = some (.iconst 2, 1) by decide +kernel) ⟨by decide, by decide⟩ ?_
  refine q_isub 9 rfl (show sCode 269 8 = some (.isub, 1) by decide +kernel) h1 ?_
  refine q_istore_n [vO 12 a0, vI ((M (a0 + 11) 6) - 2), vN, vN, vN, vN] 10 rfl (show sCode 269 9 = some (.istore_n 1, 1) by decide +kernel) (Nat.lt_of_lt_of_le (Nat.lt_succ_self _) (Nat.le_of_ble_eq_true rfl)) rfl rfl ?_
  exact kk
theorem b269_10 {d : Nat} {Q : Option sV → sM → sG → Prop} {M : sM} {G : sG} {a0 : Nat} {x1 : Int}  (k1 : x1 < 0 → sW (sC d) 269 Q 37 [vO 12 a0, vI x1, vN, vN, vN, vN] [] M G 0 0) (k2 : 0 ≤ x1 → sW (sC d) 269 Q 14 [vO 12 a0, vI x1, vN, vN, vN, vN] [] M G 0 0) : sW (sC d) 269 Q 10 [vO 12 a0, vI x1, vN, vN, vN, vN] [] M G 0 0 := by
  refine q_iload_n 11 rfl (show sCode 269 10 = some (.iload_n 1, 1) by decide +kernel) rfl ?_
  refine q_iflt 37 14 rfl (by decide) (show sCode 269 11 = some (.ifCond .lt 26, 3) by decide +kernel) ?_ ?_
  · intro q; exact k1 q
  · intro q; exact k2 q
theorem b269_14 {d : Nat} {Q : Option sV → sM → sG → Prop} {M : sM} {G : sG} {a0 : Nat} {x1 : Int} (h1 : 0 ≤ x1 ∧ x1 < 8) (h2 : sI (x1 + 1)) (h3 : 0 ≤ x1 + 1 ∧ x1 + 1 < 8) (k1 : M (a0 + 20) x1.toNat ≤ M (a0 + 20) (x1 + 1).toNat → sW (sC d) 269 Q 37 [vO 12 a0, vI x1, vN, vN, vN, vN] [] M G 0 0) (k2 : M (a0 + 20) (x1 + 1).toNat < M (a0 + 20) x1.toNat → sW (sC d) 269 Q 31 [vO 12 a0, vI x1, vN, vN, vN, vN] [] M G 0 0) : sW (sC d) 269 Q 14 [vO 12 a0, vI x1, vN, vN, vN, vN] [] M G 0 0 := by
  refine q_aload_n 15 rfl (show sCode 269 14 = some (.aload_n 0, 1) by decide +kernel) rfl (Nat.le_of_ble_eq_true rfl) ?_
  refine q_getR (vA 0 (a0 + 20) 8) 18 rfl (show sCode 269 15 = some (.getfield 69, 3) by decide +kernel) (show sFR (sKo 269).1 69 = some (12, 32) by decide +kernel) (by decide +kernel) (Or.inl (Or.inl rfl)) rfl ?_
  refine q_iload_n 19 rfl (show sCode 269 18 = some (.iload_n 1, 1) by decide +kernel) rfl ?_
  refine q_iald 20 rfl (show sCode 269 19 = some (.iaload, 1) by decide +kernel) h1 ?_
  refine q_aload_n 21 rfl (show sCode 269 20 = some (.aload_n 0, 1) by decide +kernel) rfl (Nat.le_of_ble_eq_true rfl) ?_
  refine q_getR (vA 0 (a0 + 20) 8) 24 rfl (show sCode 269 21 = some (.getfield 69, 3) by decide +kernel) (show sFR (sKo 269).1 69 = some (12, 32) by decide +kernel) (by decide +kernel) (Or.inl (Or.inl rfl)) rfl ?_
  refine q_iload_n 25 rfl (show sCode 269 24 = some (.iload_n 1, 1) by decide +kernel) rfl ?_
  refine q_iconst 26 rfl (show sCode 269 25 = some (.iconst 1, 1) by decide +kernel) ⟨by decide, by decide⟩ ?_
  refine q_iadd 27 rfl (show sCode 269 26 = some (.iadd, 1) by decide +kernel) h2 ?_
  refine q_iald 28 rfl (show sCode 269 27 = some (.iaload, 1) by decide +kernel) h3 ?_
  refine q_icmple 37 31 rfl (by decide) (show sCode 269 28 = some (.if_icmp .le 9, 3) by decide +kernel) ?_ ?_
  · intro q; exact k1 q
  · intro q; exact k2 q
theorem b269_31 {d : Nat} {Q : Option sV → sM → sG → Prop} {M : sM} {G : sG} {a0 : Nat} {x1 : Int} (h1 : sI (x1 + (-1))) (kk : sW (sC d) 269 Q 10 [vO 12 a0, vI (x1 + (-1)), vN, vN, vN, vN] [] M G 0 0) : sW (sC d) 269 Q 31 [vO 12 a0, vI x1, vN, vN, vN, vN] [] M G 0 0 := by
  refine q_iinc [vO 12 a0, vI (x1 + (-1)), vN, vN, vN, vN] 34 rfl (show sCode 269 31 = some (.iinc 1 (-1), 3) by decide +kernel) rfl rfl h1 rfl ?_
  refine q_goto 10 (by decide) (show sCode 269 34 = some (.goto (-24), 3) by decide +kernel) ?_
  exact kk
theorem b269_37 {d : Nat} {Q : Option sV → sM → sG → Prop} {M : sM} {G : sG} {a0 : Nat} {x1 : Int}  (k1 : 0 ≤ x1 → sW (sC d) 269 Q 43 [vO 12 a0, vI x1, vN, vN, vN, vN] [] M G 0 0) (k2 : x1 < 0 → sW (sC d) 269 Q 41 [vN, vN, vN, vN, vN, vN] [] M G 0 0) : sW (sC d) 269 Q 37 [vO 12 a0, vI x1, vN, vN, vN, vN] [] M G 0 0 := by
  refine q_iload_n 38 rfl (show sCode 269 37 = some (.iload_n 1, 1) by decide +kernel) rfl ?_
  refine q_ifge 43 41 rfl (by decide) (show sCode 269 38 = some (.ifCond .ge 5, 3) by decide +kernel) ?_ ?_
  · intro q; exact k1 q
  · intro q; refine q_forget (L' := [vN, vI x1, vN, vN, vN, vN]) 0 rfl ?_; refine q_forget (L' := [vN, vN, vN, vN, vN, vN]) 1 rfl ?_; exact k2 q
theorem b269_41 {d : Nat} {P : Int → sM → sG → Prop} {M : sM} {G : sG}   (kk : P 0 M G) : sW (sC d) 269 (QI P) 41 [vN, vN, vN, vN, vN, vN] [] M G 0 0 := by
  refine q_iconst 42 rfl (show sCode 269 41 = some (.iconst 0, 1) by decide +kernel) ⟨by decide, by decide⟩ ?_
  exact q_zret (show sCode 269 42 = some (.ireturn, 1) by decide +kernel) (by decide +kernel) (by decide) (by decide +kernel) kk
theorem b269_43 {d : Nat} {Q : Option sV → sM → sG → Prop} {M : sM} {G : sG} {a0 : Nat} {x1 : Int} (h1 : sI ((M (a0 + 11) 6) - 1)) (kk : sW (sC d) 269 Q 53 [vO 12 a0, vI x1, vI ((M (a0 + 11) 6) - 1), vN, vN, vN] [] M G 0 0) : sW (sC d) 269 Q 43 [vO 12 a0, vI x1, vN, vN, vN, vN] [] M G 0 0 := by
  refine q_aload_n 44 rfl (show sCode 269 43 = some (.aload_n 0, 1) by decide +kernel) rfl (Nat.le_of_ble_eq_true rfl) ?_
  refine q_getR (vA 0 (a0 + 11) 274) 47 rfl (show sCode 269 44 = some (.getfield 42, 3) by decide +kernel) (show sFR (sKo 269).1 42 = some (12, 23) by decide +kernel) (by decide +kernel) (Or.inl (Or.inl rfl)) rfl ?_
  refine q_bipush 49 rfl (show sCode 269 47 = some (.bipush 6, 2) by decide +kernel) ⟨by decide, by decide⟩ (by decide +kernel) ?_
  refine q_iald 50 rfl (show sCode 269 49 = some (.iaload, 1) by decide +kernel) ⟨by decide, by decide⟩ ?_
  refine q_iconst 51 rfl (show sCode 269 50 = some (.iconst 1, 1) by decide +kernel) ⟨by decide, by decide⟩ ?_
  refine q_isub 52 rfl (show sCode 269 51 = some (.isub, 1) by decide +kernel) h1 ?_
  refine q_istore_n [vO 12 a0, vI x1, vI ((M (a0 + 11) 6) - 1), vN, vN, vN] 53 rfl (show sCode 269 52 = some (.istore_n 2, 1) by decide +kernel) (Nat.lt_of_lt_of_le (Nat.lt_succ_self _) (Nat.le_of_ble_eq_true rfl)) rfl rfl ?_
  exact kk
theorem b269_53 {d : Nat} {Q : Option sV → sM → sG → Prop} {M : sM} {G : sG} {a0 : Nat} {x1 : Int} {x2 : Int} (h1 : 0 ≤ x2 ∧ x2 < 8) (h2 : 0 ≤ x1 ∧ x1 < 8) (k1 : M (a0 + 20) x1.toNat ≤ M (a0 + 20) x2.toNat → sW (sC d) 269 Q 74 [vO 12 a0, vI x1, vI x2, vN, vN, vN] [] M G 0 0) (k2 : M (a0 + 20) x2.toNat < M (a0 + 20) x1.toNat → sW (sC d) 269 Q 68 [vO 12 a0, vI x1, vI x2, vN, vN, vN] [] M G 0 0) : sW (sC d) 269 Q 53 [vO 12 a0, vI x1, vI x2, vN, vN, vN] [] M G 0 0 := by
  refine q_aload_n 54 rfl (show sCode 269 53 = some (.aload_n 0, 1) by decide +kernel) rfl (Nat.le_of_ble_eq_true rfl) ?_
  refine q_getR (vA 0 (a0 + 20) 8) 57 rfl (show sCode 269 54 = some (.getfield 69, 3) by decide +kernel) (show sFR (sKo 269).1 69 = some (12, 32) by decide +kernel) (by decide +kernel) (Or.inl (Or.inl rfl)) rfl ?_
  refine q_iload_n 58 rfl (show sCode 269 57 = some (.iload_n 2, 1) by decide +kernel) rfl ?_
  refine q_iald 59 rfl (show sCode 269 58 = some (.iaload, 1) by decide +kernel) h1 ?_
  refine q_aload_n 60 rfl (show sCode 269 59 = some (.aload_n 0, 1) by decide +kernel) rfl (Nat.le_of_ble_eq_true rfl) ?_
  refine q_getR (vA 0 (a0 + 20) 8) 63 rfl (show sCode 269 60 = some (.getfield 69, 3) by decide +kernel) (show sFR (sKo 269).1 69 = some (12, 32) by decide +kernel) (by decide +kernel) (Or.inl (Or.inl rfl)) rfl ?_
  refine q_iload_n 64 rfl (show sCode 269 63 = some (.iload_n 1, 1) by decide +kernel) rfl ?_
  refine q_iald 65 rfl (show sCode 269 64 = some (.iaload, 1) by decide +kernel) h2 ?_
  refine q_icmpge 74 68 rfl (by decide) (show sCode 269 65 = some (.if_icmp .ge 9, 3) by decide +kernel) ?_ ?_
  · intro q; exact k1 q
  · intro q; exact k2 q
theorem b269_68 {d : Nat} {Q : Option sV → sM → sG → Prop} {M : sM} {G : sG} {a0 : Nat} {x1 : Int} {x2 : Int} (h1 : sI (x2 + (-1))) (kk : sW (sC d) 269 Q 53 [vO 12 a0, vI x1, vI (x2 + (-1)), vN, vN, vN] [] M G 0 0) : sW (sC d) 269 Q 68 [vO 12 a0, vI x1, vI x2, vN, vN, vN] [] M G 0 0 := by
  refine q_iinc [vO 12 a0, vI x1, vI (x2 + (-1)), vN, vN, vN] 71 rfl (show sCode 269 68 = some (.iinc 2 (-1), 3) by decide +kernel) rfl rfl h1 rfl ?_
  refine q_goto 53 (by decide) (show sCode 269 71 = some (.goto (-18), 3) by decide +kernel) ?_
  exact kk
theorem b269_74 {d : Nat} {Q : Option sV → sM → sG → Prop} {M : sM} {G : sG} {a0 : Nat} {x1 : Int} {x2 : Int} (h1 : 0 ≤ x1 ∧ x1 < 8) (h2 : 0 ≤ x2 ∧ x2 < 8) (h3 : 0 ≤ x1 ∧ x1 < 8) (h4 : 0 ≤ x2 ∧ x2 < 8) (h5 : sI (x1 + 1)) (h6 : sI (((sUpd (sUpd M (a0 + 20) x1.toNat (M (a0 + 20) x2.toNat)) (a0 + 20) x2.toNat (M (a0 + 20) x1.toNat)) (a0 + 11) 6) - 1)) (kk : sW (sC d) 269 Q 116 [vO 12 a0, vN, vN, vN, vI (x1 + 1), vI (((sUpd (sUpd M (a0 + 20) x1.toNat (M (a0 + 20) x2.toNat)) (a0 + 20) x2.toNat (M (a0 + 20) x1.toNat)) (a0 + 11) 6) - 1)] [] (sUpd (sUpd M (a0 + 20) x1.toNat (M (a0 + 20) x2.toNat)) (a0 + 20) x2.toNat (M (a0 + 20) x1.toNat)) G 0 0) : sW (sC d) 269 Q 74 [vO 12 a0, vI x1, vI x2, vN, vN, vN] [] M G 0 0 := by
  refine q_aload_n 75 rfl (show sCode 269 74 = some (.aload_n 0, 1) by decide +kernel) rfl (Nat.le_of_ble_eq_true rfl) ?_
  refine q_getR (vA 0 (a0 + 20) 8) 78 rfl (show sCode 269 75 = some (.getfield 69, 3) by decide +kernel) (show sFR (sKo 269).1 69 = some (12, 32) by decide +kernel) (by decide +kernel) (Or.inl (Or.inl rfl)) rfl ?_
  refine q_iload_n 79 rfl (show sCode 269 78 = some (.iload_n 1, 1) by decide +kernel) rfl ?_
  refine q_iald 80 rfl (show sCode 269 79 = some (.iaload, 1) by decide +kernel) h1 ?_
  refine q_istore_n [vO 12 a0, vI x1, vI x2, vI (M (a0 + 20) x1.toNat), vN, vN] 81 rfl (show sCode 269 80 = some (.istore_n 3, 1) by decide +kernel) (Nat.lt_of_lt_of_le (Nat.lt_succ_self _) (Nat.le_of_ble_eq_true rfl)) rfl rfl ?_
  refine q_aload_n 82 rfl (show sCode 269 81 = some (.aload_n 0, 1) by decide +kernel) rfl (Nat.le_of_ble_eq_true rfl) ?_
  refine q_getR (vA 0 (a0 + 20) 8) 85 rfl (show sCode 269 82 = some (.getfield 69, 3) by decide +kernel) (show sFR (sKo 269).1 69 = some (12, 32) by decide +kernel) (by decide +kernel) (Or.inl (Or.inl rfl)) rfl ?_
  refine q_iload_n 86 rfl (show sCode 269 85 = some (.iload_n 1, 1) by decide +kernel) rfl ?_
  refine q_aload_n 87 rfl (show sCode 269 86 = some (.aload_n 0, 1) by decide +kernel) rfl (Nat.le_of_ble_eq_true rfl) ?_
  refine q_getR (vA 0 (a0 + 20) 8) 90 rfl (show sCode 269 87 = some (.getfield 69, 3) by decide +kernel) (show sFR (sKo 269).1 69 = some (12, 32) by decide +kernel) (by decide +kernel) (Or.inl (Or.inl rfl)) rfl ?_
  refine q_iload_n 91 rfl (show sCode 269 90 = some (.iload_n 2, 1) by decide +kernel) rfl ?_
  refine q_iald 92 rfl (show sCode 269 91 = some (.iaload, 1) by decide +kernel) h2 ?_
  refine q_iast 93 rfl (show sCode 269 92 = some (.iastore, 1) by decide +kernel) h3 ?_
  refine q_aload_n 94 rfl (show sCode 269 93 = some (.aload_n 0, 1) by decide +kernel) rfl (Nat.le_of_ble_eq_true rfl) ?_
  refine q_getR (vA 0 (a0 + 20) 8) 97 rfl (show sCode 269 94 = some (.getfield 69, 3) by decide +kernel) (show sFR (sKo 269).1 69 = some (12, 32) by decide +kernel) (by decide +kernel) (Or.inl (Or.inl rfl)) rfl ?_
  refine q_iload_n 98 rfl (show sCode 269 97 = some (.iload_n 2, 1) by decide +kernel) rfl ?_
  refine q_iload_n 99 rfl (show sCode 269 98 = some (.iload_n 3, 1) by decide +kernel) rfl ?_
  refine q_iast 100 rfl (show sCode 269 99 = some (.iastore, 1) by decide +kernel) h4 ?_
  refine q_iload_n 101 rfl (show sCode 269 100 = some (.iload_n 1, 1) by decide +kernel) rfl ?_
  refine q_iconst 102 rfl (show sCode 269 101 = some (.iconst 1, 1) by decide +kernel) ⟨by decide, by decide⟩ ?_
  refine q_iadd 103 rfl (show sCode 269 102 = some (.iadd, 1) by decide +kernel) h5 ?_
  refine q_istore [vO 12 a0, vI x1, vI x2, vI (M (a0 + 20) x1.toNat), vI (x1 + 1), vN] 105 rfl (show sCode 269 103 = some (.istore 4, 2) by decide +kernel) (Nat.lt_of_lt_of_le (Nat.lt_succ_self _) (Nat.le_of_ble_eq_true rfl)) rfl rfl ?_
  refine q_aload_n 106 rfl (show sCode 269 105 = some (.aload_n 0, 1) by decide +kernel) rfl (Nat.le_of_ble_eq_true rfl) ?_
  refine q_getR (vA 0 (a0 + 11) 274) 109 rfl (show sCode 269 106 = some (.getfield 42, 3) by decide +kernel) (show sFR (sKo 269).1 42 = some (12, 23) by decide +kernel) (by decide +kernel) (Or.inl (Or.inl rfl)) rfl ?_
  refine q_bipush 111 rfl (show sCode 269 109 = some (.bipush 6, 2) by decide +kernel) ⟨by decide, by decide⟩ (by decide +kernel) ?_
  refine q_iald 112 rfl (show sCode 269 111 = some (.iaload, 1) by decide +kernel) ⟨by decide, by decide⟩ ?_
  refine q_iconst 113 rfl (show sCode 269 112 = some (.iconst 1, 1) by decide +kernel) ⟨by decide, by decide⟩ ?_
  refine q_isub 114 rfl (show sCode 269 113 = some (.isub, 1) by decide +kernel) h6 ?_
  refine q_istore [vO 12 a0, vI x1, vI x2, vI (M (a0 + 20) x1.toNat), vI (x1 + 1), vI (((sUpd (sUpd M (a0 + 20) x1.toNat (M (a0 + 20) x2.toNat)) (a0 + 20) x2.toNat (M (a0 + 20) x1.toNat)) (a0 + 11) 6) - 1)] 116 rfl (show sCode 269 114 = some (.istore 5, 2) by decide +kernel) (Nat.lt_of_lt_of_le (Nat.lt_succ_self _) (Nat.le_of_ble_eq_true rfl)) rfl rfl ?_
  refine q_forget (L' := [vO 12 a0, vN, vI x2, vI (M (a0 + 20) x1.toNat), vI (x1 + 1), vI (((sUpd (sUpd M (a0 + 20) x1.toNat (M (a0 + 20) x2.toNat)) (a0 + 20) x2.toNat (M (a0 + 20) x1.toNat)) (a0 + 11) 6) - 1)]) 1 rfl ?_
  refine q_forget (L' := [vO 12 a0, vN, vN, vI (M (a0 + 20) x1.toNat), vI (x1 + 1), vI (((sUpd (sUpd M (a0 + 20) x1.toNat (M (a0 + 20) x2.toNat)) (a0 + 20) x2.toNat (M (a0 + 20) x1.toNat)) (a0 + 11) 6) - 1)]) 2 rfl ?_
  refine q_forget (L' := [vO 12 a0, vN, vN, vN, vI (x1 + 1), vI (((sUpd (sUpd M (a0 + 20) x1.toNat (M (a0 + 20) x2.toNat)) (a0 + 20) x2.toNat (M (a0 + 20) x1.toNat)) (a0 + 11) 6) - 1)]) 3 rfl ?_
  exact kk
theorem b269_116 {d : Nat} {Q : Option sV → sM → sG → Prop} {M : sM} {G : sG} {a0 : Nat} {x4 : Int} {x5 : Int}  (k1 : x5 ≤ x4 → sW (sC d) 269 Q 162 [vN, vN, vN, vN, vN, vN] [] M G 0 0) (k2 : x4 < x5 → sW (sC d) 269 Q 123 [vO 12 a0, vN, vN, vN, vI x4, vI x5] [] M G 0 0) : sW (sC d) 269 Q 116 [vO 12 a0, vN, vN, vN, vI x4, vI x5] [] M G 0 0 := by
  refine q_iload 118 rfl (show sCode 269 116 = some (.iload 4, 2) by decide +kernel) rfl ?_
  refine q_iload 120 rfl (show sCode 269 118 = some (.iload 5, 2) by decide +kernel) rfl ?_
  refine q_icmpge 162 123 rfl (by decide) (show sCode 269 120 = some (.if_icmp .ge 42, 3) by decide +kernel) ?_ ?_
  · intro q; refine q_forget (L' := [vN, vN, vN, vN, vI x4, vI x5]) 0 rfl ?_; refine q_forget (L' := [vN, vN, vN, vN, vN, vI x5]) 4 rfl ?_; refine q_forget (L' := [vN, vN, vN, vN, vN, vN]) 5 rfl ?_; exact k1 q
  · intro q; exact k2 q
theorem b269_123 {d : Nat} {Q : Option sV → sM → sG → Prop} {M : sM} {G : sG} {a0 : Nat} {x4 : Int} {x5 : Int} (h1 : 0 ≤ x4 ∧ x4 < 8) (h2 : 0 ≤ x5 ∧ x5 < 8) (h3 : 0 ≤ x4 ∧ x4 < 8) (h4 : 0 ≤ x5 ∧ x5 < 8) (h5 : sI (x4 + 1)) (h6 : sI (x5 + (-1))) (kk : sW (sC d) 269 Q 116 [vO 12 a0, vN, vN, vN, vI (x4 + 1), vI (x5 + (-1))] [] (sUpd (sUpd M (a0 + 20) x4.toNat (M (a0 + 20) x5.toNat)) (a0 + 20) x5.toNat (M (a0 + 20) x4.toNat)) G 0 0) : sW (sC d) 269 Q 123 [vO 12 a0, vN, vN, vN, vI x4, vI x5] [] M G 0 0 := by
  refine q_aload_n 124 rfl (show sCode 269 123 = some (.aload_n 0, 1) by decide +kernel) rfl (Nat.le_of_ble_eq_true rfl) ?_
  refine q_getR (vA 0 (a0 + 20) 8) 127 rfl (show sCode 269 124 = some (.getfield 69, 3) by decide +kernel) (show sFR (sKo 269).1 69 = some (12, 32) by decide +kernel) (by decide +kernel) (Or.inl (Or.inl rfl)) rfl ?_
  refine q_iload 129 rfl (show sCode 269 127 = some (.iload 4, 2) by decide +kernel) rfl ?_
  refine q_iald 130 rfl (show sCode 269 129 = some (.iaload, 1) by decide +kernel) h1 ?_
  refine q_istore_n [vO 12 a0, vN, vN, vI (M (a0 + 20) x4.toNat), vI x4, vI x5] 131 rfl (show sCode 269 130 = some (.istore_n 3, 1) by decide +kernel) (Nat.lt_of_lt_of_le (Nat.lt_succ_self _) (Nat.le_of_ble_eq_true rfl)) rfl rfl ?_
  refine q_aload_n 132 rfl (show sCode 269 131 = some (.aload_n 0, 1) by decide +kernel) rfl (Nat.le_of_ble_eq_true rfl) ?_
  refine q_getR (vA 0 (a0 + 20) 8) 135 rfl (show sCode 269 132 = some (.getfield 69, 3) by decide +kernel) (show sFR (sKo 269).1 69 = some (12, 32) by decide +kernel) (by decide +kernel) (Or.inl (Or.inl rfl)) rfl ?_
  refine q_iload 137 rfl (show sCode 269 135 = some (.iload 4, 2) by decide +kernel) rfl ?_
  refine q_aload_n 138 rfl (show sCode 269 137 = some (.aload_n 0, 1) by decide +kernel) rfl (Nat.le_of_ble_eq_true rfl) ?_
  refine q_getR (vA 0 (a0 + 20) 8) 141 rfl (show sCode 269 138 = some (.getfield 69, 3) by decide +kernel) (show sFR (sKo 269).1 69 = some (12, 32) by decide +kernel) (by decide +kernel) (Or.inl (Or.inl rfl)) rfl ?_
  refine q_iload 143 rfl (show sCode 269 141 = some (.iload 5, 2) by decide +kernel) rfl ?_
  refine q_iald 144 rfl (show sCode 269 143 = some (.iaload, 1) by decide +kernel) h2 ?_
  refine q_iast 145 rfl (show sCode 269 144 = some (.iastore, 1) by decide +kernel) h3 ?_
  refine q_aload_n 146 rfl (show sCode 269 145 = some (.aload_n 0, 1) by decide +kernel) rfl (Nat.le_of_ble_eq_true rfl) ?_
  refine q_getR (vA 0 (a0 + 20) 8) 149 rfl (show sCode 269 146 = some (.getfield 69, 3) by decide +kernel) (show sFR (sKo 269).1 69 = some (12, 32) by decide +kernel) (by decide +kernel) (Or.inl (Or.inl rfl)) rfl ?_
  refine q_iload 151 rfl (show sCode 269 149 = some (.iload 5, 2) by decide +kernel) rfl ?_
  refine q_iload_n 152 rfl (show sCode 269 151 = some (.iload_n 3, 1) by decide +kernel) rfl ?_
  refine q_iast 153 rfl (show sCode 269 152 = some (.iastore, 1) by decide +kernel) h4 ?_
  refine q_iinc [vO 12 a0, vN, vN, vI (M (a0 + 20) x4.toNat), vI (x4 + 1), vI x5] 156 rfl (show sCode 269 153 = some (.iinc 4 1, 3) by decide +kernel) rfl rfl h5 rfl ?_
  refine q_iinc [vO 12 a0, vN, vN, vI (M (a0 + 20) x4.toNat), vI (x4 + 1), vI (x5 + (-1))] 159 rfl (show sCode 269 156 = some (.iinc 5 (-1), 3) by decide +kernel) rfl rfl h6 rfl ?_
  refine q_goto 116 (by decide) (show sCode 269 159 = some (.goto (-43), 3) by decide +kernel) ?_
  refine q_forget (L' := [vO 12 a0, vN, vN, vN, vI (x4 + 1), vI (x5 + (-1))]) 3 rfl ?_
  exact kk
theorem b269_162 {d : Nat} {P : Int → sM → sG → Prop} {M : sM} {G : sG}   (kk : P 1 M G) : sW (sC d) 269 (QI P) 162 [vN, vN, vN, vN, vN, vN] [] M G 0 0 := by
  refine q_iconst 163 rfl (show sCode 269 162 = some (.iconst 1, 1) by decide +kernel) ⟨by decide, by decide⟩ ?_
  exact q_zret (show sCode 269 163 = some (.ireturn, 1) by decide +kernel) (by decide +kernel) (by decide) (by decide +kernel) kk
-- 270 AfterTheLastModel.guest (II)I
theorem b270_0 {d : Nat} {Q : Option sV → sM → sG → Prop} {M : sM} {G : sG} {a0 : Nat} {x1 : Int} {x2 : Int}  (k1 : x1 ≠ (-1) → sW (sC d) 270 Q 15 [vO 12 a0, vI x1, vI x2] [] M G 0 0) (k2 : x1 = (-1) → sW (sC d) 270 Q 5 [vO 12 a0, vN, vN] [] M G 0 0) : sW (sC d) 270 Q 0 [vO 12 a0, vI x1, vI x2] [] M G 0 0 := by
  refine q_iload_n 1 rfl (show sCode 270 0 = some (.iload_n 1, 1) by decide +kernel) rfl ?_
  refine q_iconst 2 rfl (show sCode 270 1 = some (.iconst (-1), 1) by decide +kernel) ⟨by decide, by decide⟩ ?_
  refine q_icmpne 15 5 rfl (by decide) (show sCode 270 2 = some (.if_icmp .ne 13, 3) by decide +kernel) ?_ ?_
  · intro q; exact k1 q
  · intro q; refine q_forget (L' := [vO 12 a0, vN, vI x2]) 1 rfl ?_; refine q_forget (L' := [vO 12 a0, vN, vN]) 2 rfl ?_; exact k2 q
theorem b270_5 {d : Nat} {P : Int → sM → sG → Prop} {M : sM} {G : sG} {a0 : Nat}  (kk : P 0 (sUpd M (a0 + 11) 8 0) G) : sW (sC d) 270 (QI P) 5 [vO 12 a0, vN, vN] [] M G 0 0 := by
  refine q_aload_n 6 rfl (show sCode 270 5 = some (.aload_n 0, 1) by decide +kernel) rfl (Nat.le_of_ble_eq_true rfl) ?_
  refine q_getR (vA 0 (a0 + 11) 274) 9 rfl (show sCode 270 6 = some (.getfield 42, 3) by decide +kernel) (show sFR (sKo 270).1 42 = some (12, 23) by decide +kernel) (by decide +kernel) (Or.inl (Or.inl rfl)) rfl ?_
  refine q_bipush 11 rfl (show sCode 270 9 = some (.bipush 8, 2) by decide +kernel) ⟨by decide, by decide⟩ (by decide +kernel) ?_
  refine q_iconst 12 rfl (show sCode 270 11 = some (.iconst 0, 1) by decide +kernel) ⟨by decide, by decide⟩ ?_
  refine q_iast 13 rfl (show sCode 270 12 = some (.iastore, 1) by decide +kernel) ⟨by decide, by decide⟩ ?_
  refine q_iconst 14 rfl (show sCode 270 13 = some (.iconst 0, 1) by decide +kernel) ⟨by decide, by decide⟩ ?_
  exact q_iret (show sCode 270 14 = some (.ireturn, 1) by decide +kernel) (by decide +kernel) (by decide +kernel) kk
theorem b270_15 {d : Nat} {Q : Option sV → sM → sG → Prop} {M : sM} {G : sG} {a0 : Nat} {x1 : Int} {x2 : Int}  (k1 : M (a0 + 11) 8 = 12 → sW (sC d) 270 Q 54 [vN, vN, vN] [] M G 0 0) (k2 : M (a0 + 11) 8 ≠ 12 → sW (sC d) 270 Q 27 [vO 12 a0, vI x1, vI x2] [] M G 0 0) : sW (sC d) 270 Q 15 [vO 12 a0, vI x1, vI x2] [] M G 0 0 := by
  refine q_aload_n 16 rfl (show sCode 270 15 = some (.aload_n 0, 1) by decide +kernel) rfl (Nat.le_of_ble_eq_true rfl) ?_
  refine q_getR (vA 0 (a0 + 11) 274) 19 rfl (show sCode 270 16 = some (.getfield 42, 3) by decide +kernel) (show sFR (sKo 270).1 42 = some (12, 23) by decide +kernel) (by decide +kernel) (Or.inl (Or.inl rfl)) rfl ?_
  refine q_bipush 21 rfl (show sCode 270 19 = some (.bipush 8, 2) by decide +kernel) ⟨by decide, by decide⟩ (by decide +kernel) ?_
  refine q_iald 22 rfl (show sCode 270 21 = some (.iaload, 1) by decide +kernel) ⟨by decide, by decide⟩ ?_
  refine q_bipush 24 rfl (show sCode 270 22 = some (.bipush 12, 2) by decide +kernel) ⟨by decide, by decide⟩ (by decide +kernel) ?_
  refine q_icmpeq 54 27 rfl (by decide) (show sCode 270 24 = some (.if_icmp .eq 30, 3) by decide +kernel) ?_ ?_
  · intro q; refine q_forget (L' := [vN, vI x1, vI x2]) 0 rfl ?_; refine q_forget (L' := [vN, vN, vI x2]) 1 rfl ?_; refine q_forget (L' := [vN, vN, vN]) 2 rfl ?_; exact k1 q
  · intro q; exact k2 q
theorem b270_27 {d : Nat} {Q : Option sV → sM → sG → Prop} {M : sM} {G : sG} {a0 : Nat} {x1 : Int} {x2 : Int}  (kk : sC d 183 [vL x1, vL 0, vL 95] M G (QI (fun r M1 G1 => sW (sC d) 270 Q 36 [vO 12 a0, vI x1, vI x2] (vI r :: []) M1 G1 0 0))) : sW (sC d) 270 Q 27 [vO 12 a0, vI x1, vI x2] [] M G 0 0 := by
  refine q_iload_n 28 rfl (show sCode 270 27 = some (.iload_n 1, 1) by decide +kernel) rfl ?_
  refine q_i2l 29 rfl (show sCode 270 28 = some (.i2l, 1) by decide +kernel) ?_
  refine q_lconst 30 rfl (show sCode 270 29 = some (.lconst 0, 1) by decide +kernel) ?_
  refine q_ldc2_w 33 rfl (show sCode 270 30 = some (.ldc2_w 392, 3) by decide +kernel) (show sLR (sKo 270).1 392 = some 95 by decide +kernel) ⟨by decide, by decide⟩ ?_
  exact q_statI [vL x1, vL 0, vL 95] 36 rfl (show sCode 270 33 = some (.invokestatic 127, 3) by decide +kernel) (show sMR (sKo 270).1 127 = some 183 by decide +kernel) (show 183 < 1000 ∧ sStat 183 = true ∧ sKo 183 = (12, 3, 2, 0, 0) by decide +kernel) rfl rfl (Nat.le_of_ble_eq_true rfl) rfl rfl rfl (by decide +kernel) kk
theorem b270_36 {d : Nat} {Q : Option sV → sM → sG → Prop} {M : sM} {G : sG} {a0 : Nat} {x1 : Int} {x2 : Int} {s0 : Int}  (k1 : s0 = 0 → sW (sC d) 270 Q 54 [vN, vN, vN] [] M G 0 0) (k2 : s0 ≠ 0 → sW (sC d) 270 Q 39 [vO 12 a0, vI x1, vI x2] [] M G 0 0) : sW (sC d) 270 Q 36 [vO 12 a0, vI x1, vI x2] [vI s0] M G 0 0 := by
  refine q_ifeq 54 39 rfl (by decide) (show sCode 270 36 = some (.ifCond .eq 18, 3) by decide +kernel) ?_ ?_
  · intro q; refine q_forget (L' := [vN, vI x1, vI x2]) 0 rfl ?_; refine q_forget (L' := [vN, vN, vI x2]) 1 rfl ?_; refine q_forget (L' := [vN, vN, vN]) 2 rfl ?_; exact k1 q
  · intro q; exact k2 q
theorem b270_39 {d : Nat} {Q : Option sV → sM → sG → Prop} {M : sM} {G : sG} {a0 : Nat} {x1 : Int} {x2 : Int} (h1 : sI (x1 + 1)) (kk : sC d 183 [vL x2, vL (x1 + 1), vL 95] M G (QI (fun r M1 G1 => sW (sC d) 270 Q 51 [vO 12 a0, vI x1, vI x2] (vI r :: []) M1 G1 0 0))) : sW (sC d) 270 Q 39 [vO 12 a0, vI x1, vI x2] [] M G 0 0 := by
  refine q_iload_n 40 rfl (show sCode 270 39 = some (.iload_n 2, 1) by decide +kernel) rfl ?_
  refine q_i2l 41 rfl (show sCode 270 40 = some (.i2l, 1) by decide +kernel) ?_
  refine q_iload_n 42 rfl (show sCode 270 41 = some (.iload_n 1, 1) by decide +kernel) rfl ?_
  refine q_iconst 43 rfl (show sCode 270 42 = some (.iconst 1, 1) by decide +kernel) ⟨by decide, by decide⟩ ?_
  refine q_iadd 44 rfl (show sCode 270 43 = some (.iadd, 1) by decide +kernel) h1 ?_
  refine q_i2l 45 rfl (show sCode 270 44 = some (.i2l, 1) by decide +kernel) ?_
  refine q_ldc2_w 48 rfl (show sCode 270 45 = some (.ldc2_w 392, 3) by decide +kernel) (show sLR (sKo 270).1 392 = some 95 by decide +kernel) ⟨by decide, by decide⟩ ?_
  exact q_statI [vL x2, vL (x1 + 1), vL 95] 51 rfl (show sCode 270 48 = some (.invokestatic 127, 3) by decide +kernel) (show sMR (sKo 270).1 127 = some 183 by decide +kernel) (show 183 < 1000 ∧ sStat 183 = true ∧ sKo 183 = (12, 3, 2, 0, 0) by decide +kernel) rfl rfl (Nat.le_of_ble_eq_true rfl) rfl rfl rfl (by decide +kernel) kk
theorem b270_51 {d : Nat} {Q : Option sV → sM → sG → Prop} {M : sM} {G : sG} {a0 : Nat} {x1 : Int} {x2 : Int} {s0 : Int}  (k1 : s0 ≠ 0 → sW (sC d) 270 Q 57 [vO 12 a0, vI x1, vI x2] [] M G 0 0) (k2 : s0 = 0 → sW (sC d) 270 Q 54 [vN, vN, vN] [] M G 0 0) : sW (sC d) 270 Q 51 [vO 12 a0, vI x1, vI x2] [vI s0] M G 0 0 := by
  refine q_ifne 57 54 rfl (by decide) (show sCode 270 51 = some (.ifCond .ne 6, 3) by decide +kernel) ?_ ?_
  · intro q; exact k1 q
  · intro q; refine q_forget (L' := [vN, vI x1, vI x2]) 0 rfl ?_; refine q_forget (L' := [vN, vN, vI x2]) 1 rfl ?_; refine q_forget (L' := [vN, vN, vN]) 2 rfl ?_; exact k2 q
theorem b270_54 {d : Nat} {P : Int → sM → sG → Prop} {M : sM} {G : sG}   (kk : P (-2) M G) : sW (sC d) 270 (QI P) 54 [vN, vN, vN] [] M G 0 0 := by
  refine q_bipush 56 rfl (show sCode 270 54 = some (.bipush (-2), 2) by decide +kernel) ⟨by decide, by decide⟩ (by decide +kernel) ?_
  exact q_iret (show sCode 270 56 = some (.ireturn, 1) by decide +kernel) (by decide +kernel) (by decide +kernel) kk
theorem b270_57 {d : Nat} {P : Int → sM → sG → Prop} {M : sM} {G : sG} {a0 : Nat} {x1 : Int} {x2 : Int} (h1 : sI (2 * (M (a0 + 11) 8))) (h2 : sI (250 + (2 * (M (a0 + 11) 8)))) (h3 : 0 ≤ 250 + (2 * (M (a0 + 11) 8)) ∧ 250 + (2 * (M (a0 + 11) 8)) < 274) (h4 : sI (2 * ((sUpd M (a0 + 11) (250 + (2 * (M (a0 + 11) 8))).toNat x1) (a0 + 11) 8))) (h5 : sI (250 + (2 * ((sUpd M (a0 + 11) (250 + (2 * (M (a0 + 11) 8))).toNat x1) (a0 + 11) 8)))) (h6 : sI ((250 + (2 * ((sUpd M (a0 + 11) (250 + (2 * (M (a0 + 11) 8))).toNat x1) (a0 + 11) 8))) + 1)) (h7 : 0 ≤ (250 + (2 * ((sUpd M (a0 + 11) (250 + (2 * (M (a0 + 11) 8))).toNat x1) (a0 + 11) 8))) + 1 ∧ (250 + (2 * ((sUpd M (a0 + 11) (250 + (2 * (M (a0 + 11) 8))).toNat x1) (a0 + 11) 8))) + 1 < 274) (h8 : sI (((sUpd (sUpd M (a0 + 11) (250 + (2 * (M (a0 + 11) 8))).toNat x1) (a0 + 11) ((250 + (2 * ((sUpd M (a0 + 11) (250 + (2 * (M (a0 + 11) 8))).toNat x1) (a0 + 11) 8))) + 1).toNat x2) (a0 + 11) 8) + 1)) (kk : P ((sUpd (sUpd (sUpd M (a0 + 11) (250 + (2 * (M (a0 + 11) 8))).toNat x1) (a0 + 11) ((250 + (2 * ((sUpd M (a0 + 11) (250 + (2 * (M (a0 + 11) 8))).toNat x1) (a0 + 11) 8))) + 1).toNat x2) (a0 + 11) 8 (((sUpd (sUpd M (a0 + 11) (250 + (2 * (M (a0 + 11) 8))).toNat x1) (a0 + 11) ((250 + (2 * ((sUpd M (a0 + 11) (250 + (2 * (M (a0 + 11) 8))).toNat x1) (a0 + 11) 8))) + 1).toNat x2) (a0 + 11) 8) + 1)) (a0 + 11) 8) (sUpd (sUpd (sUpd M (a0 + 11) (250 + (2 * (M (a0 + 11) 8))).toNat x1) (a0 + 11) ((250 + (2 * ((sUpd M (a0 + 11) (250 + (2 * (M (a0 + 11) 8))).toNat x1) (a0 + 11) 8))) + 1).toNat x2) (a0 + 11) 8 (((sUpd (sUpd M (a0 + 11) (250 + (2 * (M (a0 + 11) 8))).toNat x1) (a0 + 11) ((250 + (2 * ((sUpd M (a0 + 11) (250 + (2 * (M (a0 + 11) 8))).toNat x1) (a0 + 11) 8))) + 1).toNat x2) (a0 + 11) 8) + 1)) G) : sW (sC d) 270 (QI P) 57 [vO 12 a0, vI x1, vI x2] [] M G 0 0 := by
  refine q_aload_n 58 rfl (show sCode 270 57 = some (.aload_n 0, 1) by decide +kernel) rfl (Nat.le_of_ble_eq_true rfl) ?_
  refine q_getR (vA 0 (a0 + 11) 274) 61 rfl (show sCode 270 58 = some (.getfield 42, 3) by decide +kernel) (show sFR (sKo 270).1 42 = some (12, 23) by decide +kernel) (by decide +kernel) (Or.inl (Or.inl rfl)) rfl ?_
  refine q_sipush 64 rfl (show sCode 270 61 = some (.sipush 250, 3) by decide +kernel) ⟨by decide, by decide⟩ (by decide +kernel) ?_
  refine q_iconst 65 rfl (show sCode 270 64 = some (.iconst 2, 1) by decide +kernel) ⟨by decide, by decide⟩ ?_
  refine q_aload_n 66 rfl (show sCode 270 65 = some (.aload_n 0, 1) by decide +kernel) rfl (Nat.le_of_ble_eq_true rfl) ?_
  refine q_getR (vA 0 (a0 + 11) 274) 69 rfl (show sCode 270 66 = some (.getfield 42, 3) by decide +kernel) (show sFR (sKo 270).1 42 = some (12, 23) by decide +kernel) (by decide +kernel) (Or.inl (Or.inl rfl)) rfl ?_
  refine q_bipush 71 rfl (show sCode 270 69 = some (.bipush 8, 2) by decide +kernel) ⟨by decide, by decide⟩ (by decide +kernel) ?_
  refine q_iald 72 rfl (show sCode 270 71 = some (.iaload, 1) by decide +kernel) ⟨by decide, by decide⟩ ?_
  refine q_imul 73 rfl (show sCode 270 72 = some (.imul, 1) by decide +kernel) h1 ?_
  refine q_iadd 74 rfl (show sCode 270 73 = some (.iadd, 1) by decide +kernel) h2 ?_
  refine q_iload_n 75 rfl (show sCode 270 74 = some (.iload_n 1, 1) by decide +kernel) rfl ?_
  refine q_iast 76 rfl (show sCode 270 75 = some (.iastore, 1) by decide +kernel) h3 ?_
  refine q_aload_n 77 rfl (show sCode 270 76 = some (.aload_n 0, 1) by decide +kernel) rfl (Nat.le_of_ble_eq_true rfl) ?_
  refine q_getR (vA 0 (a0 + 11) 274) 80 rfl (show sCode 270 77 = some (.getfield 42, 3) by decide +kernel) (show sFR (sKo 270).1 42 = some (12, 23) by decide +kernel) (by decide +kernel) (Or.inl (Or.inl rfl)) rfl ?_
  refine q_sipush 83 rfl (show sCode 270 80 = some (.sipush 250, 3) by decide +kernel) ⟨by decide, by decide⟩ (by decide +kernel) ?_
  refine q_iconst 84 rfl (show sCode 270 83 = some (.iconst 2, 1) by decide +kernel) ⟨by decide, by decide⟩ ?_
  refine q_aload_n 85 rfl (show sCode 270 84 = some (.aload_n 0, 1) by decide +kernel) rfl (Nat.le_of_ble_eq_true rfl) ?_
  refine q_getR (vA 0 (a0 + 11) 274) 88 rfl (show sCode 270 85 = some (.getfield 42, 3) by decide +kernel) (show sFR (sKo 270).1 42 = some (12, 23) by decide +kernel) (by decide +kernel) (Or.inl (Or.inl rfl)) rfl ?_
  refine q_bipush 90 rfl (show sCode 270 88 = some (.bipush 8, 2) by decide +kernel) ⟨by decide, by decide⟩ (by decide +kernel) ?_
  refine q_iald 91 rfl (show sCode 270 90 = some (.iaload, 1) by decide +kernel) ⟨by decide, by decide⟩ ?_
  refine q_imul 92 rfl (show sCode 270 91 = some (.imul, 1) by decide +kernel) h4 ?_
  refine q_iadd 93 rfl (show sCode 270 92 = some (.iadd, 1) by decide +kernel) h5 ?_
  refine q_iconst 94 rfl (show sCode 270 93 = some (.iconst 1, 1) by decide +kernel) ⟨by decide, by decide⟩ ?_
  refine q_iadd 95 rfl (show sCode 270 94 = some (.iadd, 1) by decide +kernel) h6 ?_
  refine q_iload_n 96 rfl (show sCode 270 95 = some (.iload_n 2, 1) by decide +kernel) rfl ?_
  refine q_iast 97 rfl (show sCode 270 96 = some (.iastore, 1) by decide +kernel) h7 ?_
  refine q_aload_n 98 rfl (show sCode 270 97 = some (.aload_n 0, 1) by decide +kernel) rfl (Nat.le_of_ble_eq_true rfl) ?_
  refine q_getR (vA 0 (a0 + 11) 274) 101 rfl (show sCode 270 98 = some (.getfield 42, 3) by decide +kernel) (show sFR (sKo 270).1 42 = some (12, 23) by decide +kernel) (by decide +kernel) (Or.inl (Or.inl rfl)) rfl ?_
  refine q_bipush 103 rfl (show sCode 270 101 = some (.bipush 8, 2) by decide +kernel) ⟨by decide, by decide⟩ (by decide +kernel) ?_
  refine q_dup2 104 rfl (show sCode 270 103 = some (.dup2, 1) by decide +kernel) rfl rfl ?_
  refine q_iald 105 rfl (show sCode 270 104 = some (.iaload, 1) by decide +kernel) ⟨by decide, by decide⟩ ?_
  refine q_iconst 106 rfl (show sCode 270 105 = some (.iconst 1, 1) by decide +kernel) ⟨by decide, by decide⟩ ?_
  refine q_iadd 107 rfl (show sCode 270 106 = some (.iadd, 1) by decide +kernel) h8 ?_
  refine q_iast 108 rfl (show sCode 270 107 = some (.iastore, 1) by decide +kernel) ⟨by decide, by decide⟩ ?_
  refine q_aload_n 109 rfl (show sCode 270 108 = some (.aload_n 0, 1) by decide +kernel) rfl (Nat.le_of_ble_eq_true rfl) ?_
  refine q_getR (vA 0 (a0 + 11) 274) 112 rfl (show sCode 270 109 = some (.getfield 42, 3) by decide +kernel) (show sFR (sKo 270).1 42 = some (12, 23) by decide +kernel) (by decide +kernel) (Or.inl (Or.inl rfl)) rfl ?_
  refine q_bipush 114 rfl (show sCode 270 112 = some (.bipush 8, 2) by decide +kernel) ⟨by decide, by decide⟩ (by decide +kernel) ?_
  refine q_iald 115 rfl (show sCode 270 114 = some (.iaload, 1) by decide +kernel) ⟨by decide, by decide⟩ ?_
  exact q_iret (show sCode 270 115 = some (.ireturn, 1) by decide +kernel) (by decide +kernel) (by decide +kernel) kk
-- 271 AfterTheLastModel.kept (III)I
theorem b271_0 {d : Nat} {Q : Option sV → sM → sG → Prop} {M : sM} {G : sG} {a0 : Nat} {x1 : Int} {x2 : Int} {x3 : Int}  (kk : sC d 183 [vL x1, vL 0, vL 95] M G (QI (fun r M1 G1 => sW (sC d) 271 Q 9 [vO 12 a0, vI x1, vI x2, vI x3, vN, vN] (vI r :: []) M1 G1 0 0))) : sW (sC d) 271 Q 0 [vO 12 a0, vI x1, vI x2, vI x3, vN, vN] [] M G 0 0 := by
  refine q_iload_n 1 rfl (show sCode 271 0 = some (.iload_n 1, 1) by decide +kernel) rfl ?_
  refine q_i2l 2 rfl (show sCode 271 1 = some (.i2l, 1) by decide +kernel) ?_
  refine q_lconst 3 rfl (show sCode 271 2 = some (.lconst 0, 1) by decide +kernel) ?_
  refine q_ldc2_w 6 rfl (show sCode 271 3 = some (.ldc2_w 392, 3) by decide +kernel) (show sLR (sKo 271).1 392 = some 95 by decide +kernel) ⟨by decide, by decide⟩ ?_
  exact q_statI [vL x1, vL 0, vL 95] 9 rfl (show sCode 271 6 = some (.invokestatic 127, 3) by decide +kernel) (show sMR (sKo 271).1 127 = some 183 by decide +kernel) (show 183 < 1000 ∧ sStat 183 = true ∧ sKo 183 = (12, 3, 2, 0, 0) by decide +kernel) rfl rfl (Nat.le_of_ble_eq_true rfl) rfl rfl rfl (by decide +kernel) kk
theorem b271_9 {d : Nat} {Q : Option sV → sM → sG → Prop} {M : sM} {G : sG} {a0 : Nat} {x1 : Int} {x2 : Int} {x3 : Int} {s0 : Int}  (k1 : s0 = 0 → sW (sC d) 271 Q 34 [vN, vN, vN, vN, vN, vN] [] M G 0 0) (k2 : s0 ≠ 0 → sW (sC d) 271 Q 12 [vO 12 a0, vI x1, vI x2, vI x3, vN, vN] [] M G 0 0) : sW (sC d) 271 Q 9 [vO 12 a0, vI x1, vI x2, vI x3, vN, vN] [vI s0] M G 0 0 := by
  refine q_ifeq 34 12 rfl (by decide) (show sCode 271 9 = some (.ifCond .eq 25, 3) by decide +kernel) ?_ ?_
  · intro q; refine q_forget (L' := [vN, vI x1, vI x2, vI x3, vN, vN]) 0 rfl ?_; refine q_forget (L' := [vN, vN, vI x2, vI x3, vN, vN]) 1 rfl ?_; refine q_forget (L' := [vN, vN, vN, vI x3, vN, vN]) 2 rfl ?_; refine q_forget (L' := [vN, vN, vN, vN, vN, vN]) 3 rfl ?_; exact k1 q
  · intro q; exact k2 q
theorem b271_12 {d : Nat} {Q : Option sV → sM → sG → Prop} {M : sM} {G : sG} {a0 : Nat} {x1 : Int} {x2 : Int} {x3 : Int}  (kk : sC d 183 [vL x2, vL 0, vL 95] M G (QI (fun r M1 G1 => sW (sC d) 271 Q 21 [vO 12 a0, vI x1, vI x2, vI x3, vN, vN] (vI r :: []) M1 G1 0 0))) : sW (sC d) 271 Q 12 [vO 12 a0, vI x1, vI x2, vI x3, vN, vN] [] M G 0 0 := by
  refine q_iload_n 13 rfl (show sCode 271 12 = some (.iload_n 2, 1) by decide +kernel) rfl ?_
  refine q_i2l 14 rfl (show sCode 271 13 = some (.i2l, 1) by decide +kernel) ?_
  refine q_lconst 15 rfl (show sCode 271 14 = some (.lconst 0, 1) by decide +kernel) ?_
  refine q_ldc2_w 18 rfl (show sCode 271 15 = some (.ldc2_w 392, 3) by decide +kernel) (show sLR (sKo 271).1 392 = some 95 by decide +kernel) ⟨by decide, by decide⟩ ?_
  exact q_statI [vL x2, vL 0, vL 95] 21 rfl (show sCode 271 18 = some (.invokestatic 127, 3) by decide +kernel) (show sMR (sKo 271).1 127 = some 183 by decide +kernel) (show 183 < 1000 ∧ sStat 183 = true ∧ sKo 183 = (12, 3, 2, 0, 0) by decide +kernel) rfl rfl (Nat.le_of_ble_eq_true rfl) rfl rfl rfl (by decide +kernel) kk
theorem b271_21 {d : Nat} {Q : Option sV → sM → sG → Prop} {M : sM} {G : sG} {a0 : Nat} {x1 : Int} {x2 : Int} {x3 : Int} {s0 : Int}  (k1 : s0 = 0 → sW (sC d) 271 Q 34 [vN, vN, vN, vN, vN, vN] [] M G 0 0) (k2 : s0 ≠ 0 → sW (sC d) 271 Q 24 [vO 12 a0, vI x1, vI x2, vI x3, vN, vN] [] M G 0 0) : sW (sC d) 271 Q 21 [vO 12 a0, vI x1, vI x2, vI x3, vN, vN] [vI s0] M G 0 0 := by
  refine q_ifeq 34 24 rfl (by decide) (show sCode 271 21 = some (.ifCond .eq 13, 3) by decide +kernel) ?_ ?_
  · intro q; refine q_forget (L' := [vN, vI x1, vI x2, vI x3, vN, vN]) 0 rfl ?_; refine q_forget (L' := [vN, vN, vI x2, vI x3, vN, vN]) 1 rfl ?_; refine q_forget (L' := [vN, vN, vN, vI x3, vN, vN]) 2 rfl ?_; refine q_forget (L' := [vN, vN, vN, vN, vN, vN]) 3 rfl ?_; exact k1 q
  · intro q; exact k2 q
theorem b271_24 {d : Nat} {Q : Option sV → sM → sG → Prop} {M : sM} {G : sG} {a0 : Nat} {x1 : Int} {x2 : Int} {x3 : Int}  (kk : sC d 183 [vL x3, vL 0, vL 1] M G (QI (fun r M1 G1 => sW (sC d) 271 Q 31 [vO 12 a0, vI x1, vI x2, vI x3, vN, vN] (vI r :: []) M1 G1 0 0))) : sW (sC d) 271 Q 24 [vO 12 a0, vI x1, vI x2, vI x3, vN, vN] [] M G 0 0 := by
  refine q_iload_n 25 rfl (show sCode 271 24 = some (.iload_n 3, 1) by decide +kernel) rfl ?_
  refine q_i2l 26 rfl (show sCode 271 25 = some (.i2l, 1) by decide +kernel) ?_
  refine q_lconst 27 rfl (show sCode 271 26 = some (.lconst 0, 1) by decide +kernel) ?_
  refine q_lconst 28 rfl (show sCode 271 27 = some (.lconst 1, 1) by decide +kernel) ?_
  exact q_statI [vL x3, vL 0, vL 1] 31 rfl (show sCode 271 28 = some (.invokestatic 127, 3) by decide +kernel) (show sMR (sKo 271).1 127 = some 183 by decide +kernel) (show 183 < 1000 ∧ sStat 183 = true ∧ sKo 183 = (12, 3, 2, 0, 0) by decide +kernel) rfl rfl (Nat.le_of_ble_eq_true rfl) rfl rfl rfl (by decide +kernel) kk
theorem b271_31 {d : Nat} {Q : Option sV → sM → sG → Prop} {M : sM} {G : sG} {a0 : Nat} {x1 : Int} {x2 : Int} {x3 : Int} {s0 : Int}  (k1 : s0 ≠ 0 → sW (sC d) 271 Q 36 [vO 12 a0, vI x1, vI x2, vI x3, vN, vN] [] M G 0 0) (k2 : s0 = 0 → sW (sC d) 271 Q 34 [vN, vN, vN, vN, vN, vN] [] M G 0 0) : sW (sC d) 271 Q 31 [vO 12 a0, vI x1, vI x2, vI x3, vN, vN] [vI s0] M G 0 0 := by
  refine q_ifne 36 34 rfl (by decide) (show sCode 271 31 = some (.ifCond .ne 5, 3) by decide +kernel) ?_ ?_
  · intro q; exact k1 q
  · intro q; refine q_forget (L' := [vN, vI x1, vI x2, vI x3, vN, vN]) 0 rfl ?_; refine q_forget (L' := [vN, vN, vI x2, vI x3, vN, vN]) 1 rfl ?_; refine q_forget (L' := [vN, vN, vN, vI x3, vN, vN]) 2 rfl ?_; refine q_forget (L' := [vN, vN, vN, vN, vN, vN]) 3 rfl ?_; exact k2 q
theorem b271_34 {d : Nat} {P : Int → sM → sG → Prop} {M : sM} {G : sG}   (kk : P (-1) M G) : sW (sC d) 271 (QI P) 34 [vN, vN, vN, vN, vN, vN] [] M G 0 0 := by
  refine q_iconst 35 rfl (show sCode 271 34 = some (.iconst (-1), 1) by decide +kernel) ⟨by decide, by decide⟩ ?_
  exact q_iret (show sCode 271 35 = some (.ireturn, 1) by decide +kernel) (by decide +kernel) (by decide +kernel) kk
theorem b271_36 {d : Nat} {Q : Option sV → sM → sG → Prop} {M : sM} {G : sG} {a0 : Nat} {x1 : Int} {x2 : Int} {x3 : Int}  (kk : sW (sC d) 271 Q 43 [vO 12 a0, vI x1, vI x2, vI x3, vI (-2), vI 0] [] M G 0 0) : sW (sC d) 271 Q 36 [vO 12 a0, vI x1, vI x2, vI x3, vN, vN] [] M G 0 0 := by
  refine q_bipush 38 rfl (show sCode 271 36 = some (.bipush (-2), 2) by decide +kernel) ⟨by decide, by decide⟩ (by decide +kernel) ?_
  refine q_istore [vO 12 a0, vI x1, vI x2, vI x3, vI (-2), vN] 40 rfl (show sCode 271 38 = some (.istore 4, 2) by decide +kernel) (Nat.lt_of_lt_of_le (Nat.lt_succ_self _) (Nat.le_of_ble_eq_true rfl)) rfl rfl ?_
  refine q_iconst 41 rfl (show sCode 271 40 = some (.iconst 0, 1) by decide +kernel) ⟨by decide, by decide⟩ ?_
  refine q_istore [vO 12 a0, vI x1, vI x2, vI x3, vI (-2), vI 0] 43 rfl (show sCode 271 41 = some (.istore 5, 2) by decide +kernel) (Nat.lt_of_lt_of_le (Nat.lt_succ_self _) (Nat.le_of_ble_eq_true rfl)) rfl rfl ?_
  exact kk
theorem b271_43 {d : Nat} {Q : Option sV → sM → sG → Prop} {M : sM} {G : sG} {a0 : Nat} {x1 : Int} {x2 : Int} {x3 : Int} {x4 : Int} {x5 : Int}  (k1 : iShl 1 (M (a0 + 11) 8) ≤ x5 → sW (sC d) 271 Q 96 [vN, vN, vN, vI x3, vI x4, vN] [] M G 0 0) (k2 : x5 < iShl 1 (M (a0 + 11) 8) → sW (sC d) 271 Q 57 [vO 12 a0, vI x1, vI x2, vI x3, vI x4, vI x5] [] M G 0 0) : sW (sC d) 271 Q 43 [vO 12 a0, vI x1, vI x2, vI x3, vI x4, vI x5] [] M G 0 0 := by
  refine q_iload 45 rfl (show sCode 271 43 = some (.iload 5, 2) by decide +kernel) rfl ?_
  refine q_iconst 46 rfl (show sCode 271 45 = some (.iconst 1, 1) by decide +kernel) ⟨by decide, by decide⟩ ?_
  refine q_aload_n 47 rfl (show sCode 271 46 = some (.aload_n 0, 1) by decide +kernel) rfl (Nat.le_of_ble_eq_true rfl) ?_
  refine q_getR (vA 0 (a0 + 11) 274) 50 rfl (show sCode 271 47 = some (.getfield 42, 3) by decide +kernel) (show sFR (sKo 271).1 42 = some (12, 23) by decide +kernel) (by decide +kernel) (Or.inl (Or.inl rfl)) rfl ?_
  refine q_bipush 52 rfl (show sCode 271 50 = some (.bipush 8, 2) by decide +kernel) ⟨by decide, by decide⟩ (by decide +kernel) ?_
  refine q_iald 53 rfl (show sCode 271 52 = some (.iaload, 1) by decide +kernel) ⟨by decide, by decide⟩ ?_
  refine q_ishl 54 rfl (show sCode 271 53 = some (.ishl, 1) by decide +kernel) ?_
  refine q_icmpge 96 57 rfl (by decide) (show sCode 271 54 = some (.if_icmp .ge 42, 3) by decide +kernel) ?_ ?_
  · intro q; refine q_forget (L' := [vN, vI x1, vI x2, vI x3, vI x4, vI x5]) 0 rfl ?_; refine q_forget (L' := [vN, vN, vI x2, vI x3, vI x4, vI x5]) 1 rfl ?_; refine q_forget (L' := [vN, vN, vN, vI x3, vI x4, vI x5]) 2 rfl ?_; refine q_forget (L' := [vN, vN, vN, vI x3, vI x4, vN]) 5 rfl ?_; exact k1 q
  · intro q; exact k2 q
theorem b271_57 {d : Nat} {Q : Option sV → sM → sG → Prop} {M : sM} {G : sG} {a0 : Nat} {x1 : Int} {x2 : Int} {x3 : Int} {x4 : Int} {x5 : Int}  (k1 : x4 < 0 → sW (sC d) 271 Q 75 [vO 12 a0, vI x1, vI x2, vI x3, vI x4, vI x5] [] M G 0 0) (k2 : 0 ≤ x4 → sW (sC d) 271 Q 62 [vO 12 a0, vI x1, vI x2, vI x3, vI x4, vI x5] [] M G 0 0) : sW (sC d) 271 Q 57 [vO 12 a0, vI x1, vI x2, vI x3, vI x4, vI x5] [] M G 0 0 := by
  refine q_iload 59 rfl (show sCode 271 57 = some (.iload 4, 2) by decide +kernel) rfl ?_
  refine q_iflt 75 62 rfl (by decide) (show sCode 271 59 = some (.ifCond .lt 16, 3) by decide +kernel) ?_ ?_
  · intro q; exact k1 q
  · intro q; exact k2 q
theorem b271_62 {d : Nat} {Q : Option sV → sM → sG → Prop} {M : sM} {G : sG} {a0 : Nat} {x1 : Int} {x2 : Int} {x3 : Int} {x4 : Int} {x5 : Int}  (kk : sC d 245 [vI x5] M G (QI (fun r M1 G1 => sW (sC d) 271 Q 67 [vO 12 a0, vI x1, vI x2, vI x3, vI x4, vI x5] (vI r :: []) M1 G1 0 0))) : sW (sC d) 271 Q 62 [vO 12 a0, vI x1, vI x2, vI x3, vI x4, vI x5] [] M G 0 0 := by
  refine q_iload 64 rfl (show sCode 271 62 = some (.iload 5, 2) by decide +kernel) rfl ?_
  exact q_statI [vI x5] 67 rfl (show sCode 271 64 = some (.invokestatic 381, 3) by decide +kernel) (show sMR (sKo 271).1 381 = some 245 by decide +kernel) (show 245 < 1000 ∧ sStat 245 = true ∧ sKo 245 = (12, 1, 1, 0, 0) by decide +kernel) rfl rfl (Nat.le_of_ble_eq_true rfl) rfl rfl rfl (by decide +kernel) kk
theorem b271_67 {d : Nat} {Q : Option sV → sM → sG → Prop} {M : sM} {G : sG} {a0 : Nat} {x1 : Int} {x2 : Int} {x3 : Int} {x4 : Int} {x5 : Int} {s0 : Int}  (kk : sC d 245 [vI x4] M G (QI (fun r M1 G1 => sW (sC d) 271 Q 72 [vO 12 a0, vI x1, vI x2, vI x3, vI x4, vI x5] (vI r :: [vI s0]) M1 G1 0 0))) : sW (sC d) 271 Q 67 [vO 12 a0, vI x1, vI x2, vI x3, vI x4, vI x5] [vI s0] M G 0 0 := by
  refine q_iload 69 rfl (show sCode 271 67 = some (.iload 4, 2) by decide +kernel) rfl ?_
  exact q_statI [vI x4] 72 rfl (show sCode 271 69 = some (.invokestatic 381, 3) by decide +kernel) (show sMR (sKo 271).1 381 = some 245 by decide +kernel) (show 245 < 1000 ∧ sStat 245 = true ∧ sKo 245 = (12, 1, 1, 0, 0) by decide +kernel) rfl rfl (Nat.le_of_ble_eq_true rfl) rfl rfl rfl (by decide +kernel) kk
theorem b271_72 {d : Nat} {Q : Option sV → sM → sG → Prop} {M : sM} {G : sG} {a0 : Nat} {x1 : Int} {x2 : Int} {x3 : Int} {x4 : Int} {x5 : Int} {s0 : Int} {s1 : Int}  (k1 : s0 ≤ s1 → sW (sC d) 271 Q 90 [vO 12 a0, vI x1, vI x2, vI x3, vI x4, vI x5] [] M G 0 0) (k2 : s1 < s0 → sW (sC d) 271 Q 75 [vO 12 a0, vI x1, vI x2, vI x3, vI x4, vI x5] [] M G 0 0) : sW (sC d) 271 Q 72 [vO 12 a0, vI x1, vI x2, vI x3, vI x4, vI x5] [vI s0, vI s1] M G 0 0 := by
  refine q_icmpge 90 75 rfl (by decide) (show sCode 271 72 = some (.if_icmp .ge 18, 3) by decide +kernel) ?_ ?_
  · intro q; exact k1 q
  · intro q; exact k2 q
theorem b271_75 {d : Nat} {Q : Option sV → sM → sG → Prop} {M : sM} {G : sG} {a0 : Nat} {x1 : Int} {x2 : Int} {x3 : Int} {x4 : Int} {x5 : Int}  (kk : sC d 272 [vO 12 a0, vI x5, vI x1] M G (QI (fun r M1 G1 => sW (sC d) 271 Q 82 [vO 12 a0, vI x1, vI x2, vI x3, vI x4, vI x5] (vI r :: []) M1 G1 0 0))) : sW (sC d) 271 Q 75 [vO 12 a0, vI x1, vI x2, vI x3, vI x4, vI x5] [] M G 0 0 := by
  refine q_aload_n 76 rfl (show sCode 271 75 = some (.aload_n 0, 1) by decide +kernel) rfl (Nat.le_of_ble_eq_true rfl) ?_
  refine q_iload 78 rfl (show sCode 271 76 = some (.iload 5, 2) by decide +kernel) rfl ?_
  refine q_iload_n 79 rfl (show sCode 271 78 = some (.iload_n 1, 1) by decide +kernel) rfl ?_
  exact q_virtI [vI x5, vI x1] 82 rfl (show sCode 271 79 = some (.invokevirtual 435, 3) by decide +kernel) (show sMR (sKo 271).1 435 = some 272 by decide +kernel) (show 272 < 1000 ∧ sStat 272 = false ∧ sIni 272 = false ∧ sKo 272 = (12, 2, 1, 0, 0) by decide +kernel) rfl (Or.inl rfl) rfl (Nat.le_of_ble_eq_true rfl) rfl rfl rfl (by decide +kernel) kk
theorem b271_82 {d : Nat} {Q : Option sV → sM → sG → Prop} {M : sM} {G : sG} {a0 : Nat} {x1 : Int} {x2 : Int} {x3 : Int} {x4 : Int} {x5 : Int} {s0 : Int}  (k1 : s0 < x2 → sW (sC d) 271 Q 90 [vO 12 a0, vI x1, vI x2, vI x3, vI x4, vI x5] [] M G 0 0) (k2 : x2 ≤ s0 → sW (sC d) 271 Q 86 [vO 12 a0, vI x1, vI x2, vI x3, vN, vI x5] [] M G 0 0) : sW (sC d) 271 Q 82 [vO 12 a0, vI x1, vI x2, vI x3, vI x4, vI x5] [vI s0] M G 0 0 := by
  refine q_iload_n 83 rfl (show sCode 271 82 = some (.iload_n 2, 1) by decide +kernel) rfl ?_
  refine q_icmplt 90 86 rfl (by decide) (show sCode 271 83 = some (.if_icmp .lt 7, 3) by decide +kernel) ?_ ?_
  · intro q; exact k1 q
  · intro q; refine q_forget (L' := [vO 12 a0, vI x1, vI x2, vI x3, vN, vI x5]) 4 rfl ?_; exact k2 q
theorem b271_86 {d : Nat} {Q : Option sV → sM → sG → Prop} {M : sM} {G : sG} {a0 : Nat} {x1 : Int} {x2 : Int} {x3 : Int} {x5 : Int}  (kk : sW (sC d) 271 Q 90 [vO 12 a0, vI x1, vI x2, vI x3, vI x5, vI x5] [] M G 0 0) : sW (sC d) 271 Q 86 [vO 12 a0, vI x1, vI x2, vI x3, vN, vI x5] [] M G 0 0 := by
  refine q_iload 88 rfl (show sCode 271 86 = some (.iload 5, 2) by decide +kernel) rfl ?_
  refine q_istore [vO 12 a0, vI x1, vI x2, vI x3, vI x5, vI x5] 90 rfl (show sCode 271 88 = some (.istore 4, 2) by decide +kernel) (Nat.lt_of_lt_of_le (Nat.lt_succ_self _) (Nat.le_of_ble_eq_true rfl)) rfl rfl ?_
  exact kk
theorem b271_90 {d : Nat} {Q : Option sV → sM → sG → Prop} {M : sM} {G : sG} {a0 : Nat} {x1 : Int} {x2 : Int} {x3 : Int} {x4 : Int} {x5 : Int} (h1 : sI (x5 + 1)) (kk : sW (sC d) 271 Q 43 [vO 12 a0, vI x1, vI x2, vI x3, vI x4, vI (x5 + 1)] [] M G 0 0) : sW (sC d) 271 Q 90 [vO 12 a0, vI x1, vI x2, vI x3, vI x4, vI x5] [] M G 0 0 := by
  refine q_iinc [vO 12 a0, vI x1, vI x2, vI x3, vI x4, vI (x5 + 1)] 93 rfl (show sCode 271 90 = some (.iinc 5 1, 3) by decide +kernel) rfl rfl h1 rfl ?_
  refine q_goto 43 (by decide) (show sCode 271 93 = some (.goto (-50), 3) by decide +kernel) ?_
  exact kk
theorem b271_96 {d : Nat} {Q : Option sV → sM → sG → Prop} {M : sM} {G : sG} {x3 : Int} {x4 : Int}  (k1 : 0 ≤ x4 → sW (sC d) 271 Q 106 [vN, vN, vN, vI x3, vI x4, vN] [] M G 0 0) (k2 : x4 < 0 → sW (sC d) 271 Q 101 [vN, vN, vN, vN, vN, vN] [] M G 0 0) : sW (sC d) 271 Q 96 [vN, vN, vN, vI x3, vI x4, vN] [] M G 0 0 := by
  refine q_iload 98 rfl (show sCode 271 96 = some (.iload 4, 2) by decide +kernel) rfl ?_
  refine q_ifge 106 101 rfl (by decide) (show sCode 271 98 = some (.ifCond .ge 8, 3) by decide +kernel) ?_ ?_
  · intro q; exact k1 q
  · intro q; refine q_forget (L' := [vN, vN, vN, vN, vI x4, vN]) 3 rfl ?_; refine q_forget (L' := [vN, vN, vN, vN, vN, vN]) 4 rfl ?_; exact k2 q
theorem b271_101 {d : Nat} {Q : Option sV → sM → sG → Prop} {M : sM} {G : sG}   (kk : sW (sC d) 271 Q 120 [vN, vN, vN, vN, vN, vN] [vI (-2)] M G 0 0) : sW (sC d) 271 Q 101 [vN, vN, vN, vN, vN, vN] [] M G 0 0 := by
  refine q_bipush 103 rfl (show sCode 271 101 = some (.bipush (-2), 2) by decide +kernel) ⟨by decide, by decide⟩ (by decide +kernel) ?_
  refine q_goto 120 (by decide) (show sCode 271 103 = some (.goto 17, 3) by decide +kernel) ?_
  exact kk
theorem b271_106 {d : Nat} {Q : Option sV → sM → sG → Prop} {M : sM} {G : sG} {x3 : Int} {x4 : Int}  (k1 : x3 ≠ 0 → sW (sC d) 271 Q 118 [vN, vN, vN, vN, vI x4, vN] [] M G 0 0) (k2 : x3 = 0 → sW (sC d) 271 Q 110 [vN, vN, vN, vN, vI x4, vN] [] M G 0 0) : sW (sC d) 271 Q 106 [vN, vN, vN, vI x3, vI x4, vN] [] M G 0 0 := by
  refine q_iload_n 107 rfl (show sCode 271 106 = some (.iload_n 3, 1) by decide +kernel) rfl ?_
  refine q_ifne 118 110 rfl (by decide) (show sCode 271 107 = some (.ifCond .ne 11, 3) by decide +kernel) ?_ ?_
  · intro q; refine q_forget (L' := [vN, vN, vN, vN, vI x4, vN]) 3 rfl ?_; exact k1 q
  · intro q; refine q_forget (L' := [vN, vN, vN, vN, vI x4, vN]) 3 rfl ?_; exact k2 q
theorem b271_110 {d : Nat} {Q : Option sV → sM → sG → Prop} {M : sM} {G : sG} {x4 : Int}  (kk : sC d 245 [vI x4] M G (QI (fun r M1 G1 => sW (sC d) 271 Q 115 [vN, vN, vN, vN, vN, vN] (vI r :: []) M1 G1 0 0))) : sW (sC d) 271 Q 110 [vN, vN, vN, vN, vI x4, vN] [] M G 0 0 := by
  refine q_iload 112 rfl (show sCode 271 110 = some (.iload 4, 2) by decide +kernel) rfl ?_
  refine q_forget (L' := [vN, vN, vN, vN, vN, vN]) 4 rfl ?_
  exact q_statI [vI x4] 115 rfl (show sCode 271 112 = some (.invokestatic 381, 3) by decide +kernel) (show sMR (sKo 271).1 381 = some 245 by decide +kernel) (show 245 < 1000 ∧ sStat 245 = true ∧ sKo 245 = (12, 1, 1, 0, 0) by decide +kernel) rfl rfl (Nat.le_of_ble_eq_true rfl) rfl rfl rfl (by decide +kernel) kk
theorem b271_115 {d : Nat} {Q : Option sV → sM → sG → Prop} {M : sM} {G : sG} {s0 : Int}  (kk : sW (sC d) 271 Q 120 [vN, vN, vN, vN, vN, vN] [vI s0] M G 0 0) : sW (sC d) 271 Q 115 [vN, vN, vN, vN, vN, vN] [vI s0] M G 0 0 := by
  refine q_goto 120 (by decide) (show sCode 271 115 = some (.goto 5, 3) by decide +kernel) ?_
  exact kk
theorem b271_118 {d : Nat} {Q : Option sV → sM → sG → Prop} {M : sM} {G : sG} {x4 : Int}  (kk : sW (sC d) 271 Q 120 [vN, vN, vN, vN, vN, vN] [vI x4] M G 0 0) : sW (sC d) 271 Q 118 [vN, vN, vN, vN, vI x4, vN] [] M G 0 0 := by
  refine q_iload 120 rfl (show sCode 271 118 = some (.iload 4, 2) by decide +kernel) rfl ?_
  refine q_forget (L' := [vN, vN, vN, vN, vN, vN]) 4 rfl ?_
  exact kk
theorem b271_120 {d : Nat} {P : Int → sM → sG → Prop} {M : sM} {G : sG} {s0 : Int}  (kk : P s0 M G) : sW (sC d) 271 (QI P) 120 [vN, vN, vN, vN, vN, vN] [vI s0] M G 0 0 := by
  exact q_iret (show sCode 271 120 = some (.ireturn, 1) by decide +kernel) (by decide +kernel) (by decide +kernel) kk
-- 272 AfterTheLastModel.goesBy (II)I
theorem b272_0 {d : Nat} {Q : Option sV → sM → sG → Prop} {M : sM} {G : sG} {a0 : Nat} {x1 : Int} {x2 : Int}  (kk : sW (sC d) 272 Q 5 [vO 12 a0, vI x1, vN, vI x2, vI 0, vN] [] M G 0 0) : sW (sC d) 272 Q 0 [vO 12 a0, vI x1, vI x2, vN, vN, vN] [] M G 0 0 := by
  refine q_iload_n 1 rfl (show sCode 272 0 = some (.iload_n 2, 1) by decide +kernel) rfl ?_
  refine q_istore_n [vO 12 a0, vI x1, vI x2, vI x2, vN, vN] 2 rfl (show sCode 272 1 = some (.istore_n 3, 1) by decide +kernel) (Nat.lt_of_lt_of_le (Nat.lt_succ_self _) (Nat.le_of_ble_eq_true rfl)) rfl rfl ?_
  refine q_iconst 3 rfl (show sCode 272 2 = some (.iconst 0, 1) by decide +kernel) ⟨by decide, by decide⟩ ?_
  refine q_istore [vO 12 a0, vI x1, vI x2, vI x2, vI 0, vN] 5 rfl (show sCode 272 3 = some (.istore 4, 2) by decide +kernel) (Nat.lt_of_lt_of_le (Nat.lt_succ_self _) (Nat.le_of_ble_eq_true rfl)) rfl rfl ?_
  refine q_forget (L' := [vO 12 a0, vI x1, vN, vI x2, vI 0, vN]) 2 rfl ?_
  exact kk
theorem b272_5 {d : Nat} {Q : Option sV → sM → sG → Prop} {M : sM} {G : sG} {a0 : Nat} {x1 : Int} {x3 : Int} {x4 : Int}  (k1 : 95 < x4 → sW (sC d) 272 Q 107 [vN, vN, vN, vI x3, vN, vN] [] M G 0 0) (k2 : x4 ≤ 95 → sW (sC d) 272 Q 12 [vO 12 a0, vI x1, vN, vI x3, vI x4, vN] [] M G 0 0) : sW (sC d) 272 Q 5 [vO 12 a0, vI x1, vN, vI x3, vI x4, vN] [] M G 0 0 := by
  refine q_iload 7 rfl (show sCode 272 5 = some (.iload 4, 2) by decide +kernel) rfl ?_
  refine q_bipush 9 rfl (show sCode 272 7 = some (.bipush 95, 2) by decide +kernel) ⟨by decide, by decide⟩ (by decide +kernel) ?_
  refine q_icmpgt 107 12 rfl (by decide) (show sCode 272 9 = some (.if_icmp .gt 98, 3) by decide +kernel) ?_ ?_
  · intro q; refine q_forget (L' := [vN, vI x1, vN, vI x3, vI x4, vN]) 0 rfl ?_; refine q_forget (L' := [vN, vN, vN, vI x3, vI x4, vN]) 1 rfl ?_; refine q_forget (L' := [vN, vN, vN, vI x3, vN, vN]) 4 rfl ?_; exact k1 q
  · intro q; exact k2 q
theorem b272_12 {d : Nat} {Q : Option sV → sM → sG → Prop} {M : sM} {G : sG} {a0 : Nat} {x1 : Int} {x3 : Int} {x4 : Int}  (kk : sW (sC d) 272 Q 15 [vO 12 a0, vI x1, vN, vI x3, vI x4, vI 0] [] M G 0 0) : sW (sC d) 272 Q 12 [vO 12 a0, vI x1, vN, vI x3, vI x4, vN] [] M G 0 0 := by
  refine q_iconst 13 rfl (show sCode 272 12 = some (.iconst 0, 1) by decide +kernel) ⟨by decide, by decide⟩ ?_
  refine q_istore [vO 12 a0, vI x1, vN, vI x3, vI x4, vI 0] 15 rfl (show sCode 272 13 = some (.istore 5, 2) by decide +kernel) (Nat.lt_of_lt_of_le (Nat.lt_succ_self _) (Nat.le_of_ble_eq_true rfl)) rfl rfl ?_
  exact kk
theorem b272_15 {d : Nat} {Q : Option sV → sM → sG → Prop} {M : sM} {G : sG} {a0 : Nat} {x1 : Int} {x3 : Int} {x4 : Int} {x5 : Int}  (k1 : M (a0 + 11) 8 ≤ x5 → sW (sC d) 272 Q 101 [vO 12 a0, vI x1, vN, vI x3, vI x4, vN] [] M G 0 0) (k2 : x5 < M (a0 + 11) 8 → sW (sC d) 272 Q 27 [vO 12 a0, vI x1, vN, vI x3, vI x4, vI x5] [] M G 0 0) : sW (sC d) 272 Q 15 [vO 12 a0, vI x1, vN, vI x3, vI x4, vI x5] [] M G 0 0 := by
  refine q_iload 17 rfl (show sCode 272 15 = some (.iload 5, 2) by decide +kernel) rfl ?_
  refine q_aload_n 18 rfl (show sCode 272 17 = some (.aload_n 0, 1) by decide +kernel) rfl (Nat.le_of_ble_eq_true rfl) ?_
  refine q_getR (vA 0 (a0 + 11) 274) 21 rfl (show sCode 272 18 = some (.getfield 42, 3) by decide +kernel) (show sFR (sKo 272).1 42 = some (12, 23) by decide +kernel) (by decide +kernel) (Or.inl (Or.inl rfl)) rfl ?_
  refine q_bipush 23 rfl (show sCode 272 21 = some (.bipush 8, 2) by decide +kernel) ⟨by decide, by decide⟩ (by decide +kernel) ?_
  refine q_iald 24 rfl (show sCode 272 23 = some (.iaload, 1) by decide +kernel) ⟨by decide, by decide⟩ ?_
  refine q_icmpge 101 27 rfl (by decide) (show sCode 272 24 = some (.if_icmp .ge 77, 3) by decide +kernel) ?_ ?_
  · intro q; refine q_forget (L' := [vO 12 a0, vI x1, vN, vI x3, vI x4, vN]) 5 rfl ?_; exact k1 q
  · intro q; exact k2 q
theorem b272_27 {d : Nat} {Q : Option sV → sM → sG → Prop} {M : sM} {G : sG} {a0 : Nat} {x1 : Int} {x3 : Int} {x4 : Int} {x5 : Int}  (k1 : x3 ≤ x4 → sW (sC d) 272 Q 101 [vO 12 a0, vI x1, vN, vI x3, vI x4, vN] [] M G 0 0) (k2 : x4 < x3 → sW (sC d) 272 Q 33 [vO 12 a0, vI x1, vN, vI x3, vI x4, vI x5] [] M G 0 0) : sW (sC d) 272 Q 27 [vO 12 a0, vI x1, vN, vI x3, vI x4, vI x5] [] M G 0 0 := by
  refine q_iload 29 rfl (show sCode 272 27 = some (.iload 4, 2) by decide +kernel) rfl ?_
  refine q_iload_n 30 rfl (show sCode 272 29 = some (.iload_n 3, 1) by decide +kernel) rfl ?_
  refine q_icmpge 101 33 rfl (by decide) (show sCode 272 30 = some (.if_icmp .ge 71, 3) by decide +kernel) ?_ ?_
  · intro q; refine q_forget (L' := [vO 12 a0, vI x1, vN, vI x3, vI x4, vN]) 5 rfl ?_; exact k1 q
  · intro q; exact k2 q
theorem b272_33 {d : Nat} {Q : Option sV → sM → sG → Prop} {M : sM} {G : sG} {a0 : Nat} {x1 : Int} {x3 : Int} {x4 : Int} {x5 : Int}  (kk : sC d 244 [vI x1, vI x5] M G (QI (fun r M1 G1 => sW (sC d) 272 Q 39 [vO 12 a0, vI x1, vN, vI x3, vI x4, vI x5] (vI r :: []) M1 G1 0 0))) : sW (sC d) 272 Q 33 [vO 12 a0, vI x1, vN, vI x3, vI x4, vI x5] [] M G 0 0 := by
  refine q_iload_n 34 rfl (show sCode 272 33 = some (.iload_n 1, 1) by decide +kernel) rfl ?_
  refine q_iload 36 rfl (show sCode 272 34 = some (.iload 5, 2) by decide +kernel) rfl ?_
  exact q_statI [vI x1, vI x5] 39 rfl (show sCode 272 36 = some (.invokestatic 369, 3) by decide +kernel) (show sMR (sKo 272).1 369 = some 244 by decide +kernel) (show 244 < 1000 ∧ sStat 244 = true ∧ sKo 244 = (12, 2, 2, 0, 0) by decide +kernel) rfl rfl (Nat.le_of_ble_eq_true rfl) rfl rfl rfl (by decide +kernel) kk
theorem b272_39 {d : Nat} {Q : Option sV → sM → sG → Prop} {M : sM} {G : sG} {a0 : Nat} {x1 : Int} {x3 : Int} {x4 : Int} {x5 : Int} {s0 : Int}  (k1 : s0 = 0 → sW (sC d) 272 Q 95 [vO 12 a0, vI x1, vN, vI x3, vI x4, vI x5] [] M G 0 0) (k2 : s0 ≠ 0 → sW (sC d) 272 Q 42 [vO 12 a0, vI x1, vN, vI x3, vI x4, vI x5] [] M G 0 0) : sW (sC d) 272 Q 39 [vO 12 a0, vI x1, vN, vI x3, vI x4, vI x5] [vI s0] M G 0 0 := by
  refine q_ifeq 95 42 rfl (by decide) (show sCode 272 39 = some (.ifCond .eq 56, 3) by decide +kernel) ?_ ?_
  · intro q; exact k1 q
  · intro q; exact k2 q
theorem b272_42 {d : Nat} {Q : Option sV → sM → sG → Prop} {M : sM} {G : sG} {a0 : Nat} {x1 : Int} {x3 : Int} {x4 : Int} {x5 : Int} (h1 : sI (2 * x5)) (h2 : sI (250 + (2 * x5))) (h3 : 0 ≤ 250 + (2 * x5) ∧ 250 + (2 * x5) < 274) (k1 : M (a0 + 11) (250 + (2 * x5)).toNat ≠ x4 → sW (sC d) 272 Q 95 [vO 12 a0, vI x1, vN, vI x3, vI x4, vI x5] [] M G 0 0) (k2 : M (a0 + 11) (250 + (2 * x5)).toNat = x4 → sW (sC d) 272 Q 60 [vO 12 a0, vI x1, vN, vI x3, vI x4, vI x5] [] M G 0 0) : sW (sC d) 272 Q 42 [vO 12 a0, vI x1, vN, vI x3, vI x4, vI x5] [] M G 0 0 := by
  refine q_aload_n 43 rfl (show sCode 272 42 = some (.aload_n 0, 1) by decide +kernel) rfl (Nat.le_of_ble_eq_true rfl) ?_
  refine q_getR (vA 0 (a0 + 11) 274) 46 rfl (show sCode 272 43 = some (.getfield 42, 3) by decide +kernel) (show sFR (sKo 272).1 42 = some (12, 23) by decide +kernel) (by decide +kernel) (Or.inl (Or.inl rfl)) rfl ?_
  refine q_sipush 49 rfl (show sCode 272 46 = some (.sipush 250, 3) by decide +kernel) ⟨by decide, by decide⟩ (by decide +kernel) ?_
  refine q_iconst 50 rfl (show sCode 272 49 = some (.iconst 2, 1) by decide +kernel) ⟨by decide, by decide⟩ ?_
  refine q_iload 52 rfl (show sCode 272 50 = some (.iload 5, 2) by decide +kernel) rfl ?_
  refine q_imul 53 rfl (show sCode 272 52 = some (.imul, 1) by decide +kernel) h1 ?_
  refine q_iadd 54 rfl (show sCode 272 53 = some (.iadd, 1) by decide +kernel) h2 ?_
  refine q_iald 55 rfl (show sCode 272 54 = some (.iaload, 1) by decide +kernel) h3 ?_
  refine q_iload 57 rfl (show sCode 272 55 = some (.iload 4, 2) by decide +kernel) rfl ?_
  refine q_icmpne 95 60 rfl (by decide) (show sCode 272 57 = some (.if_icmp .ne 38, 3) by decide +kernel) ?_ ?_
  · intro q; exact k1 q
  · intro q; exact k2 q
theorem b272_60 {d : Nat} {Q : Option sV → sM → sG → Prop} {M : sM} {G : sG} {a0 : Nat} {x1 : Int} {x3 : Int} {x4 : Int} {x5 : Int} (h1 : sI (2 * x5)) (h2 : sI (250 + (2 * x5))) (h3 : sI ((250 + (2 * x5)) + 1)) (h4 : 0 ≤ (250 + (2 * x5)) + 1 ∧ (250 + (2 * x5)) + 1 < 274) (k1 : M (a0 + 11) ((250 + (2 * x5)) + 1).toNat ≤ x3 → sW (sC d) 272 Q 95 [vO 12 a0, vI x1, vN, vI x3, vI x4, vI x5] [] M G 0 0) (k2 : x3 < M (a0 + 11) ((250 + (2 * x5)) + 1).toNat → sW (sC d) 272 Q 79 [vO 12 a0, vI x1, vN, vN, vI x4, vI x5] [] M G 0 0) : sW (sC d) 272 Q 60 [vO 12 a0, vI x1, vN, vI x3, vI x4, vI x5] [] M G 0 0 := by
  refine q_aload_n 61 rfl (show sCode 272 60 = some (.aload_n 0, 1) by decide +kernel) rfl (Nat.le_of_ble_eq_true rfl) ?_
  refine q_getR (vA 0 (a0 + 11) 274) 64 rfl (show sCode 272 61 = some (.getfield 42, 3) by decide +kernel) (show sFR (sKo 272).1 42 = some (12, 23) by decide +kernel) (by decide +kernel) (Or.inl (Or.inl rfl)) rfl ?_
  refine q_sipush 67 rfl (show sCode 272 64 = some (.sipush 250, 3) by decide +kernel) ⟨by decide, by decide⟩ (by decide +kernel) ?_
  refine q_iconst 68 rfl (show sCode 272 67 = some (.iconst 2, 1) by decide +kernel) ⟨by decide, by decide⟩ ?_
  refine q_iload 70 rfl (show sCode 272 68 = some (.iload 5, 2) by decide +kernel) rfl ?_
  refine q_imul 71 rfl (show sCode 272 70 = some (.imul, 1) by decide +kernel) h1 ?_
  refine q_iadd 72 rfl (show sCode 272 71 = some (.iadd, 1) by decide +kernel) h2 ?_
  refine q_iconst 73 rfl (show sCode 272 72 = some (.iconst 1, 1) by decide +kernel) ⟨by decide, by decide⟩ ?_
  refine q_iadd 74 rfl (show sCode 272 73 = some (.iadd, 1) by decide +kernel) h3 ?_
  refine q_iald 75 rfl (show sCode 272 74 = some (.iaload, 1) by decide +kernel) h4 ?_
  refine q_iload_n 76 rfl (show sCode 272 75 = some (.iload_n 3, 1) by decide +kernel) rfl ?_
  refine q_icmple 95 79 rfl (by decide) (show sCode 272 76 = some (.if_icmp .le 19, 3) by decide +kernel) ?_ ?_
  · intro q; exact k1 q
  · intro q; refine q_forget (L' := [vO 12 a0, vI x1, vN, vN, vI x4, vI x5]) 3 rfl ?_; exact k2 q
theorem b272_79 {d : Nat} {Q : Option sV → sM → sG → Prop} {M : sM} {G : sG} {a0 : Nat} {x1 : Int} {x4 : Int} {x5 : Int} (h1 : sI (2 * x5)) (h2 : sI (250 + (2 * x5))) (h3 : sI ((250 + (2 * x5)) + 1)) (h4 : 0 ≤ (250 + (2 * x5)) + 1 ∧ (250 + (2 * x5)) + 1 < 274) (kk : sW (sC d) 272 Q 95 [vO 12 a0, vI x1, vN, vI (M (a0 + 11) ((250 + (2 * x5)) + 1).toNat), vI x4, vI x5] [] M G 0 0) : sW (sC d) 272 Q 79 [vO 12 a0, vI x1, vN, vN, vI x4, vI x5] [] M G 0 0 := by
  refine q_aload_n 80 rfl (show sCode 272 79 = some (.aload_n 0, 1) by decide +kernel) rfl (Nat.le_of_ble_eq_true rfl) ?_
  refine q_getR (vA 0 (a0 + 11) 274) 83 rfl (show sCode 272 80 = some (.getfield 42, 3) by decide +kernel) (show sFR (sKo 272).1 42 = some (12, 23) by decide +kernel) (by decide +kernel) (Or.inl (Or.inl rfl)) rfl ?_
  refine q_sipush 86 rfl (show sCode 272 83 = some (.sipush 250, 3) by decide +kernel) ⟨by decide, by decide⟩ (by decide +kernel) ?_
  refine q_iconst 87 rfl (show sCode 272 86 = some (.iconst 2, 1) by decide +kernel) ⟨by decide, by decide⟩ ?_
  refine q_iload 89 rfl (show sCode 272 87 = some (.iload 5, 2) by decide +kernel) rfl ?_
  refine q_imul 90 rfl (show sCode 272 89 = some (.imul, 1) by decide +kernel) h1 ?_
  refine q_iadd 91 rfl (show sCode 272 90 = some (.iadd, 1) by decide +kernel) h2 ?_
  refine q_iconst 92 rfl (show sCode 272 91 = some (.iconst 1, 1) by decide +kernel) ⟨by decide, by decide⟩ ?_
  refine q_iadd 93 rfl (show sCode 272 92 = some (.iadd, 1) by decide +kernel) h3 ?_
  refine q_iald 94 rfl (show sCode 272 93 = some (.iaload, 1) by decide +kernel) h4 ?_
  refine q_istore_n [vO 12 a0, vI x1, vN, vI (M (a0 + 11) ((250 + (2 * x5)) + 1).toNat), vI x4, vI x5] 95 rfl (show sCode 272 94 = some (.istore_n 3, 1) by decide +kernel) (Nat.lt_of_lt_of_le (Nat.lt_succ_self _) (Nat.le_of_ble_eq_true rfl)) rfl rfl ?_
  exact kk
theorem b272_95 {d : Nat} {Q : Option sV → sM → sG → Prop} {M : sM} {G : sG} {a0 : Nat} {x1 : Int} {x3 : Int} {x4 : Int} {x5 : Int} (h1 : sI (x5 + 1)) (kk : sW (sC d) 272 Q 15 [vO 12 a0, vI x1, vN, vI x3, vI x4, vI (x5 + 1)] [] M G 0 0) : sW (sC d) 272 Q 95 [vO 12 a0, vI x1, vN, vI x3, vI x4, vI x5] [] M G 0 0 := by
  refine q_iinc [vO 12 a0, vI x1, vN, vI x3, vI x4, vI (x5 + 1)] 98 rfl (show sCode 272 95 = some (.iinc 5 1, 3) by decide +kernel) rfl rfl h1 rfl ?_
  refine q_goto 15 (by decide) (show sCode 272 98 = some (.goto (-83), 3) by decide +kernel) ?_
  exact kk
theorem b272_101 {d : Nat} {Q : Option sV → sM → sG → Prop} {M : sM} {G : sG} {a0 : Nat} {x1 : Int} {x3 : Int} {x4 : Int} (h1 : sI (x4 + 1)) (kk : sW (sC d) 272 Q 5 [vO 12 a0, vI x1, vN, vI x3, vI (x4 + 1), vN] [] M G 0 0) : sW (sC d) 272 Q 101 [vO 12 a0, vI x1, vN, vI x3, vI x4, vN] [] M G 0 0 := by
  refine q_iinc [vO 12 a0, vI x1, vN, vI x3, vI (x4 + 1), vN] 104 rfl (show sCode 272 101 = some (.iinc 4 1, 3) by decide +kernel) rfl rfl h1 rfl ?_
  refine q_goto 5 (by decide) (show sCode 272 104 = some (.goto (-99), 3) by decide +kernel) ?_
  exact kk
theorem b272_107 {d : Nat} {P : Int → sM → sG → Prop} {M : sM} {G : sG} {x3 : Int}  (kk : P x3 M G) : sW (sC d) 272 (QI P) 107 [vN, vN, vN, vI x3, vN, vN] [] M G 0 0 := by
  refine q_iload_n 108 rfl (show sCode 272 107 = some (.iload_n 3, 1) by decide +kernel) rfl ?_
  exact q_iret (show sCode 272 108 = some (.ireturn, 1) by decide +kernel) (by decide +kernel) (by decide +kernel) kk
-- 273 AfterTheLastModel.knocks (IIIIII)I
theorem b273_0 {d : Nat} {Q : Option sV → sM → sG → Prop} {M : sM} {G : sG} {a0 : Nat} {x1 : Int} {x2 : Int} {x3 : Int} {x4 : Int} {x5 : Int} {x6 : Int}  (kk : sC d 183 [vL x1, vL 0, vL 16] M G (QI (fun r M1 G1 => sW (sC d) 273 Q 9 [vO 12 a0, vI x1, vI x2, vI x3, vI x4, vI x5, vI x6, vN, vN, vN] (vI r :: []) M1 G1 0 0))) : sW (sC d) 273 Q 0 [vO 12 a0, vI x1, vI x2, vI x3, vI x4, vI x5, vI x6, vN, vN, vN] [] M G 0 0 := by
  refine q_iload_n 1 rfl (show sCode 273 0 = some (.iload_n 1, 1) by decide +kernel) rfl ?_
  refine q_i2l 2 rfl (show sCode 273 1 = some (.i2l, 1) by decide +kernel) ?_
  refine q_lconst 3 rfl (show sCode 273 2 = some (.lconst 0, 1) by decide +kernel) ?_
  refine q_ldc2_w 6 rfl (show sCode 273 3 = some (.ldc2_w 438, 3) by decide +kernel) (show sLR (sKo 273).1 438 = some 16 by decide +kernel) ⟨by decide, by decide⟩ ?_
  exact q_statI [vL x1, vL 0, vL 16] 9 rfl (show sCode 273 6 = some (.invokestatic 127, 3) by decide +kernel) (show sMR (sKo 273).1 127 = some 183 by decide +kernel) (show 183 < 1000 ∧ sStat 183 = true ∧ sKo 183 = (12, 3, 2, 0, 0) by decide +kernel) rfl rfl (Nat.le_of_ble_eq_true rfl) rfl rfl rfl (by decide +kernel) kk
theorem b273_9 {d : Nat} {Q : Option sV → sM → sG → Prop} {M : sM} {G : sG} {a0 : Nat} {x1 : Int} {x2 : Int} {x3 : Int} {x4 : Int} {x5 : Int} {x6 : Int} {s0 : Int}  (k1 : s0 = 0 → sW (sC d) 273 Q 73 [vN, vN, vN, vN, vN, vN, vN, vN, vN, vN] [] M G 0 0) (k2 : s0 ≠ 0 → sW (sC d) 273 Q 12 [vO 12 a0, vI x1, vI x2, vI x3, vI x4, vI x5, vI x6, vN, vN, vN] [] M G 0 0) : sW (sC d) 273 Q 9 [vO 12 a0, vI x1, vI x2, vI x3, vI x4, vI x5, vI x6, vN, vN, vN] [vI s0] M G 0 0 := by
  refine q_ifeq 73 12 rfl (by decide) (show sCode 273 9 = some (.ifCond .eq 64, 3) by decide +kernel) ?_ ?_
  · intro q; refine q_forget (L' := [vN, vI x1, vI x2, vI x3, vI x4, vI x5, vI x6, vN, vN, vN]) 0 rfl ?_; refine q_forget (L' := [vN, vN, vI x2, vI x3, vI x4, vI x5, vI x6, vN, vN, vN]) 1 rfl ?_; refine q_forget (L' := [vN, vN, vN, vI x3, vI x4, vI x5, vI x6, vN, vN, vN]) 2 rfl ?_; refine q_forget (L' := [vN, vN, vN, vN, vI x4, vI x5, vI x6, vN, vN, vN]) 3 rfl ?_; refine q_forget (L' := [vN, vN, vN, vN, vN, vI x5, vI x6, vN, vN, vN]) 4 rfl ?_; refine q_forget (L' := [vN, vN, vN, vN, vN, vN, vI x6, vN, vN, vN]) 5 rfl ?_; refine q_forget (L' := [vN, vN, vN, vN, vN, vN, vN, vN, vN, vN]) 6 rfl ?_; exact k1 q
  · intro q; exact k2 q
theorem b273_12 {d : Nat} {Q : Option sV → sM → sG → Prop} {M : sM} {G : sG} {a0 : Nat} {x1 : Int} {x2 : Int} {x3 : Int} {x4 : Int} {x5 : Int} {x6 : Int}  (kk : sC d 183 [vL x2, vL 1, vL 95] M G (QI (fun r M1 G1 => sW (sC d) 273 Q 21 [vO 12 a0, vI x1, vI x2, vI x3, vI x4, vI x5, vI x6, vN, vN, vN] (vI r :: []) M1 G1 0 0))) : sW (sC d) 273 Q 12 [vO 12 a0, vI x1, vI x2, vI x3, vI x4, vI x5, vI x6, vN, vN, vN] [] M G 0 0 := by
  refine q_iload_n 13 rfl (show sCode 273 12 = some (.iload_n 2, 1) by decide +kernel) rfl ?_
  refine q_i2l 14 rfl (show sCode 273 13 = some (.i2l, 1) by decide +kernel) ?_
  refine q_lconst 15 rfl (show sCode 273 14 = some (.lconst 1, 1) by decide +kernel) ?_
  refine q_ldc2_w 18 rfl (show sCode 273 15 = some (.ldc2_w 392, 3) by decide +kernel) (show sLR (sKo 273).1 392 = some 95 by decide +kernel) ⟨by decide, by decide⟩ ?_
  exact q_statI [vL x2, vL 1, vL 95] 21 rfl (show sCode 273 18 = some (.invokestatic 127, 3) by decide +kernel) (show sMR (sKo 273).1 127 = some 183 by decide +kernel) (show 183 < 1000 ∧ sStat 183 = true ∧ sKo 183 = (12, 3, 2, 0, 0) by decide +kernel) rfl rfl (Nat.le_of_ble_eq_true rfl) rfl rfl rfl (by decide +kernel) kk
theorem b273_21 {d : Nat} {Q : Option sV → sM → sG → Prop} {M : sM} {G : sG} {a0 : Nat} {x1 : Int} {x2 : Int} {x3 : Int} {x4 : Int} {x5 : Int} {x6 : Int} {s0 : Int}  (k1 : s0 = 0 → sW (sC d) 273 Q 73 [vN, vN, vN, vN, vN, vN, vN, vN, vN, vN] [] M G 0 0) (k2 : s0 ≠ 0 → sW (sC d) 273 Q 24 [vO 12 a0, vI x1, vI x2, vI x3, vI x4, vI x5, vI x6, vN, vN, vN] [] M G 0 0) : sW (sC d) 273 Q 21 [vO 12 a0, vI x1, vI x2, vI x3, vI x4, vI x5, vI x6, vN, vN, vN] [vI s0] M G 0 0 := by
  refine q_ifeq 73 24 rfl (by decide) (show sCode 273 21 = some (.ifCond .eq 52, 3) by decide +kernel) ?_ ?_
  · intro q; refine q_forget (L' := [vN, vI x1, vI x2, vI x3, vI x4, vI x5, vI x6, vN, vN, vN]) 0 rfl ?_; refine q_forget (L' := [vN, vN, vI x2, vI x3, vI x4, vI x5, vI x6, vN, vN, vN]) 1 rfl ?_; refine q_forget (L' := [vN, vN, vN, vI x3, vI x4, vI x5, vI x6, vN, vN, vN]) 2 rfl ?_; refine q_forget (L' := [vN, vN, vN, vN, vI x4, vI x5, vI x6, vN, vN, vN]) 3 rfl ?_; refine q_forget (L' := [vN, vN, vN, vN, vN, vI x5, vI x6, vN, vN, vN]) 4 rfl ?_; refine q_forget (L' := [vN, vN, vN, vN, vN, vN, vI x6, vN, vN, vN]) 5 rfl ?_; refine q_forget (L' := [vN, vN, vN, vN, vN, vN, vN, vN, vN, vN]) 6 rfl ?_; exact k1 q
  · intro q; exact k2 q
theorem b273_24 {d : Nat} {Q : Option sV → sM → sG → Prop} {M : sM} {G : sG} {a0 : Nat} {x1 : Int} {x2 : Int} {x3 : Int} {x4 : Int} {x5 : Int} {x6 : Int}  (kk : sC d 183 [vL x3, vL 0, vL 99] M G (QI (fun r M1 G1 => sW (sC d) 273 Q 33 [vO 12 a0, vI x1, vI x2, vI x3, vI x4, vI x5, vI x6, vN, vN, vN] (vI r :: []) M1 G1 0 0))) : sW (sC d) 273 Q 24 [vO 12 a0, vI x1, vI x2, vI x3, vI x4, vI x5, vI x6, vN, vN, vN] [] M G 0 0 := by
  refine q_iload_n 25 rfl (show sCode 273 24 = some (.iload_n 3, 1) by decide +kernel) rfl ?_
  refine q_i2l 26 rfl (show sCode 273 25 = some (.i2l, 1) by decide +kernel) ?_
  refine q_lconst 27 rfl (show sCode 273 26 = some (.lconst 0, 1) by decide +kernel) ?_
  refine q_ldc2_w 30 rfl (show sCode 273 27 = some (.ldc2_w 418, 3) by decide +kernel) (show sLR (sKo 273).1 418 = some 99 by decide +kernel) ⟨by decide, by decide⟩ ?_
  exact q_statI [vL x3, vL 0, vL 99] 33 rfl (show sCode 273 30 = some (.invokestatic 127, 3) by decide +kernel) (show sMR (sKo 273).1 127 = some 183 by decide +kernel) (show 183 < 1000 ∧ sStat 183 = true ∧ sKo 183 = (12, 3, 2, 0, 0) by decide +kernel) rfl rfl (Nat.le_of_ble_eq_true rfl) rfl rfl rfl (by decide +kernel) kk
theorem b273_33 {d : Nat} {Q : Option sV → sM → sG → Prop} {M : sM} {G : sG} {a0 : Nat} {x1 : Int} {x2 : Int} {x3 : Int} {x4 : Int} {x5 : Int} {x6 : Int} {s0 : Int}  (k1 : s0 = 0 → sW (sC d) 273 Q 73 [vN, vN, vN, vN, vN, vN, vN, vN, vN, vN] [] M G 0 0) (k2 : s0 ≠ 0 → sW (sC d) 273 Q 36 [vO 12 a0, vI x1, vI x2, vI x3, vI x4, vI x5, vI x6, vN, vN, vN] [] M G 0 0) : sW (sC d) 273 Q 33 [vO 12 a0, vI x1, vI x2, vI x3, vI x4, vI x5, vI x6, vN, vN, vN] [vI s0] M G 0 0 := by
  refine q_ifeq 73 36 rfl (by decide) (show sCode 273 33 = some (.ifCond .eq 40, 3) by decide +kernel) ?_ ?_
  · intro q; refine q_forget (L' := [vN, vI x1, vI x2, vI x3, vI x4, vI x5, vI x6, vN, vN, vN]) 0 rfl ?_; refine q_forget (L' := [vN, vN, vI x2, vI x3, vI x4, vI x5, vI x6, vN, vN, vN]) 1 rfl ?_; refine q_forget (L' := [vN, vN, vN, vI x3, vI x4, vI x5, vI x6, vN, vN, vN]) 2 rfl ?_; refine q_forget (L' := [vN, vN, vN, vN, vI x4, vI x5, vI x6, vN, vN, vN]) 3 rfl ?_; refine q_forget (L' := [vN, vN, vN, vN, vN, vI x5, vI x6, vN, vN, vN]) 4 rfl ?_; refine q_forget (L' := [vN, vN, vN, vN, vN, vN, vI x6, vN, vN, vN]) 5 rfl ?_; refine q_forget (L' := [vN, vN, vN, vN, vN, vN, vN, vN, vN, vN]) 6 rfl ?_; exact k1 q
  · intro q; exact k2 q
theorem b273_36 {d : Nat} {Q : Option sV → sM → sG → Prop} {M : sM} {G : sG} {a0 : Nat} {x1 : Int} {x2 : Int} {x3 : Int} {x4 : Int} {x5 : Int} {x6 : Int}  (kk : sC d 183 [vL x4, vL 0, vL 95] M G (QI (fun r M1 G1 => sW (sC d) 273 Q 46 [vO 12 a0, vI x1, vI x2, vI x3, vI x4, vI x5, vI x6, vN, vN, vN] (vI r :: []) M1 G1 0 0))) : sW (sC d) 273 Q 36 [vO 12 a0, vI x1, vI x2, vI x3, vI x4, vI x5, vI x6, vN, vN, vN] [] M G 0 0 := by
  refine q_iload 38 rfl (show sCode 273 36 = some (.iload 4, 2) by decide +kernel) rfl ?_
  refine q_i2l 39 rfl (show sCode 273 38 = some (.i2l, 1) by decide +kernel) ?_
  refine q_lconst 40 rfl (show sCode 273 39 = some (.lconst 0, 1) by decide +kernel) ?_
  refine q_ldc2_w 43 rfl (show sCode 273 40 = some (.ldc2_w 392, 3) by decide +kernel) (show sLR (sKo 273).1 392 = some 95 by decide +kernel) ⟨by decide, by decide⟩ ?_
  exact q_statI [vL x4, vL 0, vL 95] 46 rfl (show sCode 273 43 = some (.invokestatic 127, 3) by decide +kernel) (show sMR (sKo 273).1 127 = some 183 by decide +kernel) (show 183 < 1000 ∧ sStat 183 = true ∧ sKo 183 = (12, 3, 2, 0, 0) by decide +kernel) rfl rfl (Nat.le_of_ble_eq_true rfl) rfl rfl rfl (by decide +kernel) kk
theorem b273_46 {d : Nat} {Q : Option sV → sM → sG → Prop} {M : sM} {G : sG} {a0 : Nat} {x1 : Int} {x2 : Int} {x3 : Int} {x4 : Int} {x5 : Int} {x6 : Int} {s0 : Int}  (k1 : s0 = 0 → sW (sC d) 273 Q 73 [vN, vN, vN, vN, vN, vN, vN, vN, vN, vN] [] M G 0 0) (k2 : s0 ≠ 0 → sW (sC d) 273 Q 49 [vO 12 a0, vI x1, vI x2, vI x3, vI x4, vI x5, vI x6, vN, vN, vN] [] M G 0 0) : sW (sC d) 273 Q 46 [vO 12 a0, vI x1, vI x2, vI x3, vI x4, vI x5, vI x6, vN, vN, vN] [vI s0] M G 0 0 := by
  refine q_ifeq 73 49 rfl (by decide) (show sCode 273 46 = some (.ifCond .eq 27, 3) by decide +kernel) ?_ ?_
  · intro q; refine q_forget (L' := [vN, vI x1, vI x2, vI x3, vI x4, vI x5, vI x6, vN, vN, vN]) 0 rfl ?_; refine q_forget (L' := [vN, vN, vI x2, vI x3, vI x4, vI x5, vI x6, vN, vN, vN]) 1 rfl ?_; refine q_forget (L' := [vN, vN, vN, vI x3, vI x4, vI x5, vI x6, vN, vN, vN]) 2 rfl ?_; refine q_forget (L' := [vN, vN, vN, vN, vI x4, vI x5, vI x6, vN, vN, vN]) 3 rfl ?_; refine q_forget (L' := [vN, vN, vN, vN, vN, vI x5, vI x6, vN, vN, vN]) 4 rfl ?_; refine q_forget (L' := [vN, vN, vN, vN, vN, vN, vI x6, vN, vN, vN]) 5 rfl ?_; refine q_forget (L' := [vN, vN, vN, vN, vN, vN, vN, vN, vN, vN]) 6 rfl ?_; exact k1 q
  · intro q; exact k2 q
theorem b273_49 {d : Nat} {Q : Option sV → sM → sG → Prop} {M : sM} {G : sG} {a0 : Nat} {x1 : Int} {x2 : Int} {x3 : Int} {x4 : Int} {x5 : Int} {x6 : Int}  (kk : sC d 183 [vL x5, vL 0, vL x4] M G (QI (fun r M1 G1 => sW (sC d) 273 Q 59 [vO 12 a0, vI x1, vI x2, vI x3, vI x4, vI x5, vI x6, vN, vN, vN] (vI r :: []) M1 G1 0 0))) : sW (sC d) 273 Q 49 [vO 12 a0, vI x1, vI x2, vI x3, vI x4, vI x5, vI x6, vN, vN, vN] [] M G 0 0 := by
  refine q_iload 51 rfl (show sCode 273 49 = some (.iload 5, 2) by decide +kernel) rfl ?_
  refine q_i2l 52 rfl (show sCode 273 51 = some (.i2l, 1) by decide +kernel) ?_
  refine q_lconst 53 rfl (show sCode 273 52 = some (.lconst 0, 1) by decide +kernel) ?_
  refine q_iload 55 rfl (show sCode 273 53 = some (.iload 4, 2) by decide +kernel) rfl ?_
  refine q_i2l 56 rfl (show sCode 273 55 = some (.i2l, 1) by decide +kernel) ?_
  exact q_statI [vL x5, vL 0, vL x4] 59 rfl (show sCode 273 56 = some (.invokestatic 127, 3) by decide +kernel) (show sMR (sKo 273).1 127 = some 183 by decide +kernel) (show 183 < 1000 ∧ sStat 183 = true ∧ sKo 183 = (12, 3, 2, 0, 0) by decide +kernel) rfl rfl (Nat.le_of_ble_eq_true rfl) rfl rfl rfl (by decide +kernel) kk
theorem b273_59 {d : Nat} {Q : Option sV → sM → sG → Prop} {M : sM} {G : sG} {a0 : Nat} {x1 : Int} {x2 : Int} {x3 : Int} {x4 : Int} {x5 : Int} {x6 : Int} {s0 : Int}  (k1 : s0 = 0 → sW (sC d) 273 Q 73 [vN, vN, vN, vN, vN, vN, vN, vN, vN, vN] [] M G 0 0) (k2 : s0 ≠ 0 → sW (sC d) 273 Q 62 [vO 12 a0, vI x1, vI x2, vI x3, vI x4, vI x5, vI x6, vN, vN, vN] [] M G 0 0) : sW (sC d) 273 Q 59 [vO 12 a0, vI x1, vI x2, vI x3, vI x4, vI x5, vI x6, vN, vN, vN] [vI s0] M G 0 0 := by
  refine q_ifeq 73 62 rfl (by decide) (show sCode 273 59 = some (.ifCond .eq 14, 3) by decide +kernel) ?_ ?_
  · intro q; refine q_forget (L' := [vN, vI x1, vI x2, vI x3, vI x4, vI x5, vI x6, vN, vN, vN]) 0 rfl ?_; refine q_forget (L' := [vN, vN, vI x2, vI x3, vI x4, vI x5, vI x6, vN, vN, vN]) 1 rfl ?_; refine q_forget (L' := [vN, vN, vN, vI x3, vI x4, vI x5, vI x6, vN, vN, vN]) 2 rfl ?_; refine q_forget (L' := [vN, vN, vN, vN, vI x4, vI x5, vI x6, vN, vN, vN]) 3 rfl ?_; refine q_forget (L' := [vN, vN, vN, vN, vN, vI x5, vI x6, vN, vN, vN]) 4 rfl ?_; refine q_forget (L' := [vN, vN, vN, vN, vN, vN, vI x6, vN, vN, vN]) 5 rfl ?_; refine q_forget (L' := [vN, vN, vN, vN, vN, vN, vN, vN, vN, vN]) 6 rfl ?_; exact k1 q
  · intro q; exact k2 q
theorem b273_62 {d : Nat} {Q : Option sV → sM → sG → Prop} {M : sM} {G : sG} {a0 : Nat} {x1 : Int} {x2 : Int} {x3 : Int} {x4 : Int} {x5 : Int} {x6 : Int}  (kk : sC d 183 [vL x6, vL 0, vL 1] M G (QI (fun r M1 G1 => sW (sC d) 273 Q 70 [vO 12 a0, vI x1, vI x2, vI x3, vI x4, vI x5, vI x6, vN, vN, vN] (vI r :: []) M1 G1 0 0))) : sW (sC d) 273 Q 62 [vO 12 a0, vI x1, vI x2, vI x3, vI x4, vI x5, vI x6, vN, vN, vN] [] M G 0 0 := by
  refine q_iload 64 rfl (show sCode 273 62 = some (.iload 6, 2) by decide +kernel) rfl ?_
  refine q_i2l 65 rfl (show sCode 273 64 = some (.i2l, 1) by decide +kernel) ?_
  refine q_lconst 66 rfl (show sCode 273 65 = some (.lconst 0, 1) by decide +kernel) ?_
  refine q_lconst 67 rfl (show sCode 273 66 = some (.lconst 1, 1) by decide +kernel) ?_
  exact q_statI [vL x6, vL 0, vL 1] 70 rfl (show sCode 273 67 = some (.invokestatic 127, 3) by decide +kernel) (show sMR (sKo 273).1 127 = some 183 by decide +kernel) (show 183 < 1000 ∧ sStat 183 = true ∧ sKo 183 = (12, 3, 2, 0, 0) by decide +kernel) rfl rfl (Nat.le_of_ble_eq_true rfl) rfl rfl rfl (by decide +kernel) kk
theorem b273_70 {d : Nat} {Q : Option sV → sM → sG → Prop} {M : sM} {G : sG} {a0 : Nat} {x1 : Int} {x2 : Int} {x3 : Int} {x4 : Int} {x5 : Int} {x6 : Int} {s0 : Int}  (k1 : s0 ≠ 0 → sW (sC d) 273 Q 75 [vO 12 a0, vI x1, vI x2, vI x3, vI x4, vI x5, vI x6, vN, vN, vN] [] M G 0 0) (k2 : s0 = 0 → sW (sC d) 273 Q 73 [vN, vN, vN, vN, vN, vN, vN, vN, vN, vN] [] M G 0 0) : sW (sC d) 273 Q 70 [vO 12 a0, vI x1, vI x2, vI x3, vI x4, vI x5, vI x6, vN, vN, vN] [vI s0] M G 0 0 := by
  refine q_ifne 75 73 rfl (by decide) (show sCode 273 70 = some (.ifCond .ne 5, 3) by decide +kernel) ?_ ?_
  · intro q; exact k1 q
  · intro q; refine q_forget (L' := [vN, vI x1, vI x2, vI x3, vI x4, vI x5, vI x6, vN, vN, vN]) 0 rfl ?_; refine q_forget (L' := [vN, vN, vI x2, vI x3, vI x4, vI x5, vI x6, vN, vN, vN]) 1 rfl ?_; refine q_forget (L' := [vN, vN, vN, vI x3, vI x4, vI x5, vI x6, vN, vN, vN]) 2 rfl ?_; refine q_forget (L' := [vN, vN, vN, vN, vI x4, vI x5, vI x6, vN, vN, vN]) 3 rfl ?_; refine q_forget (L' := [vN, vN, vN, vN, vN, vI x5, vI x6, vN, vN, vN]) 4 rfl ?_; refine q_forget (L' := [vN, vN, vN, vN, vN, vN, vI x6, vN, vN, vN]) 5 rfl ?_; refine q_forget (L' := [vN, vN, vN, vN, vN, vN, vN, vN, vN, vN]) 6 rfl ?_; exact k2 q
theorem b273_73 {d : Nat} {P : Int → sM → sG → Prop} {M : sM} {G : sG}   (kk : P (-1) M G) : sW (sC d) 273 (QI P) 73 [vN, vN, vN, vN, vN, vN, vN, vN, vN, vN] [] M G 0 0 := by
  refine q_iconst 74 rfl (show sCode 273 73 = some (.iconst (-1), 1) by decide +kernel) ⟨by decide, by decide⟩ ?_
  exact q_iret (show sCode 273 74 = some (.ireturn, 1) by decide +kernel) (by decide +kernel) (by decide +kernel) kk
theorem b273_75 {d : Nat} {Q : Option sV → sM → sG → Prop} {M : sM} {G : sG} {a0 : Nat} {x1 : Int} {x2 : Int} {x3 : Int} {x4 : Int} {x5 : Int} {x6 : Int} (h1 : 0 ≤ x4 ∧ x4 < 97) (h2 : sI (x4 - 1)) (kk : sW (sC d) 273 Q 92 [vO 12 a0, vI x1, vI x2, vI x3, vI x4, vI x5, vI x6, vI 0, vI (x4 - 1), vN] [] (sUpd M (a0 + 23) x4.toNat 0) G 0 0) : sW (sC d) 273 Q 75 [vO 12 a0, vI x1, vI x2, vI x3, vI x4, vI x5, vI x6, vN, vN, vN] [] M G 0 0 := by
  refine q_aload_n 76 rfl (show sCode 273 75 = some (.aload_n 0, 1) by decide +kernel) rfl (Nat.le_of_ble_eq_true rfl) ?_
  refine q_getR (vA 0 (a0 + 23) 97) 79 rfl (show sCode 273 76 = some (.getfield 78, 3) by decide +kernel) (show sFR (sKo 273).1 78 = some (12, 35) by decide +kernel) (by decide +kernel) (Or.inl (Or.inl rfl)) rfl ?_
  refine q_iload 81 rfl (show sCode 273 79 = some (.iload 4, 2) by decide +kernel) rfl ?_
  refine q_iconst 82 rfl (show sCode 273 81 = some (.iconst 0, 1) by decide +kernel) ⟨by decide, by decide⟩ ?_
  refine q_iast 83 rfl (show sCode 273 82 = some (.iastore, 1) by decide +kernel) h1 ?_
  refine q_iconst 84 rfl (show sCode 273 83 = some (.iconst 0, 1) by decide +kernel) ⟨by decide, by decide⟩ ?_
  refine q_istore [vO 12 a0, vI x1, vI x2, vI x3, vI x4, vI x5, vI x6, vI 0, vN, vN] 86 rfl (show sCode 273 84 = some (.istore 7, 2) by decide +kernel) (Nat.lt_of_lt_of_le (Nat.lt_succ_self _) (Nat.le_of_ble_eq_true rfl)) rfl rfl ?_
  refine q_iload 88 rfl (show sCode 273 86 = some (.iload 4, 2) by decide +kernel) rfl ?_
  refine q_iconst 89 rfl (show sCode 273 88 = some (.iconst 1, 1) by decide +kernel) ⟨by decide, by decide⟩ ?_
  refine q_isub 90 rfl (show sCode 273 89 = some (.isub, 1) by decide +kernel) h2 ?_
  refine q_istore [vO 12 a0, vI x1, vI x2, vI x3, vI x4, vI x5, vI x6, vI 0, vI (x4 - 1), vN] 92 rfl (show sCode 273 90 = some (.istore 8, 2) by decide +kernel) (Nat.lt_of_lt_of_le (Nat.lt_succ_self _) (Nat.le_of_ble_eq_true rfl)) rfl rfl ?_
  exact kk
theorem b273_92 {d : Nat} {Q : Option sV → sM → sG → Prop} {M : sM} {G : sG} {a0 : Nat} {x1 : Int} {x2 : Int} {x3 : Int} {x4 : Int} {x5 : Int} {x6 : Int} {x7 : Int} {x8 : Int}  (k1 : x8 < x5 → sW (sC d) 273 Q 203 [vO 12 a0, vN, vN, vN, vN, vI x5, vI x6, vI x7, vN, vN] [] M G 0 0) (k2 : x5 ≤ x8 → sW (sC d) 273 Q 99 [vO 12 a0, vI x1, vI x2, vI x3, vI x4, vI x5, vI x6, vN, vI x8, vN] [] M G 0 0) : sW (sC d) 273 Q 92 [vO 12 a0, vI x1, vI x2, vI x3, vI x4, vI x5, vI x6, vI x7, vI x8, vN] [] M G 0 0 := by
  refine q_iload 94 rfl (show sCode 273 92 = some (.iload 8, 2) by decide +kernel) rfl ?_
  refine q_iload 96 rfl (show sCode 273 94 = some (.iload 5, 2) by decide +kernel) rfl ?_
  refine q_icmplt 203 99 rfl (by decide) (show sCode 273 96 = some (.if_icmp .lt 107, 3) by decide +kernel) ?_ ?_
  · intro q; refine q_forget (L' := [vO 12 a0, vN, vI x2, vI x3, vI x4, vI x5, vI x6, vI x7, vI x8, vN]) 1 rfl ?_; refine q_forget (L' := [vO 12 a0, vN, vN, vI x3, vI x4, vI x5, vI x6, vI x7, vI x8, vN]) 2 rfl ?_; refine q_forget (L' := [vO 12 a0, vN, vN, vN, vI x4, vI x5, vI x6, vI x7, vI x8, vN]) 3 rfl ?_; refine q_forget (L' := [vO 12 a0, vN, vN, vN, vN, vI x5, vI x6, vI x7, vI x8, vN]) 4 rfl ?_; refine q_forget (L' := [vO 12 a0, vN, vN, vN, vN, vI x5, vI x6, vI x7, vN, vN]) 8 rfl ?_; exact k1 q
  · intro q; refine q_forget (L' := [vO 12 a0, vI x1, vI x2, vI x3, vI x4, vI x5, vI x6, vN, vI x8, vN]) 7 rfl ?_; exact k2 q
theorem b273_99 {d : Nat} {Q : Option sV → sM → sG → Prop} {M : sM} {G : sG} {a0 : Nat} {x1 : Int} {x2 : Int} {x3 : Int} {x4 : Int} {x5 : Int} {x6 : Int} {x8 : Int} (h1 : sI (x8 + x2)) (k1 : x4 < x8 + x2 → sW (sC d) 273 Q 126 [vO 12 a0, vI x1, vI x2, vI x3, vI x4, vI x5, vI x6, vN, vI x8, vN] [] M G 0 0) (k2 : x8 + x2 ≤ x4 → sW (sC d) 273 Q 108 [vO 12 a0, vI x1, vI x2, vI x3, vI x4, vI x5, vI x6, vN, vI x8, vN] [] M G 0 0) : sW (sC d) 273 Q 99 [vO 12 a0, vI x1, vI x2, vI x3, vI x4, vI x5, vI x6, vN, vI x8, vN] [] M G 0 0 := by
  refine q_iload 101 rfl (show sCode 273 99 = some (.iload 8, 2) by decide +kernel) rfl ?_
  refine q_iload_n 102 rfl (show sCode 273 101 = some (.iload_n 2, 1) by decide +kernel) rfl ?_
  refine q_iadd 103 rfl (show sCode 273 102 = some (.iadd, 1) by decide +kernel) h1 ?_
  refine q_iload 105 rfl (show sCode 273 103 = some (.iload 4, 2) by decide +kernel) rfl ?_
  refine q_icmpgt 126 108 rfl (by decide) (show sCode 273 105 = some (.if_icmp .gt 21, 3) by decide +kernel) ?_ ?_
  · intro q; exact k1 q
  · intro q; exact k2 q
theorem b273_108 {d : Nat} {Q : Option sV → sM → sG → Prop} {M : sM} {G : sG} {a0 : Nat} {x1 : Int} {x2 : Int} {x3 : Int} {x4 : Int} {x5 : Int} {x6 : Int} {x8 : Int} (h1 : sI (1000 * x3)) (h2 : sI (x8 + x2)) (h3 : 0 ≤ x8 + x2 ∧ x8 + x2 < 97) (h4 : sI ((1000 * x3) + (M (a0 + 23) (x8 + x2).toNat))) (kk : sW (sC d) 273 Q 127 [vO 12 a0, vI x1, vI x2, vI x3, vI x4, vI x5, vI x6, vN, vI x8, vN] [vI ((1000 * x3) + (M (a0 + 23) (x8 + x2).toNat))] M G 0 0) : sW (sC d) 273 Q 108 [vO 12 a0, vI x1, vI x2, vI x3, vI x4, vI x5, vI x6, vN, vI x8, vN] [] M G 0 0 := by
  refine q_sipush 111 rfl (show sCode 273 108 = some (.sipush 1000, 3) by decide +kernel) ⟨by decide, by decide⟩ (by decide +kernel) ?_
  refine q_iload_n 112 rfl (show sCode 273 111 = some (.iload_n 3, 1) by decide +kernel) rfl ?_
  refine q_imul 113 rfl (show sCode 273 112 = some (.imul, 1) by decide +kernel) h1 ?_
  refine q_aload_n 114 rfl (show sCode 273 113 = some (.aload_n 0, 1) by decide +kernel) rfl (Nat.le_of_ble_eq_true rfl) ?_
  refine q_getR (vA 0 (a0 + 23) 97) 117 rfl (show sCode 273 114 = some (.getfield 78, 3) by decide +kernel) (show sFR (sKo 273).1 78 = some (12, 35) by decide +kernel) (by decide +kernel) (Or.inl (Or.inl rfl)) rfl ?_
  refine q_iload 119 rfl (show sCode 273 117 = some (.iload 8, 2) by decide +kernel) rfl ?_
  refine q_iload_n 120 rfl (show sCode 273 119 = some (.iload_n 2, 1) by decide +kernel) rfl ?_
  refine q_iadd 121 rfl (show sCode 273 120 = some (.iadd, 1) by decide +kernel) h2 ?_
  refine q_iald 122 rfl (show sCode 273 121 = some (.iaload, 1) by decide +kernel) h3 ?_
  refine q_iadd 123 rfl (show sCode 273 122 = some (.iadd, 1) by decide +kernel) h4 ?_
  refine q_goto 127 (by decide) (show sCode 273 123 = some (.goto 4, 3) by decide +kernel) ?_
  exact kk
theorem b273_126 {d : Nat} {Q : Option sV → sM → sG → Prop} {M : sM} {G : sG} {a0 : Nat} {x1 : Int} {x2 : Int} {x3 : Int} {x4 : Int} {x5 : Int} {x6 : Int} {x8 : Int}  (kk : sW (sC d) 273 Q 127 [vO 12 a0, vI x1, vI x2, vI x3, vI x4, vI x5, vI x6, vN, vI x8, vN] [vI 0] M G 0 0) : sW (sC d) 273 Q 126 [vO 12 a0, vI x1, vI x2, vI x3, vI x4, vI x5, vI x6, vN, vI x8, vN] [] M G 0 0 := by
  refine q_iconst 127 rfl (show sCode 273 126 = some (.iconst 0, 1) by decide +kernel) ⟨by decide, by decide⟩ ?_
  exact kk
theorem b273_127 {d : Nat} {Q : Option sV → sM → sG → Prop} {M : sM} {G : sG} {a0 : Nat} {x1 : Int} {x2 : Int} {x3 : Int} {x4 : Int} {x5 : Int} {x6 : Int} {x8 : Int} {s0 : Int} (h1 : sI (x8 + 1)) (h2 : 0 ≤ x8 + 1 ∧ x8 + 1 < 97) (k1 : s0 ≤ M (a0 + 23) (x8 + 1).toNat → sW (sC d) 273 Q 147 [vO 12 a0, vI x1, vI x2, vI x3, vI x4, vI x5, vI x6, vN, vI x8, vI s0] [] M G 0 0) (k2 : M (a0 + 23) (x8 + 1).toNat < s0 → sW (sC d) 273 Q 143 [vO 12 a0, vI x1, vI x2, vI x3, vI x4, vI x5, vI x6, vN, vI x8, vI s0] [] M G 0 0) : sW (sC d) 273 Q 127 [vO 12 a0, vI x1, vI x2, vI x3, vI x4, vI x5, vI x6, vN, vI x8, vN] [vI s0] M G 0 0 := by
  refine q_istore [vO 12 a0, vI x1, vI x2, vI x3, vI x4, vI x5, vI x6, vN, vI x8, vI s0] 129 rfl (show sCode 273 127 = some (.istore 9, 2) by decide +kernel) (Nat.lt_of_lt_of_le (Nat.lt_succ_self _) (Nat.le_of_ble_eq_true rfl)) rfl rfl ?_
  refine q_iload 131 rfl (show sCode 273 129 = some (.iload 9, 2) by decide +kernel) rfl ?_
  refine q_aload_n 132 rfl (show sCode 273 131 = some (.aload_n 0, 1) by decide +kernel) rfl (Nat.le_of_ble_eq_true rfl) ?_
  refine q_getR (vA 0 (a0 + 23) 97) 135 rfl (show sCode 273 132 = some (.getfield 78, 3) by decide +kernel) (show sFR (sKo 273).1 78 = some (12, 35) by decide +kernel) (by decide +kernel) (Or.inl (Or.inl rfl)) rfl ?_
  refine q_iload 137 rfl (show sCode 273 135 = some (.iload 8, 2) by decide +kernel) rfl ?_
  refine q_iconst 138 rfl (show sCode 273 137 = some (.iconst 1, 1) by decide +kernel) ⟨by decide, by decide⟩ ?_
  refine q_iadd 139 rfl (show sCode 273 138 = some (.iadd, 1) by decide +kernel) h1 ?_
  refine q_iald 140 rfl (show sCode 273 139 = some (.iaload, 1) by decide +kernel) h2 ?_
  refine q_icmple 147 143 rfl (by decide) (show sCode 273 140 = some (.if_icmp .le 7, 3) by decide +kernel) ?_ ?_
  · intro q; exact k1 q
  · intro q; exact k2 q
theorem b273_143 {d : Nat} {Q : Option sV → sM → sG → Prop} {M : sM} {G : sG} {a0 : Nat} {x1 : Int} {x2 : Int} {x3 : Int} {x4 : Int} {x5 : Int} {x6 : Int} {x8 : Int} {x9 : Int}  (kk : sW (sC d) 273 Q 148 [vO 12 a0, vI x1, vI x2, vI x3, vI x4, vI x5, vI x6, vN, vI x8, vI x9] [vI 1] M G 0 0) : sW (sC d) 273 Q 143 [vO 12 a0, vI x1, vI x2, vI x3, vI x4, vI x5, vI x6, vN, vI x8, vI x9] [] M G 0 0 := by
  refine q_iconst 144 rfl (show sCode 273 143 = some (.iconst 1, 1) by decide +kernel) ⟨by decide, by decide⟩ ?_
  refine q_goto 148 (by decide) (show sCode 273 144 = some (.goto 4, 3) by decide +kernel) ?_
  exact kk
theorem b273_147 {d : Nat} {Q : Option sV → sM → sG → Prop} {M : sM} {G : sG} {a0 : Nat} {x1 : Int} {x2 : Int} {x3 : Int} {x4 : Int} {x5 : Int} {x6 : Int} {x8 : Int} {x9 : Int}  (kk : sW (sC d) 273 Q 148 [vO 12 a0, vI x1, vI x2, vI x3, vI x4, vI x5, vI x6, vN, vI x8, vI x9] [vI 0] M G 0 0) : sW (sC d) 273 Q 147 [vO 12 a0, vI x1, vI x2, vI x3, vI x4, vI x5, vI x6, vN, vI x8, vI x9] [] M G 0 0 := by
  refine q_iconst 148 rfl (show sCode 273 147 = some (.iconst 0, 1) by decide +kernel) ⟨by decide, by decide⟩ ?_
  exact kk
theorem b273_148 {d : Nat} {Q : Option sV → sM → sG → Prop} {M : sM} {G : sG} {a0 : Nat} {x1 : Int} {x2 : Int} {x3 : Int} {x4 : Int} {x5 : Int} {x6 : Int} {x8 : Int} {x9 : Int} {s0 : Int}  (k1 : s0 ≠ 1 → sW (sC d) 273 Q 168 [vO 12 a0, vI x1, vI x2, vI x3, vI x4, vI x5, vI x6, vI s0, vI x8, vN] [vI x1, vI x8, vA 0 (a0 + 23) 97] M G 0 0) (k2 : s0 = 1 → sW (sC d) 273 Q 163 [vO 12 a0, vI x1, vI x2, vI x3, vI x4, vI x5, vI x6, vI s0, vI x8, vI x9] [vI x1, vI x8, vA 0 (a0 + 23) 97] M G 0 0) : sW (sC d) 273 Q 148 [vO 12 a0, vI x1, vI x2, vI x3, vI x4, vI x5, vI x6, vN, vI x8, vI x9] [vI s0] M G 0 0 := by
  refine q_istore [vO 12 a0, vI x1, vI x2, vI x3, vI x4, vI x5, vI x6, vI s0, vI x8, vI x9] 150 rfl (show sCode 273 148 = some (.istore 7, 2) by decide +kernel) (Nat.lt_of_lt_of_le (Nat.lt_succ_self _) (Nat.le_of_ble_eq_true rfl)) rfl rfl ?_
  refine q_aload_n 151 rfl (show sCode 273 150 = some (.aload_n 0, 1) by decide +kernel) rfl (Nat.le_of_ble_eq_true rfl) ?_
  refine q_getR (vA 0 (a0 + 23) 97) 154 rfl (show sCode 273 151 = some (.getfield 78, 3) by decide +kernel) (show sFR (sKo 273).1 78 = some (12, 35) by decide +kernel) (by decide +kernel) (Or.inl (Or.inl rfl)) rfl ?_
  refine q_iload 156 rfl (show sCode 273 154 = some (.iload 8, 2) by decide +kernel) rfl ?_
  refine q_iload_n 157 rfl (show sCode 273 156 = some (.iload_n 1, 1) by decide +kernel) rfl ?_
  refine q_iload 159 rfl (show sCode 273 157 = some (.iload 7, 2) by decide +kernel) rfl ?_
  refine q_iconst 160 rfl (show sCode 273 159 = some (.iconst 1, 1) by decide +kernel) ⟨by decide, by decide⟩ ?_
  refine q_icmpne 168 163 rfl (by decide) (show sCode 273 160 = some (.if_icmp .ne 8, 3) by decide +kernel) ?_ ?_
  · intro q; refine q_forget (L' := [vO 12 a0, vI x1, vI x2, vI x3, vI x4, vI x5, vI x6, vI s0, vI x8, vN]) 9 rfl ?_; exact k1 q
  · intro q; exact k2 q
theorem b273_163 {d : Nat} {Q : Option sV → sM → sG → Prop} {M : sM} {G : sG} {a0 : Nat} {x1 : Int} {x2 : Int} {x3 : Int} {x4 : Int} {x5 : Int} {x6 : Int} {x7 : Int} {x8 : Int} {x9 : Int} {s0 : Int} {s1 : Int} {sa2 : Nat}  (kk : sW (sC d) 273 Q 177 [vO 12 a0, vI x1, vI x2, vI x3, vI x4, vI x5, vI x6, vI x7, vI x8, vN] [vI x9, vI s0, vI s1, vA 0 sa2 97] M G 0 0) : sW (sC d) 273 Q 163 [vO 12 a0, vI x1, vI x2, vI x3, vI x4, vI x5, vI x6, vI x7, vI x8, vI x9] [vI s0, vI s1, vA 0 sa2 97] M G 0 0 := by
  refine q_iload 165 rfl (show sCode 273 163 = some (.iload 9, 2) by decide +kernel) rfl ?_
  refine q_goto 177 (by decide) (show sCode 273 165 = some (.goto 12, 3) by decide +kernel) ?_
  refine q_forget (L' := [vO 12 a0, vI x1, vI x2, vI x3, vI x4, vI x5, vI x6, vI x7, vI x8, vN]) 9 rfl ?_
  exact kk
theorem b273_168 {d : Nat} {Q : Option sV → sM → sG → Prop} {M : sM} {G : sG} {a0 : Nat} {x1 : Int} {x2 : Int} {x3 : Int} {x4 : Int} {x5 : Int} {x6 : Int} {x7 : Int} {x8 : Int} {s0 : Int} {s1 : Int} {sa2 : Nat} (h1 : sI (x8 + 1)) (h2 : 0 ≤ x8 + 1 ∧ x8 + 1 < 97) (kk : sW (sC d) 273 Q 177 [vO 12 a0, vI x1, vI x2, vI x3, vI x4, vI x5, vI x6, vI x7, vI x8, vN] [vI (M (a0 + 23) (x8 + 1).toNat), vI s0, vI s1, vA 0 sa2 97] M G 0 0) : sW (sC d) 273 Q 168 [vO 12 a0, vI x1, vI x2, vI x3, vI x4, vI x5, vI x6, vI x7, vI x8, vN] [vI s0, vI s1, vA 0 sa2 97] M G 0 0 := by
  refine q_aload_n 169 rfl (show sCode 273 168 = some (.aload_n 0, 1) by decide +kernel) rfl (Nat.le_of_ble_eq_true rfl) ?_
  refine q_getR (vA 0 (a0 + 23) 97) 172 rfl (show sCode 273 169 = some (.getfield 78, 3) by decide +kernel) (show sFR (sKo 273).1 78 = some (12, 35) by decide +kernel) (by decide +kernel) (Or.inl (Or.inl rfl)) rfl ?_
  refine q_iload 174 rfl (show sCode 273 172 = some (.iload 8, 2) by decide +kernel) rfl ?_
  refine q_iconst 175 rfl (show sCode 273 174 = some (.iconst 1, 1) by decide +kernel) ⟨by decide, by decide⟩ ?_
  refine q_iadd 176 rfl (show sCode 273 175 = some (.iadd, 1) by decide +kernel) h1 ?_
  refine q_iald 177 rfl (show sCode 273 176 = some (.iaload, 1) by decide +kernel) h2 ?_
  exact kk
theorem b273_177 {d : Nat} {Q : Option sV → sM → sG → Prop} {M : sM} {G : sG} {a0 : Nat} {x1 : Int} {x2 : Int} {x3 : Int} {x4 : Int} {x5 : Int} {x6 : Int} {x7 : Int} {x8 : Int} {s0 : Int} {s1 : Int} {s2 : Int} {sa3 : Nat} (h1 : sI (s1 * s0)) (h2 : sI (16 - x1)) (h3 : sI (x8 + 1)) (h4 : 0 ≤ x8 + 1 ∧ x8 + 1 < 97) (h5 : sI ((16 - x1) * (M (a0 + 23) (x8 + 1).toNat))) (h6 : sI ((s1 * s0) + ((16 - x1) * (M (a0 + 23) (x8 + 1).toNat)))) (h7 : 0 ≤ s2 ∧ s2 < 97) (h8 : sI (x8 + (-1))) (kk : sW (sC d) 273 Q 92 [vO 12 a0, vI x1, vI x2, vI x3, vI x4, vI x5, vI x6, vI x7, vI (x8 + (-1)), vN] [] (sUpd M sa3 s2.toNat (iDiv ((s1 * s0) + ((16 - x1) * (M (a0 + 23) (x8 + 1).toNat))) 16)) G 0 0) : sW (sC d) 273 Q 177 [vO 12 a0, vI x1, vI x2, vI x3, vI x4, vI x5, vI x6, vI x7, vI x8, vN] [vI s0, vI s1, vI s2, vA 0 sa3 97] M G 0 0 := by
  refine q_imul 178 rfl (show sCode 273 177 = some (.imul, 1) by decide +kernel) h1 ?_
  refine q_bipush 180 rfl (show sCode 273 178 = some (.bipush 16, 2) by decide +kernel) ⟨by decide, by decide⟩ (by decide +kernel) ?_
  refine q_iload_n 181 rfl (show sCode 273 180 = some (.iload_n 1, 1) by decide +kernel) rfl ?_
  refine q_isub 182 rfl (show sCode 273 181 = some (.isub, 1) by decide +kernel) h2 ?_
  refine q_aload_n 183 rfl (show sCode 273 182 = some (.aload_n 0, 1) by decide +kernel) rfl (Nat.le_of_ble_eq_true rfl) ?_
  refine q_getR (vA 0 (a0 + 23) 97) 186 rfl (show sCode 273 183 = some (.getfield 78, 3) by decide +kernel) (show sFR (sKo 273).1 78 = some (12, 35) by decide +kernel) (by decide +kernel) (Or.inl (Or.inl rfl)) rfl ?_
  refine q_iload 188 rfl (show sCode 273 186 = some (.iload 8, 2) by decide +kernel) rfl ?_
  refine q_iconst 189 rfl (show sCode 273 188 = some (.iconst 1, 1) by decide +kernel) ⟨by decide, by decide⟩ ?_
  refine q_iadd 190 rfl (show sCode 273 189 = some (.iadd, 1) by decide +kernel) h3 ?_
  refine q_iald 191 rfl (show sCode 273 190 = some (.iaload, 1) by decide +kernel) h4 ?_
  refine q_imul 192 rfl (show sCode 273 191 = some (.imul, 1) by decide +kernel) h5 ?_
  refine q_iadd 193 rfl (show sCode 273 192 = some (.iadd, 1) by decide +kernel) h6 ?_
  refine q_bipush 195 rfl (show sCode 273 193 = some (.bipush 16, 2) by decide +kernel) ⟨by decide, by decide⟩ (by decide +kernel) ?_
  refine q_idiv 196 rfl (show sCode 273 195 = some (.idiv, 1) by decide +kernel) (by decide) ?_
  refine q_iast 197 rfl (show sCode 273 196 = some (.iastore, 1) by decide +kernel) h7 ?_
  refine q_iinc [vO 12 a0, vI x1, vI x2, vI x3, vI x4, vI x5, vI x6, vI x7, vI (x8 + (-1)), vN] 200 rfl (show sCode 273 197 = some (.iinc 8 (-1), 3) by decide +kernel) rfl rfl h8 rfl ?_
  refine q_goto 92 (by decide) (show sCode 273 200 = some (.goto (-108), 3) by decide +kernel) ?_
  exact kk
theorem b273_203 {d : Nat} {Q : Option sV → sM → sG → Prop} {M : sM} {G : sG} {a0 : Nat} {x5 : Int} {x6 : Int} {x7 : Int}  (k1 : x6 ≠ 0 → sW (sC d) 273 Q 218 [vN, vN, vN, vN, vN, vN, vN, vI x7, vN, vN] [] M G 0 0) (k2 : x6 = 0 → sW (sC d) 273 Q 208 [vO 12 a0, vN, vN, vN, vN, vI x5, vN, vN, vN, vN] [] M G 0 0) : sW (sC d) 273 Q 203 [vO 12 a0, vN, vN, vN, vN, vI x5, vI x6, vI x7, vN, vN] [] M G 0 0 := by
  refine q_iload 205 rfl (show sCode 273 203 = some (.iload 6, 2) by decide +kernel) rfl ?_
  refine q_ifne 218 208 rfl (by decide) (show sCode 273 205 = some (.ifCond .ne 13, 3) by decide +kernel) ?_ ?_
  · intro q; refine q_forget (L' := [vN, vN, vN, vN, vN, vI x5, vI x6, vI x7, vN, vN]) 0 rfl ?_; refine q_forget (L' := [vN, vN, vN, vN, vN, vN, vI x6, vI x7, vN, vN]) 5 rfl ?_; refine q_forget (L' := [vN, vN, vN, vN, vN, vN, vN, vI x7, vN, vN]) 6 rfl ?_; exact k1 q
  · intro q; refine q_forget (L' := [vO 12 a0, vN, vN, vN, vN, vI x5, vN, vI x7, vN, vN]) 6 rfl ?_; refine q_forget (L' := [vO 12 a0, vN, vN, vN, vN, vI x5, vN, vN, vN, vN]) 7 rfl ?_; exact k2 q
theorem b273_208 {d : Nat} {Q : Option sV → sM → sG → Prop} {M : sM} {G : sG} {a0 : Nat} {x5 : Int} (h1 : 0 ≤ x5 ∧ x5 < 97) (kk : sW (sC d) 273 Q 220 [vN, vN, vN, vN, vN, vN, vN, vN, vN, vN] [vI (M (a0 + 23) x5.toNat)] M G 0 0) : sW (sC d) 273 Q 208 [vO 12 a0, vN, vN, vN, vN, vI x5, vN, vN, vN, vN] [] M G 0 0 := by
  refine q_aload_n 209 rfl (show sCode 273 208 = some (.aload_n 0, 1) by decide +kernel) rfl (Nat.le_of_ble_eq_true rfl) ?_
  refine q_getR (vA 0 (a0 + 23) 97) 212 rfl (show sCode 273 209 = some (.getfield 78, 3) by decide +kernel) (show sFR (sKo 273).1 78 = some (12, 35) by decide +kernel) (by decide +kernel) (Or.inl (Or.inl rfl)) rfl ?_
  refine q_iload 214 rfl (show sCode 273 212 = some (.iload 5, 2) by decide +kernel) rfl ?_
  refine q_iald 215 rfl (show sCode 273 214 = some (.iaload, 1) by decide +kernel) h1 ?_
  refine q_goto 220 (by decide) (show sCode 273 215 = some (.goto 5, 3) by decide +kernel) ?_
  refine q_forget (L' := [vN, vN, vN, vN, vN, vI x5, vN, vN, vN, vN]) 0 rfl ?_
  refine q_forget (L' := [vN, vN, vN, vN, vN, vN, vN, vN, vN, vN]) 5 rfl ?_
  exact kk
theorem b273_218 {d : Nat} {Q : Option sV → sM → sG → Prop} {M : sM} {G : sG} {x7 : Int}  (kk : sW (sC d) 273 Q 220 [vN, vN, vN, vN, vN, vN, vN, vN, vN, vN] [vI x7] M G 0 0) : sW (sC d) 273 Q 218 [vN, vN, vN, vN, vN, vN, vN, vI x7, vN, vN] [] M G 0 0 := by
  refine q_iload 220 rfl (show sCode 273 218 = some (.iload 7, 2) by decide +kernel) rfl ?_
  refine q_forget (L' := [vN, vN, vN, vN, vN, vN, vN, vN, vN, vN]) 7 rfl ?_
  exact kk
theorem b273_220 {d : Nat} {P : Int → sM → sG → Prop} {M : sM} {G : sG} {s0 : Int}  (kk : P s0 M G) : sW (sC d) 273 (QI P) 220 [vN, vN, vN, vN, vN, vN, vN, vN, vN, vN] [vI s0] M G 0 0 := by
  exact q_iret (show sCode 273 220 = some (.ireturn, 1) by decide +kernel) (by decide +kernel) (by decide +kernel) kk
-- 274 AfterTheLastModel.seed (I)I
theorem b274_0 {d : Nat} {Q : Option sV → sM → sG → Prop} {M : sM} {G : sG} {a0 : Nat} {x1 : Int}  (k1 : 0 ≤ x1 → sW (sC d) 274 Q 6 [vO 12 a0, vI x1, vN] [] M G 0 0) (k2 : x1 < 0 → sW (sC d) 274 Q 4 [vN, vN, vN] [] M G 0 0) : sW (sC d) 274 Q 0 [vO 12 a0, vI x1, vN] [] M G 0 0 := by
  refine q_iload_n 1 rfl (show sCode 274 0 = some (.iload_n 1, 1) by decide +kernel) rfl ?_
  refine q_ifge 6 4 rfl (by decide) (show sCode 274 1 = some (.ifCond .ge 5, 3) by decide +kernel) ?_ ?_
  · intro q; exact k1 q
  · intro q; refine q_forget (L' := [vN, vI x1, vN]) 0 rfl ?_; refine q_forget (L' := [vN, vN, vN]) 1 rfl ?_; exact k2 q
theorem b274_4 {d : Nat} {P : Int → sM → sG → Prop} {M : sM} {G : sG}   (kk : P (-1) M G) : sW (sC d) 274 (QI P) 4 [vN, vN, vN] [] M G 0 0 := by
  refine q_iconst 5 rfl (show sCode 274 4 = some (.iconst (-1), 1) by decide +kernel) ⟨by decide, by decide⟩ ?_
  exact q_iret (show sCode 274 5 = some (.ireturn, 1) by decide +kernel) (by decide +kernel) (by decide +kernel) kk
theorem b274_6 {d : Nat} {P : Int → sM → sG → Prop} {M : sM} {G : sG} {a0 : Nat} {x1 : Int}  (kk : P (M (a0 + 11) 9) (sUpd M (a0 + 11) 9 x1) G) : sW (sC d) 274 (QI P) 6 [vO 12 a0, vI x1, vN] [] M G 0 0 := by
  refine q_aload_n 7 rfl (show sCode 274 6 = some (.aload_n 0, 1) by decide +kernel) rfl (Nat.le_of_ble_eq_true rfl) ?_
  refine q_getR (vA 0 (a0 + 11) 274) 10 rfl (show sCode 274 7 = some (.getfield 42, 3) by decide +kernel) (show sFR (sKo 274).1 42 = some (12, 23) by decide +kernel) (by decide +kernel) (Or.inl (Or.inl rfl)) rfl ?_
  refine q_bipush 12 rfl (show sCode 274 10 = some (.bipush 9, 2) by decide +kernel) ⟨by decide, by decide⟩ (by decide +kernel) ?_
  refine q_iald 13 rfl (show sCode 274 12 = some (.iaload, 1) by decide +kernel) ⟨by decide, by decide⟩ ?_
  refine q_istore_n [vO 12 a0, vI x1, vI (M (a0 + 11) 9)] 14 rfl (show sCode 274 13 = some (.istore_n 2, 1) by decide +kernel) (Nat.lt_of_lt_of_le (Nat.lt_succ_self _) (Nat.le_of_ble_eq_true rfl)) rfl rfl ?_
  refine q_aload_n 15 rfl (show sCode 274 14 = some (.aload_n 0, 1) by decide +kernel) rfl (Nat.le_of_ble_eq_true rfl) ?_
  refine q_getR (vA 0 (a0 + 11) 274) 18 rfl (show sCode 274 15 = some (.getfield 42, 3) by decide +kernel) (show sFR (sKo 274).1 42 = some (12, 23) by decide +kernel) (by decide +kernel) (Or.inl (Or.inl rfl)) rfl ?_
  refine q_bipush 20 rfl (show sCode 274 18 = some (.bipush 9, 2) by decide +kernel) ⟨by decide, by decide⟩ (by decide +kernel) ?_
  refine q_iload_n 21 rfl (show sCode 274 20 = some (.iload_n 1, 1) by decide +kernel) rfl ?_
  refine q_iast 22 rfl (show sCode 274 21 = some (.iastore, 1) by decide +kernel) ⟨by decide, by decide⟩ ?_
  refine q_iload_n 23 rfl (show sCode 274 22 = some (.iload_n 2, 1) by decide +kernel) rfl ?_
  exact q_iret (show sCode 274 23 = some (.ireturn, 1) by decide +kernel) (by decide +kernel) (by decide +kernel) kk
-- 275 AfterTheLastModel.evenings (III)I
theorem b275_0 {d : Nat} {Q : Option sV → sM → sG → Prop} {M : sM} {G : sG} {a0 : Nat} {x1 : Int} {x2 : Int} {x3 : Int}  (kk : sC d 218 [vO 12 a0, vI x1] M G (QI (fun r M1 G1 => sW (sC d) 275 Q 5 [vO 12 a0, vI x1, vI x2, vI x3, vN, vN, vN, vN, vN, vN, vN, vN] (vI r :: []) M1 G1 0 0))) : sW (sC d) 275 Q 0 [vO 12 a0, vI x1, vI x2, vI x3, vN, vN, vN, vN, vN, vN, vN, vN] [] M G 0 0 := by
  refine q_aload_n 1 rfl (show sCode 275 0 = some (.aload_n 0, 1) by decide +kernel) rfl (Nat.le_of_ble_eq_true rfl) ?_
  refine q_iload_n 2 rfl (show sCode 275 1 = some (.iload_n 1, 1) by decide +kernel) rfl ?_
  exact q_virtI [vI x1] 5 rfl (show sCode 275 2 = some (.invokevirtual 337, 3) by decide +kernel) (show sMR (sKo 275).1 337 = some 218 by decide +kernel) (show 218 < 1000 ∧ sStat 218 = false ∧ sIni 218 = false ∧ sKo 218 = (12, 1, 2, 0, 0) by decide +kernel) rfl (Or.inl rfl) rfl (Nat.le_of_ble_eq_true rfl) rfl rfl rfl (by decide +kernel) kk
theorem b275_5 {d : Nat} {Q : Option sV → sM → sG → Prop} {M : sM} {G : sG} {a0 : Nat} {x1 : Int} {x2 : Int} {x3 : Int} {s0 : Int}  (k1 : s0 = 0 → sW (sC d) 275 Q 32 [vN, vN, vN, vN, vN, vN, vN, vN, vN, vN, vN, vN] [] M G 0 0) (k2 : s0 ≠ 0 → sW (sC d) 275 Q 8 [vO 12 a0, vI x1, vI x2, vI x3, vN, vN, vN, vN, vN, vN, vN, vN] [] M G 0 0) : sW (sC d) 275 Q 5 [vO 12 a0, vI x1, vI x2, vI x3, vN, vN, vN, vN, vN, vN, vN, vN] [vI s0] M G 0 0 := by
  refine q_ifeq 32 8 rfl (by decide) (show sCode 275 5 = some (.ifCond .eq 27, 3) by decide +kernel) ?_ ?_
  · intro q; refine q_forget (L' := [vN, vI x1, vI x2, vI x3, vN, vN, vN, vN, vN, vN, vN, vN]) 0 rfl ?_; refine q_forget (L' := [vN, vN, vI x2, vI x3, vN, vN, vN, vN, vN, vN, vN, vN]) 1 rfl ?_; refine q_forget (L' := [vN, vN, vN, vI x3, vN, vN, vN, vN, vN, vN, vN, vN]) 2 rfl ?_; refine q_forget (L' := [vN, vN, vN, vN, vN, vN, vN, vN, vN, vN, vN, vN]) 3 rfl ?_; exact k1 q
  · intro q; exact k2 q
theorem b275_8 {d : Nat} {Q : Option sV → sM → sG → Prop} {M : sM} {G : sG} {a0 : Nat} {x1 : Int} {x2 : Int} {x3 : Int}  (kk : sC d 183 [vL x2, vL 1, vL 20] M G (QI (fun r M1 G1 => sW (sC d) 275 Q 17 [vO 12 a0, vI x1, vI x2, vI x3, vN, vN, vN, vN, vN, vN, vN, vN] (vI r :: []) M1 G1 0 0))) : sW (sC d) 275 Q 8 [vO 12 a0, vI x1, vI x2, vI x3, vN, vN, vN, vN, vN, vN, vN, vN] [] M G 0 0 := by
  refine q_iload_n 9 rfl (show sCode 275 8 = some (.iload_n 2, 1) by decide +kernel) rfl ?_
  refine q_i2l 10 rfl (show sCode 275 9 = some (.i2l, 1) by decide +kernel) ?_
  refine q_lconst 11 rfl (show sCode 275 10 = some (.lconst 1, 1) by decide +kernel) ?_
  refine q_ldc2_w 14 rfl (show sCode 275 11 = some (.ldc2_w 440, 3) by decide +kernel) (show sLR (sKo 275).1 440 = some 20 by decide +kernel) ⟨by decide, by decide⟩ ?_
  exact q_statI [vL x2, vL 1, vL 20] 17 rfl (show sCode 275 14 = some (.invokestatic 127, 3) by decide +kernel) (show sMR (sKo 275).1 127 = some 183 by decide +kernel) (show 183 < 1000 ∧ sStat 183 = true ∧ sKo 183 = (12, 3, 2, 0, 0) by decide +kernel) rfl rfl (Nat.le_of_ble_eq_true rfl) rfl rfl rfl (by decide +kernel) kk
theorem b275_17 {d : Nat} {Q : Option sV → sM → sG → Prop} {M : sM} {G : sG} {a0 : Nat} {x1 : Int} {x2 : Int} {x3 : Int} {s0 : Int}  (k1 : s0 = 0 → sW (sC d) 275 Q 32 [vN, vN, vN, vN, vN, vN, vN, vN, vN, vN, vN, vN] [] M G 0 0) (k2 : s0 ≠ 0 → sW (sC d) 275 Q 20 [vO 12 a0, vI x1, vI x2, vI x3, vN, vN, vN, vN, vN, vN, vN, vN] [] M G 0 0) : sW (sC d) 275 Q 17 [vO 12 a0, vI x1, vI x2, vI x3, vN, vN, vN, vN, vN, vN, vN, vN] [vI s0] M G 0 0 := by
  refine q_ifeq 32 20 rfl (by decide) (show sCode 275 17 = some (.ifCond .eq 15, 3) by decide +kernel) ?_ ?_
  · intro q; refine q_forget (L' := [vN, vI x1, vI x2, vI x3, vN, vN, vN, vN, vN, vN, vN, vN]) 0 rfl ?_; refine q_forget (L' := [vN, vN, vI x2, vI x3, vN, vN, vN, vN, vN, vN, vN, vN]) 1 rfl ?_; refine q_forget (L' := [vN, vN, vN, vI x3, vN, vN, vN, vN, vN, vN, vN, vN]) 2 rfl ?_; refine q_forget (L' := [vN, vN, vN, vN, vN, vN, vN, vN, vN, vN, vN, vN]) 3 rfl ?_; exact k1 q
  · intro q; exact k2 q
theorem b275_20 {d : Nat} {Q : Option sV → sM → sG → Prop} {M : sM} {G : sG} {a0 : Nat} {x1 : Int} {x2 : Int} {x3 : Int}  (kk : sC d 183 [vL x3, vL 0, vL 2] M G (QI (fun r M1 G1 => sW (sC d) 275 Q 29 [vO 12 a0, vI x1, vI x2, vI x3, vN, vN, vN, vN, vN, vN, vN, vN] (vI r :: []) M1 G1 0 0))) : sW (sC d) 275 Q 20 [vO 12 a0, vI x1, vI x2, vI x3, vN, vN, vN, vN, vN, vN, vN, vN] [] M G 0 0 := by
  refine q_iload_n 21 rfl (show sCode 275 20 = some (.iload_n 3, 1) by decide +kernel) rfl ?_
  refine q_i2l 22 rfl (show sCode 275 21 = some (.i2l, 1) by decide +kernel) ?_
  refine q_lconst 23 rfl (show sCode 275 22 = some (.lconst 0, 1) by decide +kernel) ?_
  refine q_ldc2_w 26 rfl (show sCode 275 23 = some (.ldc2_w 363, 3) by decide +kernel) (show sLR (sKo 275).1 363 = some 2 by decide +kernel) ⟨by decide, by decide⟩ ?_
  exact q_statI [vL x3, vL 0, vL 2] 29 rfl (show sCode 275 26 = some (.invokestatic 127, 3) by decide +kernel) (show sMR (sKo 275).1 127 = some 183 by decide +kernel) (show 183 < 1000 ∧ sStat 183 = true ∧ sKo 183 = (12, 3, 2, 0, 0) by decide +kernel) rfl rfl (Nat.le_of_ble_eq_true rfl) rfl rfl rfl (by decide +kernel) kk
theorem b275_29 {d : Nat} {Q : Option sV → sM → sG → Prop} {M : sM} {G : sG} {a0 : Nat} {x1 : Int} {x2 : Int} {x3 : Int} {s0 : Int}  (k1 : s0 ≠ 0 → sW (sC d) 275 Q 34 [vO 12 a0, vI x1, vI x2, vI x3, vN, vN, vN, vN, vN, vN, vN, vN] [] M G 0 0) (k2 : s0 = 0 → sW (sC d) 275 Q 32 [vN, vN, vN, vN, vN, vN, vN, vN, vN, vN, vN, vN] [] M G 0 0) : sW (sC d) 275 Q 29 [vO 12 a0, vI x1, vI x2, vI x3, vN, vN, vN, vN, vN, vN, vN, vN] [vI s0] M G 0 0 := by
  refine q_ifne 34 32 rfl (by decide) (show sCode 275 29 = some (.ifCond .ne 5, 3) by decide +kernel) ?_ ?_
  · intro q; exact k1 q
  · intro q; refine q_forget (L' := [vN, vI x1, vI x2, vI x3, vN, vN, vN, vN, vN, vN, vN, vN]) 0 rfl ?_; refine q_forget (L' := [vN, vN, vI x2, vI x3, vN, vN, vN, vN, vN, vN, vN, vN]) 1 rfl ?_; refine q_forget (L' := [vN, vN, vN, vI x3, vN, vN, vN, vN, vN, vN, vN, vN]) 2 rfl ?_; refine q_forget (L' := [vN, vN, vN, vN, vN, vN, vN, vN, vN, vN, vN, vN]) 3 rfl ?_; exact k2 q
theorem b275_32 {d : Nat} {P : Int → sM → sG → Prop} {M : sM} {G : sG}   (kk : P (-1) M G) : sW (sC d) 275 (QI P) 32 [vN, vN, vN, vN, vN, vN, vN, vN, vN, vN, vN, vN] [] M G 0 0 := by
  refine q_iconst 33 rfl (show sCode 275 32 = some (.iconst (-1), 1) by decide +kernel) ⟨by decide, by decide⟩ ?_
  exact q_iret (show sCode 275 33 = some (.ireturn, 1) by decide +kernel) (by decide +kernel) (by decide +kernel) kk
theorem b275_34 {d : Nat} {Q : Option sV → sM → sG → Prop} {M : sM} {G : sG} {a0 : Nat} {x1 : Int} {x2 : Int} {x3 : Int}  (kk : sC d 232 [vO 12 a0] M G (QV (fun M1 G1 => sW (sC d) 275 Q 38 [vO 12 a0, vI x1, vI x2, vI x3, vN, vN, vN, vN, vN, vN, vN, vN] [] M1 G1 0 0))) : sW (sC d) 275 Q 34 [vO 12 a0, vI x1, vI x2, vI x3, vN, vN, vN, vN, vN, vN, vN, vN] [] M G 0 0 := by
  refine q_aload_n 35 rfl (show sCode 275 34 = some (.aload_n 0, 1) by decide +kernel) rfl (Nat.le_of_ble_eq_true rfl) ?_
  exact q_virtV [] 38 rfl (show sCode 275 35 = some (.invokevirtual 347, 3) by decide +kernel) (show sMR (sKo 275).1 347 = some 232 by decide +kernel) (show 232 < 1000 ∧ sStat 232 = false ∧ sIni 232 = false ∧ sKo 232 = (12, 0, 0, 0, 0) by decide +kernel) rfl (Or.inl rfl) rfl (Nat.le_of_ble_eq_true rfl) rfl rfl rfl (by decide +kernel) kk
theorem b275_38 {d : Nat} {Q : Option sV → sM → sG → Prop} {M : sM} {G : sG} {a0 : Nat} {x1 : Int} {x2 : Int} {x3 : Int}  (kk : sW (sC d) 275 Q 60 [vO 12 a0, vI x1, vI x2, vI x3, vL (M (a0 + 11) 9), vN, vI 0, vI 0, vI 0, vI 0, vN, vN] [] M G 0 0) : sW (sC d) 275 Q 38 [vO 12 a0, vI x1, vI x2, vI x3, vN, vN, vN, vN, vN, vN, vN, vN] [] M G 0 0 := by
  refine q_aload_n 39 rfl (show sCode 275 38 = some (.aload_n 0, 1) by decide +kernel) rfl (Nat.le_of_ble_eq_true rfl) ?_
  refine q_getR (vA 0 (a0 + 11) 274) 42 rfl (show sCode 275 39 = some (.getfield 42, 3) by decide +kernel) (show sFR (sKo 275).1 42 = some (12, 23) by decide +kernel) (by decide +kernel) (Or.inl (Or.inl rfl)) rfl ?_
  refine q_bipush 44 rfl (show sCode 275 42 = some (.bipush 9, 2) by decide +kernel) ⟨by decide, by decide⟩ (by decide +kernel) ?_
  refine q_iald 45 rfl (show sCode 275 44 = some (.iaload, 1) by decide +kernel) ⟨by decide, by decide⟩ ?_
  refine q_i2l 46 rfl (show sCode 275 45 = some (.i2l, 1) by decide +kernel) ?_
  refine q_lstore [vO 12 a0, vI x1, vI x2, vI x3, vL (M (a0 + 11) 9), vN, vN, vN, vN, vN, vN, vN] 48 rfl (show sCode 275 46 = some (.lstore 4, 2) by decide +kernel) (Nat.lt_of_lt_of_le (Nat.lt_succ_self _) (Nat.le_of_ble_eq_true rfl)) rfl rfl ?_
  refine q_iconst 49 rfl (show sCode 275 48 = some (.iconst 0, 1) by decide +kernel) ⟨by decide, by decide⟩ ?_
  refine q_istore [vO 12 a0, vI x1, vI x2, vI x3, vL (M (a0 + 11) 9), vN, vI 0, vN, vN, vN, vN, vN] 51 rfl (show sCode 275 49 = some (.istore 6, 2) by decide +kernel) (Nat.lt_of_lt_of_le (Nat.lt_succ_self _) (Nat.le_of_ble_eq_true rfl)) rfl rfl ?_
  refine q_iconst 52 rfl (show sCode 275 51 = some (.iconst 0, 1) by decide +kernel) ⟨by decide, by decide⟩ ?_
  refine q_istore [vO 12 a0, vI x1, vI x2, vI x3, vL (M (a0 + 11) 9), vN, vI 0, vI 0, vN, vN, vN, vN] 54 rfl (show sCode 275 52 = some (.istore 7, 2) by decide +kernel) (Nat.lt_of_lt_of_le (Nat.lt_succ_self _) (Nat.le_of_ble_eq_true rfl)) rfl rfl ?_
  refine q_iconst 55 rfl (show sCode 275 54 = some (.iconst 0, 1) by decide +kernel) ⟨by decide, by decide⟩ ?_
  refine q_istore [vO 12 a0, vI x1, vI x2, vI x3, vL (M (a0 + 11) 9), vN, vI 0, vI 0, vI 0, vN, vN, vN] 57 rfl (show sCode 275 55 = some (.istore 8, 2) by decide +kernel) (Nat.lt_of_lt_of_le (Nat.lt_succ_self _) (Nat.le_of_ble_eq_true rfl)) rfl rfl ?_
  refine q_iconst 58 rfl (show sCode 275 57 = some (.iconst 0, 1) by decide +kernel) ⟨by decide, by decide⟩ ?_
  refine q_istore [vO 12 a0, vI x1, vI x2, vI x3, vL (M (a0 + 11) 9), vN, vI 0, vI 0, vI 0, vI 0, vN, vN] 60 rfl (show sCode 275 58 = some (.istore 9, 2) by decide +kernel) (Nat.lt_of_lt_of_le (Nat.lt_succ_self _) (Nat.le_of_ble_eq_true rfl)) rfl rfl ?_
  exact kk
theorem b275_60 {d : Nat} {Q : Option sV → sM → sG → Prop} {M : sM} {G : sG} {a0 : Nat} {x1 : Int} {x2 : Int} {x3 : Int} {y4 : Int} {x6 : Int} {x7 : Int} {x8 : Int} {x9 : Int}  (k1 : x2 ≤ x9 → sW (sC d) 275 Q 220 [vN, vN, vN, vI x3, vN, vN, vI x6, vI x7, vI x8, vN, vN, vN] [] M G 0 0) (k2 : x9 < x2 → sW (sC d) 275 Q 66 [vO 12 a0, vI x1, vI x2, vI x3, vL y4, vN, vI x6, vI x7, vI x8, vI x9, vN, vN] [] M G 0 0) : sW (sC d) 275 Q 60 [vO 12 a0, vI x1, vI x2, vI x3, vL y4, vN, vI x6, vI x7, vI x8, vI x9, vN, vN] [] M G 0 0 := by
  refine q_iload 62 rfl (show sCode 275 60 = some (.iload 9, 2) by decide +kernel) rfl ?_
  refine q_iload_n 63 rfl (show sCode 275 62 = some (.iload_n 2, 1) by decide +kernel) rfl ?_
  refine q_icmpge 220 66 rfl (by decide) (show sCode 275 63 = some (.if_icmp .ge 157, 3) by decide +kernel) ?_ ?_
  · intro q; refine q_forget (L' := [vN, vI x1, vI x2, vI x3, vL y4, vN, vI x6, vI x7, vI x8, vI x9, vN, vN]) 0 rfl ?_; refine q_forget (L' := [vN, vN, vI x2, vI x3, vL y4, vN, vI x6, vI x7, vI x8, vI x9, vN, vN]) 1 rfl ?_; refine q_forget (L' := [vN, vN, vN, vI x3, vL y4, vN, vI x6, vI x7, vI x8, vI x9, vN, vN]) 2 rfl ?_; refine q_forget (L' := [vN, vN, vN, vI x3, vN, vN, vI x6, vI x7, vI x8, vI x9, vN, vN]) 4 rfl ?_; refine q_forget (L' := [vN, vN, vN, vI x3, vN, vN, vI x6, vI x7, vI x8, vN, vN, vN]) 9 rfl ?_; exact k1 q
  · intro q; exact k2 q
theorem b275_66 {d : Nat} {Q : Option sV → sM → sG → Prop} {M : sM} {G : sG} {a0 : Nat} {x1 : Int} {x2 : Int} {x3 : Int} {y4 : Int} {x6 : Int} {x7 : Int} {x8 : Int} {x9 : Int}  (kk : sW (sC d) 275 Q 69 [vO 12 a0, vI x1, vI x2, vI x3, vL y4, vN, vI x6, vI x7, vI x8, vI x9, vI 0, vN] [] M G 0 0) : sW (sC d) 275 Q 66 [vO 12 a0, vI x1, vI x2, vI x3, vL y4, vN, vI x6, vI x7, vI x8, vI x9, vN, vN] [] M G 0 0 := by
  refine q_iconst 67 rfl (show sCode 275 66 = some (.iconst 0, 1) by decide +kernel) ⟨by decide, by decide⟩ ?_
  refine q_istore [vO 12 a0, vI x1, vI x2, vI x3, vL y4, vN, vI x6, vI x7, vI x8, vI x9, vI 0, vN] 69 rfl (show sCode 275 67 = some (.istore 10, 2) by decide +kernel) (Nat.lt_of_lt_of_le (Nat.lt_succ_self _) (Nat.le_of_ble_eq_true rfl)) rfl rfl ?_
  exact kk
theorem b275_69 {d : Nat} {Q : Option sV → sM → sG → Prop} {M : sM} {G : sG} {a0 : Nat} {x1 : Int} {x2 : Int} {x3 : Int} {y4 : Int} {x6 : Int} {x7 : Int} {x8 : Int} {x9 : Int} {x10 : Int}  (k1 : M (a0 + 11) 1 ≤ x10 → sW (sC d) 275 Q 152 [vO 12 a0, vI x1, vI x2, vI x3, vL y4, vN, vI x6, vI x7, vI x8, vI x9, vN, vN] [] M G 0 0) (k2 : x10 < M (a0 + 11) 1 → sW (sC d) 275 Q 80 [vO 12 a0, vI x1, vI x2, vI x3, vL y4, vN, vI x6, vI x7, vI x8, vI x9, vI x10, vN] [] M G 0 0) : sW (sC d) 275 Q 69 [vO 12 a0, vI x1, vI x2, vI x3, vL y4, vN, vI x6, vI x7, vI x8, vI x9, vI x10, vN] [] M G 0 0 := by
  refine q_iload 71 rfl (show sCode 275 69 = some (.iload 10, 2) by decide +kernel) rfl ?_
  refine q_aload_n 72 rfl (show sCode 275 71 = some (.aload_n 0, 1) by decide +kernel) rfl (Nat.le_of_ble_eq_true rfl) ?_
  refine q_getR (vA 0 (a0 + 11) 274) 75 rfl (show sCode 275 72 = some (.getfield 42, 3) by decide +kernel) (show sFR (sKo 275).1 42 = some (12, 23) by decide +kernel) (by decide +kernel) (Or.inl (Or.inl rfl)) rfl ?_
  refine q_iconst 76 rfl (show sCode 275 75 = some (.iconst 1, 1) by decide +kernel) ⟨by decide, by decide⟩ ?_
  refine q_iald 77 rfl (show sCode 275 76 = some (.iaload, 1) by decide +kernel) ⟨by decide, by decide⟩ ?_
  refine q_icmpge 152 80 rfl (by decide) (show sCode 275 77 = some (.if_icmp .ge 75, 3) by decide +kernel) ?_ ?_
  · intro q; refine q_forget (L' := [vO 12 a0, vI x1, vI x2, vI x3, vL y4, vN, vI x6, vI x7, vI x8, vI x9, vN, vN]) 10 rfl ?_; exact k1 q
  · intro q; exact k2 q
theorem b275_80 {d : Nat} {Q : Option sV → sM → sG → Prop} {M : sM} {G : sG} {a0 : Nat} {x1 : Int} {x2 : Int} {x3 : Int} {y4 : Int} {x6 : Int} {x7 : Int} {x8 : Int} {x9 : Int} {x10 : Int}  (kk : sC d 209 [vO 12 a0, vI x10, vI 3] M G (QI (fun r M1 G1 => sW (sC d) 275 Q 103 [vO 12 a0, vI x1, vI x2, vI x3, vL (jRem (jWrap ((jWrap (y4 * 1103515245)) + 12345)) 2147483648), vN, vI x6, vI x7, vI x8, vI x9, vI x10, vN] (vI r :: []) M1 G1 0 0))) : sW (sC d) 275 Q 80 [vO 12 a0, vI x1, vI x2, vI x3, vL y4, vN, vI x6, vI x7, vI x8, vI x9, vI x10, vN] [] M G 0 0 := by
  refine q_lload 82 rfl (show sCode 275 80 = some (.lload 4, 2) by decide +kernel) rfl ?_
  refine q_ldc2_w 85 rfl (show sCode 275 82 = some (.ldc2_w 442, 3) by decide +kernel) (show sLR (sKo 275).1 442 = some 1103515245 by decide +kernel) ⟨by decide, by decide⟩ ?_
  refine q_lmul 86 rfl (show sCode 275 85 = some (.lmul, 1) by decide +kernel) ?_
  refine q_ldc2_w 89 rfl (show sCode 275 86 = some (.ldc2_w 444, 3) by decide +kernel) (show sLR (sKo 275).1 444 = some 12345 by decide +kernel) ⟨by decide, by decide⟩ ?_
  refine q_ladd 90 rfl (show sCode 275 89 = some (.ladd, 1) by decide +kernel) ?_
  refine q_ldc2_w 93 rfl (show sCode 275 90 = some (.ldc2_w 446, 3) by decide +kernel) (show sLR (sKo 275).1 446 = some 2147483648 by decide +kernel) ⟨by decide, by decide⟩ ?_
  refine q_lrem 94 rfl (show sCode 275 93 = some (.lrem, 1) by decide +kernel) (by decide) ?_
  refine q_lstore [vO 12 a0, vI x1, vI x2, vI x3, vL (jRem (jWrap ((jWrap (y4 * 1103515245)) + 12345)) 2147483648), vN, vI x6, vI x7, vI x8, vI x9, vI x10, vN] 96 rfl (show sCode 275 94 = some (.lstore 4, 2) by decide +kernel) (Nat.lt_of_lt_of_le (Nat.lt_succ_self _) (Nat.le_of_ble_eq_true rfl)) rfl rfl ?_
  refine q_aload_n 97 rfl (show sCode 275 96 = some (.aload_n 0, 1) by decide +kernel) rfl (Nat.le_of_ble_eq_true rfl) ?_
  refine q_iload 99 rfl (show sCode 275 97 = some (.iload 10, 2) by decide +kernel) rfl ?_
  refine q_iconst 100 rfl (show sCode 275 99 = some (.iconst 3, 1) by decide +kernel) ⟨by decide, by decide⟩ ?_
  exact q_virtI [vI x10, vI 3] 103 rfl (show sCode 275 100 = some (.invokevirtual 302, 3) by decide +kernel) (show sMR (sKo 275).1 302 = some 209 by decide +kernel) (show 209 < 1000 ∧ sStat 209 = false ∧ sIni 209 = false ∧ sKo 209 = (12, 2, 1, 0, 0) by decide +kernel) rfl (Or.inl rfl) rfl (Nat.le_of_ble_eq_true rfl) rfl rfl rfl (by decide +kernel) kk
theorem b275_103 {d : Nat} {Q : Option sV → sM → sG → Prop} {M : sM} {G : sG} {a0 : Nat} {x1 : Int} {x2 : Int} {x3 : Int} {y4 : Int} {x6 : Int} {x7 : Int} {x8 : Int} {x9 : Int} {x10 : Int} {s0 : Int} (h1 : sI (s0 + (jInt (jRem (jDiv y4 65536) 4)))) (h2 : sI (6 * x10)) (h3 : sI (28 + (6 * x10))) (h4 : sI ((28 + (6 * x10)) + 3)) (k1 : s0 + (jInt (jRem (jDiv y4 65536) 4)) ≤ 95 → sW (sC d) 275 Q 143 [vO 12 a0, vI x1, vI x2, vI x3, vL y4, vN, vI x6, vI x7, vI x8, vI x9, vI x10, vI (s0 + (jInt (jRem (jDiv y4 65536) 4)))] [vI ((28 + (6 * x10)) + 3), vA 0 (a0 + 11) 274] M G 0 0) (k2 : 95 < s0 + (jInt (jRem (jDiv y4 65536) 4)) → sW (sC d) 275 Q 138 [vO 12 a0, vI x1, vI x2, vI x3, vL y4, vN, vI x6, vI x7, vI x8, vI x9, vI x10, vN] [vI ((28 + (6 * x10)) + 3), vA 0 (a0 + 11) 274] M G 0 0) : sW (sC d) 275 Q 103 [vO 12 a0, vI x1, vI x2, vI x3, vL y4, vN, vI x6, vI x7, vI x8, vI x9, vI x10, vN] [vI s0] M G 0 0 := by
  refine q_lload 105 rfl (show sCode 275 103 = some (.lload 4, 2) by decide +kernel) rfl ?_
  refine q_ldc2_w 108 rfl (show sCode 275 105 = some (.ldc2_w 448, 3) by decide +kernel) (show sLR (sKo 275).1 448 = some 65536 by decide +kernel) ⟨by decide, by decide⟩ ?_
  refine q_ldiv 109 rfl (show sCode 275 108 = some (.ldiv, 1) by decide +kernel) (by decide) ?_
  refine q_ldc2_w 112 rfl (show sCode 275 109 = some (.ldc2_w 450, 3) by decide +kernel) (show sLR (sKo 275).1 450 = some 4 by decide +kernel) ⟨by decide, by decide⟩ ?_
  refine q_lrem 113 rfl (show sCode 275 112 = some (.lrem, 1) by decide +kernel) (by decide) ?_
  refine q_l2i 114 rfl (show sCode 275 113 = some (.l2i, 1) by decide +kernel) ?_
  refine q_iadd 115 rfl (show sCode 275 114 = some (.iadd, 1) by decide +kernel) h1 ?_
  refine q_istore [vO 12 a0, vI x1, vI x2, vI x3, vL y4, vN, vI x6, vI x7, vI x8, vI x9, vI x10, vI (s0 + (jInt (jRem (jDiv y4 65536) 4)))] 117 rfl (show sCode 275 115 = some (.istore 11, 2) by decide +kernel) (Nat.lt_of_lt_of_le (Nat.lt_succ_self _) (Nat.le_of_ble_eq_true rfl)) rfl rfl ?_
  refine q_aload_n 118 rfl (show sCode 275 117 = some (.aload_n 0, 1) by decide +kernel) rfl (Nat.le_of_ble_eq_true rfl) ?_
  refine q_getR (vA 0 (a0 + 11) 274) 121 rfl (show sCode 275 118 = some (.getfield 42, 3) by decide +kernel) (show sFR (sKo 275).1 42 = some (12, 23) by decide +kernel) (by decide +kernel) (Or.inl (Or.inl rfl)) rfl ?_
  refine q_bipush 123 rfl (show sCode 275 121 = some (.bipush 28, 2) by decide +kernel) ⟨by decide, by decide⟩ (by decide +kernel) ?_
  refine q_bipush 125 rfl (show sCode 275 123 = some (.bipush 6, 2) by decide +kernel) ⟨by decide, by decide⟩ (by decide +kernel) ?_
  refine q_iload 127 rfl (show sCode 275 125 = some (.iload 10, 2) by decide +kernel) rfl ?_
  refine q_imul 128 rfl (show sCode 275 127 = some (.imul, 1) by decide +kernel) h2 ?_
  refine q_iadd 129 rfl (show sCode 275 128 = some (.iadd, 1) by decide +kernel) h3 ?_
  refine q_iconst 130 rfl (show sCode 275 129 = some (.iconst 3, 1) by decide +kernel) ⟨by decide, by decide⟩ ?_
  refine q_iadd 131 rfl (show sCode 275 130 = some (.iadd, 1) by decide +kernel) h4 ?_
  refine q_iload 133 rfl (show sCode 275 131 = some (.iload 11, 2) by decide +kernel) rfl ?_
  refine q_bipush 135 rfl (show sCode 275 133 = some (.bipush 95, 2) by decide +kernel) ⟨by decide, by decide⟩ (by decide +kernel) ?_
  refine q_icmple 143 138 rfl (by decide) (show sCode 275 135 = some (.if_icmp .le 8, 3) by decide +kernel) ?_ ?_
  · intro q; exact k1 q
  · intro q; refine q_forget (L' := [vO 12 a0, vI x1, vI x2, vI x3, vL y4, vN, vI x6, vI x7, vI x8, vI x9, vI x10, vN]) 11 rfl ?_; exact k2 q
theorem b275_138 {d : Nat} {Q : Option sV → sM → sG → Prop} {M : sM} {G : sG} {a0 : Nat} {x1 : Int} {x2 : Int} {x3 : Int} {y4 : Int} {x6 : Int} {x7 : Int} {x8 : Int} {x9 : Int} {x10 : Int} {s0 : Int} {sa1 : Nat}  (kk : sW (sC d) 275 Q 145 [vO 12 a0, vI x1, vI x2, vI x3, vL y4, vN, vI x6, vI x7, vI x8, vI x9, vI x10, vN] [vI 95, vI s0, vA 0 sa1 274] M G 0 0) : sW (sC d) 275 Q 138 [vO 12 a0, vI x1, vI x2, vI x3, vL y4, vN, vI x6, vI x7, vI x8, vI x9, vI x10, vN] [vI s0, vA 0 sa1 274] M G 0 0 := by
  refine q_bipush 140 rfl (show sCode 275 138 = some (.bipush 95, 2) by decide +kernel) ⟨by decide, by decide⟩ (by decide +kernel) ?_
  refine q_goto 145 (by decide) (show sCode 275 140 = some (.goto 5, 3) by decide +kernel) ?_
  exact kk
theorem b275_143 {d : Nat} {Q : Option sV → sM → sG → Prop} {M : sM} {G : sG} {a0 : Nat} {x1 : Int} {x2 : Int} {x3 : Int} {y4 : Int} {x6 : Int} {x7 : Int} {x8 : Int} {x9 : Int} {x10 : Int} {x11 : Int} {s0 : Int} {sa1 : Nat}  (kk : sW (sC d) 275 Q 145 [vO 12 a0, vI x1, vI x2, vI x3, vL y4, vN, vI x6, vI x7, vI x8, vI x9, vI x10, vN] [vI x11, vI s0, vA 0 sa1 274] M G 0 0) : sW (sC d) 275 Q 143 [vO 12 a0, vI x1, vI x2, vI x3, vL y4, vN, vI x6, vI x7, vI x8, vI x9, vI x10, vI x11] [vI s0, vA 0 sa1 274] M G 0 0 := by
  refine q_iload 145 rfl (show sCode 275 143 = some (.iload 11, 2) by decide +kernel) rfl ?_
  refine q_forget (L' := [vO 12 a0, vI x1, vI x2, vI x3, vL y4, vN, vI x6, vI x7, vI x8, vI x9, vI x10, vN]) 11 rfl ?_
  exact kk
theorem b275_145 {d : Nat} {Q : Option sV → sM → sG → Prop} {M : sM} {G : sG} {a0 : Nat} {x1 : Int} {x2 : Int} {x3 : Int} {y4 : Int} {x6 : Int} {x7 : Int} {x8 : Int} {x9 : Int} {x10 : Int} {s0 : Int} {s1 : Int} {sa2 : Nat} (h1 : 0 ≤ s1 ∧ s1 < 274) (h2 : sI (x10 + 1)) (kk : sW (sC d) 275 Q 69 [vO 12 a0, vI x1, vI x2, vI x3, vL y4, vN, vI x6, vI x7, vI x8, vI x9, vI (x10 + 1), vN] [] (sUpd M sa2 s1.toNat s0) G 0 0) : sW (sC d) 275 Q 145 [vO 12 a0, vI x1, vI x2, vI x3, vL y4, vN, vI x6, vI x7, vI x8, vI x9, vI x10, vN] [vI s0, vI s1, vA 0 sa2 274] M G 0 0 := by
  refine q_iast 146 rfl (show sCode 275 145 = some (.iastore, 1) by decide +kernel) h1 ?_
  refine q_iinc [vO 12 a0, vI x1, vI x2, vI x3, vL y4, vN, vI x6, vI x7, vI x8, vI x9, vI (x10 + 1), vN] 149 rfl (show sCode 275 146 = some (.iinc 10 1, 3) by decide +kernel) rfl rfl h2 rfl ?_
  refine q_goto 69 (by decide) (show sCode 275 149 = some (.goto (-80), 3) by decide +kernel) ?_
  exact kk
theorem b275_152 {d : Nat} {Q : Option sV → sM → sG → Prop} {M : sM} {G : sG} {a0 : Nat} {x1 : Int} {x2 : Int} {x3 : Int} {y4 : Int} {x6 : Int} {x7 : Int} {x8 : Int} {x9 : Int} (h1 : sI (96 - (M (a0 + 11) 2))) (kk : sC d 219 [vO 12 a0, vI x1, vI (96 - (M (a0 + 11) 2))] M G (QV (fun M1 G1 => sW (sC d) 275 Q 166 [vO 12 a0, vI x1, vI x2, vI x3, vL y4, vN, vI x6, vI x7, vI x8, vI x9, vN, vN] [] M1 G1 0 0))) : sW (sC d) 275 Q 152 [vO 12 a0, vI x1, vI x2, vI x3, vL y4, vN, vI x6, vI x7, vI x8, vI x9, vN, vN] [] M G 0 0 := by
  refine q_aload_n 153 rfl (show sCode 275 152 = some (.aload_n 0, 1) by decide +kernel) rfl (Nat.le_of_ble_eq_true rfl) ?_
  refine q_iload_n 154 rfl (show sCode 275 153 = some (.iload_n 1, 1) by decide +kernel) rfl ?_
  refine q_bipush 156 rfl (show sCode 275 154 = some (.bipush 96, 2) by decide +kernel) ⟨by decide, by decide⟩ (by decide +kernel) ?_
  refine q_aload_n 157 rfl (show sCode 275 156 = some (.aload_n 0, 1) by decide +kernel) rfl (Nat.le_of_ble_eq_true rfl) ?_
  refine q_getR (vA 0 (a0 + 11) 274) 160 rfl (show sCode 275 157 = some (.getfield 42, 3) by decide +kernel) (show sFR (sKo 275).1 42 = some (12, 23) by decide +kernel) (by decide +kernel) (Or.inl (Or.inl rfl)) rfl ?_
  refine q_iconst 161 rfl (show sCode 275 160 = some (.iconst 2, 1) by decide +kernel) ⟨by decide, by decide⟩ ?_
  refine q_iald 162 rfl (show sCode 275 161 = some (.iaload, 1) by decide +kernel) ⟨by decide, by decide⟩ ?_
  refine q_isub 163 rfl (show sCode 275 162 = some (.isub, 1) by decide +kernel) h1 ?_
  exact q_virtV [vI x1, vI (96 - (M (a0 + 11) 2))] 166 rfl (show sCode 275 163 = some (.invokevirtual 342, 3) by decide +kernel) (show sMR (sKo 275).1 342 = some 219 by decide +kernel) (show 219 < 1000 ∧ sStat 219 = false ∧ sIni 219 = false ∧ sKo 219 = (12, 2, 0, 0, 0) by decide +kernel) rfl (Or.inl rfl) rfl (Nat.le_of_ble_eq_true rfl) rfl rfl rfl (by decide +kernel) kk
theorem b275_166 {d : Nat} {Q : Option sV → sM → sG → Prop} {M : sM} {G : sG} {a0 : Nat} {x1 : Int} {x2 : Int} {x3 : Int} {y4 : Int} {x6 : Int} {x7 : Int} {x8 : Int} {x9 : Int} (h1 : sI ((M (a0 + 11) 3) - (M (a0 + 12) 3))) (h2 : sI (x6 + ((M (a0 + 11) 3) - (M (a0 + 12) 3)))) (kk : sC d 234 [vO 12 a0] M G (QI (fun r M1 G1 => sW (sC d) 275 Q 190 [vO 12 a0, vI x1, vI x2, vI x3, vL y4, vN, vI (x6 + ((M (a0 + 11) 3) - (M (a0 + 12) 3))), vN, vI x8, vI x9, vN, vN] (vI r :: [vI x7]) M1 G1 0 0))) : sW (sC d) 275 Q 166 [vO 12 a0, vI x1, vI x2, vI x3, vL y4, vN, vI x6, vI x7, vI x8, vI x9, vN, vN] [] M G 0 0 := by
  refine q_iload 168 rfl (show sCode 275 166 = some (.iload 6, 2) by decide +kernel) rfl ?_
  refine q_aload_n 169 rfl (show sCode 275 168 = some (.aload_n 0, 1) by decide +kernel) rfl (Nat.le_of_ble_eq_true rfl) ?_
  refine q_getR (vA 0 (a0 + 11) 274) 172 rfl (show sCode 275 169 = some (.getfield 42, 3) by decide +kernel) (show sFR (sKo 275).1 42 = some (12, 23) by decide +kernel) (by decide +kernel) (Or.inl (Or.inl rfl)) rfl ?_
  refine q_iconst 173 rfl (show sCode 275 172 = some (.iconst 3, 1) by decide +kernel) ⟨by decide, by decide⟩ ?_
  refine q_iald 174 rfl (show sCode 275 173 = some (.iaload, 1) by decide +kernel) ⟨by decide, by decide⟩ ?_
  refine q_aload_n 175 rfl (show sCode 275 174 = some (.aload_n 0, 1) by decide +kernel) rfl (Nat.le_of_ble_eq_true rfl) ?_
  refine q_getR (vA 0 (a0 + 12) 274) 178 rfl (show sCode 275 175 = some (.getfield 45, 3) by decide +kernel) (show sFR (sKo 275).1 45 = some (12, 24) by decide +kernel) (by decide +kernel) (Or.inl (Or.inl rfl)) rfl ?_
  refine q_iconst 179 rfl (show sCode 275 178 = some (.iconst 3, 1) by decide +kernel) ⟨by decide, by decide⟩ ?_
  refine q_iald 180 rfl (show sCode 275 179 = some (.iaload, 1) by decide +kernel) ⟨by decide, by decide⟩ ?_
  refine q_isub 181 rfl (show sCode 275 180 = some (.isub, 1) by decide +kernel) h1 ?_
  refine q_iadd 182 rfl (show sCode 275 181 = some (.iadd, 1) by decide +kernel) h2 ?_
  refine q_istore [vO 12 a0, vI x1, vI x2, vI x3, vL y4, vN, vI (x6 + ((M (a0 + 11) 3) - (M (a0 + 12) 3))), vI x7, vI x8, vI x9, vN, vN] 184 rfl (show sCode 275 182 = some (.istore 6, 2) by decide +kernel) (Nat.lt_of_lt_of_le (Nat.lt_succ_self _) (Nat.le_of_ble_eq_true rfl)) rfl rfl ?_
  refine q_iload 186 rfl (show sCode 275 184 = some (.iload 7, 2) by decide +kernel) rfl ?_
  refine q_aload_n 187 rfl (show sCode 275 186 = some (.aload_n 0, 1) by decide +kernel) rfl (Nat.le_of_ble_eq_true rfl) ?_
  refine q_forget (L' := [vO 12 a0, vI x1, vI x2, vI x3, vL y4, vN, vI (x6 + ((M (a0 + 11) 3) - (M (a0 + 12) 3))), vN, vI x8, vI x9, vN, vN]) 7 rfl ?_
  exact q_virtI [] 190 rfl (show sCode 275 187 = some (.invokevirtual 353, 3) by decide +kernel) (show sMR (sKo 275).1 353 = some 234 by decide +kernel) (show 234 < 1000 ∧ sStat 234 = false ∧ sIni 234 = false ∧ sKo 234 = (12, 0, 1, 0, 0) by decide +kernel) rfl (Or.inl rfl) rfl (Nat.le_of_ble_eq_true rfl) rfl rfl rfl (by decide +kernel) kk
theorem b275_190 {d : Nat} {Q : Option sV → sM → sG → Prop} {M : sM} {G : sG} {a0 : Nat} {x1 : Int} {x2 : Int} {x3 : Int} {y4 : Int} {x6 : Int} {x8 : Int} {x9 : Int} {s0 : Int} {s1 : Int} (h1 : sI (s1 + s0)) (kk : sC d 233 [vO 12 a0] M G (QI (fun r M1 G1 => sW (sC d) 275 Q 199 [vO 12 a0, vI x1, vI x2, vI x3, vL y4, vN, vI x6, vI (s1 + s0), vN, vI x9, vN, vN] (vI r :: [vI x8]) M1 G1 0 0))) : sW (sC d) 275 Q 190 [vO 12 a0, vI x1, vI x2, vI x3, vL y4, vN, vI x6, vN, vI x8, vI x9, vN, vN] [vI s0, vI s1] M G 0 0 := by
  refine q_iadd 191 rfl (show sCode 275 190 = some (.iadd, 1) by decide +kernel) h1 ?_
  refine q_istore [vO 12 a0, vI x1, vI x2, vI x3, vL y4, vN, vI x6, vI (s1 + s0), vI x8, vI x9, vN, vN] 193 rfl (show sCode 275 191 = some (.istore 7, 2) by decide +kernel) (Nat.lt_of_lt_of_le (Nat.lt_succ_self _) (Nat.le_of_ble_eq_true rfl)) rfl rfl ?_
  refine q_iload 195 rfl (show sCode 275 193 = some (.iload 8, 2) by decide +kernel) rfl ?_
  refine q_aload_n 196 rfl (show sCode 275 195 = some (.aload_n 0, 1) by decide +kernel) rfl (Nat.le_of_ble_eq_true rfl) ?_
  refine q_forget (L' := [vO 12 a0, vI x1, vI x2, vI x3, vL y4, vN, vI x6, vI (s1 + s0), vN, vI x9, vN, vN]) 8 rfl ?_
  exact q_virtI [] 199 rfl (show sCode 275 196 = some (.invokevirtual 350, 3) by decide +kernel) (show sMR (sKo 275).1 350 = some 233 by decide +kernel) (show 233 < 1000 ∧ sStat 233 = false ∧ sIni 233 = false ∧ sKo 233 = (12, 0, 1, 0, 0) by decide +kernel) rfl (Or.inl rfl) rfl (Nat.le_of_ble_eq_true rfl) rfl rfl rfl (by decide +kernel) kk
theorem b275_199 {d : Nat} {Q : Option sV → sM → sG → Prop} {M : sM} {G : sG} {a0 : Nat} {x1 : Int} {x2 : Int} {x3 : Int} {y4 : Int} {x6 : Int} {x7 : Int} {x9 : Int} {s0 : Int} {s1 : Int}  (k1 : s0 ≠ 0 → sW (sC d) 275 Q 206 [vO 12 a0, vI x1, vI x2, vI x3, vL y4, vN, vI x6, vI x7, vN, vI x9, vN, vN] [vI s1] M G 0 0) (k2 : s0 = 0 → sW (sC d) 275 Q 202 [vO 12 a0, vI x1, vI x2, vI x3, vL y4, vN, vI x6, vI x7, vN, vI x9, vN, vN] [vI s1] M G 0 0) : sW (sC d) 275 Q 199 [vO 12 a0, vI x1, vI x2, vI x3, vL y4, vN, vI x6, vI x7, vN, vI x9, vN, vN] [vI s0, vI s1] M G 0 0 := by
  refine q_ifne 206 202 rfl (by decide) (show sCode 275 199 = some (.ifCond .ne 7, 3) by decide +kernel) ?_ ?_
  · intro q; exact k1 q
  · intro q; exact k2 q
theorem b275_202 {d : Nat} {Q : Option sV → sM → sG → Prop} {M : sM} {G : sG} {a0 : Nat} {x1 : Int} {x2 : Int} {x3 : Int} {y4 : Int} {x6 : Int} {x7 : Int} {x9 : Int} {s0 : Int}  (kk : sW (sC d) 275 Q 207 [vO 12 a0, vI x1, vI x2, vI x3, vL y4, vN, vI x6, vI x7, vN, vI x9, vN, vN] [vI 1, vI s0] M G 0 0) : sW (sC d) 275 Q 202 [vO 12 a0, vI x1, vI x2, vI x3, vL y4, vN, vI x6, vI x7, vN, vI x9, vN, vN] [vI s0] M G 0 0 := by
  refine q_iconst 203 rfl (show sCode 275 202 = some (.iconst 1, 1) by decide +kernel) ⟨by decide, by decide⟩ ?_
  refine q_goto 207 (by decide) (show sCode 275 203 = some (.goto 4, 3) by decide +kernel) ?_
  exact kk
theorem b275_206 {d : Nat} {Q : Option sV → sM → sG → Prop} {M : sM} {G : sG} {a0 : Nat} {x1 : Int} {x2 : Int} {x3 : Int} {y4 : Int} {x6 : Int} {x7 : Int} {x9 : Int} {s0 : Int}  (kk : sW (sC d) 275 Q 207 [vO 12 a0, vI x1, vI x2, vI x3, vL y4, vN, vI x6, vI x7, vN, vI x9, vN, vN] [vI 0, vI s0] M G 0 0) : sW (sC d) 275 Q 206 [vO 12 a0, vI x1, vI x2, vI x3, vL y4, vN, vI x6, vI x7, vN, vI x9, vN, vN] [vI s0] M G 0 0 := by
  refine q_iconst 207 rfl (show sCode 275 206 = some (.iconst 0, 1) by decide +kernel) ⟨by decide, by decide⟩ ?_
  exact kk
theorem b275_207 {d : Nat} {Q : Option sV → sM → sG → Prop} {M : sM} {G : sG} {a0 : Nat} {x1 : Int} {x2 : Int} {x3 : Int} {y4 : Int} {x6 : Int} {x7 : Int} {x9 : Int} {s0 : Int} {s1 : Int} (h1 : sI (s1 + s0)) (kk : sC d 235 [vO 12 a0] M G (QV (fun M1 G1 => sW (sC d) 275 Q 214 [vO 12 a0, vI x1, vI x2, vI x3, vL y4, vN, vI x6, vI x7, vI (s1 + s0), vI x9, vN, vN] [] M1 G1 0 0))) : sW (sC d) 275 Q 207 [vO 12 a0, vI x1, vI x2, vI x3, vL y4, vN, vI x6, vI x7, vN, vI x9, vN, vN] [vI s0, vI s1] M G 0 0 := by
  refine q_iadd 208 rfl (show sCode 275 207 = some (.iadd, 1) by decide +kernel) h1 ?_
  refine q_istore [vO 12 a0, vI x1, vI x2, vI x3, vL y4, vN, vI x6, vI x7, vI (s1 + s0), vI x9, vN, vN] 210 rfl (show sCode 275 208 = some (.istore 8, 2) by decide +kernel) (Nat.lt_of_lt_of_le (Nat.lt_succ_self _) (Nat.le_of_ble_eq_true rfl)) rfl rfl ?_
  refine q_aload_n 211 rfl (show sCode 275 210 = some (.aload_n 0, 1) by decide +kernel) rfl (Nat.le_of_ble_eq_true rfl) ?_
  exact q_virtV [] 214 rfl (show sCode 275 211 = some (.invokevirtual 356, 3) by decide +kernel) (show sMR (sKo 275).1 356 = some 235 by decide +kernel) (show 235 < 1000 ∧ sStat 235 = false ∧ sIni 235 = false ∧ sKo 235 = (12, 0, 0, 0, 0) by decide +kernel) rfl (Or.inl rfl) rfl (Nat.le_of_ble_eq_true rfl) rfl rfl rfl (by decide +kernel) kk
theorem b275_214 {d : Nat} {Q : Option sV → sM → sG → Prop} {M : sM} {G : sG} {a0 : Nat} {x1 : Int} {x2 : Int} {x3 : Int} {y4 : Int} {x6 : Int} {x7 : Int} {x8 : Int} {x9 : Int} (h1 : sI (x9 + 1)) (kk : sW (sC d) 275 Q 60 [vO 12 a0, vI x1, vI x2, vI x3, vL y4, vN, vI x6, vI x7, vI x8, vI (x9 + 1), vN, vN] [] M G 0 0) : sW (sC d) 275 Q 214 [vO 12 a0, vI x1, vI x2, vI x3, vL y4, vN, vI x6, vI x7, vI x8, vI x9, vN, vN] [] M G 0 0 := by
  refine q_iinc [vO 12 a0, vI x1, vI x2, vI x3, vL y4, vN, vI x6, vI x7, vI x8, vI (x9 + 1), vN, vN] 217 rfl (show sCode 275 214 = some (.iinc 9 1, 3) by decide +kernel) rfl rfl h1 rfl ?_
  refine q_goto 60 (by decide) (show sCode 275 217 = some (.goto (-157), 3) by decide +kernel) ?_
  exact kk
theorem b275_220 {d : Nat} {Q : Option sV → sM → sG → Prop} {M : sM} {G : sG} {x3 : Int} {x6 : Int} {x7 : Int} {x8 : Int}  (k1 : x3 ≠ 0 → sW (sC d) 275 Q 229 [vN, vN, vN, vI x3, vN, vN, vN, vI x7, vI x8, vN, vN, vN] [] M G 0 0) (k2 : x3 = 0 → sW (sC d) 275 Q 224 [vN, vN, vN, vN, vN, vN, vI x6, vN, vN, vN, vN, vN] [] M G 0 0) : sW (sC d) 275 Q 220 [vN, vN, vN, vI x3, vN, vN, vI x6, vI x7, vI x8, vN, vN, vN] [] M G 0 0 := by
  refine q_iload_n 221 rfl (show sCode 275 220 = some (.iload_n 3, 1) by decide +kernel) rfl ?_
  refine q_ifne 229 224 rfl (by decide) (show sCode 275 221 = some (.ifCond .ne 8, 3) by decide +kernel) ?_ ?_
  · intro q; refine q_forget (L' := [vN, vN, vN, vI x3, vN, vN, vN, vI x7, vI x8, vN, vN, vN]) 6 rfl ?_; exact k1 q
  · intro q; refine q_forget (L' := [vN, vN, vN, vN, vN, vN, vI x6, vI x7, vI x8, vN, vN, vN]) 3 rfl ?_; refine q_forget (L' := [vN, vN, vN, vN, vN, vN, vI x6, vN, vI x8, vN, vN, vN]) 7 rfl ?_; refine q_forget (L' := [vN, vN, vN, vN, vN, vN, vI x6, vN, vN, vN, vN, vN]) 8 rfl ?_; exact k2 q
theorem b275_224 {d : Nat} {Q : Option sV → sM → sG → Prop} {M : sM} {G : sG} {x6 : Int}  (kk : sW (sC d) 275 Q 241 [vN, vN, vN, vN, vN, vN, vN, vN, vN, vN, vN, vN] [vI x6] M G 0 0) : sW (sC d) 275 Q 224 [vN, vN, vN, vN, vN, vN, vI x6, vN, vN, vN, vN, vN] [] M G 0 0 := by
  refine q_iload 226 rfl (show sCode 275 224 = some (.iload 6, 2) by decide +kernel) rfl ?_
  refine q_goto 241 (by decide) (show sCode 275 226 = some (.goto 15, 3) by decide +kernel) ?_
  refine q_forget (L' := [vN, vN, vN, vN, vN, vN, vN, vN, vN, vN, vN, vN]) 6 rfl ?_
  exact kk
theorem b275_229 {d : Nat} {Q : Option sV → sM → sG → Prop} {M : sM} {G : sG} {x3 : Int} {x7 : Int} {x8 : Int}  (k1 : x3 ≠ 1 → sW (sC d) 275 Q 239 [vN, vN, vN, vN, vN, vN, vN, vN, vI x8, vN, vN, vN] [] M G 0 0) (k2 : x3 = 1 → sW (sC d) 275 Q 234 [vN, vN, vN, vN, vN, vN, vN, vI x7, vN, vN, vN, vN] [] M G 0 0) : sW (sC d) 275 Q 229 [vN, vN, vN, vI x3, vN, vN, vN, vI x7, vI x8, vN, vN, vN] [] M G 0 0 := by
  refine q_iload_n 230 rfl (show sCode 275 229 = some (.iload_n 3, 1) by decide +kernel) rfl ?_
  refine q_iconst 231 rfl (show sCode 275 230 = some (.iconst 1, 1) by decide +kernel) ⟨by decide, by decide⟩ ?_
  refine q_icmpne 239 234 rfl (by decide) (show sCode 275 231 = some (.if_icmp .ne 8, 3) by decide +kernel) ?_ ?_
  · intro q; refine q_forget (L' := [vN, vN, vN, vN, vN, vN, vN, vI x7, vI x8, vN, vN, vN]) 3 rfl ?_; refine q_forget (L' := [vN, vN, vN, vN, vN, vN, vN, vN, vI x8, vN, vN, vN]) 7 rfl ?_; exact k1 q
  · intro q; refine q_forget (L' := [vN, vN, vN, vN, vN, vN, vN, vI x7, vI x8, vN, vN, vN]) 3 rfl ?_; refine q_forget (L' := [vN, vN, vN, vN, vN, vN, vN, vI x7, vN, vN, vN, vN]) 8 rfl ?_; exact k2 q
theorem b275_234 {d : Nat} {Q : Option sV → sM → sG → Prop} {M : sM} {G : sG} {x7 : Int}  (kk : sW (sC d) 275 Q 241 [vN, vN, vN, vN, vN, vN, vN, vN, vN, vN, vN, vN] [vI x7] M G 0 0) : sW (sC d) 275 Q 234 [vN, vN, vN, vN, vN, vN, vN, vI x7, vN, vN, vN, vN] [] M G 0 0 := by
  refine q_iload 236 rfl (show sCode 275 234 = some (.iload 7, 2) by decide +kernel) rfl ?_
  refine q_goto 241 (by decide) (show sCode 275 236 = some (.goto 5, 3) by decide +kernel) ?_
  refine q_forget (L' := [vN, vN, vN, vN, vN, vN, vN, vN, vN, vN, vN, vN]) 7 rfl ?_
  exact kk
theorem b275_239 {d : Nat} {Q : Option sV → sM → sG → Prop} {M : sM} {G : sG} {x8 : Int}  (kk : sW (sC d) 275 Q 241 [vN, vN, vN, vN, vN, vN, vN, vN, vN, vN, vN, vN] [vI x8] M G 0 0) : sW (sC d) 275 Q 239 [vN, vN, vN, vN, vN, vN, vN, vN, vI x8, vN, vN, vN] [] M G 0 0 := by
  refine q_iload 241 rfl (show sCode 275 239 = some (.iload 8, 2) by decide +kernel) rfl ?_
  refine q_forget (L' := [vN, vN, vN, vN, vN, vN, vN, vN, vN, vN, vN, vN]) 8 rfl ?_
  exact kk
theorem b275_241 {d : Nat} {P : Int → sM → sG → Prop} {M : sM} {G : sG} {s0 : Int}  (kk : P s0 M G) : sW (sC d) 275 (QI P) 241 [vN, vN, vN, vN, vN, vN, vN, vN, vN, vN, vN, vN] [vI s0] M G 0 0 := by
  exact q_iret (show sCode 275 241 = some (.ireturn, 1) by decide +kernel) (by decide +kernel) (by decide +kernel) kk
-- 276 AfterTheLastModel.count (I)I
theorem b276_0 {d : Nat} {Q : Option sV → sM → sG → Prop} {M : sM} {G : sG} {a0 : Nat} {x1 : Int}  (kd : x1 < 0 ∨ 13 < x1 → sW (sC d) 276 Q 174 [vN, vN, vN, vN] [] M G 0 0) (k0 : x1 = 0 → sW (sC d) 276 Q 72 [vO 12 a0, vI x1, vN, vN] [] M G 0 0) (k1 : x1 = 1 → sW (sC d) 276 Q 72 [vO 12 a0, vI x1, vN, vN] [] M G 0 0) (k2 : x1 = 2 → sW (sC d) 276 Q 79 [vO 12 a0, vN, vN, vN] [] M G 0 0) (k3 : x1 = 3 → sW (sC d) 276 Q 84 [vO 12 a0, vN, vN, vN] [] M G 0 0) (k4 : x1 = 4 → sW (sC d) 276 Q 91 [vO 12 a0, vN, vN, vN] [] M G 0 0) (k5 : x1 = 5 → sW (sC d) 276 Q 98 [vO 12 a0, vN, vN, vN] [] M G 0 0) (k6 : x1 = 6 → sW (sC d) 276 Q 103 [vO 12 a0, vN, vI 0, vN] [] M G 0 0) (k7 : x1 = 7 → sW (sC d) 276 Q 155 [vO 12 a0, vN, vN, vN] [] M G 0 0) (k8 : x1 = 8 → sW (sC d) 276 Q 160 [vO 12 a0, vI x1, vN, vN] [] M G 0 0) (k9 : x1 = 9 → sW (sC d) 276 Q 160 [vO 12 a0, vI x1, vN, vN] [] M G 0 0) (k10 : x1 = 10 → sW (sC d) 276 Q 160 [vO 12 a0, vI x1, vN, vN] [] M G 0 0) (k11 : x1 = 11 → sW (sC d) 276 Q 160 [vO 12 a0, vI x1, vN, vN] [] M G 0 0) (k12 : x1 = 12 → sW (sC d) 276 Q 160 [vO 12 a0, vI x1, vN, vN] [] M G 0 0) (k13 : x1 = 13 → sW (sC d) 276 Q 169 [vO 12 a0, vN, vN, vN] [] M G 0 0) : sW (sC d) 276 Q 0 [vO 12 a0, vI x1, vN, vN] [] M G 0 0 := by
  refine q_iconst 1 rfl (show sCode 276 0 = some (.iconst 0, 1) by decide +kernel) ⟨by decide, by decide⟩ ?_
  refine q_istore_n [vO 12 a0, vI x1, vI 0, vN] 2 rfl (show sCode 276 1 = some (.istore_n 2, 1) by decide +kernel) (Nat.lt_of_lt_of_le (Nat.lt_succ_self _) (Nat.le_of_ble_eq_true rfl)) rfl rfl ?_
  refine q_iload_n 3 rfl (show sCode 276 2 = some (.iload_n 1, 1) by decide +kernel) rfl ?_
  refine q_switch (show sCode 276 3 = some (.tableswitch 171 0 13 #[69, 69, 76, 81, 88, 95, 100, 152, 157, 157, 157, 157, 157, 166], 69) by decide +kernel) (fun q => ⟨174, by decide, ?_⟩) (fun q1 q2 => ?_)
  · refine q_forget (L' := [vN, vI x1, vI 0, vN]) 0 rfl ?_; refine q_forget (L' := [vN, vN, vI 0, vN]) 1 rfl ?_; refine q_forget (L' := [vN, vN, vN, vN]) 2 rfl ?_; exact kd q
  · have q3 : x1 = 0 ∨ x1 = 1 ∨ x1 = 2 ∨ x1 = 3 ∨ x1 = 4 ∨ x1 = 5 ∨ x1 = 6 ∨ x1 = 7 ∨ x1 = 8 ∨ x1 = 9 ∨ x1 = 10 ∨ x1 = 11 ∨ x1 = 12 ∨ x1 = 13 := by omega
    rcases q3 with q | q | q | q | q | q | q | q | q | q | q | q | q | q
    · refine ⟨69, 72, by rw [q]; rfl, by decide, ?_⟩; refine q_forget (L' := [vO 12 a0, vI x1, vN, vN]) 2 rfl ?_; exact k0 q
    · refine ⟨69, 72, by rw [q]; rfl, by decide, ?_⟩; refine q_forget (L' := [vO 12 a0, vI x1, vN, vN]) 2 rfl ?_; exact k1 q
    · refine ⟨76, 79, by rw [q]; rfl, by decide, ?_⟩; refine q_forget (L' := [vO 12 a0, vN, vI 0, vN]) 1 rfl ?_; refine q_forget (L' := [vO 12 a0, vN, vN, vN]) 2 rfl ?_; exact k2 q
    · refine ⟨81, 84, by rw [q]; rfl, by decide, ?_⟩; refine q_forget (L' := [vO 12 a0, vN, vI 0, vN]) 1 rfl ?_; refine q_forget (L' := [vO 12 a0, vN, vN, vN]) 2 rfl ?_; exact k3 q
    · refine ⟨88, 91, by rw [q]; rfl, by decide, ?_⟩; refine q_forget (L' := [vO 12 a0, vN, vI 0, vN]) 1 rfl ?_; refine q_forget (L' := [vO 12 a0, vN, vN, vN]) 2 rfl ?_; exact k4 q
    · refine ⟨95, 98, by rw [q]; rfl, by decide, ?_⟩; refine q_forget (L' := [vO 12 a0, vN, vI 0, vN]) 1 rfl ?_; refine q_forget (L' := [vO 12 a0, vN, vN, vN]) 2 rfl ?_; exact k5 q
    · refine ⟨100, 103, by rw [q]; rfl, by decide, ?_⟩; refine q_forget (L' := [vO 12 a0, vN, vI 0, vN]) 1 rfl ?_; exact k6 q
    · refine ⟨152, 155, by rw [q]; rfl, by decide, ?_⟩; refine q_forget (L' := [vO 12 a0, vN, vI 0, vN]) 1 rfl ?_; refine q_forget (L' := [vO 12 a0, vN, vN, vN]) 2 rfl ?_; exact k7 q
    · refine ⟨157, 160, by rw [q]; rfl, by decide, ?_⟩; refine q_forget (L' := [vO 12 a0, vI x1, vN, vN]) 2 rfl ?_; exact k8 q
    · refine ⟨157, 160, by rw [q]; rfl, by decide, ?_⟩; refine q_forget (L' := [vO 12 a0, vI x1, vN, vN]) 2 rfl ?_; exact k9 q
    · refine ⟨157, 160, by rw [q]; rfl, by decide, ?_⟩; refine q_forget (L' := [vO 12 a0, vI x1, vN, vN]) 2 rfl ?_; exact k10 q
    · refine ⟨157, 160, by rw [q]; rfl, by decide, ?_⟩; refine q_forget (L' := [vO 12 a0, vI x1, vN, vN]) 2 rfl ?_; exact k11 q
    · refine ⟨157, 160, by rw [q]; rfl, by decide, ?_⟩; refine q_forget (L' := [vO 12 a0, vI x1, vN, vN]) 2 rfl ?_; exact k12 q
    · refine ⟨166, 169, by rw [q]; rfl, by decide, ?_⟩; refine q_forget (L' := [vO 12 a0, vN, vI 0, vN]) 1 rfl ?_; refine q_forget (L' := [vO 12 a0, vN, vN, vN]) 2 rfl ?_; exact k13 q
theorem b276_72 {d : Nat} {P : Int → sM → sG → Prop} {M : sM} {G : sG} {a0 : Nat} {x1 : Int} (h1 : 0 ≤ x1 ∧ x1 < 274) (kk : P (M (a0 + 11) x1.toNat) M G) : sW (sC d) 276 (QI P) 72 [vO 12 a0, vI x1, vN, vN] [] M G 0 0 := by
  refine q_aload_n 73 rfl (show sCode 276 72 = some (.aload_n 0, 1) by decide +kernel) rfl (Nat.le_of_ble_eq_true rfl) ?_
  refine q_getR (vA 0 (a0 + 11) 274) 76 rfl (show sCode 276 73 = some (.getfield 42, 3) by decide +kernel) (show sFR (sKo 276).1 42 = some (12, 23) by decide +kernel) (by decide +kernel) (Or.inl (Or.inl rfl)) rfl ?_
  refine q_iload_n 77 rfl (show sCode 276 76 = some (.iload_n 1, 1) by decide +kernel) rfl ?_
  refine q_iald 78 rfl (show sCode 276 77 = some (.iaload, 1) by decide +kernel) h1 ?_
  exact q_iret (show sCode 276 78 = some (.ireturn, 1) by decide +kernel) (by decide +kernel) (by decide +kernel) kk
theorem b276_79 {d : Nat} {P : Int → sM → sG → Prop} {M : sM} {G : sG} {a0 : Nat}  (kk : P (M a0 2) M G) : sW (sC d) 276 (QI P) 79 [vO 12 a0, vN, vN, vN] [] M G 0 0 := by
  refine q_aload_n 80 rfl (show sCode 276 79 = some (.aload_n 0, 1) by decide +kernel) rfl (Nat.le_of_ble_eq_true rfl) ?_
  refine q_getI 83 rfl (show sCode 276 80 = some (.getfield 252, 3) by decide +kernel) (show sFR (sKo 276).1 252 = some (12, 2) by decide +kernel) (by decide +kernel) (Or.inl (Or.inl rfl)) ?_
  exact q_iret (show sCode 276 83 = some (.ireturn, 1) by decide +kernel) (by decide +kernel) (by decide +kernel) kk
theorem b276_84 {d : Nat} {P : Int → sM → sG → Prop} {M : sM} {G : sG} {a0 : Nat}  (kk : P (M (a0 + 11) 2) M G) : sW (sC d) 276 (QI P) 84 [vO 12 a0, vN, vN, vN] [] M G 0 0 := by
  refine q_aload_n 85 rfl (show sCode 276 84 = some (.aload_n 0, 1) by decide +kernel) rfl (Nat.le_of_ble_eq_true rfl) ?_
  refine q_getR (vA 0 (a0 + 11) 274) 88 rfl (show sCode 276 85 = some (.getfield 42, 3) by decide +kernel) (show sFR (sKo 276).1 42 = some (12, 23) by decide +kernel) (by decide +kernel) (Or.inl (Or.inl rfl)) rfl ?_
  refine q_iconst 89 rfl (show sCode 276 88 = some (.iconst 2, 1) by decide +kernel) ⟨by decide, by decide⟩ ?_
  refine q_iald 90 rfl (show sCode 276 89 = some (.iaload, 1) by decide +kernel) ⟨by decide, by decide⟩ ?_
  exact q_iret (show sCode 276 90 = some (.ireturn, 1) by decide +kernel) (by decide +kernel) (by decide +kernel) kk
theorem b276_91 {d : Nat} {P : Int → sM → sG → Prop} {M : sM} {G : sG} {a0 : Nat}  (kk : P (M (a0 + 11) 3) M G) : sW (sC d) 276 (QI P) 91 [vO 12 a0, vN, vN, vN] [] M G 0 0 := by
  refine q_aload_n 92 rfl (show sCode 276 91 = some (.aload_n 0, 1) by decide +kernel) rfl (Nat.le_of_ble_eq_true rfl) ?_
  refine q_getR (vA 0 (a0 + 11) 274) 95 rfl (show sCode 276 92 = some (.getfield 42, 3) by decide +kernel) (show sFR (sKo 276).1 42 = some (12, 23) by decide +kernel) (by decide +kernel) (Or.inl (Or.inl rfl)) rfl ?_
  refine q_iconst 96 rfl (show sCode 276 95 = some (.iconst 3, 1) by decide +kernel) ⟨by decide, by decide⟩ ?_
  refine q_iald 97 rfl (show sCode 276 96 = some (.iaload, 1) by decide +kernel) ⟨by decide, by decide⟩ ?_
  exact q_iret (show sCode 276 97 = some (.ireturn, 1) by decide +kernel) (by decide +kernel) (by decide +kernel) kk
theorem b276_98 {d : Nat} {Q : Option sV → sM → sG → Prop} {M : sM} {G : sG} {a0 : Nat}  (kk : sC d 234 [vO 12 a0] M G (QI (fun r M1 G1 => sW (sC d) 276 Q 102 [vN, vN, vN, vN] (vI r :: []) M1 G1 0 0))) : sW (sC d) 276 Q 98 [vO 12 a0, vN, vN, vN] [] M G 0 0 := by
  refine q_aload_n 99 rfl (show sCode 276 98 = some (.aload_n 0, 1) by decide +kernel) rfl (Nat.le_of_ble_eq_true rfl) ?_
  refine q_forget (L' := [vN, vN, vN, vN]) 0 rfl ?_
  exact q_virtI [] 102 rfl (show sCode 276 99 = some (.invokevirtual 353, 3) by decide +kernel) (show sMR (sKo 276).1 353 = some 234 by decide +kernel) (show 234 < 1000 ∧ sStat 234 = false ∧ sIni 234 = false ∧ sKo 234 = (12, 0, 1, 0, 0) by decide +kernel) rfl (Or.inl rfl) rfl (Nat.le_of_ble_eq_true rfl) rfl rfl rfl (by decide +kernel) kk
theorem b276_102 {d : Nat} {P : Int → sM → sG → Prop} {M : sM} {G : sG} {s0 : Int}  (kk : P s0 M G) : sW (sC d) 276 (QI P) 102 [vN, vN, vN, vN] [vI s0] M G 0 0 := by
  exact q_iret (show sCode 276 102 = some (.ireturn, 1) by decide +kernel) (by decide +kernel) (by decide +kernel) kk
theorem b276_103 {d : Nat} {Q : Option sV → sM → sG → Prop} {M : sM} {G : sG} {a0 : Nat} {x2 : Int}  (kk : sW (sC d) 276 Q 105 [vO 12 a0, vN, vI x2, vI 0] [] M G 0 0) : sW (sC d) 276 Q 103 [vO 12 a0, vN, vI x2, vN] [] M G 0 0 := by
  refine q_iconst 104 rfl (show sCode 276 103 = some (.iconst 0, 1) by decide +kernel) ⟨by decide, by decide⟩ ?_
  refine q_istore_n [vO 12 a0, vN, vI x2, vI 0] 105 rfl (show sCode 276 104 = some (.istore_n 3, 1) by decide +kernel) (Nat.lt_of_lt_of_le (Nat.lt_succ_self _) (Nat.le_of_ble_eq_true rfl)) rfl rfl ?_
  exact kk
theorem b276_105 {d : Nat} {Q : Option sV → sM → sG → Prop} {M : sM} {G : sG} {a0 : Nat} {x2 : Int} {x3 : Int}  (k1 : M (a0 + 11) 1 ≤ x3 → sW (sC d) 276 Q 153 [vN, vN, vI x2, vN] [] M G 0 0) (k2 : x3 < M (a0 + 11) 1 → sW (sC d) 276 Q 115 [vO 12 a0, vN, vI x2, vI x3] [] M G 0 0) : sW (sC d) 276 Q 105 [vO 12 a0, vN, vI x2, vI x3] [] M G 0 0 := by
  refine q_iload_n 106 rfl (show sCode 276 105 = some (.iload_n 3, 1) by decide +kernel) rfl ?_
  refine q_aload_n 107 rfl (show sCode 276 106 = some (.aload_n 0, 1) by decide +kernel) rfl (Nat.le_of_ble_eq_true rfl) ?_
  refine q_getR (vA 0 (a0 + 11) 274) 110 rfl (show sCode 276 107 = some (.getfield 42, 3) by decide +kernel) (show sFR (sKo 276).1 42 = some (12, 23) by decide +kernel) (by decide +kernel) (Or.inl (Or.inl rfl)) rfl ?_
  refine q_iconst 111 rfl (show sCode 276 110 = some (.iconst 1, 1) by decide +kernel) ⟨by decide, by decide⟩ ?_
  refine q_iald 112 rfl (show sCode 276 111 = some (.iaload, 1) by decide +kernel) ⟨by decide, by decide⟩ ?_
  refine q_icmpge 153 115 rfl (by decide) (show sCode 276 112 = some (.if_icmp .ge 41, 3) by decide +kernel) ?_ ?_
  · intro q; refine q_forget (L' := [vN, vN, vI x2, vI x3]) 0 rfl ?_; refine q_forget (L' := [vN, vN, vI x2, vN]) 3 rfl ?_; exact k1 q
  · intro q; exact k2 q
theorem b276_115 {d : Nat} {Q : Option sV → sM → sG → Prop} {M : sM} {G : sG} {a0 : Nat} {x2 : Int} {x3 : Int}  (kk : sC d 209 [vO 12 a0, vI x3, vI 5] M G (QI (fun r M1 G1 => sW (sC d) 276 Q 122 [vO 12 a0, vN, vN, vI x3] (vI r :: [vI x2]) M1 G1 0 0))) : sW (sC d) 276 Q 115 [vO 12 a0, vN, vI x2, vI x3] [] M G 0 0 := by
  refine q_iload_n 116 rfl (show sCode 276 115 = some (.iload_n 2, 1) by decide +kernel) rfl ?_
  refine q_aload_n 117 rfl (show sCode 276 116 = some (.aload_n 0, 1) by decide +kernel) rfl (Nat.le_of_ble_eq_true rfl) ?_
  refine q_iload_n 118 rfl (show sCode 276 117 = some (.iload_n 3, 1) by decide +kernel) rfl ?_
  refine q_iconst 119 rfl (show sCode 276 118 = some (.iconst 5, 1) by decide +kernel) ⟨by decide, by decide⟩ ?_
  refine q_forget (L' := [vO 12 a0, vN, vN, vI x3]) 2 rfl ?_
  exact q_virtI [vI x3, vI 5] 122 rfl (show sCode 276 119 = some (.invokevirtual 302, 3) by decide +kernel) (show sMR (sKo 276).1 302 = some 209 by decide +kernel) (show 209 < 1000 ∧ sStat 209 = false ∧ sIni 209 = false ∧ sKo 209 = (12, 2, 1, 0, 0) by decide +kernel) rfl (Or.inl rfl) rfl (Nat.le_of_ble_eq_true rfl) rfl rfl rfl (by decide +kernel) kk
theorem b276_122 {d : Nat} {Q : Option sV → sM → sG → Prop} {M : sM} {G : sG} {a0 : Nat} {x3 : Int} {s0 : Int} {s1 : Int}  (k1 : s0 ≠ 0 → sW (sC d) 276 Q 144 [vO 12 a0, vN, vN, vI x3] [vI s1] M G 0 0) (k2 : s0 = 0 → sW (sC d) 276 Q 125 [vO 12 a0, vN, vN, vI x3] [vI s1] M G 0 0) : sW (sC d) 276 Q 122 [vO 12 a0, vN, vN, vI x3] [vI s0, vI s1] M G 0 0 := by
  refine q_ifne 144 125 rfl (by decide) (show sCode 276 122 = some (.ifCond .ne 22, 3) by decide +kernel) ?_ ?_
  · intro q; exact k1 q
  · intro q; exact k2 q
theorem b276_125 {d : Nat} {Q : Option sV → sM → sG → Prop} {M : sM} {G : sG} {a0 : Nat} {x3 : Int} {s0 : Int}  (kk : sC d 209 [vO 12 a0, vI x3, vI 3] M G (QI (fun r M1 G1 => sW (sC d) 276 Q 131 [vO 12 a0, vN, vN, vI x3] (vI r :: [vI s0]) M1 G1 0 0))) : sW (sC d) 276 Q 125 [vO 12 a0, vN, vN, vI x3] [vI s0] M G 0 0 := by
  refine q_aload_n 126 rfl (show sCode 276 125 = some (.aload_n 0, 1) by decide +kernel) rfl (Nat.le_of_ble_eq_true rfl) ?_
  refine q_iload_n 127 rfl (show sCode 276 126 = some (.iload_n 3, 1) by decide +kernel) rfl ?_
  refine q_iconst 128 rfl (show sCode 276 127 = some (.iconst 3, 1) by decide +kernel) ⟨by decide, by decide⟩ ?_
  exact q_virtI [vI x3, vI 3] 131 rfl (show sCode 276 128 = some (.invokevirtual 302, 3) by decide +kernel) (show sMR (sKo 276).1 302 = some 209 by decide +kernel) (show 209 < 1000 ∧ sStat 209 = false ∧ sIni 209 = false ∧ sKo 209 = (12, 2, 1, 0, 0) by decide +kernel) rfl (Or.inl rfl) rfl (Nat.le_of_ble_eq_true rfl) rfl rfl rfl (by decide +kernel) kk
theorem b276_131 {d : Nat} {Q : Option sV → sM → sG → Prop} {M : sM} {G : sG} {a0 : Nat} {x3 : Int} {s0 : Int} {s1 : Int}  (k1 : M (a0 + 11) 2 < s0 → sW (sC d) 276 Q 144 [vO 12 a0, vN, vN, vI x3] [vI s1] M G 0 0) (k2 : s0 ≤ M (a0 + 11) 2 → sW (sC d) 276 Q 140 [vO 12 a0, vN, vN, vI x3] [vI s1] M G 0 0) : sW (sC d) 276 Q 131 [vO 12 a0, vN, vN, vI x3] [vI s0, vI s1] M G 0 0 := by
  refine q_aload_n 132 rfl (show sCode 276 131 = some (.aload_n 0, 1) by decide +kernel) rfl (Nat.le_of_ble_eq_true rfl) ?_
  refine q_getR (vA 0 (a0 + 11) 274) 135 rfl (show sCode 276 132 = some (.getfield 42, 3) by decide +kernel) (show sFR (sKo 276).1 42 = some (12, 23) by decide +kernel) (by decide +kernel) (Or.inl (Or.inl rfl)) rfl ?_
  refine q_iconst 136 rfl (show sCode 276 135 = some (.iconst 2, 1) by decide +kernel) ⟨by decide, by decide⟩ ?_
  refine q_iald 137 rfl (show sCode 276 136 = some (.iaload, 1) by decide +kernel) ⟨by decide, by decide⟩ ?_
  refine q_icmpgt 144 140 rfl (by decide) (show sCode 276 137 = some (.if_icmp .gt 7, 3) by decide +kernel) ?_ ?_
  · intro q; exact k1 q
  · intro q; exact k2 q
theorem b276_140 {d : Nat} {Q : Option sV → sM → sG → Prop} {M : sM} {G : sG} {a0 : Nat} {x3 : Int} {s0 : Int}  (kk : sW (sC d) 276 Q 145 [vO 12 a0, vN, vN, vI x3] [vI 1, vI s0] M G 0 0) : sW (sC d) 276 Q 140 [vO 12 a0, vN, vN, vI x3] [vI s0] M G 0 0 := by
  refine q_iconst 141 rfl (show sCode 276 140 = some (.iconst 1, 1) by decide +kernel) ⟨by decide, by decide⟩ ?_
  refine q_goto 145 (by decide) (show sCode 276 141 = some (.goto 4, 3) by decide +kernel) ?_
  exact kk
theorem b276_144 {d : Nat} {Q : Option sV → sM → sG → Prop} {M : sM} {G : sG} {a0 : Nat} {x3 : Int} {s0 : Int}  (kk : sW (sC d) 276 Q 145 [vO 12 a0, vN, vN, vI x3] [vI 0, vI s0] M G 0 0) : sW (sC d) 276 Q 144 [vO 12 a0, vN, vN, vI x3] [vI s0] M G 0 0 := by
  refine q_iconst 145 rfl (show sCode 276 144 = some (.iconst 0, 1) by decide +kernel) ⟨by decide, by decide⟩ ?_
  exact kk
theorem b276_145 {d : Nat} {Q : Option sV → sM → sG → Prop} {M : sM} {G : sG} {a0 : Nat} {x3 : Int} {s0 : Int} {s1 : Int} (h1 : sI (s1 + s0)) (h2 : sI (x3 + 1)) (kk : sW (sC d) 276 Q 105 [vO 12 a0, vN, vI (s1 + s0), vI (x3 + 1)] [] M G 0 0) : sW (sC d) 276 Q 145 [vO 12 a0, vN, vN, vI x3] [vI s0, vI s1] M G 0 0 := by
  refine q_iadd 146 rfl (show sCode 276 145 = some (.iadd, 1) by decide +kernel) h1 ?_
  refine q_istore_n [vO 12 a0, vN, vI (s1 + s0), vI x3] 147 rfl (show sCode 276 146 = some (.istore_n 2, 1) by decide +kernel) (Nat.lt_of_lt_of_le (Nat.lt_succ_self _) (Nat.le_of_ble_eq_true rfl)) rfl rfl ?_
  refine q_iinc [vO 12 a0, vN, vI (s1 + s0), vI (x3 + 1)] 150 rfl (show sCode 276 147 = some (.iinc 3 1, 3) by decide +kernel) rfl rfl h2 rfl ?_
  refine q_goto 105 (by decide) (show sCode 276 150 = some (.goto (-45), 3) by decide +kernel) ?_
  exact kk
theorem b276_153 {d : Nat} {P : Int → sM → sG → Prop} {M : sM} {G : sG} {x2 : Int}  (kk : P x2 M G) : sW (sC d) 276 (QI P) 153 [vN, vN, vI x2, vN] [] M G 0 0 := by
  refine q_iload_n 154 rfl (show sCode 276 153 = some (.iload_n 2, 1) by decide +kernel) rfl ?_
  exact q_iret (show sCode 276 154 = some (.ireturn, 1) by decide +kernel) (by decide +kernel) (by decide +kernel) kk
theorem b276_155 {d : Nat} {Q : Option sV → sM → sG → Prop} {M : sM} {G : sG} {a0 : Nat}  (kk : sC d 233 [vO 12 a0] M G (QI (fun r M1 G1 => sW (sC d) 276 Q 159 [vN, vN, vN, vN] (vI r :: []) M1 G1 0 0))) : sW (sC d) 276 Q 155 [vO 12 a0, vN, vN, vN] [] M G 0 0 := by
  refine q_aload_n 156 rfl (show sCode 276 155 = some (.aload_n 0, 1) by decide +kernel) rfl (Nat.le_of_ble_eq_true rfl) ?_
  refine q_forget (L' := [vN, vN, vN, vN]) 0 rfl ?_
  exact q_virtI [] 159 rfl (show sCode 276 156 = some (.invokevirtual 350, 3) by decide +kernel) (show sMR (sKo 276).1 350 = some 233 by decide +kernel) (show 233 < 1000 ∧ sStat 233 = false ∧ sIni 233 = false ∧ sKo 233 = (12, 0, 1, 0, 0) by decide +kernel) rfl (Or.inl rfl) rfl (Nat.le_of_ble_eq_true rfl) rfl rfl rfl (by decide +kernel) kk
theorem b276_159 {d : Nat} {P : Int → sM → sG → Prop} {M : sM} {G : sG} {s0 : Int}  (kk : P s0 M G) : sW (sC d) 276 (QI P) 159 [vN, vN, vN, vN] [vI s0] M G 0 0 := by
  exact q_iret (show sCode 276 159 = some (.ireturn, 1) by decide +kernel) (by decide +kernel) (by decide +kernel) kk
theorem b276_160 {d : Nat} {P : Int → sM → sG → Prop} {M : sM} {G : sG} {a0 : Nat} {x1 : Int} (h1 : sI (x1 - 3)) (h2 : 0 ≤ x1 - 3 ∧ x1 - 3 < 274) (kk : P (M (a0 + 11) (x1 - 3).toNat) M G) : sW (sC d) 276 (QI P) 160 [vO 12 a0, vI x1, vN, vN] [] M G 0 0 := by
  refine q_aload_n 161 rfl (show sCode 276 160 = some (.aload_n 0, 1) by decide +kernel) rfl (Nat.le_of_ble_eq_true rfl) ?_
  refine q_getR (vA 0 (a0 + 11) 274) 164 rfl (show sCode 276 161 = some (.getfield 42, 3) by decide +kernel) (show sFR (sKo 276).1 42 = some (12, 23) by decide +kernel) (by decide +kernel) (Or.inl (Or.inl rfl)) rfl ?_
  refine q_iload_n 165 rfl (show sCode 276 164 = some (.iload_n 1, 1) by decide +kernel) rfl ?_
  refine q_iconst 166 rfl (show sCode 276 165 = some (.iconst 3, 1) by decide +kernel) ⟨by decide, by decide⟩ ?_
  refine q_isub 167 rfl (show sCode 276 166 = some (.isub, 1) by decide +kernel) h1 ?_
  refine q_iald 168 rfl (show sCode 276 167 = some (.iaload, 1) by decide +kernel) h2 ?_
  exact q_iret (show sCode 276 168 = some (.ireturn, 1) by decide +kernel) (by decide +kernel) (by decide +kernel) kk
theorem b276_169 {d : Nat} {P : Int → sM → sG → Prop} {M : sM} {G : sG} {a0 : Nat}  (kk : P (M a0 1) M G) : sW (sC d) 276 (QI P) 169 [vO 12 a0, vN, vN, vN] [] M G 0 0 := by
  refine q_aload_n 170 rfl (show sCode 276 169 = some (.aload_n 0, 1) by decide +kernel) rfl (Nat.le_of_ble_eq_true rfl) ?_
  refine q_getI 173 rfl (show sCode 276 170 = some (.getfield 88, 3) by decide +kernel) (show sFR (sKo 276).1 88 = some (12, 1) by decide +kernel) (by decide +kernel) (Or.inl (Or.inl rfl)) ?_
  exact q_iret (show sCode 276 173 = some (.ireturn, 1) by decide +kernel) (by decide +kernel) (by decide +kernel) kk
theorem b276_174 {d : Nat} {P : Int → sM → sG → Prop} {M : sM} {G : sG}   (kk : P (-1) M G) : sW (sC d) 276 (QI P) 174 [vN, vN, vN, vN] [] M G 0 0 := by
  refine q_iconst 175 rfl (show sCode 276 174 = some (.iconst (-1), 1) by decide +kernel) ⟨by decide, by decide⟩ ?_
  exact q_iret (show sCode 276 175 = some (.ireturn, 1) by decide +kernel) (by decide +kernel) (by decide +kernel) kk
-- 277 AfterTheLastModel.image (I)I
theorem b277_0 {d : Nat} {Q : Option sV → sM → sG → Prop} {M : sM} {G : sG} {a0 : Nat} {x1 : Int}  (kk : sC d 183 [vL x1, vL 0, vL 3] M G (QI (fun r M1 G1 => sW (sC d) 277 Q 9 [vO 12 a0, vI x1, vN] (vI r :: []) M1 G1 0 0))) : sW (sC d) 277 Q 0 [vO 12 a0, vI x1, vN] [] M G 0 0 := by
  refine q_iload_n 1 rfl (show sCode 277 0 = some (.iload_n 1, 1) by decide +kernel) rfl ?_
  refine q_i2l 2 rfl (show sCode 277 1 = some (.i2l, 1) by decide +kernel) ?_
  refine q_lconst 3 rfl (show sCode 277 2 = some (.lconst 0, 1) by decide +kernel) ?_
  refine q_ldc2_w 6 rfl (show sCode 277 3 = some (.ldc2_w 345, 3) by decide +kernel) (show sLR (sKo 277).1 345 = some 3 by decide +kernel) ⟨by decide, by decide⟩ ?_
  exact q_statI [vL x1, vL 0, vL 3] 9 rfl (show sCode 277 6 = some (.invokestatic 127, 3) by decide +kernel) (show sMR (sKo 277).1 127 = some 183 by decide +kernel) (show 183 < 1000 ∧ sStat 183 = true ∧ sKo 183 = (12, 3, 2, 0, 0) by decide +kernel) rfl rfl (Nat.le_of_ble_eq_true rfl) rfl rfl rfl (by decide +kernel) kk
theorem b277_9 {d : Nat} {Q : Option sV → sM → sG → Prop} {M : sM} {G : sG} {a0 : Nat} {x1 : Int} {s0 : Int}  (k1 : s0 ≠ 0 → sW (sC d) 277 Q 14 [vO 12 a0, vI x1, vN] [] M G 0 0) (k2 : s0 = 0 → sW (sC d) 277 Q 12 [vN, vN, vN] [] M G 0 0) : sW (sC d) 277 Q 9 [vO 12 a0, vI x1, vN] [vI s0] M G 0 0 := by
  refine q_ifne 14 12 rfl (by decide) (show sCode 277 9 = some (.ifCond .ne 5, 3) by decide +kernel) ?_ ?_
  · intro q; exact k1 q
  · intro q; refine q_forget (L' := [vN, vI x1, vN]) 0 rfl ?_; refine q_forget (L' := [vN, vN, vN]) 1 rfl ?_; exact k2 q
theorem b277_12 {d : Nat} {P : Int → sM → sG → Prop} {M : sM} {G : sG}   (kk : P (-1) M G) : sW (sC d) 277 (QI P) 12 [vN, vN, vN] [] M G 0 0 := by
  refine q_iconst 13 rfl (show sCode 277 12 = some (.iconst (-1), 1) by decide +kernel) ⟨by decide, by decide⟩ ?_
  exact q_iret (show sCode 277 13 = some (.ireturn, 1) by decide +kernel) (by decide +kernel) (by decide +kernel) kk
theorem b277_14 {d : Nat} {Q : Option sV → sM → sG → Prop} {M : sM} {G : sG} {a0 : Nat} {x1 : Int} (h1 : 0 ≤ x1 ∧ x1 < 4) (kk : sW (sC d) 277 Q 23 [vO 12 a0, vI x1, vI 0] [] (sUpd M (a0 + 25) x1.toNat 1) G 0 0) : sW (sC d) 277 Q 14 [vO 12 a0, vI x1, vN] [] M G 0 0 := by
  refine q_aload_n 15 rfl (show sCode 277 14 = some (.aload_n 0, 1) by decide +kernel) rfl (Nat.le_of_ble_eq_true rfl) ?_
  refine q_getR (vA 3 (a0 + 25) 4) 18 rfl (show sCode 277 15 = some (.getfield 84, 3) by decide +kernel) (show sFR (sKo 277).1 84 = some (12, 37) by decide +kernel) (by decide +kernel) (Or.inl (Or.inl rfl)) rfl ?_
  refine q_iload_n 19 rfl (show sCode 277 18 = some (.iload_n 1, 1) by decide +kernel) rfl ?_
  refine q_iconst 20 rfl (show sCode 277 19 = some (.iconst 1, 1) by decide +kernel) ⟨by decide, by decide⟩ ?_
  refine q_zast 21 rfl (show sCode 277 20 = some (.bastore, 1) by decide +kernel) h1 (by decide) ?_
  refine q_iconst 22 rfl (show sCode 277 21 = some (.iconst 0, 1) by decide +kernel) ⟨by decide, by decide⟩ ?_
  refine q_istore_n [vO 12 a0, vI x1, vI 0] 23 rfl (show sCode 277 22 = some (.istore_n 2, 1) by decide +kernel) (Nat.lt_of_lt_of_le (Nat.lt_succ_self _) (Nat.le_of_ble_eq_true rfl)) rfl rfl ?_
  exact kk
theorem b277_23 {d : Nat} {Q : Option sV → sM → sG → Prop} {M : sM} {G : sG} {a0 : Nat} {x1 : Int} {x2 : Int}  (k1 : 274 ≤ x2 → sW (sC d) 277 Q 54 [vO 12 a0, vN, vN] [] M G 0 0) (k2 : x2 < 274 → sW (sC d) 277 Q 30 [vO 12 a0, vI x1, vI x2] [] M G 0 0) : sW (sC d) 277 Q 23 [vO 12 a0, vI x1, vI x2] [] M G 0 0 := by
  refine q_iload_n 24 rfl (show sCode 277 23 = some (.iload_n 2, 1) by decide +kernel) rfl ?_
  refine q_sipush 27 rfl (show sCode 277 24 = some (.sipush 274, 3) by decide +kernel) ⟨by decide, by decide⟩ (by decide +kernel) ?_
  refine q_icmpge 54 30 rfl (by decide) (show sCode 277 27 = some (.if_icmp .ge 27, 3) by decide +kernel) ?_ ?_
  · intro q; refine q_forget (L' := [vO 12 a0, vN, vI x2]) 1 rfl ?_; refine q_forget (L' := [vO 12 a0, vN, vN]) 2 rfl ?_; exact k1 q
  · intro q; exact k2 q
theorem b277_30 {d : Nat} {Q : Option sV → sM → sG → Prop} {M : sM} {G : sG} {a0 : Nat} {x1 : Int} {x2 : Int} (h1 : sI (274 * x1)) (h2 : sI ((274 * x1) + x2)) (h3 : 0 ≤ x2 ∧ x2 < 274) (h4 : 0 ≤ (274 * x1) + x2 ∧ (274 * x1) + x2 < 1096) (h5 : sI (x2 + 1)) (kk : sW (sC d) 277 Q 23 [vO 12 a0, vI x1, vI (x2 + 1)] [] (sUpd M (a0 + 24) ((274 * x1) + x2).toNat (M (a0 + 11) x2.toNat)) G 0 0) : sW (sC d) 277 Q 30 [vO 12 a0, vI x1, vI x2] [] M G 0 0 := by
  refine q_aload_n 31 rfl (show sCode 277 30 = some (.aload_n 0, 1) by decide +kernel) rfl (Nat.le_of_ble_eq_true rfl) ?_
  refine q_getR (vA 0 (a0 + 24) 1096) 34 rfl (show sCode 277 31 = some (.getfield 81, 3) by decide +kernel) (show sFR (sKo 277).1 81 = some (12, 36) by decide +kernel) (by decide +kernel) (Or.inl (Or.inl rfl)) rfl ?_
  refine q_sipush 37 rfl (show sCode 277 34 = some (.sipush 274, 3) by decide +kernel) ⟨by decide, by decide⟩ (by decide +kernel) ?_
  refine q_iload_n 38 rfl (show sCode 277 37 = some (.iload_n 1, 1) by decide +kernel) rfl ?_
  refine q_imul 39 rfl (show sCode 277 38 = some (.imul, 1) by decide +kernel) h1 ?_
  refine q_iload_n 40 rfl (show sCode 277 39 = some (.iload_n 2, 1) by decide +kernel) rfl ?_
  refine q_iadd 41 rfl (show sCode 277 40 = some (.iadd, 1) by decide +kernel) h2 ?_
  refine q_aload_n 42 rfl (show sCode 277 41 = some (.aload_n 0, 1) by decide +kernel) rfl (Nat.le_of_ble_eq_true rfl) ?_
  refine q_getR (vA 0 (a0 + 11) 274) 45 rfl (show sCode 277 42 = some (.getfield 42, 3) by decide +kernel) (show sFR (sKo 277).1 42 = some (12, 23) by decide +kernel) (by decide +kernel) (Or.inl (Or.inl rfl)) rfl ?_
  refine q_iload_n 46 rfl (show sCode 277 45 = some (.iload_n 2, 1) by decide +kernel) rfl ?_
  refine q_iald 47 rfl (show sCode 277 46 = some (.iaload, 1) by decide +kernel) h3 ?_
  refine q_iast 48 rfl (show sCode 277 47 = some (.iastore, 1) by decide +kernel) h4 ?_
  refine q_iinc [vO 12 a0, vI x1, vI (x2 + 1)] 51 rfl (show sCode 277 48 = some (.iinc 2 1, 3) by decide +kernel) rfl rfl h5 rfl ?_
  refine q_goto 23 (by decide) (show sCode 277 51 = some (.goto (-28), 3) by decide +kernel) ?_
  exact kk
theorem b277_54 {d : Nat} {P : Int → sM → sG → Prop} {M : sM} {G : sG} {a0 : Nat}  (kk : P (M (a0 + 11) 2) M G) : sW (sC d) 277 (QI P) 54 [vO 12 a0, vN, vN] [] M G 0 0 := by
  refine q_aload_n 55 rfl (show sCode 277 54 = some (.aload_n 0, 1) by decide +kernel) rfl (Nat.le_of_ble_eq_true rfl) ?_
  refine q_getR (vA 0 (a0 + 11) 274) 58 rfl (show sCode 277 55 = some (.getfield 42, 3) by decide +kernel) (show sFR (sKo 277).1 42 = some (12, 23) by decide +kernel) (by decide +kernel) (Or.inl (Or.inl rfl)) rfl ?_
  refine q_iconst 59 rfl (show sCode 277 58 = some (.iconst 2, 1) by decide +kernel) ⟨by decide, by decide⟩ ?_
  refine q_iald 60 rfl (show sCode 277 59 = some (.iaload, 1) by decide +kernel) ⟨by decide, by decide⟩ ?_
  exact q_iret (show sCode 277 60 = some (.ireturn, 1) by decide +kernel) (by decide +kernel) (by decide +kernel) kk
-- 278 AfterTheLastModel.back (I)I
theorem b278_0 {d : Nat} {Q : Option sV → sM → sG → Prop} {M : sM} {G : sG} {a0 : Nat} {x1 : Int}  (kk : sC d 183 [vL x1, vL 0, vL 3] M G (QI (fun r M1 G1 => sW (sC d) 278 Q 9 [vO 12 a0, vI x1, vN] (vI r :: []) M1 G1 0 0))) : sW (sC d) 278 Q 0 [vO 12 a0, vI x1, vN] [] M G 0 0 := by
  refine q_iload_n 1 rfl (show sCode 278 0 = some (.iload_n 1, 1) by decide +kernel) rfl ?_
  refine q_i2l 2 rfl (show sCode 278 1 = some (.i2l, 1) by decide +kernel) ?_
  refine q_lconst 3 rfl (show sCode 278 2 = some (.lconst 0, 1) by decide +kernel) ?_
  refine q_ldc2_w 6 rfl (show sCode 278 3 = some (.ldc2_w 345, 3) by decide +kernel) (show sLR (sKo 278).1 345 = some 3 by decide +kernel) ⟨by decide, by decide⟩ ?_
  exact q_statI [vL x1, vL 0, vL 3] 9 rfl (show sCode 278 6 = some (.invokestatic 127, 3) by decide +kernel) (show sMR (sKo 278).1 127 = some 183 by decide +kernel) (show 183 < 1000 ∧ sStat 183 = true ∧ sKo 183 = (12, 3, 2, 0, 0) by decide +kernel) rfl rfl (Nat.le_of_ble_eq_true rfl) rfl rfl rfl (by decide +kernel) kk
theorem b278_9 {d : Nat} {Q : Option sV → sM → sG → Prop} {M : sM} {G : sG} {a0 : Nat} {x1 : Int} {s0 : Int}  (k1 : s0 = 0 → sW (sC d) 278 Q 21 [vN, vN, vN] [] M G 0 0) (k2 : s0 ≠ 0 → sW (sC d) 278 Q 12 [vO 12 a0, vI x1, vN] [] M G 0 0) : sW (sC d) 278 Q 9 [vO 12 a0, vI x1, vN] [vI s0] M G 0 0 := by
  refine q_ifeq 21 12 rfl (by decide) (show sCode 278 9 = some (.ifCond .eq 12, 3) by decide +kernel) ?_ ?_
  · intro q; refine q_forget (L' := [vN, vI x1, vN]) 0 rfl ?_; refine q_forget (L' := [vN, vN, vN]) 1 rfl ?_; exact k1 q
  · intro q; exact k2 q
theorem b278_12 {d : Nat} {Q : Option sV → sM → sG → Prop} {M : sM} {G : sG} {a0 : Nat} {x1 : Int} (h1 : 0 ≤ x1 ∧ x1 < 4) (k1 : M (a0 + 25) x1.toNat ≠ 0 → sW (sC d) 278 Q 23 [vO 12 a0, vI x1, vN] [] M G 0 0) (k2 : M (a0 + 25) x1.toNat = 0 → sW (sC d) 278 Q 21 [vN, vN, vN] [] M G 0 0) : sW (sC d) 278 Q 12 [vO 12 a0, vI x1, vN] [] M G 0 0 := by
  refine q_aload_n 13 rfl (show sCode 278 12 = some (.aload_n 0, 1) by decide +kernel) rfl (Nat.le_of_ble_eq_true rfl) ?_
  refine q_getR (vA 3 (a0 + 25) 4) 16 rfl (show sCode 278 13 = some (.getfield 84, 3) by decide +kernel) (show sFR (sKo 278).1 84 = some (12, 37) by decide +kernel) (by decide +kernel) (Or.inl (Or.inl rfl)) rfl ?_
  refine q_iload_n 17 rfl (show sCode 278 16 = some (.iload_n 1, 1) by decide +kernel) rfl ?_
  refine q_zald 18 rfl (show sCode 278 17 = some (.baload, 1) by decide +kernel) h1 ?_
  refine q_ifne 23 21 rfl (by decide) (show sCode 278 18 = some (.ifCond .ne 5, 3) by decide +kernel) ?_ ?_
  · intro q; exact k1 q
  · intro q; refine q_forget (L' := [vN, vI x1, vN]) 0 rfl ?_; refine q_forget (L' := [vN, vN, vN]) 1 rfl ?_; exact k2 q
theorem b278_21 {d : Nat} {P : Int → sM → sG → Prop} {M : sM} {G : sG}   (kk : P (-1) M G) : sW (sC d) 278 (QI P) 21 [vN, vN, vN] [] M G 0 0 := by
  refine q_iconst 22 rfl (show sCode 278 21 = some (.iconst (-1), 1) by decide +kernel) ⟨by decide, by decide⟩ ?_
  exact q_iret (show sCode 278 22 = some (.ireturn, 1) by decide +kernel) (by decide +kernel) (by decide +kernel) kk
theorem b278_23 {d : Nat} {Q : Option sV → sM → sG → Prop} {M : sM} {G : sG} {a0 : Nat} {x1 : Int}  (kk : sW (sC d) 278 Q 25 [vO 12 a0, vI x1, vI 0] [] M G 0 0) : sW (sC d) 278 Q 23 [vO 12 a0, vI x1, vN] [] M G 0 0 := by
  refine q_iconst 24 rfl (show sCode 278 23 = some (.iconst 0, 1) by decide +kernel) ⟨by decide, by decide⟩ ?_
  refine q_istore_n [vO 12 a0, vI x1, vI 0] 25 rfl (show sCode 278 24 = some (.istore_n 2, 1) by decide +kernel) (Nat.lt_of_lt_of_le (Nat.lt_succ_self _) (Nat.le_of_ble_eq_true rfl)) rfl rfl ?_
  exact kk
theorem b278_25 {d : Nat} {Q : Option sV → sM → sG → Prop} {M : sM} {G : sG} {a0 : Nat} {x1 : Int} {x2 : Int}  (k1 : 274 ≤ x2 → sW (sC d) 278 Q 56 [vO 12 a0, vN, vN] [] M G 0 0) (k2 : x2 < 274 → sW (sC d) 278 Q 32 [vO 12 a0, vI x1, vI x2] [] M G 0 0) : sW (sC d) 278 Q 25 [vO 12 a0, vI x1, vI x2] [] M G 0 0 := by
  refine q_iload_n 26 rfl (show sCode 278 25 = some (.iload_n 2, 1) by decide +kernel) rfl ?_
  refine q_sipush 29 rfl (show sCode 278 26 = some (.sipush 274, 3) by decide +kernel) ⟨by decide, by decide⟩ (by decide +kernel) ?_
  refine q_icmpge 56 32 rfl (by decide) (show sCode 278 29 = some (.if_icmp .ge 27, 3) by decide +kernel) ?_ ?_
  · intro q; refine q_forget (L' := [vO 12 a0, vN, vI x2]) 1 rfl ?_; refine q_forget (L' := [vO 12 a0, vN, vN]) 2 rfl ?_; exact k1 q
  · intro q; exact k2 q
theorem b278_32 {d : Nat} {Q : Option sV → sM → sG → Prop} {M : sM} {G : sG} {a0 : Nat} {x1 : Int} {x2 : Int} (h1 : sI (274 * x1)) (h2 : sI ((274 * x1) + x2)) (h3 : 0 ≤ (274 * x1) + x2 ∧ (274 * x1) + x2 < 1096) (h4 : 0 ≤ x2 ∧ x2 < 274) (h5 : sI (x2 + 1)) (kk : sW (sC d) 278 Q 25 [vO 12 a0, vI x1, vI (x2 + 1)] [] (sUpd M (a0 + 11) x2.toNat (M (a0 + 24) ((274 * x1) + x2).toNat)) G 0 0) : sW (sC d) 278 Q 32 [vO 12 a0, vI x1, vI x2] [] M G 0 0 := by
  refine q_aload_n 33 rfl (show sCode 278 32 = some (.aload_n 0, 1) by decide +kernel) rfl (Nat.le_of_ble_eq_true rfl) ?_
  refine q_getR (vA 0 (a0 + 11) 274) 36 rfl (show sCode 278 33 = some (.getfield 42, 3) by decide +kernel) (show sFR (sKo 278).1 42 = some (12, 23) by decide +kernel) (by decide +kernel) (Or.inl (Or.inl rfl)) rfl ?_
  refine q_iload_n 37 rfl (show sCode 278 36 = some (.iload_n 2, 1) by decide +kernel) rfl ?_
  refine q_aload_n 38 rfl (show sCode 278 37 = some (.aload_n 0, 1) by decide +kernel) rfl (Nat.le_of_ble_eq_true rfl) ?_
  refine q_getR (vA 0 (a0 + 24) 1096) 41 rfl (show sCode 278 38 = some (.getfield 81, 3) by decide +kernel) (show sFR (sKo 278).1 81 = some (12, 36) by decide +kernel) (by decide +kernel) (Or.inl (Or.inl rfl)) rfl ?_
  refine q_sipush 44 rfl (show sCode 278 41 = some (.sipush 274, 3) by decide +kernel) ⟨by decide, by decide⟩ (by decide +kernel) ?_
  refine q_iload_n 45 rfl (show sCode 278 44 = some (.iload_n 1, 1) by decide +kernel) rfl ?_
  refine q_imul 46 rfl (show sCode 278 45 = some (.imul, 1) by decide +kernel) h1 ?_
  refine q_iload_n 47 rfl (show sCode 278 46 = some (.iload_n 2, 1) by decide +kernel) rfl ?_
  refine q_iadd 48 rfl (show sCode 278 47 = some (.iadd, 1) by decide +kernel) h2 ?_
  refine q_iald 49 rfl (show sCode 278 48 = some (.iaload, 1) by decide +kernel) h3 ?_
  refine q_iast 50 rfl (show sCode 278 49 = some (.iastore, 1) by decide +kernel) h4 ?_
  refine q_iinc [vO 12 a0, vI x1, vI (x2 + 1)] 53 rfl (show sCode 278 50 = some (.iinc 2 1, 3) by decide +kernel) rfl rfl h5 rfl ?_
  refine q_goto 25 (by decide) (show sCode 278 53 = some (.goto (-28), 3) by decide +kernel) ?_
  exact kk
theorem b278_56 {d : Nat} {P : Int → sM → sG → Prop} {M : sM} {G : sG} {a0 : Nat}  (kk : P (M (a0 + 11) 2) M G) : sW (sC d) 278 (QI P) 56 [vO 12 a0, vN, vN] [] M G 0 0 := by
  refine q_aload_n 57 rfl (show sCode 278 56 = some (.aload_n 0, 1) by decide +kernel) rfl (Nat.le_of_ble_eq_true rfl) ?_
  refine q_getR (vA 0 (a0 + 11) 274) 60 rfl (show sCode 278 57 = some (.getfield 42, 3) by decide +kernel) (show sFR (sKo 278).1 42 = some (12, 23) by decide +kernel) (by decide +kernel) (Or.inl (Or.inl rfl)) rfl ?_
  refine q_iconst 61 rfl (show sCode 278 60 = some (.iconst 2, 1) by decide +kernel) ⟨by decide, by decide⟩ ?_
  refine q_iald 62 rfl (show sCode 278 61 = some (.iaload, 1) by decide +kernel) ⟨by decide, by decide⟩ ?_
  exact q_iret (show sCode 278 62 = some (.ireturn, 1) by decide +kernel) (by decide +kernel) (by decide +kernel) kk
