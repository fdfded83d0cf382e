/-! THE CONSTRUCTORS, without Town. -/
theorem n11 : mkOk 1 11 5 2 (zL []) := by
  intro d a M G PV hd h0 hM hG hf kk
  obtain ⟨d, rfl⟩ : ∃ d', d = d' + 1 := ⟨d - 1, by omega⟩
  refine sC_in (Nat.le_of_ble_eq_true rfl) rfl ?_
  have h : mkI M G a 2 (zL []) 1 M G := mkI.start (c := 0) hM hf (zL_z (by decide))
  have gg : G a = (1, 5, 0) := hG
  refine q_aload_n 1 rfl (show sCode 11 0 = some (.aload_n 0, 1) by decide +kernel) rfl (Nat.le_of_ble_eq_true rfl) ?_
  refine q_objI 4 rfl (show sCode 11 1 = some (.invokespecial 3, 3) by decide +kernel) (by decide +kernel) (Nat.le_of_ble_eq_true rfl) ?_
  refine q_aload_n 5 rfl (show sCode 11 4 = some (.aload_n 0, 1) by decide +kernel) rfl (Nat.le_of_ble_eq_true rfl) ?_
  refine q_bipush 7 rfl (show sCode 11 5 = some (.bipush 12, 2) by decide +kernel) ⟨by decide, by decide⟩ (by decide +kernel) ?_
  refine q_newarr (u := 0) (a := a + 1) 9 rfl (show sCode 11 7 = some (.newarray .int, 2) by decide +kernel) ⟨rfl, by decide⟩ ⟨by decide, by decide⟩ (by omega) (h.free (by decide)) ⟨rfl, rfl, by decide +kernel, by decide +kernel⟩ ?_
  refine q_putR (o := 0) 12 rfl (show sCode 11 9 = some (.putfield 9, 3) by decide +kernel) (show sFR (sKo 11).1 9 = some (5, 0) by decide +kernel) (by decide +kernel) rfl rfl ?_
  refine mkA (F := fun M' G' => sW (sC d) 11 (QV PV) 12 [vT 5 a ((1 : Nat) : Int)] [] M' G' 1 12) h (by decide) (by decide) (zL_z (by decide)) ?_
  intro M G h gg
  exact q_vret (show sCode 11 12 = some (.return_, 1) by decide +kernel) (by decide +kernel) ⟨by decide +kernel, by decide +kernel⟩ (kk _ _ h.1 gg h.2.2)
theorem n2 : mkOk 1 2 4 2 (zL []) := by
  intro d a M G PV hd h0 hM hG hf kk
  obtain ⟨d, rfl⟩ : ∃ d', d = d' + 1 := ⟨d - 1, by omega⟩
  refine sC_in (Nat.le_of_ble_eq_true rfl) rfl ?_
  have h : mkI M G a 2 (zL []) 1 M G := mkI.start (c := 0) hM hf (zL_z (by decide))
  have gg : G a = (1, 4, 0) := hG
  refine q_aload_n 1 rfl (show sCode 2 0 = some (.aload_n 0, 1) by decide +kernel) rfl (Nat.le_of_ble_eq_true rfl) ?_
  refine q_objI 4 rfl (show sCode 2 1 = some (.invokespecial 3, 3) by decide +kernel) (by decide +kernel) (Nat.le_of_ble_eq_true rfl) ?_
  refine q_aload_n 5 rfl (show sCode 2 4 = some (.aload_n 0, 1) by decide +kernel) rfl (Nat.le_of_ble_eq_true rfl) ?_
  refine q_sipush 8 rfl (show sCode 2 5 = some (.sipush 400, 3) by decide +kernel) ⟨by decide, by decide⟩ (by decide +kernel) ?_
  refine q_newarr (u := 0) (a := a + 1) 10 rfl (show sCode 2 8 = some (.newarray .int, 2) by decide +kernel) ⟨rfl, by decide⟩ ⟨by decide, by decide⟩ (by omega) (h.free (by decide)) ⟨rfl, rfl, by decide +kernel, by decide +kernel⟩ ?_
  refine q_putR (o := 0) 13 rfl (show sCode 2 10 = some (.putfield 11, 3) by decide +kernel) (show sFR (sKo 2).1 11 = some (4, 0) by decide +kernel) (by decide +kernel) rfl rfl ?_
  refine mkA (F := fun M' G' => sW (sC d) 2 (QV PV) 13 [vT 4 a ((1 : Nat) : Int)] [] M' G' 1 400) h (by decide) (by decide) (zL_z (by decide)) ?_
  intro M G h gg
  refine q_aload_n 14 rfl (show sCode 2 13 = some (.aload_n 0, 1) by decide +kernel) rfl (Nat.le_of_ble_eq_true rfl) ?_
  refine q_iconst 15 rfl (show sCode 2 14 = some (.iconst 0, 1) by decide +kernel) ⟨by decide, by decide⟩ ?_
  refine q_putI 18 rfl (show sCode 2 15 = some (.putfield 15, 3) by decide +kernel) (show sFR (sKo 2).1 15 = some (4, 1) by decide +kernel) (by decide +kernel) (Or.inr ⟨_, rfl, by decide +kernel, by decide +kernel⟩) ?_
  refine mkZ (F := fun M' => sW (sC d) 2 (QV PV) 18 [vT 4 a ((1 : Nat) : Int)] [] M' _ 1 400) h (by decide) (zL_z (by decide)) ?_
  refine q_aload_n 19 rfl (show sCode 2 18 = some (.aload_n 0, 1) by decide +kernel) rfl (Nat.le_of_ble_eq_true rfl) ?_
  refine q_iconst 20 rfl (show sCode 2 19 = some (.iconst 0, 1) by decide +kernel) ⟨by decide, by decide⟩ ?_
  refine q_putI 23 rfl (show sCode 2 20 = some (.putfield 19, 3) by decide +kernel) (show sFR (sKo 2).1 19 = some (4, 2) by decide +kernel) (by decide +kernel) (Or.inr ⟨_, rfl, by decide +kernel, by decide +kernel⟩) ?_
  refine mkZ (F := fun M' => sW (sC d) 2 (QV PV) 23 [vT 4 a ((1 : Nat) : Int)] [] M' _ 1 400) h (by decide) (zL_z (by decide)) ?_
  refine q_aload_n 24 rfl (show sCode 2 23 = some (.aload_n 0, 1) by decide +kernel) rfl (Nat.le_of_ble_eq_true rfl) ?_
  refine q_iconst 25 rfl (show sCode 2 24 = some (.iconst 0, 1) by decide +kernel) ⟨by decide, by decide⟩ ?_
  refine q_putI 28 rfl (show sCode 2 25 = some (.putfield 22, 3) by decide +kernel) (show sFR (sKo 2).1 22 = some (4, 3) by decide +kernel) (by decide +kernel) (Or.inr ⟨_, rfl, by decide +kernel, by decide +kernel⟩) ?_
  refine mkZ (F := fun M' => sW (sC d) 2 (QV PV) 28 [vT 4 a ((1 : Nat) : Int)] [] M' _ 1 400) h (by decide) (zL_z (by decide)) ?_
  exact q_vret (show sCode 2 28 = some (.return_, 1) by decide +kernel) (by decide +kernel) ⟨by decide +kernel, by decide +kernel⟩ (kk _ _ h.1 gg h.2.2)
theorem n7 : mkOk 1 7 9 12 (zL []) := by
  intro d a M G PV hd h0 hM hG hf kk
  obtain ⟨d, rfl⟩ : ∃ d', d = d' + 1 := ⟨d - 1, by omega⟩
  refine sC_in (Nat.le_of_ble_eq_true rfl) rfl ?_
  have h : mkI M G a 12 (zL []) 1 M G := mkI.start (c := 0) hM hf (zL_z (by decide))
  have gg : G a = (1, 9, 0) := hG
  refine q_aload_n 1 rfl (show sCode 7 0 = some (.aload_n 0, 1) by decide +kernel) rfl (Nat.le_of_ble_eq_true rfl) ?_
  refine q_objI 4 rfl (show sCode 7 1 = some (.invokespecial 3, 3) by decide +kernel) (by decide +kernel) (Nat.le_of_ble_eq_true rfl) ?_
  refine q_aload_n 5 rfl (show sCode 7 4 = some (.aload_n 0, 1) by decide +kernel) rfl (Nat.le_of_ble_eq_true rfl) ?_
  refine q_bipush 7 rfl (show sCode 7 5 = some (.bipush 12, 2) by decide +kernel) ⟨by decide, by decide⟩ (by decide +kernel) ?_
  refine q_newarr (u := 0) (a := a + 1) 9 rfl (show sCode 7 7 = some (.newarray .int, 2) by decide +kernel) ⟨rfl, by decide⟩ ⟨by decide, by decide⟩ (by omega) (h.free (by decide)) ⟨rfl, rfl, by decide +kernel, by decide +kernel⟩ ?_
  refine q_putR (o := 0) 12 rfl (show sCode 7 9 = some (.putfield 9, 3) by decide +kernel) (show sFR (sKo 7).1 9 = some (9, 0) by decide +kernel) (by decide +kernel) rfl rfl ?_
  refine mkA (F := fun M' G' => sW (sC d) 7 (QV PV) 12 [vT 9 a ((1 : Nat) : Int)] [] M' G' 1 12) h (by decide) (by decide) (zL_z (by decide)) ?_
  intro M G h gg
  refine q_aload_n 13 rfl (show sCode 7 12 = some (.aload_n 0, 1) by decide +kernel) rfl (Nat.le_of_ble_eq_true rfl) ?_
  refine q_iconst 14 rfl (show sCode 7 13 = some (.iconst 0, 1) by decide +kernel) ⟨by decide, by decide⟩ ?_
  refine q_putI 17 rfl (show sCode 7 14 = some (.putfield 15, 3) by decide +kernel) (show sFR (sKo 7).1 15 = some (9, 1) by decide +kernel) (by decide +kernel) (Or.inr ⟨_, rfl, by decide +kernel, by decide +kernel⟩) ?_
  refine mkZ (F := fun M' => sW (sC d) 7 (QV PV) 17 [vT 9 a ((1 : Nat) : Int)] [] M' _ 1 12) h (by decide) (zL_z (by decide)) ?_
  refine q_aload_n 18 rfl (show sCode 7 17 = some (.aload_n 0, 1) by decide +kernel) rfl (Nat.le_of_ble_eq_true rfl) ?_
  refine q_bipush 20 rfl (show sCode 7 18 = some (.bipush 6, 2) by decide +kernel) ⟨by decide, by decide⟩ (by decide +kernel) ?_
  refine q_newarr (u := 0) (a := a + 2) 22 rfl (show sCode 7 20 = some (.newarray .int, 2) by decide +kernel) ⟨rfl, by decide⟩ ⟨by decide, by decide⟩ (by omega) (h.free (by decide)) ⟨rfl, rfl, by decide +kernel, by decide +kernel⟩ ?_
  refine q_putR (o := 1) 25 rfl (show sCode 7 22 = some (.putfield 19, 3) by decide +kernel) (show sFR (sKo 7).1 19 = some (9, 2) by decide +kernel) (by decide +kernel) rfl rfl ?_
  refine mkA (F := fun M' G' => sW (sC d) 7 (QV PV) 25 [vT 9 a ((2 : Nat) : Int)] [] M' G' 2 18) h (by decide) (by decide) (zL_z (by decide)) ?_
  intro M G h gg
  refine q_aload_n 26 rfl (show sCode 7 25 = some (.aload_n 0, 1) by decide +kernel) rfl (Nat.le_of_ble_eq_true rfl) ?_
  refine q_bipush 28 rfl (show sCode 7 26 = some (.bipush 6, 2) by decide +kernel) ⟨by decide, by decide⟩ (by decide +kernel) ?_
  refine q_newarr (u := 0) (a := a + 3) 30 rfl (show sCode 7 28 = some (.newarray .int, 2) by decide +kernel) ⟨rfl, by decide⟩ ⟨by decide, by decide⟩ (by omega) (h.free (by decide)) ⟨rfl, rfl, by decide +kernel, by decide +kernel⟩ ?_
  refine q_putR (o := 2) 33 rfl (show sCode 7 30 = some (.putfield 22, 3) by decide +kernel) (show sFR (sKo 7).1 22 = some (9, 3) by decide +kernel) (by decide +kernel) rfl rfl ?_
  refine mkA (F := fun M' G' => sW (sC d) 7 (QV PV) 33 [vT 9 a ((3 : Nat) : Int)] [] M' G' 3 24) h (by decide) (by decide) (zL_z (by decide)) ?_
  intro M G h gg
  refine q_aload_n 34 rfl (show sCode 7 33 = some (.aload_n 0, 1) by decide +kernel) rfl (Nat.le_of_ble_eq_true rfl) ?_
  refine q_bipush 36 rfl (show sCode 7 34 = some (.bipush 6, 2) by decide +kernel) ⟨by decide, by decide⟩ (by decide +kernel) ?_
  refine q_newarr (u := 0) (a := a + 4) 38 rfl (show sCode 7 36 = some (.newarray .int, 2) by decide +kernel) ⟨rfl, by decide⟩ ⟨by decide, by decide⟩ (by omega) (h.free (by decide)) ⟨rfl, rfl, by decide +kernel, by decide +kernel⟩ ?_
  refine q_putR (o := 3) 41 rfl (show sCode 7 38 = some (.putfield 25, 3) by decide +kernel) (show sFR (sKo 7).1 25 = some (9, 4) by decide +kernel) (by decide +kernel) rfl rfl ?_
  refine mkA (F := fun M' G' => sW (sC d) 7 (QV PV) 41 [vT 9 a ((4 : Nat) : Int)] [] M' G' 4 30) h (by decide) (by decide) (zL_z (by decide)) ?_
  intro M G h gg
  refine q_aload_n 42 rfl (show sCode 7 41 = some (.aload_n 0, 1) by decide +kernel) rfl (Nat.le_of_ble_eq_true rfl) ?_
  refine q_bipush 44 rfl (show sCode 7 42 = some (.bipush 6, 2) by decide +kernel) ⟨by decide, by decide⟩ (by decide +kernel) ?_
  refine q_newarr (u := 0) (a := a + 5) 46 rfl (show sCode 7 44 = some (.newarray .int, 2) by decide +kernel) ⟨rfl, by decide⟩ ⟨by decide, by decide⟩ (by omega) (h.free (by decide)) ⟨rfl, rfl, by decide +kernel, by decide +kernel⟩ ?_
  refine q_putR (o := 4) 49 rfl (show sCode 7 46 = some (.putfield 28, 3) by decide +kernel) (show sFR (sKo 7).1 28 = some (9, 5) by decide +kernel) (by decide +kernel) rfl rfl ?_
  refine mkA (F := fun M' G' => sW (sC d) 7 (QV PV) 49 [vT 9 a ((5 : Nat) : Int)] [] M' G' 5 36) h (by decide) (by decide) (zL_z (by decide)) ?_
  intro M G h gg
  refine q_aload_n 50 rfl (show sCode 7 49 = some (.aload_n 0, 1) by decide +kernel) rfl (Nat.le_of_ble_eq_true rfl) ?_
  refine q_bipush 52 rfl (show sCode 7 50 = some (.bipush 6, 2) by decide +kernel) ⟨by decide, by decide⟩ (by decide +kernel) ?_
  refine q_newarr (u := 0) (a := a + 6) 54 rfl (show sCode 7 52 = some (.newarray .int, 2) by decide +kernel) ⟨rfl, by decide⟩ ⟨by decide, by decide⟩ (by omega) (h.free (by decide)) ⟨rfl, rfl, by decide +kernel, by decide +kernel⟩ ?_
  refine q_putR (o := 5) 57 rfl (show sCode 7 54 = some (.putfield 31, 3) by decide +kernel) (show sFR (sKo 7).1 31 = some (9, 6) by decide +kernel) (by decide +kernel) rfl rfl ?_
  refine mkA (F := fun M' G' => sW (sC d) 7 (QV PV) 57 [vT 9 a ((6 : Nat) : Int)] [] M' G' 6 42) h (by decide) (by decide) (zL_z (by decide)) ?_
  intro M G h gg
  refine q_aload_n 58 rfl (show sCode 7 57 = some (.aload_n 0, 1) by decide +kernel) rfl (Nat.le_of_ble_eq_true rfl) ?_
  refine q_iconst 59 rfl (show sCode 7 58 = some (.iconst 0, 1) by decide +kernel) ⟨by decide, by decide⟩ ?_
  refine q_putI 62 rfl (show sCode 7 59 = some (.putfield 34, 3) by decide +kernel) (show sFR (sKo 7).1 34 = some (9, 7) by decide +kernel) (by decide +kernel) (Or.inr ⟨_, rfl, by decide +kernel, by decide +kernel⟩) ?_
  refine mkZ (F := fun M' => sW (sC d) 7 (QV PV) 62 [vT 9 a ((6 : Nat) : Int)] [] M' _ 6 42) h (by decide) (zL_z (by decide)) ?_
  refine q_aload_n 63 rfl (show sCode 7 62 = some (.aload_n 0, 1) by decide +kernel) rfl (Nat.le_of_ble_eq_true rfl) ?_
  refine q_bipush 65 rfl (show sCode 7 63 = some (.bipush 8, 2) by decide +kernel) ⟨by decide, by decide⟩ (by decide +kernel) ?_
  refine q_newarr (u := 0) (a := a + 7) 67 rfl (show sCode 7 65 = some (.newarray .int, 2) by decide +kernel) ⟨rfl, by decide⟩ ⟨by decide, by decide⟩ (by omega) (h.free (by decide)) ⟨rfl, rfl, by decide +kernel, by decide +kernel⟩ ?_
  refine q_putR (o := 6) 70 rfl (show sCode 7 67 = some (.putfield 37, 3) by decide +kernel) (show sFR (sKo 7).1 37 = some (9, 8) by decide +kernel) (by decide +kernel) rfl rfl ?_
  refine mkA (F := fun M' G' => sW (sC d) 7 (QV PV) 70 [vT 9 a ((7 : Nat) : Int)] [] M' G' 7 50) h (by decide) (by decide) (zL_z (by decide)) ?_
  intro M G h gg
  refine q_aload_n 71 rfl (show sCode 7 70 = some (.aload_n 0, 1) by decide +kernel) rfl (Nat.le_of_ble_eq_true rfl) ?_
  refine q_iconst 72 rfl (show sCode 7 71 = some (.iconst 0, 1) by decide +kernel) ⟨by decide, by decide⟩ ?_
  refine q_putI 75 rfl (show sCode 7 72 = some (.putfield 40, 3) by decide +kernel) (show sFR (sKo 7).1 40 = some (9, 9) by decide +kernel) (by decide +kernel) (Or.inr ⟨_, rfl, by decide +kernel, by decide +kernel⟩) ?_
  refine mkZ (F := fun M' => sW (sC d) 7 (QV PV) 75 [vT 9 a ((7 : Nat) : Int)] [] M' _ 7 50) h (by decide) (zL_z (by decide)) ?_
  refine q_aload_n 76 rfl (show sCode 7 75 = some (.aload_n 0, 1) by decide +kernel) rfl (Nat.le_of_ble_eq_true rfl) ?_
  refine q_bipush 78 rfl (show sCode 7 76 = some (.bipush 8, 2) by decide +kernel) ⟨by decide, by decide⟩ (by decide +kernel) ?_
  refine q_newarr (u := 0) (a := a + 8) 80 rfl (show sCode 7 78 = some (.newarray .int, 2) by decide +kernel) ⟨rfl, by decide⟩ ⟨by decide, by decide⟩ (by omega) (h.free (by decide)) ⟨rfl, rfl, by decide +kernel, by decide +kernel⟩ ?_
  refine q_putR (o := 7) 83 rfl (show sCode 7 80 = some (.putfield 43, 3) by decide +kernel) (show sFR (sKo 7).1 43 = some (9, 10) by decide +kernel) (by decide +kernel) rfl rfl ?_
  refine mkA (F := fun M' G' => sW (sC d) 7 (QV PV) 83 [vT 9 a ((8 : Nat) : Int)] [] M' G' 8 58) h (by decide) (by decide) (zL_z (by decide)) ?_
  intro M G h gg
  refine q_aload_n 84 rfl (show sCode 7 83 = some (.aload_n 0, 1) by decide +kernel) rfl (Nat.le_of_ble_eq_true rfl) ?_
  refine q_bipush 86 rfl (show sCode 7 84 = some (.bipush 8, 2) by decide +kernel) ⟨by decide, by decide⟩ (by decide +kernel) ?_
  refine q_newarr (u := 0) (a := a + 9) 88 rfl (show sCode 7 86 = some (.newarray .int, 2) by decide +kernel) ⟨rfl, by decide⟩ ⟨by decide, by decide⟩ (by omega) (h.free (by decide)) ⟨rfl, rfl, by decide +kernel, by decide +kernel⟩ ?_
  refine q_putR (o := 8) 91 rfl (show sCode 7 88 = some (.putfield 46, 3) by decide +kernel) (show sFR (sKo 7).1 46 = some (9, 11) by decide +kernel) (by decide +kernel) rfl rfl ?_
  refine mkA (F := fun M' G' => sW (sC d) 7 (QV PV) 91 [vT 9 a ((9 : Nat) : Int)] [] M' G' 9 66) h (by decide) (by decide) (zL_z (by decide)) ?_
  intro M G h gg
  refine q_aload_n 92 rfl (show sCode 7 91 = some (.aload_n 0, 1) by decide +kernel) rfl (Nat.le_of_ble_eq_true rfl) ?_
  refine q_iconst 93 rfl (show sCode 7 92 = some (.iconst 0, 1) by decide +kernel) ⟨by decide, by decide⟩ ?_
  refine q_putI 96 rfl (show sCode 7 93 = some (.putfield 49, 3) by decide +kernel) (show sFR (sKo 7).1 49 = some (9, 12) by decide +kernel) (by decide +kernel) (Or.inr ⟨_, rfl, by decide +kernel, by decide +kernel⟩) ?_
  refine mkZ (F := fun M' => sW (sC d) 7 (QV PV) 96 [vT 9 a ((9 : Nat) : Int)] [] M' _ 9 66) h (by decide) (zL_z (by decide)) ?_
  refine q_aload_n 97 rfl (show sCode 7 96 = some (.aload_n 0, 1) by decide +kernel) rfl (Nat.le_of_ble_eq_true rfl) ?_
  refine q_bipush 99 rfl (show sCode 7 97 = some (.bipush 12, 2) by decide +kernel) ⟨by decide, by decide⟩ (by decide +kernel) ?_
  refine q_newarr (u := 0) (a := a + 10) 101 rfl (show sCode 7 99 = some (.newarray .int, 2) by decide +kernel) ⟨rfl, by decide⟩ ⟨by decide, by decide⟩ (by omega) (h.free (by decide)) ⟨rfl, rfl, by decide +kernel, by decide +kernel⟩ ?_
  refine q_putR (o := 9) 104 rfl (show sCode 7 101 = some (.putfield 52, 3) by decide +kernel) (show sFR (sKo 7).1 52 = some (9, 13) by decide +kernel) (by decide +kernel) rfl rfl ?_
  refine mkA (F := fun M' G' => sW (sC d) 7 (QV PV) 104 [vT 9 a ((10 : Nat) : Int)] [] M' G' 10 78) h (by decide) (by decide) (zL_z (by decide)) ?_
  intro M G h gg
  refine q_aload_n 105 rfl (show sCode 7 104 = some (.aload_n 0, 1) by decide +kernel) rfl (Nat.le_of_ble_eq_true rfl) ?_
  refine q_bipush 107 rfl (show sCode 7 105 = some (.bipush 12, 2) by decide +kernel) ⟨by decide, by decide⟩ (by decide +kernel) ?_
  refine q_newarr (u := 0) (a := a + 11) 109 rfl (show sCode 7 107 = some (.newarray .int, 2) by decide +kernel) ⟨rfl, by decide⟩ ⟨by decide, by decide⟩ (by omega) (h.free (by decide)) ⟨rfl, rfl, by decide +kernel, by decide +kernel⟩ ?_
  refine q_putR (o := 10) 112 rfl (show sCode 7 109 = some (.putfield 55, 3) by decide +kernel) (show sFR (sKo 7).1 55 = some (9, 14) by decide +kernel) (by decide +kernel) rfl rfl ?_
  refine mkA (F := fun M' G' => sW (sC d) 7 (QV PV) 112 [vT 9 a ((11 : Nat) : Int)] [] M' G' 11 90) h (by decide) (by decide) (zL_z (by decide)) ?_
  intro M G h gg
  refine q_aload_n 113 rfl (show sCode 7 112 = some (.aload_n 0, 1) by decide +kernel) rfl (Nat.le_of_ble_eq_true rfl) ?_
  refine q_iconst 114 rfl (show sCode 7 113 = some (.iconst 0, 1) by decide +kernel) ⟨by decide, by decide⟩ ?_
  refine q_putI 117 rfl (show sCode 7 114 = some (.putfield 58, 3) by decide +kernel) (show sFR (sKo 7).1 58 = some (9, 15) by decide +kernel) (by decide +kernel) (Or.inr ⟨_, rfl, by decide +kernel, by decide +kernel⟩) ?_
  refine mkZ (F := fun M' => sW (sC d) 7 (QV PV) 117 [vT 9 a ((11 : Nat) : Int)] [] M' _ 11 90) h (by decide) (zL_z (by decide)) ?_
  exact q_vret (show sCode 7 117 = some (.return_, 1) by decide +kernel) (by decide +kernel) ⟨by decide +kernel, by decide +kernel⟩ (kk _ _ h.1 gg h.2.2)
theorem n8 : mkOk 1 8 0 3 (zL []) := by
  intro d a M G PV hd h0 hM hG hf kk
  obtain ⟨d, rfl⟩ : ∃ d', d = d' + 1 := ⟨d - 1, by omega⟩
  refine sC_in (Nat.le_of_ble_eq_true rfl) rfl ?_
  have h : mkI M G a 3 (zL []) 1 M G := mkI.start (c := 0) hM hf (zL_z (by decide))
  have gg : G a = (1, 0, 0) := hG
  refine q_aload_n 1 rfl (show sCode 8 0 = some (.aload_n 0, 1) by decide +kernel) rfl (Nat.le_of_ble_eq_true rfl) ?_
  refine q_objI 4 rfl (show sCode 8 1 = some (.invokespecial 3, 3) by decide +kernel) (by decide +kernel) (Nat.le_of_ble_eq_true rfl) ?_
  refine q_aload_n 5 rfl (show sCode 8 4 = some (.aload_n 0, 1) by decide +kernel) rfl (Nat.le_of_ble_eq_true rfl) ?_
  refine q_bipush 7 rfl (show sCode 8 5 = some (.bipush 64, 2) by decide +kernel) ⟨by decide, by decide⟩ (by decide +kernel) ?_
  refine q_newarr (u := 1) (a := a + 1) 9 rfl (show sCode 8 7 = some (.newarray .long, 2) by decide +kernel) ⟨rfl, by decide⟩ ⟨by decide, by decide⟩ (by omega) (h.free (by decide)) ⟨rfl, rfl, by decide +kernel, by decide +kernel⟩ ?_
  refine q_putR (o := 0) 12 rfl (show sCode 8 9 = some (.putfield 11, 3) by decide +kernel) (show sFR (sKo 8).1 11 = some (0, 0) by decide +kernel) (by decide +kernel) rfl rfl ?_
  refine mkA (F := fun M' G' => sW (sC d) 8 (QV PV) 12 [vT 0 a ((1 : Nat) : Int)] [] M' G' 1 64) h (by decide) (by decide) (zL_z (by decide)) ?_
  intro M G h gg
  refine q_aload_n 13 rfl (show sCode 8 12 = some (.aload_n 0, 1) by decide +kernel) rfl (Nat.le_of_ble_eq_true rfl) ?_
  refine q_bipush 15 rfl (show sCode 8 13 = some (.bipush 12, 2) by decide +kernel) ⟨by decide, by decide⟩ (by decide +kernel) ?_
  refine q_newarr (u := 0) (a := a + 2) 17 rfl (show sCode 8 15 = some (.newarray .int, 2) by decide +kernel) ⟨rfl, by decide⟩ ⟨by decide, by decide⟩ (by omega) (h.free (by decide)) ⟨rfl, rfl, by decide +kernel, by decide +kernel⟩ ?_
  refine q_putR (o := 1) 20 rfl (show sCode 8 17 = some (.putfield 15, 3) by decide +kernel) (show sFR (sKo 8).1 15 = some (0, 1) by decide +kernel) (by decide +kernel) rfl rfl ?_
  refine mkA (F := fun M' G' => sW (sC d) 8 (QV PV) 20 [vT 0 a ((2 : Nat) : Int)] [] M' G' 2 76) h (by decide) (by decide) (zL_z (by decide)) ?_
  intro M G h gg
  exact q_vret (show sCode 8 20 = some (.return_, 1) by decide +kernel) (by decide +kernel) ⟨by decide +kernel, by decide +kernel⟩ (kk _ _ h.1 gg h.2.2)
theorem n9 : mkOk 1 9 1 9 (zL []) := by
  intro d a M G PV hd h0 hM hG hf kk
  obtain ⟨d, rfl⟩ : ∃ d', d = d' + 1 := ⟨d - 1, by omega⟩
  refine sC_in (Nat.le_of_ble_eq_true rfl) rfl ?_
  have h : mkI M G a 9 (zL []) 1 M G := mkI.start (c := 0) hM hf (zL_z (by decide))
  have gg : G a = (1, 1, 0) := hG
  refine q_aload_n 1 rfl (show sCode 9 0 = some (.aload_n 0, 1) by decide +kernel) rfl (Nat.le_of_ble_eq_true rfl) ?_
  refine q_objI 4 rfl (show sCode 9 1 = some (.invokespecial 3, 3) by decide +kernel) (by decide +kernel) (Nat.le_of_ble_eq_true rfl) ?_
  refine q_aload_n 5 rfl (show sCode 9 4 = some (.aload_n 0, 1) by decide +kernel) rfl (Nat.le_of_ble_eq_true rfl) ?_
  refine q_bipush 7 rfl (show sCode 9 5 = some (.bipush 18, 2) by decide +kernel) ⟨by decide, by decide⟩ (by decide +kernel) ?_
  refine q_newarr (u := 0) (a := a + 1) 9 rfl (show sCode 9 7 = some (.newarray .int, 2) by decide +kernel) ⟨rfl, by decide⟩ ⟨by decide, by decide⟩ (by omega) (h.free (by decide)) ⟨rfl, rfl, by decide +kernel, by decide +kernel⟩ ?_
  refine q_putR (o := 0) 12 rfl (show sCode 9 9 = some (.putfield 9, 3) by decide +kernel) (show sFR (sKo 9).1 9 = some (1, 0) by decide +kernel) (by decide +kernel) rfl rfl ?_
  refine mkA (F := fun M' G' => sW (sC d) 9 (QV PV) 12 [vT 1 a ((1 : Nat) : Int)] [] M' G' 1 18) h (by decide) (by decide) (zL_z (by decide)) ?_
  intro M G h gg
  refine q_aload_n 13 rfl (show sCode 9 12 = some (.aload_n 0, 1) by decide +kernel) rfl (Nat.le_of_ble_eq_true rfl) ?_
  refine q_bipush 15 rfl (show sCode 9 13 = some (.bipush 18, 2) by decide +kernel) ⟨by decide, by decide⟩ (by decide +kernel) ?_
  refine q_newarr (u := 0) (a := a + 2) 17 rfl (show sCode 9 15 = some (.newarray .int, 2) by decide +kernel) ⟨rfl, by decide⟩ ⟨by decide, by decide⟩ (by omega) (h.free (by decide)) ⟨rfl, rfl, by decide +kernel, by decide +kernel⟩ ?_
  refine q_putR (o := 1) 20 rfl (show sCode 9 17 = some (.putfield 15, 3) by decide +kernel) (show sFR (sKo 9).1 15 = some (1, 1) by decide +kernel) (by decide +kernel) rfl rfl ?_
  refine mkA (F := fun M' G' => sW (sC d) 9 (QV PV) 20 [vT 1 a ((2 : Nat) : Int)] [] M' G' 2 36) h (by decide) (by decide) (zL_z (by decide)) ?_
  intro M G h gg
  refine q_aload_n 21 rfl (show sCode 9 20 = some (.aload_n 0, 1) by decide +kernel) rfl (Nat.le_of_ble_eq_true rfl) ?_
  refine q_bipush 23 rfl (show sCode 9 21 = some (.bipush 18, 2) by decide +kernel) ⟨by decide, by decide⟩ (by decide +kernel) ?_
  refine q_newarr (u := 0) (a := a + 3) 25 rfl (show sCode 9 23 = some (.newarray .int, 2) by decide +kernel) ⟨rfl, by decide⟩ ⟨by decide, by decide⟩ (by omega) (h.free (by decide)) ⟨rfl, rfl, by decide +kernel, by decide +kernel⟩ ?_
  refine q_putR (o := 2) 28 rfl (show sCode 9 25 = some (.putfield 18, 3) by decide +kernel) (show sFR (sKo 9).1 18 = some (1, 2) by decide +kernel) (by decide +kernel) rfl rfl ?_
  refine mkA (F := fun M' G' => sW (sC d) 9 (QV PV) 28 [vT 1 a ((3 : Nat) : Int)] [] M' G' 3 54) h (by decide) (by decide) (zL_z (by decide)) ?_
  intro M G h gg
  refine q_aload_n 29 rfl (show sCode 9 28 = some (.aload_n 0, 1) by decide +kernel) rfl (Nat.le_of_ble_eq_true rfl) ?_
  refine q_bipush 31 rfl (show sCode 9 29 = some (.bipush 18, 2) by decide +kernel) ⟨by decide, by decide⟩ (by decide +kernel) ?_
  refine q_newarr (u := 0) (a := a + 4) 33 rfl (show sCode 9 31 = some (.newarray .int, 2) by decide +kernel) ⟨rfl, by decide⟩ ⟨by decide, by decide⟩ (by omega) (h.free (by decide)) ⟨rfl, rfl, by decide +kernel, by decide +kernel⟩ ?_
  refine q_putR (o := 3) 36 rfl (show sCode 9 33 = some (.putfield 21, 3) by decide +kernel) (show sFR (sKo 9).1 21 = some (1, 3) by decide +kernel) (by decide +kernel) rfl rfl ?_
  refine mkA (F := fun M' G' => sW (sC d) 9 (QV PV) 36 [vT 1 a ((4 : Nat) : Int)] [] M' G' 4 72) h (by decide) (by decide) (zL_z (by decide)) ?_
  intro M G h gg
  refine q_aload_n 37 rfl (show sCode 9 36 = some (.aload_n 0, 1) by decide +kernel) rfl (Nat.le_of_ble_eq_true rfl) ?_
  refine q_bipush 39 rfl (show sCode 9 37 = some (.bipush 19, 2) by decide +kernel) ⟨by decide, by decide⟩ (by decide +kernel) ?_
  refine q_newarr (u := 0) (a := a + 5) 41 rfl (show sCode 9 39 = some (.newarray .int, 2) by decide +kernel) ⟨rfl, by decide⟩ ⟨by decide, by decide⟩ (by omega) (h.free (by decide)) ⟨rfl, rfl, by decide +kernel, by decide +kernel⟩ ?_
  refine q_putR (o := 4) 44 rfl (show sCode 9 41 = some (.putfield 24, 3) by decide +kernel) (show sFR (sKo 9).1 24 = some (1, 4) by decide +kernel) (by decide +kernel) rfl rfl ?_
  refine mkA (F := fun M' G' => sW (sC d) 9 (QV PV) 44 [vT 1 a ((5 : Nat) : Int)] [] M' G' 5 91) h (by decide) (by decide) (zL_z (by decide)) ?_
  intro M G h gg
  refine q_aload_n 45 rfl (show sCode 9 44 = some (.aload_n 0, 1) by decide +kernel) rfl (Nat.le_of_ble_eq_true rfl) ?_
  refine q_bipush 47 rfl (show sCode 9 45 = some (.bipush 12, 2) by decide +kernel) ⟨by decide, by decide⟩ (by decide +kernel) ?_
  refine q_newarr (u := 0) (a := a + 6) 49 rfl (show sCode 9 47 = some (.newarray .int, 2) by decide +kernel) ⟨rfl, by decide⟩ ⟨by decide, by decide⟩ (by omega) (h.free (by decide)) ⟨rfl, rfl, by decide +kernel, by decide +kernel⟩ ?_
  refine q_putR (o := 5) 52 rfl (show sCode 9 49 = some (.putfield 27, 3) by decide +kernel) (show sFR (sKo 9).1 27 = some (1, 5) by decide +kernel) (by decide +kernel) rfl rfl ?_
  refine mkA (F := fun M' G' => sW (sC d) 9 (QV PV) 52 [vT 1 a ((6 : Nat) : Int)] [] M' G' 6 103) h (by decide) (by decide) (zL_z (by decide)) ?_
  intro M G h gg
  refine q_aload_n 53 rfl (show sCode 9 52 = some (.aload_n 0, 1) by decide +kernel) rfl (Nat.le_of_ble_eq_true rfl) ?_
  refine q_bipush 55 rfl (show sCode 9 53 = some (.bipush 12, 2) by decide +kernel) ⟨by decide, by decide⟩ (by decide +kernel) ?_
  refine q_newarr (u := 0) (a := a + 7) 57 rfl (show sCode 9 55 = some (.newarray .int, 2) by decide +kernel) ⟨rfl, by decide⟩ ⟨by decide, by decide⟩ (by omega) (h.free (by decide)) ⟨rfl, rfl, by decide +kernel, by decide +kernel⟩ ?_
  refine q_putR (o := 6) 60 rfl (show sCode 9 57 = some (.putfield 30, 3) by decide +kernel) (show sFR (sKo 9).1 30 = some (1, 6) by decide +kernel) (by decide +kernel) rfl rfl ?_
  refine mkA (F := fun M' G' => sW (sC d) 9 (QV PV) 60 [vT 1 a ((7 : Nat) : Int)] [] M' G' 7 115) h (by decide) (by decide) (zL_z (by decide)) ?_
  intro M G h gg
  refine q_aload_n 61 rfl (show sCode 9 60 = some (.aload_n 0, 1) by decide +kernel) rfl (Nat.le_of_ble_eq_true rfl) ?_
  refine q_bipush 63 rfl (show sCode 9 61 = some (.bipush 12, 2) by decide +kernel) ⟨by decide, by decide⟩ (by decide +kernel) ?_
  refine q_newarr (u := 0) (a := a + 8) 65 rfl (show sCode 9 63 = some (.newarray .int, 2) by decide +kernel) ⟨rfl, by decide⟩ ⟨by decide, by decide⟩ (by omega) (h.free (by decide)) ⟨rfl, rfl, by decide +kernel, by decide +kernel⟩ ?_
  refine q_putR (o := 7) 68 rfl (show sCode 9 65 = some (.putfield 33, 3) by decide +kernel) (show sFR (sKo 9).1 33 = some (1, 7) by decide +kernel) (by decide +kernel) rfl rfl ?_
  refine mkA (F := fun M' G' => sW (sC d) 9 (QV PV) 68 [vT 1 a ((8 : Nat) : Int)] [] M' G' 8 127) h (by decide) (by decide) (zL_z (by decide)) ?_
  intro M G h gg
  refine q_aload_n 69 rfl (show sCode 9 68 = some (.aload_n 0, 1) by decide +kernel) rfl (Nat.le_of_ble_eq_true rfl) ?_
  refine q_iconst 70 rfl (show sCode 9 69 = some (.iconst 0, 1) by decide +kernel) ⟨by decide, by decide⟩ ?_
  refine q_putI 73 rfl (show sCode 9 70 = some (.putfield 36, 3) by decide +kernel) (show sFR (sKo 9).1 36 = some (1, 8) by decide +kernel) (by decide +kernel) (Or.inr ⟨_, rfl, by decide +kernel, by decide +kernel⟩) ?_
  refine mkZ (F := fun M' => sW (sC d) 9 (QV PV) 73 [vT 1 a ((8 : Nat) : Int)] [] M' _ 8 127) h (by decide) (zL_z (by decide)) ?_
  exact q_vret (show sCode 9 73 = some (.return_, 1) by decide +kernel) (by decide +kernel) ⟨by decide +kernel, by decide +kernel⟩ (kk _ _ h.1 gg h.2.2)
theorem n10 : mkOk 1 10 3 7 (zL []) := by
  intro d a M G PV hd h0 hM hG hf kk
  obtain ⟨d, rfl⟩ : ∃ d', d = d' + 1 := ⟨d - 1, by omega⟩
  refine sC_in (Nat.le_of_ble_eq_true rfl) rfl ?_
  have h : mkI M G a 7 (zL []) 1 M G := mkI.start (c := 0) hM hf (zL_z (by decide))
  have gg : G a = (1, 3, 0) := hG
  refine q_aload_n 1 rfl (show sCode 10 0 = some (.aload_n 0, 1) by decide +kernel) rfl (Nat.le_of_ble_eq_true rfl) ?_
  refine q_objI 4 rfl (show sCode 10 1 = some (.invokespecial 5, 3) by decide +kernel) (by decide +kernel) (Nat.le_of_ble_eq_true rfl) ?_
  refine q_aload_n 5 rfl (show sCode 10 4 = some (.aload_n 0, 1) by decide +kernel) rfl (Nat.le_of_ble_eq_true rfl) ?_
  refine q_iconst 6 rfl (show sCode 10 5 = some (.iconst 0, 1) by decide +kernel) ⟨by decide, by decide⟩ ?_
  refine q_putI 9 rfl (show sCode 10 6 = some (.putfield 11, 3) by decide +kernel) (show sFR (sKo 10).1 11 = some (3, 0) by decide +kernel) (by decide +kernel) (Or.inr ⟨_, rfl, by decide +kernel, by decide +kernel⟩) ?_
  refine mkZ (F := fun M' => sW (sC d) 10 (QV PV) 9 [vT 3 a ((0 : Nat) : Int)] [] M' _ 0 0) h (by decide) (zL_z (by decide)) ?_
  refine q_aload_n 10 rfl (show sCode 10 9 = some (.aload_n 0, 1) by decide +kernel) rfl (Nat.le_of_ble_eq_true rfl) ?_
  refine q_bipush 12 rfl (show sCode 10 10 = some (.bipush 6, 2) by decide +kernel) ⟨by decide, by decide⟩ (by decide +kernel) ?_
  refine q_newarr (u := 0) (a := a + 1) 14 rfl (show sCode 10 12 = some (.newarray .int, 2) by decide +kernel) ⟨rfl, by decide⟩ ⟨by decide, by decide⟩ (by omega) (h.free (by decide)) ⟨rfl, rfl, by decide +kernel, by decide +kernel⟩ ?_
  refine q_putR (o := 0) 17 rfl (show sCode 10 14 = some (.putfield 17, 3) by decide +kernel) (show sFR (sKo 10).1 17 = some (3, 1) by decide +kernel) (by decide +kernel) rfl rfl ?_
  refine mkA (F := fun M' G' => sW (sC d) 10 (QV PV) 17 [vT 3 a ((1 : Nat) : Int)] [] M' G' 1 6) h (by decide) (by decide) (zL_z (by decide)) ?_
  intro M G h gg
  refine q_aload_n 18 rfl (show sCode 10 17 = some (.aload_n 0, 1) by decide +kernel) rfl (Nat.le_of_ble_eq_true rfl) ?_
  refine q_bipush 20 rfl (show sCode 10 18 = some (.bipush 6, 2) by decide +kernel) ⟨by decide, by decide⟩ (by decide +kernel) ?_
  refine q_newarr (u := 0) (a := a + 2) 22 rfl (show sCode 10 20 = some (.newarray .int, 2) by decide +kernel) ⟨rfl, by decide⟩ ⟨by decide, by decide⟩ (by omega) (h.free (by decide)) ⟨rfl, rfl, by decide +kernel, by decide +kernel⟩ ?_
  refine q_putR (o := 1) 25 rfl (show sCode 10 22 = some (.putfield 21, 3) by decide +kernel) (show sFR (sKo 10).1 21 = some (3, 2) by decide +kernel) (by decide +kernel) rfl rfl ?_
  refine mkA (F := fun M' G' => sW (sC d) 10 (QV PV) 25 [vT 3 a ((2 : Nat) : Int)] [] M' G' 2 12) h (by decide) (by decide) (zL_z (by decide)) ?_
  intro M G h gg
  refine q_aload_n 26 rfl (show sCode 10 25 = some (.aload_n 0, 1) by decide +kernel) rfl (Nat.le_of_ble_eq_true rfl) ?_
  refine q_sipush 29 rfl (show sCode 10 26 = some (.sipush 432, 3) by decide +kernel) ⟨by decide, by decide⟩ (by decide +kernel) ?_
  refine q_newarr (u := 0) (a := a + 3) 31 rfl (show sCode 10 29 = some (.newarray .int, 2) by decide +kernel) ⟨rfl, by decide⟩ ⟨by decide, by decide⟩ (by omega) (h.free (by decide)) ⟨rfl, rfl, by decide +kernel, by decide +kernel⟩ ?_
  refine q_putR (o := 2) 34 rfl (show sCode 10 31 = some (.putfield 24, 3) by decide +kernel) (show sFR (sKo 10).1 24 = some (3, 3) by decide +kernel) (by decide +kernel) rfl rfl ?_
  refine mkA (F := fun M' G' => sW (sC d) 10 (QV PV) 34 [vT 3 a ((3 : Nat) : Int)] [] M' G' 3 444) h (by decide) (by decide) (zL_z (by decide)) ?_
  intro M G h gg
  refine q_aload_n 35 rfl (show sCode 10 34 = some (.aload_n 0, 1) by decide +kernel) rfl (Nat.le_of_ble_eq_true rfl) ?_
  refine q_bipush 37 rfl (show sCode 10 35 = some (.bipush 6, 2) by decide +kernel) ⟨by decide, by decide⟩ (by decide +kernel) ?_
  refine q_newarr (u := 3) (a := a + 4) 39 rfl (show sCode 10 37 = some (.newarray .boolean, 2) by decide +kernel) ⟨rfl, by decide⟩ ⟨by decide, by decide⟩ (by omega) (h.free (by decide)) ⟨rfl, rfl, by decide +kernel, by decide +kernel⟩ ?_
  refine q_putR (o := 3) 42 rfl (show sCode 10 39 = some (.putfield 27, 3) by decide +kernel) (show sFR (sKo 10).1 27 = some (3, 4) by decide +kernel) (by decide +kernel) rfl rfl ?_
  refine mkA (F := fun M' G' => sW (sC d) 10 (QV PV) 42 [vT 3 a ((4 : Nat) : Int)] [] M' G' 4 450) h (by decide) (by decide) (zL_z (by decide)) ?_
  intro M G h gg
  refine q_aload_n 43 rfl (show sCode 10 42 = some (.aload_n 0, 1) by decide +kernel) rfl (Nat.le_of_ble_eq_true rfl) ?_
  refine q_bipush 45 rfl (show sCode 10 43 = some (.bipush 42, 2) by decide +kernel) ⟨by decide, by decide⟩ (by decide +kernel) ?_
  refine q_newarr (u := 0) (a := a + 5) 47 rfl (show sCode 10 45 = some (.newarray .int, 2) by decide +kernel) ⟨rfl, by decide⟩ ⟨by decide, by decide⟩ (by omega) (h.free (by decide)) ⟨rfl, rfl, by decide +kernel, by decide +kernel⟩ ?_
  refine q_putR (o := 4) 50 rfl (show sCode 10 47 = some (.putfield 31, 3) by decide +kernel) (show sFR (sKo 10).1 31 = some (3, 5) by decide +kernel) (by decide +kernel) rfl rfl ?_
  refine mkA (F := fun M' G' => sW (sC d) 10 (QV PV) 50 [vT 3 a ((5 : Nat) : Int)] [] M' G' 5 492) h (by decide) (by decide) (zL_z (by decide)) ?_
  intro M G h gg
  refine q_aload_n 51 rfl (show sCode 10 50 = some (.aload_n 0, 1) by decide +kernel) rfl (Nat.le_of_ble_eq_true rfl) ?_
  refine q_bipush 53 rfl (show sCode 10 51 = some (.bipush 6, 2) by decide +kernel) ⟨by decide, by decide⟩ (by decide +kernel) ?_
  refine q_newarr (u := 0) (a := a + 6) 55 rfl (show sCode 10 53 = some (.newarray .int, 2) by decide +kernel) ⟨rfl, by decide⟩ ⟨by decide, by decide⟩ (by omega) (h.free (by decide)) ⟨rfl, rfl, by decide +kernel, by decide +kernel⟩ ?_
  refine q_putR (o := 5) 58 rfl (show sCode 10 55 = some (.putfield 34, 3) by decide +kernel) (show sFR (sKo 10).1 34 = some (3, 6) by decide +kernel) (by decide +kernel) rfl rfl ?_
  refine mkA (F := fun M' G' => sW (sC d) 10 (QV PV) 58 [vT 3 a ((6 : Nat) : Int)] [] M' G' 6 498) h (by decide) (by decide) (zL_z (by decide)) ?_
  intro M G h gg
  exact q_vret (show sCode 10 58 = some (.return_, 1) by decide +kernel) (by decide +kernel) ⟨by decide +kernel, by decide +kernel⟩ (kk _ _ h.1 gg h.2.2)
theorem n12 : mkOk 1 12 2 4 (zL []) := by
  intro d a M G PV hd h0 hM hG hf kk
  obtain ⟨d, rfl⟩ : ∃ d', d = d' + 1 := ⟨d - 1, by omega⟩
  refine sC_in (Nat.le_of_ble_eq_true rfl) rfl ?_
  have h : mkI M G a 4 (zL []) 1 M G := mkI.start (c := 0) hM hf (zL_z (by decide))
  have gg : G a = (1, 2, 0) := hG
  refine q_aload_n 1 rfl (show sCode 12 0 = some (.aload_n 0, 1) by decide +kernel) rfl (Nat.le_of_ble_eq_true rfl) ?_
  refine q_objI 4 rfl (show sCode 12 1 = some (.invokespecial 5, 3) by decide +kernel) (by decide +kernel) (Nat.le_of_ble_eq_true rfl) ?_
  refine q_aload_n 5 rfl (show sCode 12 4 = some (.aload_n 0, 1) by decide +kernel) rfl (Nat.le_of_ble_eq_true rfl) ?_
  refine q_bipush 7 rfl (show sCode 12 5 = some (.bipush 8, 2) by decide +kernel) ⟨by decide, by decide⟩ (by decide +kernel) ?_
  refine q_newarr (u := 0) (a := a + 1) 9 rfl (show sCode 12 7 = some (.newarray .int, 2) by decide +kernel) ⟨rfl, by decide⟩ ⟨by decide, by decide⟩ (by omega) (h.free (by decide)) ⟨rfl, rfl, by decide +kernel, by decide +kernel⟩ ?_
  refine q_putR (o := 0) 12 rfl (show sCode 12 9 = some (.putfield 11, 3) by decide +kernel) (show sFR (sKo 12).1 11 = some (2, 0) by decide +kernel) (by decide +kernel) rfl rfl ?_
  refine mkA (F := fun M' G' => sW (sC d) 12 (QV PV) 12 [vT 2 a ((1 : Nat) : Int)] [] M' G' 1 8) h (by decide) (by decide) (zL_z (by decide)) ?_
  intro M G h gg
  refine q_aload_n 13 rfl (show sCode 12 12 = some (.aload_n 0, 1) by decide +kernel) rfl (Nat.le_of_ble_eq_true rfl) ?_
  refine q_sipush 16 rfl (show sCode 12 13 = some (.sipush 256, 3) by decide +kernel) ⟨by decide, by decide⟩ (by decide +kernel) ?_
  refine q_newarr (u := 0) (a := a + 2) 18 rfl (show sCode 12 16 = some (.newarray .int, 2) by decide +kernel) ⟨rfl, by decide⟩ ⟨by decide, by decide⟩ (by omega) (h.free (by decide)) ⟨rfl, rfl, by decide +kernel, by decide +kernel⟩ ?_
  refine q_putR (o := 1) 21 rfl (show sCode 12 18 = some (.putfield 17, 3) by decide +kernel) (show sFR (sKo 12).1 17 = some (2, 1) by decide +kernel) (by decide +kernel) rfl rfl ?_
  refine mkA (F := fun M' G' => sW (sC d) 12 (QV PV) 21 [vT 2 a ((2 : Nat) : Int)] [] M' G' 2 264) h (by decide) (by decide) (zL_z (by decide)) ?_
  intro M G h gg
  refine q_aload_n 22 rfl (show sCode 12 21 = some (.aload_n 0, 1) by decide +kernel) rfl (Nat.le_of_ble_eq_true rfl) ?_
  refine q_bipush 24 rfl (show sCode 12 22 = some (.bipush 97, 2) by decide +kernel) ⟨by decide, by decide⟩ (by decide +kernel) ?_
  refine q_newarr (u := 0) (a := a + 3) 26 rfl (show sCode 12 24 = some (.newarray .int, 2) by decide +kernel) ⟨rfl, by decide⟩ ⟨by decide, by decide⟩ (by omega) (h.free (by decide)) ⟨rfl, rfl, by decide +kernel, by decide +kernel⟩ ?_
  refine q_putR (o := 2) 29 rfl (show sCode 12 26 = some (.putfield 20, 3) by decide +kernel) (show sFR (sKo 12).1 20 = some (2, 2) by decide +kernel) (by decide +kernel) rfl rfl ?_
  refine mkA (F := fun M' G' => sW (sC d) 12 (QV PV) 29 [vT 2 a ((3 : Nat) : Int)] [] M' G' 3 361) h (by decide) (by decide) (zL_z (by decide)) ?_
  intro M G h gg
  refine q_aload_n 30 rfl (show sCode 12 29 = some (.aload_n 0, 1) by decide +kernel) rfl (Nat.le_of_ble_eq_true rfl) ?_
  refine q_iconst 31 rfl (show sCode 12 30 = some (.iconst 0, 1) by decide +kernel) ⟨by decide, by decide⟩ ?_
  refine q_putI 34 rfl (show sCode 12 31 = some (.putfield 23, 3) by decide +kernel) (show sFR (sKo 12).1 23 = some (2, 3) by decide +kernel) (by decide +kernel) (Or.inr ⟨_, rfl, by decide +kernel, by decide +kernel⟩) ?_
  refine mkZ (F := fun M' => sW (sC d) 12 (QV PV) 34 [vT 2 a ((3 : Nat) : Int)] [] M' _ 3 361) h (by decide) (zL_z (by decide)) ?_
  exact q_vret (show sCode 12 34 = some (.return_, 1) by decide +kernel) (by decide +kernel) ⟨by decide +kernel, by decide +kernel⟩ (kk _ _ h.1 gg h.2.2)
theorem n1 : mkOk 2 1 7 10 (zL []) := by
  intro d a M G PV hd h0 hM hG hf kk
  obtain ⟨d, rfl⟩ : ∃ d', d = d' + 1 := ⟨d - 1, by omega⟩
  refine sC_in (Nat.le_of_ble_eq_true rfl) rfl ?_
  have h : mkI M G a 10 (zL []) 1 M G := mkI.start (c := 0) hM hf (zL_z (by decide))
  have gg : G a = (1, 7, 0) := hG
  refine q_aload_n 1 rfl (show sCode 1 0 = some (.aload_n 0, 1) by decide +kernel) rfl (Nat.le_of_ble_eq_true rfl) ?_
  refine q_objI 4 rfl (show sCode 1 1 = some (.invokespecial 5, 3) by decide +kernel) (by decide +kernel) (Nat.le_of_ble_eq_true rfl) ?_
  refine q_aload_n 5 rfl (show sCode 1 4 = some (.aload_n 0, 1) by decide +kernel) rfl (Nat.le_of_ble_eq_true rfl) ?_
  refine q_new (a := a + 1) 8 rfl (show sCode 1 5 = some (.new 1, 3) by decide +kernel) (show sCR (sKo 1).1 1 = some 4 by decide +kernel) (by omega) (h.free (by decide)) ⟨rfl, rfl, by decide +kernel, by decide +kernel⟩ ?_
  refine q_dup 9 rfl (show sCode 1 8 = some (.dup, 1) by decide +kernel) rfl ?_
  refine q_init [] 12 rfl (show sCode 1 9 = some (.invokespecial 11, 3) by decide +kernel) (show sMR (sKo 1).1 11 = some 2 by decide +kernel) (show 2 < 1000 ∧ sStat 2 = false ∧ sIni 2 = true ∧ sKo 2 = (4, 0, 0, 1, 400) by decide +kernel) rfl rfl (Nat.le_of_ble_eq_true rfl) rfl rfl rfl ⟨rfl, rfl, by decide +kernel, by decide +kernel⟩ ?_
  refine mkO (F := fun M' G' => G' (a + 1) = (1, 4, sFul 4) ∧ sW (sC d) 1 (QV PV) 12 [vT 7 a ((0 : Nat) : Int)] [vO 4 (a + 1), vT 7 a ((0 : Nat) : Int)] M' G' 2 404) n2 (Nat.le_of_succ_le_succ hd) h (by decide) h0 (by decide) (by decide) (fun i hi => zL_c (by simp only [List.mem_cons, List.not_mem_nil, or_false, iff_false] <;> omega)) ?_
  intro M G h g1 g2
  refine ⟨g2, ?_⟩
  refine q_putR (o := 0) 15 rfl (show sCode 1 12 = some (.putfield 12, 3) by decide +kernel) (show sFR (sKo 1).1 12 = some (7, 0) by decide +kernel) (by decide +kernel) rfl rfl ?_
  refine mkS (F := fun M' G' => sW (sC d) 1 (QV PV) 15 [vT 7 a ((1 : Nat) : Int)] [] M' G' 2 404) h (by decide) (by decide) (by decide) ?_
  intro G h gg
  refine q_aload_n 16 rfl (show sCode 1 15 = some (.aload_n 0, 1) by decide +kernel) rfl (Nat.le_of_ble_eq_true rfl) ?_
  refine q_sipush 19 rfl (show sCode 1 16 = some (.sipush 400, 3) by decide +kernel) ⟨by decide, by decide⟩ (by decide +kernel) ?_
  refine q_newarr (u := 0) (a := a + 3) 21 rfl (show sCode 1 19 = some (.newarray .int, 2) by decide +kernel) ⟨rfl, by decide⟩ ⟨by decide, by decide⟩ (by omega) (h.free (by decide)) ⟨rfl, rfl, by decide +kernel, by decide +kernel⟩ ?_
  refine q_putR (o := 1) 24 rfl (show sCode 1 21 = some (.putfield 18, 3) by decide +kernel) (show sFR (sKo 1).1 18 = some (7, 1) by decide +kernel) (by decide +kernel) rfl rfl ?_
  refine mkA (F := fun M' G' => sW (sC d) 1 (QV PV) 24 [vT 7 a ((2 : Nat) : Int)] [] M' G' 3 804) h (by decide) (by decide) (zL_z (by decide)) ?_
  intro M G h gg
  refine q_aload_n 25 rfl (show sCode 1 24 = some (.aload_n 0, 1) by decide +kernel) rfl (Nat.le_of_ble_eq_true rfl) ?_
  refine q_sipush 28 rfl (show sCode 1 25 = some (.sipush 400, 3) by decide +kernel) ⟨by decide, by decide⟩ (by decide +kernel) ?_
  refine q_newarr (u := 0) (a := a + 4) 30 rfl (show sCode 1 28 = some (.newarray .int, 2) by decide +kernel) ⟨rfl, by decide⟩ ⟨by decide, by decide⟩ (by omega) (h.free (by decide)) ⟨rfl, rfl, by decide +kernel, by decide +kernel⟩ ?_
  refine q_putR (o := 2) 33 rfl (show sCode 1 30 = some (.putfield 22, 3) by decide +kernel) (show sFR (sKo 1).1 22 = some (7, 2) by decide +kernel) (by decide +kernel) rfl rfl ?_
  refine mkA (F := fun M' G' => sW (sC d) 1 (QV PV) 33 [vT 7 a ((3 : Nat) : Int)] [] M' G' 4 1204) h (by decide) (by decide) (zL_z (by decide)) ?_
  intro M G h gg
  refine q_aload_n 34 rfl (show sCode 1 33 = some (.aload_n 0, 1) by decide +kernel) rfl (Nat.le_of_ble_eq_true rfl) ?_
  refine q_bipush 36 rfl (show sCode 1 34 = some (.bipush 12, 2) by decide +kernel) ⟨by decide, by decide⟩ (by decide +kernel) ?_
  refine q_newarr (u := 0) (a := a + 5) 38 rfl (show sCode 1 36 = some (.newarray .int, 2) by decide +kernel) ⟨rfl, by decide⟩ ⟨by decide, by decide⟩ (by omega) (h.free (by decide)) ⟨rfl, rfl, by decide +kernel, by decide +kernel⟩ ?_
  refine q_putR (o := 3) 41 rfl (show sCode 1 38 = some (.putfield 27, 3) by decide +kernel) (show sFR (sKo 1).1 27 = some (7, 3) by decide +kernel) (by decide +kernel) rfl rfl ?_
  refine mkA (F := fun M' G' => sW (sC d) 1 (QV PV) 41 [vT 7 a ((4 : Nat) : Int)] [] M' G' 5 1216) h (by decide) (by decide) (zL_z (by decide)) ?_
  intro M G h gg
  refine q_aload_n 42 rfl (show sCode 1 41 = some (.aload_n 0, 1) by decide +kernel) rfl (Nat.le_of_ble_eq_true rfl) ?_
  refine q_bipush 44 rfl (show sCode 1 42 = some (.bipush 12, 2) by decide +kernel) ⟨by decide, by decide⟩ (by decide +kernel) ?_
  refine q_newarr (u := 0) (a := a + 6) 46 rfl (show sCode 1 44 = some (.newarray .int, 2) by decide +kernel) ⟨rfl, by decide⟩ ⟨by decide, by decide⟩ (by omega) (h.free (by decide)) ⟨rfl, rfl, by decide +kernel, by decide +kernel⟩ ?_
  refine q_putR (o := 4) 49 rfl (show sCode 1 46 = some (.putfield 30, 3) by decide +kernel) (show sFR (sKo 1).1 30 = some (7, 4) by decide +kernel) (by decide +kernel) rfl rfl ?_
  refine mkA (F := fun M' G' => sW (sC d) 1 (QV PV) 49 [vT 7 a ((5 : Nat) : Int)] [] M' G' 6 1228) h (by decide) (by decide) (zL_z (by decide)) ?_
  intro M G h gg
  refine q_aload_n 50 rfl (show sCode 1 49 = some (.aload_n 0, 1) by decide +kernel) rfl (Nat.le_of_ble_eq_true rfl) ?_
  refine q_bipush 52 rfl (show sCode 1 50 = some (.bipush 48, 2) by decide +kernel) ⟨by decide, by decide⟩ (by decide +kernel) ?_
  refine q_newarr (u := 0) (a := a + 7) 54 rfl (show sCode 1 52 = some (.newarray .int, 2) by decide +kernel) ⟨rfl, by decide⟩ ⟨by decide, by decide⟩ (by omega) (h.free (by decide)) ⟨rfl, rfl, by decide +kernel, by decide +kernel⟩ ?_
  refine q_putR (o := 5) 57 rfl (show sCode 1 54 = some (.putfield 33, 3) by decide +kernel) (show sFR (sKo 1).1 33 = some (7, 5) by decide +kernel) (by decide +kernel) rfl rfl ?_
  refine mkA (F := fun M' G' => sW (sC d) 1 (QV PV) 57 [vT 7 a ((6 : Nat) : Int)] [] M' G' 7 1276) h (by decide) (by decide) (zL_z (by decide)) ?_
  intro M G h gg
  refine q_aload_n 58 rfl (show sCode 1 57 = some (.aload_n 0, 1) by decide +kernel) rfl (Nat.le_of_ble_eq_true rfl) ?_
  refine q_bipush 60 rfl (show sCode 1 58 = some (.bipush 48, 2) by decide +kernel) ⟨by decide, by decide⟩ (by decide +kernel) ?_
  refine q_newarr (u := 0) (a := a + 8) 62 rfl (show sCode 1 60 = some (.newarray .int, 2) by decide +kernel) ⟨rfl, by decide⟩ ⟨by decide, by decide⟩ (by omega) (h.free (by decide)) ⟨rfl, rfl, by decide +kernel, by decide +kernel⟩ ?_
  refine q_putR (o := 6) 65 rfl (show sCode 1 62 = some (.putfield 36, 3) by decide +kernel) (show sFR (sKo 1).1 36 = some (7, 6) by decide +kernel) (by decide +kernel) rfl rfl ?_
  refine mkA (F := fun M' G' => sW (sC d) 1 (QV PV) 65 [vT 7 a ((7 : Nat) : Int)] [] M' G' 8 1324) h (by decide) (by decide) (zL_z (by decide)) ?_
  intro M G h gg
  refine q_aload_n 66 rfl (show sCode 1 65 = some (.aload_n 0, 1) by decide +kernel) rfl (Nat.le_of_ble_eq_true rfl) ?_
  refine q_bipush 68 rfl (show sCode 1 66 = some (.bipush 48, 2) by decide +kernel) ⟨by decide, by decide⟩ (by decide +kernel) ?_
  refine q_newarr (u := 0) (a := a + 9) 70 rfl (show sCode 1 68 = some (.newarray .int, 2) by decide +kernel) ⟨rfl, by decide⟩ ⟨by decide, by decide⟩ (by omega) (h.free (by decide)) ⟨rfl, rfl, by decide +kernel, by decide +kernel⟩ ?_
  refine q_putR (o := 7) 73 rfl (show sCode 1 70 = some (.putfield 39, 3) by decide +kernel) (show sFR (sKo 1).1 39 = some (7, 7) by decide +kernel) (by decide +kernel) rfl rfl ?_
  refine mkA (F := fun M' G' => sW (sC d) 1 (QV PV) 73 [vT 7 a ((8 : Nat) : Int)] [] M' G' 9 1372) h (by decide) (by decide) (zL_z (by decide)) ?_
  intro M G h gg
  refine q_aload_n 74 rfl (show sCode 1 73 = some (.aload_n 0, 1) by decide +kernel) rfl (Nat.le_of_ble_eq_true rfl) ?_
  refine q_iconst 75 rfl (show sCode 1 74 = some (.iconst 0, 1) by decide +kernel) ⟨by decide, by decide⟩ ?_
  refine q_putI 78 rfl (show sCode 1 75 = some (.putfield 42, 3) by decide +kernel) (show sFR (sKo 1).1 42 = some (7, 8) by decide +kernel) (by decide +kernel) (Or.inr ⟨_, rfl, by decide +kernel, by decide +kernel⟩) ?_
  refine mkZ (F := fun M' => sW (sC d) 1 (QV PV) 78 [vT 7 a ((8 : Nat) : Int)] [] M' _ 9 1372) h (by decide) (zL_z (by decide)) ?_
  refine q_aload_n 79 rfl (show sCode 1 78 = some (.aload_n 0, 1) by decide +kernel) rfl (Nat.le_of_ble_eq_true rfl) ?_
  refine q_iconst 80 rfl (show sCode 1 79 = some (.iconst 0, 1) by decide +kernel) ⟨by decide, by decide⟩ ?_
  refine q_putI 83 rfl (show sCode 1 80 = some (.putfield 46, 3) by decide +kernel) (show sFR (sKo 1).1 46 = some (7, 9) by decide +kernel) (by decide +kernel) (Or.inr ⟨_, rfl, by decide +kernel, by decide +kernel⟩) ?_
  refine mkZ (F := fun M' => sW (sC d) 1 (QV PV) 83 [vT 7 a ((8 : Nat) : Int)] [] M' _ 9 1372) h (by decide) (zL_z (by decide)) ?_
  refine q_aload_n 84 rfl (show sCode 1 83 = some (.aload_n 0, 1) by decide +kernel) rfl (Nat.le_of_ble_eq_true rfl) ?_
  refine q_iconst 85 rfl (show sCode 1 84 = some (.iconst 0, 1) by decide +kernel) ⟨by decide, by decide⟩ ?_
  refine q_putI 88 rfl (show sCode 1 85 = some (.putfield 49, 3) by decide +kernel) (show sFR (sKo 1).1 49 = some (7, 10) by decide +kernel) (by decide +kernel) (Or.inr ⟨_, rfl, by decide +kernel, by decide +kernel⟩) ?_
  refine mkZ (F := fun M' => sW (sC d) 1 (QV PV) 88 [vT 7 a ((8 : Nat) : Int)] [] M' _ 9 1372) h (by decide) (zL_z (by decide)) ?_
  refine q_aload_n 89 rfl (show sCode 1 88 = some (.aload_n 0, 1) by decide +kernel) rfl (Nat.le_of_ble_eq_true rfl) ?_
  refine q_iconst 90 rfl (show sCode 1 89 = some (.iconst 0, 1) by decide +kernel) ⟨by decide, by decide⟩ ?_
  refine q_putI 93 rfl (show sCode 1 90 = some (.putfield 52, 3) by decide +kernel) (show sFR (sKo 1).1 52 = some (7, 11) by decide +kernel) (by decide +kernel) (Or.inr ⟨_, rfl, by decide +kernel, by decide +kernel⟩) ?_
  refine mkZ (F := fun M' => sW (sC d) 1 (QV PV) 93 [vT 7 a ((8 : Nat) : Int)] [] M' _ 9 1372) h (by decide) (zL_z (by decide)) ?_
  refine q_aload_n 94 rfl (show sCode 1 93 = some (.aload_n 0, 1) by decide +kernel) rfl (Nat.le_of_ble_eq_true rfl) ?_
  refine q_iconst 95 rfl (show sCode 1 94 = some (.iconst 0, 1) by decide +kernel) ⟨by decide, by decide⟩ ?_
  refine q_putI 98 rfl (show sCode 1 95 = some (.putfield 55, 3) by decide +kernel) (show sFR (sKo 1).1 55 = some (7, 12) by decide +kernel) (by decide +kernel) (Or.inr ⟨_, rfl, by decide +kernel, by decide +kernel⟩) ?_
  refine mkZ (F := fun M' => sW (sC d) 1 (QV PV) 98 [vT 7 a ((8 : Nat) : Int)] [] M' _ 9 1372) h (by decide) (zL_z (by decide)) ?_
  refine q_aload_n 99 rfl (show sCode 1 98 = some (.aload_n 0, 1) by decide +kernel) rfl (Nat.le_of_ble_eq_true rfl) ?_
  refine q_iconst 100 rfl (show sCode 1 99 = some (.iconst 0, 1) by decide +kernel) ⟨by decide, by decide⟩ ?_
  refine q_putI 103 rfl (show sCode 1 100 = some (.putfield 58, 3) by decide +kernel) (show sFR (sKo 1).1 58 = some (7, 13) by decide +kernel) (by decide +kernel) (Or.inr ⟨_, rfl, by decide +kernel, by decide +kernel⟩) ?_
  refine mkZ (F := fun M' => sW (sC d) 1 (QV PV) 103 [vT 7 a ((8 : Nat) : Int)] [] M' _ 9 1372) h (by decide) (zL_z (by decide)) ?_
  refine q_aload_n 104 rfl (show sCode 1 103 = some (.aload_n 0, 1) by decide +kernel) rfl (Nat.le_of_ble_eq_true rfl) ?_
  refine q_iconst 105 rfl (show sCode 1 104 = some (.iconst 0, 1) by decide +kernel) ⟨by decide, by decide⟩ ?_
  refine q_putI 108 rfl (show sCode 1 105 = some (.putfield 61, 3) by decide +kernel) (show sFR (sKo 1).1 61 = some (7, 14) by decide +kernel) (by decide +kernel) (Or.inr ⟨_, rfl, by decide +kernel, by decide +kernel⟩) ?_
  refine mkZ (F := fun M' => sW (sC d) 1 (QV PV) 108 [vT 7 a ((8 : Nat) : Int)] [] M' _ 9 1372) h (by decide) (zL_z (by decide)) ?_
  exact q_vret (show sCode 1 108 = some (.return_, 1) by decide +kernel) (by decide +kernel) ⟨by decide +kernel, by decide +kernel⟩ (kk _ _ h.1 gg h.2.2)
