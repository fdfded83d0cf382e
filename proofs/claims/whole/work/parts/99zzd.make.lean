/-! MAKING A RULE: Arrays.copyOf, Rule's constructor. -/
theorem c53 {d a0 b : Nat} {P : sV → sM → sG → Prop} {M : sM} {G : sG} {n0 z : Int} (hd : 1 ≤ d) (hn : 0 ≤ z ∧ z ≤ n0 ∧ n0 ≤ 400) (hb : 0 < b) (hg : G b = (0, 0, 0)) (hne : a0 ≠ b) (kk : ∀ M' G', (∀ x, x ≠ b → M' x = M x) → (∀ i : Nat, (i : Int) < z → M' b i = M a0 i) → (∀ x, x ≠ b → G' x = G x) → G' b = (2, z.toNat, 0) → P (vA 0 b z) M' G') : sC d 53 [vA 0 a0 n0, vI z] M G (QR P) := by
  obtain ⟨d, rfl⟩ := sD 1 (d := d) (by omega)
  have bud : (sKo 53).2.2.2.2 = 800 := by decide +kernel
  refine sC_in (Nat.le_of_ble_eq_true rfl) rfl ?_
  refine q_iload_n 1 rfl (show sCode 53 0 = some (.iload_n 1, 1) by decide +kernel) rfl ?_
  refine q_aload_n 2 rfl (show sCode 53 1 = some (.aload_n 0, 1) by decide +kernel) rfl (Nat.le_of_ble_eq_true rfl) ?_
  refine q_alen 3 rfl (show sCode 53 2 = some (.arraylength, 1) by decide +kernel) (by decide) (by omega) ?_
  refine q_icmpne 14 6 rfl (by decide) (show sCode 53 3 = some (.if_icmp .ne 11, 3) by decide +kernel) (fun q => ?_) (fun q => ?_)
  · refine q_iload_n 15 rfl (show sCode 53 14 = some (.iload_n 1, 1) by decide +kernel) rfl ?_
    refine q_newarr (u := 0) (a := b) 17 rfl (show sCode 53 15 = some (.newarray .int, 2) by decide +kernel) ⟨rfl, by decide⟩ ⟨hn.1, by omega⟩ hb hg ⟨rfl, rfl, by decide +kernel, by omega⟩ ?_
    refine q_astore_n [vA 0 a0 n0, vI z, vA 0 b z] 18 rfl (show sCode 53 17 = some (.astore_n 2, 1) by decide +kernel) ⟨Nat.le_of_ble_eq_true rfl, Or.inl (Nat.lt_of_lt_of_le (Nat.lt_succ_self _) (Nat.le_of_ble_eq_true rfl))⟩ (Nat.lt_of_lt_of_le (Nat.lt_succ_self _) (Nat.le_of_ble_eq_true rfl)) rfl rfl ?_
    refine q_aload_n 19 rfl (show sCode 53 18 = some (.aload_n 0, 1) by decide +kernel) rfl (Nat.le_of_ble_eq_true rfl) ?_
    refine q_iconst 20 rfl (show sCode 53 19 = some (.iconst 0, 1) by decide +kernel) ⟨by decide, by decide⟩ ?_
    refine q_aload_n 21 rfl (show sCode 53 20 = some (.aload_n 2, 1) by decide +kernel) rfl (Nat.le_of_ble_eq_true rfl) ?_
    refine q_iconst 22 rfl (show sCode 53 21 = some (.iconst 0, 1) by decide +kernel) ⟨by decide, by decide⟩ ?_
    refine q_aload_n 23 rfl (show sCode 53 22 = some (.aload_n 0, 1) by decide +kernel) rfl (Nat.le_of_ble_eq_true rfl) ?_
    refine q_alen 24 rfl (show sCode 53 23 = some (.arraylength, 1) by decide +kernel) (by decide) (by omega) ?_
    refine q_iload_n 25 rfl (show sCode 53 24 = some (.iload_n 1, 1) by decide +kernel) rfl ?_
    refine q_min 28 rfl (show sCode 53 25 = some (.invokestatic 304, 3) by decide +kernel) (by decide +kernel) (Nat.le_of_ble_eq_true rfl) ?_
    rw [if_pos (show z < n0 by omega)]
    refine q_copy 31 rfl (show sCode 53 28 = some (.invokestatic 150, 3) by decide +kernel) (by decide +kernel) (Nat.le_of_ble_eq_true rfl) ⟨hn.1, by decide, by decide, by omega, by omega⟩ ?_
    refine q_aload_n 32 rfl (show sCode 53 31 = some (.aload_n 2, 1) by decide +kernel) rfl (Nat.le_of_ble_eq_true rfl) ?_
    refine q_aret (show sCode 53 32 = some (.areturn, 1) by decide +kernel) (by decide +kernel) (Nat.le_of_ble_eq_true rfl) (Or.inl (Nat.le_of_ble_eq_true rfl)) ⟨by decide +kernel, by omega⟩ (kk _ _ (fun x hx => ?_) (fun i hi => ?_) (fun x hx => sGs_ne hx) sGs_eq)
    · funext j
      unfold sCpy
      rw [if_neg (fun y => hx y.1), sClr_ne hx]
    · unfold sCpy
      rw [if_pos ⟨rfl, Nat.zero_le _, by omega⟩, sClr_ne hne]
      exact congrArg (M a0) (Nat.zero_add _)
  · have q' : z = n0 := q
    subst q'
    refine q_aload_n 7 rfl (show sCode 53 6 = some (.aload_n 0, 1) by decide +kernel) rfl (Nat.le_of_ble_eq_true rfl) ?_
    refine q_step (show sCode 53 7 = some (.invokevirtual 316, 3) by decide +kernel) ⟨rfl, 1006, by decide +kernel, Or.inr (Or.inr (Or.inr ⟨a0, z, b, [], rfl, rfl, Nat.le_of_ble_eq_true rfl, hb, hg, ⟨by decide +kernel, by omega⟩, ?_⟩))⟩
    refine q_step (show sCode 53 10 = some (.checkcast 317, 3) by decide +kernel) ⟨rfl, ⟨by decide +kernel, rfl⟩, b, z, [], rfl, ?_⟩
    refine q_aret (show sCode 53 13 = some (.areturn, 1) by decide +kernel) (by decide +kernel) (Nat.le_of_ble_eq_true rfl) (Or.inl (Nat.le_of_ble_eq_true rfl)) ⟨by decide +kernel, by omega⟩ (kk _ _ (fun x hx => ?_) (fun i hi => ?_) (fun x hx => sGs_ne hx) sGs_eq)
    · funext j
      unfold sDup
      rw [if_neg hx]
    · unfold sDup
      rw [if_pos rfl]
/-- so far in Rule's constructor: o rows are set -/
def mk52 (M0 : sM) (G0 : sG) (a o : Nat) (len cl : Nat) (M : sM) (G : sG) : Prop := (∀ x, x < a ∨ a + 5 ≤ x → M x = M0 x ∧ G x = G0 x) ∧ G a = (1, 6, o) ∧ (∀ i, o < i → i < 5 → G (a + i) = (0, 0, 0)) ∧ ∀ i, 1 ≤ i → i ≤ o → G (a + i) = (2, (if i ≤ 2 then len else cl), 0) ∧ ∀ j, j < (if i ≤ 2 then len else cl) → M (a + i) j = M0 (4 + i) j
theorem mk52.row {F : sV → sM → sG → Prop} {d a o len cl : Nat} {M0 M : sM} {G0 G : sG} {y : Int} (hd : 1 ≤ d) (ha : 109 ≤ a) (ho : o < 4) (hl : len ≤ 400) (hc : cl ≤ 12) (h : mk52 M0 G0 a o len cl M G) (hy : y = (((if o + 1 ≤ 2 then len else cl : Nat)) : Int)) (n0 : Int) (hn0 : n0 = if o + 1 ≤ 2 then 400 else 12) (kk : ∀ M' G', (∀ G'', (∀ x, x ≠ a → G'' x = G' x) → G'' a = (1, 6, o + 1) → mk52 M0 G0 a (o + 1) len cl M' G'') → G' a = (1, 6, o) → G' (a + (o + 1)) = (2, (if o + 1 ≤ 2 then len else cl), 0) → F (vA 0 (a + (o + 1)) y) M' G') : sC d 53 [vA 0 (5 + o) n0, vI y] M G (QR F) := by
  obtain ⟨h1, h2, h3, h4⟩ := h
  have hyb : 0 ≤ y ∧ y ≤ n0 ∧ n0 ≤ 400 := by
    by_cases c : o + 1 ≤ 2
    · rw [if_pos c] at hy hn0; omega
    · rw [if_neg c] at hy hn0; omega
  have hyn : y.toNat = if o + 1 ≤ 2 then len else cl := by omega
  refine c53 (b := a + (o + 1)) hd hyb (by omega) (h3 (o + 1) (by omega) (by omega)) (by omega) (fun M' G' m1 m2 m3 m4 => kk M' G' (fun G'' g1 g2 => ⟨fun x hx => ?_, g2, fun i i1 i2 => ?_, fun i i1 i2 => ?_⟩) ?_ (by rw [m4, hyn]))
  · rw [m1 x (by omega), g1 x (by omega), m3 x (by omega)]; exact h1 x hx
  · rw [g1 _ (by omega), m3 _ (by omega)]; exact h3 i (by omega) i2
  · by_cases c : i = o + 1
    · rw [c, g1 _ (by omega), m4, hyn]
      refine ⟨rfl, fun j hj => ?_⟩
      rw [m2 j (by omega), show 5 + o = 4 + (o + 1) by omega, (h1 (4 + (o + 1)) (by omega)).1]
    · rw [g1 _ (by omega), m3 _ (by omega), m1 _ (by omega)]
      exact h4 i i1 (by omega)
  · rw [m3 a (by omega)]; exact h2
theorem c52 {d a len cl : Nat} {PV : sM → sG → Prop} {M : sM} {G : sG} (hd : 2 ≤ d) (ha : 109 ≤ a) (hG : G a = (1, 6, 0)) (hf : ∀ i, 1 ≤ i → i < 5 → G (a + i) = (0, 0, 0)) (h8 : M 2 8 = (len : Int)) (h9 : M 2 9 = (cl : Int)) (hl : len ≤ 400) (hc : cl ≤ 12) (kk : ∀ M' G', mk52 M G a 4 len cl M' G' → PV (sUpd M' a 4 (cl : Int)) G') : sC d 52 [vT 6 a 0, vO 7 2] M G (QV PV) := by
  obtain ⟨d, rfl⟩ := sD 1 (d := d) (by omega)
  refine sC_in (Nat.le_of_ble_eq_true rfl) rfl ?_
  have h : mk52 M G a 0 len cl M G := ⟨fun _ _ => ⟨rfl, rfl⟩, hG, fun i i1 i2 => hf i (by omega) i2, fun i i1 i2 => by omega⟩
  obtain ⟨M0, hM0⟩ : ∃ M0, M0 = M := ⟨_, rfl⟩
  obtain ⟨G0, hG0⟩ : ∃ G0, G0 = G := ⟨_, rfl⟩
  rw [← hM0] at h8 h9
  have e2 : ∀ {o : Nat} {M1 : sM} {G1 : sG}, mk52 M0 G0 a o len cl M1 G1 → M1 2 = M0 2 := fun h => (h.1 2 (by omega)).1
  have kk' : ∀ M' G', mk52 M0 G0 a 4 len cl M' G' → PV (sUpd M' a 4 (cl : Int)) G' := by rw [hM0, hG0]; exact kk
  have h : mk52 M0 G0 a 0 len cl M G := by rw [hM0, hG0]; exact h
  clear kk hM0 hG0 hG hf
  refine q_aload_n 1 rfl (show sCode 52 0 = some (.aload_n 0, 1) by decide +kernel) rfl (Nat.le_of_ble_eq_true rfl) ?_
  refine q_objI 4 rfl (show sCode 52 1 = some (.invokespecial 1, 3) by decide +kernel) (by decide +kernel) (Nat.le_of_ble_eq_true rfl) ?_
  refine q_aload_n 5 rfl (show sCode 52 4 = some (.aload_n 0, 1) by decide +kernel) rfl (Nat.le_of_ble_eq_true rfl) ?_
  refine q_aload_n 6 rfl (show sCode 52 5 = some (.aload_n 1, 1) by decide +kernel) rfl (Nat.le_of_ble_eq_true rfl) ?_
  refine q_getR (vA 0 5 400) 9 rfl (show sCode 52 6 = some (.getfield 7, 3) by decide +kernel) (show sFR (sKo 52).1 7 = some (7, 1) by decide +kernel) (by decide +kernel) (Or.inl (Or.inl rfl)) rfl ?_
  refine q_aload_n 10 rfl (show sCode 52 9 = some (.aload_n 1, 1) by decide +kernel) rfl (Nat.le_of_ble_eq_true rfl) ?_
  refine q_getI 13 rfl (show sCode 52 10 = some (.getfield 13, 3) by decide +kernel) (show sFR (sKo 52).1 13 = some (7, 8) by decide +kernel) (by decide +kernel) (Or.inl (Or.inl rfl)) ?_
  rw [e2 h, h8]
  refine q_statR [vA 0 5 400, vI (len : Int)] 16 rfl (show sCode 52 13 = some (.invokestatic 17, 3) by decide +kernel) (show sMR (sKo 52).1 17 = some 53 by decide +kernel) (show 53 < 1000 ∧ sStat 53 = true ∧ sKo 53 = (14, 2, 4, 2, 800) by decide +kernel) rfl rfl (Nat.le_of_ble_eq_true rfl) rfl rfl rfl ⟨rfl, rfl, by decide +kernel, by decide +kernel⟩ ?_
  refine mk52.row (M0 := M0) (G0 := G0) (o := 0) (len := len) (cl := cl) (by omega) ha (by decide) hl hc h rfl 400 rfl ?_
  intro M G h' g1 g2
  refine q_putR (o := 0) 19 rfl (show sCode 52 16 = some (.putfield 23, 3) by decide +kernel) (show sFR (sKo 52).1 23 = some (6, 0) by decide +kernel) (by decide +kernel) ?_ rfl ?_
  · have hs : sFI 6 0 = (0, 1, 4, -1) := by decide +kernel
    unfold sRef
    rw [hs]
    show vA 0 (a + (0 + 1)) _ = (4, a + 1, if (-1 : Int) < 0 then ((G (a + 1)).2.1 : Int) else -1)
    rw [if_pos (show (-1 : Int) < 0 by decide), show G (a + 1) = _ from g2]
  have h := h' (sGs G a (1, 6, 0 + 1)) (fun x hx => sGs_ne hx) sGs_eq
  clear h' g1 g2
  refine q_aload_n 20 rfl (show sCode 52 19 = some (.aload_n 0, 1) by decide +kernel) rfl (Nat.le_of_ble_eq_true rfl) ?_
  refine q_aload_n 21 rfl (show sCode 52 20 = some (.aload_n 1, 1) by decide +kernel) rfl (Nat.le_of_ble_eq_true rfl) ?_
  refine q_getR (vA 0 6 400) 24 rfl (show sCode 52 21 = some (.getfield 26, 3) by decide +kernel) (show sFR (sKo 52).1 26 = some (7, 2) by decide +kernel) (by decide +kernel) (Or.inl (Or.inl rfl)) rfl ?_
  refine q_aload_n 25 rfl (show sCode 52 24 = some (.aload_n 1, 1) by decide +kernel) rfl (Nat.le_of_ble_eq_true rfl) ?_
  refine q_getI 28 rfl (show sCode 52 25 = some (.getfield 13, 3) by decide +kernel) (show sFR (sKo 52).1 13 = some (7, 8) by decide +kernel) (by decide +kernel) (Or.inl (Or.inl rfl)) ?_
  rw [e2 h, h8]
  refine q_statR [vA 0 6 400, vI (len : Int)] 31 rfl (show sCode 52 28 = some (.invokestatic 17, 3) by decide +kernel) (show sMR (sKo 52).1 17 = some 53 by decide +kernel) (show 53 < 1000 ∧ sStat 53 = true ∧ sKo 53 = (14, 2, 4, 2, 800) by decide +kernel) rfl rfl (Nat.le_of_ble_eq_true rfl) rfl rfl rfl ⟨rfl, rfl, by decide +kernel, by decide +kernel⟩ ?_
  refine mk52.row (M0 := M0) (G0 := G0) (o := 1) (len := len) (cl := cl) (by omega) ha (by decide) hl hc h rfl 400 rfl ?_
  intro M G h' g1 g2
  refine q_putR (o := 1) 34 rfl (show sCode 52 31 = some (.putfield 29, 3) by decide +kernel) (show sFR (sKo 52).1 29 = some (6, 1) by decide +kernel) (by decide +kernel) ?_ rfl ?_
  · have hs : sFI 6 1 = (1, 2, 4, -1) := by decide +kernel
    unfold sRef
    rw [hs]
    show vA 0 (a + (1 + 1)) _ = (4, a + 2, if (-1 : Int) < 0 then ((G (a + 2)).2.1 : Int) else -1)
    rw [if_pos (show (-1 : Int) < 0 by decide), show G (a + 2) = _ from g2]
  have h := h' (sGs G a (1, 6, 1 + 1)) (fun x hx => sGs_ne hx) sGs_eq
  clear h' g1 g2
  refine q_aload_n 35 rfl (show sCode 52 34 = some (.aload_n 0, 1) by decide +kernel) rfl (Nat.le_of_ble_eq_true rfl) ?_
  refine q_aload_n 36 rfl (show sCode 52 35 = some (.aload_n 1, 1) by decide +kernel) rfl (Nat.le_of_ble_eq_true rfl) ?_
  refine q_getR (vA 0 7 12) 39 rfl (show sCode 52 36 = some (.getfield 30, 3) by decide +kernel) (show sFR (sKo 52).1 30 = some (7, 3) by decide +kernel) (by decide +kernel) (Or.inl (Or.inl rfl)) rfl ?_
  refine q_aload_n 40 rfl (show sCode 52 39 = some (.aload_n 1, 1) by decide +kernel) rfl (Nat.le_of_ble_eq_true rfl) ?_
  refine q_getI 43 rfl (show sCode 52 40 = some (.getfield 33, 3) by decide +kernel) (show sFR (sKo 52).1 33 = some (7, 9) by decide +kernel) (by decide +kernel) (Or.inl (Or.inl rfl)) ?_
  rw [e2 h, h9]
  refine q_statR [vA 0 7 12, vI (cl : Int)] 46 rfl (show sCode 52 43 = some (.invokestatic 17, 3) by decide +kernel) (show sMR (sKo 52).1 17 = some 53 by decide +kernel) (show 53 < 1000 ∧ sStat 53 = true ∧ sKo 53 = (14, 2, 4, 2, 800) by decide +kernel) rfl rfl (Nat.le_of_ble_eq_true rfl) rfl rfl rfl ⟨rfl, rfl, by decide +kernel, by decide +kernel⟩ ?_
  refine mk52.row (M0 := M0) (G0 := G0) (o := 2) (len := len) (cl := cl) (by omega) ha (by decide) hl hc h rfl 12 rfl ?_
  intro M G h' g1 g2
  refine q_putR (o := 2) 49 rfl (show sCode 52 46 = some (.putfield 36, 3) by decide +kernel) (show sFR (sKo 52).1 36 = some (6, 2) by decide +kernel) (by decide +kernel) ?_ rfl ?_
  · have hs : sFI 6 2 = (2, 3, 4, -1) := by decide +kernel
    unfold sRef
    rw [hs]
    show vA 0 (a + (2 + 1)) _ = (4, a + 3, if (-1 : Int) < 0 then ((G (a + 3)).2.1 : Int) else -1)
    rw [if_pos (show (-1 : Int) < 0 by decide), show G (a + 3) = _ from g2]
  have h := h' (sGs G a (1, 6, 2 + 1)) (fun x hx => sGs_ne hx) sGs_eq
  clear h' g1 g2
  refine q_aload_n 50 rfl (show sCode 52 49 = some (.aload_n 0, 1) by decide +kernel) rfl (Nat.le_of_ble_eq_true rfl) ?_
  refine q_aload_n 51 rfl (show sCode 52 50 = some (.aload_n 1, 1) by decide +kernel) rfl (Nat.le_of_ble_eq_true rfl) ?_
  refine q_getR (vA 0 8 12) 54 rfl (show sCode 52 51 = some (.getfield 37, 3) by decide +kernel) (show sFR (sKo 52).1 37 = some (7, 4) by decide +kernel) (by decide +kernel) (Or.inl (Or.inl rfl)) rfl ?_
  refine q_aload_n 55 rfl (show sCode 52 54 = some (.aload_n 1, 1) by decide +kernel) rfl (Nat.le_of_ble_eq_true rfl) ?_
  refine q_getI 58 rfl (show sCode 52 55 = some (.getfield 33, 3) by decide +kernel) (show sFR (sKo 52).1 33 = some (7, 9) by decide +kernel) (by decide +kernel) (Or.inl (Or.inl rfl)) ?_
  rw [e2 h, h9]
  refine q_statR [vA 0 8 12, vI (cl : Int)] 61 rfl (show sCode 52 58 = some (.invokestatic 17, 3) by decide +kernel) (show sMR (sKo 52).1 17 = some 53 by decide +kernel) (show 53 < 1000 ∧ sStat 53 = true ∧ sKo 53 = (14, 2, 4, 2, 800) by decide +kernel) rfl rfl (Nat.le_of_ble_eq_true rfl) rfl rfl rfl ⟨rfl, rfl, by decide +kernel, by decide +kernel⟩ ?_
  refine mk52.row (M0 := M0) (G0 := G0) (o := 3) (len := len) (cl := cl) (by omega) ha (by decide) hl hc h rfl 12 rfl ?_
  intro M G h' g1 g2
  refine q_putR (o := 3) 64 rfl (show sCode 52 61 = some (.putfield 40, 3) by decide +kernel) (show sFR (sKo 52).1 40 = some (6, 3) by decide +kernel) (by decide +kernel) ?_ rfl ?_
  · have hs : sFI 6 3 = (3, 4, 4, -1) := by decide +kernel
    unfold sRef
    rw [hs]
    show vA 0 (a + (3 + 1)) _ = (4, a + 4, if (-1 : Int) < 0 then ((G (a + 4)).2.1 : Int) else -1)
    rw [if_pos (show (-1 : Int) < 0 by decide), show G (a + 4) = _ from g2]
  have h := h' (sGs G a (1, 6, 3 + 1)) (fun x hx => sGs_ne hx) sGs_eq
  clear h' g1 g2
  refine q_aload_n 65 rfl (show sCode 52 64 = some (.aload_n 0, 1) by decide +kernel) rfl (Nat.le_of_ble_eq_true rfl) ?_
  refine q_aload_n 66 rfl (show sCode 52 65 = some (.aload_n 1, 1) by decide +kernel) rfl (Nat.le_of_ble_eq_true rfl) ?_
  refine q_getI 69 rfl (show sCode 52 66 = some (.getfield 33, 3) by decide +kernel) (show sFR (sKo 52).1 33 = some (7, 9) by decide +kernel) (by decide +kernel) (Or.inl (Or.inl rfl)) ?_
  rw [e2 h, h9]
  refine q_putI 72 rfl (show sCode 52 69 = some (.putfield 41, 3) by decide +kernel) (show sFR (sKo 52).1 41 = some (6, 4) by decide +kernel) (by decide +kernel) (Or.inr ⟨_, rfl, by decide +kernel, by decide +kernel⟩) ?_
  exact q_vret (show sCode 52 72 = some (.return_, 1) by decide +kernel) (by decide +kernel) ⟨by decide +kernel, by decide +kernel⟩ (kk' _ _ h)
