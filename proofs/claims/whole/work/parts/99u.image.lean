/-! STEP: image. -/
theorem ruleC.congrG {M : sM} {G G' : sG} {a : Nat} {n : Int} {kd : Nat → Int} {D : Nat → (Nat → Int) → Int} (h : ruleC M G a n kd D) (e : ∀ k, k ≤ 4 → G' (a + k) = G (a + k)) : ruleC M G' a n kd D := by
  unfold ruleC at h ⊢
  rw [e 1 (by omega), e 2 (by omega), e 3 (by omega), e 4 (by omega)]
  exact h
theorem iRules.keepG {own own' : Nat → Nat} {M : sM} {G G' : sG} (h : iRules own M G) (eo : ∀ a, own a = 1 → own' a = 1) (e : ∀ a, 109 ≤ a → own a = 1 → G' a = G a) : iRules own' M G' := by
  obtain ⟨a0, a1, a2, hr⟩ := h
  refine ⟨a0, a1, a2, fun r r0 r1 => ?_⟩
  obtain ⟨g1, g2, n, kd, D, hc, hf⟩ := hr r r0 r1
  exact ⟨g1, fun j hj => eo _ (g2 j hj), n, kd, D, hc.congrG (fun k hk => e _ (by omega) (g2 k (by omega))), hf⟩
theorem b164_37 {d n m a : Nat} {P : Int → sM → sG → Prop} {M : sM} {G : sG} {x : Int} {v : sV} (hv : v = vO 8 a ∨ (v = vQ 8 a ∧ a ≠ 0)) (hn : n ≤ 28) (hm : m ≤ 366) (kk : sC d 165 [vO 8 a, vO 8 13] M G (QV (fun M' G' => P (M' 14 13) M' G'))) : sW (sC d) 164 (QI P) 37 [vO 11 1, vI x, v] [] M G n m := by
  have v3 : 3 ≤ v.1 := by rcases hv with h | ⟨h, -⟩ <;> rw [h] <;> exact Nat.le_of_ble_eq_true rfl
  have v4 : sNoF [vO 11 1, vI x, v] = true := by rcases hv with h | ⟨h, -⟩ <;> rw [h] <;> rfl
  refine q_aload_n 38 rfl (show sCode 164 37 = some (.aload_n 2, 1) by decide +kernel) rfl v3 ?_
  refine q_aload_n 39 rfl (show sCode 164 38 = some (.aload_n 0, 1) by decide +kernel) rfl (Nat.le_of_ble_eq_true rfl) ?_
  refine q_getR (vO 8 13) 42 rfl (show sCode 164 39 = some (.getfield 32, 3) by decide +kernel) (show sFR (sKo 164).1 32 = some (11, 3) by decide +kernel) (by decide +kernel) (Or.inl (Or.inl rfl)) rfl ?_
  refine q_virtV [vO 8 13] 45 rfl (show sCode 164 42 = some (.invokevirtual 370, 3) by decide +kernel) (show sMR (sKo 164).1 370 = some 165 by decide +kernel) (show 165 < 1000 ∧ sStat 165 = false ∧ sIni 165 = false ∧ sKo 165 = (8, 1, 0, 0, 0) by decide +kernel) rfl (hv.elim Or.inl (fun h => Or.inr (Or.inl h))) rfl (Nat.le_of_ble_eq_true rfl) v4 rfl rfl ⟨rfl, rfl, hn, hm⟩ ?_
  refine sC_mono d _ _ _ _ _ _ (fun r M' G' h => ⟨h.1, ?_⟩) kk
  refine q_aload_n 46 rfl (show sCode 164 45 = some (.aload_n 0, 1) by decide +kernel) rfl (Nat.le_of_ble_eq_true rfl) ?_
  refine q_getR (vO 8 13) 49 rfl (show sCode 164 46 = some (.getfield 32, 3) by decide +kernel) (show sFR (sKo 164).1 32 = some (11, 3) by decide +kernel) (by decide +kernel) (Or.inl (Or.inl rfl)) rfl ?_
  refine q_getR (vO 10 14) 52 rfl (show sCode 164 49 = some (.getfield 103, 3) by decide +kernel) (show sFR (sKo 164).1 103 = some (8, 0) by decide +kernel) (by decide +kernel) (Or.inl (Or.inl rfl)) rfl ?_
  refine q_getI 55 rfl (show sCode 164 52 = some (.getfield 194, 3) by decide +kernel) (show sFR (sKo 164).1 194 = some (10, 13) by decide +kernel) (by decide +kernel) (Or.inl (Or.inl rfl)) ?_
  exact q_iret (show sCode 164 55 = some (.ireturn, 1) by decide +kernel) (by decide +kernel) ⟨hn, hm⟩ h.2
theorem b164_0 {d : Nat} {P : Int → sM → sG → Prop} {M : sM} {G : sG} {x : Int} (k1 : x < 0 ∨ 3 < x → P (-1) M G) (k2 : 0 ≤ x → x ≤ 3 → sW (sC d) 164 (QI P) 18 [vO 11 1, vI x, vQ 8 (M 41 x.toNat).toNat] [] M G 0 0) : sW (sC d) 164 (QI P) 0 [vO 11 1, vI x, vN] [] M G 0 0 := by
  have bad : x < 0 ∨ 3 < x → sW (sC d) 164 (QI P) 9 [vO 11 1, vI x, vN] [] M G 0 0 := fun h => by
    refine q_iconst 10 rfl (show sCode 164 9 = some (.iconst (-1), 1) by decide +kernel) ⟨by decide, by decide⟩ ?_
    exact q_iret (show sCode 164 10 = some (.ireturn, 1) by decide +kernel) (by decide +kernel) ⟨by decide, by decide⟩ (k1 h)
  refine q_iload_n 1 rfl (show sCode 164 0 = some (.iload_n 1, 1) by decide +kernel) rfl ?_
  refine q_iflt 9 4 rfl (by decide) (show sCode 164 1 = some (.ifCond .lt 8, 3) by decide +kernel) (fun q => bad (Or.inl q)) (fun q => ?_)
  refine q_iload_n 5 rfl (show sCode 164 4 = some (.iload_n 1, 1) by decide +kernel) rfl ?_
  refine q_iconst 6 rfl (show sCode 164 5 = some (.iconst 4, 1) by decide +kernel) ⟨by decide, by decide⟩ ?_
  refine q_icmplt 11 9 rfl (by decide) (show sCode 164 6 = some (.if_icmp .lt 5, 3) by decide +kernel) (fun q2 => ?_) (fun q2 => bad (Or.inr (by omega)))
  refine q_aload_n 12 rfl (show sCode 164 11 = some (.aload_n 0, 1) by decide +kernel) rfl (Nat.le_of_ble_eq_true rfl) ?_
  refine q_getR (vB 8 41 4) 15 rfl (show sCode 164 12 = some (.getfield 36, 3) by decide +kernel) (show sFR (sKo 164).1 36 = some (11, 4) by decide +kernel) (by decide +kernel) (Or.inl (Or.inl rfl)) rfl ?_
  refine q_iload_n 16 rfl (show sCode 164 15 = some (.iload_n 1, 1) by decide +kernel) rfl ?_
  refine q_aald 17 rfl (show sCode 164 16 = some (.aaload, 1) by decide +kernel) ⟨q, q2⟩ ?_
  refine q_astore_n [vO 11 1, vI x, vQ 8 (M 41 x.toNat).toNat] 18 rfl (show sCode 164 17 = some (.astore_n 2, 1) by decide +kernel) ⟨Nat.le_of_ble_eq_true rfl, Or.inl (Nat.lt_of_lt_of_le (Nat.lt_succ_self _) (Nat.le_of_ble_eq_true rfl))⟩ (Nat.lt_of_lt_of_le (Nat.lt_succ_self _) (Nat.le_of_ble_eq_true rfl)) rfl rfl ?_
  exact k2 q (by omega)
theorem c164_bad {d : Nat} {P : Int → sM → sG → Prop} {M : sM} {G : sG} {x : Int} (hd : 2 ≤ d) (hx : x < 0 ∨ 3 < x) (kk : P (-1) M G) : sC d 164 [vO 11 1, vI x] M G (QI P) := by
  obtain ⟨d, rfl⟩ := sD 1 (d := d) (by omega)
  exact sC_in (Nat.le_of_ble_eq_true rfl) rfl (b164_0 (fun _ => kk) (fun _ _ => by omega))
theorem c164_old {d a : Nat} {P : Int → sM → sG → Prop} {M : sM} {G : sG} {x : Int} (hd : 20 ≤ d) (h0 : 0 ≤ x) (h1 : x ≤ 3) (ha : (M 41 x.toNat).toNat = a) (hz : a ≠ 0) (kk : ∀ M', M' = cpTold (cpTown M (a + 1) 14) (a + 16) 29 → P (M' 14 13) M' G) : sC d 164 [vO 11 1, vI x] M G (QI P) := by
  obtain ⟨d, rfl⟩ := sD 1 (d := d) (by omega)
  refine sC_in (Nat.le_of_ble_eq_true rfl) rfl (b164_0 (fun _ => by omega) (fun _ _ => ?_))
  rw [ha]
  refine q_aload_n 19 rfl (show sCode 164 18 = some (.aload_n 2, 1) by decide +kernel) rfl (Nat.le_of_ble_eq_true rfl) ?_
  refine q_ifnonnull 37 22 rfl (by decide) (show sCode 164 19 = some (.ifnonnull 18, 3) by decide +kernel) (fun _ => ?_) (fun q => absurd q hz)
  exact b164_37 (Or.inr ⟨rfl, hz⟩) (by decide) (by decide) (c165 (by omega) (kk _ rfl))
theorem c164_new {d a : Nat} {P : Int → sM → sG → Prop} {M : sM} {G : sG} {x : Int} (hd : 20 ≤ d) (h0 : 0 ≤ x) (h1 : x ≤ 3) (hz : M 41 x.toNat = 0) (ha : 0 < a) (hg : ∀ i, i < 28 → G (a + i) = (0, 0, 0)) (kk : ∀ M1 G' M', (∀ b, b < a ∨ a + 28 ≤ b → M1 b = M b ∧ G' b = G b) → M' = cpTold (cpTown (sUpd M1 41 x.toNat (a : Int)) (a + 1) 14) (a + 16) 29 → P (M' 14 13) M' G') : sC d 164 [vO 11 1, vI x] M G (QI P) := by
  obtain ⟨d, rfl⟩ := sD 1 (d := d) (by omega)
  refine sC_in (Nat.le_of_ble_eq_true rfl) rfl (b164_0 (fun _ => by omega) (fun _ _ => ?_))
  rw [show (M 41 x.toNat).toNat = 0 by rw [hz]; rfl]
  refine q_aload_n 19 rfl (show sCode 164 18 = some (.aload_n 2, 1) by decide +kernel) rfl (Nat.le_of_ble_eq_true rfl) ?_
  refine q_ifnonnull 37 22 rfl (by decide) (show sCode 164 19 = some (.ifnonnull 18, 3) by decide +kernel) (fun q => absurd rfl q) (fun _ => ?_)
  have hg0 := hg 0 (by decide)
  refine q_new (a := a) 25 rfl (show sCode 164 22 = some (.new 29, 3) by decide +kernel) (show sCR (sKo 164).1 29 = some 8 by decide +kernel) ha hg0 ⟨rfl, rfl, by decide +kernel, by decide +kernel⟩ ?_
  refine q_dup 26 rfl (show sCode 164 25 = some (.dup, 1) by decide +kernel) rfl ?_
  refine q_init [] 29 rfl (show sCode 164 26 = some (.invokespecial 31, 3) by decide +kernel) (show sMR (sKo 164).1 31 = some 3 by decide +kernel) (show 3 < 1000 ∧ sStat 3 = false ∧ sIni 3 = true ∧ sKo 3 = (8, 0, 0, 27, 364) by decide +kernel) rfl rfl (Nat.le_of_ble_eq_true rfl) rfl rfl rfl ⟨rfl, rfl, by decide +kernel, by decide +kernel⟩ ?_
  refine n3 d a _ _ (fun M' G' => G' a = (1, 8, sFul 8) ∧ sW (sC d) 164 (QI P) 29 [vO 11 1, vI x, vQ 8 0] [vO 8 a] M' G' (0 + 1 + 27) (0 + sNF 8 + 364)) (by omega) ha sClr_eq sGs_eq (fun i i1 i2 => ?_) (fun M1 G1 g1 g2 g3 => ⟨g2, ?_⟩)
  · rw [sGs_ne (by omega), sGs_ne (by omega)]; exact hg i i2
  refine q_astore_n [vO 11 1, vI x, vO 8 a] 30 rfl (show sCode 164 29 = some (.astore_n 2, 1) by decide +kernel) ⟨Nat.le_of_ble_eq_true rfl, Or.inl (Nat.lt_of_lt_of_le (Nat.lt_succ_self _) (Nat.le_of_ble_eq_true rfl))⟩ (Nat.lt_of_lt_of_le (Nat.lt_succ_self _) (Nat.le_of_ble_eq_true rfl)) rfl rfl ?_
  refine q_aload_n 31 rfl (show sCode 164 30 = some (.aload_n 0, 1) by decide +kernel) rfl (Nat.le_of_ble_eq_true rfl) ?_
  refine q_getR (vB 8 41 4) 34 rfl (show sCode 164 31 = some (.getfield 36, 3) by decide +kernel) (show sFR (sKo 164).1 36 = some (11, 4) by decide +kernel) (by decide +kernel) (Or.inl (Or.inl rfl)) rfl ?_
  refine q_iload_n 35 rfl (show sCode 164 34 = some (.iload_n 1, 1) by decide +kernel) rfl ?_
  refine q_aload_n 36 rfl (show sCode 164 35 = some (.aload_n 2, 1) by decide +kernel) rfl (Nat.le_of_ble_eq_true rfl) ?_
  refine q_aast 37 rfl (show sCode 164 36 = some (.aastore, 1) by decide +kernel) ⟨h0, by omega⟩ (Or.inl rfl) (by omega) ?_
  refine b164_37 (Or.inl rfl) (by decide +kernel) (by decide +kernel) (c165 (by omega) ?_)
  refine kk M1 G1 _ (fun b hb => ?_) rfl
  have := g1 b hb
  rw [this.1, this.2, sClr_ne (by omega), sGs_ne (by omega), sGs_ne (by omega)]
  exact ⟨rfl, rfl⟩
section
variable {own : Nat → Nat} {N0 N1 d a : Nat} {t : Int} {M M1 : sM} {G G1 : sG} {k : Nat}
theorem imgFin (hd : 40 ≤ d) (t0 : 0 ≤ t) (hN : ∀ b, N0 ≤ b → G b = (0, 0, 0) ∧ own b = 0) (hN2 : 109 ≤ N0) (h1 : iTape M) (h2 : iRules own M G) (h3 : iImgs own t M G) (h4 : iTown t M) (h5 : iTold M) (k4 : k < 4) (a109 : 109 ≤ a) (how : ∀ b, a ≤ b → b < a + 28 → own b = 10 + k ∨ own b = 0) (hN0 : N0 ≤ N1) (hNa : a + 28 ≤ N1) (hG : ∀ b, N1 ≤ b → G1 b = (0, 0, 0))
    (hb : ∀ b, b ≠ 41 → ¬ (a ≤ b ∧ b < a + 28) → M1 b = M b) (hbG : ∀ b, b ≠ 41 → ¬ (a ≤ b ∧ b < a + 28) → G1 b = G b) (h41 : ∀ j, M1 41 j = if j = k then (a : Int) else M 41 j) (t1 : TR (a + 1) M1 (M 93)) (t2 : TO (a + 16) M1 (M 93)) : sC d 277 [vO 12 82, vI (k : Int)] M1 G1 (QI (LPost t (M 93 2))) := by
  have fin : ∀ N : sM, (∀ b, b ≠ 106 → b ≠ 107 → N b = M1 b) → (∀ j, N 107 j = if j = k then 1 else M 107 j) → (∀ j : Nat, j < 274 → N 106 (274 * k + j) = M 93 j) → (∀ j : Nat, j < 274 * k ∨ 274 * k + 274 ≤ j → N 106 j = M 106 j) → Inv (t + 1) N G1 := by
    intro N n1 n107 n2 n3
    have nb : ∀ b, b ≠ 41 → b ≠ 106 → b ≠ 107 → ¬ (a ≤ b ∧ b < a + 28) → N b = M b := fun b c1 c2 c3 c4 => (n1 b c2 c3).trans (hb b c1 c4)
    have l1 := h2.keepG (own' := fun b => if a ≤ b ∧ b < a + 28 then 10 + k else own b) (G' := G1) (fun b hb1 => by
      show (if a ≤ b ∧ b < a + 28 then 10 + k else own b) = 1
      rw [if_neg (fun z => by rcases how b z.1 z.2 with y | y <;> omega)]
      exact hb1) (fun b hb0 hb1 => hbG b (by omega) (fun z => by rcases how b z.1 z.2 with y | y <;> omega))
    refine ⟨by omega, _, N1, fun b hb1 => ⟨hG b hb1, ?_⟩, by omega, h1.keep (by rw [nb 3 (by decide) (by decide) (by decide) (by omega)]) (by rw [nb 82 (by decide) (by decide) (by decide) (by omega)]) (nb 4 (by decide) (by decide) (by decide) (by omega)) (nb 83 (by decide) (by decide) (by decide) (by omega)), l1.keep (by rw [nb 1 (by decide) (by decide) (by decide) (by omega)]) (by rw [nb 82 (by decide) (by decide) (by decide) (by omega)]) (nb 12 (by decide) (by decide) (by decide) (by omega)) (nb 84 (by decide) (by decide) (by decide) (by omega)) (nb 86 (by decide) (by decide) (by decide) (by omega)) (nb 87 (by decide) (by decide) (by decide) (by omega)) (fun b b1 b2 => ?_), ?_, ?_, ?_⟩
    · show (if a ≤ b ∧ b < a + 28 then 10 + k else own b) = 0
      rw [if_neg (by omega)]
      exact (hN b (by omega)).2
    · have b2' : (if a ≤ b ∧ b < a + 28 then 10 + k else own b) = 1 := b2
      refine nb b (by omega) (by omega) (by omega) (fun z => ?_)
      rw [if_pos z] at b2'
      omega
    · intro k' k'0 k'1
      obtain ⟨k', rfl⟩ : ∃ q : Nat, k' = (q : Int) := ⟨k'.toNat, z_nat k'0⟩
      have e107 := n107 k'
      have e41 : N 41 k' = if k' = k then (a : Int) else M 41 k' := by rw [n1 41 (by decide) (by decide)]; exact h41 k'
      show (N 107 k' = 0 ∧ N 41 k' = 0) ∨ _
      by_cases c : k' = k
      · rw [if_pos c] at e107 e41
        have ei : ∀ j, j < 274 → imgS N (k' : Int) j = M 93 j := fun j hj => by
          show N 106 (274 * (k' : Int) + (j : Int)).toNat = _
          rw [show (274 * (k' : Int) + (j : Int)).toNat = 274 * k + j by omega]
          exact n2 j hj
        have z : (N 41 ((k' : Int)).toNat).toNat = a := by show (N 41 k').toNat = a; rw [e41]; rfl
        refine Or.inr ⟨e107, by show 109 ≤ N 41 k'; rw [e41]; omega, ?_, (h4.1.mono (by omega)).lo ei, ?_, h5.1.lo ei, ?_, ?_⟩
        · rw [z]
          intro j hj
          show (if a ≤ a + j ∧ a + j < a + 28 then 10 + k else own (a + j)) = _
          rw [if_pos (by omega), c]
          rfl
        · have l := h4.2.1
          unfold lowLate at l ⊢
          rw [ei 3 (by decide), ei 2 (by decide)]; exact l
        · rw [z]
          exact TR.lo h4.1 (t1.congr (fun b b1 b2 => n1 b (by omega) (by omega))) ei
        · rw [z]
          exact TO.lo h5.1 (t2.congr (fun b b1 b2 => n1 b (by omega) (by omega))) ei
      · rw [if_neg c] at e107 e41
        have ei : ∀ j, j < 274 → imgS N (k' : Int) j = imgS M (k' : Int) j := fun j hj => n3 _ (by omega)
        rcases h3 k' k'0 k'1 with z | ⟨z1, z2, z3, z4, z5, z6, z7, z8⟩
        · exact Or.inl ⟨e107.trans z.1, e41.trans z.2⟩
        · have z : N 41 ((k' : Int)).toNat = M 41 ((k' : Int)).toNat := e41
          have off : ∀ b, (M 41 ((k' : Int)).toNat).toNat ≤ b → b < (M 41 ((k' : Int)).toNat).toNat + 28 → N b = M b := fun b b1 b2 => by
            refine nb b (by omega) (by omega) (by omega) (fun y => ?_)
            have y1 := z3 (b - (M 41 ((k' : Int)).toNat).toNat) (by omega)
            rw [show (M 41 ((k' : Int)).toNat).toNat + (b - (M 41 ((k' : Int)).toNat).toNat) = b by omega] at y1
            rcases how b y.1 y.2 with y2 | y2 <;> omega
          refine Or.inr ⟨e107.trans z1, by rw [z]; exact z2, ?_, (z4.mono (by omega)).lo ei, ?_, z6.lo ei, ?_, ?_⟩
          · rw [z]
            intro j hj
            have y1 := z3 j hj
            show (if a ≤ (M 41 ((k' : Int)).toNat).toNat + j ∧ (M 41 ((k' : Int)).toNat).toNat + j < a + 28 then 10 + k else own ((M 41 ((k' : Int)).toNat).toNat + j)) = _
            rw [if_neg (fun y => by rcases how _ y.1 y.2 with y2 | y2 <;> omega)]
            exact y1
          · unfold lowLate at z5 ⊢
            rw [ei 3 (by decide), ei 2 (by decide)]; exact z5
          · rw [z]
            exact TR.lo z4 (z7.congr (fun b b1 b2 => off b (by omega) (by omega))) ei
          · rw [z]
            exact TO.lo z6 (z8.congr (fun b b1 b2 => off b (by omega) (by omega))) ei
    · have e93 : N 93 = M 93 := nb 93 (by decide) (by decide) (by decide) (by omega)
      obtain ⟨v, l, tr⟩ := h4
      exact ⟨by rw [e93]; exact v.mono (by omega), by rw [e93]; exact l, by rw [e93]; exact tr.congr (fun b _ _ => nb b (by omega) (by omega) (by omega) (by omega))⟩
    · have e93 : N 93 = M 93 := nb 93 (by decide) (by decide) (by decide) (by omega)
      obtain ⟨v, tr⟩ := h5
      exact ⟨by rw [e93]; exact v, by rw [e93]; exact tr.congr (fun b _ _ => nb b (by omega) (by omega) (by omega) (by omega))⟩
  have e93 : M1 93 = M 93 := hb 93 (by decide) (by omega)
  have e106 : M1 106 = M 106 := hb 106 (by decide) (by omega)
  have e107 : M1 107 = M 107 := hb 107 (by decide) (by omega)
  obtain ⟨d, rfl⟩ := sD 2 (d := d) (by omega)
  have loop : sW (sC (d + 1)) 277 (QI (LPost t (M 93 2))) 23 [vO 12 82, vI (k : Int), vI ((0 : Nat) : Int)] [] (sUpd M1 107 ((k : Int)).toNat 1) G1 0 0 := by
    refine sUpTo (W := fun i => ∀ N : sM, (∀ b, b ≠ 106 → b ≠ 107 → N b = M1 b) → (∀ j, N 107 j = if j = k then 1 else M 107 j) → (∀ j : Nat, j < i → N 106 (274 * k + j) = M 93 j) → (∀ j : Nat, j < 274 * k ∨ 274 * k + 274 ≤ j → N 106 j = M 106 j) → sW (sC (d + 1)) 277 (QI (LPost t (M 93 2))) 23 [vO 12 82, vI (k : Int), vI (i : Int)] [] N G1 0 0) 274 ?_ ?_ _ (fun b b1 b2 => sUpd_ne b2) (fun j => ?_) (fun j hj => absurd hj (Nat.not_lt_zero j)) (fun j hj => ?_)
    · intro N n1 n107 n2 n3
      refine (s277_23 ⟨fun q1 => ?_, fun q2 => ⟨⟨by omega, by omega⟩, ⟨by omega, by omega⟩, ⟨(by first | omega | assumption | (refine ⟨?_, ?_⟩ <;> omega) | (simp_all; done)), (by first | omega | assumption | (refine ⟨?_, ?_⟩ <;> omega) | (simp_all; done))⟩, ⟨(by first | omega | assumption | (refine ⟨?_, ?_⟩ <;> omega) | (simp_all; done)), (by first | omega | assumption | (refine ⟨?_, ?_⟩ <;> omega) | (simp_all; done))⟩, ⟨by omega, by omega⟩, ?_⟩⟩)
      · exact ⟨by rw [n1 93 (by decide) (by decide), e93], fin N n1 n107 n2 n3⟩
      all_goals omega
    · intro i hi ih N n1 n107 n2 n3
      refine (s277_23 ⟨fun q1 => ?_, fun q2 => ⟨⟨by omega, by omega⟩, ⟨by omega, by omega⟩, ⟨(by first | omega | assumption | (refine ⟨?_, ?_⟩ <;> omega) | (simp_all; done)), (by first | omega | assumption | (refine ⟨?_, ?_⟩ <;> omega) | (simp_all; done))⟩, ⟨(by first | omega | assumption | (refine ⟨?_, ?_⟩ <;> omega) | (simp_all; done)), (by first | omega | assumption | (refine ⟨?_, ?_⟩ <;> omega) | (simp_all; done))⟩, ⟨by omega, by omega⟩, ?_⟩⟩)
      · omega
      · have ej : (274 * (k : Int) + (i : Int)).toNat = 274 * k + i := by omega
        refine ih _ (fun b b1 b2 => (sUpd_ne b1).trans (n1 b b1 b2)) (fun j => ?_) (fun j hj => ?_) (fun j hj => ?_)
        · rw [sUpd_ne (by decide)]; exact n107 j
        · rw [ej]
          by_cases c : j = i
          · rw [c, sUpd_eq, n1 93 (by decide) (by decide), e93]; rfl
          · rw [sUpd_ni (show 274 * k + j ≠ 274 * k + i by omega)]; exact n2 j (by omega)
        · rw [ej, sUpd_ni (show j ≠ 274 * k + i by omega)]; exact n3 j hj
      all_goals omega
    · show sUpd M1 107 k 1 107 j = _
      by_cases c : j = k
      · rw [c, sUpd_eq, if_pos rfl]
      · rw [sUpd_ni c, if_neg c, e107]
    · rw [sUpd_ne (by decide), e106]
  refine e277 (s277_0 ⟨fun q1 => ?_, fun q2 => ⟨fun q3 => ?_, fun q4 => ⟨⟨(by first | omega | assumption | (refine ⟨?_, ?_⟩ <;> omega) | (simp_all; done)), (by first | omega | assumption | (refine ⟨?_, ?_⟩ <;> omega) | (simp_all; done))⟩, ?_⟩⟩⟩)
  · omega
  · omega
  · exact loop
  all_goals omega
end
theorem L164 (t x1 : Int) : Step t 164 277 [vI x1] := by
  intro d M G hd hI
  have hI1 := hI.same (kp.refl [] M)
  obtain ⟨t0, own, N0, hN, hN2, h1, h2, h3, h4, h5⟩ := hI
  obtain ⟨d, rfl⟩ := sD 30 (d := d) (by omega)
  by_cases hx : x1 < 0 ∨ 3 < x1
  · refine c164_bad (by omega) hx ?_
    refine e277 (s277_0 ⟨fun q1 => ?_, fun q2 => ⟨fun q3 => ?_, fun q4 => ⟨⟨(by first | omega | assumption | (refine ⟨?_, ?_⟩ <;> omega) | (simp_all; done)), (by first | omega | assumption | (refine ⟨?_, ?_⟩ <;> omega) | (simp_all; done))⟩, ?_⟩⟩⟩)
    · exact ⟨rfl, hI1⟩
    · exact ⟨rfl, hI1⟩
    all_goals omega
  · obtain ⟨k, rfl⟩ : ∃ k : Nat, x1 = (k : Int) := ⟨x1.toNat, z_nat (by omega)⟩
    rcases h3 (k : Int) (by omega) (by omega) with z | ⟨z1, z2, z3, z4, z5, z6, z7, z8⟩
    · refine c164_new (a := N0) (by omega) (by omega) (by omega) z.2 (by omega) (fun i _ => (hN (N0 + i) (by omega)).1) (fun M1 G' M' f1 hM' => ?_)
      have o1 : ∀ b, b ≠ 41 → ¬ (N0 ≤ b ∧ b < N0 + 28) → M' b = M b := fun b b1 b2 => by
        rw [hM', cpTold_out (by omega), cpTown_out (by omega), sUpd_ne b1]
        exact (f1 b (by omega)).1
      have e2 : M' 14 13 = M 93 2 := by rw [o1 14 (by decide) (by omega)]; exact h4.2.2.1.2.2.1
      rw [e2]
      refine imgFin (N0 := N0) (N1 := N0 + 28) (a := N0) (own := own) (by omega) t0 hN hN2 h1 h2 h3 h4 h5 (by omega) hN2 (fun b b1 b2 => Or.inr (hN b b1).2) (by omega) (by omega) (fun b b1 => by rw [(f1 b (by omega)).2]; exact (hN b (by omega)).1) o1 (fun b b1 b2 => (f1 b (by omega)).2) (fun j => ?_) ?_ ?_
      · rw [hM', cpTold_out (by omega), cpTown_out (by omega)]
        show sUpd M1 41 k (N0 : Int) 41 j = _
        by_cases c : j = k
        · rw [c, sUpd_eq, if_pos rfl]
        · rw [sUpd_ni c, if_neg c, (f1 41 (by omega)).1]
      · rw [hM']
        exact (TR.copied h4.1 (by omega) (h4.2.2.congr (fun b b1 b2 => by rw [sUpd_ne (by omega)]; exact (f1 b (by omega)).1))).congr (fun b b1 b2 => cpTold_out (by omega))
      · rw [hM']
        exact TO.copied h5.1 (by omega) (h5.2.congr (fun b b1 b2 => by rw [cpTown_out (by omega), sUpd_ne (by omega)]; exact (f1 b (by omega)).1))
    · obtain ⟨a, ha⟩ : ∃ a, a = (M 41 ((k : Int)).toNat).toNat := ⟨_, rfl⟩
      rw [← ha] at z3
      refine c164_old (a := a) (by omega) (by omega) (by omega) ha.symm (by omega) (fun M' hM' => ?_)
      have o1 : ∀ b, b ≠ 41 → ¬ (a ≤ b ∧ b < a + 28) → M' b = M b := fun b b1 b2 => by
        rw [hM', cpTold_out (by omega), cpTown_out (by omega)]
      have e2 : M' 14 13 = M 93 2 := by rw [o1 14 (by decide) (by omega)]; exact h4.2.2.1.2.2.1
      have aN : a + 28 ≤ N0 := by
        by_cases c : a + 28 ≤ N0
        · exact c
        · have y1 := z3 27 (by decide)
          have y2 := (hN (a + 27) (by omega)).2
          omega
      rw [e2]
      refine imgFin (N0 := N0) (N1 := N0) (a := a) (own := own) (by omega) t0 hN hN2 h1 h2 h3 h4 h5 (by omega) (by omega) (fun b b1 b2 => Or.inl ?_) (by omega) aN (fun b b1 => (hN b b1).1) o1 (fun b b1 b2 => rfl) (fun j => ?_) ?_ ?_
      · have y1 := z3 (b - a) (by omega)
        rw [show a + (b - a) = b by omega] at y1
        rw [y1]; rfl
      · rw [hM', cpTold_out (by omega), cpTown_out (by omega)]
        by_cases c : j = k
        · rw [c, if_pos rfl]
          have : 109 ≤ M 41 k := z2
          have ha' : a = (M 41 k).toNat := ha
          omega
        · rw [if_neg c]
      · rw [hM']
        exact (TR.copied h4.1 (by omega) h4.2.2).congr (fun b b1 b2 => cpTold_out (by omega))
      · rw [hM']
        exact TO.copied h5.1 (by omega) (h5.2.congr (fun b b1 b2 => by rw [cpTown_out (by omega)]))
