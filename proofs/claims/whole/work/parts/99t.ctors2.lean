/-! THE CONSTRUCTORS: Town, Scene, the class, the model. -/
theorem nClear {M0 M : sM} {G0 G : sG} {a d : Nat} {PV : sM → sG → Prop} (hd : 6 ≤ d) (h : mkI M0 G0 a 15 (zL []) 15 M G) (kk : ∀ M', mkI M0 G0 a 15 (zL [12, 13, 14]) 15 M' G → PV M' G) : sC d 5 [vO 10 a] M G (QV PV) := by
  obtain ⟨d, rfl⟩ : ∃ e, d = e + 1 := ⟨d - 1, by omega⟩
  refine e5 (s5_0 ?_)
  refine c6 (by omega) (by decide) (by decide) ?_
  refine c6 (by omega) (by decide) (by decide) ?_
  refine c6 (by omega) (by decide) (by decide) ?_
  refine c6 (by omega) (by decide) (by decide) ?_
  refine kk _ ?_
  have z : ∀ j i, j < 15 → M (a + j) i = 0 := fun j i hj => by rw [h.2.2 j hj]; exact congrFun (zL_z (by simp)) i
  have z0 := fun i => z 0 i (by decide)
  have z4 := fun i => z 4 i (by decide)
  simp only [Nat.add_zero] at z0
  have e : ∀ x i, sFill (sFill (sFill (sFill (sUpd (sUpd (sUpd (sUpd M a 0 0) a 6 0) a 13 0) a 14 0) (a + 4) (6 : Int).toNat 0) (a + 12) (12 : Int).toNat (-1)) (a + 13) (12 : Int).toNat (-1)) (a + 14) (12 : Int).toNat (-1) x i = if (x = a + 12 ∨ x = a + 13 ∨ x = a + 14) ∧ i < 12 then -1 else M x i := by
    intro x i
    have e0 : x = a → M x i = 0 := fun q => by rw [q]; exact z0 i
    have e4 : x = a + 4 → M x i = 0 := fun q => by rw [q]; exact z4 i
    simp only [sFill, sUpd, show (6 : Int).toNat = 6 from rfl, show (12 : Int).toNat = 12 from rfl]
    generalize M x i = v at e0 e4 ⊢
    by_cases q : (x = a + 12 ∨ x = a + 13 ∨ x = a + 14) ∧ i < 12
    · rw [if_pos q]
      by_cases q1 : x = a + 14 ∧ i < 12
      · rw [if_pos q1]
      · rw [if_neg q1]
        by_cases q2 : x = a + 13 ∧ i < 12
        · rw [if_pos q2]
        · rw [if_neg q2, if_pos (by omega)]
    · rw [if_neg q, if_neg (by omega), if_neg (by omega), if_neg (by omega)]
      by_cases c4 : x = a + 4
      · rw [e4 c4]; simp only [ite_self]
      · by_cases c0 : x = a
        · rw [e0 c0]; simp only [ite_self]
        · rw [if_neg (by omega), if_neg (by omega), if_neg (by omega), if_neg (by omega), if_neg (by omega)]
  refine ⟨fun x hx => ⟨?_, (h.1 x hx).2⟩, fun i hi hs => by omega, fun i hi => ?_⟩
  · funext i
    rw [e, if_neg (by omega)]
    exact congrFun (h.1 x hx).1 i
  · funext j
    rw [e, z i j hi]
    by_cases c : i = 12 ∨ i = 13 ∨ i = 14
    · rw [zL_i (by simp only [List.mem_cons, List.not_mem_nil, or_false]; exact c)]
      show _ = if j < 12 then (-1 : Int) else 0
      by_cases cj : j < 12
      · rw [if_pos cj, if_pos ⟨by omega, cj⟩]
      · rw [if_neg cj, if_neg (fun q => cj q.2)]
    · rw [zL_z (by simp only [List.mem_cons, List.not_mem_nil, or_false]; exact c), if_neg (by omega)]
def zP (p : Nat) : Nat → Nat → Int := fun i j => if i = 11 ∧ 136 ≤ j ∧ j < 136 + 5 * p ∧ ((j - 136) % 5 = 0 ∨ (j - 136) % 5 = 1 ∨ (j - 136) % 5 = 3) then -1 else 0
theorem b168_213 {d : Nat} {Q : Option sV → sM → sG → Prop} {M : sM} {G : sG} {a0 : Nat} {x1 : Int}  (k1 : 12 ≤ x1 → sW (sC d) 168 Q 268 [vN, vN] [] M G 25 9548) (k2 : x1 < 12 → sW (sC d) 168 Q 219 [vT 12 a0 25, vI x1] [] M G 25 9548) : sW (sC d) 168 Q 213 [vT 12 a0 25, vI x1] [] M G 25 9548 := by
  refine q_iload_n 214 rfl (show sCode 168 213 = some (.iload_n 1, 1) by decide +kernel) rfl ?_
  refine q_bipush 216 rfl (show sCode 168 214 = some (.bipush 12, 2) by decide +kernel) ⟨by decide, by decide⟩ (by decide +kernel) ?_
  refine q_icmpge 268 219 rfl (by decide) (show sCode 168 216 = some (.if_icmp .ge 52, 3) by decide +kernel) ?_ ?_
  · intro q; refine q_forget (L' := [vN, vI x1]) 0 rfl ?_; refine q_forget (L' := [vN, vN]) 1 rfl ?_; exact k1 q
  · intro q; exact k2 q
theorem b168_219 {d : Nat} {Q : Option sV → sM → sG → Prop} {M : sM} {G : sG} {a0 : Nat} {x1 : Int} (h1 : sI (5 * x1)) (h2 : sI (136 + (5 * x1))) (h3 : 0 ≤ 136 + (5 * x1) ∧ 136 + (5 * x1) < 274) (h4 : sI (5 * x1)) (h5 : sI (136 + (5 * x1))) (h6 : sI ((136 + (5 * x1)) + 1)) (h7 : 0 ≤ (136 + (5 * x1)) + 1 ∧ (136 + (5 * x1)) + 1 < 274) (h8 : sI (5 * x1)) (h9 : sI (136 + (5 * x1))) (h10 : sI ((136 + (5 * x1)) + 3)) (h11 : 0 ≤ (136 + (5 * x1)) + 3 ∧ (136 + (5 * x1)) + 3 < 274) (h12 : sI (x1 + 1)) (kk : sW (sC d) 168 Q 213 [vT 12 a0 25, vI (x1 + 1)] [] (sUpd (sUpd (sUpd M (a0 + 11) (136 + (5 * x1)).toNat (-1)) (a0 + 11) ((136 + (5 * x1)) + 1).toNat (-1)) (a0 + 11) ((136 + (5 * x1)) + 3).toNat (-1)) G 25 9548) : sW (sC d) 168 Q 219 [vT 12 a0 25, vI x1] [] M G 25 9548 := by
  refine q_aload_n 220 rfl (show sCode 168 219 = some (.aload_n 0, 1) by decide +kernel) rfl (Nat.le_of_ble_eq_true rfl) ?_
  refine q_getR (vA 0 (a0 + 11) 274) 223 rfl (show sCode 168 220 = some (.getfield 42, 3) by decide +kernel) (show sFR (sKo 168).1 42 = some (12, 23) by decide +kernel) (by decide +kernel) (Or.inr ⟨25, rfl, by decide +kernel⟩) rfl ?_
  refine q_sipush 226 rfl (show sCode 168 223 = some (.sipush 136, 3) by decide +kernel) ⟨by decide, by decide⟩ (by decide +kernel) ?_
  refine q_iconst 227 rfl (show sCode 168 226 = some (.iconst 5, 1) by decide +kernel) ⟨by decide, by decide⟩ ?_
  refine q_iload_n 228 rfl (show sCode 168 227 = some (.iload_n 1, 1) by decide +kernel) rfl ?_
  refine q_imul 229 rfl (show sCode 168 228 = some (.imul, 1) by decide +kernel) h1 ?_
  refine q_iadd 230 rfl (show sCode 168 229 = some (.iadd, 1) by decide +kernel) h2 ?_
  refine q_iconst 231 rfl (show sCode 168 230 = some (.iconst (-1), 1) by decide +kernel) ⟨by decide, by decide⟩ ?_
  refine q_iast 232 rfl (show sCode 168 231 = some (.iastore, 1) by decide +kernel) h3 ?_
  refine q_aload_n 233 rfl (show sCode 168 232 = some (.aload_n 0, 1) by decide +kernel) rfl (Nat.le_of_ble_eq_true rfl) ?_
  refine q_getR (vA 0 (a0 + 11) 274) 236 rfl (show sCode 168 233 = some (.getfield 42, 3) by decide +kernel) (show sFR (sKo 168).1 42 = some (12, 23) by decide +kernel) (by decide +kernel) (Or.inr ⟨25, rfl, by decide +kernel⟩) rfl ?_
  refine q_sipush 239 rfl (show sCode 168 236 = some (.sipush 136, 3) by decide +kernel) ⟨by decide, by decide⟩ (by decide +kernel) ?_
  refine q_iconst 240 rfl (show sCode 168 239 = some (.iconst 5, 1) by decide +kernel) ⟨by decide, by decide⟩ ?_
  refine q_iload_n 241 rfl (show sCode 168 240 = some (.iload_n 1, 1) by decide +kernel) rfl ?_
  refine q_imul 242 rfl (show sCode 168 241 = some (.imul, 1) by decide +kernel) h4 ?_
  refine q_iadd 243 rfl (show sCode 168 242 = some (.iadd, 1) by decide +kernel) h5 ?_
  refine q_iconst 244 rfl (show sCode 168 243 = some (.iconst 1, 1) by decide +kernel) ⟨by decide, by decide⟩ ?_
  refine q_iadd 245 rfl (show sCode 168 244 = some (.iadd, 1) by decide +kernel) h6 ?_
  refine q_iconst 246 rfl (show sCode 168 245 = some (.iconst (-1), 1) by decide +kernel) ⟨by decide, by decide⟩ ?_
  refine q_iast 247 rfl (show sCode 168 246 = some (.iastore, 1) by decide +kernel) h7 ?_
  refine q_aload_n 248 rfl (show sCode 168 247 = some (.aload_n 0, 1) by decide +kernel) rfl (Nat.le_of_ble_eq_true rfl) ?_
  refine q_getR (vA 0 (a0 + 11) 274) 251 rfl (show sCode 168 248 = some (.getfield 42, 3) by decide +kernel) (show sFR (sKo 168).1 42 = some (12, 23) by decide +kernel) (by decide +kernel) (Or.inr ⟨25, rfl, by decide +kernel⟩) rfl ?_
  refine q_sipush 254 rfl (show sCode 168 251 = some (.sipush 136, 3) by decide +kernel) ⟨by decide, by decide⟩ (by decide +kernel) ?_
  refine q_iconst 255 rfl (show sCode 168 254 = some (.iconst 5, 1) by decide +kernel) ⟨by decide, by decide⟩ ?_
  refine q_iload_n 256 rfl (show sCode 168 255 = some (.iload_n 1, 1) by decide +kernel) rfl ?_
  refine q_imul 257 rfl (show sCode 168 256 = some (.imul, 1) by decide +kernel) h8 ?_
  refine q_iadd 258 rfl (show sCode 168 257 = some (.iadd, 1) by decide +kernel) h9 ?_
  refine q_iconst 259 rfl (show sCode 168 258 = some (.iconst 3, 1) by decide +kernel) ⟨by decide, by decide⟩ ?_
  refine q_iadd 260 rfl (show sCode 168 259 = some (.iadd, 1) by decide +kernel) h10 ?_
  refine q_iconst 261 rfl (show sCode 168 260 = some (.iconst (-1), 1) by decide +kernel) ⟨by decide, by decide⟩ ?_
  refine q_iast 262 rfl (show sCode 168 261 = some (.iastore, 1) by decide +kernel) h11 ?_
  refine q_iinc [vT 12 a0 25, vI (x1 + 1)] 265 rfl (show sCode 168 262 = some (.iinc 1 1, 3) by decide +kernel) rfl rfl h12 rfl ?_
  refine q_goto 213 (by decide) (show sCode 168 265 = some (.goto (-52), 3) by decide +kernel) ?_
  exact kk
theorem nLoop {M0 M : sM} {G0 G : sG} {a d : Nat} {PV : sM → sG → Prop} (kk : ∀ M G, mkI M0 G0 a 26 (zP 12) 26 M G → G a = (1, 12, sFul 12) → PV M G) (h : mkI M0 G0 a 26 (zL []) 26 M G) (gg : G a = (1, 12, 25)) : sW (sC d) 168 (QV PV) 211 [vT 12 a ((25 : Nat) : Int), vN] [] M G 25 9548 := by
  have key : ∀ r p : Nat, p + r = 12 → ∀ M, mkI M0 G0 a 26 (zP p) 26 M G → sW (sC d) 168 (QV PV) 213 [vT 12 a 25, vI (p : Int)] [] M G 25 9548 := by
    intro r
    induction r with
    | zero =>
      intro p hp M h
      have : p = 12 := by omega
      subst this
      exact b168_213 (fun _ => q_vret (show sCode 168 268 = some (.return_, 1) by decide +kernel) (by decide +kernel) ⟨by decide +kernel, by decide +kernel⟩ (kk _ _ h gg)) (fun q => absurd q (by omega))
    | succ r ih =>
      intro p hp M h
      refine b168_213 (fun q => absurd q (by omega)) (fun q => b168_219 ⟨by omega, by omega⟩ ⟨by omega, by omega⟩ ⟨by omega, by omega⟩ ⟨by omega, by omega⟩ ⟨by omega, by omega⟩ ⟨by omega, by omega⟩ ⟨by omega, by omega⟩ ⟨by omega, by omega⟩ ⟨by omega, by omega⟩ ⟨by omega, by omega⟩ ⟨by omega, by omega⟩ ⟨by omega, by omega⟩ ?_)
      refine ih (p + 1) (by omega) _ ⟨fun x hx => ⟨?_, (h.1 x hx).2⟩, fun i hi hs => by omega, fun i hi => ?_⟩
      · rw [← (h.1 x hx).1]
        funext i
        unfold sUpd
        rw [if_neg (by omega), if_neg (by omega), if_neg (by omega)]
      · funext j
        have hz := congrFun (h.2.2 i hi) j
        unfold sUpd
        rw [hz]
        unfold zP
        have e1 : (136 + 5 * (p : Int)).toNat = 136 + 5 * p := by omega
        have e2 : (136 + 5 * (p : Int) + 1).toNat = 137 + 5 * p := by omega
        have e3 : (136 + 5 * (p : Int) + 3).toNat = 139 + 5 * p := by omega
        rw [e1, e2, e3]
        repeat' split
        all_goals first | rfl | (exfalso; omega)
  refine q_iconst 212 rfl (show sCode 168 211 = some (.iconst 0, 1) by decide +kernel) ⟨by decide, by decide⟩ ?_
  refine q_istore_n [vT 12 a 25, vI 0] 213 rfl (show sCode 168 212 = some (.istore_n 1, 1) by decide +kernel) (Nat.lt_of_lt_of_le (Nat.lt_succ_self _) (Nat.le_of_ble_eq_true rfl)) rfl rfl ?_
  refine key 12 0 rfl M ⟨h.1, h.2.1, fun i hi => ?_⟩
  rw [h.2.2 i hi, zL_z (by simp)]
  funext j
  unfold zP
  rw [if_neg (by omega)]
theorem n4 : mkOk 7 4 10 15 (zL [12, 13, 14]) := by
  intro d a M G PV hd h0 hM hG hf kk
  obtain ⟨d, rfl⟩ : ∃ d', d = d' + 1 := ⟨d - 1, by omega⟩
  refine sC_in (Nat.le_of_ble_eq_true rfl) rfl ?_
  have h : mkI M G a 15 (zL []) 1 M G := mkI.start (c := 0) hM hf (zL_z (by decide))
  have gg : G a = (1, 10, 0) := hG
  refine q_aload_n 1 rfl (show sCode 4 0 = some (.aload_n 0, 1) by decide +kernel) rfl (Nat.le_of_ble_eq_true rfl) ?_
  refine q_objI 4 rfl (show sCode 4 1 = some (.invokespecial 3, 3) by decide +kernel) (by decide +kernel) (Nat.le_of_ble_eq_true rfl) ?_
  refine q_aload_n 5 rfl (show sCode 4 4 = some (.aload_n 0, 1) by decide +kernel) rfl (Nat.le_of_ble_eq_true rfl) ?_
  refine q_iconst 6 rfl (show sCode 4 5 = some (.iconst 0, 1) by decide +kernel) ⟨by decide, by decide⟩ ?_
  refine q_putI 9 rfl (show sCode 4 6 = some (.putfield 9, 3) by decide +kernel) (show sFR (sKo 4).1 9 = some (10, 0) by decide +kernel) (by decide +kernel) (Or.inr ⟨_, rfl, by decide +kernel, by decide +kernel⟩) ?_
  refine mkZ (F := fun M' => sW (sC d) 4 (QV PV) 9 [vT 10 a ((0 : Nat) : Int)] [] M' _ 0 0) h (by decide) (zL_z (by decide)) ?_
  refine q_aload_n 10 rfl (show sCode 4 9 = some (.aload_n 0, 1) by decide +kernel) rfl (Nat.le_of_ble_eq_true rfl) ?_
  refine q_bipush 12 rfl (show sCode 4 10 = some (.bipush 6, 2) by decide +kernel) ⟨by decide, by decide⟩ (by decide +kernel) ?_
  refine q_newarr (u := 0) (a := a + 1) 14 rfl (show sCode 4 12 = some (.newarray .int, 2) by decide +kernel) ⟨rfl, by decide⟩ ⟨by decide, by decide⟩ (by omega) (h.free (by decide)) ⟨rfl, rfl, by decide +kernel, by decide +kernel⟩ ?_
  refine q_putR (o := 0) 17 rfl (show sCode 4 14 = some (.putfield 15, 3) by decide +kernel) (show sFR (sKo 4).1 15 = some (10, 1) by decide +kernel) (by decide +kernel) rfl rfl ?_
  refine mkA (F := fun M' G' => sW (sC d) 4 (QV PV) 17 [vT 10 a ((1 : Nat) : Int)] [] M' G' 1 6) h (by decide) (by decide) (zL_z (by decide)) ?_
  intro M G h gg
  refine q_aload_n 18 rfl (show sCode 4 17 = some (.aload_n 0, 1) by decide +kernel) rfl (Nat.le_of_ble_eq_true rfl) ?_
  refine q_bipush 20 rfl (show sCode 4 18 = some (.bipush 6, 2) by decide +kernel) ⟨by decide, by decide⟩ (by decide +kernel) ?_
  refine q_newarr (u := 0) (a := a + 2) 22 rfl (show sCode 4 20 = some (.newarray .int, 2) by decide +kernel) ⟨rfl, by decide⟩ ⟨by decide, by decide⟩ (by omega) (h.free (by decide)) ⟨rfl, rfl, by decide +kernel, by decide +kernel⟩ ?_
  refine q_putR (o := 1) 25 rfl (show sCode 4 22 = some (.putfield 19, 3) by decide +kernel) (show sFR (sKo 4).1 19 = some (10, 2) by decide +kernel) (by decide +kernel) rfl rfl ?_
  refine mkA (F := fun M' G' => sW (sC d) 4 (QV PV) 25 [vT 10 a ((2 : Nat) : Int)] [] M' G' 2 12) h (by decide) (by decide) (zL_z (by decide)) ?_
  intro M G h gg
  refine q_aload_n 26 rfl (show sCode 4 25 = some (.aload_n 0, 1) by decide +kernel) rfl (Nat.le_of_ble_eq_true rfl) ?_
  refine q_bipush 28 rfl (show sCode 4 26 = some (.bipush 6, 2) by decide +kernel) ⟨by decide, by decide⟩ (by decide +kernel) ?_
  refine q_newarr (u := 0) (a := a + 3) 30 rfl (show sCode 4 28 = some (.newarray .int, 2) by decide +kernel) ⟨rfl, by decide⟩ ⟨by decide, by decide⟩ (by omega) (h.free (by decide)) ⟨rfl, rfl, by decide +kernel, by decide +kernel⟩ ?_
  refine q_putR (o := 2) 33 rfl (show sCode 4 30 = some (.putfield 22, 3) by decide +kernel) (show sFR (sKo 4).1 22 = some (10, 3) by decide +kernel) (by decide +kernel) rfl rfl ?_
  refine mkA (F := fun M' G' => sW (sC d) 4 (QV PV) 33 [vT 10 a ((3 : Nat) : Int)] [] M' G' 3 18) h (by decide) (by decide) (zL_z (by decide)) ?_
  intro M G h gg
  refine q_aload_n 34 rfl (show sCode 4 33 = some (.aload_n 0, 1) by decide +kernel) rfl (Nat.le_of_ble_eq_true rfl) ?_
  refine q_bipush 36 rfl (show sCode 4 34 = some (.bipush 6, 2) by decide +kernel) ⟨by decide, by decide⟩ (by decide +kernel) ?_
  refine q_newarr (u := 0) (a := a + 4) 38 rfl (show sCode 4 36 = some (.newarray .int, 2) by decide +kernel) ⟨rfl, by decide⟩ ⟨by decide, by decide⟩ (by omega) (h.free (by decide)) ⟨rfl, rfl, by decide +kernel, by decide +kernel⟩ ?_
  refine q_putR (o := 3) 41 rfl (show sCode 4 38 = some (.putfield 25, 3) by decide +kernel) (show sFR (sKo 4).1 25 = some (10, 4) by decide +kernel) (by decide +kernel) rfl rfl ?_
  refine mkA (F := fun M' G' => sW (sC d) 4 (QV PV) 41 [vT 10 a ((4 : Nat) : Int)] [] M' G' 4 24) h (by decide) (by decide) (zL_z (by decide)) ?_
  intro M G h gg
  refine q_aload_n 42 rfl (show sCode 4 41 = some (.aload_n 0, 1) by decide +kernel) rfl (Nat.le_of_ble_eq_true rfl) ?_
  refine q_bipush 44 rfl (show sCode 4 42 = some (.bipush 72, 2) by decide +kernel) ⟨by decide, by decide⟩ (by decide +kernel) ?_
  refine q_newarr (u := 0) (a := a + 5) 46 rfl (show sCode 4 44 = some (.newarray .int, 2) by decide +kernel) ⟨rfl, by decide⟩ ⟨by decide, by decide⟩ (by omega) (h.free (by decide)) ⟨rfl, rfl, by decide +kernel, by decide +kernel⟩ ?_
  refine q_putR (o := 4) 49 rfl (show sCode 4 46 = some (.putfield 28, 3) by decide +kernel) (show sFR (sKo 4).1 28 = some (10, 5) by decide +kernel) (by decide +kernel) rfl rfl ?_
  refine mkA (F := fun M' G' => sW (sC d) 4 (QV PV) 49 [vT 10 a ((5 : Nat) : Int)] [] M' G' 5 96) h (by decide) (by decide) (zL_z (by decide)) ?_
  intro M G h gg
  refine q_aload_n 50 rfl (show sCode 4 49 = some (.aload_n 0, 1) by decide +kernel) rfl (Nat.le_of_ble_eq_true rfl) ?_
  refine q_iconst 51 rfl (show sCode 4 50 = some (.iconst 0, 1) by decide +kernel) ⟨by decide, by decide⟩ ?_
  refine q_putI 54 rfl (show sCode 4 51 = some (.putfield 31, 3) by decide +kernel) (show sFR (sKo 4).1 31 = some (10, 6) by decide +kernel) (by decide +kernel) (Or.inr ⟨_, rfl, by decide +kernel, by decide +kernel⟩) ?_
  refine mkZ (F := fun M' => sW (sC d) 4 (QV PV) 54 [vT 10 a ((5 : Nat) : Int)] [] M' _ 5 96) h (by decide) (zL_z (by decide)) ?_
  refine q_aload_n 55 rfl (show sCode 4 54 = some (.aload_n 0, 1) by decide +kernel) rfl (Nat.le_of_ble_eq_true rfl) ?_
  refine q_bipush 57 rfl (show sCode 4 55 = some (.bipush 18, 2) by decide +kernel) ⟨by decide, by decide⟩ (by decide +kernel) ?_
  refine q_newarr (u := 0) (a := a + 6) 59 rfl (show sCode 4 57 = some (.newarray .int, 2) by decide +kernel) ⟨rfl, by decide⟩ ⟨by decide, by decide⟩ (by omega) (h.free (by decide)) ⟨rfl, rfl, by decide +kernel, by decide +kernel⟩ ?_
  refine q_putR (o := 5) 62 rfl (show sCode 4 59 = some (.putfield 34, 3) by decide +kernel) (show sFR (sKo 4).1 34 = some (10, 7) by decide +kernel) (by decide +kernel) rfl rfl ?_
  refine mkA (F := fun M' G' => sW (sC d) 4 (QV PV) 62 [vT 10 a ((6 : Nat) : Int)] [] M' G' 6 114) h (by decide) (by decide) (zL_z (by decide)) ?_
  intro M G h gg
  refine q_aload_n 63 rfl (show sCode 4 62 = some (.aload_n 0, 1) by decide +kernel) rfl (Nat.le_of_ble_eq_true rfl) ?_
  refine q_bipush 65 rfl (show sCode 4 63 = some (.bipush 18, 2) by decide +kernel) ⟨by decide, by decide⟩ (by decide +kernel) ?_
  refine q_newarr (u := 0) (a := a + 7) 67 rfl (show sCode 4 65 = some (.newarray .int, 2) by decide +kernel) ⟨rfl, by decide⟩ ⟨by decide, by decide⟩ (by omega) (h.free (by decide)) ⟨rfl, rfl, by decide +kernel, by decide +kernel⟩ ?_
  refine q_putR (o := 6) 70 rfl (show sCode 4 67 = some (.putfield 37, 3) by decide +kernel) (show sFR (sKo 4).1 37 = some (10, 8) by decide +kernel) (by decide +kernel) rfl rfl ?_
  refine mkA (F := fun M' G' => sW (sC d) 4 (QV PV) 70 [vT 10 a ((7 : Nat) : Int)] [] M' G' 7 132) h (by decide) (by decide) (zL_z (by decide)) ?_
  intro M G h gg
  refine q_aload_n 71 rfl (show sCode 4 70 = some (.aload_n 0, 1) by decide +kernel) rfl (Nat.le_of_ble_eq_true rfl) ?_
  refine q_bipush 73 rfl (show sCode 4 71 = some (.bipush 18, 2) by decide +kernel) ⟨by decide, by decide⟩ (by decide +kernel) ?_
  refine q_newarr (u := 0) (a := a + 8) 75 rfl (show sCode 4 73 = some (.newarray .int, 2) by decide +kernel) ⟨rfl, by decide⟩ ⟨by decide, by decide⟩ (by omega) (h.free (by decide)) ⟨rfl, rfl, by decide +kernel, by decide +kernel⟩ ?_
  refine q_putR (o := 7) 78 rfl (show sCode 4 75 = some (.putfield 40, 3) by decide +kernel) (show sFR (sKo 4).1 40 = some (10, 9) by decide +kernel) (by decide +kernel) rfl rfl ?_
  refine mkA (F := fun M' G' => sW (sC d) 4 (QV PV) 78 [vT 10 a ((8 : Nat) : Int)] [] M' G' 8 150) h (by decide) (by decide) (zL_z (by decide)) ?_
  intro M G h gg
  refine q_aload_n 79 rfl (show sCode 4 78 = some (.aload_n 0, 1) by decide +kernel) rfl (Nat.le_of_ble_eq_true rfl) ?_
  refine q_bipush 81 rfl (show sCode 4 79 = some (.bipush 18, 2) by decide +kernel) ⟨by decide, by decide⟩ (by decide +kernel) ?_
  refine q_newarr (u := 0) (a := a + 9) 83 rfl (show sCode 4 81 = some (.newarray .int, 2) by decide +kernel) ⟨rfl, by decide⟩ ⟨by decide, by decide⟩ (by omega) (h.free (by decide)) ⟨rfl, rfl, by decide +kernel, by decide +kernel⟩ ?_
  refine q_putR (o := 8) 86 rfl (show sCode 4 83 = some (.putfield 43, 3) by decide +kernel) (show sFR (sKo 4).1 43 = some (10, 10) by decide +kernel) (by decide +kernel) rfl rfl ?_
  refine mkA (F := fun M' G' => sW (sC d) 4 (QV PV) 86 [vT 10 a ((9 : Nat) : Int)] [] M' G' 9 168) h (by decide) (by decide) (zL_z (by decide)) ?_
  intro M G h gg
  refine q_aload_n 87 rfl (show sCode 4 86 = some (.aload_n 0, 1) by decide +kernel) rfl (Nat.le_of_ble_eq_true rfl) ?_
  refine q_bipush 89 rfl (show sCode 4 87 = some (.bipush 18, 2) by decide +kernel) ⟨by decide, by decide⟩ (by decide +kernel) ?_
  refine q_newarr (u := 0) (a := a + 10) 91 rfl (show sCode 4 89 = some (.newarray .int, 2) by decide +kernel) ⟨rfl, by decide⟩ ⟨by decide, by decide⟩ (by omega) (h.free (by decide)) ⟨rfl, rfl, by decide +kernel, by decide +kernel⟩ ?_
  refine q_putR (o := 9) 94 rfl (show sCode 4 91 = some (.putfield 46, 3) by decide +kernel) (show sFR (sKo 4).1 46 = some (10, 11) by decide +kernel) (by decide +kernel) rfl rfl ?_
  refine mkA (F := fun M' G' => sW (sC d) 4 (QV PV) 94 [vT 10 a ((10 : Nat) : Int)] [] M' G' 10 186) h (by decide) (by decide) (zL_z (by decide)) ?_
  intro M G h gg
  refine q_aload_n 95 rfl (show sCode 4 94 = some (.aload_n 0, 1) by decide +kernel) rfl (Nat.le_of_ble_eq_true rfl) ?_
  refine q_bipush 97 rfl (show sCode 4 95 = some (.bipush 18, 2) by decide +kernel) ⟨by decide, by decide⟩ (by decide +kernel) ?_
  refine q_newarr (u := 0) (a := a + 11) 99 rfl (show sCode 4 97 = some (.newarray .int, 2) by decide +kernel) ⟨rfl, by decide⟩ ⟨by decide, by decide⟩ (by omega) (h.free (by decide)) ⟨rfl, rfl, by decide +kernel, by decide +kernel⟩ ?_
  refine q_putR (o := 10) 102 rfl (show sCode 4 99 = some (.putfield 49, 3) by decide +kernel) (show sFR (sKo 4).1 49 = some (10, 12) by decide +kernel) (by decide +kernel) rfl rfl ?_
  refine mkA (F := fun M' G' => sW (sC d) 4 (QV PV) 102 [vT 10 a ((11 : Nat) : Int)] [] M' G' 11 204) h (by decide) (by decide) (zL_z (by decide)) ?_
  intro M G h gg
  refine q_aload_n 103 rfl (show sCode 4 102 = some (.aload_n 0, 1) by decide +kernel) rfl (Nat.le_of_ble_eq_true rfl) ?_
  refine q_iconst 104 rfl (show sCode 4 103 = some (.iconst 0, 1) by decide +kernel) ⟨by decide, by decide⟩ ?_
  refine q_putI 107 rfl (show sCode 4 104 = some (.putfield 52, 3) by decide +kernel) (show sFR (sKo 4).1 52 = some (10, 13) by decide +kernel) (by decide +kernel) (Or.inr ⟨_, rfl, by decide +kernel, by decide +kernel⟩) ?_
  refine mkZ (F := fun M' => sW (sC d) 4 (QV PV) 107 [vT 10 a ((11 : Nat) : Int)] [] M' _ 11 204) h (by decide) (zL_z (by decide)) ?_
  refine q_aload_n 108 rfl (show sCode 4 107 = some (.aload_n 0, 1) by decide +kernel) rfl (Nat.le_of_ble_eq_true rfl) ?_
  refine q_iconst 109 rfl (show sCode 4 108 = some (.iconst 0, 1) by decide +kernel) ⟨by decide, by decide⟩ ?_
  refine q_putI 112 rfl (show sCode 4 109 = some (.putfield 55, 3) by decide +kernel) (show sFR (sKo 4).1 55 = some (10, 14) by decide +kernel) (by decide +kernel) (Or.inr ⟨_, rfl, by decide +kernel, by decide +kernel⟩) ?_
  refine mkZ (F := fun M' => sW (sC d) 4 (QV PV) 112 [vT 10 a ((11 : Nat) : Int)] [] M' _ 11 204) h (by decide) (zL_z (by decide)) ?_
  refine q_aload_n 113 rfl (show sCode 4 112 = some (.aload_n 0, 1) by decide +kernel) rfl (Nat.le_of_ble_eq_true rfl) ?_
  refine q_bipush 115 rfl (show sCode 4 113 = some (.bipush 12, 2) by decide +kernel) ⟨by decide, by decide⟩ (by decide +kernel) ?_
  refine q_newarr (u := 0) (a := a + 12) 117 rfl (show sCode 4 115 = some (.newarray .int, 2) by decide +kernel) ⟨rfl, by decide⟩ ⟨by decide, by decide⟩ (by omega) (h.free (by decide)) ⟨rfl, rfl, by decide +kernel, by decide +kernel⟩ ?_
  refine q_putR (o := 11) 120 rfl (show sCode 4 117 = some (.putfield 58, 3) by decide +kernel) (show sFR (sKo 4).1 58 = some (10, 15) by decide +kernel) (by decide +kernel) rfl rfl ?_
  refine mkA (F := fun M' G' => sW (sC d) 4 (QV PV) 120 [vT 10 a ((12 : Nat) : Int)] [] M' G' 12 216) h (by decide) (by decide) (zL_z (by decide)) ?_
  intro M G h gg
  refine q_aload_n 121 rfl (show sCode 4 120 = some (.aload_n 0, 1) by decide +kernel) rfl (Nat.le_of_ble_eq_true rfl) ?_
  refine q_bipush 123 rfl (show sCode 4 121 = some (.bipush 12, 2) by decide +kernel) ⟨by decide, by decide⟩ (by decide +kernel) ?_
  refine q_newarr (u := 0) (a := a + 13) 125 rfl (show sCode 4 123 = some (.newarray .int, 2) by decide +kernel) ⟨rfl, by decide⟩ ⟨by decide, by decide⟩ (by omega) (h.free (by decide)) ⟨rfl, rfl, by decide +kernel, by decide +kernel⟩ ?_
  refine q_putR (o := 12) 128 rfl (show sCode 4 125 = some (.putfield 61, 3) by decide +kernel) (show sFR (sKo 4).1 61 = some (10, 16) by decide +kernel) (by decide +kernel) rfl rfl ?_
  refine mkA (F := fun M' G' => sW (sC d) 4 (QV PV) 128 [vT 10 a ((13 : Nat) : Int)] [] M' G' 13 228) h (by decide) (by decide) (zL_z (by decide)) ?_
  intro M G h gg
  refine q_aload_n 129 rfl (show sCode 4 128 = some (.aload_n 0, 1) by decide +kernel) rfl (Nat.le_of_ble_eq_true rfl) ?_
  refine q_bipush 131 rfl (show sCode 4 129 = some (.bipush 12, 2) by decide +kernel) ⟨by decide, by decide⟩ (by decide +kernel) ?_
  refine q_newarr (u := 0) (a := a + 14) 133 rfl (show sCode 4 131 = some (.newarray .int, 2) by decide +kernel) ⟨rfl, by decide⟩ ⟨by decide, by decide⟩ (by omega) (h.free (by decide)) ⟨rfl, rfl, by decide +kernel, by decide +kernel⟩ ?_
  refine q_putR (o := 13) 136 rfl (show sCode 4 133 = some (.putfield 64, 3) by decide +kernel) (show sFR (sKo 4).1 64 = some (10, 17) by decide +kernel) (by decide +kernel) rfl rfl ?_
  refine mkA (F := fun M' G' => sW (sC d) 4 (QV PV) 136 [vT 10 a ((14 : Nat) : Int)] [] M' G' 14 240) h (by decide) (by decide) (zL_z (by decide)) ?_
  intro M G h gg
  refine q_aload_n 137 rfl (show sCode 4 136 = some (.aload_n 0, 1) by decide +kernel) rfl (Nat.le_of_ble_eq_true rfl) ?_
  refine q_virtV [] 140 rfl (show sCode 4 137 = some (.invokevirtual 67, 3) by decide +kernel) (show sMR (sKo 4).1 67 = some 5 by decide +kernel) (show 5 < 1000 ∧ sStat 5 = false ∧ sIni 5 = false ∧ sKo 5 = (10, 0, 0, 0, 0) by decide +kernel) rfl (Or.inr (Or.inr rfl)) rfl (Nat.le_of_ble_eq_true rfl) rfl rfl rfl ⟨rfl, rfl, by decide +kernel, by decide +kernel⟩ ?_
  refine nClear (PV := fun M' G' => sW (sC d) 4 (QV PV) 140 [vT 10 a ((14 : Nat) : Int)] [] M' G' 14 240) (Nat.le_of_succ_le_succ hd) h ?_
  intro M h
  exact q_vret (show sCode 4 140 = some (.return_, 1) by decide +kernel) (by decide +kernel) ⟨by decide +kernel, by decide +kernel⟩ (kk _ _ h.1 gg h.2.2)
theorem n3 : mkOk 8 3 8 28 (zL [13, 14, 15]) := by
  intro d a M G PV hd h0 hM hG hf kk
  obtain ⟨d, rfl⟩ : ∃ d', d = d' + 1 := ⟨d - 1, by omega⟩
  refine sC_in (Nat.le_of_ble_eq_true rfl) rfl ?_
  have h : mkI M G a 28 (zL [13, 14, 15]) 1 M G := mkI.start (c := 0) hM hf (zL_z (by decide))
  have gg : G a = (1, 8, 0) := hG
  refine q_aload_n 1 rfl (show sCode 3 0 = some (.aload_n 0, 1) by decide +kernel) rfl (Nat.le_of_ble_eq_true rfl) ?_
  refine q_objI 4 rfl (show sCode 3 1 = some (.invokespecial 1, 3) by decide +kernel) (by decide +kernel) (Nat.le_of_ble_eq_true rfl) ?_
  refine q_aload_n 5 rfl (show sCode 3 4 = some (.aload_n 0, 1) by decide +kernel) rfl (Nat.le_of_ble_eq_true rfl) ?_
  refine q_new (a := a + 1) 8 rfl (show sCode 3 5 = some (.new 7, 3) by decide +kernel) (show sCR (sKo 3).1 7 = some 10 by decide +kernel) (by omega) (h.free (by decide)) ⟨rfl, rfl, by decide +kernel, by decide +kernel⟩ ?_
  refine q_dup 9 rfl (show sCode 3 8 = some (.dup, 1) by decide +kernel) rfl ?_
  refine q_init [] 12 rfl (show sCode 3 9 = some (.invokespecial 9, 3) by decide +kernel) (show sMR (sKo 3).1 9 = some 4 by decide +kernel) (show 4 < 1000 ∧ sStat 4 = false ∧ sIni 4 = true ∧ sKo 4 = (10, 0, 0, 14, 240) by decide +kernel) rfl rfl (Nat.le_of_ble_eq_true rfl) rfl rfl rfl ⟨rfl, rfl, by decide +kernel, by decide +kernel⟩ ?_
  refine mkO (F := fun M' G' => G' (a + 1) = (1, 10, sFul 10) ∧ sW (sC d) 3 (QV PV) 12 [vT 8 a ((0 : Nat) : Int)] [vO 10 (a + 1), vT 8 a ((0 : Nat) : Int)] M' G' 15 258) n4 (by omega) h (by decide) h0 (by decide) (by decide) (fun i hi => zL_c (by simp only [List.mem_cons, List.not_mem_nil, or_false, iff_false] <;> omega)) ?_
  intro M G h g1 g2
  refine ⟨g2, ?_⟩
  refine q_putR (o := 0) 15 rfl (show sCode 3 12 = some (.putfield 10, 3) by decide +kernel) (show sFR (sKo 3).1 10 = some (8, 0) by decide +kernel) (by decide +kernel) rfl rfl ?_
  refine mkS (F := fun M' G' => sW (sC d) 3 (QV PV) 15 [vT 8 a ((1 : Nat) : Int)] [] M' G' 15 258) h (by decide) (by decide) (by decide) ?_
  intro G h gg
  refine q_aload_n 16 rfl (show sCode 3 15 = some (.aload_n 0, 1) by decide +kernel) rfl (Nat.le_of_ble_eq_true rfl) ?_
  refine q_new (a := a + 16) 19 rfl (show sCode 3 16 = some (.new 16, 3) by decide +kernel) (show sCR (sKo 3).1 16 = some 9 by decide +kernel) (by omega) (h.free (by decide)) ⟨rfl, rfl, by decide +kernel, by decide +kernel⟩ ?_
  refine q_dup 20 rfl (show sCode 3 19 = some (.dup, 1) by decide +kernel) rfl ?_
  refine q_init [] 23 rfl (show sCode 3 20 = some (.invokespecial 18, 3) by decide +kernel) (show sMR (sKo 3).1 18 = some 7 by decide +kernel) (show 7 < 1000 ∧ sStat 7 = false ∧ sIni 7 = true ∧ sKo 7 = (9, 0, 0, 11, 90) by decide +kernel) rfl rfl (Nat.le_of_ble_eq_true rfl) rfl rfl rfl ⟨rfl, rfl, by decide +kernel, by decide +kernel⟩ ?_
  refine mkO (F := fun M' G' => G' (a + 16) = (1, 9, sFul 9) ∧ sW (sC d) 3 (QV PV) 23 [vT 8 a ((1 : Nat) : Int)] [vO 9 (a + 16), vT 8 a ((1 : Nat) : Int)] M' G' 27 364) n7 (by omega) h (by decide) h0 (by decide) (by decide) (fun i hi => zL_c (by simp only [List.mem_cons, List.not_mem_nil, or_false, iff_false] <;> omega)) ?_
  intro M G h g1 g2
  refine ⟨g2, ?_⟩
  refine q_putR (o := 1) 26 rfl (show sCode 3 23 = some (.putfield 19, 3) by decide +kernel) (show sFR (sKo 3).1 19 = some (8, 1) by decide +kernel) (by decide +kernel) rfl rfl ?_
  refine mkS (F := fun M' G' => sW (sC d) 3 (QV PV) 26 [vT 8 a ((2 : Nat) : Int)] [] M' G' 27 364) h (by decide) (by decide) (by decide) ?_
  intro G h gg
  exact q_vret (show sCode 3 26 = some (.return_, 1) by decide +kernel) (by decide +kernel) ⟨by decide +kernel, by decide +kernel⟩ (kk _ _ h.1 gg h.2.2)
theorem n0 : mkOk 9 0 11 81 (zL [25, 26, 27, 53, 54, 55]) := by
  intro d a M G PV hd h0 hM hG hf kk
  obtain ⟨d, rfl⟩ : ∃ d', d = d' + 1 := ⟨d - 1, by omega⟩
  refine sC_in (Nat.le_of_ble_eq_true rfl) rfl ?_
  have h : mkI M G a 81 (zL [25, 26, 27, 53, 54, 55]) 1 M G := mkI.start (c := 0) hM hf (zL_z (by decide))
  have gg : G a = (1, 11, 0) := hG
  refine q_aload_n 1 rfl (show sCode 0 0 = some (.aload_n 0, 1) by decide +kernel) rfl (Nat.le_of_ble_eq_true rfl) ?_
  refine q_objI 4 rfl (show sCode 0 1 = some (.invokespecial 1, 3) by decide +kernel) (by decide +kernel) (Nat.le_of_ble_eq_true rfl) ?_
  refine q_aload_n 5 rfl (show sCode 0 4 = some (.aload_n 0, 1) by decide +kernel) rfl (Nat.le_of_ble_eq_true rfl) ?_
  refine q_new (a := a + 1) 8 rfl (show sCode 0 5 = some (.new 7, 3) by decide +kernel) (show sCR (sKo 0).1 7 = some 7 by decide +kernel) (by omega) (h.free (by decide)) ⟨rfl, rfl, by decide +kernel, by decide +kernel⟩ ?_
  refine q_dup 9 rfl (show sCode 0 8 = some (.dup, 1) by decide +kernel) rfl ?_
  refine q_init [] 12 rfl (show sCode 0 9 = some (.invokespecial 9, 3) by decide +kernel) (show sMR (sKo 0).1 9 = some 1 by decide +kernel) (show 1 < 1000 ∧ sStat 1 = false ∧ sIni 1 = true ∧ sKo 1 = (7, 0, 0, 9, 1372) by decide +kernel) rfl rfl (Nat.le_of_ble_eq_true rfl) rfl rfl rfl ⟨rfl, rfl, by decide +kernel, by decide +kernel⟩ ?_
  refine mkO (F := fun M' G' => G' (a + 1) = (1, 7, sFul 7) ∧ sW (sC d) 0 (QV PV) 12 [vT 11 a ((0 : Nat) : Int)] [vO 7 (a + 1), vT 11 a ((0 : Nat) : Int)] M' G' 10 1387) n1 (by omega) h (by decide) h0 (by decide) (by decide) (fun i hi => zL_c (by simp only [List.mem_cons, List.not_mem_nil, or_false, iff_false] <;> omega)) ?_
  intro M G h g1 g2
  refine ⟨g2, ?_⟩
  refine q_putR (o := 0) 15 rfl (show sCode 0 12 = some (.putfield 10, 3) by decide +kernel) (show sFR (sKo 0).1 10 = some (11, 1) by decide +kernel) (by decide +kernel) rfl rfl ?_
  refine mkS (F := fun M' G' => sW (sC d) 0 (QV PV) 15 [vT 11 a ((1 : Nat) : Int)] [] M' G' 10 1387) h (by decide) (by decide) (by decide) ?_
  intro G h gg
  refine q_aload_n 16 rfl (show sCode 0 15 = some (.aload_n 0, 1) by decide +kernel) rfl (Nat.le_of_ble_eq_true rfl) ?_
  refine q_aload_n 17 rfl (show sCode 0 16 = some (.aload_n 0, 1) by decide +kernel) rfl (Nat.le_of_ble_eq_true rfl) ?_
  refine q_getR (vO 7 (a + 1)) 20 rfl (show sCode 0 17 = some (.getfield 10, 3) by decide +kernel) (show sFR (sKo 0).1 10 = some (11, 1) by decide +kernel) (by decide +kernel) (Or.inr ⟨1, rfl, by decide +kernel⟩) rfl ?_
  refine q_getR (vO 4 (a + 2)) 23 rfl (show sCode 0 20 = some (.getfield 16, 3) by decide +kernel) (show sFR (sKo 0).1 16 = some (7, 0) by decide +kernel) (by decide +kernel) (Or.inl (Or.inl rfl)) rfl ?_
  refine q_putR (o := 1) 26 rfl (show sCode 0 23 = some (.putfield 20, 3) by decide +kernel) (show sFR (sKo 0).1 20 = some (11, 0) by decide +kernel) (by decide +kernel) rfl rfl ?_
  refine mkS (F := fun M' G' => sW (sC d) 0 (QV PV) 26 [vT 11 a ((2 : Nat) : Int)] [] M' G' 10 1387) h (by decide) (by decide) (by decide) ?_
  intro G h gg
  refine q_aload_n 27 rfl (show sCode 0 26 = some (.aload_n 0, 1) by decide +kernel) rfl (Nat.le_of_ble_eq_true rfl) ?_
  refine q_bipush 29 rfl (show sCode 0 27 = some (.bipush 6, 2) by decide +kernel) ⟨by decide, by decide⟩ (by decide +kernel) ?_
  refine q_anew (a := a + 11) 32 rfl (show sCode 0 29 = some (.anewarray 23, 3) by decide +kernel) (show sCR (sKo 0).1 23 = some 6 by decide +kernel) (by decide) ⟨by decide, by decide⟩ (by omega) (h.free (by decide)) ⟨rfl, rfl, by decide +kernel, by decide +kernel⟩ ?_
  refine q_putR (o := 2) 35 rfl (show sCode 0 32 = some (.putfield 25, 3) by decide +kernel) (show sFR (sKo 0).1 25 = some (11, 2) by decide +kernel) (by decide +kernel) rfl rfl ?_
  refine mkA (F := fun M' G' => sW (sC d) 0 (QV PV) 35 [vT 11 a ((3 : Nat) : Int)] [] M' G' 11 1393) h (by decide) (by decide) (zL_z (by decide)) ?_
  intro M G h gg
  refine q_aload_n 36 rfl (show sCode 0 35 = some (.aload_n 0, 1) by decide +kernel) rfl (Nat.le_of_ble_eq_true rfl) ?_
  refine q_new (a := a + 12) 39 rfl (show sCode 0 36 = some (.new 29, 3) by decide +kernel) (show sCR (sKo 0).1 29 = some 8 by decide +kernel) (by omega) (h.free (by decide)) ⟨rfl, rfl, by decide +kernel, by decide +kernel⟩ ?_
  refine q_dup 40 rfl (show sCode 0 39 = some (.dup, 1) by decide +kernel) rfl ?_
  refine q_init [] 43 rfl (show sCode 0 40 = some (.invokespecial 31, 3) by decide +kernel) (show sMR (sKo 0).1 31 = some 3 by decide +kernel) (show 3 < 1000 ∧ sStat 3 = false ∧ sIni 3 = true ∧ sKo 3 = (8, 0, 0, 27, 364) by decide +kernel) rfl rfl (Nat.le_of_ble_eq_true rfl) rfl rfl rfl ⟨rfl, rfl, by decide +kernel, by decide +kernel⟩ ?_
  refine mkO (F := fun M' G' => G' (a + 12) = (1, 8, sFul 8) ∧ sW (sC d) 0 (QV PV) 43 [vT 11 a ((3 : Nat) : Int)] [vO 8 (a + 12), vT 11 a ((3 : Nat) : Int)] M' G' 39 1759) n3 (by omega) h (by decide) h0 (by decide) (by decide) (fun i hi => zL_c (by simp only [List.mem_cons, List.not_mem_nil, or_false, iff_false] <;> omega)) ?_
  intro M G h g1 g2
  refine ⟨g2, ?_⟩
  refine q_putR (o := 3) 46 rfl (show sCode 0 43 = some (.putfield 32, 3) by decide +kernel) (show sFR (sKo 0).1 32 = some (11, 3) by decide +kernel) (by decide +kernel) rfl rfl ?_
  refine mkS (F := fun M' G' => sW (sC d) 0 (QV PV) 46 [vT 11 a ((4 : Nat) : Int)] [] M' G' 39 1759) h (by decide) (by decide) (by decide) ?_
  intro G h gg
  refine q_aload_n 47 rfl (show sCode 0 46 = some (.aload_n 0, 1) by decide +kernel) rfl (Nat.le_of_ble_eq_true rfl) ?_
  refine q_iconst 48 rfl (show sCode 0 47 = some (.iconst 4, 1) by decide +kernel) ⟨by decide, by decide⟩ ?_
  refine q_anew (a := a + 40) 51 rfl (show sCode 0 48 = some (.anewarray 29, 3) by decide +kernel) (show sCR (sKo 0).1 29 = some 8 by decide +kernel) (by decide) ⟨by decide, by decide⟩ (by omega) (h.free (by decide)) ⟨rfl, rfl, by decide +kernel, by decide +kernel⟩ ?_
  refine q_putR (o := 4) 54 rfl (show sCode 0 51 = some (.putfield 36, 3) by decide +kernel) (show sFR (sKo 0).1 36 = some (11, 4) by decide +kernel) (by decide +kernel) rfl rfl ?_
  refine mkA (F := fun M' G' => sW (sC d) 0 (QV PV) 54 [vT 11 a ((5 : Nat) : Int)] [] M' G' 40 1763) h (by decide) (by decide) (zL_z (by decide)) ?_
  intro M G h gg
  refine q_aload_n 55 rfl (show sCode 0 54 = some (.aload_n 0, 1) by decide +kernel) rfl (Nat.le_of_ble_eq_true rfl) ?_
  refine q_new (a := a + 41) 58 rfl (show sCode 0 55 = some (.new 40, 3) by decide +kernel) (show sCR (sKo 0).1 40 = some 10 by decide +kernel) (by omega) (h.free (by decide)) ⟨rfl, rfl, by decide +kernel, by decide +kernel⟩ ?_
  refine q_dup 59 rfl (show sCode 0 58 = some (.dup, 1) by decide +kernel) rfl ?_
  refine q_init [] 62 rfl (show sCode 0 59 = some (.invokespecial 42, 3) by decide +kernel) (show sMR (sKo 0).1 42 = some 4 by decide +kernel) (show 4 < 1000 ∧ sStat 4 = false ∧ sIni 4 = true ∧ sKo 4 = (10, 0, 0, 14, 240) by decide +kernel) rfl rfl (Nat.le_of_ble_eq_true rfl) rfl rfl rfl ⟨rfl, rfl, by decide +kernel, by decide +kernel⟩ ?_
  refine mkO (F := fun M' G' => G' (a + 41) = (1, 10, sFul 10) ∧ sW (sC d) 0 (QV PV) 62 [vT 11 a ((5 : Nat) : Int)] [vO 10 (a + 41), vT 11 a ((5 : Nat) : Int)] M' G' 55 2021) n4 (by omega) h (by decide) h0 (by decide) (by decide) (fun i hi => zL_c (by simp only [List.mem_cons, List.not_mem_nil, or_false, iff_false] <;> omega)) ?_
  intro M G h g1 g2
  refine ⟨g2, ?_⟩
  refine q_putR (o := 5) 65 rfl (show sCode 0 62 = some (.putfield 43, 3) by decide +kernel) (show sFR (sKo 0).1 43 = some (11, 5) by decide +kernel) (by decide +kernel) rfl rfl ?_
  refine mkS (F := fun M' G' => sW (sC d) 0 (QV PV) 65 [vT 11 a ((6 : Nat) : Int)] [] M' G' 55 2021) h (by decide) (by decide) (by decide) ?_
  intro G h gg
  refine q_aload_n 66 rfl (show sCode 0 65 = some (.aload_n 0, 1) by decide +kernel) rfl (Nat.le_of_ble_eq_true rfl) ?_
  refine q_new (a := a + 56) 69 rfl (show sCode 0 66 = some (.new 47, 3) by decide +kernel) (show sCR (sKo 0).1 47 = some 0 by decide +kernel) (by omega) (h.free (by decide)) ⟨rfl, rfl, by decide +kernel, by decide +kernel⟩ ?_
  refine q_dup 70 rfl (show sCode 0 69 = some (.dup, 1) by decide +kernel) rfl ?_
  refine q_init [] 73 rfl (show sCode 0 70 = some (.invokespecial 49, 3) by decide +kernel) (show sMR (sKo 0).1 49 = some 8 by decide +kernel) (show 8 < 1000 ∧ sStat 8 = false ∧ sIni 8 = true ∧ sKo 8 = (0, 0, 0, 2, 76) by decide +kernel) rfl rfl (Nat.le_of_ble_eq_true rfl) rfl rfl rfl ⟨rfl, rfl, by decide +kernel, by decide +kernel⟩ ?_
  refine mkO (F := fun M' G' => G' (a + 56) = (1, 0, sFul 0) ∧ sW (sC d) 0 (QV PV) 73 [vT 11 a ((6 : Nat) : Int)] [vO 0 (a + 56), vT 11 a ((6 : Nat) : Int)] M' G' 58 2099) n8 (by omega) h (by decide) h0 (by decide) (by decide) (fun i hi => zL_c (by simp only [List.mem_cons, List.not_mem_nil, or_false, iff_false] <;> omega)) ?_
  intro M G h g1 g2
  refine ⟨g2, ?_⟩
  refine q_putR (o := 6) 76 rfl (show sCode 0 73 = some (.putfield 50, 3) by decide +kernel) (show sFR (sKo 0).1 50 = some (11, 6) by decide +kernel) (by decide +kernel) rfl rfl ?_
  refine mkS (F := fun M' G' => sW (sC d) 0 (QV PV) 76 [vT 11 a ((7 : Nat) : Int)] [] M' G' 58 2099) h (by decide) (by decide) (by decide) ?_
  intro G h gg
  refine q_aload_n 77 rfl (show sCode 0 76 = some (.aload_n 0, 1) by decide +kernel) rfl (Nat.le_of_ble_eq_true rfl) ?_
  refine q_new (a := a + 59) 80 rfl (show sCode 0 77 = some (.new 54, 3) by decide +kernel) (show sCR (sKo 0).1 54 = some 1 by decide +kernel) (by omega) (h.free (by decide)) ⟨rfl, rfl, by decide +kernel, by decide +kernel⟩ ?_
  refine q_dup 81 rfl (show sCode 0 80 = some (.dup, 1) by decide +kernel) rfl ?_
  refine q_init [] 84 rfl (show sCode 0 81 = some (.invokespecial 56, 3) by decide +kernel) (show sMR (sKo 0).1 56 = some 9 by decide +kernel) (show 9 < 1000 ∧ sStat 9 = false ∧ sIni 9 = true ∧ sKo 9 = (1, 0, 0, 8, 127) by decide +kernel) rfl rfl (Nat.le_of_ble_eq_true rfl) rfl rfl rfl ⟨rfl, rfl, by decide +kernel, by decide +kernel⟩ ?_
  refine mkO (F := fun M' G' => G' (a + 59) = (1, 1, sFul 1) ∧ sW (sC d) 0 (QV PV) 84 [vT 11 a ((7 : Nat) : Int)] [vO 1 (a + 59), vT 11 a ((7 : Nat) : Int)] M' G' 67 2235) n9 (by omega) h (by decide) h0 (by decide) (by decide) (fun i hi => zL_c (by simp only [List.mem_cons, List.not_mem_nil, or_false, iff_false] <;> omega)) ?_
  intro M G h g1 g2
  refine ⟨g2, ?_⟩
  refine q_putR (o := 7) 87 rfl (show sCode 0 84 = some (.putfield 57, 3) by decide +kernel) (show sFR (sKo 0).1 57 = some (11, 7) by decide +kernel) (by decide +kernel) rfl rfl ?_
  refine mkS (F := fun M' G' => sW (sC d) 0 (QV PV) 87 [vT 11 a ((8 : Nat) : Int)] [] M' G' 67 2235) h (by decide) (by decide) (by decide) ?_
  intro G h gg
  refine q_aload_n 88 rfl (show sCode 0 87 = some (.aload_n 0, 1) by decide +kernel) rfl (Nat.le_of_ble_eq_true rfl) ?_
  refine q_new (a := a + 68) 91 rfl (show sCode 0 88 = some (.new 61, 3) by decide +kernel) (show sCR (sKo 0).1 61 = some 3 by decide +kernel) (by omega) (h.free (by decide)) ⟨rfl, rfl, by decide +kernel, by decide +kernel⟩ ?_
  refine q_dup 92 rfl (show sCode 0 91 = some (.dup, 1) by decide +kernel) rfl ?_
  refine q_init [] 95 rfl (show sCode 0 92 = some (.invokespecial 63, 3) by decide +kernel) (show sMR (sKo 0).1 63 = some 10 by decide +kernel) (show 10 < 1000 ∧ sStat 10 = false ∧ sIni 10 = true ∧ sKo 10 = (3, 0, 0, 6, 498) by decide +kernel) rfl rfl (Nat.le_of_ble_eq_true rfl) rfl rfl rfl ⟨rfl, rfl, by decide +kernel, by decide +kernel⟩ ?_
  refine mkO (F := fun M' G' => G' (a + 68) = (1, 3, sFul 3) ∧ sW (sC d) 0 (QV PV) 95 [vT 11 a ((8 : Nat) : Int)] [vO 3 (a + 68), vT 11 a ((8 : Nat) : Int)] M' G' 74 2740) n10 (by omega) h (by decide) h0 (by decide) (by decide) (fun i hi => zL_c (by simp only [List.mem_cons, List.not_mem_nil, or_false, iff_false] <;> omega)) ?_
  intro M G h g1 g2
  refine ⟨g2, ?_⟩
  refine q_putR (o := 8) 98 rfl (show sCode 0 95 = some (.putfield 64, 3) by decide +kernel) (show sFR (sKo 0).1 64 = some (11, 8) by decide +kernel) (by decide +kernel) rfl rfl ?_
  refine mkS (F := fun M' G' => sW (sC d) 0 (QV PV) 98 [vT 11 a ((9 : Nat) : Int)] [] M' G' 74 2740) h (by decide) (by decide) (by decide) ?_
  intro G h gg
  refine q_aload_n 99 rfl (show sCode 0 98 = some (.aload_n 0, 1) by decide +kernel) rfl (Nat.le_of_ble_eq_true rfl) ?_
  refine q_new (a := a + 75) 102 rfl (show sCode 0 99 = some (.new 68, 3) by decide +kernel) (show sCR (sKo 0).1 68 = some 5 by decide +kernel) (by omega) (h.free (by decide)) ⟨rfl, rfl, by decide +kernel, by decide +kernel⟩ ?_
  refine q_dup 103 rfl (show sCode 0 102 = some (.dup, 1) by decide +kernel) rfl ?_
  refine q_init [] 106 rfl (show sCode 0 103 = some (.invokespecial 70, 3) by decide +kernel) (show sMR (sKo 0).1 70 = some 11 by decide +kernel) (show 11 < 1000 ∧ sStat 11 = false ∧ sIni 11 = true ∧ sKo 11 = (5, 0, 0, 1, 12) by decide +kernel) rfl rfl (Nat.le_of_ble_eq_true rfl) rfl rfl rfl ⟨rfl, rfl, by decide +kernel, by decide +kernel⟩ ?_
  refine mkO (F := fun M' G' => G' (a + 75) = (1, 5, sFul 5) ∧ sW (sC d) 0 (QV PV) 106 [vT 11 a ((9 : Nat) : Int)] [vO 5 (a + 75), vT 11 a ((9 : Nat) : Int)] M' G' 76 2753) n11 (by omega) h (by decide) h0 (by decide) (by decide) (fun i hi => zL_c (by simp only [List.mem_cons, List.not_mem_nil, or_false, iff_false] <;> omega)) ?_
  intro M G h g1 g2
  refine ⟨g2, ?_⟩
  refine q_putR (o := 9) 109 rfl (show sCode 0 106 = some (.putfield 71, 3) by decide +kernel) (show sFR (sKo 0).1 71 = some (11, 9) by decide +kernel) (by decide +kernel) rfl rfl ?_
  refine mkS (F := fun M' G' => sW (sC d) 0 (QV PV) 109 [vT 11 a ((10 : Nat) : Int)] [] M' G' 76 2753) h (by decide) (by decide) (by decide) ?_
  intro G h gg
  refine q_aload_n 110 rfl (show sCode 0 109 = some (.aload_n 0, 1) by decide +kernel) rfl (Nat.le_of_ble_eq_true rfl) ?_
  refine q_new (a := a + 77) 113 rfl (show sCode 0 110 = some (.new 75, 3) by decide +kernel) (show sCR (sKo 0).1 75 = some 2 by decide +kernel) (by omega) (h.free (by decide)) ⟨rfl, rfl, by decide +kernel, by decide +kernel⟩ ?_
  refine q_dup 114 rfl (show sCode 0 113 = some (.dup, 1) by decide +kernel) rfl ?_
  refine q_init [] 117 rfl (show sCode 0 114 = some (.invokespecial 77, 3) by decide +kernel) (show sMR (sKo 0).1 77 = some 12 by decide +kernel) (show 12 < 1000 ∧ sStat 12 = false ∧ sIni 12 = true ∧ sKo 12 = (2, 0, 0, 3, 361) by decide +kernel) rfl rfl (Nat.le_of_ble_eq_true rfl) rfl rfl rfl ⟨rfl, rfl, by decide +kernel, by decide +kernel⟩ ?_
  refine mkO (F := fun M' G' => G' (a + 77) = (1, 2, sFul 2) ∧ sW (sC d) 0 (QV PV) 117 [vT 11 a ((10 : Nat) : Int)] [vO 2 (a + 77), vT 11 a ((10 : Nat) : Int)] M' G' 80 3118) n12 (by omega) h (by decide) h0 (by decide) (by decide) (fun i hi => zL_c (by simp only [List.mem_cons, List.not_mem_nil, or_false, iff_false] <;> omega)) ?_
  intro M G h g1 g2
  refine ⟨g2, ?_⟩
  refine q_putR (o := 10) 120 rfl (show sCode 0 117 = some (.putfield 78, 3) by decide +kernel) (show sFR (sKo 0).1 78 = some (11, 10) by decide +kernel) (by decide +kernel) rfl rfl ?_
  refine mkS (F := fun M' G' => sW (sC d) 0 (QV PV) 120 [vT 11 a ((11 : Nat) : Int)] [] M' G' 80 3118) h (by decide) (by decide) (by decide) ?_
  intro G h gg
  refine q_aload_n 121 rfl (show sCode 0 120 = some (.aload_n 0, 1) by decide +kernel) rfl (Nat.le_of_ble_eq_true rfl) ?_
  refine q_iconst 122 rfl (show sCode 0 121 = some (.iconst 0, 1) by decide +kernel) ⟨by decide, by decide⟩ ?_
  refine q_putI 125 rfl (show sCode 0 122 = some (.putfield 82, 3) by decide +kernel) (show sFR (sKo 0).1 82 = some (11, 11) by decide +kernel) (by decide +kernel) (Or.inr ⟨_, rfl, by decide +kernel, by decide +kernel⟩) ?_
  refine mkZ (F := fun M' => sW (sC d) 0 (QV PV) 125 [vT 11 a ((11 : Nat) : Int)] [] M' _ 80 3118) h (by decide) (zL_z (by decide)) ?_
  exact q_vret (show sCode 0 125 = some (.return_, 1) by decide +kernel) (by decide +kernel) ⟨by decide +kernel, by decide +kernel⟩ (kk _ _ h.1 gg h.2.2)
theorem n168 : mkOk 1 168 12 26 (zP 12) := by
  intro d a M G PV hd h0 hM hG hf kk
  obtain ⟨d, rfl⟩ : ∃ d', d = d' + 1 := ⟨d - 1, by omega⟩
  refine sC_in (Nat.le_of_ble_eq_true rfl) rfl ?_
  have h : mkI M G a 26 (zL []) 1 M G := mkI.start (c := 0) hM hf (zL_z (by decide))
  have gg : G a = (1, 12, 0) := hG
  refine q_aload_n 1 rfl (show sCode 168 0 = some (.aload_n 0, 1) by decide +kernel) rfl (Nat.le_of_ble_eq_true rfl) ?_
  refine q_objI 4 rfl (show sCode 168 1 = some (.invokespecial 1, 3) by decide +kernel) (by decide +kernel) (Nat.le_of_ble_eq_true rfl) ?_
  refine q_aload_n 5 rfl (show sCode 168 4 = some (.aload_n 0, 1) by decide +kernel) rfl (Nat.le_of_ble_eq_true rfl) ?_
  refine q_sipush 8 rfl (show sCode 168 5 = some (.sipush 400, 3) by decide +kernel) ⟨by decide, by decide⟩ (by decide +kernel) ?_
  refine q_newarr (u := 2) (a := a + 1) 10 rfl (show sCode 168 8 = some (.newarray .byte, 2) by decide +kernel) ⟨rfl, by decide⟩ ⟨by decide, by decide⟩ (by omega) (h.free (by decide)) ⟨rfl, rfl, by decide +kernel, by decide +kernel⟩ ?_
  refine q_putR (o := 0) 13 rfl (show sCode 168 10 = some (.putfield 7, 3) by decide +kernel) (show sFR (sKo 168).1 7 = some (12, 0) by decide +kernel) (by decide +kernel) rfl rfl ?_
  refine mkA (F := fun M' G' => sW (sC d) 168 (QV PV) 13 [vT 12 a ((1 : Nat) : Int), vN] [] M' G' 1 400) h (by decide) (by decide) (zL_z (by decide)) ?_
  intro M G h gg
  refine q_aload_n 14 rfl (show sCode 168 13 = some (.aload_n 0, 1) by decide +kernel) rfl (Nat.le_of_ble_eq_true rfl) ?_
  refine q_sipush 17 rfl (show sCode 168 14 = some (.sipush 2400, 3) by decide +kernel) ⟨by decide, by decide⟩ (by decide +kernel) ?_
  refine q_newarr (u := 0) (a := a + 2) 19 rfl (show sCode 168 17 = some (.newarray .int, 2) by decide +kernel) ⟨rfl, by decide⟩ ⟨by decide, by decide⟩ (by omega) (h.free (by decide)) ⟨rfl, rfl, by decide +kernel, by decide +kernel⟩ ?_
  refine q_putR (o := 1) 22 rfl (show sCode 168 19 = some (.putfield 13, 3) by decide +kernel) (show sFR (sKo 168).1 13 = some (12, 3) by decide +kernel) (by decide +kernel) rfl rfl ?_
  refine mkA (F := fun M' G' => sW (sC d) 168 (QV PV) 22 [vT 12 a ((2 : Nat) : Int), vN] [] M' G' 2 2800) h (by decide) (by decide) (zL_z (by decide)) ?_
  intro M G h gg
  refine q_aload_n 23 rfl (show sCode 168 22 = some (.aload_n 0, 1) by decide +kernel) rfl (Nat.le_of_ble_eq_true rfl) ?_
  refine q_bipush 25 rfl (show sCode 168 23 = some (.bipush 7, 2) by decide +kernel) ⟨by decide, by decide⟩ (by decide +kernel) ?_
  refine q_newarr (u := 0) (a := a + 3) 27 rfl (show sCode 168 25 = some (.newarray .int, 2) by decide +kernel) ⟨rfl, by decide⟩ ⟨by decide, by decide⟩ (by omega) (h.free (by decide)) ⟨rfl, rfl, by decide +kernel, by decide +kernel⟩ ?_
  refine q_putR (o := 2) 30 rfl (show sCode 168 27 = some (.putfield 17, 3) by decide +kernel) (show sFR (sKo 168).1 17 = some (12, 4) by decide +kernel) (by decide +kernel) rfl rfl ?_
  refine mkA (F := fun M' G' => sW (sC d) 168 (QV PV) 30 [vT 12 a ((3 : Nat) : Int), vN] [] M' G' 3 2807) h (by decide) (by decide) (zL_z (by decide)) ?_
  intro M G h gg
  refine q_aload_n 31 rfl (show sCode 168 30 = some (.aload_n 0, 1) by decide +kernel) rfl (Nat.le_of_ble_eq_true rfl) ?_
  refine q_sipush 34 rfl (show sCode 168 31 = some (.sipush 216, 3) by decide +kernel) ⟨by decide, by decide⟩ (by decide +kernel) ?_
  refine q_newarr (u := 0) (a := a + 4) 36 rfl (show sCode 168 34 = some (.newarray .int, 2) by decide +kernel) ⟨rfl, by decide⟩ ⟨by decide, by decide⟩ (by omega) (h.free (by decide)) ⟨rfl, rfl, by decide +kernel, by decide +kernel⟩ ?_
  refine q_putR (o := 3) 39 rfl (show sCode 168 36 = some (.putfield 20, 3) by decide +kernel) (show sFR (sKo 168).1 20 = some (12, 5) by decide +kernel) (by decide +kernel) rfl rfl ?_
  refine mkA (F := fun M' G' => sW (sC d) 168 (QV PV) 39 [vT 12 a ((4 : Nat) : Int), vN] [] M' G' 4 3023) h (by decide) (by decide) (zL_z (by decide)) ?_
  intro M G h gg
  refine q_aload_n 40 rfl (show sCode 168 39 = some (.aload_n 0, 1) by decide +kernel) rfl (Nat.le_of_ble_eq_true rfl) ?_
  refine q_bipush 42 rfl (show sCode 168 40 = some (.bipush 6, 2) by decide +kernel) ⟨by decide, by decide⟩ (by decide +kernel) ?_
  refine q_newarr (u := 0) (a := a + 5) 44 rfl (show sCode 168 42 = some (.newarray .int, 2) by decide +kernel) ⟨rfl, by decide⟩ ⟨by decide, by decide⟩ (by omega) (h.free (by decide)) ⟨rfl, rfl, by decide +kernel, by decide +kernel⟩ ?_
  refine q_putR (o := 4) 47 rfl (show sCode 168 44 = some (.putfield 23, 3) by decide +kernel) (show sFR (sKo 168).1 23 = some (12, 6) by decide +kernel) (by decide +kernel) rfl rfl ?_
  refine mkA (F := fun M' G' => sW (sC d) 168 (QV PV) 47 [vT 12 a ((5 : Nat) : Int), vN] [] M' G' 5 3029) h (by decide) (by decide) (zL_z (by decide)) ?_
  intro M G h gg
  refine q_aload_n 48 rfl (show sCode 168 47 = some (.aload_n 0, 1) by decide +kernel) rfl (Nat.le_of_ble_eq_true rfl) ?_
  refine q_bipush 50 rfl (show sCode 168 48 = some (.bipush 18, 2) by decide +kernel) ⟨by decide, by decide⟩ (by decide +kernel) ?_
  refine q_newarr (u := 0) (a := a + 6) 52 rfl (show sCode 168 50 = some (.newarray .int, 2) by decide +kernel) ⟨rfl, by decide⟩ ⟨by decide, by decide⟩ (by omega) (h.free (by decide)) ⟨rfl, rfl, by decide +kernel, by decide +kernel⟩ ?_
  refine q_putR (o := 5) 55 rfl (show sCode 168 52 = some (.putfield 26, 3) by decide +kernel) (show sFR (sKo 168).1 26 = some (12, 9) by decide +kernel) (by decide +kernel) rfl rfl ?_
  refine mkA (F := fun M' G' => sW (sC d) 168 (QV PV) 55 [vT 12 a ((6 : Nat) : Int), vN] [] M' G' 6 3047) h (by decide) (by decide) (zL_z (by decide)) ?_
  intro M G h gg
  refine q_aload_n 56 rfl (show sCode 168 55 = some (.aload_n 0, 1) by decide +kernel) rfl (Nat.le_of_ble_eq_true rfl) ?_
  refine q_bipush 58 rfl (show sCode 168 56 = some (.bipush 90, 2) by decide +kernel) ⟨by decide, by decide⟩ (by decide +kernel) ?_
  refine q_newarr (u := 0) (a := a + 7) 60 rfl (show sCode 168 58 = some (.newarray .int, 2) by decide +kernel) ⟨rfl, by decide⟩ ⟨by decide, by decide⟩ (by omega) (h.free (by decide)) ⟨rfl, rfl, by decide +kernel, by decide +kernel⟩ ?_
  refine q_putR (o := 6) 63 rfl (show sCode 168 60 = some (.putfield 29, 3) by decide +kernel) (show sFR (sKo 168).1 29 = some (12, 10) by decide +kernel) (by decide +kernel) rfl rfl ?_
  refine mkA (F := fun M' G' => sW (sC d) 168 (QV PV) 63 [vT 12 a ((7 : Nat) : Int), vN] [] M' G' 7 3137) h (by decide) (by decide) (zL_z (by decide)) ?_
  intro M G h gg
  refine q_aload_n 64 rfl (show sCode 168 63 = some (.aload_n 0, 1) by decide +kernel) rfl (Nat.le_of_ble_eq_true rfl) ?_
  refine q_sipush 67 rfl (show sCode 168 64 = some (.sipush 400, 3) by decide +kernel) ⟨by decide, by decide⟩ (by decide +kernel) ?_
  refine q_newarr (u := 0) (a := a + 8) 69 rfl (show sCode 168 67 = some (.newarray .int, 2) by decide +kernel) ⟨rfl, by decide⟩ ⟨by decide, by decide⟩ (by omega) (h.free (by decide)) ⟨rfl, rfl, by decide +kernel, by decide +kernel⟩ ?_
  refine q_putR (o := 7) 72 rfl (show sCode 168 69 = some (.putfield 32, 3) by decide +kernel) (show sFR (sKo 168).1 32 = some (12, 18) by decide +kernel) (by decide +kernel) rfl rfl ?_
  refine mkA (F := fun M' G' => sW (sC d) 168 (QV PV) 72 [vT 12 a ((8 : Nat) : Int), vN] [] M' G' 8 3537) h (by decide) (by decide) (zL_z (by decide)) ?_
  intro M G h gg
  refine q_aload_n 73 rfl (show sCode 168 72 = some (.aload_n 0, 1) by decide +kernel) rfl (Nat.le_of_ble_eq_true rfl) ?_
  refine q_bipush 75 rfl (show sCode 168 73 = some (.bipush 64, 2) by decide +kernel) ⟨by decide, by decide⟩ (by decide +kernel) ?_
  refine q_newarr (u := 1) (a := a + 9) 77 rfl (show sCode 168 75 = some (.newarray .long, 2) by decide +kernel) ⟨rfl, by decide⟩ ⟨by decide, by decide⟩ (by omega) (h.free (by decide)) ⟨rfl, rfl, by decide +kernel, by decide +kernel⟩ ?_
  refine q_putR (o := 8) 80 rfl (show sCode 168 77 = some (.putfield 35, 3) by decide +kernel) (show sFR (sKo 168).1 35 = some (12, 20) by decide +kernel) (by decide +kernel) rfl rfl ?_
  refine mkA (F := fun M' G' => sW (sC d) 168 (QV PV) 80 [vT 12 a ((9 : Nat) : Int), vN] [] M' G' 9 3601) h (by decide) (by decide) (zL_z (by decide)) ?_
  intro M G h gg
  refine q_aload_n 81 rfl (show sCode 168 80 = some (.aload_n 0, 1) by decide +kernel) rfl (Nat.le_of_ble_eq_true rfl) ?_
  refine q_bipush 83 rfl (show sCode 168 81 = some (.bipush 10, 2) by decide +kernel) ⟨by decide, by decide⟩ (by decide +kernel) ?_
  refine q_newarr (u := 1) (a := a + 10) 85 rfl (show sCode 168 83 = some (.newarray .long, 2) by decide +kernel) ⟨rfl, by decide⟩ ⟨by decide, by decide⟩ (by omega) (h.free (by decide)) ⟨rfl, rfl, by decide +kernel, by decide +kernel⟩ ?_
  refine q_putR (o := 9) 88 rfl (show sCode 168 85 = some (.putfield 39, 3) by decide +kernel) (show sFR (sKo 168).1 39 = some (12, 22) by decide +kernel) (by decide +kernel) rfl rfl ?_
  refine mkA (F := fun M' G' => sW (sC d) 168 (QV PV) 88 [vT 12 a ((10 : Nat) : Int), vN] [] M' G' 10 3611) h (by decide) (by decide) (zL_z (by decide)) ?_
  intro M G h gg
  refine q_aload_n 89 rfl (show sCode 168 88 = some (.aload_n 0, 1) by decide +kernel) rfl (Nat.le_of_ble_eq_true rfl) ?_
  refine q_sipush 92 rfl (show sCode 168 89 = some (.sipush 274, 3) by decide +kernel) ⟨by decide, by decide⟩ (by decide +kernel) ?_
  refine q_newarr (u := 0) (a := a + 11) 94 rfl (show sCode 168 92 = some (.newarray .int, 2) by decide +kernel) ⟨rfl, by decide⟩ ⟨by decide, by decide⟩ (by omega) (h.free (by decide)) ⟨rfl, rfl, by decide +kernel, by decide +kernel⟩ ?_
  refine q_putR (o := 10) 97 rfl (show sCode 168 94 = some (.putfield 42, 3) by decide +kernel) (show sFR (sKo 168).1 42 = some (12, 23) by decide +kernel) (by decide +kernel) rfl rfl ?_
  refine mkA (F := fun M' G' => sW (sC d) 168 (QV PV) 97 [vT 12 a ((11 : Nat) : Int), vN] [] M' G' 11 3885) h (by decide) (by decide) (zL_z (by decide)) ?_
  intro M G h gg
  refine q_aload_n 98 rfl (show sCode 168 97 = some (.aload_n 0, 1) by decide +kernel) rfl (Nat.le_of_ble_eq_true rfl) ?_
  refine q_sipush 101 rfl (show sCode 168 98 = some (.sipush 274, 3) by decide +kernel) ⟨by decide, by decide⟩ (by decide +kernel) ?_
  refine q_newarr (u := 0) (a := a + 12) 103 rfl (show sCode 168 101 = some (.newarray .int, 2) by decide +kernel) ⟨rfl, by decide⟩ ⟨by decide, by decide⟩ (by omega) (h.free (by decide)) ⟨rfl, rfl, by decide +kernel, by decide +kernel⟩ ?_
  refine q_putR (o := 11) 106 rfl (show sCode 168 103 = some (.putfield 45, 3) by decide +kernel) (show sFR (sKo 168).1 45 = some (12, 24) by decide +kernel) (by decide +kernel) rfl rfl ?_
  refine mkA (F := fun M' G' => sW (sC d) 168 (QV PV) 106 [vT 12 a ((12 : Nat) : Int), vN] [] M' G' 12 4159) h (by decide) (by decide) (zL_z (by decide)) ?_
  intro M G h gg
  refine q_aload_n 107 rfl (show sCode 168 106 = some (.aload_n 0, 1) by decide +kernel) rfl (Nat.le_of_ble_eq_true rfl) ?_
  refine q_bipush 109 rfl (show sCode 168 107 = some (.bipush 18, 2) by decide +kernel) ⟨by decide, by decide⟩ (by decide +kernel) ?_
  refine q_newarr (u := 0) (a := a + 13) 111 rfl (show sCode 168 109 = some (.newarray .int, 2) by decide +kernel) ⟨rfl, by decide⟩ ⟨by decide, by decide⟩ (by omega) (h.free (by decide)) ⟨rfl, rfl, by decide +kernel, by decide +kernel⟩ ?_
  refine q_putR (o := 12) 114 rfl (show sCode 168 111 = some (.putfield 48, 3) by decide +kernel) (show sFR (sKo 168).1 48 = some (12, 25) by decide +kernel) (by decide +kernel) rfl rfl ?_
  refine mkA (F := fun M' G' => sW (sC d) 168 (QV PV) 114 [vT 12 a ((13 : Nat) : Int), vN] [] M' G' 13 4177) h (by decide) (by decide) (zL_z (by decide)) ?_
  intro M G h gg
  refine q_aload_n 115 rfl (show sCode 168 114 = some (.aload_n 0, 1) by decide +kernel) rfl (Nat.le_of_ble_eq_true rfl) ?_
  refine q_bipush 117 rfl (show sCode 168 115 = some (.bipush 18, 2) by decide +kernel) ⟨by decide, by decide⟩ (by decide +kernel) ?_
  refine q_newarr (u := 0) (a := a + 14) 119 rfl (show sCode 168 117 = some (.newarray .int, 2) by decide +kernel) ⟨rfl, by decide⟩ ⟨by decide, by decide⟩ (by omega) (h.free (by decide)) ⟨rfl, rfl, by decide +kernel, by decide +kernel⟩ ?_
  refine q_putR (o := 13) 122 rfl (show sCode 168 119 = some (.putfield 51, 3) by decide +kernel) (show sFR (sKo 168).1 51 = some (12, 26) by decide +kernel) (by decide +kernel) rfl rfl ?_
  refine mkA (F := fun M' G' => sW (sC d) 168 (QV PV) 122 [vT 12 a ((14 : Nat) : Int), vN] [] M' G' 14 4195) h (by decide) (by decide) (zL_z (by decide)) ?_
  intro M G h gg
  refine q_aload_n 123 rfl (show sCode 168 122 = some (.aload_n 0, 1) by decide +kernel) rfl (Nat.le_of_ble_eq_true rfl) ?_
  refine q_sipush 126 rfl (show sCode 168 123 = some (.sipush 4096, 3) by decide +kernel) ⟨by decide, by decide⟩ (by decide +kernel) ?_
  refine q_newarr (u := 0) (a := a + 15) 128 rfl (show sCode 168 126 = some (.newarray .int, 2) by decide +kernel) ⟨rfl, by decide⟩ ⟨by decide, by decide⟩ (by omega) (h.free (by decide)) ⟨rfl, rfl, by decide +kernel, by decide +kernel⟩ ?_
  refine q_putR (o := 14) 131 rfl (show sCode 168 128 = some (.putfield 54, 3) by decide +kernel) (show sFR (sKo 168).1 54 = some (12, 27) by decide +kernel) (by decide +kernel) rfl rfl ?_
  refine mkA (F := fun M' G' => sW (sC d) 168 (QV PV) 131 [vT 12 a ((15 : Nat) : Int), vN] [] M' G' 15 8291) h (by decide) (by decide) (zL_z (by decide)) ?_
  intro M G h gg
  refine q_aload_n 132 rfl (show sCode 168 131 = some (.aload_n 0, 1) by decide +kernel) rfl (Nat.le_of_ble_eq_true rfl) ?_
  refine q_bipush 134 rfl (show sCode 168 132 = some (.bipush 12, 2) by decide +kernel) ⟨by decide, by decide⟩ (by decide +kernel) ?_
  refine q_newarr (u := 0) (a := a + 16) 136 rfl (show sCode 168 134 = some (.newarray .int, 2) by decide +kernel) ⟨rfl, by decide⟩ ⟨by decide, by decide⟩ (by omega) (h.free (by decide)) ⟨rfl, rfl, by decide +kernel, by decide +kernel⟩ ?_
  refine q_putR (o := 15) 139 rfl (show sCode 168 136 = some (.putfield 57, 3) by decide +kernel) (show sFR (sKo 168).1 57 = some (12, 28) by decide +kernel) (by decide +kernel) rfl rfl ?_
  refine mkA (F := fun M' G' => sW (sC d) 168 (QV PV) 139 [vT 12 a ((16 : Nat) : Int), vN] [] M' G' 16 8303) h (by decide) (by decide) (zL_z (by decide)) ?_
  intro M G h gg
  refine q_aload_n 140 rfl (show sCode 168 139 = some (.aload_n 0, 1) by decide +kernel) rfl (Nat.le_of_ble_eq_true rfl) ?_
  refine q_bipush 142 rfl (show sCode 168 140 = some (.bipush 6, 2) by decide +kernel) ⟨by decide, by decide⟩ (by decide +kernel) ?_
  refine q_newarr (u := 0) (a := a + 17) 144 rfl (show sCode 168 142 = some (.newarray .int, 2) by decide +kernel) ⟨rfl, by decide⟩ ⟨by decide, by decide⟩ (by omega) (h.free (by decide)) ⟨rfl, rfl, by decide +kernel, by decide +kernel⟩ ?_
  refine q_putR (o := 16) 147 rfl (show sCode 168 144 = some (.putfield 60, 3) by decide +kernel) (show sFR (sKo 168).1 60 = some (12, 29) by decide +kernel) (by decide +kernel) rfl rfl ?_
  refine mkA (F := fun M' G' => sW (sC d) 168 (QV PV) 147 [vT 12 a ((17 : Nat) : Int), vN] [] M' G' 17 8309) h (by decide) (by decide) (zL_z (by decide)) ?_
  intro M G h gg
  refine q_aload_n 148 rfl (show sCode 168 147 = some (.aload_n 0, 1) by decide +kernel) rfl (Nat.le_of_ble_eq_true rfl) ?_
  refine q_bipush 150 rfl (show sCode 168 148 = some (.bipush 6, 2) by decide +kernel) ⟨by decide, by decide⟩ (by decide +kernel) ?_
  refine q_newarr (u := 0) (a := a + 18) 152 rfl (show sCode 168 150 = some (.newarray .int, 2) by decide +kernel) ⟨rfl, by decide⟩ ⟨by decide, by decide⟩ (by omega) (h.free (by decide)) ⟨rfl, rfl, by decide +kernel, by decide +kernel⟩ ?_
  refine q_putR (o := 17) 155 rfl (show sCode 168 152 = some (.putfield 63, 3) by decide +kernel) (show sFR (sKo 168).1 63 = some (12, 30) by decide +kernel) (by decide +kernel) rfl rfl ?_
  refine mkA (F := fun M' G' => sW (sC d) 168 (QV PV) 155 [vT 12 a ((18 : Nat) : Int), vN] [] M' G' 18 8315) h (by decide) (by decide) (zL_z (by decide)) ?_
  intro M G h gg
  refine q_aload_n 156 rfl (show sCode 168 155 = some (.aload_n 0, 1) by decide +kernel) rfl (Nat.le_of_ble_eq_true rfl) ?_
  refine q_bipush 158 rfl (show sCode 168 156 = some (.bipush 12, 2) by decide +kernel) ⟨by decide, by decide⟩ (by decide +kernel) ?_
  refine q_newarr (u := 0) (a := a + 19) 160 rfl (show sCode 168 158 = some (.newarray .int, 2) by decide +kernel) ⟨rfl, by decide⟩ ⟨by decide, by decide⟩ (by omega) (h.free (by decide)) ⟨rfl, rfl, by decide +kernel, by decide +kernel⟩ ?_
  refine q_putR (o := 18) 163 rfl (show sCode 168 160 = some (.putfield 66, 3) by decide +kernel) (show sFR (sKo 168).1 66 = some (12, 31) by decide +kernel) (by decide +kernel) rfl rfl ?_
  refine mkA (F := fun M' G' => sW (sC d) 168 (QV PV) 163 [vT 12 a ((19 : Nat) : Int), vN] [] M' G' 19 8327) h (by decide) (by decide) (zL_z (by decide)) ?_
  intro M G h gg
  refine q_aload_n 164 rfl (show sCode 168 163 = some (.aload_n 0, 1) by decide +kernel) rfl (Nat.le_of_ble_eq_true rfl) ?_
  refine q_bipush 166 rfl (show sCode 168 164 = some (.bipush 8, 2) by decide +kernel) ⟨by decide, by decide⟩ (by decide +kernel) ?_
  refine q_newarr (u := 0) (a := a + 20) 168 rfl (show sCode 168 166 = some (.newarray .int, 2) by decide +kernel) ⟨rfl, by decide⟩ ⟨by decide, by decide⟩ (by omega) (h.free (by decide)) ⟨rfl, rfl, by decide +kernel, by decide +kernel⟩ ?_
  refine q_putR (o := 19) 171 rfl (show sCode 168 168 = some (.putfield 69, 3) by decide +kernel) (show sFR (sKo 168).1 69 = some (12, 32) by decide +kernel) (by decide +kernel) rfl rfl ?_
  refine mkA (F := fun M' G' => sW (sC d) 168 (QV PV) 171 [vT 12 a ((20 : Nat) : Int), vN] [] M' G' 20 8335) h (by decide) (by decide) (zL_z (by decide)) ?_
  intro M G h gg
  refine q_aload_n 172 rfl (show sCode 168 171 = some (.aload_n 0, 1) by decide +kernel) rfl (Nat.le_of_ble_eq_true rfl) ?_
  refine q_bipush 174 rfl (show sCode 168 172 = some (.bipush 8, 2) by decide +kernel) ⟨by decide, by decide⟩ (by decide +kernel) ?_
  refine q_newarr (u := 0) (a := a + 21) 176 rfl (show sCode 168 174 = some (.newarray .int, 2) by decide +kernel) ⟨rfl, by decide⟩ ⟨by decide, by decide⟩ (by omega) (h.free (by decide)) ⟨rfl, rfl, by decide +kernel, by decide +kernel⟩ ?_
  refine q_putR (o := 20) 179 rfl (show sCode 168 176 = some (.putfield 72, 3) by decide +kernel) (show sFR (sKo 168).1 72 = some (12, 33) by decide +kernel) (by decide +kernel) rfl rfl ?_
  refine mkA (F := fun M' G' => sW (sC d) 168 (QV PV) 179 [vT 12 a ((21 : Nat) : Int), vN] [] M' G' 21 8343) h (by decide) (by decide) (zL_z (by decide)) ?_
  intro M G h gg
  refine q_aload_n 180 rfl (show sCode 168 179 = some (.aload_n 0, 1) by decide +kernel) rfl (Nat.le_of_ble_eq_true rfl) ?_
  refine q_bipush 182 rfl (show sCode 168 180 = some (.bipush 8, 2) by decide +kernel) ⟨by decide, by decide⟩ (by decide +kernel) ?_
  refine q_newarr (u := 0) (a := a + 22) 184 rfl (show sCode 168 182 = some (.newarray .int, 2) by decide +kernel) ⟨rfl, by decide⟩ ⟨by decide, by decide⟩ (by omega) (h.free (by decide)) ⟨rfl, rfl, by decide +kernel, by decide +kernel⟩ ?_
  refine q_putR (o := 21) 187 rfl (show sCode 168 184 = some (.putfield 75, 3) by decide +kernel) (show sFR (sKo 168).1 75 = some (12, 34) by decide +kernel) (by decide +kernel) rfl rfl ?_
  refine mkA (F := fun M' G' => sW (sC d) 168 (QV PV) 187 [vT 12 a ((22 : Nat) : Int), vN] [] M' G' 22 8351) h (by decide) (by decide) (zL_z (by decide)) ?_
  intro M G h gg
  refine q_aload_n 188 rfl (show sCode 168 187 = some (.aload_n 0, 1) by decide +kernel) rfl (Nat.le_of_ble_eq_true rfl) ?_
  refine q_bipush 190 rfl (show sCode 168 188 = some (.bipush 97, 2) by decide +kernel) ⟨by decide, by decide⟩ (by decide +kernel) ?_
  refine q_newarr (u := 0) (a := a + 23) 192 rfl (show sCode 168 190 = some (.newarray .int, 2) by decide +kernel) ⟨rfl, by decide⟩ ⟨by decide, by decide⟩ (by omega) (h.free (by decide)) ⟨rfl, rfl, by decide +kernel, by decide +kernel⟩ ?_
  refine q_putR (o := 22) 195 rfl (show sCode 168 192 = some (.putfield 78, 3) by decide +kernel) (show sFR (sKo 168).1 78 = some (12, 35) by decide +kernel) (by decide +kernel) rfl rfl ?_
  refine mkA (F := fun M' G' => sW (sC d) 168 (QV PV) 195 [vT 12 a ((23 : Nat) : Int), vN] [] M' G' 23 8448) h (by decide) (by decide) (zL_z (by decide)) ?_
  intro M G h gg
  refine q_aload_n 196 rfl (show sCode 168 195 = some (.aload_n 0, 1) by decide +kernel) rfl (Nat.le_of_ble_eq_true rfl) ?_
  refine q_sipush 199 rfl (show sCode 168 196 = some (.sipush 1096, 3) by decide +kernel) ⟨by decide, by decide⟩ (by decide +kernel) ?_
  refine q_newarr (u := 0) (a := a + 24) 201 rfl (show sCode 168 199 = some (.newarray .int, 2) by decide +kernel) ⟨rfl, by decide⟩ ⟨by decide, by decide⟩ (by omega) (h.free (by decide)) ⟨rfl, rfl, by decide +kernel, by decide +kernel⟩ ?_
  refine q_putR (o := 23) 204 rfl (show sCode 168 201 = some (.putfield 81, 3) by decide +kernel) (show sFR (sKo 168).1 81 = some (12, 36) by decide +kernel) (by decide +kernel) rfl rfl ?_
  refine mkA (F := fun M' G' => sW (sC d) 168 (QV PV) 204 [vT 12 a ((24 : Nat) : Int), vN] [] M' G' 24 9544) h (by decide) (by decide) (zL_z (by decide)) ?_
  intro M G h gg
  refine q_aload_n 205 rfl (show sCode 168 204 = some (.aload_n 0, 1) by decide +kernel) rfl (Nat.le_of_ble_eq_true rfl) ?_
  refine q_iconst 206 rfl (show sCode 168 205 = some (.iconst 4, 1) by decide +kernel) ⟨by decide, by decide⟩ ?_
  refine q_newarr (u := 3) (a := a + 25) 208 rfl (show sCode 168 206 = some (.newarray .boolean, 2) by decide +kernel) ⟨rfl, by decide⟩ ⟨by decide, by decide⟩ (by omega) (h.free (by decide)) ⟨rfl, rfl, by decide +kernel, by decide +kernel⟩ ?_
  refine q_putR (o := 24) 211 rfl (show sCode 168 208 = some (.putfield 84, 3) by decide +kernel) (show sFR (sKo 168).1 84 = some (12, 37) by decide +kernel) (by decide +kernel) rfl rfl ?_
  refine mkA (F := fun M' G' => sW (sC d) 168 (QV PV) 211 [vT 12 a ((25 : Nat) : Int), vN] [] M' G' 25 9548) h (by decide) (by decide) (zL_z (by decide)) ?_
  intro M G h gg
  exact nLoop (fun M G h' gg' => kk M G h'.1 gg' h'.2.2) h gg
