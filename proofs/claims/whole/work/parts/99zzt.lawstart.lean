/-! THE LAW: how it begins, its loop. -/
section
variable {M : sM} {G : sG}
theorem st_p {p w : Int} (p0 : 0 ≤ p) (p1 : p < 12) (w0 : 0 ≤ w) (w1 : w < 5) : pO (zP 12 11) p w = if w = 0 ∨ w = 1 ∨ w = 3 then -1 else 0 := by
  unfold pO zP
  have e1 : (((136 + 5 * p) + w).toNat - 136) = w.toNat + 5 * p.toNat := by omega
  have e2 : (w.toNat + 5 * p.toNat) % 5 = w.toNat := by omega
  rw [e1, e2]
  by_cases c : w = 0 ∨ w = 1 ∨ w = 3
  · rw [if_pos c, if_pos ⟨rfl, by omega, by omega, by omega⟩]
  · rw [if_neg c, if_neg (fun z => c (by omega))]
theorem Inv_start (h1 : ∀ i, i < 81 → M (1 + i) = zL [25, 26, 27, 53, 54, 55] i) (h2 : ∀ i, i < 26 → M (82 + i) = zP 12 i) (hG : ∀ a, 109 ≤ a → G a = (0, 0, 0)) : Inv 0 M G := by
  have c : ∀ a, 1 ≤ a → a < 82 → ¬ (26 ≤ a ∧ a ≤ 28) → ¬ (54 ≤ a ∧ a ≤ 56) → M a = fun _ => 0 := fun a a1 a2 a3 a4 => by
    have := h1 (a - 1) (by omega)
    rw [show 1 + (a - 1) = a by omega] at this
    rw [this]
    exact zL_z (fun z => by simp only [List.mem_cons, List.not_mem_nil, or_false] at z; omega)
  have cn : ∀ a, a = 26 ∨ a = 27 ∨ a = 28 → M a = fun j => if j < 12 then -1 else 0 := fun a ha => by
    have := h1 (a - 1) (by omega)
    rw [show 1 + (a - 1) = a by omega] at this
    rw [this]
    exact zL_i (by rcases ha with z | z | z <;> rw [z] <;> decide)
  have r : ∀ a, 82 ≤ a → a < 108 → a ≠ 93 → M a = fun _ => 0 := fun a a1 a2 a3 => by
    have := h2 (a - 82) (by omega)
    rw [show 82 + (a - 82) = a by omega] at this
    rw [this]
    funext j
    unfold zP
    rw [if_neg (fun z => by omega)]
  have r93 : M 93 = zP 12 11 := h2 11 (by decide)
  have m31 : M 3 1 = 0 := by rw [c 3 (by decide) (by decide) (by decide) (by decide)]
  have m111 : M 1 11 = 0 := by rw [c 1 (by decide) (by decide) (by decide) (by decide)]
  have m82 : ∀ j, M 82 j = 0 := fun j => by rw [r 82 (by decide) (by decide) (by decide)]
  have s0 : ∀ j, j < 136 → zP 12 11 j = 0 := fun j hj => by
    unfold zP
    rw [if_neg (fun z => by omega)]
  have s5 : zP 12 11 5 = 0 := s0 5 (by decide)
  have s6 : zP 12 11 6 = 0 := s0 6 (by decide)
  have s7 : zP 12 11 7 = 0 := s0 7 (by decide)
  have s8 : zP 12 11 8 = 0 := s0 8 (by decide)
  have s9 : zP 12 11 9 = 0 := s0 9 (by decide)
  have z0 : zP 12 11 0 = 0 := s0 0 (by decide)
  have z1 : zP 12 11 1 = 0 := s0 1 (by decide)
  have z2 : zP 12 11 2 = 0 := s0 2 (by decide)
  have z3 : zP 12 11 3 = 0 := s0 3 (by decide)
  have z4 : zP 12 11 4 = 0 := s0 4 (by decide)
  have m0 : ∀ a j, 14 ≤ a → a ≤ 41 → ¬ (26 ≤ a ∧ a ≤ 28) → M a j = 0 := fun a j a1 a2 a3 => by rw [c a (by omega) (by omega) a3 (by omega)]
  refine ⟨Int.le_refl 0, fun _ => 0, 109, fun a ha => ⟨hG a ha, rfl⟩, Nat.le_refl _, ?_, ?_, ?_, ?_, ?_⟩
  · unfold iTape
    rw [m31, m82]
    exact ⟨by decide, by decide, rfl, fun i hi => by omega⟩
  · unfold iRules
    rw [m111, m82]
    exact ⟨by decide, by decide, rfl, fun i hi hj => by omega⟩
  · intro k k0 k1
    exact Or.inl ⟨by rw [r 107 (by decide) (by decide) (by decide)], m0 41 _ (by decide) (by decide) (by decide)⟩
  · unfold iTown
    rw [r93]
    refine ⟨⟨⟨?_, ?_, ?_, ?_, ?_⟩, fun h h0 h1 => ?_, fun s h0 h1 => ?_, fun p p0 p1 => ?_, fun h h0 h1 => ?_⟩, ?_, ⟨?_, fun h h0 h1 => ?_, fun s h0 h1 => ?_, fun p p0 p1 => ?_, fun h h0 h1 => ?_⟩⟩
    · rw [z0]; omega
    · rw [z1]; omega
    · rw [z2]; omega
    · rw [z3]; omega
    · rw [z4]; omega
    · rw [z0] at h1; omega
    · rw [z1] at h1; omega
    · rw [st_p p0 p1 (by decide) (by decide), st_p p0 p1 (by decide) (by decide), st_p p0 p1 (by decide) (by decide), st_p p0 p1 (by decide) (by decide), st_p p0 p1 (by decide) (by decide), z0, z1, z4]
      rw [if_pos (by decide), if_pos (by decide), if_neg (by decide), if_pos (by decide), if_neg (by decide)]
      omega
    · rw [z0] at h1; omega
    · unfold lowLate
      rw [z2, z3]
      decide
    · unfold TRl
      rw [z0, z1, z2, z3]
      exact ⟨m0 14 _ (by decide) (by decide) (by decide), m0 14 _ (by decide) (by decide) (by decide), m0 14 _ (by decide) (by decide) (by decide), m0 14 _ (by decide) (by decide) (by decide)⟩
    · rw [z0] at h1; omega
    · rw [z1] at h1; omega
    · rw [st_p p0 p1 (by decide) (by decide), st_p p0 p1 (by decide) (by decide), st_p p0 p1 (by decide) (by decide), cn 26 (by decide), cn 27 (by decide), cn 28 (by decide)]
      have hp : p.toNat < 12 := by omega
      refine ⟨?_, ?_, ?_⟩
      · show (if p.toNat < 12 then (-1 : Int) else 0) = _
        rw [if_pos hp]; rfl
      · show (if p.toNat < 12 then (-1 : Int) else 0) = _
        rw [if_pos hp]; rfl
      · show (if p.toNat < 12 then (-1 : Int) else 0) = _
        rw [if_pos hp]; rfl
    · rw [z0] at h1; omega
  · unfold iTold
    rw [r93]
    refine ⟨⟨?_, ?_, ?_, ?_, ?_, fun w w0 w1 => ?_, fun k k0 k1 => ?_, fun j k j0 jk k1 => ?_, fun f f0 f1 => ?_, fun g g0 g1 => ?_⟩, ⟨?_, fun p p0 p1 => ?_, fun w w0 w1 => ?_, fun k k0 k1 => ?_, fun f f0 f1 => ?_, fun g g0 g1 => ?_⟩⟩
    · rw [s5]; omega
    · rw [s6]; omega
    · rw [s7]; omega
    · rw [s8]; omega
    · rw [s9]; omega
    · rw [s5] at w1; omega
    · rw [s6] at k1; omega
    · rw [s6] at k1; omega
    · rw [s7] at f1; omega
    · rw [s8] at g1; omega
    · rw [s5, s6, s7, s8, s9]
      exact ⟨m0 29 _ (by decide) (by decide) (by decide), m0 29 _ (by decide) (by decide) (by decide), m0 29 _ (by decide) (by decide) (by decide), m0 29 _ (by decide) (by decide) (by decide), m0 29 _ (by decide) (by decide) (by decide)⟩
    · rw [st_p p0 p1 (by decide) (by decide), if_neg (by decide)]
      exact m0 30 _ (by decide) (by decide) (by decide)
    · rw [s5] at w1; omega
    · rw [s6] at k1; omega
    · rw [s7] at f1; omega
    · rw [s8] at g1; omega
end
section
variable {d N : Nat} {scr : Nat → Int}
abbrev QL1 : Option sV → sM → sG → Prop := QI (fun x _ _ => x = 1)
theorem law_case {i n m : Nat} {M : sM} {G : sG} {t x : Int} {Q : Option sV → sM → sG → Prop} (hd : 100 ≤ d) (hI : Inv t M G) (t6 : t ≤ 600) (hsI : ∀ j, sI (scr j)) (hs : ∀ j, j < N → M 108 j = scr j) (hi : i + 6 < N) (hN : N ≤ 4000) (hn : n ≤ 590000) (hm : m ≤ 7200000)
    (kk : ∀ M' G' n' m', n' ≤ n + 28 → m' ≤ m + 3205 → Inv (t + 1) M' G' → (∀ j, j < N → M' 108 j = scr j) → sW (lC d N scr) 279 Q 1287 (LL N i) [] M' G' n' m') : sW (lC d N scr) 279 Q 33 (LL N i) [vI x] M G n m := by
  refine l_switch (show sCode 279 33 = some (.tableswitch 1254 0 32 #[147, 210, 233, 246, 259, 292, 325, 358, 391, 440, 473, 516, 529, 572, 615, 648, 691, 754, 777, 810, 833, 866, 889, 912, 945, 968, 1001, 1044, 1119, 1142, 1185, 1208, 1231], 147) by decide +kernel) (fun _ => ⟨1287, by decide, kk M G n m (by omega) (by omega) (hI.same (kp.refl [] M)) hs⟩) (fun a b => ?_)
  have hx : x = 0 ∨ x = 1 ∨ x = 2 ∨ x = 3 ∨ x = 4 ∨ x = 5 ∨ x = 6 ∨ x = 7 ∨ x = 8 ∨ x = 9 ∨ x = 10 ∨ x = 11 ∨ x = 12 ∨ x = 13 ∨ x = 14 ∨ x = 15 ∨ x = 16 ∨ x = 17 ∨ x = 18 ∨ x = 19 ∨ x = 20 ∨ x = 21 ∨ x = 22 ∨ x = 23 ∨ x = 24 ∨ x = 25 ∨ x = 26 ∨ x = 27 ∨ x = 28 ∨ x = 29 ∨ x = 30 ∨ x = 31 ∨ x = 32 := by omega
  rcases hx with rfl | rfl | rfl | rfl | rfl | rfl | rfl | rfl | rfl | rfl | rfl | rfl | rfl | rfl | rfl | rfl | rfl | rfl | rfl | rfl | rfl | rfl | rfl | rfl | rfl | rfl | rfl | rfl | rfl | rfl | rfl | rfl | rfl
  · exact ⟨147, 180, rfl, by decide, lwc0 hd hI t6 hsI hs hi hN hn hm kk⟩
  · exact ⟨210, 243, rfl, by decide, lwc1 hd hI t6 hsI hs hi hN hn hm kk⟩
  · exact ⟨233, 266, rfl, by decide, lwc2 hd hI t6 hsI hs hi hN hn hm kk⟩
  · exact ⟨246, 279, rfl, by decide, lwc3 hd hI t6 hsI hs hi hN hn hm kk⟩
  · exact ⟨259, 292, rfl, by decide, lwc4 hd hI t6 hsI hs hi hN hn hm kk⟩
  · exact ⟨292, 325, rfl, by decide, lwc5 hd hI t6 hsI hs hi hN hn hm kk⟩
  · exact ⟨325, 358, rfl, by decide, lwc6 hd hI t6 hsI hs hi hN hn hm kk⟩
  · exact ⟨358, 391, rfl, by decide, lwc7 hd hI t6 hsI hs hi hN hn hm kk⟩
  · exact ⟨391, 424, rfl, by decide, lwc8 hd hI t6 hsI hs hi hN hn hm kk⟩
  · exact ⟨440, 473, rfl, by decide, lwc9 hd hI t6 hsI hs hi hN hn hm kk⟩
  · exact ⟨473, 506, rfl, by decide, lwc10 hd hI t6 hsI hs hi hN hn hm kk⟩
  · exact ⟨516, 549, rfl, by decide, lwc11 hd hI t6 hsI hs hi hN hn hm kk⟩
  · exact ⟨529, 562, rfl, by decide, lwc12 hd hI t6 hsI hs hi hN hn hm kk⟩
  · exact ⟨572, 605, rfl, by decide, lwc13 hd hI t6 hsI hs hi hN hn hm kk⟩
  · exact ⟨615, 648, rfl, by decide, lwc14 hd hI t6 hsI hs hi hN hn hm kk⟩
  · exact ⟨648, 681, rfl, by decide, lwc15 hd hI t6 hsI hs hi hN hn hm kk⟩
  · exact ⟨691, 724, rfl, by decide, lwc16 hd hI t6 hsI hs hi hN hn hm kk⟩
  · exact ⟨754, 787, rfl, by decide, lwc17 hd hI t6 hsI hs hi hN hn hm kk⟩
  · exact ⟨777, 810, rfl, by decide, lwc18 hd hI t6 hsI hs hi hN hn hm kk⟩
  · exact ⟨810, 843, rfl, by decide, lwc19 hd hI t6 hsI hs hi hN hn hm kk⟩
  · exact ⟨833, 866, rfl, by decide, lwc20 hd hI t6 hsI hs hi hN hn hm kk⟩
  · exact ⟨866, 899, rfl, by decide, lwc21 hd hI t6 hsI hs hi hN hn hm kk⟩
  · exact ⟨889, 922, rfl, by decide, lwc22 hd hI t6 hsI hs hi hN hn hm kk⟩
  · exact ⟨912, 945, rfl, by decide, lwc23 hd hI t6 hsI hs hi hN hn hm kk⟩
  · exact ⟨945, 978, rfl, by decide, lwc24 hd hI t6 hsI hs hi hN hn hm kk⟩
  · exact ⟨968, 1001, rfl, by decide, lwc25 hd hI t6 hsI hs hi hN hn hm kk⟩
  · exact ⟨1001, 1034, rfl, by decide, lwc26 hd hI t6 hsI hs hi hN hn hm kk⟩
  · exact ⟨1044, 1077, rfl, by decide, lwc27 hd hI t6 hsI hs hi hN hn hm kk⟩
  · exact ⟨1119, 1152, rfl, by decide, lwc28 hd hI t6 hsI hs hi hN hn hm kk⟩
  · exact ⟨1142, 1175, rfl, by decide, lwc29 hd hI t6 hsI hs hi hN hn hm kk⟩
  · exact ⟨1185, 1218, rfl, by decide, lwc30 hd hI t6 hsI hs hi hN hn hm kk⟩
  · exact ⟨1208, 1241, rfl, by decide, lwc31 hd hI t6 hsI hs hi hN hn hm kk⟩
  · exact ⟨1231, 1264, rfl, by decide, lwc32 hd hI t6 hsI hs hi hN hn hm kk⟩
theorem law_loop (hd : 100 ≤ d) (hN : N ≤ 3584) (hsI : ∀ j, sI (scr j)) : ∀ (y i n m : Nat) (t : Int) (M : sM) (G : sG), N ≤ i + y → 7 * t ≤ (i : Int) → i ≤ N + 6 → Inv t M G → (∀ j, j < N → M 108 j = scr j) → (n : Int) ≤ 200 + 28 * t → (m : Int) ≤ 20000 + 3205 * t → sW (lC d N scr) 279 QL1 18 (LL N i) [] M G n m := by
  intro y
  induction y with
  | zero =>
    intro i n m t M G hy ht hi hI hs hn hm
    refine l_iload_n 19 rfl (show sCode 279 18 = some (.iload_n 3, 1) by decide +kernel) (x := (i : Int)) rfl ?_
    refine l_aload_n 20 rfl (show sCode 279 19 = some (.aload_n 0, 1) by decide +kernel) (v := vA 4 108 (N : Int)) rfl (Nat.le_of_ble_eq_true rfl) ?_
    refine l_alen 21 rfl (show sCode 279 20 = some (.arraylength, 1) by decide +kernel) (by decide) (by omega) ?_
    refine l_bipush 23 rfl (show sCode 279 21 = some (.bipush 7, 2) by decide +kernel) ⟨by decide, by decide⟩ (by decide +kernel) ?_
    refine l_isub 24 rfl (show sCode 279 23 = some (.isub, 1) by decide +kernel) ⟨by omega, by omega⟩ ?_
    refine l_icmpgt 1293 27 rfl (by decide) (show sCode 279 24 = some (.if_icmp .gt 1269, 3) by decide +kernel) (fun q => ?_) (fun q => by omega)
    refine l_iconst 1294 rfl (show sCode 279 1293 = some (.iconst 1, 1) by decide +kernel) ⟨by decide, by decide⟩ ?_
    exact l_zret (show sCode 279 1294 = some (.ireturn, 1) by decide +kernel) (Or.inr rfl) ⟨by omega, by omega⟩ rfl
  | succ y ih =>
    intro i n m t M G hy ht hi hI hs hn hm
    refine l_iload_n 19 rfl (show sCode 279 18 = some (.iload_n 3, 1) by decide +kernel) (x := (i : Int)) rfl ?_
    refine l_aload_n 20 rfl (show sCode 279 19 = some (.aload_n 0, 1) by decide +kernel) (v := vA 4 108 (N : Int)) rfl (Nat.le_of_ble_eq_true rfl) ?_
    refine l_alen 21 rfl (show sCode 279 20 = some (.arraylength, 1) by decide +kernel) (by decide) (by omega) ?_
    refine l_bipush 23 rfl (show sCode 279 21 = some (.bipush 7, 2) by decide +kernel) ⟨by decide, by decide⟩ (by decide +kernel) ?_
    refine l_isub 24 rfl (show sCode 279 23 = some (.isub, 1) by decide +kernel) ⟨by omega, by omega⟩ ?_
    refine l_icmpgt 1293 27 rfl (by decide) (show sCode 279 24 = some (.if_icmp .gt 1269, 3) by decide +kernel) (fun q => ?_) (fun q => ?_)
    · refine l_iconst 1294 rfl (show sCode 279 1293 = some (.iconst 1, 1) by decide +kernel) ⟨by decide, by decide⟩ ?_
      exact l_zret (show sCode 279 1294 = some (.ireturn, 1) by decide +kernel) (Or.inr rfl) ⟨by omega, by omega⟩ rfl
    · refine l_aload_n 28 rfl (show sCode 279 27 = some (.aload_n 0, 1) by decide +kernel) (v := vA 4 108 (N : Int)) rfl (Nat.le_of_ble_eq_true rfl) ?_
      refine l_iload_n 29 rfl (show sCode 279 28 = some (.iload_n 3, 1) by decide +kernel) (x := (i : Int)) rfl ?_
      refine l_sald 30 rfl (show sCode 279 29 = some (.iaload, 1) by decide +kernel) ⟨by omega, by omega⟩ ?_
      refine l_bipush 32 rfl (show sCode 279 30 = some (.bipush 63, 2) by decide +kernel) ⟨by decide, by decide⟩ (by decide +kernel) ?_
      refine l_iand 33 rfl (show sCode 279 32 = some (.iand, 1) by decide +kernel) ?_
      refine law_case hd hI (by omega) hsI hs (by omega) (by omega) (by omega) (by omega) (fun M' G' n' m' b1 b2 b3 b4 => ?_)
      refine l_iinc (LL N (i + 7)) 1290 rfl (show sCode 279 1287 = some (.iinc 3 7, 3) by decide +kernel) (x := (i : Int)) rfl rfl ⟨by omega, by omega⟩ rfl ?_
      refine l_goto 18 (by decide) (show sCode 279 1290 = some (.goto (-1272), 3) by decide +kernel) ?_
      exact ih (i + 7) n' m' (t + 1) M' G' (by omega) (by omega) (by omega) b3 b4 (by omega) (by omega)
def lM0 (scr : Nat → Int) : sM := fun a i => if a = 108 then scr i else 0
def lG0 (N : Nat) : sG := fun a => if a = 108 then (7, N, 0) else (0, 0, 0)
theorem law_start (hd : 110 ≤ d) (hN : N ≤ 3584) (hsI : ∀ j, sI (scr j)) : sW (lC d N scr) 279 QL1 0 [vA 4 108 (N : Int), vN, vN, vN] [] (lM0 scr) (lG0 N) 0 0 := by
  have g0 : ∀ a, a ≠ 108 → lG0 N a = (0, 0, 0) := fun a ha => if_neg ha
  have q0 : ∀ a, a ≠ 108 → lM0 scr a = fun _ => 0 := fun a ha => by
    funext i
    exact if_neg ha
  refine l_new (c := 11) (a := 1) 3 rfl (show sCode 279 0 = some (.new 7, 3) by decide +kernel) (show sCR (sKo 279).1 7 = some 11 by decide +kernel) (by decide) (g0 1 (by decide)) ⟨rfl, rfl, by decide +kernel, by decide +kernel⟩ ?_
  refine l_dup 4 rfl (show sCode 279 3 = some (.dup, 1) by decide +kernel) rfl ?_
  refine l_init [] 7 rfl (show sCode 279 4 = some (.invokespecial 9, 3) by decide +kernel) (show sMR (sKo 279).1 9 = some 0 by decide +kernel) (show 0 < 1000 ∧ sStat 0 = false ∧ sIni 0 = true ∧ sKo 0 = (11, 0, 0, 80, 3118) by decide +kernel) rfl rfl (Nat.le_of_ble_eq_true rfl) rfl rfl rfl ⟨rfl, rfl, by decide +kernel, by decide +kernel⟩ ?_
  refine n0 d 1 _ _ _ (by omega) (by decide) sClr_eq sGs_eq (fun i i1 i2 => ?_) (fun M1 G1 f1 f2 f3 => ⟨f2, ?_⟩)
  · rw [sGs_ne (by omega), sGs_ne (by omega)]; exact g0 _ (by omega)
  refine l_astore_n [vA 4 108 (N : Int), vO 11 1, vN, vN] 8 rfl (show sCode 279 7 = some (.astore_n 1, 1) by decide +kernel) ⟨Nat.le_of_ble_eq_true rfl, Or.inl (Nat.lt_of_lt_of_le (Nat.lt_succ_self _) (Nat.le_of_ble_eq_true rfl))⟩ (Nat.lt_of_lt_of_le (Nat.lt_succ_self _) (Nat.le_of_ble_eq_true rfl)) rfl rfl ?_
  have h82 : ∀ i, i < 26 → G1 (82 + i) = (0, 0, 0) := fun i hi => by
    rw [(f1 (82 + i) (by omega)).2, sGs_ne (by omega), sGs_ne (by omega)]
    exact g0 _ (by omega)
  refine l_new (c := 12) (a := 82) 11 rfl (show sCode 279 8 = some (.new 10, 3) by decide +kernel) (show sCR (sKo 279).1 10 = some 12 by decide +kernel) (by decide) (h82 0 (by decide)) ⟨rfl, rfl, by decide +kernel, by decide +kernel⟩ ?_
  refine l_dup 12 rfl (show sCode 279 11 = some (.dup, 1) by decide +kernel) rfl ?_
  refine l_init [] 15 rfl (show sCode 279 12 = some (.invokespecial 12, 3) by decide +kernel) (show sMR (sKo 279).1 12 = some 168 by decide +kernel) (show 168 < 1000 ∧ sStat 168 = false ∧ sIni 168 = true ∧ sKo 168 = (12, 0, 0, 25, 9548) by decide +kernel) rfl rfl (Nat.le_of_ble_eq_true rfl) rfl rfl rfl ⟨rfl, rfl, by decide +kernel, by decide +kernel⟩ ?_
  refine n168 d 82 _ _ _ (by omega) (by decide) sClr_eq sGs_eq (fun i i1 i2 => ?_) (fun M2 G2 k1 k2 k3 => ⟨k2, ?_⟩)
  · rw [sGs_ne (by omega), sGs_ne (by omega)]; exact h82 i i2
  refine l_astore_n [vA 4 108 (N : Int), vO 11 1, vO 12 82, vN] 16 rfl (show sCode 279 15 = some (.astore_n 2, 1) by decide +kernel) ⟨Nat.le_of_ble_eq_true rfl, Or.inl (Nat.lt_of_lt_of_le (Nat.lt_succ_self _) (Nat.le_of_ble_eq_true rfl))⟩ (Nat.lt_of_lt_of_le (Nat.lt_succ_self _) (Nat.le_of_ble_eq_true rfl)) rfl rfl ?_
  refine l_iconst 17 rfl (show sCode 279 16 = some (.iconst 0, 1) by decide +kernel) ⟨by decide, by decide⟩ ?_
  refine l_istore_n (LL N 0) 18 rfl (show sCode 279 17 = some (.istore_n 3, 1) by decide +kernel) (Nat.lt_of_lt_of_le (Nat.lt_succ_self _) (Nat.le_of_ble_eq_true rfl)) rfl rfl ?_
  refine law_loop (by omega) hN hsI N 0 _ _ 0 M2 G2 (by omega) (by omega) (by omega) ?_ (fun j _ => ?_) (by decide +kernel) (by decide +kernel)
  · refine Inv_start (fun i hi => ?_) k3 (fun a ha => ?_)
    · rw [(k1 (1 + i) (by omega)).1, sClr_ne (by omega)]
      exact f3 i hi
    · rw [(k1 a (by omega)).2, sGs_ne (by omega), sGs_ne (by omega), (f1 a (by omega)).2, sGs_ne (by omega), sGs_ne (by omega)]
      exact g0 a (by omega)
  · rw [(k1 108 (by omega)).1, sClr_ne (by omega), (f1 108 (by omega)).1, sClr_ne (by omega)]
    exact if_pos rfl
end
