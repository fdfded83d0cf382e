/-! THE RULE PARSER, class: a rule read. -/
def aI : aS := (0, 0, 0, [], (fun _ => 0), 0, [])
def clK (cl : List (Int × den)) (c : Nat) : Int := (cl.getD (cl.length - 1 - c) (0, fun _ => 0)).1
def clD (cl : List (Int × den)) (c : Nat) : den := (cl.getD (cl.length - 1 - c) (0, fun _ => 0)).2
theorem clK_l {x : Int × den} {cl : List (Int × den)} : clK (x :: cl) cl.length = x.1 ∧ clD (x :: cl) cl.length = x.2 := by
  unfold clK clD
  rw [show (x :: cl).length - 1 - cl.length = 0 by show cl.length + 1 - 1 - cl.length = 0; omega]
  exact ⟨rfl, rfl⟩
theorem clK_s {x : Int × den} {cl : List (Int × den)} {c : Nat} (h : c < cl.length) : clK (x :: cl) c = clK cl c ∧ clD (x :: cl) c = clD cl c := by
  unfold clK clD
  rw [show (x :: cl).length - 1 - c = (cl.length - 1 - c) + 1 by show cl.length + 1 - 1 - c = _; omega]
  exact ⟨rfl, rfl⟩
theorem getD_mem {cl : List (Int × den)} {z : Int × den} : ∀ {i : Nat}, i < cl.length → cl.getD i z ∈ cl := by
  induction cl with
  | nil => intro i h; exact absurd h (Nat.not_lt_zero i)
  | cons x l ih =>
    intro i h
    cases i with
    | zero => exact List.mem_cons_self
    | succ i => exact List.mem_cons_of_mem _ (ih (Nat.lt_of_succ_lt_succ h))
theorem clD_01 {cl : List (Int × den)} (h : ∀ x, x ∈ cl → d01 x.2) {c : Nat} (hc : c < cl.length) : d01 (clD cl c) := by
  unfold clD
  have hl : cl.length - 1 - c < cl.length := by omega
  exact h _ (getD_mem hl)
theorem cCls.at {M : sM} : ∀ {cl : List (Int × den)} {a : Nat}, cCls M cl a → (∀ c, c < cl.length → ∃ b e h : Nat, stC (M 8) (c : Int) = (b : Int) ∧ M 8 c = (e : Int) ∧ e ≤ a ∧ h ≤ 64 ∧ M 7 c = clK cl c ∧ cSeg (M 5) (M 6) b e h (clD cl c)) ∧ (0 < cl.length → M 8 (cl.length - 1) = (a : Int)) ∧ (cl.length = 0 → a = 0)
  | [], a, h => ⟨fun c hc => absurd hc (Nat.not_lt_zero c), fun z => absurd z (Nat.lt_irrefl 0), fun _ => h⟩
  | x :: cl, a, h => by
    obtain ⟨h1, h2, b, f, hf, hl, hs⟩ := h
    obtain ⟨i1, i2, i3⟩ := hl.at
    have hba := hs.1
    refine ⟨fun c hc => ?_, fun _ => h2, fun z => absurd z (Nat.succ_ne_zero _)⟩
    have hc' : c < cl.length + 1 := hc
    by_cases e : c = cl.length
    · have hst : stC (M 8) (c : Int) = (b : Int) := by
        unfold stC
        by_cases z : 0 < cl.length
        · rw [if_pos (by omega), show ((c : Int) - 1).toNat = cl.length - 1 by omega]
          exact i2 z
        · rw [if_neg (by omega)]
          have := i3 (by omega)
          omega
      refine ⟨b, a, f, hst, by rw [e]; exact h2, Nat.le_refl _, hf, ?_, ?_⟩
      · rw [e, clK_l.1]; exact h1
      · rw [e, clK_l.2]; exact hs
    · obtain ⟨b', e', g, j1, j2, j3, j4, j5, j6⟩ := i1 c (by omega)
      have hk := clK_s (x := x) (cl := cl) (c := c) (by omega)
      exact ⟨b', e', g, j1, j2, by omega, j4, by rw [hk.1]; exact j5, by rw [hk.2]; exact j6⟩
section
variable {d n p m e a nn mm : Nat} {T : Nat → Int} {P : sV → sM → sG → Prop} {M : sM} {G : sG} {s : stS} {D : den} {k : Int} {cl : List (Int × den)}
theorem b36_87f {x : Int} (hb : nn ≤ 9 ∧ mm ≤ 3205) (h3 : M 3 3 ≠ 0) (kk : P (vQ 6 0) M G) : sW (sC (d + 1)) 36 (QR P) 87 [vO 7 2, vI x] [] M G nn mm := by
  have bud : (sKo 36).2.2.2 = (9, 3205) := by decide +kernel
  refine q_aload_n 88 rfl (show sCode 36 87 = some (.aload_n 0, 1) by decide +kernel) rfl (Nat.le_of_ble_eq_true rfl) ?_
  refine q_getR (vO 4 3) 91 rfl (show sCode 36 88 = some (.getfield 12, 3) by decide +kernel) (show sFR (sKo 36).1 12 = some (7, 0) by decide +kernel) (by decide +kernel) (Or.inl (Or.inl rfl)) rfl ?_
  refine q_virtI [] 94 rfl (show sCode 36 91 = some (.invokevirtual 67, 3) by decide +kernel) (show sMR (sKo 36).1 67 = some 20 by decide +kernel) (show 20 < 1000 ∧ sStat 20 = false ∧ sIni 20 = false ∧ sKo 20 = (4, 0, 2, 0, 0) by decide +kernel) rfl (Or.inl rfl) rfl (Nat.le_of_ble_eq_true rfl) rfl rfl rfl ⟨rfl, rfl, by rw [bud]; exact hb.1, by rw [bud]; exact hb.2⟩ ?_
  refine e20 (s20_0 ⟨fun _ => ?_, fun q => absurd q h3⟩)
  refine q_ifeq 108 97 rfl (by decide) (show sCode 36 94 = some (.ifCond .eq 14, 3) by decide +kernel) (fun _ => ?_) (fun q => absurd rfl q)
  refine q_null 6 109 rfl (show sCode 36 108 = some (.aconst_null, 1) by decide +kernel) (by decide) ?_
  exact q_aret (show sCode 36 109 = some (.areturn, 1) by decide +kernel) (by decide +kernel) (Nat.le_of_ble_eq_true rfl) (Or.inl (Nat.le_of_ble_eq_true rfl)) ⟨by rw [bud]; exact hb.1, by rw [bud]; exact hb.2⟩ kk
theorem b36_87t {x : Int} {len cc : Nat} (h3 : M 3 3 = 0) (ha : 109 ≤ a) (hg : ∀ i, i < 5 → G (a + i) = (0, 0, 0)) (h8 : M 2 8 = (len : Int)) (h9 : M 2 9 = (cc : Int)) (hl : len ≤ 400) (hc : cc ≤ 12) (kk : ∀ M1 G0 M' G', (∀ b, b ≠ a → M1 b = M b ∧ G0 b = G b) → mk52 M1 G0 a 4 len cc M' G' → P (vQ 6 a) (sUpd M' a 4 (cc : Int)) G') : sW (sC (d + 2)) 36 (QR P) 87 [vO 7 2, vI x] [] M G 0 0 := by
  refine q_aload_n 88 rfl (show sCode 36 87 = some (.aload_n 0, 1) by decide +kernel) rfl (Nat.le_of_ble_eq_true rfl) ?_
  refine q_getR (vO 4 3) 91 rfl (show sCode 36 88 = some (.getfield 12, 3) by decide +kernel) (show sFR (sKo 36).1 12 = some (7, 0) by decide +kernel) (by decide +kernel) (Or.inl (Or.inl rfl)) rfl ?_
  refine q_virtI [] 94 rfl (show sCode 36 91 = some (.invokevirtual 67, 3) by decide +kernel) (show sMR (sKo 36).1 67 = some 20 by decide +kernel) (show 20 < 1000 ∧ sStat 20 = false ∧ sIni 20 = false ∧ sKo 20 = (4, 0, 2, 0, 0) by decide +kernel) rfl (Or.inl rfl) rfl (Nat.le_of_ble_eq_true rfl) rfl rfl rfl ⟨rfl, rfl, by decide +kernel, by decide +kernel⟩ ?_
  refine e20 (s20_0 ⟨fun q => absurd h3 q, fun _ => ?_⟩)
  refine q_ifeq 108 97 rfl (by decide) (show sCode 36 94 = some (.ifCond .eq 14, 3) by decide +kernel) (fun q => absurd q (by decide)) (fun _ => ?_)
  have hg0 := hg 0 (by decide)
  refine q_new (a := a) 100 rfl (show sCode 36 97 = some (.new 25, 3) by decide +kernel) (show sCR (sKo 36).1 25 = some 6 by decide +kernel) (by omega) hg0 ⟨rfl, rfl, by decide +kernel, by decide +kernel⟩ ?_
  refine q_dup 101 rfl (show sCode 36 100 = some (.dup, 1) by decide +kernel) rfl ?_
  refine q_aload_n 102 rfl (show sCode 36 101 = some (.aload_n 0, 1) by decide +kernel) rfl (Nat.le_of_ble_eq_true rfl) ?_
  refine q_init [vO 7 2] 105 rfl (show sCode 36 102 = some (.invokespecial 79, 3) by decide +kernel) (show sMR (sKo 36).1 79 = some 52 by decide +kernel) (show 52 < 1000 ∧ sStat 52 = false ∧ sIni 52 = true ∧ sKo 52 = (6, 1, 0, 8, 3200) by decide +kernel) rfl rfl (Nat.le_of_ble_eq_true rfl) rfl rfl rfl ⟨rfl, rfl, by decide +kernel, by decide +kernel⟩ ?_
  refine c52 (len := len) (cl := cc) (by omega) ha sGs_eq (fun i i1 i2 => by rw [sGs_ne (by omega), sGs_ne (by omega)]; exact hg i i2) (by rw [sClr_ne (by omega)]; exact h8) (by rw [sClr_ne (by omega)]; exact h9) hl hc (fun M' G' hm => ⟨hm.2.1, ?_⟩)
  refine q_goto 109 (by decide) (show sCode 36 105 = some (.goto 4, 3) by decide +kernel) ?_
  exact q_oret (show sCode 36 109 = some (.areturn, 1) by decide +kernel) (by decide +kernel) (by decide) ⟨by decide +kernel, by decide +kernel⟩ (kk _ _ _ _ (fun b hb => ⟨sClr_ne hb, by rw [sGs_ne hb, sGs_ne hb]⟩) hm)
theorem b36_44f {x : Int} (h3 : M 3 3 ≠ 0) (hx : sI x) (kk : P (vQ 6 0) M G) : sW (sC (d + 1)) 36 (QR P) 44 [vO 7 2, vI x] [] M G 0 0 := by
  refine q_iload_n 45 rfl (show sCode 36 44 = some (.iload_n 1, 1) by decide +kernel) rfl ?_
  refine q_sipush 48 rfl (show sCode 36 45 = some (.sipush 400, 3) by decide +kernel) ⟨by decide, by decide⟩ (by decide +kernel) ?_
  refine q_icmpgt 87 51 rfl (by decide) (show sCode 36 48 = some (.if_icmp .gt 39, 3) by decide +kernel) (fun _ => b36_87f ⟨by decide, by decide⟩ h3 kk) (fun _ => ?_)
  refine q_aload_n 52 rfl (show sCode 36 51 = some (.aload_n 0, 1) by decide +kernel) rfl (Nat.le_of_ble_eq_true rfl) ?_
  refine q_getR (vO 4 3) 55 rfl (show sCode 36 52 = some (.getfield 12, 3) by decide +kernel) (show sFR (sKo 36).1 12 = some (7, 0) by decide +kernel) (by decide +kernel) (Or.inl (Or.inl rfl)) rfl ?_
  refine q_virtI [] 58 rfl (show sCode 36 55 = some (.invokevirtual 67, 3) by decide +kernel) (show sMR (sKo 36).1 67 = some 20 by decide +kernel) (show 20 < 1000 ∧ sStat 20 = false ∧ sIni 20 = false ∧ sKo 20 = (4, 0, 2, 0, 0) by decide +kernel) rfl (Or.inl rfl) rfl (Nat.le_of_ble_eq_true rfl) rfl rfl rfl ⟨rfl, rfl, by decide +kernel, by decide +kernel⟩ ?_
  refine e20 (s20_0 ⟨fun _ => ?_, fun q => absurd q h3⟩)
  exact q_ifeq 87 61 rfl (by decide) (show sCode 36 58 = some (.ifCond .eq 29, 3) by decide +kernel) (fun _ => b36_87f ⟨by decide, by decide⟩ h3 kk) (fun q => absurd rfl q)
/-- the loop: bytes read, one after the other -/
theorem b36_44 (hd : 20 ≤ d) (ho : tOk T n) (kf : ∀ f M', f ≠ 0 → aTo T n aI (f, []) → offR2 M M' → M' 3 3 = f → P (vQ 6 0) M' G) (kk : ∀ p m D k cl M' x, okA n (7, p, m, [], D, k, cl) → aTo T n aI (0, cl) → offR2 M M' → cSt M' T n (7, p, m, [], D, k, cl) → sW (sC (d + 1)) 36 (QR P) 87 [vO 7 2, vI x] [] M' G 0 0) : ∀ (r : Nat) (σ : aS) (M1 : sM), r ≤ 401 → okA n σ → cSt M1 T n σ → offR2 M M1 → (∀ x, aTo T n σ x → aTo T n aI x) → (σ.1 ≠ 7 → n + 1 ≤ σ.2.1 + r) → sW (sC (d + 1)) 36 (QR P) 44 [vO 7 2, vI (401 - (r : Int))] [] M1 G 0 0 := by
  intro r
  induction r with
  | zero =>
    intro σ M1 hr hA hS oM hto hpr
    obtain ⟨e, p, m, s, D, k, cl⟩ := σ
    have e7 : e = 7 := Decidable.byContradiction fun z => by have := hpr z; have := hA.2.2.2.1; simp only at *; omega
    subst e7
    have hs : s = [] := hA.2.2.2.2.2.2.2.1 (Or.inr rfl)
    subst hs
    refine q_iload_n 45 rfl (show sCode 36 44 = some (.iload_n 1, 1) by decide +kernel) rfl ?_
    refine q_sipush 48 rfl (show sCode 36 45 = some (.sipush 400, 3) by decide +kernel) ⟨by decide, by decide⟩ (by decide +kernel) ?_
    refine q_icmpgt 87 51 rfl (by decide) (show sCode 36 48 = some (.if_icmp .gt 39, 3) by decide +kernel) (fun _ => ?_) (fun q => by omega)
    exact kk _ _ _ _ _ M1 _ hA (hto _ (aTo.fin rfl)) oM hS
  | succ r ih =>
    intro σ M1 hr hA hS oM hto hpr
    obtain ⟨e, p, m, s, D, k, cl⟩ := σ
    have hS' := hS
    obtain ⟨h1, h2, h3, h4, h5, h6, h7, -⟩ := hS'
    have hp : p ≤ n := hA.2.2.2.1
    refine q_iload_n 45 rfl (show sCode 36 44 = some (.iload_n 1, 1) by decide +kernel) rfl ?_
    refine q_sipush 48 rfl (show sCode 36 45 = some (.sipush 400, 3) by decide +kernel) ⟨by decide, by decide⟩ (by decide +kernel) ?_
    refine q_icmpgt 87 51 rfl (by decide) (show sCode 36 48 = some (.if_icmp .gt 39, 3) by decide +kernel) (fun q => by omega) (fun _ => ?_)
    refine q_aload_n 52 rfl (show sCode 36 51 = some (.aload_n 0, 1) by decide +kernel) rfl (Nat.le_of_ble_eq_true rfl) ?_
    refine q_getR (vO 4 3) 55 rfl (show sCode 36 52 = some (.getfield 12, 3) by decide +kernel) (show sFR (sKo 36).1 12 = some (7, 0) by decide +kernel) (by decide +kernel) (Or.inl (Or.inl rfl)) rfl ?_
    refine q_virtI [] 58 rfl (show sCode 36 55 = some (.invokevirtual 67, 3) by decide +kernel) (show sMR (sKo 36).1 67 = some 20 by decide +kernel) (show 20 < 1000 ∧ sStat 20 = false ∧ sIni 20 = false ∧ sKo 20 = (4, 0, 2, 0, 0) by decide +kernel) rfl (Or.inl rfl) rfl (Nat.le_of_ble_eq_true rfl) rfl rfl rfl ⟨rfl, rfl, by decide +kernel, by decide +kernel⟩ ?_
    refine e20 (s20_0 ⟨fun q => absurd h3 q, fun _ => ?_⟩)
    refine q_ifeq 87 61 rfl (by decide) (show sCode 36 58 = some (.ifCond .eq 29, 3) by decide +kernel) (fun q => absurd q (by decide)) (fun _ => ?_)
    refine q_aload_n 62 rfl (show sCode 36 61 = some (.aload_n 0, 1) by decide +kernel) rfl (Nat.le_of_ble_eq_true rfl) ?_
    refine q_getI 65 rfl (show sCode 36 62 = some (.getfield 61, 3) by decide +kernel) (show sFR (sKo 36).1 61 = some (7, 14) by decide +kernel) (by decide +kernel) (Or.inl (Or.inl rfl)) ?_
    refine q_bipush 67 rfl (show sCode 36 65 = some (.bipush 7, 2) by decide +kernel) ⟨by decide, by decide⟩ (by decide +kernel) ?_
    refine q_icmpeq 87 70 rfl (by decide) (show sCode 36 67 = some (.if_icmp .eq 20, 3) by decide +kernel) (fun q => ?_) (fun q => ?_)
    · have e7 : e = 7 := by omega
      subst e7
      have hs : s = [] := hA.2.2.2.2.2.2.2.1 (Or.inr rfl)
      subst hs
      exact kk _ _ _ _ _ M1 _ hA (hto _ (aTo.fin rfl)) oM hS
    · have e7 : e ≠ 7 := fun z => q (by omega)
      have hpr' : n + 1 ≤ p + (r + 1) := hpr e7
      refine q_aload_n 71 rfl (show sCode 36 70 = some (.aload_n 0, 1) by decide +kernel) rfl (Nat.le_of_ble_eq_true rfl) ?_
      refine q_aload_n 72 rfl (show sCode 36 71 = some (.aload_n 0, 1) by decide +kernel) rfl (Nat.le_of_ble_eq_true rfl) ?_
      refine q_getR (vO 4 3) 75 rfl (show sCode 36 72 = some (.getfield 12, 3) by decide +kernel) (show sFR (sKo 36).1 12 = some (7, 0) by decide +kernel) (by decide +kernel) (Or.inl (Or.inl rfl)) rfl ?_
      refine q_virtI [] 78 rfl (show sCode 36 75 = some (.invokevirtual 71, 3) by decide +kernel) (show sMR (sKo 36).1 71 = some 22 by decide +kernel) (show 22 < 1000 ∧ sStat 22 = false ∧ sIni 22 = false ∧ sKo 22 = (4, 0, 1, 0, 0) by decide +kernel) rfl (Or.inl rfl) rfl (Nat.le_of_ble_eq_true rfl) rfl rfl rfl ⟨rfl, rfl, by decide +kernel, by decide +kernel⟩ ?_
      have hM : cS M1 p 0 = M1 := cS_self.2 ⟨h2, h3⟩
      have hbb := blk_blk (T := T) hp
      have hble : blk T n p ≤ n := run_le hp
      have hbge : p ≤ blk T n p := run_ge hp
      have c := c22 (d := d + 1) (M := M1) (G := G) (f := 0) (P := fun r2 M2 G2 => sW (sC (d + 1)) 36 (QR P) 78 [vO 7 2, vI (401 - ((r + 1 : Nat) : Int))] [vI r2, vO 7 2] M2 G2 0 0) (by omega) ho h1 hp ?_
      · rw [hM] at c
        exact c
      · have oN : offR2 M (cS M1 (blk T n p) 0) := oM.trans offR2.cs
        have hA1 : okA n (e, blk T n p, m, s, D, k, cl) := by
          obtain ⟨a1, a2, a3, a4, a5⟩ := hA
          exact ⟨a1, a2, a3, hble, a5⟩
        have hS1 : cSt (cS M1 (blk T n p) 0) T n (e, blk T n p, m, s, D, k, cl) := by
          obtain ⟨b1, b2, b3, b4, b5, b6, b7, b8, b9, b10⟩ := hS
          have x2 : ∀ i, cS M1 (blk T n p) 0 2 i = M1 2 i := fun i => cS_o (Or.inl (by decide))
          have xa : ∀ b, b ≠ 3 → cS M1 (blk T n p) 0 b = M1 b := fun b hb => cS_a hb
          refine ⟨offR2.cs.tp b1, cS_p, cS_f, by rw [x2]; exact b4, by rw [x2]; exact b5, by rw [x2]; exact b6, by rw [x2]; exact b7, fun z1 z2 => by rw [xa 7 (by decide)]; exact b8 z1 z2, fun z => ?_, fun z1 z2 => ?_⟩
          · exact (b9 z).congr (xa 5 (by decide)) (xa 6 (by decide)) (xa 9 (by decide)) (xa 10 (by decide)) (xa 11 (by decide)) (fun i _ => by rw [xa 7 (by decide), xa 8 (by decide)]; exact ⟨rfl, rfl⟩) ⟨x2 8, x2 10, x2 12⟩ hbge
          · exact (b10 z1 z2).congr (xa 5 (by decide)) (xa 6 (by decide)) (xa 9 (by decide)) (xa 10 (by decide)) (xa 11 (by decide)) (fun i _ => by rw [xa 7 (by decide), xa 8 (by decide)]; exact ⟨rfl, rfl⟩) ⟨x2 8, x2 10, x2 12⟩ hbge (Nat.le_refl _)
        have hst : aStep T n (e, blk T n p, m, s, D, k, cl) = aStep T n (e, p, m, s, D, k, cl) := by rw [aStep_u, aStep_u, hbb]
        refine q_virtV [vI (chr T n (blk T n p))] 81 rfl (show sCode 36 78 = some (.invokevirtual 75, 3) by decide +kernel) (show sMR (sKo 36).1 75 = some 37 by decide +kernel) (show 37 < 1000 ∧ sStat 37 = false ∧ sIni 37 = false ∧ sKo 37 = (7, 1, 0, 0, 0) by decide +kernel) rfl (Or.inl rfl) rfl (Nat.le_of_ble_eq_true rfl) rfl rfl rfl ⟨rfl, rfl, by decide +kernel, by decide +kernel⟩ ?_
        refine c37 (by omega) ho hbb hS1 hA1 e7 ⟨fun hf M' o' e' => ?_, fun hf M' o' hS2 => ?_⟩
        · refine q_iinc [vO 7 2, vI (401 - ((r + 1 : Nat) : Int) + 1)] 84 rfl (show sCode 36 81 = some (.iinc 1 1, 3) by decide +kernel) rfl rfl ⟨by omega, by omega⟩ rfl ?_
          refine q_goto 44 (by decide) (show sCode 36 84 = some (.goto (-40), 3) by decide +kernel) ?_
          rw [hst] at hf e'
          refine b36_44f (by rw [e']; exact hf) ⟨by omega, by omega⟩ ?_
          exact kf _ M' hf (hto _ (aTo.bad e7 hf)) (oN.trans o') e'
        · refine q_iinc [vO 7 2, vI (401 - (r : Int))] 84 rfl (show sCode 36 81 = some (.iinc 1 1, 3) by decide +kernel) rfl rfl ⟨by omega, by omega⟩ (by rw [show (401 - ((r + 1 : Nat) : Int) + 1) = 401 - (r : Int) by omega]; rfl) ?_
          refine q_goto 44 (by decide) (show sCode 36 84 = some (.goto (-40), 3) by decide +kernel) ?_
          rw [hst] at hf hS2
          have hs := okA.step hA e7 hf
          refine ih _ M' (by omega) hs.1 hS2 (oN.trans o') (fun x hx => hto x (aTo.go e7 hf hx)) (fun z => ?_)
          rcases hs.2 with y | y
          · have y' : p < (aStep T n (e, p, m, s, D, k, cl)).2.2.1 := y
            omega
          · exact absurd y z
theorem c36 (hd : 25 ≤ d) (ho : tOk T n) (hT : cTp M T n) (ha : 109 ≤ a) (hg : ∀ i, i < 5 → G (a + i) = (0, 0, 0)) (kf : ∀ f M', f ≠ 0 → aTo T n aI (f, []) → offR2 M M' → M' 3 3 = f → P (vQ 6 0) M' G) (kk : ∀ cl M' G', aTo T n aI (0, cl) → (∀ b, b ≠ 2 → b ≠ 3 → ¬ (5 ≤ b ∧ b ≤ 11) → ¬ (a ≤ b ∧ b < a + 5) → M' b = M b) → (∀ i, i ≠ 2 → i ≠ 3 → M' 3 i = M 3 i) → (∀ b, ¬ (a ≤ b ∧ b < a + 5) → G' b = G b) → ruleC M' G' a (cl.length : Int) (clK cl) (clD cl) → P (vQ 6 a) M' G') : sC d 36 [vO 7 2] M G (QR P) := by
  obtain ⟨d, rfl⟩ := sD 3 (d := d) (by omega)
  refine sC_in (Nat.le_of_ble_eq_true rfl) rfl ?_
  refine q_aload_n 1 rfl (show sCode 36 0 = some (.aload_n 0, 1) by decide +kernel) rfl (Nat.le_of_ble_eq_true rfl) ?_
  refine q_getR (vO 4 3) 4 rfl (show sCode 36 1 = some (.getfield 12, 3) by decide +kernel) (show sFR (sKo 36).1 12 = some (7, 0) by decide +kernel) (by decide +kernel) (Or.inl (Or.inl rfl)) rfl ?_
  refine q_virtV [] 7 rfl (show sCode 36 4 = some (.invokevirtual 64, 3) by decide +kernel) (show sMR (sKo 36).1 64 = some 19 by decide +kernel) (show 19 < 1000 ∧ sStat 19 = false ∧ sIni 19 = false ∧ sKo 19 = (4, 0, 0, 0, 0) by decide +kernel) rfl (Or.inl rfl) rfl (Nat.le_of_ble_eq_true rfl) rfl rfl rfl ⟨rfl, rfl, by decide +kernel, by decide +kernel⟩ ?_
  refine e19 (s19_0 ?_)
  refine q_aload_n 8 rfl (show sCode 36 7 = some (.aload_n 0, 1) by decide +kernel) rfl (Nat.le_of_ble_eq_true rfl) ?_
  refine q_iconst 9 rfl (show sCode 36 8 = some (.iconst 0, 1) by decide +kernel) ⟨by decide, by decide⟩ ?_
  refine q_putI 12 rfl (show sCode 36 9 = some (.putfield 42, 3) by decide +kernel) (show sFR (sKo 36).1 42 = some (7, 8) by decide +kernel) (by decide +kernel) (Or.inl ⟨Or.inl rfl, by decide +kernel⟩) ?_
  refine q_aload_n 13 rfl (show sCode 36 12 = some (.aload_n 0, 1) by decide +kernel) rfl (Nat.le_of_ble_eq_true rfl) ?_
  refine q_iconst 14 rfl (show sCode 36 13 = some (.iconst 0, 1) by decide +kernel) ⟨by decide, by decide⟩ ?_
  refine q_putI 17 rfl (show sCode 36 14 = some (.putfield 46, 3) by decide +kernel) (show sFR (sKo 36).1 46 = some (7, 9) by decide +kernel) (by decide +kernel) (Or.inl ⟨Or.inl rfl, by decide +kernel⟩) ?_
  refine q_aload_n 18 rfl (show sCode 36 17 = some (.aload_n 0, 1) by decide +kernel) rfl (Nat.le_of_ble_eq_true rfl) ?_
  refine q_iconst 19 rfl (show sCode 36 18 = some (.iconst 0, 1) by decide +kernel) ⟨by decide, by decide⟩ ?_
  refine q_putI 22 rfl (show sCode 36 19 = some (.putfield 49, 3) by decide +kernel) (show sFR (sKo 36).1 49 = some (7, 10) by decide +kernel) (by decide +kernel) (Or.inl ⟨Or.inl rfl, by decide +kernel⟩) ?_
  refine q_aload_n 23 rfl (show sCode 36 22 = some (.aload_n 0, 1) by decide +kernel) rfl (Nat.le_of_ble_eq_true rfl) ?_
  refine q_iconst 24 rfl (show sCode 36 23 = some (.iconst 0, 1) by decide +kernel) ⟨by decide, by decide⟩ ?_
  refine q_putI 27 rfl (show sCode 36 24 = some (.putfield 52, 3) by decide +kernel) (show sFR (sKo 36).1 52 = some (7, 11) by decide +kernel) (by decide +kernel) (Or.inl ⟨Or.inl rfl, by decide +kernel⟩) ?_
  refine q_aload_n 28 rfl (show sCode 36 27 = some (.aload_n 0, 1) by decide +kernel) rfl (Nat.le_of_ble_eq_true rfl) ?_
  refine q_iconst 29 rfl (show sCode 36 28 = some (.iconst 0, 1) by decide +kernel) ⟨by decide, by decide⟩ ?_
  refine q_putI 32 rfl (show sCode 36 29 = some (.putfield 55, 3) by decide +kernel) (show sFR (sKo 36).1 55 = some (7, 12) by decide +kernel) (by decide +kernel) (Or.inl ⟨Or.inl rfl, by decide +kernel⟩) ?_
  refine q_aload_n 33 rfl (show sCode 36 32 = some (.aload_n 0, 1) by decide +kernel) rfl (Nat.le_of_ble_eq_true rfl) ?_
  refine q_iconst 34 rfl (show sCode 36 33 = some (.iconst 0, 1) by decide +kernel) ⟨by decide, by decide⟩ ?_
  refine q_putI 37 rfl (show sCode 36 34 = some (.putfield 58, 3) by decide +kernel) (show sFR (sKo 36).1 58 = some (7, 13) by decide +kernel) (by decide +kernel) (Or.inl ⟨Or.inl rfl, by decide +kernel⟩) ?_
  refine q_aload_n 38 rfl (show sCode 36 37 = some (.aload_n 0, 1) by decide +kernel) rfl (Nat.le_of_ble_eq_true rfl) ?_
  refine q_iconst 39 rfl (show sCode 36 38 = some (.iconst 0, 1) by decide +kernel) ⟨by decide, by decide⟩ ?_
  refine q_putI 42 rfl (show sCode 36 39 = some (.putfield 61, 3) by decide +kernel) (show sFR (sKo 36).1 61 = some (7, 14) by decide +kernel) (by decide +kernel) (Or.inl ⟨Or.inl rfl, by decide +kernel⟩) ?_
  refine q_iconst 43 rfl (show sCode 36 42 = some (.iconst 0, 1) by decide +kernel) ⟨by decide, by decide⟩ ?_
  refine q_istore_n [vO 7 2, vI 0] 44 rfl (show sCode 36 43 = some (.istore_n 1, 1) by decide +kernel) (Nat.lt_succ_self _) rfl rfl ?_
  obtain ⟨X, hX⟩ : ∃ X, X = sUpd (sUpd (sUpd (sUpd (sUpd (sUpd (sUpd (sUpd (sUpd M 3 2 0) 3 3 0) 2 8 0) 2 9 0) 2 10 0) 2 11 0) 2 12 0) 2 13 0) 2 14 0 := ⟨_, rfl⟩
  rw [← hX]
  have oX : offR2 M X := by
    rw [hX]
    exact ((((((((offR2.u (Or.inr (Or.inl ⟨rfl, Or.inl rfl⟩))).trans (offR2.u (Or.inr (Or.inl ⟨rfl, Or.inr rfl⟩)))).trans (offR2.u (Or.inl rfl))).trans (offR2.u (Or.inl rfl))).trans (offR2.u (Or.inl rfl))).trans (offR2.u (Or.inl rfl))).trans (offR2.u (Or.inl rfl))).trans (offR2.u (Or.inl rfl))).trans (offR2.u (Or.inl rfl))
  have hS : cSt X T n aI := by
    refine ⟨oX.tp hT, ?_, ?_, ?_, ?_, ?_, ?_, fun z => absurd z (by decide), fun _ => ⟨0, 0, 0, ?_, ?_, ?_, Nat.le_refl _, rfl, rfl, Nat.le_refl _, fun i hi => absurd hi (Nat.not_lt_zero i)⟩, fun z => absurd z (by decide)⟩ <;> (rw [hX]; simp [sUpd, dpt, brk])
  have hA : okA n aI := ⟨trivial, Nat.zero_le _, Nat.zero_le _, Nat.zero_le _, Nat.zero_le _, Nat.zero_le _, fun x hx => absurd hx List.not_mem_nil, fun _ => rfl, fun _ => Nat.zero_le _, fun z => by omega, fun z => by omega, fun z => by omega, fun z => absurd z (by decide)⟩
  refine b36_44 (M := M) (T := T) (n := n) (P := P) (d := d + 1) (by omega) ho (fun f M' f1 f2 f3 f4 => kf f M' f1 f2 f3 f4) (fun p m D k cl M' x hA' hto o' hS' => ?_) 401 aI X (Nat.le_refl _) hA hS oX (fun x hx => hx) (fun _ => by have := ho.1; show n + 1 ≤ 0 + 401; omega)
  have hcl : cl.length ≤ 12 := hA'.2.2.2.2.2.1
  have hcd := hA'.2.2.2.2.2.2.1
  have hp : p ≤ n := hA'.2.2.2.1
  obtain ⟨b1, b2, b3, b4, b5, b6, b7, b8, b9, b10⟩ := hS'
  obtain ⟨len, a0, H, g1, g2, g3, g4, g5, g6, g7, g8⟩ := b9 (Or.inr rfl)
  have h400 := ho.1
  have ea : len = a0 := g6
  refine b36_87t (len := len) (cc := cl.length) b3 ha hg g1 b4 (by omega) hcl (fun M1 G0 N G' f1 hm => ?_)
  obtain ⟨m1, m2, m3, m4⟩ := hm
  have r1 := m4 1 (by decide) (by decide)
  have r2 := m4 2 (by decide) (by decide)
  have r3 := m4 3 (by decide) (by decide)
  have r4 := m4 4 (by decide) (by decide)
  rw [if_pos (by decide)] at r1 r2
  rw [if_neg (by decide)] at r3 r4
  have q5 : M1 5 = M' 5 := (f1 5 (by omega)).1
  have q6 : M1 6 = M' 6 := (f1 6 (by omega)).1
  have q7 : M1 7 = M' 7 := (f1 7 (by omega)).1
  have q8 : M1 8 = M' 8 := (f1 8 (by omega)).1
  have w5 : ∀ j, j < len → sUpd N a 4 (cl.length : Int) (a + 1) j = M' 5 j := fun j hj => by rw [sUpd_ne (by omega), r1.2 j hj, show 4 + 1 = 5 from rfl, q5]
  have w6 : ∀ j, j < len → sUpd N a 4 (cl.length : Int) (a + 2) j = M' 6 j := fun j hj => by rw [sUpd_ne (by omega), r2.2 j hj, show 4 + 2 = 6 from rfl, q6]
  have w7 : ∀ j, j < cl.length → sUpd N a 4 (cl.length : Int) (a + 3) j = M' 7 j := fun j hj => by rw [sUpd_ne (by omega), r3.2 j hj, show 4 + 3 = 7 from rfl, q7]
  have w8 : ∀ j, j < cl.length → sUpd N a 4 (cl.length : Int) (a + 4) j = M' 8 j := fun j hj => by rw [sUpd_ne (by omega), r4.2 j hj, show 4 + 4 = 8 from rfl, q8]
  have hat := (cCls.at g5).1
  refine kk cl _ G' hto (fun b c1 c2 c3 c4 => ?_) (fun i c1 c2 => ?_) (fun b c1 => ?_) ⟨by omega, sUpd_eq, by omega, by omega, by rw [r3.1]; exact Int.le_refl _, by rw [r4.1]; exact Int.le_refl _, fun c c0 c1 => ?_⟩
  · rw [sUpd_ne (by omega), (m1 b (by omega)).1, (f1 b (by omega)).1]
    exact o'.1 b c1 c2 c3
  · rw [sUpd_ne (by omega), (m1 3 (by omega)).1, (f1 3 (by omega)).1]
    exact o'.2 i c1 c2
  · rw [(m1 b (by omega)).2, (f1 b (by omega)).2]
  · obtain ⟨c, rfl⟩ : ∃ q : Nat, c = (q : Int) := ⟨c.toNat, z_nat c0⟩
    have hc : c < cl.length := by omega
    obtain ⟨b, e, h, t1, t2, t3, t4, t5, t6⟩ := hat c hc
    have hst : stC (sUpd N a 4 (cl.length : Int) (a + 4)) (c : Int) = (b : Int) := by
      rw [← t1]
      unfold stC
      by_cases z : 0 < (c : Int)
      · rw [if_pos z, if_pos z]; exact w8 _ (by omega)
      · rw [if_neg z, if_neg z]
    have hbe := t6.1
    show sUpd N a 4 (cl.length : Int) (a + 3) c = clK cl c ∧ 0 ≤ stC (sUpd N a 4 (cl.length : Int) (a + 4)) (c : Int) ∧ stC (sUpd N a 4 (cl.length : Int) (a + 4)) (c : Int) ≤ sUpd N a 4 (cl.length : Int) (a + 4) c ∧ sUpd N a 4 (cl.length : Int) (a + 4) c ≤ 400 ∧ sUpd N a 4 (cl.length : Int) (a + 4) c ≤ ((G' (a + 1)).2.1 : Int) ∧ sUpd N a 4 (cl.length : Int) (a + 4) c ≤ ((G' (a + 2)).2.1 : Int) ∧ (∀ i : Nat, (i : Int) < sUpd N a 4 (cl.length : Int) (a + 4) c → 0 ≤ sUpd N a 4 (cl.length : Int) (a + 2) i ∧ sUpd N a 4 (cl.length : Int) (a + 2) i ≤ 99999 ∧ (sUpd N a 4 (cl.length : Int) (a + 1) i = 1 → sUpd N a 4 (cl.length : Int) (a + 2) i ≤ 9)) ∧ (∃ h, h ≤ 64 ∧ cSeg (sUpd N a 4 (cl.length : Int) (a + 1)) (sUpd N a 4 (cl.length : Int) (a + 2)) (stC (sUpd N a 4 (cl.length : Int) (a + 4)) (c : Int)).toNat (sUpd N a 4 (cl.length : Int) (a + 4) c).toNat h (clD cl c)) ∧ ∀ w, clD cl c w = 0 ∨ clD cl c w = 1
    rw [hst, w7 c hc, w8 c hc, t2, r1.1, r2.1]
    refine ⟨t5, by omega, by omega, by omega, by show (e : Int) ≤ (len : Int); omega, by show (e : Int) ≤ (len : Int); omega, fun i hi => ?_, ⟨h, t4, ?_⟩, clD_01 hcd hc⟩
    · rw [w5 i (by omega), w6 i (by omega)]
      exact g8 i (by omega)
    · show cSeg _ _ b e h (clD cl c)
      exact t6.congr (fun i _ hi => ⟨w5 i (by omega), w6 i (by omega)⟩)
end
