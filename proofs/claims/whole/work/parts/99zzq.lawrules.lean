/-! THE LAW: its calls leave the script as it is (the simulation sees to that); rules for its instructions. -/
def lC (d N : Nat) (scr : Nat → Int) : sCall := fun k A M G Q => sC d k A M G (fun r M' G' => (sIni k = true ∨ ∀ j, j < N → M' 108 j = scr j) → Q r M' G')
theorem lC_mono (d N : Nat) (scr : Nat → Int) : sMono (lC d N scr) := fun k A M G Q Q' hQ h => sC_mono d k A M G _ _ (fun r M' G' z y => hQ r M' G' (z y)) h
abbrev LL (N i : Nat) : List sV := [vA 4 108 (N : Int), vO 11 1, vO 12 82, vI (i : Int)]
def lB (x : Int) : Int := if x = 0 then 0 else 1
section
variable {d N i n m : Nat} {scr : Nat → Int} {Q : Option sV → sM → sG → Prop} {M : sM} {G : sG} {pc : Nat} {L S : List sV}
theorem l_step {i : Instr} {len : Nat} (hc : sCode 279 pc = some (i, len)) (h : sStep 279 (lC d N scr) (sEnd 279 Q) (sW (lC d N scr) 279 Q) i len pc L S M G n m) : sW (lC d N scr) 279 Q pc L S M G n m := sW_step (lC_mono d N scr) hc h
theorem l_iconst {x : Int} (pc' : Nat) (hp : pc + 1 = pc') (hc : sCode 279 pc = some (.iconst x, 1)) (hx : sI x) (kk : sW (lC d N scr) 279 Q pc' L (vI x :: S) M G n m) : sW (lC d N scr) 279 Q pc L S M G n m := by
  subst hp
  exact l_step hc ⟨rfl, hx, kk⟩
theorem l_bipush {x : Int} (pc' : Nat) (hp : pc + 2 = pc') (hc : sCode 279 pc = some (.bipush x, 2)) (hx : sI x) (h8 : (Int8.ofInt x).toInt32 = Int32.ofInt x) (kk : sW (lC d N scr) 279 Q pc' L (vI x :: S) M G n m) : sW (lC d N scr) 279 Q pc L S M G n m := by
  subst hp
  exact l_step hc ⟨rfl, hx, h8, kk⟩
theorem l_iload_n {i : Fin 4} {x : Int} (pc' : Nat) (hp : pc + 1 = pc') (hc : sCode 279 pc = some (.iload_n i, 1)) (h : L[((i : Fin 4) : Nat)]? = some (vI x)) (kk : sW (lC d N scr) 279 Q pc' L (vI x :: S) M G n m) : sW (lC d N scr) 279 Q pc L S M G n m := by
  subst hp
  exact l_step hc ⟨rfl, x, h, kk⟩
theorem l_aload_n {i : Fin 4} {v : sV} (pc' : Nat) (hp : pc + 1 = pc') (hc : sCode 279 pc = some (.aload_n i, 1)) (h : L[((i : Fin 4) : Nat)]? = some v) (h3 : 3 ≤ v.1) (kk : sW (lC d N scr) 279 Q pc' L (v :: S) M G n m) : sW (lC d N scr) 279 Q pc L S M G n m := by
  subst hp
  exact l_step hc ⟨rfl, v, h, h3, kk⟩
theorem l_istore_n {i : Fin 4} {x : Int} (L' : List sV) (pc' : Nat) (hp : pc + 1 = pc') (hc : sCode 279 pc = some (.istore_n i, 1)) (hl : ((i : Fin 4) : Nat) < L.length) (hv : sPrev L ((i : Fin 4) : Nat) = true) (hL : L.set ((i : Fin 4) : Nat) (vI x) = L') (kk : sW (lC d N scr) 279 Q pc' L' S M G n m) : sW (lC d N scr) 279 Q pc L (vI x :: S) M G n m := by
  subst hp
  exact l_step hc ⟨rfl, x, S, rfl, hl, hv, hL ▸ kk⟩
theorem l_astore_n {i : Fin 4} {v : sV} (L' : List sV) (pc' : Nat) (hp : pc + 1 = pc') (hc : sCode 279 pc = some (.astore_n i, 1)) (h3 : 3 ≤ v.1 ∧ (v.1 < 80 ∨ 100 ≤ v.1)) (hl : ((i : Fin 4) : Nat) < L.length) (hv : sPrev L ((i : Fin 4) : Nat) = true) (hL : L.set ((i : Fin 4) : Nat) v = L') (kk : sW (lC d N scr) 279 Q pc' L' S M G n m) : sW (lC d N scr) 279 Q pc L (v :: S) M G n m := by
  subst hp
  exact l_step hc ⟨rfl, v, S, rfl, h3, hl, hv, hL ▸ kk⟩
theorem l_iinc {i : Nat} {c x : Int} (L' : List sV) (pc' : Nat) (hp : pc + 3 = pc') (hc : sCode 279 pc = some (.iinc i c, 3)) (h : L[i]? = some (vI x)) (hv : sPrev L i = true) (hs : sI (x + c)) (hL : L.set i (vI (x + c)) = L') (kk : sW (lC d N scr) 279 Q pc' L' S M G n m) : sW (lC d N scr) 279 Q pc L S M G n m := by
  subst hp
  exact l_step hc ⟨rfl, x, h, hv, by rw [oI_add, iWrap_id hs]; exact hL ▸ kk⟩
theorem l_dup {v : sV} (pc' : Nat) (hp : pc + 1 = pc') (hc : sCode 279 pc = some (.dup, 1)) (h1 : sCat v = 1) (kk : sW (lC d N scr) 279 Q pc' L (v :: v :: S) M G n m) : sW (lC d N scr) 279 Q pc L (v :: S) M G n m := by
  subst hp
  exact l_step hc ⟨rfl, v, S, rfl, h1, kk⟩
theorem l_iadd {x y : Int} (pc' : Nat) (hp : pc + 1 = pc') (hc : sCode 279 pc = some (.iadd, 1)) (hs : sI (x + y)) (kk : sW (lC d N scr) 279 Q pc' L (vI (x + y) :: S) M G n m) : sW (lC d N scr) 279 Q pc L (vI y :: vI x :: S) M G n m := by
  subst hp
  exact l_step hc ⟨rfl, x, y, S, rfl, by rw [oI_add, iWrap_id hs]; exact kk⟩
theorem l_isub {x y : Int} (pc' : Nat) (hp : pc + 1 = pc') (hc : sCode 279 pc = some (.isub, 1)) (hs : sI (x - y)) (kk : sW (lC d N scr) 279 Q pc' L (vI (x - y) :: S) M G n m) : sW (lC d N scr) 279 Q pc L (vI y :: vI x :: S) M G n m := by
  subst hp
  exact l_step hc ⟨rfl, x, y, S, rfl, by rw [oI_sub, iWrap_id hs]; exact kk⟩
theorem l_iand {x y : Int} (pc' : Nat) (hp : pc + 1 = pc') (hc : sCode 279 pc = some (.iand, 1)) (kk : sW (lC d N scr) 279 Q pc' L (vI (iAnd x y) :: S) M G n m) : sW (lC d N scr) 279 Q pc L (vI y :: vI x :: S) M G n m := by
  subst hp
  exact l_step hc ⟨rfl, x, y, S, rfl, kk⟩
theorem l_sald {a : Nat} {nn i : Int} (pc' : Nat) (hp : pc + 1 = pc') (hc : sCode 279 pc = some (.iaload, 1)) (h0 : 0 ≤ i ∧ i < nn) (kk : sW (lC d N scr) 279 Q pc' L (vI (M a i.toNat) :: S) M G n m) : sW (lC d N scr) 279 Q pc L (vI i :: vA 4 a nn :: S) M G n m := by
  subst hp
  exact l_step hc ⟨rfl, a, nn, i, S, Or.inr rfl, h0.1, h0.2, kk⟩
theorem l_alen {t a : Nat} {nn : Int} (pc' : Nat) (hp : pc + 1 = pc') (hc : sCode 279 pc = some (.arraylength, 1)) (ht : t < 5) (hn : nn ≤ 2147483647) (kk : sW (lC d N scr) 279 Q pc' L (vI nn :: S) M G n m) : sW (lC d N scr) 279 Q pc L (vA t a nn :: S) M G n m := by
  subst hp
  exact l_step hc ⟨rfl, t, a, nn, S, rfl, ht, hn, kk⟩
theorem l_ifeq {off x : Int} (t pc' : Nat) (hp : pc + 3 = pc') (ht : (pc : Int) + off = (t : Int)) (hc : sCode 279 pc = some (.ifCond .eq off, 3)) (k1 : x = 0 → sW (lC d N scr) 279 Q t L S M G n m) (k2 : x ≠ 0 → sW (lC d N scr) 279 Q pc' L S M G n m) : sW (lC d N scr) 279 Q pc L (vI x :: S) M G n m := by
  subst hp
  exact l_step hc ⟨rfl, x, S, t, rfl, ht, k1, fun q => k2 q⟩
theorem l_icmpeq {off x y : Int} (t pc' : Nat) (hp : pc + 3 = pc') (ht : (pc : Int) + off = (t : Int)) (hc : sCode 279 pc = some (.if_icmp .eq off, 3)) (k1 : x = y → sW (lC d N scr) 279 Q t L S M G n m) (k2 : x ≠ y → sW (lC d N scr) 279 Q pc' L S M G n m) : sW (lC d N scr) 279 Q pc L (vI y :: vI x :: S) M G n m := by
  subst hp
  exact l_step hc ⟨rfl, x, y, S, t, rfl, ht, k1, fun q => k2 q⟩
theorem l_icmpgt {off x y : Int} (t pc' : Nat) (hp : pc + 3 = pc') (ht : (pc : Int) + off = (t : Int)) (hc : sCode 279 pc = some (.if_icmp .gt off, 3)) (k1 : y < x → sW (lC d N scr) 279 Q t L S M G n m) (k2 : x ≤ y → sW (lC d N scr) 279 Q pc' L S M G n m) : sW (lC d N scr) 279 Q pc L (vI y :: vI x :: S) M G n m := by
  subst hp
  exact l_step hc ⟨rfl, x, y, S, t, rfl, ht, k1, fun q => k2 (Int.not_lt.mp q)⟩
theorem l_goto {off : Int} (t : Nat) (ht : (pc : Int) + off = (t : Int)) (hc : sCode 279 pc = some (.goto off, 3)) (kk : sW (lC d N scr) 279 Q t L S M G n m) : sW (lC d N scr) 279 Q pc L S M G n m := l_step hc ⟨rfl, t, ht, kk⟩
theorem l_switch {dd lo hi x : Int} {offs : Array Int} {len : Nat} (hc : sCode 279 pc = some (.tableswitch dd lo hi offs, len)) (k1 : x < lo ∨ hi < x → ∃ t, (pc : Int) + dd = ((t : Nat) : Int) ∧ sW (lC d N scr) 279 Q t L S M G n m) (k2 : lo ≤ x → x ≤ hi → ∃ off t, offs[(x - lo).toNat]? = some off ∧ (pc : Int) + off = ((t : Nat) : Int) ∧ sW (lC d N scr) 279 Q t L S M G n m) : sW (lC d N scr) 279 Q pc L (vI x :: S) M G n m := l_step hc ⟨x, S, rfl, k1, fun h1 h2 => k2 (Int.not_lt.mp h1) (Int.not_lt.mp h2)⟩
theorem l_new {x c a n' m' : Nat} (pc' : Nat) (hp : pc + 3 = pc') (hc : sCode 279 pc = some (.new x, 3)) (hf : sCR (sKo 279).1 x = some c) (h0 : 0 < a) (hg : G a = (0, 0, 0)) (hb : n + 1 = n' ∧ m + sNF c = m' ∧ n' ≤ (sKo 279).2.2.2.1 ∧ m' ≤ (sKo 279).2.2.2.2) (kk : sW (lC d N scr) 279 Q pc' L (vF c a :: S) (sClr M a) (sGs G a (8, c, 0)) n' m') : sW (lC d N scr) 279 Q pc L S M G n m := by
  subst hp
  obtain ⟨rfl, rfl, b3, b4⟩ := hb
  exact l_step hc ⟨rfl, c, a, hf, h0, hg, ⟨b3, b4⟩, kk⟩
theorem l_init {x k' c a na rk mc ms n' m' : Nat} (A : List sV) {S0 : List sV} (pc' : Nat) (hp : pc + 3 = pc') (hc : sCode 279 pc = some (.invokespecial x, 3)) (hm : sMR (sKo 279).1 x = some k') (hf : k' < 1000 ∧ sStat k' = false ∧ sIni k' = true ∧ sKo k' = (c, na, rk, mc, ms)) (hS : S0 = A.reverse ++ vF c a :: vF c a :: S) (hl : A.length = na) (hcat : sCats S ≤ 7) (n1 : sNoF L = true) (n2 : sNoF S = true) (n3 : sArg A = true) (hb : n + mc = n' ∧ m + ms = m' ∧ n' ≤ (sKo 279).2.2.2.1 ∧ m' ≤ (sKo 279).2.2.2.2)
    (kk : sC d k' (vT c a 0 :: A) M (sGs G a (1, c, 0)) (QV (fun M' G' => G' a = (1, c, sFul c) ∧ sW (lC d N scr) 279 Q pc' L (vO c a :: S) M' G' n' m'))) : sW (lC d N scr) 279 Q pc L S0 M G n m := by
  subst hp
  obtain ⟨f1, f2, f3, f4⟩ := hf
  obtain ⟨rfl, rfl, b3, b4⟩ := hb
  subst hS
  refine l_step hc ⟨rfl, k', hm, Or.inr ⟨A, c, a, S, f1, f2, f3, by rw [f4], rfl, by rw [f4]; exact hl, hcat, n1, n2, n3, by rw [f4]; exact ⟨b3, b4⟩, ?_⟩⟩
  rw [f4]
  exact sC_mono d _ _ _ _ _ _ (fun r M' G' ⟨hr, h1, h2⟩ _ => ⟨hr, h1, h2⟩) kk
theorem l_virt {x k' c a na rk mc ms : Nat} {P : Int → sM → sG → Prop} (A : List sV) {S0 : List sV} (pc' : Nat) (hp : pc + 3 = pc') (hc : sCode 279 pc = some (.invokevirtual x, 3)) (hm : sMR (sKo 279).1 x = some k') (hf : k' < 1000 ∧ sStat k' = false ∧ sIni k' = false ∧ sKo k' = (c, na, rk, mc, ms)) (hS : S0 = A.reverse ++ vO c a :: S) (hl : A.length = na) (hcat : sCats S ≤ 8) (n2 : sNoF S = true) (n3 : sArg A = true) (hb : n + mc ≤ 600000 ∧ m + ms ≤ 7302250) (hC : sC d k' (vO c a :: A) M G (QI P))
    (kk : ∀ r M' G', P r M' G' → (∀ j, j < N → M' 108 j = scr j) → sW (lC d N scr) 279 Q pc' (LL N i) (vI r :: S) M' G' (n + mc) (m + ms)) : sW (lC d N scr) 279 Q pc (LL N i) S0 M G n m := by
  subst hp
  obtain ⟨f1, f2, f3, f4⟩ := hf
  subst hS
  have bud : (sKo 279).2.2.2 = (600000, 7302250) := by decide +kernel
  refine l_step hc ⟨rfl, k', hm, Or.inl ⟨A, vO c a, c, a, S, f1, f2, f3, by rw [f4], rfl, Or.inl rfl, by rw [f4]; exact hl, hcat, rfl, n2, n3, by rw [f4, bud]; exact hb, ?_⟩⟩
  rw [f4]
  refine sC_mono d _ _ _ _ _ _ (fun r M' G' ⟨x, hr, h1⟩ h2 => ?_) hC
  rw [hr]
  rcases h2 with z | z
  · rw [f3] at z; cases z
  · exact kk x M' G' h1 z
theorem l_zret {P : Int → sM → sG → Prop} {x : Int} (hc : sCode 279 pc = some (.ireturn, 1)) (h01 : x = 0 ∨ x = 1) (hb : n ≤ 600000 ∧ m ≤ 7302250) (h : P x M G) : sW (lC d N scr) 279 (QI P) pc L [vI x] M G n m := by
  have bud : (sKo 279).2.2.2 = (600000, 7302250) := by decide +kernel
  exact l_step hc ⟨rfl, x, rfl, Or.inr ⟨by decide +kernel, h01⟩, by rw [bud]; exact hb.1, by rw [bud]; exact hb.2, x, rfl, h⟩
theorem l_bool {x : Int} {o1 o2 : Int} (p1 p2 p3 p4 : Nat) (h1 : pc + 3 = p1) (h2 : p1 + 1 = p2) (h3 : (pc : Int) + o1 = (p3 : Int)) (h4 : (p2 : Int) + o2 = (p4 : Int)) (h5 : p3 + 1 = p4) (c1 : sCode 279 pc = some (.ifCond .eq o1, 3)) (c2 : sCode 279 p1 = some (.iconst 1, 1)) (c3 : sCode 279 p2 = some (.goto o2, 3)) (c4 : sCode 279 p3 = some (.iconst 0, 1)) (kk : sW (lC d N scr) 279 Q p4 L (vI (lB x) :: S) M G n m) : sW (lC d N scr) 279 Q pc L (vI x :: S) M G n m := by
  refine l_ifeq p3 p1 h1 h3 c1 (fun z => ?_) (fun z => ?_)
  · refine l_iconst p4 h5 c4 ⟨by decide, by decide⟩ ?_
    have : lB x = 0 := if_pos z
    rw [this] at kk
    exact kk
  · refine l_iconst p2 h2 c2 ⟨by decide, by decide⟩ (l_goto p4 h4 c3 ?_)
    have : lB x = 1 := if_neg z
    rw [this] at kk
    exact kk
theorem l_cell {c : Nat} (hc : c < 7) (hi : i + 6 < N) (hN : N ≤ 4000) : (0 ≤ (i : Int) + (c : Int) ∧ (i : Int) + (c : Int) < (N : Int)) ∧ sI ((i : Int) + (c : Int)) ∧ ((i : Int) + (c : Int)).toNat = i + c := ⟨⟨by omega, by omega⟩, ⟨by omega, by omega⟩, by omega⟩
theorem l_arg {c : Nat} (pc' : Nat) (hp : pc + 5 = pc') (h0 : sCode 279 pc = some (.aload_n 0, 1)) (h1 : sCode 279 (pc + 1) = some (.iload_n 3, 1)) (h2 : sCode 279 (pc + 2) = some (.iconst (c : Int), 1)) (h3 : sCode 279 (pc + 3) = some (.iadd, 1)) (h4 : sCode 279 (pc + 4) = some (.iaload, 1)) (hc : c < 7 ∧ sI (c : Int)) (hi : i + 6 < N) (hN : N ≤ 4000) (hs : ∀ j, j < N → M 108 j = scr j) (kk : sW (lC d N scr) 279 Q pc' (LL N i) (vI (scr (i + c)) :: S) M G n m) : sW (lC d N scr) 279 Q pc (LL N i) S M G n m := by
  obtain ⟨b1, b2, b3⟩ := l_cell hc.1 hi hN
  refine l_aload_n _ rfl h0 (v := vA 4 108 (N : Int)) rfl (Nat.le_of_ble_eq_true rfl) (l_iload_n _ rfl h1 (x := (i : Int)) rfl (l_iconst _ rfl h2 hc.2 (l_iadd _ rfl h3 b2 (l_sald pc' hp h4 b1 ?_))))
  rw [b3, hs _ (by omega)]
  exact kk
theorem l_argB {c : Nat} (pc' : Nat) (hp : pc + 6 = pc') (h0 : sCode 279 pc = some (.aload_n 0, 1)) (h1 : sCode 279 (pc + 1) = some (.iload_n 3, 1)) (h2 : sCode 279 (pc + 2) = some (.bipush (c : Int), 2)) (h3 : sCode 279 (pc + 4) = some (.iadd, 1)) (h4 : sCode 279 (pc + 5) = some (.iaload, 1)) (hc : c < 7 ∧ sI (c : Int)) (h8 : (Int8.ofInt (c : Int)).toInt32 = Int32.ofInt (c : Int)) (hi : i + 6 < N) (hN : N ≤ 4000) (hs : ∀ j, j < N → M 108 j = scr j) (kk : sW (lC d N scr) 279 Q pc' (LL N i) (vI (scr (i + c)) :: S) M G n m) : sW (lC d N scr) 279 Q pc (LL N i) S M G n m := by
  obtain ⟨b1, b2, b3⟩ := l_cell hc.1 hi hN
  refine l_aload_n _ rfl h0 (v := vA 4 108 (N : Int)) rfl (Nat.le_of_ble_eq_true rfl) (l_iload_n _ rfl h1 (x := (i : Int)) rfl (l_bipush _ rfl h2 hc.2 h8 (l_iadd _ rfl h3 b2 (l_sald pc' hp h4 b1 ?_))))
  rw [b3, hs _ (by omega)]
  exact kk
end
