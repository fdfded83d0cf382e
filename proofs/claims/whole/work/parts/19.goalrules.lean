/-! RULES for the small machine, goal first: one for each instruction. -/
def QI (P : Int → sM → sG → Prop) : Option sV → sM → sG → Prop := fun r M G => ∃ x, r = some (vI x) ∧ P x M G
def QL (P : Int → sM → sG → Prop) : Option sV → sM → sG → Prop := fun r M G => ∃ x, r = some (vL x) ∧ P x M G
def QR (P : sV → sM → sG → Prop) : Option sV → sM → sG → Prop := fun r M G => ∃ x, r = some x ∧ P x M G
def QV (P : sM → sG → Prop) : Option sV → sM → sG → Prop := fun r M G => r = none ∧ P M G
def iShl (x y : Int) : Int := oI (fun u v => u <<< (v &&& 31)) x y
def iShr (x y : Int) : Int := oI (fun u v => u >>> (v &&& 31)) x y
def iUshr (x y : Int) : Int := oI (fun u v => (u.toUInt32 >>> (v.toUInt32 &&& Int32.toUInt32 31)).toInt32) x y
def iAnd (x y : Int) : Int := oI (· &&& ·) x y
def iOr (x y : Int) : Int := oI (· ||| ·) x y
def iXor (x y : Int) : Int := oI (· ^^^ ·) x y
def iDiv (x y : Int) : Int := oI (· / ·) x y
def iRem (x y : Int) : Int := oI (fun u v => u - u / v * v) x y
def iWrap (x : Int) : Int := (Int32.ofInt x).toInt
def jWrap (x : Int) : Int := (Int64.ofInt x).toInt
def jDiv (x y : Int) : Int := oJ (· / ·) x y
def jRem (x y : Int) : Int := oJ (fun u v => u - u / v * v) x y
def jAnd (x y : Int) : Int := oJ (· &&& ·) x y
def jOr (x y : Int) : Int := oJ (· ||| ·) x y
def jShl (x y : Int) : Int := (Int64.ofInt x <<< ((Int32.ofInt y).toInt64 &&& 63)).toInt
def jInt (x : Int) : Int := (Int64.ofInt x).toInt32.toInt
def iByte (x : Int) : Int := (Int32.ofInt x).toInt8.toInt32.toInt
theorem oI_add (x y : Int) : oI (· + ·) x y = iWrap (x + y) := by unfold oI iWrap; rw [Int32.ofInt_add]
theorem oI_sub (x y : Int) : oI (· - ·) x y = iWrap (x - y) := by unfold oI iWrap; rw [Int32.ofInt_sub]
theorem oI_mul (x y : Int) : oI (· * ·) x y = iWrap (x * y) := by unfold oI iWrap; rw [Int32.ofInt_mul]
theorem oJ_add (x y : Int) : oJ (· + ·) x y = jWrap (x + y) := by unfold oJ jWrap; rw [Int64.ofInt_add]
theorem oJ_sub (x y : Int) : oJ (· - ·) x y = jWrap (x - y) := by unfold oJ jWrap; rw [Int64.ofInt_sub]
theorem oJ_mul (x y : Int) : oJ (· * ·) x y = jWrap (x * y) := by unfold oJ jWrap; rw [Int64.ofInt_mul]
theorem oI_neg (x : Int) : oI (fun u _ => -u) x x = iWrap (-x) := by unfold oI iWrap; rw [Int32.ofInt_neg]
theorem iWrap_id {x : Int} (h : sI x) : iWrap x = x := sI_of h
theorem jWrap_id {x : Int} (h : sJ x) : jWrap x = x := sJ_of h
section Rules
variable {d k : Nat} {Q : Option sV → sM → sG → Prop} {pc : Nat} {L S : List sV} {M : sM} {G : sG} {n m : Nat}
theorem q_step {i : Instr} {len : Nat} (hc : sCode k pc = some (i, len)) (h : sStep k (sC d) (sEnd k Q) (sW (sC d) k Q) i len pc L S M G n m) : sW (sC d) k Q pc L S M G n m := sW_step (sC_mono d) hc h
theorem q_iconst {x : Int} (pc' : Nat) (hp : pc + 1 = pc') (hc : sCode k pc = some (.iconst x, 1)) (hx : sI x) (kk : sW (sC d) k Q pc' L (vI x :: S) (M) (G) n m) : sW (sC d) k Q pc L (S) M G n m := by
  subst hp
  exact q_step hc (⟨rfl, hx, kk⟩)
theorem q_bipush {x : Int} (pc' : Nat) (hp : pc + 2 = pc') (hc : sCode k pc = some (.bipush x, 2)) (hx : sI x) (h8 : (Int8.ofInt x).toInt32 = Int32.ofInt x) (kk : sW (sC d) k Q pc' L (vI x :: S) (M) (G) n m) : sW (sC d) k Q pc L (S) M G n m := by
  subst hp
  exact q_step hc (⟨rfl, hx, h8, kk⟩)
theorem q_sipush {x : Int} (pc' : Nat) (hp : pc + 3 = pc') (hc : sCode k pc = some (.sipush x, 3)) (hx : sI x) (h8 : (Int16.ofInt x).toInt32 = Int32.ofInt x) (kk : sW (sC d) k Q pc' L (vI x :: S) (M) (G) n m) : sW (sC d) k Q pc L (S) M G n m := by
  subst hp
  exact q_step hc (⟨rfl, hx, h8, kk⟩)
theorem q_ldcI {i : Nat} {x : Int} (pc' : Nat) (hp : pc + 2 = pc') (hc : sCode k pc = some (.ldc i, 2)) (h : sIR (sKo k).1 i = some x) (hx : sI x) (kk : sW (sC d) k Q pc' L (vI x :: S) (M) (G) n m) : sW (sC d) k Q pc L (S) M G n m := by
  subst hp
  exact q_step hc (⟨rfl, Or.inl ⟨x, h, hx, kk⟩⟩)
theorem q_ldcS {i j : Nat} (pc' : Nat) (hp : pc + 2 = pc') (hc : sCode k pc = some (.ldc i, 2)) (h : sSR (sKo k).1 i = some j) (kk : sW (sC d) k Q pc' L (vS j :: S) (M) (G) n m) : sW (sC d) k Q pc L (S) M G n m := by
  subst hp
  exact q_step hc (⟨rfl, Or.inr ⟨j, h, kk⟩⟩)
theorem q_ldc_w {i : Nat} {x : Int} (pc' : Nat) (hp : pc + 3 = pc') (hc : sCode k pc = some (.ldc_w i, 3)) (h : sIR (sKo k).1 i = some x) (hx : sI x) (kk : sW (sC d) k Q pc' L (vI x :: S) (M) (G) n m) : sW (sC d) k Q pc L (S) M G n m := by
  subst hp
  exact q_step hc (⟨rfl, x, h, hx, kk⟩)
theorem q_ldc2_w {i : Nat} {x : Int} (pc' : Nat) (hp : pc + 3 = pc') (hc : sCode k pc = some (.ldc2_w i, 3)) (h : sLR (sKo k).1 i = some x) (hx : sJ x) (kk : sW (sC d) k Q pc' L (vL x :: S) (M) (G) n m) : sW (sC d) k Q pc L (S) M G n m := by
  subst hp
  exact q_step hc (⟨rfl, x, h, hx, kk⟩)
theorem q_lconst {x : Fin 2} (pc' : Nat) (hp : pc + 1 = pc') (hc : sCode k pc = some (.lconst x, 1)) (kk : sW (sC d) k Q pc' L (vL (((x : Fin 2) : Nat) : Int) :: S) (M) (G) n m) : sW (sC d) k Q pc L (S) M G n m := by
  subst hp
  exact q_step hc (⟨rfl, kk⟩)
theorem q_null (c : Nat) (pc' : Nat) (hp : pc + 1 = pc') (hc : sCode k pc = some (.aconst_null, 1)) (hc13 : c < 13) (kk : sW (sC d) k Q pc' L (vQ c 0 :: S) (M) (G) n m) : sW (sC d) k Q pc L (S) M G n m := by
  subst hp
  exact q_step hc (⟨rfl, c, hc13, kk⟩)
theorem q_iload {i : Nat} {x : Int} (pc' : Nat) (hp : pc + 2 = pc') (hc : sCode k pc = some (.iload i, 2)) (h : L[i]? = some (vI x)) (kk : sW (sC d) k Q pc' L (vI x :: S) (M) (G) n m) : sW (sC d) k Q pc L (S) M G n m := by
  subst hp
  exact q_step hc (⟨rfl, x, h, kk⟩)
theorem q_iload_n {i : Fin 4} {x : Int} (pc' : Nat) (hp : pc + 1 = pc') (hc : sCode k pc = some (.iload_n i, 1)) (h : L[((i : Fin 4) : Nat)]? = some (vI x)) (kk : sW (sC d) k Q pc' L (vI x :: S) (M) (G) n m) : sW (sC d) k Q pc L (S) M G n m := by
  subst hp
  exact q_step hc (⟨rfl, x, h, kk⟩)
theorem q_lload {i : Nat} {x : Int} (pc' : Nat) (hp : pc + 2 = pc') (hc : sCode k pc = some (.lload i, 2)) (h : L[i]? = some (vL x)) (kk : sW (sC d) k Q pc' L (vL x :: S) (M) (G) n m) : sW (sC d) k Q pc L (S) M G n m := by
  subst hp
  exact q_step hc (⟨rfl, x, h, kk⟩)
theorem q_lload_n {i : Fin 4} {x : Int} (pc' : Nat) (hp : pc + 1 = pc') (hc : sCode k pc = some (.lload_n i, 1)) (h : L[((i : Fin 4) : Nat)]? = some (vL x)) (kk : sW (sC d) k Q pc' L (vL x :: S) (M) (G) n m) : sW (sC d) k Q pc L (S) M G n m := by
  subst hp
  exact q_step hc (⟨rfl, x, h, kk⟩)
theorem q_aload {i : Nat} {v : sV} (pc' : Nat) (hp : pc + 2 = pc') (hc : sCode k pc = some (.aload i, 2)) (h : L[i]? = some v) (h3 : 3 ≤ v.1) (kk : sW (sC d) k Q pc' L (v :: S) (M) (G) n m) : sW (sC d) k Q pc L (S) M G n m := by
  subst hp
  exact q_step hc (⟨rfl, v, h, h3, kk⟩)
theorem q_aload_n {i : Fin 4} {v : sV} (pc' : Nat) (hp : pc + 1 = pc') (hc : sCode k pc = some (.aload_n i, 1)) (h : L[((i : Fin 4) : Nat)]? = some v) (h3 : 3 ≤ v.1) (kk : sW (sC d) k Q pc' L (v :: S) (M) (G) n m) : sW (sC d) k Q pc L (S) M G n m := by
  subst hp
  exact q_step hc (⟨rfl, v, h, h3, kk⟩)
theorem q_istore {i : Nat} {x : Int} (L' : List sV) (pc' : Nat) (hp : pc + 2 = pc') (hc : sCode k pc = some (.istore i, 2)) (hl : i < L.length) (hv : sPrev L i = true) (hL : L.set i (vI x) = L') (kk : sW (sC d) k Q pc' L' (S) (M) (G) n m) : sW (sC d) k Q pc L (vI x :: S) M G n m := by
  subst hp
  exact q_step hc (⟨rfl, x, S, rfl, hl, hv, hL ▸ kk⟩)
theorem q_istore_n {i : Fin 4} {x : Int} (L' : List sV) (pc' : Nat) (hp : pc + 1 = pc') (hc : sCode k pc = some (.istore_n i, 1)) (hl : ((i : Fin 4) : Nat) < L.length) (hv : sPrev L ((i : Fin 4) : Nat) = true) (hL : L.set ((i : Fin 4) : Nat) (vI x) = L') (kk : sW (sC d) k Q pc' L' (S) (M) (G) n m) : sW (sC d) k Q pc L (vI x :: S) M G n m := by
  subst hp
  exact q_step hc (⟨rfl, x, S, rfl, hl, hv, hL ▸ kk⟩)
theorem q_lstore {i : Nat} {x : Int} (L' : List sV) (pc' : Nat) (hp : pc + 2 = pc') (hc : sCode k pc = some (.lstore i, 2)) (hl : i + 1 < L.length) (hv : sPrev L i = true) (hL : (L.set i (vL x)).set (i + 1) vN = L') (kk : sW (sC d) k Q pc' L' (S) (M) (G) n m) : sW (sC d) k Q pc L (vL x :: S) M G n m := by
  subst hp
  exact q_step hc (⟨rfl, x, S, rfl, hl, hv, hL ▸ kk⟩)
theorem q_lstore_n {i : Fin 4} {x : Int} (L' : List sV) (pc' : Nat) (hp : pc + 1 = pc') (hc : sCode k pc = some (.lstore_n i, 1)) (hl : ((i : Fin 4) : Nat) + 1 < L.length) (hv : sPrev L ((i : Fin 4) : Nat) = true) (hL : (L.set ((i : Fin 4) : Nat) (vL x)).set (((i : Fin 4) : Nat) + 1) vN = L') (kk : sW (sC d) k Q pc' L' (S) (M) (G) n m) : sW (sC d) k Q pc L (vL x :: S) M G n m := by
  subst hp
  exact q_step hc (⟨rfl, x, S, rfl, hl, hv, hL ▸ kk⟩)
theorem q_astore {i : Nat} {v : sV} (L' : List sV) (pc' : Nat) (hp : pc + 2 = pc') (hc : sCode k pc = some (.astore i, 2)) (h3 : 3 ≤ v.1 ∧ (v.1 < 80 ∨ 100 ≤ v.1)) (hl : i < L.length) (hv : sPrev L i = true) (hL : L.set i v = L') (kk : sW (sC d) k Q pc' L' (S) (M) (G) n m) : sW (sC d) k Q pc L (v :: S) M G n m := by
  subst hp
  exact q_step hc (⟨rfl, v, S, rfl, h3, hl, hv, hL ▸ kk⟩)
theorem q_astore_n {i : Fin 4} {v : sV} (L' : List sV) (pc' : Nat) (hp : pc + 1 = pc') (hc : sCode k pc = some (.astore_n i, 1)) (h3 : 3 ≤ v.1 ∧ (v.1 < 80 ∨ 100 ≤ v.1)) (hl : ((i : Fin 4) : Nat) < L.length) (hv : sPrev L ((i : Fin 4) : Nat) = true) (hL : L.set ((i : Fin 4) : Nat) v = L') (kk : sW (sC d) k Q pc' L' (S) (M) (G) n m) : sW (sC d) k Q pc L (v :: S) M G n m := by
  subst hp
  exact q_step hc (⟨rfl, v, S, rfl, h3, hl, hv, hL ▸ kk⟩)
theorem q_iinc {i : Nat} {c x : Int} (L' : List sV) (pc' : Nat) (hp : pc + 3 = pc') (hc : sCode k pc = some (.iinc i c, 3)) (h : L[i]? = some (vI x)) (hv : sPrev L i = true) (hs : sI (x + c)) (hL : L.set i (vI (x + c)) = L') (kk : sW (sC d) k Q pc' L' (S) (M) (G) n m) : sW (sC d) k Q pc L (S) M G n m := by
  subst hp
  exact q_step hc (⟨rfl, x, h, hv, by rw [oI_add, iWrap_id hs]; exact hL ▸ kk⟩)
theorem q_dup {v : sV} (pc' : Nat) (hp : pc + 1 = pc') (hc : sCode k pc = some (.dup, 1)) (h1 : sCat v = 1) (kk : sW (sC d) k Q pc' L (v :: v :: S) (M) (G) n m) : sW (sC d) k Q pc L (v :: S) M G n m := by
  subst hp
  exact q_step hc (⟨rfl, v, S, rfl, h1, kk⟩)
theorem q_dup2 {u v : sV} (pc' : Nat) (hp : pc + 1 = pc') (hc : sCode k pc = some (.dup2, 1)) (h1 : sCat u = 1) (h2 : sCat v = 1) (kk : sW (sC d) k Q pc' L (u :: v :: u :: v :: S) (M) (G) n m) : sW (sC d) k Q pc L (u :: v :: S) M G n m := by
  subst hp
  exact q_step hc (⟨rfl, u, v, S, rfl, h1, h2, kk⟩)
theorem q_pop {v : sV} (pc' : Nat) (hp : pc + 1 = pc') (hc : sCode k pc = some (.pop, 1)) (h1 : sCat v = 1) (kk : sW (sC d) k Q pc' L (S) (M) (G) n m) : sW (sC d) k Q pc L (v :: S) M G n m := by
  subst hp
  exact q_step hc (⟨rfl, v, S, rfl, h1, kk⟩)
theorem q_iadd {x y : Int} (pc' : Nat) (hp : pc + 1 = pc') (hc : sCode k pc = some (.iadd, 1)) (hs : sI (x + y)) (kk : sW (sC d) k Q pc' L (vI (x + y) :: S) (M) (G) n m) : sW (sC d) k Q pc L (vI y :: vI x :: S) M G n m := by
  subst hp
  exact q_step hc (⟨rfl, x, y, S, rfl, by rw [oI_add, iWrap_id hs]; exact kk⟩)
theorem q_iaddW {x y : Int} (pc' : Nat) (hp : pc + 1 = pc') (hc : sCode k pc = some (.iadd, 1)) (kk : sW (sC d) k Q pc' L (vI (iWrap (x + y)) :: S) (M) (G) n m) : sW (sC d) k Q pc L (vI y :: vI x :: S) M G n m := by
  subst hp
  exact q_step hc (⟨rfl, x, y, S, rfl, by rw [oI_add]; exact kk⟩)
theorem q_isub {x y : Int} (pc' : Nat) (hp : pc + 1 = pc') (hc : sCode k pc = some (.isub, 1)) (hs : sI (x - y)) (kk : sW (sC d) k Q pc' L (vI (x - y) :: S) (M) (G) n m) : sW (sC d) k Q pc L (vI y :: vI x :: S) M G n m := by
  subst hp
  exact q_step hc (⟨rfl, x, y, S, rfl, by rw [oI_sub, iWrap_id hs]; exact kk⟩)
theorem q_isubW {x y : Int} (pc' : Nat) (hp : pc + 1 = pc') (hc : sCode k pc = some (.isub, 1)) (kk : sW (sC d) k Q pc' L (vI (iWrap (x - y)) :: S) (M) (G) n m) : sW (sC d) k Q pc L (vI y :: vI x :: S) M G n m := by
  subst hp
  exact q_step hc (⟨rfl, x, y, S, rfl, by rw [oI_sub]; exact kk⟩)
theorem q_imul {x y : Int} (pc' : Nat) (hp : pc + 1 = pc') (hc : sCode k pc = some (.imul, 1)) (hs : sI (x * y)) (kk : sW (sC d) k Q pc' L (vI (x * y) :: S) (M) (G) n m) : sW (sC d) k Q pc L (vI y :: vI x :: S) M G n m := by
  subst hp
  exact q_step hc (⟨rfl, x, y, S, rfl, by rw [oI_mul, iWrap_id hs]; exact kk⟩)
theorem q_imulW {x y : Int} (pc' : Nat) (hp : pc + 1 = pc') (hc : sCode k pc = some (.imul, 1)) (kk : sW (sC d) k Q pc' L (vI (iWrap (x * y)) :: S) (M) (G) n m) : sW (sC d) k Q pc L (vI y :: vI x :: S) M G n m := by
  subst hp
  exact q_step hc (⟨rfl, x, y, S, rfl, by rw [oI_mul]; exact kk⟩)
theorem q_ladd {x y : Int} (pc' : Nat) (hp : pc + 1 = pc') (hc : sCode k pc = some (.ladd, 1)) (kk : sW (sC d) k Q pc' L (vL (jWrap (x + y)) :: S) (M) (G) n m) : sW (sC d) k Q pc L (vL y :: vL x :: S) M G n m := by
  subst hp
  exact q_step hc (⟨rfl, x, y, S, rfl, by rw [oJ_add]; exact kk⟩)
theorem q_lsub {x y : Int} (pc' : Nat) (hp : pc + 1 = pc') (hc : sCode k pc = some (.lsub, 1)) (kk : sW (sC d) k Q pc' L (vL (jWrap (x - y)) :: S) (M) (G) n m) : sW (sC d) k Q pc L (vL y :: vL x :: S) M G n m := by
  subst hp
  exact q_step hc (⟨rfl, x, y, S, rfl, by rw [oJ_sub]; exact kk⟩)
theorem q_lmul {x y : Int} (pc' : Nat) (hp : pc + 1 = pc') (hc : sCode k pc = some (.lmul, 1)) (kk : sW (sC d) k Q pc' L (vL (jWrap (x * y)) :: S) (M) (G) n m) : sW (sC d) k Q pc L (vL y :: vL x :: S) M G n m := by
  subst hp
  exact q_step hc (⟨rfl, x, y, S, rfl, by rw [oJ_mul]; exact kk⟩)
theorem q_ineg {x : Int} (pc' : Nat) (hp : pc + 1 = pc') (hc : sCode k pc = some (.ineg, 1)) (hs : sI (-x)) (kk : sW (sC d) k Q pc' L (vI (-x) :: S) (M) (G) n m) : sW (sC d) k Q pc L (vI x :: S) M G n m := by
  subst hp
  exact q_step hc (⟨rfl, x, S, rfl, by rw [oI_neg, iWrap_id hs]; exact kk⟩)
theorem q_ishl {x y : Int} (pc' : Nat) (hp : pc + 1 = pc') (hc : sCode k pc = some (.ishl, 1)) (kk : sW (sC d) k Q pc' L (vI (iShl x y) :: S) (M) (G) n m) : sW (sC d) k Q pc L (vI y :: vI x :: S) M G n m := by
  subst hp
  exact q_step hc (⟨rfl, x, y, S, rfl, kk⟩)
theorem q_ishr {x y : Int} (pc' : Nat) (hp : pc + 1 = pc') (hc : sCode k pc = some (.ishr, 1)) (kk : sW (sC d) k Q pc' L (vI (iShr x y) :: S) (M) (G) n m) : sW (sC d) k Q pc L (vI y :: vI x :: S) M G n m := by
  subst hp
  exact q_step hc (⟨rfl, x, y, S, rfl, kk⟩)
theorem q_iushr {x y : Int} (pc' : Nat) (hp : pc + 1 = pc') (hc : sCode k pc = some (.iushr, 1)) (kk : sW (sC d) k Q pc' L (vI (iUshr x y) :: S) (M) (G) n m) : sW (sC d) k Q pc L (vI y :: vI x :: S) M G n m := by
  subst hp
  exact q_step hc (⟨rfl, x, y, S, rfl, kk⟩)
theorem q_iand {x y : Int} (pc' : Nat) (hp : pc + 1 = pc') (hc : sCode k pc = some (.iand, 1)) (kk : sW (sC d) k Q pc' L (vI (iAnd x y) :: S) (M) (G) n m) : sW (sC d) k Q pc L (vI y :: vI x :: S) M G n m := by
  subst hp
  exact q_step hc (⟨rfl, x, y, S, rfl, kk⟩)
theorem q_ior {x y : Int} (pc' : Nat) (hp : pc + 1 = pc') (hc : sCode k pc = some (.ior, 1)) (kk : sW (sC d) k Q pc' L (vI (iOr x y) :: S) (M) (G) n m) : sW (sC d) k Q pc L (vI y :: vI x :: S) M G n m := by
  subst hp
  exact q_step hc (⟨rfl, x, y, S, rfl, kk⟩)
theorem q_ixor {x y : Int} (pc' : Nat) (hp : pc + 1 = pc') (hc : sCode k pc = some (.ixor, 1)) (kk : sW (sC d) k Q pc' L (vI (iXor x y) :: S) (M) (G) n m) : sW (sC d) k Q pc L (vI y :: vI x :: S) M G n m := by
  subst hp
  exact q_step hc (⟨rfl, x, y, S, rfl, kk⟩)
theorem q_idiv {x y : Int} (pc' : Nat) (hp : pc + 1 = pc') (hc : sCode k pc = some (.idiv, 1)) (h0 : y ≠ 0) (kk : sW (sC d) k Q pc' L (vI (iDiv x y) :: S) (M) (G) n m) : sW (sC d) k Q pc L (vI y :: vI x :: S) M G n m := by
  subst hp
  exact q_step hc (⟨rfl, x, y, S, rfl, h0, kk⟩)
theorem q_irem {x y : Int} (pc' : Nat) (hp : pc + 1 = pc') (hc : sCode k pc = some (.irem, 1)) (h0 : y ≠ 0) (kk : sW (sC d) k Q pc' L (vI (iRem x y) :: S) (M) (G) n m) : sW (sC d) k Q pc L (vI y :: vI x :: S) M G n m := by
  subst hp
  exact q_step hc (⟨rfl, x, y, S, rfl, h0, kk⟩)
theorem q_ldiv {x y : Int} (pc' : Nat) (hp : pc + 1 = pc') (hc : sCode k pc = some (.ldiv, 1)) (h0 : y ≠ 0) (kk : sW (sC d) k Q pc' L (vL (jDiv x y) :: S) (M) (G) n m) : sW (sC d) k Q pc L (vL y :: vL x :: S) M G n m := by
  subst hp
  exact q_step hc (⟨rfl, x, y, S, rfl, h0, kk⟩)
theorem q_lrem {x y : Int} (pc' : Nat) (hp : pc + 1 = pc') (hc : sCode k pc = some (.lrem, 1)) (h0 : y ≠ 0) (kk : sW (sC d) k Q pc' L (vL (jRem x y) :: S) (M) (G) n m) : sW (sC d) k Q pc L (vL y :: vL x :: S) M G n m := by
  subst hp
  exact q_step hc (⟨rfl, x, y, S, rfl, h0, kk⟩)
theorem q_land {x y : Int} (pc' : Nat) (hp : pc + 1 = pc') (hc : sCode k pc = some (.land, 1)) (kk : sW (sC d) k Q pc' L (vL (jAnd x y) :: S) (M) (G) n m) : sW (sC d) k Q pc L (vL y :: vL x :: S) M G n m := by
  subst hp
  exact q_step hc (⟨rfl, x, y, S, rfl, kk⟩)
theorem q_lor {x y : Int} (pc' : Nat) (hp : pc + 1 = pc') (hc : sCode k pc = some (.lor, 1)) (kk : sW (sC d) k Q pc' L (vL (jOr x y) :: S) (M) (G) n m) : sW (sC d) k Q pc L (vL y :: vL x :: S) M G n m := by
  subst hp
  exact q_step hc (⟨rfl, x, y, S, rfl, kk⟩)
theorem q_lshl {x y : Int} (pc' : Nat) (hp : pc + 1 = pc') (hc : sCode k pc = some (.lshl, 1)) (kk : sW (sC d) k Q pc' L (vL (jShl x y) :: S) (M) (G) n m) : sW (sC d) k Q pc L (vI y :: vL x :: S) M G n m := by
  subst hp
  exact q_step hc (⟨rfl, x, y, S, rfl, kk⟩)
theorem q_i2l {x : Int} (pc' : Nat) (hp : pc + 1 = pc') (hc : sCode k pc = some (.i2l, 1)) (kk : sW (sC d) k Q pc' L (vL x :: S) (M) (G) n m) : sW (sC d) k Q pc L (vI x :: S) M G n m := by
  subst hp
  exact q_step hc (⟨rfl, x, S, rfl, kk⟩)
theorem q_l2i {x : Int} (pc' : Nat) (hp : pc + 1 = pc') (hc : sCode k pc = some (.l2i, 1)) (kk : sW (sC d) k Q pc' L (vI (jInt x) :: S) (M) (G) n m) : sW (sC d) k Q pc L (vL x :: S) M G n m := by
  subst hp
  exact q_step hc (⟨rfl, x, S, rfl, kk⟩)
theorem q_i2b {x : Int} (pc' : Nat) (hp : pc + 1 = pc') (hc : sCode k pc = some (.i2b, 1)) (kk : sW (sC d) k Q pc' L (vI (iByte x) :: S) (M) (G) n m) : sW (sC d) k Q pc L (vI x :: S) M G n m := by
  subst hp
  exact q_step hc (⟨rfl, x, S, rfl, kk⟩)
theorem q_ifeq {off x : Int} (t pc' : Nat) (hp : pc + 3 = pc') (ht : (pc : Int) + off = (t : Int)) (hc : sCode k pc = some (.ifCond .eq off, 3)) (k1 : x = 0 → sW (sC d) k Q t L S M G n m) (k2 : x ≠ 0 → sW (sC d) k Q pc' L S M G n m) : sW (sC d) k Q pc L (vI x :: S) M G n m := by
  subst hp
  exact q_step hc ⟨rfl, x, S, t, rfl, ht, k1, fun q => k2 q⟩
theorem q_icmpeq {off x y : Int} (t pc' : Nat) (hp : pc + 3 = pc') (ht : (pc : Int) + off = (t : Int)) (hc : sCode k pc = some (.if_icmp .eq off, 3)) (k1 : x = y → sW (sC d) k Q t L S M G n m) (k2 : x ≠ y → sW (sC d) k Q pc' L S M G n m) : sW (sC d) k Q pc L (vI y :: vI x :: S) M G n m := by
  subst hp
  exact q_step hc ⟨rfl, x, y, S, t, rfl, ht, k1, fun q => k2 q⟩
theorem q_ifne {off x : Int} (t pc' : Nat) (hp : pc + 3 = pc') (ht : (pc : Int) + off = (t : Int)) (hc : sCode k pc = some (.ifCond .ne off, 3)) (k1 : x ≠ 0 → sW (sC d) k Q t L S M G n m) (k2 : x = 0 → sW (sC d) k Q pc' L S M G n m) : sW (sC d) k Q pc L (vI x :: S) M G n m := by
  subst hp
  exact q_step hc ⟨rfl, x, S, t, rfl, ht, k1, fun q => k2 (Decidable.not_not.mp q)⟩
theorem q_icmpne {off x y : Int} (t pc' : Nat) (hp : pc + 3 = pc') (ht : (pc : Int) + off = (t : Int)) (hc : sCode k pc = some (.if_icmp .ne off, 3)) (k1 : x ≠ y → sW (sC d) k Q t L S M G n m) (k2 : x = y → sW (sC d) k Q pc' L S M G n m) : sW (sC d) k Q pc L (vI y :: vI x :: S) M G n m := by
  subst hp
  exact q_step hc ⟨rfl, x, y, S, t, rfl, ht, k1, fun q => k2 (Decidable.not_not.mp q)⟩
theorem q_iflt {off x : Int} (t pc' : Nat) (hp : pc + 3 = pc') (ht : (pc : Int) + off = (t : Int)) (hc : sCode k pc = some (.ifCond .lt off, 3)) (k1 : x < 0 → sW (sC d) k Q t L S M G n m) (k2 : 0 ≤ x → sW (sC d) k Q pc' L S M G n m) : sW (sC d) k Q pc L (vI x :: S) M G n m := by
  subst hp
  exact q_step hc ⟨rfl, x, S, t, rfl, ht, k1, fun q => k2 (Int.not_lt.mp q)⟩
theorem q_icmplt {off x y : Int} (t pc' : Nat) (hp : pc + 3 = pc') (ht : (pc : Int) + off = (t : Int)) (hc : sCode k pc = some (.if_icmp .lt off, 3)) (k1 : x < y → sW (sC d) k Q t L S M G n m) (k2 : y ≤ x → sW (sC d) k Q pc' L S M G n m) : sW (sC d) k Q pc L (vI y :: vI x :: S) M G n m := by
  subst hp
  exact q_step hc ⟨rfl, x, y, S, t, rfl, ht, k1, fun q => k2 (Int.not_lt.mp q)⟩
theorem q_ifge {off x : Int} (t pc' : Nat) (hp : pc + 3 = pc') (ht : (pc : Int) + off = (t : Int)) (hc : sCode k pc = some (.ifCond .ge off, 3)) (k1 : 0 ≤ x → sW (sC d) k Q t L S M G n m) (k2 : x < 0 → sW (sC d) k Q pc' L S M G n m) : sW (sC d) k Q pc L (vI x :: S) M G n m := by
  subst hp
  exact q_step hc ⟨rfl, x, S, t, rfl, ht, k1, fun q => k2 (Int.not_le.mp q)⟩
theorem q_icmpge {off x y : Int} (t pc' : Nat) (hp : pc + 3 = pc') (ht : (pc : Int) + off = (t : Int)) (hc : sCode k pc = some (.if_icmp .ge off, 3)) (k1 : y ≤ x → sW (sC d) k Q t L S M G n m) (k2 : x < y → sW (sC d) k Q pc' L S M G n m) : sW (sC d) k Q pc L (vI y :: vI x :: S) M G n m := by
  subst hp
  exact q_step hc ⟨rfl, x, y, S, t, rfl, ht, k1, fun q => k2 (Int.not_le.mp q)⟩
theorem q_ifgt {off x : Int} (t pc' : Nat) (hp : pc + 3 = pc') (ht : (pc : Int) + off = (t : Int)) (hc : sCode k pc = some (.ifCond .gt off, 3)) (k1 : 0 < x → sW (sC d) k Q t L S M G n m) (k2 : x ≤ 0 → sW (sC d) k Q pc' L S M G n m) : sW (sC d) k Q pc L (vI x :: S) M G n m := by
  subst hp
  exact q_step hc ⟨rfl, x, S, t, rfl, ht, k1, fun q => k2 (Int.not_lt.mp q)⟩
theorem q_icmpgt {off x y : Int} (t pc' : Nat) (hp : pc + 3 = pc') (ht : (pc : Int) + off = (t : Int)) (hc : sCode k pc = some (.if_icmp .gt off, 3)) (k1 : y < x → sW (sC d) k Q t L S M G n m) (k2 : x ≤ y → sW (sC d) k Q pc' L S M G n m) : sW (sC d) k Q pc L (vI y :: vI x :: S) M G n m := by
  subst hp
  exact q_step hc ⟨rfl, x, y, S, t, rfl, ht, k1, fun q => k2 (Int.not_lt.mp q)⟩
theorem q_ifle {off x : Int} (t pc' : Nat) (hp : pc + 3 = pc') (ht : (pc : Int) + off = (t : Int)) (hc : sCode k pc = some (.ifCond .le off, 3)) (k1 : x ≤ 0 → sW (sC d) k Q t L S M G n m) (k2 : 0 < x → sW (sC d) k Q pc' L S M G n m) : sW (sC d) k Q pc L (vI x :: S) M G n m := by
  subst hp
  exact q_step hc ⟨rfl, x, S, t, rfl, ht, k1, fun q => k2 (Int.not_le.mp q)⟩
theorem q_icmple {off x y : Int} (t pc' : Nat) (hp : pc + 3 = pc') (ht : (pc : Int) + off = (t : Int)) (hc : sCode k pc = some (.if_icmp .le off, 3)) (k1 : x ≤ y → sW (sC d) k Q t L S M G n m) (k2 : y < x → sW (sC d) k Q pc' L S M G n m) : sW (sC d) k Q pc L (vI y :: vI x :: S) M G n m := by
  subst hp
  exact q_step hc ⟨rfl, x, y, S, t, rfl, ht, k1, fun q => k2 (Int.not_le.mp q)⟩
theorem q_lifeq {off x y : Int} (t pc' : Nat) (hp : pc + 4 = pc') (ht : (pc : Int) + 1 + off = (t : Int)) (hc : sCode k pc = some (.lcmp, 1)) (hc2 : sCode k (pc + 1) = some (.ifCond .eq off, 3)) (k1 : x = y → sW (sC d) k Q t L S M G n m) (k2 : x ≠ y → sW (sC d) k Q pc' L S M G n m) : sW (sC d) k Q pc L (vL y :: vL x :: S) M G n m := by
  refine q_step hc ⟨rfl, x, y, S, rfl, ?_⟩
  refine q_ifeq t pc' (by omega) (by omega) hc2 (fun q => k1 ?_) (fun q => k2 ?_) <;> (split at q; omega; split at q <;> omega)
theorem q_lifne {off x y : Int} (t pc' : Nat) (hp : pc + 4 = pc') (ht : (pc : Int) + 1 + off = (t : Int)) (hc : sCode k pc = some (.lcmp, 1)) (hc2 : sCode k (pc + 1) = some (.ifCond .ne off, 3)) (k1 : x ≠ y → sW (sC d) k Q t L S M G n m) (k2 : x = y → sW (sC d) k Q pc' L S M G n m) : sW (sC d) k Q pc L (vL y :: vL x :: S) M G n m := by
  refine q_step hc ⟨rfl, x, y, S, rfl, ?_⟩
  refine q_ifne t pc' (by omega) (by omega) hc2 (fun q => k1 ?_) (fun q => k2 ?_) <;> (split at q; omega; split at q <;> omega)
theorem q_liflt {off x y : Int} (t pc' : Nat) (hp : pc + 4 = pc') (ht : (pc : Int) + 1 + off = (t : Int)) (hc : sCode k pc = some (.lcmp, 1)) (hc2 : sCode k (pc + 1) = some (.ifCond .lt off, 3)) (k1 : x < y → sW (sC d) k Q t L S M G n m) (k2 : y ≤ x → sW (sC d) k Q pc' L S M G n m) : sW (sC d) k Q pc L (vL y :: vL x :: S) M G n m := by
  refine q_step hc ⟨rfl, x, y, S, rfl, ?_⟩
  refine q_iflt t pc' (by omega) (by omega) hc2 (fun q => k1 ?_) (fun q => k2 ?_) <;> (split at q; omega; split at q <;> omega)
theorem q_lifge {off x y : Int} (t pc' : Nat) (hp : pc + 4 = pc') (ht : (pc : Int) + 1 + off = (t : Int)) (hc : sCode k pc = some (.lcmp, 1)) (hc2 : sCode k (pc + 1) = some (.ifCond .ge off, 3)) (k1 : y ≤ x → sW (sC d) k Q t L S M G n m) (k2 : x < y → sW (sC d) k Q pc' L S M G n m) : sW (sC d) k Q pc L (vL y :: vL x :: S) M G n m := by
  refine q_step hc ⟨rfl, x, y, S, rfl, ?_⟩
  refine q_ifge t pc' (by omega) (by omega) hc2 (fun q => k1 ?_) (fun q => k2 ?_) <;> (split at q; omega; split at q <;> omega)
theorem q_lifgt {off x y : Int} (t pc' : Nat) (hp : pc + 4 = pc') (ht : (pc : Int) + 1 + off = (t : Int)) (hc : sCode k pc = some (.lcmp, 1)) (hc2 : sCode k (pc + 1) = some (.ifCond .gt off, 3)) (k1 : y < x → sW (sC d) k Q t L S M G n m) (k2 : x ≤ y → sW (sC d) k Q pc' L S M G n m) : sW (sC d) k Q pc L (vL y :: vL x :: S) M G n m := by
  refine q_step hc ⟨rfl, x, y, S, rfl, ?_⟩
  refine q_ifgt t pc' (by omega) (by omega) hc2 (fun q => k1 ?_) (fun q => k2 ?_) <;> (split at q; omega; split at q <;> omega)
theorem q_lifle {off x y : Int} (t pc' : Nat) (hp : pc + 4 = pc') (ht : (pc : Int) + 1 + off = (t : Int)) (hc : sCode k pc = some (.lcmp, 1)) (hc2 : sCode k (pc + 1) = some (.ifCond .le off, 3)) (k1 : x ≤ y → sW (sC d) k Q t L S M G n m) (k2 : y < x → sW (sC d) k Q pc' L S M G n m) : sW (sC d) k Q pc L (vL y :: vL x :: S) M G n m := by
  refine q_step hc ⟨rfl, x, y, S, rfl, ?_⟩
  refine q_ifle t pc' (by omega) (by omega) hc2 (fun q => k1 ?_) (fun q => k2 ?_) <;> (split at q; omega; split at q <;> omega)
theorem q_ifnull {off : Int} {c a : Nat} (t pc' : Nat) (hp : pc + 3 = pc') (ht : (pc : Int) + off = (t : Int)) (hc : sCode k pc = some (.ifnull off, 3)) (k1 : a = 0 → sW (sC d) k Q t L S M G n m) (k2 : a ≠ 0 → sW (sC d) k Q pc' L S M G n m) : sW (sC d) k Q pc L (vQ c a :: S) M G n m := by
  subst hp
  exact q_step hc ⟨rfl, c, a, S, t, Or.inl rfl, ht, k1, k2⟩
theorem q_ifnonnull {off : Int} {c a : Nat} (t pc' : Nat) (hp : pc + 3 = pc') (ht : (pc : Int) + off = (t : Int)) (hc : sCode k pc = some (.ifnonnull off, 3)) (k1 : a ≠ 0 → sW (sC d) k Q t L S M G n m) (k2 : a = 0 → sW (sC d) k Q pc' L S M G n m) : sW (sC d) k Q pc L (vQ c a :: S) M G n m := by
  subst hp
  exact q_step hc ⟨rfl, c, a, S, t, Or.inl rfl, ht, k1, k2⟩
theorem q_goto {off : Int} (t : Nat) (ht : (pc : Int) + off = (t : Int)) (hc : sCode k pc = some (.goto off, 3)) (kk : sW (sC d) k Q t L S M G n m) : sW (sC d) k Q pc L S M G n m := q_step hc ⟨rfl, t, ht, kk⟩
theorem q_switch {dd lo hi x : Int} {offs : Array Int} {len : Nat} (hc : sCode k pc = some (.tableswitch dd lo hi offs, len)) (k1 : x < lo ∨ hi < x → ∃ t, (pc : Int) + dd = ((t : Nat) : Int) ∧ sW (sC d) k Q t L S M G n m) (k2 : lo ≤ x → x ≤ hi → ∃ off t, offs[(x - lo).toNat]? = some off ∧ (pc : Int) + off = ((t : Nat) : Int) ∧ sW (sC d) k Q t L S M G n m) : sW (sC d) k Q pc L (vI x :: S) M G n m := q_step hc ⟨x, S, rfl, k1, fun h1 h2 => k2 (Int.not_lt.mp h1) (Int.not_lt.mp h2)⟩
theorem q_getI {x c f a : Nat} {v : sV} (pc' : Nat) (hp : pc + 3 = pc') (hc : sCode k pc = some (.getfield x, 3)) (hf : sFR (sKo k).1 x = some (c, f)) (h0 : (sFI c f).2.2.1 = 0) (hv : sObj c a v ∨ ∃ y, v = vT c a y) (kk : sW (sC d) k Q pc' L (vI (M a f) :: S) M G n m) : sW (sC d) k Q pc L (v :: S) M G n m := by
  subst hp
  exact q_step hc ⟨rfl, c, f, a, v, S, hf, rfl, Or.inl ⟨h0, hv, kk⟩⟩
theorem q_getR {x c f a : Nat} {v : sV} (r : sV) (pc' : Nat) (hp : pc + 3 = pc') (hc : sCode k pc = some (.getfield x, 3)) (hf : sFR (sKo k).1 x = some (c, f)) (h0 : (sFI c f).2.2.1 ≠ 0) (hv : sObj c a v ∨ ∃ y : Nat, v = vT c a y ∧ (sFI c f).1 < y) (hr : sRef G a (sFI c f) = r) (kk : sW (sC d) k Q pc' L (r :: S) M G n m) : sW (sC d) k Q pc L (v :: S) M G n m := by
  subst hp
  subst hr
  exact q_step hc ⟨rfl, c, f, a, v, S, hf, rfl, Or.inr ⟨h0, hv, kk⟩⟩
theorem q_putI {x c f a : Nat} {v : sV} {z : Int} (pc' : Nat) (hp : pc + 3 = pc') (hc : sCode k pc = some (.putfield x, 3)) (hf : sFR (sKo k).1 x = some (c, f)) (h0 : (sFI c f).2.2.1 = 0) (hv : (sObj c a v ∧ sFin c f = false) ∨ ∃ y, v = vT c a y ∧ c = (sKo k).1 ∧ sIni k = true) (kk : sW (sC d) k Q pc' L S (sUpd M a f z) G n m) : sW (sC d) k Q pc L (vI z :: v :: S) M G n m := by
  subst hp
  exact q_step hc ⟨rfl, c, f, a, v, vI z, S, hf, rfl, Or.inl ⟨z, h0, rfl, hv, kk⟩⟩
theorem q_iald {a : Nat} {nn i : Int} (pc' : Nat) (hp : pc + 1 = pc') (hc : sCode k pc = some (.iaload, 1)) (h0 : 0 ≤ i ∧ i < nn) (kk : sW (sC d) k Q pc' L (vI (M a i.toNat) :: S) M G n m) : sW (sC d) k Q pc L (vI i :: vA 0 a nn :: S) M G n m := by
  subst hp
  exact q_step hc ⟨rfl, a, nn, i, S, Or.inl rfl, h0.1, h0.2, kk⟩
theorem q_sald {a : Nat} {nn i : Int} (pc' : Nat) (hp : pc + 1 = pc') (hc : sCode k pc = some (.iaload, 1)) (h0 : 0 ≤ i ∧ i < nn) (kk : sW (sC d) k Q pc' L (vI (M a i.toNat) :: S) M G n m) : sW (sC d) k Q pc L (vI i :: vA 4 a nn :: S) M G n m := by
  subst hp
  exact q_step hc ⟨rfl, a, nn, i, S, Or.inr rfl, h0.1, h0.2, kk⟩
theorem q_iast {a : Nat} {nn i x : Int} (pc' : Nat) (hp : pc + 1 = pc') (hc : sCode k pc = some (.iastore, 1)) (h0 : 0 ≤ i ∧ i < nn) (kk : sW (sC d) k Q pc' L S (sUpd M a i.toNat x) G n m) : sW (sC d) k Q pc L (vI x :: vI i :: vA 0 a nn :: S) M G n m := by
  subst hp
  exact q_step hc ⟨rfl, a, nn, i, x, S, rfl, h0.1, h0.2, kk⟩
theorem q_lald {a : Nat} {nn i : Int} (pc' : Nat) (hp : pc + 1 = pc') (hc : sCode k pc = some (.laload, 1)) (h0 : 0 ≤ i ∧ i < nn) (kk : sW (sC d) k Q pc' L (vL (M a i.toNat) :: S) M G n m) : sW (sC d) k Q pc L (vI i :: vA 1 a nn :: S) M G n m := by
  subst hp
  exact q_step hc ⟨rfl, a, nn, i, S, rfl, h0.1, h0.2, kk⟩
theorem q_last {a : Nat} {nn i x : Int} (pc' : Nat) (hp : pc + 1 = pc') (hc : sCode k pc = some (.lastore, 1)) (h0 : 0 ≤ i ∧ i < nn) (kk : sW (sC d) k Q pc' L S (sUpd M a i.toNat x) G n m) : sW (sC d) k Q pc L (vL x :: vI i :: vA 1 a nn :: S) M G n m := by
  subst hp
  exact q_step hc ⟨rfl, a, nn, i, x, S, rfl, h0.1, h0.2, kk⟩
theorem q_bald {a : Nat} {nn i : Int} (pc' : Nat) (hp : pc + 1 = pc') (hc : sCode k pc = some (.baload, 1)) (h0 : 0 ≤ i ∧ i < nn) (kk : sW (sC d) k Q pc' L (vI (M a i.toNat) :: S) M G n m) : sW (sC d) k Q pc L (vI i :: vA 2 a nn :: S) M G n m := by
  subst hp
  exact q_step hc ⟨rfl, a, nn, i, S, Or.inl rfl, h0.1, h0.2, kk⟩
theorem q_zald {a : Nat} {nn i : Int} (pc' : Nat) (hp : pc + 1 = pc') (hc : sCode k pc = some (.baload, 1)) (h0 : 0 ≤ i ∧ i < nn) (kk : sW (sC d) k Q pc' L (vI (M a i.toNat) :: S) M G n m) : sW (sC d) k Q pc L (vI i :: vA 3 a nn :: S) M G n m := by
  subst hp
  exact q_step hc ⟨rfl, a, nn, i, S, Or.inr rfl, h0.1, h0.2, kk⟩
theorem q_bast {a : Nat} {nn i x : Int} (pc' : Nat) (hp : pc + 1 = pc') (hc : sCode k pc = some (.bastore, 1)) (h0 : 0 ≤ i ∧ i < nn) (kk : sW (sC d) k Q pc' L S (sUpd M a i.toNat (iByte x)) G n m) : sW (sC d) k Q pc L (vI x :: vI i :: vA 2 a nn :: S) M G n m := by
  subst hp
  exact q_step hc ⟨rfl, a, nn, i, x, S, h0.1, h0.2, Or.inl ⟨rfl, kk⟩⟩
theorem q_zast {a : Nat} {nn i x : Int} (pc' : Nat) (hp : pc + 1 = pc') (hc : sCode k pc = some (.bastore, 1)) (h0 : 0 ≤ i ∧ i < nn) (h01 : x = 0 ∨ x = 1) (kk : sW (sC d) k Q pc' L S (sUpd M a i.toNat x) G n m) : sW (sC d) k Q pc L (vI x :: vI i :: vA 3 a nn :: S) M G n m := by
  subst hp
  exact q_step hc ⟨rfl, a, nn, i, x, S, h0.1, h0.2, Or.inr ⟨rfl, h01, kk⟩⟩
theorem q_aald {c a : Nat} {nn i : Int} (pc' : Nat) (hp : pc + 1 = pc') (hc : sCode k pc = some (.aaload, 1)) (h0 : 0 ≤ i ∧ i < nn) (kk : sW (sC d) k Q pc' L (vQ c (M a i.toNat).toNat :: S) M G n m) : sW (sC d) k Q pc L (vI i :: vB c a nn :: S) M G n m := by
  subst hp
  exact q_step hc ⟨rfl, c, a, nn, i, S, rfl, h0.1, h0.2, kk⟩
theorem q_aast {c a b : Nat} {nn i : Int} {v : sV} (pc' : Nat) (hp : pc + 1 = pc') (hc : sCode k pc = some (.aastore, 1)) (h0 : 0 ≤ i ∧ i < nn) (hv : v = vO c b ∨ v = vQ c b) (hb : b ≠ 0) (kk : sW (sC d) k Q pc' L S (sUpd M a i.toNat (b : Int)) G n m) : sW (sC d) k Q pc L (v :: vI i :: vB c a nn :: S) M G n m := by
  subst hp
  exact q_step hc ⟨rfl, c, a, nn, i, b, v, S, rfl, hv, hb, h0.1, h0.2, kk⟩
theorem q_alen {t a : Nat} {nn : Int} (pc' : Nat) (hp : pc + 1 = pc') (hc : sCode k pc = some (.arraylength, 1)) (ht : t < 5) (hn : nn ≤ 2147483647) (kk : sW (sC d) k Q pc' L (vI nn :: S) M G n m) : sW (sC d) k Q pc L (vA t a nn :: S) M G n m := by
  subst hp
  exact q_step hc ⟨rfl, t, a, nn, S, rfl, ht, hn, kk⟩
theorem q_static {x k' : Nat} (A : List sV) {S0 : List sV} (hc : sCode k pc = some (.invokestatic x, 3)) (hm : sMR (sKo k).1 x = some k') (hk : k' < 1000) (hs : sStat k' = true) (hS : S0 = A.reverse ++ S) (hl : A.length = (sKo k').2.1) (hcat : sCats S ≤ 8) (n1 : sNoF L = true) (n2 : sNoF S = true) (n3 : sArg A = true) (hb : n + (sKo k').2.2.2.1 ≤ (sKo k).2.2.2.1 ∧ m + (sKo k').2.2.2.2 ≤ (sKo k).2.2.2.2)
    (kk : sC d k' A M G (fun r M' G' => sW (sC d) k Q (pc + 3) L (r.toList ++ S) M' G' (n + (sKo k').2.2.2.1) (m + (sKo k').2.2.2.2))) : sW (sC d) k Q pc L S0 M G n m := by
  subst hS
  exact q_step hc ⟨rfl, k', hm, Or.inl ⟨A, S, hk, hs, rfl, hl, hcat, n1, n2, n3, hb, kk⟩⟩
theorem q_virtual {x k' c a : Nat} {v : sV} (A : List sV) {S0 : List sV} (hc : sCode k pc = some (.invokevirtual x, 3)) (hm : sMR (sKo k).1 x = some k') (hk : k' < 1000) (hs : sStat k' = false) (hi : sIni k' = false) (ho : (sKo k').1 = c) (hS : S0 = A.reverse ++ v :: S) (hv : sObj c a v) (hl : A.length = (sKo k').2.1) (hcat : sCats S ≤ 8) (n1 : sNoF L = true) (n2 : sNoF S = true) (n3 : sArg A = true) (hb : n + (sKo k').2.2.2.1 ≤ (sKo k).2.2.2.1 ∧ m + (sKo k').2.2.2.2 ≤ (sKo k).2.2.2.2)
    (kk : sC d k' (vO c a :: A) M G (fun r M' G' => sW (sC d) k Q (pc + 3) L (r.toList ++ S) M' G' (n + (sKo k').2.2.2.1) (m + (sKo k').2.2.2.2))) : sW (sC d) k Q pc L S0 M G n m := by
  subst hS
  exact q_step hc ⟨rfl, k', hm, Or.inl ⟨A, v, c, a, S, hk, hs, hi, ho, rfl, hv, hl, hcat, n1, n2, n3, hb, kk⟩⟩
theorem q_max {x : Nat} {u v : Int} (pc' : Nat) (hp : pc + 3 = pc') (hc : sCode k pc = some (.invokestatic x, 3)) (hm : sMR (sKo k).1 x = some 1001) (hcat : sCats S ≤ 8) (kk : sW (sC d) k Q pc' L (vI (if u < v then v else u) :: S) M G n m) : sW (sC d) k Q pc L (vI v :: vI u :: S) M G n m := by
  subst hp
  exact q_step hc ⟨rfl, 1001, hm, Or.inr (Or.inl ⟨u, v, S, rfl, hcat, Or.inl ⟨rfl, kk⟩⟩)⟩
theorem q_min {x : Nat} {u v : Int} (pc' : Nat) (hp : pc + 3 = pc') (hc : sCode k pc = some (.invokestatic x, 3)) (hm : sMR (sKo k).1 x = some 1002) (hcat : sCats S ≤ 8) (kk : sW (sC d) k Q pc' L (vI (if v < u then v else u) :: S) M G n m) : sW (sC d) k Q pc L (vI v :: vI u :: S) M G n m := by
  subst hp
  exact q_step hc ⟨rfl, 1002, hm, Or.inr (Or.inl ⟨u, v, S, rfl, hcat, Or.inr ⟨rfl, kk⟩⟩)⟩
theorem q_copy {x a1 a0 : Nat} {z dp n1 sp n0 : Int} (pc' : Nat) (hp : pc + 3 = pc') (hc : sCode k pc = some (.invokestatic x, 3)) (hm : sMR (sKo k).1 x = some 1003) (hcat : sCats S ≤ 8) (hb : 0 ≤ z ∧ 0 ≤ dp ∧ 0 ≤ sp ∧ dp + z ≤ n1 ∧ sp + z ≤ n0) (kk : sW (sC d) k Q pc' L S (sCpy M a0 sp.toNat a1 dp.toNat z.toNat) G n m) : sW (sC d) k Q pc L (vI z :: vI dp :: vA 0 a1 n1 :: vI sp :: vA 0 a0 n0 :: S) M G n m := by
  subst hp
  exact q_step hc ⟨rfl, 1003, hm, Or.inr (Or.inr ⟨z, dp, a1, n1, sp, a0, n0, S, rfl, rfl, hcat, hb.1, hb.2.1, hb.2.2.1, hb.2.2.2.1, hb.2.2.2.2, kk⟩)⟩
theorem q_slen {x j : Nat} (pc' : Nat) (hp : pc + 3 = pc') (hc : sCode k pc = some (.invokevirtual x, 3)) (hm : sMR (sKo k).1 x = some 1004) (hj : j < 21) (hcat : sCats S ≤ 8) (kk : sW (sC d) k Q pc' L (vI (sLen j) :: S) M G n m) : sW (sC d) k Q pc L (vS j :: S) M G n m := by
  subst hp
  exact q_step hc ⟨rfl, 1004, hm, Or.inr (Or.inl ⟨j, S, rfl, rfl, hj, hcat, kk⟩)⟩
theorem q_chr {x j : Nat} {i : Int} (pc' : Nat) (hp : pc + 3 = pc') (hc : sCode k pc = some (.invokevirtual x, 3)) (hm : sMR (sKo k).1 x = some 1005) (hj : j < 21) (h0 : 0 ≤ i ∧ i < sLen j) (hcat : sCats S ≤ 8) (kk : sW (sC d) k Q pc' L (vI (sChr j i.toNat) :: S) M G n m) : sW (sC d) k Q pc L (vI i :: vS j :: S) M G n m := by
  subst hp
  exact q_step hc ⟨rfl, 1005, hm, Or.inr (Or.inr (Or.inl ⟨j, i, S, rfl, rfl, hj, h0.1, h0.2, hcat, kk⟩))⟩
theorem q_iret {P : Int → sM → sG → Prop} {x : Int} (hc : sCode k pc = some (.ireturn, 1)) (hk : (sKo k).2.2.1 = 1) (hb : n ≤ (sKo k).2.2.2.1 ∧ m ≤ (sKo k).2.2.2.2) (h : P x M G) : sW (sC d) k (QI P) pc L [vI x] M G n m := q_step hc ⟨rfl, x, rfl, Or.inl hk, hb.1, hb.2, x, rfl, h⟩
theorem q_zret {P : Int → sM → sG → Prop} {x : Int} (hc : sCode k pc = some (.ireturn, 1)) (hk : (sKo k).2.2.1 = 2) (h01 : x = 0 ∨ x = 1) (hb : n ≤ (sKo k).2.2.2.1 ∧ m ≤ (sKo k).2.2.2.2) (h : P x M G) : sW (sC d) k (QI P) pc L [vI x] M G n m := q_step hc ⟨rfl, x, rfl, Or.inr ⟨hk, h01⟩, hb.1, hb.2, x, rfl, h⟩
theorem q_lret {P : Int → sM → sG → Prop} {x : Int} (hc : sCode k pc = some (.lreturn, 1)) (hk : (sKo k).2.2.1 = 3) (hb : n ≤ (sKo k).2.2.2.1 ∧ m ≤ (sKo k).2.2.2.2) (h : P x M G) : sW (sC d) k (QL P) pc L [vL x] M G n m := q_step hc ⟨rfl, x, rfl, hk, hb.1, hb.2, x, rfl, h⟩
theorem q_aret {P : sV → sM → sG → Prop} {v : sV} (hc : sCode k pc = some (.areturn, 1)) (hk : (sKo k).2.2.1 = 4) (h3 : 3 ≤ v.1) (h6 : v.1 < 60 ∨ 100 ≤ v.1) (hb : n ≤ (sKo k).2.2.2.1 ∧ m ≤ (sKo k).2.2.2.2) (h : P v M G) : sW (sC d) k (QR P) pc L [v] M G n m := q_step hc ⟨rfl, v, v, ⟨rfl, Or.inl rfl⟩, hk, h3, h6, hb.1, hb.2, v, rfl, h⟩
theorem q_oret {P : sV → sM → sG → Prop} {c a : Nat} (hc : sCode k pc = some (.areturn, 1)) (hk : (sKo k).2.2.1 = 4) (h13 : c < 13) (hb : n ≤ (sKo k).2.2.2.1 ∧ m ≤ (sKo k).2.2.2.2) (h : P (vQ c a) M G) : sW (sC d) k (QR P) pc L [vO c a] M G n m := q_step hc ⟨rfl, vO c a, vQ c a, ⟨rfl, Or.inr ⟨c, a, h13, rfl, rfl⟩⟩, hk, by simp only [vO]; omega, by simp only [vO]; omega, hb.1, hb.2, vQ c a, rfl, h⟩
theorem q_vret {P : sM → sG → Prop} (hc : sCode k pc = some (.return_, 1)) (hk : (sKo k).2.2.1 = 0) (hb : n ≤ (sKo k).2.2.2.1 ∧ m ≤ (sKo k).2.2.2.2) (h : P M G) : sW (sC d) k (QV P) pc L [] M G n m := q_step hc ⟨rfl, rfl, hk, hb.1, hb.2, rfl, h⟩
theorem q_forget {L' : List sV} (i : Nat) (hL : L.set i vN = L') (kk : sW (sC d) k Q pc L' S M G n m) : sW (sC d) k Q pc L S M G n m := sW_forget i (hL ▸ kk)
theorem q_virtI {x k' c a na rk mc ms n' m' : Nat} {v : sV} (A : List sV) {S0 : List sV} (pc' : Nat) (hp : pc + 3 = pc') (hc : sCode k pc = some (.invokevirtual x, 3)) (hm : sMR (sKo k).1 x = some k') (hf : k' < 1000 ∧ sStat k' = false ∧ sIni k' = false ∧ sKo k' = (c, na, rk, mc, ms)) (hS : S0 = A.reverse ++ v :: S) (hv : sObj c a v) (hl : A.length = na) (hcat : sCats S ≤ 8) (n1 : sNoF L = true) (n2 : sNoF S = true) (n3 : sArg A = true) (hb : n + mc = n' ∧ m + ms = m' ∧ n' ≤ (sKo k).2.2.2.1 ∧ m' ≤ (sKo k).2.2.2.2)
    (kk : sC d k' (vO c a :: A) M G (QI (fun y M' G' => sW (sC d) k Q pc' L (vI y :: S) M' G' n' m'))) : sW (sC d) k Q pc L S0 M G n m := by
  subst hp
  obtain ⟨f1, f2, f3, f4⟩ := hf
  obtain ⟨rfl, rfl, b3, b4⟩ := hb
  refine q_virtual A hc hm f1 f2 f3 (by rw [f4]) hS hv (by rw [f4]; exact hl) hcat n1 n2 n3 (by rw [f4]; exact ⟨b3, b4⟩) ?_
  rw [f4]
  exact sC_mono d _ _ _ _ _ _ (fun r M' G' ⟨y, hr, h⟩ => by subst hr; exact h) kk
theorem q_statI {x k' own na rk mc ms n' m' : Nat} (A : List sV) {S0 : List sV} (pc' : Nat) (hp : pc + 3 = pc') (hc : sCode k pc = some (.invokestatic x, 3)) (hm : sMR (sKo k).1 x = some k') (hf : k' < 1000 ∧ sStat k' = true ∧ sKo k' = (own, na, rk, mc, ms)) (hS : S0 = A.reverse ++ S) (hl : A.length = na) (hcat : sCats S ≤ 8) (n1 : sNoF L = true) (n2 : sNoF S = true) (n3 : sArg A = true) (hb : n + mc = n' ∧ m + ms = m' ∧ n' ≤ (sKo k).2.2.2.1 ∧ m' ≤ (sKo k).2.2.2.2)
    (kk : sC d k' A M G (QI (fun y M' G' => sW (sC d) k Q pc' L (vI y :: S) M' G' n' m'))) : sW (sC d) k Q pc L S0 M G n m := by
  subst hp
  obtain ⟨f1, f2, f4⟩ := hf
  obtain ⟨rfl, rfl, b3, b4⟩ := hb
  refine q_static A hc hm f1 f2 hS (by rw [f4]; exact hl) hcat n1 n2 n3 (by rw [f4]; exact ⟨b3, b4⟩) ?_
  rw [f4]
  exact sC_mono d _ _ _ _ _ _ (fun r M' G' ⟨y, hr, h⟩ => by subst hr; exact h) kk
theorem q_virtL {x k' c a na rk mc ms n' m' : Nat} {v : sV} (A : List sV) {S0 : List sV} (pc' : Nat) (hp : pc + 3 = pc') (hc : sCode k pc = some (.invokevirtual x, 3)) (hm : sMR (sKo k).1 x = some k') (hf : k' < 1000 ∧ sStat k' = false ∧ sIni k' = false ∧ sKo k' = (c, na, rk, mc, ms)) (hS : S0 = A.reverse ++ v :: S) (hv : sObj c a v) (hl : A.length = na) (hcat : sCats S ≤ 8) (n1 : sNoF L = true) (n2 : sNoF S = true) (n3 : sArg A = true) (hb : n + mc = n' ∧ m + ms = m' ∧ n' ≤ (sKo k).2.2.2.1 ∧ m' ≤ (sKo k).2.2.2.2)
    (kk : sC d k' (vO c a :: A) M G (QL (fun y M' G' => sW (sC d) k Q pc' L (vL y :: S) M' G' n' m'))) : sW (sC d) k Q pc L S0 M G n m := by
  subst hp
  obtain ⟨f1, f2, f3, f4⟩ := hf
  obtain ⟨rfl, rfl, b3, b4⟩ := hb
  refine q_virtual A hc hm f1 f2 f3 (by rw [f4]) hS hv (by rw [f4]; exact hl) hcat n1 n2 n3 (by rw [f4]; exact ⟨b3, b4⟩) ?_
  rw [f4]
  exact sC_mono d _ _ _ _ _ _ (fun r M' G' ⟨y, hr, h⟩ => by subst hr; exact h) kk
theorem q_statL {x k' own na rk mc ms n' m' : Nat} (A : List sV) {S0 : List sV} (pc' : Nat) (hp : pc + 3 = pc') (hc : sCode k pc = some (.invokestatic x, 3)) (hm : sMR (sKo k).1 x = some k') (hf : k' < 1000 ∧ sStat k' = true ∧ sKo k' = (own, na, rk, mc, ms)) (hS : S0 = A.reverse ++ S) (hl : A.length = na) (hcat : sCats S ≤ 8) (n1 : sNoF L = true) (n2 : sNoF S = true) (n3 : sArg A = true) (hb : n + mc = n' ∧ m + ms = m' ∧ n' ≤ (sKo k).2.2.2.1 ∧ m' ≤ (sKo k).2.2.2.2)
    (kk : sC d k' A M G (QL (fun y M' G' => sW (sC d) k Q pc' L (vL y :: S) M' G' n' m'))) : sW (sC d) k Q pc L S0 M G n m := by
  subst hp
  obtain ⟨f1, f2, f4⟩ := hf
  obtain ⟨rfl, rfl, b3, b4⟩ := hb
  refine q_static A hc hm f1 f2 hS (by rw [f4]; exact hl) hcat n1 n2 n3 (by rw [f4]; exact ⟨b3, b4⟩) ?_
  rw [f4]
  exact sC_mono d _ _ _ _ _ _ (fun r M' G' ⟨y, hr, h⟩ => by subst hr; exact h) kk
theorem q_virtR {x k' c a na rk mc ms n' m' : Nat} {v : sV} (A : List sV) {S0 : List sV} (pc' : Nat) (hp : pc + 3 = pc') (hc : sCode k pc = some (.invokevirtual x, 3)) (hm : sMR (sKo k).1 x = some k') (hf : k' < 1000 ∧ sStat k' = false ∧ sIni k' = false ∧ sKo k' = (c, na, rk, mc, ms)) (hS : S0 = A.reverse ++ v :: S) (hv : sObj c a v) (hl : A.length = na) (hcat : sCats S ≤ 8) (n1 : sNoF L = true) (n2 : sNoF S = true) (n3 : sArg A = true) (hb : n + mc = n' ∧ m + ms = m' ∧ n' ≤ (sKo k).2.2.2.1 ∧ m' ≤ (sKo k).2.2.2.2)
    (kk : sC d k' (vO c a :: A) M G (QR (fun y M' G' => sW (sC d) k Q pc' L (y :: S) M' G' n' m'))) : sW (sC d) k Q pc L S0 M G n m := by
  subst hp
  obtain ⟨f1, f2, f3, f4⟩ := hf
  obtain ⟨rfl, rfl, b3, b4⟩ := hb
  refine q_virtual A hc hm f1 f2 f3 (by rw [f4]) hS hv (by rw [f4]; exact hl) hcat n1 n2 n3 (by rw [f4]; exact ⟨b3, b4⟩) ?_
  rw [f4]
  exact sC_mono d _ _ _ _ _ _ (fun r M' G' ⟨y, hr, h⟩ => by subst hr; exact h) kk
theorem q_statR {x k' own na rk mc ms n' m' : Nat} (A : List sV) {S0 : List sV} (pc' : Nat) (hp : pc + 3 = pc') (hc : sCode k pc = some (.invokestatic x, 3)) (hm : sMR (sKo k).1 x = some k') (hf : k' < 1000 ∧ sStat k' = true ∧ sKo k' = (own, na, rk, mc, ms)) (hS : S0 = A.reverse ++ S) (hl : A.length = na) (hcat : sCats S ≤ 8) (n1 : sNoF L = true) (n2 : sNoF S = true) (n3 : sArg A = true) (hb : n + mc = n' ∧ m + ms = m' ∧ n' ≤ (sKo k).2.2.2.1 ∧ m' ≤ (sKo k).2.2.2.2)
    (kk : sC d k' A M G (QR (fun y M' G' => sW (sC d) k Q pc' L (y :: S) M' G' n' m'))) : sW (sC d) k Q pc L S0 M G n m := by
  subst hp
  obtain ⟨f1, f2, f4⟩ := hf
  obtain ⟨rfl, rfl, b3, b4⟩ := hb
  refine q_static A hc hm f1 f2 hS (by rw [f4]; exact hl) hcat n1 n2 n3 (by rw [f4]; exact ⟨b3, b4⟩) ?_
  rw [f4]
  exact sC_mono d _ _ _ _ _ _ (fun r M' G' ⟨y, hr, h⟩ => by subst hr; exact h) kk
theorem q_virtV {x k' c a na rk mc ms n' m' : Nat} {v : sV} (A : List sV) {S0 : List sV} (pc' : Nat) (hp : pc + 3 = pc') (hc : sCode k pc = some (.invokevirtual x, 3)) (hm : sMR (sKo k).1 x = some k') (hf : k' < 1000 ∧ sStat k' = false ∧ sIni k' = false ∧ sKo k' = (c, na, rk, mc, ms)) (hS : S0 = A.reverse ++ v :: S) (hv : sObj c a v) (hl : A.length = na) (hcat : sCats S ≤ 8) (n1 : sNoF L = true) (n2 : sNoF S = true) (n3 : sArg A = true) (hb : n + mc = n' ∧ m + ms = m' ∧ n' ≤ (sKo k).2.2.2.1 ∧ m' ≤ (sKo k).2.2.2.2)
    (kk : sC d k' (vO c a :: A) M G (QV (fun M' G' => sW (sC d) k Q pc' L S M' G' n' m'))) : sW (sC d) k Q pc L S0 M G n m := by
  subst hp
  obtain ⟨f1, f2, f3, f4⟩ := hf
  obtain ⟨rfl, rfl, b3, b4⟩ := hb
  refine q_virtual A hc hm f1 f2 f3 (by rw [f4]) hS hv (by rw [f4]; exact hl) hcat n1 n2 n3 (by rw [f4]; exact ⟨b3, b4⟩) ?_
  rw [f4]
  exact sC_mono d _ _ _ _ _ _ (fun r M' G' ⟨hr, h⟩ => by subst hr; exact h) kk
theorem q_statV {x k' own na rk mc ms n' m' : Nat} (A : List sV) {S0 : List sV} (pc' : Nat) (hp : pc + 3 = pc') (hc : sCode k pc = some (.invokestatic x, 3)) (hm : sMR (sKo k).1 x = some k') (hf : k' < 1000 ∧ sStat k' = true ∧ sKo k' = (own, na, rk, mc, ms)) (hS : S0 = A.reverse ++ S) (hl : A.length = na) (hcat : sCats S ≤ 8) (n1 : sNoF L = true) (n2 : sNoF S = true) (n3 : sArg A = true) (hb : n + mc = n' ∧ m + ms = m' ∧ n' ≤ (sKo k).2.2.2.1 ∧ m' ≤ (sKo k).2.2.2.2)
    (kk : sC d k' A M G (QV (fun M' G' => sW (sC d) k Q pc' L S M' G' n' m'))) : sW (sC d) k Q pc L S0 M G n m := by
  subst hp
  obtain ⟨f1, f2, f4⟩ := hf
  obtain ⟨rfl, rfl, b3, b4⟩ := hb
  refine q_static A hc hm f1 f2 hS (by rw [f4]; exact hl) hcat n1 n2 n3 (by rw [f4]; exact ⟨b3, b4⟩) ?_
  rw [f4]
  exact sC_mono d _ _ _ _ _ _ (fun r M' G' ⟨hr, h⟩ => by subst hr; exact h) kk
theorem sC_in {A L : List sV} (hl : (sEnt1 A).length ≤ sMaxL k) (hL : sEnt (sMaxL k) A = L) (h : sW (sC d) k Q 0 L [] M G 0 0) : sC (d + 1) k A M G Q := ⟨hl, by rw [hL]; exact h⟩
end Rules
