/-! THE SMALL MACHINE: values (kind, address, number), memory by address and place, what lies at an address. -/
abbrev sV : Type := Nat × Nat × Int
abbrev sM : Type := Nat → Nat → Int
abbrev sG : Type := Nat → Nat × Nat × Nat
abbrev vI (x : Int) : sV := (0, 0, x)
abbrev vL (x : Int) : sV := (1, 0, x)
abbrev vN : sV := (2, 0, 0)
abbrev vS (j : Nat) : sV := (3, j, 0)
/-- an array: 0 int, 1 long, 2 byte, 3 boolean, 4 the script -/
abbrev vA (t a : Nat) (n : Int) : sV := (4 + t, a, n)
abbrev vO (c a : Nat) : sV := (20 + c, a, 0)
/-- an object, or null (address 0) -/
abbrev vQ (c a : Nat) : sV := (40 + c, a, 0)
/-- an object that was made, and whose constructor has not run -/
abbrev vF (c a : Nat) : sV := (60 + c, a, 0)
/-- this, in a constructor: so many of its final references are set -/
abbrev vT (c a : Nat) (y : Int) : sV := (80 + c, a, y)
abbrev vB (c a : Nat) (n : Int) : sV := (100 + c, a, n)
def sCat (v : sV) : Nat := if v.1 = 1 then 2 else 1
def sCats : List sV → Nat
  | [] => 0
  | v :: l => sCat v + sCats l
def sI (x : Int) : Prop := -2147483648 ≤ x ∧ x ≤ 2147483647
def sJ (x : Int) : Prop := -9223372036854775808 ≤ x ∧ x ≤ 9223372036854775807
def oI (f : Int32 → Int32 → Int32) (x y : Int) : Int := (f (Int32.ofInt x) (Int32.ofInt y)).toInt
def oJ (f : Int64 → Int64 → Int64) (x y : Int) : Int := (f (Int64.ofInt x) (Int64.ofInt y)).toInt
def sUpd (M : sM) (a i : Nat) (x : Int) : sM := fun a' i' => if a' = a ∧ i' = i then x else M a' i'
def sClr (M : sM) (a : Nat) : sM := fun a' i' => if a' = a then 0 else M a' i'
def sDup (M : sM) (a b : Nat) : sM := fun a' i' => if a' = b then M a i' else M a' i'
def sCpy (M : sM) (a0 sp a1 dp n : Nat) : sM := fun a i => if a = a1 ∧ dp ≤ i ∧ i < dp + n then M a0 (sp + (i - dp)) else M a i
def sGs (G : sG) (a : Nat) (q : Nat × Nat × Nat) : sG := fun a' => if a' = a then q else G a'
def sFR (o i : Nat) : Option (Nat × Nat) := (sFldL.find? (fun e => e.1 == o && e.2.1 == i)).map (fun e => e.2.2)
def sMR (o i : Nat) : Option Nat := (sMthL.find? (fun e => e.1 == o && e.2.1 == i)).map (fun e => e.2.2)
def sCR (o i : Nat) : Option Nat := (sClkL.find? (fun e => e.1 == o && e.2.1 == i)).map (fun e => e.2.2)
def sIR (o i : Nat) : Option Int := (sCiL.find? (fun e => e.1 == o && e.2.1 == i)).map (fun e => e.2.2)
def sLR (o i : Nat) : Option Int := (sClgL.find? (fun e => e.1 == o && e.2.1 == i)).map (fun e => e.2.2)
def sSR (o i : Nat) : Option Nat := (sStrL.find? (fun e => e.1 == o && e.2.1 == i)).map (fun e => e.2.2)
def sFI (c k : Nat) : Nat × Nat × Nat × Int := (sFIL.getD c []).getD k (0, 0, 0, 0)
def sFul (c : Nat) : Nat := sFulL.getD c 0
def sFin (c k : Nat) : Bool := ((sCl[c]?).map (fun e => (e.2.1 k).2.2.2)).getD true
def sNF (c : Nat) : Nat := ((sCl[c]?).map (fun e => e.2.2)).getD 0
def sKo (k : Nat) : Nat × Nat × Nat × Nat × Nat := sKL.getD k (99, 0, 0, 0, 0)
def sBy (k : Nat) : ByteArray := ((sYL[k]?).map (fun e => e.2.1)).getD ⟨#[]⟩
def sMaxL (k : Nat) : Nat := ((sYL[k]?).map (fun e => e.2.2.1)).getD 0
def sStat (k : Nat) : Bool := ((sYL[k]?).map (fun e => e.2.2.2.2)).getD false
def sIni (k : Nat) : Bool := ((sYL[k]?).map (fun e => e.1.name == "<init>")).getD false
def sCode (k pc : Nat) : Option (Instr × Nat) := match decode (sBy k) pc with
  | .ok x => some x
  | .error _ => none
def sLen (j : Nat) : Nat := (sByt.getD j []).length
def sChr (j i : Nat) : Int := (((sByt.getD j []).getD i 0 : Nat) : Int)
def sPrev (L : List sV) (i : Nat) : Bool := (i == 0) || ((L.getD (i - 1) vN).1 != 1)
def sCmp (c : Jvm.ClassFile.Cond) (x y : Int) : Prop := match c with
  | .eq => x = y
  | .ne => x ≠ y
  | .lt => x < y
  | .ge => y ≤ x
  | .gt => y < x
  | .le => x ≤ y
/-- a finished object c at a: as such, tested against null, or this, when all is set -/
def sObj (c a : Nat) (v : sV) : Prop := v = vO c a ∨ (v = vQ c a ∧ a ≠ 0) ∨ v = vT c a (sFul c : Int)
def sEnt1 : List sV → List sV
  | [] => []
  | v :: l => if v.1 = 1 then v :: vN :: sEnt1 l else v :: sEnt1 l
def sEnt (n : Nat) (A : List sV) : List sV := sEnt1 A ++ List.replicate (n - (sEnt1 A).length) vN
def sAt : Jvm.ClassFile.ArrayType → Nat
  | .int => 0
  | .long => 1
  | .byte => 2
  | .boolean => 3
  | _ => 99
def sNoF (L : List sV) : Bool := L.all (fun w => decide (w.1 < 60) || decide (80 ≤ w.1))
def sArg (L : List sV) : Bool := L.all (fun w => decide (w.1 ≠ 2) && (decide (w.1 < 60) || decide (100 ≤ w.1)))
abbrev sCall : Type := Nat → List sV → sM → sG → (Option sV → sM → sG → Prop) → Prop
abbrev sKont : Type := Nat → List sV → List sV → sM → sG → Nat → Nat → Prop
/-- the value of a final reference -/
def sRef (G : sG) (a : Nat) (q : Nat × Nat × Nat × Int) : sV := (q.2.2.1, a + q.2.1, if q.2.2.2 < 0 then ((G (a + q.2.1)).2.1 : Int) else q.2.2.2)
/-- what an instruction asks of what comes behind it -/
def sStep (kk : Nat) (call : sCall) (ret : Option sV → sM → sG → Nat → Nat → Prop) (K : sKont) (i : Instr) (len pc : Nat) (L S : List sV) (M : sM) (G : sG) (n m : Nat) : Prop := match i with
  | .iconst x => len = 1 ∧ sI x ∧ K (pc + 1) L (vI x :: S) M G n m
  | .bipush x => len = 2 ∧ sI x ∧ (Int8.ofInt x).toInt32 = Int32.ofInt x ∧ K (pc + 2) L (vI x :: S) M G n m
  | .sipush x => len = 3 ∧ sI x ∧ (Int16.ofInt x).toInt32 = Int32.ofInt x ∧ K (pc + 3) L (vI x :: S) M G n m
  | .ldc x => len = 2 ∧ ((∃ v, sIR (sKo kk).1 x = some v ∧ sI v ∧ K (pc + 2) L (vI v :: S) M G n m) ∨ ∃ j, sSR (sKo kk).1 x = some j ∧ K (pc + 2) L (vS j :: S) M G n m)
  | .ldc_w x => len = 3 ∧ ∃ v, sIR (sKo kk).1 x = some v ∧ sI v ∧ K (pc + 3) L (vI v :: S) M G n m
  | .ldc2_w x => len = 3 ∧ ∃ v, sLR (sKo kk).1 x = some v ∧ sJ v ∧ K (pc + 3) L (vL v :: S) M G n m
  | .lconst x => len = 1 ∧ K (pc + 1) L (vL (((x : Fin 2) : Nat) : Int) :: S) M G n m
  | .aconst_null => len = 1 ∧ ∃ c, c < 13 ∧ K (pc + 1) L (vQ c 0 :: S) M G n m
  | .iload x => len = 2 ∧ ∃ v, L[x]? = some (vI v) ∧ K (pc + 2) L (vI v :: S) M G n m
  | .iload_n x => len = 1 ∧ ∃ v, L[((x : Fin 4) : Nat)]? = some (vI v) ∧ K (pc + 1) L (vI v :: S) M G n m
  | .lload x => len = 2 ∧ ∃ v, L[x]? = some (vL v) ∧ K (pc + 2) L (vL v :: S) M G n m
  | .lload_n x => len = 1 ∧ ∃ v, L[((x : Fin 4) : Nat)]? = some (vL v) ∧ K (pc + 1) L (vL v :: S) M G n m
  | .aload x => len = 2 ∧ ∃ v, L[x]? = some v ∧ 3 ≤ v.1 ∧ K (pc + 2) L (v :: S) M G n m
  | .aload_n x => len = 1 ∧ ∃ v, L[((x : Fin 4) : Nat)]? = some v ∧ 3 ≤ v.1 ∧ K (pc + 1) L (v :: S) M G n m
  | .istore x => len = 2 ∧ ∃ v S', S = vI v :: S' ∧ x < L.length ∧ sPrev L x = true ∧ K (pc + 2) (L.set x (vI v)) S' M G n m
  | .istore_n x => len = 1 ∧ ∃ v S', S = vI v :: S' ∧ ((x : Fin 4) : Nat) < L.length ∧ sPrev L ((x : Fin 4) : Nat) = true ∧ K (pc + 1) (L.set ((x : Fin 4) : Nat) (vI v)) S' M G n m
  | .lstore x => len = 2 ∧ ∃ v S', S = vL v :: S' ∧ x + 1 < L.length ∧ sPrev L x = true ∧ K (pc + 2) ((L.set x (vL v)).set (x + 1) vN) S' M G n m
  | .lstore_n x => len = 1 ∧ ∃ v S', S = vL v :: S' ∧ ((x : Fin 4) : Nat) + 1 < L.length ∧ sPrev L ((x : Fin 4) : Nat) = true ∧ K (pc + 1) ((L.set ((x : Fin 4) : Nat) (vL v)).set (((x : Fin 4) : Nat) + 1) vN) S' M G n m
  | .astore x => len = 2 ∧ ∃ v S', S = v :: S' ∧ (3 ≤ v.1 ∧ (v.1 < 80 ∨ 100 ≤ v.1)) ∧ x < L.length ∧ sPrev L x = true ∧ K (pc + 2) (L.set x v) S' M G n m
  | .astore_n x => len = 1 ∧ ∃ v S', S = v :: S' ∧ (3 ≤ v.1 ∧ (v.1 < 80 ∨ 100 ≤ v.1)) ∧ ((x : Fin 4) : Nat) < L.length ∧ sPrev L ((x : Fin 4) : Nat) = true ∧ K (pc + 1) (L.set ((x : Fin 4) : Nat) v) S' M G n m
  | .iinc x y => len = 3 ∧ ∃ v, L[x]? = some (vI v) ∧ sPrev L x = true ∧ K (pc + 3) (L.set x (vI (oI (· + ·) v y))) S M G n m
  | .dup => len = 1 ∧ ∃ v S', S = v :: S' ∧ sCat v = 1 ∧ K (pc + 1) L (v :: v :: S') M G n m
  | .dup2 => len = 1 ∧ ∃ u v S', S = u :: v :: S' ∧ sCat u = 1 ∧ sCat v = 1 ∧ K (pc + 1) L (u :: v :: u :: v :: S') M G n m
  | .pop => len = 1 ∧ ∃ v S', S = v :: S' ∧ sCat v = 1 ∧ K (pc + 1) L S' M G n m
  | .iadd => len = 1 ∧ ∃ x y S', S = vI y :: vI x :: S' ∧ K (pc + 1) L (vI (oI (· + ·) x y) :: S') M G n m
  | .isub => len = 1 ∧ ∃ x y S', S = vI y :: vI x :: S' ∧ K (pc + 1) L (vI (oI (· - ·) x y) :: S') M G n m
  | .imul => len = 1 ∧ ∃ x y S', S = vI y :: vI x :: S' ∧ K (pc + 1) L (vI (oI (· * ·) x y) :: S') M G n m
  | .idiv => len = 1 ∧ ∃ x y S', S = vI y :: vI x :: S' ∧ y ≠ 0 ∧ K (pc + 1) L (vI (oI (· / ·) x y) :: S') M G n m
  | .irem => len = 1 ∧ ∃ x y S', S = vI y :: vI x :: S' ∧ y ≠ 0 ∧ K (pc + 1) L (vI (oI (fun u v => u - u / v * v) x y) :: S') M G n m
  | .ineg => len = 1 ∧ ∃ x S', S = vI x :: S' ∧ K (pc + 1) L (vI (oI (fun u _ => -u) x x) :: S') M G n m
  | .ishl => len = 1 ∧ ∃ x y S', S = vI y :: vI x :: S' ∧ K (pc + 1) L (vI (oI (fun u v => u <<< (v &&& 31)) x y) :: S') M G n m
  | .ishr => len = 1 ∧ ∃ x y S', S = vI y :: vI x :: S' ∧ K (pc + 1) L (vI (oI (fun u v => u >>> (v &&& 31)) x y) :: S') M G n m
  | .iushr => len = 1 ∧ ∃ x y S', S = vI y :: vI x :: S' ∧ K (pc + 1) L (vI (oI (fun u v => (u.toUInt32 >>> (v.toUInt32 &&& Int32.toUInt32 31)).toInt32) x y) :: S') M G n m
  | .iand => len = 1 ∧ ∃ x y S', S = vI y :: vI x :: S' ∧ K (pc + 1) L (vI (oI (· &&& ·) x y) :: S') M G n m
  | .ior => len = 1 ∧ ∃ x y S', S = vI y :: vI x :: S' ∧ K (pc + 1) L (vI (oI (· ||| ·) x y) :: S') M G n m
  | .ixor => len = 1 ∧ ∃ x y S', S = vI y :: vI x :: S' ∧ K (pc + 1) L (vI (oI (· ^^^ ·) x y) :: S') M G n m
  | .ladd => len = 1 ∧ ∃ x y S', S = vL y :: vL x :: S' ∧ K (pc + 1) L (vL (oJ (· + ·) x y) :: S') M G n m
  | .lsub => len = 1 ∧ ∃ x y S', S = vL y :: vL x :: S' ∧ K (pc + 1) L (vL (oJ (· - ·) x y) :: S') M G n m
  | .lmul => len = 1 ∧ ∃ x y S', S = vL y :: vL x :: S' ∧ K (pc + 1) L (vL (oJ (· * ·) x y) :: S') M G n m
  | .ldiv => len = 1 ∧ ∃ x y S', S = vL y :: vL x :: S' ∧ y ≠ 0 ∧ K (pc + 1) L (vL (oJ (· / ·) x y) :: S') M G n m
  | .lrem => len = 1 ∧ ∃ x y S', S = vL y :: vL x :: S' ∧ y ≠ 0 ∧ K (pc + 1) L (vL (oJ (fun u v => u - u / v * v) x y) :: S') M G n m
  | .land => len = 1 ∧ ∃ x y S', S = vL y :: vL x :: S' ∧ K (pc + 1) L (vL (oJ (· &&& ·) x y) :: S') M G n m
  | .lor => len = 1 ∧ ∃ x y S', S = vL y :: vL x :: S' ∧ K (pc + 1) L (vL (oJ (· ||| ·) x y) :: S') M G n m
  | .lshl => len = 1 ∧ ∃ x y S', S = vI y :: vL x :: S' ∧ K (pc + 1) L (vL (Int64.ofInt x <<< ((Int32.ofInt y).toInt64 &&& 63)).toInt :: S') M G n m
  | .lcmp => len = 1 ∧ ∃ x y S', S = vL y :: vL x :: S' ∧ K (pc + 1) L (vI (if y < x then 1 else if x < y then -1 else 0) :: S') M G n m
  | .i2l => len = 1 ∧ ∃ x S', S = vI x :: S' ∧ K (pc + 1) L (vL x :: S') M G n m
  | .l2i => len = 1 ∧ ∃ x S', S = vL x :: S' ∧ K (pc + 1) L (vI (Int64.ofInt x).toInt32.toInt :: S') M G n m
  | .i2b => len = 1 ∧ ∃ x S', S = vI x :: S' ∧ K (pc + 1) L (vI (Int32.ofInt x).toInt8.toInt32.toInt :: S') M G n m
  | .ifCond c off => len = 3 ∧ ∃ x S' t, S = vI x :: S' ∧ (pc : Int) + off = ((t : Nat) : Int) ∧ (sCmp c x 0 → K t L S' M G n m) ∧ (¬ sCmp c x 0 → K (pc + 3) L S' M G n m)
  | .if_icmp c off => len = 3 ∧ ∃ x y S' t, S = vI y :: vI x :: S' ∧ (pc : Int) + off = ((t : Nat) : Int) ∧ (sCmp c x y → K t L S' M G n m) ∧ (¬ sCmp c x y → K (pc + 3) L S' M G n m)
  | .ifnull off => len = 3 ∧ ∃ c a S' t, (S = vQ c a :: S' ∨ (S = vO c a :: S' ∧ a ≠ 0)) ∧ (pc : Int) + off = ((t : Nat) : Int) ∧ (a = 0 → K t L S' M G n m) ∧ (a ≠ 0 → K (pc + 3) L S' M G n m)
  | .ifnonnull off => len = 3 ∧ ∃ c a S' t, (S = vQ c a :: S' ∨ (S = vO c a :: S' ∧ a ≠ 0)) ∧ (pc : Int) + off = ((t : Nat) : Int) ∧ (a ≠ 0 → K t L S' M G n m) ∧ (a = 0 → K (pc + 3) L S' M G n m)
  | .goto off => len = 3 ∧ ∃ t, (pc : Int) + off = ((t : Nat) : Int) ∧ K t L S M G n m
  | .tableswitch d lo hi offs => ∃ x S', S = vI x :: S' ∧ (x < lo ∨ hi < x → ∃ t, (pc : Int) + d = ((t : Nat) : Int) ∧ K t L S' M G n m) ∧ (¬ x < lo → ¬ hi < x → ∃ off t, offs[(x - lo).toNat]? = some off ∧ (pc : Int) + off = ((t : Nat) : Int) ∧ K t L S' M G n m)
  | .getfield x => len = 3 ∧ ∃ c k a v S', sFR (sKo kk).1 x = some (c, k) ∧ S = v :: S' ∧ (((sFI c k).2.2.1 = 0 ∧ (sObj c a v ∨ ∃ y, v = vT c a y) ∧ K (pc + 3) L (vI (M a k) :: S') M G n m) ∨ ((sFI c k).2.2.1 ≠ 0 ∧ (sObj c a v ∨ ∃ y : Nat, v = vT c a y ∧ (sFI c k).1 < y) ∧ K (pc + 3) L (sRef G a (sFI c k) :: S') M G n m))
  | .putfield x => len = 3 ∧ ∃ c k a v u S', sFR (sKo kk).1 x = some (c, k) ∧ S = u :: v :: S' ∧ ((∃ z, (sFI c k).2.2.1 = 0 ∧ u = vI z ∧ ((sObj c a v ∧ sFin c k = false) ∨ ∃ y, v = vT c a y ∧ c = (sKo kk).1 ∧ sIni kk = true) ∧ K (pc + 3) L S' (sUpd M a k z) G n m) ∨ ((sFI c k).2.2.1 ≠ 0 ∧ c = (sKo kk).1 ∧ sIni kk = true ∧ S' = [] ∧ u = sRef G a (sFI c k) ∧ v = vT c a ((sFI c k).1 : Int) ∧ (∃ L', L = vT c a ((sFI c k).1 : Int) :: L' ∧ L'.all (fun w => w.1 < 60) = true ∧ K (pc + 3) (vT c a (((sFI c k).1 + 1 : Nat) : Int) :: L') [] M (sGs G a (1, c, (sFI c k).1 + 1)) n m)))
  | .iaload => len = 1 ∧ ∃ a nn i S', (S = vI i :: vA 0 a nn :: S' ∨ S = vI i :: vA 4 a nn :: S') ∧ 0 ≤ i ∧ i < nn ∧ K (pc + 1) L (vI (M a i.toNat) :: S') M G n m
  | .iastore => len = 1 ∧ ∃ a nn i x S', S = vI x :: vI i :: vA 0 a nn :: S' ∧ 0 ≤ i ∧ i < nn ∧ K (pc + 1) L S' (sUpd M a i.toNat x) G n m
  | .laload => len = 1 ∧ ∃ a nn i S', S = vI i :: vA 1 a nn :: S' ∧ 0 ≤ i ∧ i < nn ∧ K (pc + 1) L (vL (M a i.toNat) :: S') M G n m
  | .lastore => len = 1 ∧ ∃ a nn i x S', S = vL x :: vI i :: vA 1 a nn :: S' ∧ 0 ≤ i ∧ i < nn ∧ K (pc + 1) L S' (sUpd M a i.toNat x) G n m
  | .baload => len = 1 ∧ ∃ a nn i S', (S = vI i :: vA 2 a nn :: S' ∨ S = vI i :: vA 3 a nn :: S') ∧ 0 ≤ i ∧ i < nn ∧ K (pc + 1) L (vI (M a i.toNat) :: S') M G n m
  | .bastore => len = 1 ∧ ∃ a nn i x S', 0 ≤ i ∧ i < nn ∧ ((S = vI x :: vI i :: vA 2 a nn :: S' ∧ K (pc + 1) L S' (sUpd M a i.toNat (Int32.ofInt x).toInt8.toInt32.toInt) G n m) ∨ (S = vI x :: vI i :: vA 3 a nn :: S' ∧ (x = 0 ∨ x = 1) ∧ K (pc + 1) L S' (sUpd M a i.toNat x) G n m))
  | .aaload => len = 1 ∧ ∃ c a nn i S', S = vI i :: vB c a nn :: S' ∧ 0 ≤ i ∧ i < nn ∧ K (pc + 1) L (vQ c (M a i.toNat).toNat :: S') M G n m
  | .aastore => len = 1 ∧ ∃ c a nn i b v S', S = v :: vI i :: vB c a nn :: S' ∧ (v = vO c b ∨ v = vQ c b) ∧ b ≠ 0 ∧ 0 ≤ i ∧ i < nn ∧ K (pc + 1) L S' (sUpd M a i.toNat (b : Int)) G n m
  | .arraylength => len = 1 ∧ ∃ t a nn S', S = vA t a nn :: S' ∧ t < 5 ∧ nn ≤ 2147483647 ∧ K (pc + 1) L (vI nn :: S') M G n m
  | .new x => len = 3 ∧ ∃ c a, sCR (sKo kk).1 x = some c ∧ 0 < a ∧ G a = (0, 0, 0) ∧ (n + 1 ≤ (sKo kk).2.2.2.1 ∧ m + sNF c ≤ (sKo kk).2.2.2.2) ∧ K (pc + 3) L (vF c a :: S) (sClr M a) (sGs G a (8, c, 0)) (n + 1) (m + sNF c)
  | .newarray t => len = 2 ∧ ∃ x a S', S = vI x :: S' ∧ sAt t < 4 ∧ 0 ≤ x ∧ x ≤ 4096 ∧ 0 < a ∧ G a = (0, 0, 0) ∧ (n + 1 ≤ (sKo kk).2.2.2.1 ∧ m + x.toNat ≤ (sKo kk).2.2.2.2) ∧ K (pc + 2) L (vA (sAt t) a x :: S') (sClr M a) (sGs G a (2 + sAt t, x.toNat, 0)) (n + 1) (m + x.toNat)
  | .anewarray y => len = 3 ∧ ∃ c x a S', sCR (sKo kk).1 y = some c ∧ (c = 6 ∨ c = 8) ∧ S = vI x :: S' ∧ 0 ≤ x ∧ x ≤ 4096 ∧ 0 < a ∧ G a = (0, 0, 0) ∧ (n + 1 ≤ (sKo kk).2.2.2.1 ∧ m + x.toNat ≤ (sKo kk).2.2.2.2) ∧ K (pc + 3) L (vB c a x :: S') (sClr M a) (sGs G a (6, x.toNat, c)) (n + 1) (m + x.toNat)
  | .checkcast x => len = 3 ∧ ((sKo kk).1 = 14 ∧ x = 317) ∧ ∃ a nn S', S = vA 0 a nn :: S' ∧ K (pc + 3) L S M G n m
  | .invokestatic x => len = 3 ∧ ∃ k, sMR (sKo kk).1 x = some k ∧ ((∃ A rest, k < 1000 ∧ sStat k = true ∧ S = A.reverse ++ rest ∧ A.length = (sKo k).2.1 ∧ sCats rest ≤ 8 ∧ sNoF L = true ∧ sNoF rest = true ∧ sArg A = true ∧ (n + (sKo k).2.2.2.1 ≤ (sKo kk).2.2.2.1 ∧ m + (sKo k).2.2.2.2 ≤ (sKo kk).2.2.2.2) ∧ call k A M G (fun r M' G' => K (pc + 3) L (r.toList ++ rest) M' G' (n + (sKo k).2.2.2.1) (m + (sKo k).2.2.2.2))) ∨
      (∃ u v rest, S = vI v :: vI u :: rest ∧ sCats rest ≤ 8 ∧ ((k = 1001 ∧ K (pc + 3) L (vI (if u < v then v else u) :: rest) M G n m) ∨ (k = 1002 ∧ K (pc + 3) L (vI (if v < u then v else u) :: rest) M G n m))) ∨
      (∃ z dp a1 n1 sp a0 n0 rest, k = 1003 ∧ S = vI z :: vI dp :: vA 0 a1 n1 :: vI sp :: vA 0 a0 n0 :: rest ∧ sCats rest ≤ 8 ∧ 0 ≤ z ∧ 0 ≤ dp ∧ 0 ≤ sp ∧ dp + z ≤ n1 ∧ sp + z ≤ n0 ∧ K (pc + 3) L rest (sCpy M a0 sp.toNat a1 dp.toNat z.toNat) G n m))
  | .invokevirtual x => len = 3 ∧ ∃ k, sMR (sKo kk).1 x = some k ∧ ((∃ A v c a rest, k < 1000 ∧ sStat k = false ∧ sIni k = false ∧ (sKo k).1 = c ∧ S = A.reverse ++ v :: rest ∧ sObj c a v ∧ A.length = (sKo k).2.1 ∧ sCats rest ≤ 8 ∧ sNoF L = true ∧ sNoF rest = true ∧ sArg A = true ∧ (n + (sKo k).2.2.2.1 ≤ (sKo kk).2.2.2.1 ∧ m + (sKo k).2.2.2.2 ≤ (sKo kk).2.2.2.2) ∧ call k (vO c a :: A) M G (fun r M' G' => K (pc + 3) L (r.toList ++ rest) M' G' (n + (sKo k).2.2.2.1) (m + (sKo k).2.2.2.2))) ∨
      (∃ j rest, k = 1004 ∧ S = vS j :: rest ∧ j < 21 ∧ sCats rest ≤ 8 ∧ K (pc + 3) L (vI (sLen j) :: rest) M G n m) ∨
      (∃ j i rest, k = 1005 ∧ S = vI i :: vS j :: rest ∧ j < 21 ∧ 0 ≤ i ∧ i < sLen j ∧ sCats rest ≤ 8 ∧ K (pc + 3) L (vI (sChr j i.toNat) :: rest) M G n m) ∨
      (∃ a nn b rest, k = 1006 ∧ S = vA 0 a nn :: rest ∧ sCats rest ≤ 8 ∧ 0 < b ∧ G b = (0, 0, 0) ∧ (n + 1 ≤ (sKo kk).2.2.2.1 ∧ m + nn.toNat ≤ (sKo kk).2.2.2.2) ∧ K (pc + 3) L (vA 0 b nn :: rest) (sDup M a b) (sGs G b (2, nn.toNat, 0)) (n + 1) (m + nn.toNat)))
  | .invokespecial x => len = 3 ∧ ∃ k, sMR (sKo kk).1 x = some k ∧ ((∃ c a y rest, k = 1000 ∧ S = vT c a y :: rest ∧ sCats rest ≤ 8 ∧ K (pc + 3) L rest M G n m) ∨
      (∃ A c a rest, k < 1000 ∧ sStat k = false ∧ sIni k = true ∧ (sKo k).1 = c ∧ S = A.reverse ++ vF c a :: vF c a :: rest ∧ A.length = (sKo k).2.1 ∧ sCats rest ≤ 7 ∧ sNoF L = true ∧ sNoF rest = true ∧ sArg A = true ∧ (n + (sKo k).2.2.2.1 ≤ (sKo kk).2.2.2.1 ∧ m + (sKo k).2.2.2.2 ≤ (sKo kk).2.2.2.2) ∧ call k (vT c a 0 :: A) M (sGs G a (1, c, 0)) (fun r M' G' => r = none ∧ G' a = (1, c, sFul c) ∧ K (pc + 3) L (vO c a :: rest) M' G' (n + (sKo k).2.2.2.1) (m + (sKo k).2.2.2.2))))
  | .ireturn => len = 1 ∧ ∃ x, S = [vI x] ∧ ((sKo kk).2.2.1 = 1 ∨ ((sKo kk).2.2.1 = 2 ∧ (x = 0 ∨ x = 1))) ∧ ret (some (vI x)) M G n m
  | .lreturn => len = 1 ∧ ∃ x, S = [vL x] ∧ (sKo kk).2.2.1 = 3 ∧ ret (some (vL x)) M G n m
  | .areturn => len = 1 ∧ ∃ v w, (S = [v] ∧ (w = v ∨ ∃ c a, c < 13 ∧ v = vO c a ∧ w = vQ c a)) ∧ (sKo kk).2.2.1 = 4 ∧ 3 ≤ v.1 ∧ (v.1 < 60 ∨ 100 ≤ v.1) ∧ ret (some w) M G n m
  | .return_ => len = 1 ∧ S = [] ∧ (sKo kk).2.2.1 = 0 ∧ ret none M G n m
  | _ => False
