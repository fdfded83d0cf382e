/-! NUMBERS: the bits of ints that are not below 0 (b_ext, s_l, s_u, nx_and, nx_xor and their like began as rows of kit/laws/BITS). -/
def bt (x : Int32) (i : Nat) : Bool := x.toBitVec.getLsbD i
theorem b_ext {x y : Int32} (h : ∀ i, i < 32 → bt x i = bt y i) : x = y := Int32.toBitVec_inj.mp (BitVec.eq_of_getLsbD_eq (fun i hi => h i hi))
theorem b_or (x y : Int32) (i : Nat) : bt (x ||| y) i = (bt x i || bt y i) := by unfold bt; rw [Int32.toBitVec_or, BitVec.getLsbD_or]
theorem b_and (x y : Int32) (i : Nat) : bt (x &&& y) i = (bt x i && bt y i) := by unfold bt; rw [Int32.toBitVec_and, BitVec.getLsbD_and]
theorem b_xor (x y : Int32) (i : Nat) : bt (x ^^^ y) i = (bt x i ^^ bt y i) := by unfold bt; rw [Int32.toBitVec_xor, BitVec.getLsbD_xor]
theorem b_m1 : ∀ i, i < 32 → bt (-1) i = true := by decide +kernel
theorem s_l : ∀ n, n < 32 → ((nI n &&& 31).toBitVec.smod 32).toNat = n := by decide +kernel
theorem s_u : ∀ n, n < 32 → (((nI n).toUInt32 &&& Int32.toUInt32 31).toBitVec % 32).toNat = n := by decide +kernel
theorem b_nI (n i : Nat) (hi : i < 32) : bt (nI n) i = n.testBit i := by
  show (BitVec.ofNat 32 n).getLsbD i = _
  rw [BitVec.getLsbD_ofNat]
  simp [hi]
theorem n_of (n : Nat) : Int32.ofInt (n : Int) = nI n := Int32.ofInt_eq_ofNat
theorem n_to {n : Nat} (h : n < 2147483648) : (nI n).toInt = (n : Int) := Int32.toInt_ofNat_of_lt h
theorem nx_and (a b : Nat) : nI a &&& nI b = nI (a &&& b) := b_ext (fun i hi => by rw [b_and, b_nI _ _ hi, b_nI _ _ hi, b_nI _ _ hi, Nat.testBit_and])
theorem nx_or (a b : Nat) : nI a ||| nI b = nI (a ||| b) := b_ext (fun i hi => by rw [b_or, b_nI _ _ hi, b_nI _ _ hi, b_nI _ _ hi, Nat.testBit_or])
theorem nx_xor (a b : Nat) : nI a ^^^ nI b = nI (a ^^^ b) := b_ext (fun i hi => by rw [b_xor, b_nI _ _ hi, b_nI _ _ hi, b_nI _ _ hi, Nat.testBit_xor])
theorem n_and {a b : Nat} (ha : a < 2147483648) : iAnd (a : Int) (b : Int) = ((a &&& b : Nat) : Int) := by
  unfold iAnd oI
  rw [n_of, n_of]
  show (nI a &&& nI b).toInt = _
  rw [nx_and, n_to (Nat.lt_of_le_of_lt Nat.and_le_left ha)]
theorem n_or {a b : Nat} (ha : a < 2147483648) (hb : b < 2147483648) : iOr (a : Int) (b : Int) = ((a ||| b : Nat) : Int) := by
  unfold iOr oI
  rw [n_of, n_of]
  show (nI a ||| nI b).toInt = _
  rw [nx_or, n_to (Nat.or_lt_two_pow (n := 31) ha hb)]
theorem n_xor {a b : Nat} (ha : a < 2147483648) (hb : b < 2147483648) : iXor (a : Int) (b : Int) = ((a ^^^ b : Nat) : Int) := by
  unfold iXor oI
  rw [n_of, n_of]
  show (nI a ^^^ nI b).toInt = _
  rw [nx_xor, n_to (Nat.xor_lt_two_pow (n := 31) ha hb)]
/-- b without the bits of a -/
theorem n_dif {a b : Nat} (hb : b < 2147483648) : iAnd (b : Int) (iXor (a : Int) (-1)) = ((b &&& (b ^^^ a) : Nat) : Int) := by
  unfold iAnd iXor
  have e : Int32.ofInt (-1) = -1 := by decide
  have e2 : Int32.ofInt (oI (fun x1 x2 => x1 ^^^ x2) (a : Int) (-1)) = nI a ^^^ (-1) := by rw [oI_enc, n_of, e]
  have e3 : nI b &&& (nI a ^^^ (-1)) = nI (b &&& (b ^^^ a)) := b_ext (fun i hi => by
    rw [b_and, b_xor, b_m1 i hi, b_nI _ _ hi, b_nI _ _ hi, b_nI _ _ hi, Nat.testBit_and, Nat.testBit_xor]
    cases b.testBit i <;> cases a.testBit i <;> rfl)
  show (Int32.ofInt (b : Int) &&& Int32.ofInt (oI (fun x1 x2 => x1 ^^^ x2) (a : Int) (-1))).toInt = _
  rw [e2, n_of, e3, n_to (Nat.lt_of_le_of_lt Nat.and_le_left hb)]
theorem nx_shl {a k : Nat} (hk : k < 32) (h : a * 2 ^ k < 4294967296) : nI a <<< (nI k &&& 31) = nI (a * 2 ^ k) := by
  apply Int32.toBitVec_inj.mp
  rw [Int32.toBitVec_shiftLeft]
  show (BitVec.ofNat 32 a <<< ((nI k &&& 31).toBitVec.smod 32).toNat) = BitVec.ofNat 32 (a * 2 ^ k)
  rw [s_l k hk]
  have ha : a < 4294967296 := Nat.lt_of_le_of_lt (Nat.le_mul_of_pos_right a (Nat.two_pow_pos k)) h
  apply BitVec.eq_of_toNat_eq
  rw [BitVec.toNat_shiftLeft, BitVec.toNat_ofNat, BitVec.toNat_ofNat, Nat.shiftLeft_eq, Nat.mod_eq_of_lt (a := a) (by omega)]
theorem n_shl {a k : Nat} (hk : k < 32) (h : a * 2 ^ k < 2147483648) : iShl (a : Int) (k : Int) = ((a * 2 ^ k : Nat) : Int) := by
  unfold iShl oI
  rw [n_of, n_of]
  show (nI a <<< (nI k &&& 31)).toInt = _
  rw [nx_shl hk (by omega), n_to h]
theorem n_shr {a k : Nat} (ha : a < 2147483648) (hk : k < 32) : iShr (a : Int) (k : Int) = ((a / 2 ^ k : Nat) : Int) := by
  unfold iShr oI
  rw [n_of, n_of]
  have e : (nI a >>> (nI k &&& 31)).toInt = (nI a).toInt >>> k := by
    conv => rhs; rw [← s_l k hk]
    exact BitVec.toInt_sshiftRight ..
  rw [e, n_to ha, Int.shiftRight_eq_div_pow]
  rfl
theorem n_pow {k : Nat} (hk : k < 31) : (2 : Nat) ^ k < 2147483648 := by
  have := Nat.pow_lt_pow_right (a := 2) (by decide) hk
  omega
/-- the same over ints -/
theorem z_nat {x : Int} (h : 0 ≤ x) : x = ((x.toNat : Nat) : Int) := by omega
theorem z_has {s k : Int} (h0 : 0 ≤ s) (h1 : s ≤ 2147483647) (k0 : 0 ≤ k) (k1 : k < 32) : iAnd (iShr s k) 1 = if s.toNat.testBit k.toNat then 1 else 0 := by
  have e : iAnd (iShr ((s.toNat : Nat) : Int) ((k.toNat : Nat) : Int)) ((1 : Nat) : Int) = if s.toNat.testBit k.toNat then 1 else 0 := by
    rw [n_shr (by omega) (by omega), n_and (Nat.lt_of_le_of_lt (Nat.div_le_self _ _) (by omega)), Nat.and_one_is_mod, Nat.testBit_eq_decide_div_mod_eq]
    have := Nat.mod_two_eq_zero_or_one (s.toNat / 2 ^ k.toNat)
    rcases this with h | h <;> simp [h]
  rw [← z_nat h0, ← z_nat k0] at e
  exact e
theorem z_has1 {s k : Int} (h0 : 0 ≤ s) (h1 : s ≤ 2147483647) (k0 : 0 ≤ k) (k1 : k < 32) : iAnd (iShr s k) 1 = 1 ↔ s.toNat.testBit k.toNat = true := by
  rw [z_has h0 h1 k0 k1]
  cases s.toNat.testBit k.toNat <;> simp
theorem z_bit {k : Int} (k0 : 0 ≤ k) (k1 : k < 31) : iShl 1 k = ((2 ^ k.toNat : Nat) : Int) := by
  have := n_shl (a := 1) (k := k.toNat) (by omega) (by rw [Nat.one_mul]; exact n_pow (by omega))
  rw [Nat.one_mul, ← z_nat k0] at this
  exact this
theorem z_or {a b : Int} (a0 : 0 ≤ a) (a1 : a ≤ 2147483647) (b0 : 0 ≤ b) (b1 : b ≤ 2147483647) : iOr a b = ((a.toNat ||| b.toNat : Nat) : Int) := by
  have := n_or (a := a.toNat) (b := b.toNat) (by omega) (by omega)
  rw [← z_nat a0, ← z_nat b0] at this
  exact this
theorem z_and {a b : Int} (a0 : 0 ≤ a) (a1 : a ≤ 2147483647) (b0 : 0 ≤ b) : iAnd a b = ((a.toNat &&& b.toNat : Nat) : Int) := by
  have := n_and (a := a.toNat) (b := b.toNat) (by omega)
  rw [← z_nat a0, ← z_nat b0] at this
  exact this
theorem z_xor {a b : Int} (a0 : 0 ≤ a) (a1 : a ≤ 2147483647) (b0 : 0 ≤ b) (b1 : b ≤ 2147483647) : iXor a b = ((a.toNat ^^^ b.toNat : Nat) : Int) := by
  have := n_xor (a := a.toNat) (b := b.toNat) (by omega) (by omega)
  rw [← z_nat a0, ← z_nat b0] at this
  exact this
theorem z_dif {a b : Int} (a0 : 0 ≤ a) (b0 : 0 ≤ b) (b1 : b ≤ 2147483647) : iAnd b (iXor a (-1)) = ((b.toNat &&& (b.toNat ^^^ a.toNat) : Nat) : Int) := by
  have := n_dif (a := a.toNat) (b := b.toNat) (by omega)
  rw [← z_nat a0, ← z_nat b0] at this
  exact this
theorem bit_dif (a b i : Nat) : (b &&& (b ^^^ a)).testBit i = (b.testBit i && !a.testBit i) := by
  rw [Nat.testBit_and, Nat.testBit_xor]
  cases b.testBit i <;> cases a.testBit i <;> rfl
theorem bit_pow (k i : Nat) : (2 ^ k : Nat).testBit i = decide (k = i) := Nat.testBit_two_pow
/-- an order of two memories: alike but at some addresses -/
def sEq (l : List Nat) (M M' : sM) : Prop := ∀ a, a ∉ l → M' a = M a
theorem sEq.refl (l : List Nat) (M : sM) : sEq l M M := fun _ _ => rfl
theorem sEq.trans {l : List Nat} {M M' M'' : sM} (h : sEq l M M') (h' : sEq l M' M'') : sEq l M M'' := fun a ha => (h' a ha).trans (h a ha)
theorem sEq.mono {l l' : List Nat} {M M' : sM} (h : sEq l M M') (hs : ∀ a, a ∈ l → a ∈ l') : sEq l' M M' := fun a ha => h a (fun z => ha (hs a z))
theorem sEq.upd {l : List Nat} {M M' : sM} (h : sEq l M M') {a i : Nat} {x : Int} (ha : a ∈ l) : sEq l M (sUpd M' a i x) := fun b hb => by
  rw [← h b hb]
  funext j
  unfold sUpd
  rw [if_neg]
  rintro ⟨rfl, -⟩
  exact hb ha
theorem sUpd_ne {M : sM} {a i : Nat} {x : Int} {b : Nat} (h : b ≠ a) : sUpd M a i x b = M b := by
  funext j
  unfold sUpd
  rw [if_neg]
  rintro ⟨rfl, -⟩
  exact h rfl
theorem sUpd_ni {M : sM} {a i : Nat} {x : Int} {b j : Nat} (h : j ≠ i) : sUpd M a i x b j = M b j := by
  unfold sUpd
  rw [if_neg]
  rintro ⟨-, rfl⟩
  exact h rfl
theorem sUpd_eq {M : sM} {a i : Nat} {x : Int} : sUpd M a i x a i = x := by
  unfold sUpd
  rw [if_pos ⟨rfl, rfl⟩]
theorem sUpd_at {M : sM} {a i : Nat} {x : Int} {j : Nat} : sUpd M a i x a j = if j = i then x else M a j := by
  unfold sUpd
  simp
