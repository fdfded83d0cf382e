/-! DRAWS. -/
theorem j_to {x : Int} (h0 : -9223372036854775808 ≤ x) (h1 : x < 9223372036854775808) : (Int64.ofInt x).toInt = x := by
  rw [Int64.toInt_ofInt]
  have e : Int.bmod x 18446744073709551616 = x := by
    rw [Int.bmod_def]
    split <;> omega
  exact e
theorem j_wrap {x : Int} (h0 : 0 ≤ x) (h1 : x < 9223372036854775808) : jWrap x = x := j_to (by omega) h1
theorem j_div {x c : Int} (h0 : 0 ≤ x) (h1 : x < 9223372036854775808) (c0 : 0 < c) (c1 : c < 9223372036854775808) : jDiv x c = x / c := by
  show (Int64.ofInt x / Int64.ofInt c).toInt = _
  have hq : 0 ≤ x / c ∧ x / c ≤ x := ⟨Int.ediv_nonneg h0 (by omega), Int.ediv_le_self _ h0⟩
  rw [Int64.toInt_div, j_to (by omega) h1, j_to (by omega) c1, Int.tdiv_eq_ediv_of_nonneg h0, Int.bmod_def]
  split <;> omega
theorem j_rem {x c : Int} (h0 : 0 ≤ x) (h1 : x < 9223372036854775808) (c0 : 0 < c) (c1 : c < 9223372036854775808) : jRem x c = x % c := by
  show (Int64.ofInt x - Int64.ofInt x / Int64.ofInt c * Int64.ofInt c).toInt = _
  have e : Int64.ofInt x / Int64.ofInt c = Int64.ofInt (x / c) := by
    apply Int64.toInt_inj.mp
    rw [j_to (x := x / c) (by have := Int.ediv_nonneg h0 (show (0 : Int) ≤ c by omega); omega) (by have := Int.ediv_le_self c h0; omega)]
    exact j_div h0 h1 c0 c1
  have e2 : x - x / c * c = x % c := by rw [Int.emod_def, Int.mul_comm]
  rw [e, ← Int64.ofInt_mul, ← Int64.ofInt_sub, e2]
  have := Int.emod_nonneg x (show c ≠ 0 by omega)
  have := Int.emod_lt_of_pos x c0
  exact j_to (by omega) (by omega)
theorem j_and {x : Int} (h0 : 0 ≤ x) (h1 : x < 9223372036854775808) : jAnd x 2147483647 = x % 2147483648 := by
  show (Int64.ofInt x &&& Int64.ofInt ((2147483647 : Nat) : Int)).toInt = _
  have e : Int64.ofInt x &&& Int64.ofInt ((2147483647 : Nat) : Int) = Int64.ofInt ((x.toNat % 2147483648 : Nat) : Int) := by
    apply Int64.toBitVec_inj.mp
    apply BitVec.eq_of_toNat_eq
    rw [Int64.toBitVec_and, BitVec.toNat_and]
    show (BitVec.ofInt 64 x).toNat &&& (BitVec.ofInt 64 ((2147483647 : Nat) : Int)).toNat = (BitVec.ofInt 64 ((x.toNat % 2147483648 : Nat) : Int)).toNat
    rw [BitVec.toNat_ofInt, BitVec.toNat_ofInt, BitVec.toNat_ofInt]
    have e1 : (x % ((2 ^ 64 : Nat) : Int)).toNat = x.toNat := by omega
    have e2 : (((2147483647 : Nat) : Int) % ((2 ^ 64 : Nat) : Int)).toNat = 2147483647 := by omega
    have e3 : (((x.toNat % 2147483648 : Nat) : Int) % ((2 ^ 64 : Nat) : Int)).toNat = x.toNat % 2147483648 := by omega
    rw [e1, e2, e3]
    exact Nat.and_two_pow_sub_one_eq_mod _ 31
  rw [e, j_to (by omega) (by omega)]
  omega
theorem j_int {x : Int} (h0 : 0 ≤ x) (h1 : x < 2147483648) : jInt x = x := by
  show (Int64.ofInt x).toInt32.toInt = x
  rw [Int64.toInt_toInt32, j_to (by omega) (by omega), Int.bmod_def]
  split <;> omega
theorem i_to {x : Int} (h0 : 0 ≤ x) (h1 : x < 2147483648) : (Int32.ofInt x).toInt = x := by
  rw [Int32.toInt_ofInt]
  have e : Int.bmod x 4294967296 = x := by
    rw [Int.bmod_def]
    split <;> omega
  exact e
theorem i_rem4 {x : Int} (h0 : 0 ≤ x) (h1 : x < 2147483648) : iRem x 4 = x % 4 := by
  show (Int32.ofInt x - Int32.ofInt x / Int32.ofInt 4 * Int32.ofInt 4).toInt = _
  have e : Int32.ofInt x / Int32.ofInt 4 = Int32.ofInt (x / 4) := by
    apply Int32.toInt_inj.mp
    rw [i_to (x := x / 4) (by omega) (by omega), Int32.toInt_div, i_to h0 h1, i_to (by decide) (by decide), Int.tdiv_eq_ediv_of_nonneg h0, Int.bmod_def]
    split <;> omega
  rw [e, ← Int32.ofInt_mul, ← Int32.ofInt_sub]
  rw [show x - x / 4 * 4 = x % 4 by omega]
  exact i_to (by omega) (by omega)
theorem i_shr16 {x : Int} (h0 : 0 ≤ x) (h1 : x < 2147483648) : iShr x 16 = x / 65536 := by
  have e := n_shr (a := x.toNat) (k := 16) (by omega) (by decide)
  rw [← z_nat h0] at e
  rw [show (16 : Int) = ((16 : Nat) : Int) from rfl, e]
  omega
def nxV (v : Int) : Int := (v * 1103515245 + 12345) % 2147483648
def drI (v : Int) : Int := (v / 65536) % 4
theorem nxV_b (v : Int) : 0 ≤ nxV v ∧ nxV v < 2147483648 := by unfold nxV; omega
theorem dr_wrap {v : Int} (h0 : 0 ≤ v) (h1 : v < 2147483648) : jWrap ((jWrap (v * 1103515245)) + 12345) = v * 1103515245 + 12345 := by
  rw [j_wrap (x := v * 1103515245) (by omega) (by omega), j_wrap (by omega) (by omega)]
theorem dr_c {v : Int} (h0 : 0 ≤ v) (h1 : v < 2147483648) : jInt (jAnd (jWrap ((jWrap (v * 1103515245)) + 12345)) 2147483647) = nxV v := by
  rw [dr_wrap h0 h1, j_and (by omega) (by omega)]
  exact j_int (by omega) (by omega)
theorem dr_r {v : Int} (h0 : 0 ≤ v) (h1 : v < 2147483648) : jRem (jWrap ((jWrap (v * 1103515245)) + 12345)) 2147483648 = nxV v := by
  rw [dr_wrap h0 h1, j_rem (by omega) (by omega) (by decide) (by decide)]
  rfl
theorem dr_ci (v : Int) : iRem (iShr (nxV v) 16) 4 = drI (nxV v) := by
  have := nxV_b v
  rw [i_shr16 this.1 this.2, i_rem4 (by omega) (by omega)]
  rfl
theorem dr_ri (v : Int) : jInt (jRem (jDiv (nxV v) 65536) 4) = drI (nxV v) := by
  have := nxV_b v
  rw [j_div this.1 (by omega) (by decide) (by decide), j_rem (by omega) (by omega) (by decide) (by decide), j_int (by omega) (by omega)]
  rfl
