/-! HOW MANY BITS, as the class counts them. -/
theorem n_ushr {a k : Nat} (ha : a < 2147483648) (hk : k < 32) : iUshr (a : Int) (k : Int) = ((a / 2 ^ k : Nat) : Int) := by
  show (((Int32.ofInt (a : Int)).toUInt32 >>> ((Int32.ofInt (k : Int)).toUInt32 &&& Int32.toUInt32 31)).toInt32).toInt = _
  rw [n_of, n_of]
  have e : (((nI a).toUInt32 >>> ((nI k).toUInt32 &&& Int32.toUInt32 31)).toInt32) = nI (a / 2 ^ k) := by
    apply Int32.toBitVec_inj.mp
    apply BitVec.eq_of_toNat_eq
    show ((nI a).toUInt32 >>> ((nI k).toUInt32 &&& Int32.toUInt32 31)).toBitVec.toNat = (BitVec.ofNat 32 (a / 2 ^ k)).toNat
    rw [UInt32.toBitVec_shiftRight]
    show (BitVec.ofNat 32 a >>> (((nI k).toUInt32 &&& Int32.toUInt32 31).toBitVec % 32).toNat).toNat = _
    rw [s_u k hk, BitVec.toNat_ushiftRight, BitVec.toNat_ofNat, BitVec.toNat_ofNat, Nat.shiftRight_eq_div_pow, Nat.mod_eq_of_lt (a := a) (by omega), Nat.mod_eq_of_lt (Nat.lt_of_le_of_lt (Nat.div_le_self _ _) (by omega))]
  rw [e, n_to (Nat.lt_of_le_of_lt (Nat.div_le_self _ _) ha)]
def bc1 (x : Nat) : Nat := x - ((x / 2) &&& 1431655765)
def bc2 (x : Nat) : Nat := (bc1 x &&& 858993459) + ((bc1 x / 4) &&& 858993459)
def bc3 (x : Nat) : Nat := (bc2 x + bc2 x / 16) &&& 252645135
def bc4 (x : Nat) : Nat := bc3 x + bc3 x / 256
def bc5 (x : Nat) : Nat := bc4 x + bc4 x / 65536
def bcN (x : Nat) : Nat := bc5 x &&& 63
def pcN : Nat → Nat → Nat
  | 0, _ => 0
  | k + 1, m => m % 2 + pcN k (m / 2)
theorem bc12a : ∀ a, a < 64 → ∀ b, b < 64 → bcN (64 * a + b) = pcN 12 (64 * a + b) := by decide +kernel
theorem bc12 (x : Nat) (h : x < 4096) : bcN x = pcN 12 x := by
  have := bc12a (x / 64) (by omega) (x % 64) (by omega)
  rw [show 64 * (x / 64) + x % 64 = x by omega] at this
  exact this
theorem pcN_is : ∀ k m : Nat, nS (pcF m) k = ((pcN k m : Nat) : Int)
  | 0, _ => rfl
  | k + 1, m => by
    rw [pc_half, pcN_is k (m / 2), Nat.testBit_zero]
    show _ = ((m % 2 + pcN k (m / 2) : Nat) : Int)
    by_cases c : m % 2 = 1
    · rw [decide_eq_true c, c]; show 1 + _ = _; omega
    · rw [decide_eq_false c, show m % 2 = 0 by omega]; show 0 + _ = _; omega
section
variable {d : Nat} {P : Int → sM → sG → Prop} {M : sM} {G : sG}
theorem c113 {x : Int} (hd : 5 ≤ d) (h0 : 0 ≤ x) (h1 : x < 262144) (kk : P ((bcN x.toNat : Nat) : Int) M G) : sC d 113 [vI x] M G (QI P) := by
  obtain ⟨d, rfl⟩ := sD 2 (d := d) (by omega)
  obtain ⟨a, rfl⟩ : ∃ a : Nat, x = (a : Int) := ⟨x.toNat, z_nat h0⟩
  have l1 : (a / 2) &&& 1431655765 ≤ a / 2 := Nat.and_le_left
  have b1 : bc1 a ≤ a := Nat.sub_le _ _
  have i1 : (a : Int) - (iAnd (iUshr (a : Int) 1) 1431655765) = ((bc1 a : Nat) : Int) := by
    rw [show (1 : Int) = ((1 : Nat) : Int) from rfl, n_ushr (by omega) (by decide), show (1431655765 : Int) = ((1431655765 : Nat) : Int) from rfl, n_and (by omega), show a / 2 ^ 1 = a / 2 from rfl]
    show _ = ((a - ((a / 2) &&& 1431655765) : Nat) : Int)
    omega
  have l2 : bc1 a &&& 858993459 ≤ bc1 a := Nat.and_le_left
  have l2' : (bc1 a / 4) &&& 858993459 ≤ bc1 a / 4 := Nat.and_le_left
  have b2 : bc2 a = (bc1 a &&& 858993459) + ((bc1 a / 4) &&& 858993459) := rfl
  have i2 : (iAnd ((bc1 a : Nat) : Int) 858993459) + (iAnd (iUshr ((bc1 a : Nat) : Int) 2) 858993459) = ((bc2 a : Nat) : Int) := by
    rw [show (2 : Int) = ((2 : Nat) : Int) from rfl, n_ushr (by omega) (by decide), show (858993459 : Int) = ((858993459 : Nat) : Int) from rfl, n_and (by omega), n_and (by omega), b2]
    rfl
  have i3 : iAnd (((bc2 a : Nat) : Int) + (iUshr ((bc2 a : Nat) : Int) 4)) 252645135 = ((bc3 a : Nat) : Int) := by
    rw [show (4 : Int) = ((4 : Nat) : Int) from rfl, n_ushr (by omega) (by decide), show (252645135 : Int) = ((252645135 : Nat) : Int) from rfl, ← Int.natCast_add, n_and (by omega)]
    rfl
  have i3' : iUshr ((bc2 a : Nat) : Int) 4 = ((bc2 a / 16 : Nat) : Int) := n_ushr (k := 4) (by omega) (by decide)
  have l3 : bc3 a ≤ bc2 a + bc2 a / 16 := Nat.and_le_left
  have i4 : iUshr ((bc3 a : Nat) : Int) 8 = ((bc3 a / 256 : Nat) : Int) := n_ushr (k := 8) (by omega) (by decide)
  have b4 : bc4 a = bc3 a + bc3 a / 256 := rfl
  have i4' : ((bc3 a : Nat) : Int) + ((bc3 a / 256 : Nat) : Int) = ((bc4 a : Nat) : Int) := by omega
  have i5 : iUshr ((bc4 a : Nat) : Int) 16 = ((bc4 a / 65536 : Nat) : Int) := n_ushr (k := 16) (by omega) (by decide)
  have b5 : bc5 a = bc4 a + bc4 a / 65536 := rfl
  have i5' : ((bc4 a : Nat) : Int) + ((bc4 a / 65536 : Nat) : Int) = ((bc5 a : Nat) : Int) := by omega
  have i6 : iAnd ((bc5 a : Nat) : Int) 63 = ((bcN a : Nat) : Int) := n_and (b := 63) (by omega)
  refine e113 (s113_0 ?_)
  rw [i1, i2, i3, i3', i4, i4', i5, i5', i6]
  have q0 : ((bc3 a : Nat) : Int) = ((bc3 a : Nat) : Int) := rfl
  refine ⟨⟨by omega, by omega⟩, ⟨by omega, by omega⟩, ⟨by omega, by omega⟩, ⟨by omega, by omega⟩, ⟨by omega, by omega⟩, ?_⟩
  exact kk
end
