/-! How many bits, for eighteen bits. -/
theorem and_256 (x m : Nat) : x &&& m = 256 * ((x / 256) &&& (m / 256)) + ((x % 256) &&& (m % 256)) := by
  have h1 : (x &&& m) / 256 = x / 256 &&& m / 256 := Nat.and_div_two_pow (n := 8)
  have h2 : (x &&& m) % 256 = (x % 256) &&& (m % 256) := Nat.and_mod_two_pow (n := 8)
  omega
theorem and_lo {y m : Nat} (h : y < 16777216) : y &&& m = y &&& (m % 16777216) := by
  have h2 : (y &&& m) % 16777216 = (y % 16777216) &&& (m % 16777216) := Nat.and_mod_two_pow (n := 24)
  have l : y &&& m ≤ y := Nat.and_le_left
  rw [Nat.mod_eq_of_lt (by omega), Nat.mod_eq_of_lt h] at h2
  exact h2
theorem k1a : ∀ c, c < 2 → ∀ b, b < 256 → (128 * c + b / 2) &&& 85 = (b / 2) &&& 1431655765 := by decide +kernel
theorem k2a : ∀ c, c < 4 → ∀ b, b < 256 → (64 * c + b / 4) &&& 51 = (b / 4) &&& 858993459 := by decide +kernel
theorem k2b : ∀ b, b < 256 → b &&& 51 = b &&& 858993459 := by decide +kernel
theorem k3b : ∀ b, b < 256 → b &&& 15 = b &&& 252645135 ∧ bc3 b = pcN 8 b ∧ bc2 b ≤ 68 := by decide +kernel
theorem k3c : ∀ b, b < 137 → b % 16 = b &&& 15 → (b &&& 15 = (b % 16) &&& 252645135) := by decide +kernel
theorem sp1 {a b : Nat} (ha : a < 1024) (hb : b < 256) : bc1 (256 * a + b) = 256 * bc1 a + bc1 b := by
  have e := and_256 ((256 * a + b) / 2) 1431655765
  rw [show (256 * a + b) / 2 / 256 = a / 2 by omega, show (256 * a + b) / 2 % 256 = 128 * (a % 2) + b / 2 by omega, show (1431655765 : Nat) / 256 = 5592405 from rfl, show (1431655765 : Nat) % 256 = 85 from rfl, k1a (a % 2) (by omega) b hb] at e
  have e2 := and_lo (y := a / 2) (m := 1431655765) (by omega)
  rw [show (1431655765 : Nat) % 16777216 = 5592405 from rfl] at e2
  have l1 : (a / 2) &&& 1431655765 ≤ a / 2 := Nat.and_le_left
  have l2 : (b / 2) &&& 1431655765 ≤ b / 2 := Nat.and_le_left
  unfold bc1
  rw [e, ← e2]
  omega
theorem bc1_le (x : Nat) : bc1 x ≤ x := Nat.sub_le _ _
theorem sp2 {a b : Nat} (ha : a < 1024) (hb : b < 256) : bc2 (256 * a + b) = 256 * bc2 a + bc2 b := by
  have la := bc1_le a
  have lb := bc1_le b
  have e := and_256 (256 * bc1 a + bc1 b) 858993459
  rw [show (256 * bc1 a + bc1 b) / 256 = bc1 a by omega, show (256 * bc1 a + bc1 b) % 256 = bc1 b by omega, show (858993459 : Nat) / 256 = 3355443 from rfl, show (858993459 : Nat) % 256 = 51 from rfl, k2b (bc1 b) (by omega)] at e
  have f := and_256 ((256 * bc1 a + bc1 b) / 4) 858993459
  rw [show (256 * bc1 a + bc1 b) / 4 / 256 = bc1 a / 4 by omega, show (256 * bc1 a + bc1 b) / 4 % 256 = 64 * (bc1 a % 4) + bc1 b / 4 by omega, show (858993459 : Nat) / 256 = 3355443 from rfl, show (858993459 : Nat) % 256 = 51 from rfl, k2a (bc1 a % 4) (by omega) (bc1 b) (by omega)] at f
  have e2 := and_lo (y := bc1 a) (m := 858993459) (by omega)
  have f2 := and_lo (y := bc1 a / 4) (m := 858993459) (by omega)
  rw [show (858993459 : Nat) % 16777216 = 3355443 from rfl] at e2 f2
  unfold bc2
  rw [sp1 ha hb, e, f, ← e2, ← f2]
  omega
theorem bc2_le (x : Nat) : bc2 x ≤ x + x := by
  have h := bc1_le x
  have l1 : bc1 x &&& 858993459 ≤ bc1 x := Nat.and_le_left
  have l2 : (bc1 x / 4) &&& 858993459 ≤ bc1 x / 4 := Nat.and_le_left
  unfold bc2
  omega
theorem sp3 {a b : Nat} (ha : a < 1024) (hb : b < 256) (hc : bc2 a % 16 ≤ 4) : bc3 (256 * a + b) = 256 * bc3 a + bc3 b := by
  have la := bc2_le a
  have lb := (k3b b hb).2.2
  have e := and_256 ((256 * bc2 a + bc2 b) + (256 * bc2 a + bc2 b) / 16) 252645135
  rw [show ((256 * bc2 a + bc2 b) + (256 * bc2 a + bc2 b) / 16) / 256 = bc2 a + bc2 a / 16 by omega, show ((256 * bc2 a + bc2 b) + (256 * bc2 a + bc2 b) / 16) % 256 = bc2 b + 16 * (bc2 a % 16) + bc2 b / 16 by omega, show (252645135 : Nat) / 256 = 986895 from rfl, show (252645135 : Nat) % 256 = 15 from rfl] at e
  have e2 := and_lo (y := bc2 a + bc2 a / 16) (m := 252645135) (by omega)
  rw [show (252645135 : Nat) % 16777216 = 986895 from rfl] at e2
  have m15 : ∀ y : Nat, y &&& 15 = y % 16 := fun y => Nat.and_two_pow_sub_one_eq_mod y 4
  have e3 : (bc2 b + bc2 b / 16) &&& 252645135 = (bc2 b + bc2 b / 16) % 16 := by
    rw [← (k3b (bc2 b + bc2 b / 16) (by omega)).1, m15]
  unfold bc3
  rw [sp2 ha hb, e, ← e2, m15, e3]
  omega
theorem pcN_split : ∀ j k m : Nat, pcN (j + k) m = pcN j (m % 2 ^ j) + pcN k (m / 2 ^ j)
  | 0, k, m => by
    rw [Nat.zero_add, Nat.pow_zero, Nat.div_one]
    show _ = 0 + _
    omega
  | j + 1, k, m => by
    have e : j + 1 + k = (j + k) + 1 := by omega
    rw [e]
    show m % 2 + pcN (j + k) (m / 2) = ((m % 2 ^ (j + 1)) % 2 + pcN j (m % 2 ^ (j + 1) / 2)) + pcN k (m / 2 ^ (j + 1))
    have p : 2 ^ (j + 1) = 2 * 2 ^ j := by rw [Nat.pow_succ, Nat.mul_comm]
    rw [pcN_split j k (m / 2), p, Nat.mod_mul_right_div_self, Nat.mod_mul_right_mod, Nat.div_div_eq_div_mul]
    omega
theorem k10 : ∀ a1, a1 < 4 → ∀ a0, a0 < 256 → bc2 (256 * a1 + a0) % 16 ≤ 4 := by decide +kernel
theorem k2p : ∀ a1, a1 < 4 → pcN 8 a1 = pcN 2 a1 ∧ bc2 a1 % 16 ≤ 4 := by decide +kernel
theorem pc8_le : ∀ b, b < 256 → pcN 8 b ≤ 8 := by decide +kernel
theorem bc18 (x : Nat) (h : x < 262144) : ((bcN x : Nat) : Int) = nS (pcF x) 18 := by
  obtain ⟨b0, hb0⟩ : ∃ b0, b0 = x % 256 := ⟨_, rfl⟩
  obtain ⟨a, ha⟩ : ∃ a, a = x / 256 := ⟨_, rfl⟩
  obtain ⟨a0, ha0⟩ : ∃ a0, a0 = a % 256 := ⟨_, rfl⟩
  obtain ⟨a1, ha1⟩ : ∃ a1, a1 = a / 256 := ⟨_, rfl⟩
  have ex : x = 256 * a + b0 := by omega
  have ea : a = 256 * a1 + a0 := by omega
  have p0 := pc8_le b0 (by omega)
  have p1 := pc8_le a0 (by omega)
  have p2 := pc8_le a1 (by omega)
  have h3 : bc3 x = 256 * bc3 a + pcN 8 b0 := by
    rw [ex, sp3 (by omega) (by omega) (by rw [ea]; exact k10 a1 (by omega) a0 (by omega)), (k3b b0 (by omega)).2.1]
  have h4 : bc3 a = 256 * pcN 8 a1 + pcN 8 a0 := by
    rw [ea, sp3 (by omega) (by omega) (k2p a1 (by omega)).2, (k3b a0 (by omega)).2.1, (k3b a1 (by omega)).2.1]
  have m63 : ∀ y : Nat, y &&& 63 = y % 64 := fun y => Nat.and_two_pow_sub_one_eq_mod y 6
  have hN : bcN x = pcN 8 b0 + pcN 8 a0 + pcN 8 a1 := by
    have c4 : bc4 x = 65536 * pcN 8 a1 + 256 * (pcN 8 a0 + pcN 8 a1) + (pcN 8 b0 + pcN 8 a0) := by
      have : (256 * bc3 a + pcN 8 b0) / 256 = bc3 a := by omega
      unfold bc4
      rw [h3, this, h4]
      omega
    have c5 : bc5 x = 65536 * pcN 8 a1 + 256 * (pcN 8 a0 + pcN 8 a1) + (pcN 8 b0 + pcN 8 a0 + pcN 8 a1) := by
      have : (65536 * pcN 8 a1 + 256 * (pcN 8 a0 + pcN 8 a1) + (pcN 8 b0 + pcN 8 a0)) / 65536 = pcN 8 a1 := by omega
      unfold bc5
      rw [c4, this]
      omega
    unfold bcN
    rw [m63, c5]
    omega
  have q1 := pcN_split 8 10 x
  have q2 := pcN_split 8 2 a
  rw [show x % 2 ^ 8 = b0 by omega, show x / 2 ^ 8 = a by omega] at q1
  rw [show a % 2 ^ 8 = a0 by omega, show a / 2 ^ 8 = a1 by omega, ← (k2p a1 (by omega)).1] at q2
  rw [pcN_is, hN]
  have q1' : pcN 18 x = pcN 8 b0 + pcN 10 a := q1
  have q2' : pcN 10 a = pcN 8 a0 + pcN 8 a1 := q2
  omega
