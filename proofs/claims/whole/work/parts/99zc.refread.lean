/-! WHAT THE REFERENCE'S READER DOES: see, isWord, passWord, numberHere, fails. -/
theorem w_of (n : Nat) : Int64.ofInt (n : Int) = Int64.ofNat n := Int64.ofInt_eq_ofNat
theorem w_to {n : Nat} (h : n < 9223372036854775808) : (Int64.ofNat n).toInt = (n : Int) := Int64.toInt_ofNat_of_lt h
theorem w_shl8 {a : Nat} (h : a < 36028797018963968) : jShl (a : Int) 8 = ((256 * a : Nat) : Int) := by
  unfold jShl
  rw [w_of]
  have e : Int64.ofNat a <<< ((Int32.ofInt 8).toInt64 &&& 63) = Int64.ofNat (256 * a) := by
    apply Int64.toBitVec_inj.mp
    rw [Int64.toBitVec_shiftLeft]
    show (BitVec.ofNat 64 a <<< (((Int32.ofInt 8).toInt64 &&& 63).toBitVec.smod 64).toNat) = BitVec.ofNat 64 (256 * a)
    rw [show (((Int32.ofInt 8).toInt64 &&& 63).toBitVec.smod 64).toNat = 8 by decide +kernel]
    apply BitVec.eq_of_toNat_eq
    rw [BitVec.toNat_shiftLeft, BitVec.toNat_ofNat, BitVec.toNat_ofNat, Nat.shiftLeft_eq, Nat.mod_eq_of_lt (a := a) (by omega), Nat.mul_comm]
  rw [e, w_to (by omega)]
theorem w_or {a b : Nat} (h : a < 9223372036854775808) (hb : b < 9223372036854775808) : jOr (a : Int) (b : Int) = ((a ||| b : Nat) : Int) := by
  unfold jOr oJ
  rw [w_of, w_of]
  have e : Int64.ofNat a ||| Int64.ofNat b = Int64.ofNat (a ||| b) := by
    apply Int64.toBitVec_inj.mp
    rw [Int64.toBitVec_or]
    show BitVec.ofNat 64 a ||| BitVec.ofNat 64 b = BitVec.ofNat 64 (a ||| b)
    apply BitVec.eq_of_getLsbD_eq
    intro i hi
    rw [BitVec.getLsbD_or, BitVec.getLsbD_ofNat, BitVec.getLsbD_ofNat, BitVec.getLsbD_ofNat, Nat.testBit_or]
    simp [hi]
  show (Int64.ofNat a ||| Int64.ofNat b).toInt = _
  rw [e, w_to (Nat.or_lt_two_pow (n := 63) h hb)]
theorem w_add {a b : Nat} (h : a < 36028797018963968) (hb : b < 256) : jOr (jShl (a : Int) 8) (b : Int) = ((256 * a + b : Nat) : Int) := by
  rw [w_shl8 h, w_or (by omega) (by omega)]
  have := Nat.shiftLeft_add_eq_or_of_lt (i := 8) (b := b) hb a
  rw [Nat.shiftLeft_eq] at this
  rw [show 256 * a = a * 2 ^ 8 by omega, ← this]
/-- the reference's tape -/
def rTp (M : sM) (T : Nat → Int) (n : Nat) : Prop := M 82 1 = (n : Int) ∧ ∀ i, i < n → M 83 i = if T i < 128 then T i else T i - 256
/-- place, fault and number of the reference's reader -/
def rS (M : sM) (q : Nat) (f v : Int) : sM := fun a i => if a = 82 ∧ i = 11 then (q : Int) else if a = 82 ∧ i = 12 then f else if a = 82 ∧ i = 13 then v else M a i
section
variable {M : sM} {q q' : Nat} {f f' v v' : Int}
theorem rS_p : rS M q f v 82 11 = q := if_pos ⟨rfl, rfl⟩
theorem rS_f : rS M q f v 82 12 = f := by unfold rS; rw [if_neg (by decide), if_pos ⟨rfl, rfl⟩]
theorem rS_v : rS M q f v 82 13 = v := by unfold rS; rw [if_neg (by decide), if_neg (by decide), if_pos ⟨rfl, rfl⟩]
theorem rS_o {a i : Nat} (h : a ≠ 82 ∨ (i ≠ 11 ∧ i ≠ 12 ∧ i ≠ 13)) : rS M q f v a i = M a i := by unfold rS; rw [if_neg (by omega), if_neg (by omega), if_neg (by omega)]
theorem rS_a {a : Nat} (h : a ≠ 82) : rS M q f v a = M a := by funext i; exact rS_o (Or.inl h)
theorem rS_up : sUpd (rS M q f v) 82 11 (q' : Int) = rS M q' f v := by
  funext a i
  unfold sUpd rS
  by_cases h : a = 82 ∧ i = 11
  · rw [if_pos h, if_pos h]
  · rw [if_neg h, if_neg h, if_neg h]
theorem rS_uf : sUpd (rS M q f v) 82 12 f' = rS M q f' v := by
  funext a i
  unfold sUpd rS
  by_cases h : a = 82 ∧ i = 12
  · rw [if_pos h, if_neg (by omega), if_pos h]
  · rw [if_neg h]
    by_cases h' : a = 82 ∧ i = 11
    · rw [if_pos h', if_pos h']
    · rw [if_neg h', if_neg h', if_neg h, if_neg h]
theorem rS_uv : sUpd (rS M q f v) 82 13 v' = rS M q f v' := by
  funext a i
  unfold sUpd rS
  by_cases h : a = 82 ∧ i = 13
  · rw [if_pos h, if_neg (by omega), if_neg (by omega), if_pos h]
  · rw [if_neg h]
    by_cases h' : a = 82 ∧ i = 11
    · rw [if_pos h', if_pos h']
    · rw [if_neg h', if_neg h']
      by_cases h2 : a = 82 ∧ i = 12
      · rw [if_pos h2, if_pos h2]
      · rw [if_neg h2, if_neg h2, if_neg h, if_neg h]
theorem rS_u {a i : Nat} {x : Int} (h : a ≠ 82 ∨ (i ≠ 11 ∧ i ≠ 12 ∧ i ≠ 13)) : sUpd (rS M q f v) a i x = rS (sUpd M a i x) q f v := by
  funext b j
  show (if b = a ∧ j = i then x else if b = 82 ∧ j = 11 then (q : Int) else if b = 82 ∧ j = 12 then f else if b = 82 ∧ j = 13 then v else M b j) = if b = 82 ∧ j = 11 then (q : Int) else if b = 82 ∧ j = 12 then f else if b = 82 ∧ j = 13 then v else if b = a ∧ j = i then x else M b j
  by_cases c : b = a ∧ j = i
  · rw [if_pos c, if_neg (by omega), if_neg (by omega), if_neg (by omega), if_pos c]
  · rw [if_neg c, if_neg c]
theorem rS_self (h1 : M 82 11 = q) (h2 : M 82 12 = f) (h3 : M 82 13 = v) : rS M q f v = M := by
  funext a i
  unfold rS
  by_cases c : a = 82 ∧ i = 11
  · rw [if_pos c, c.1, c.2, h1]
  · rw [if_neg c]
    by_cases c' : a = 82 ∧ i = 12
    · rw [if_pos c', c'.1, c'.2, h2]
    · rw [if_neg c']
      by_cases c2 : a = 82 ∧ i = 13
      · rw [if_pos c2, c2.1, c2.2, h3]
      · rw [if_neg c2]
end
section
variable {d n p : Nat} {T : Nat → Int} {P : Int → sM → sG → Prop} {PV : sM → sG → Prop} {M : sM} {G : sG} {f v : Int}
theorem rTp.l (h : rTp M T n) : rS M p f v 82 1 = (n : Int) := (rS_o (Or.inr ⟨by decide, by decide, by decide⟩)).trans h.1
theorem rTp.b (h : rTp M T n) {i : Nat} (hi : i < n) : rS M p f v 83 i = if T i < 128 then T i else T i - 256 := (rS_o (Or.inl (by decide))).trans (h.2 i hi)
theorem c177 {q : Nat} (hd : 2 ≤ d) (ho : tOk T n) (hT : rTp M T n) (k1 : q < n → 97 ≤ T q ∧ T q ≤ 122 → P 1 (rS M p f v) G) (k0 : ¬ (q < n ∧ 97 ≤ T q ∧ T q ≤ 122) → P 0 (rS M p f v) G) : sC d 177 [vO 12 82, vI (q : Int)] (rS M p f v) G (QI P) := by
  obtain ⟨d, rfl⟩ := sD 1 (d := d) (by omega)
  have h400 := ho.1
  have hl := hT.l (p := p) (f := f) (v := v)
  by_cases c : q < n
  · have hb := hT.b (p := p) (f := f) (v := v) c
    have h2 := ho.2 q c
    have hb' : rS M p f v 83 ((q : Int)).toNat = if T q < 128 then T q else T q - 256 := hb
    have e : ((97 ≤ T q ∧ T q ≤ 122) ↔ 97 ≤ rS M p f v 83 ((q : Int)).toNat ∧ rS M p f v 83 ((q : Int)).toNat ≤ 122) := by
      rw [hb']
      split <;> omega
    refine e177 (s177_0 ⟨fun q1 => ?_, fun q2 => ⟨⟨(by first | omega | assumption | (refine ⟨?_, ?_⟩ <;> omega) | (simp_all; done)), (by first | omega | assumption | (refine ⟨?_, ?_⟩ <;> omega) | (simp_all; done))⟩, fun q3 => ?_, fun q4 => ⟨fun q5 => ?_, fun q6 => ?_⟩⟩⟩)
    · omega
    · exact k0 (fun z => by have := e.1 z.2; omega)
    · exact k0 (fun z => by have := e.1 z.2; omega)
    · exact k1 c (e.2 ⟨by omega, by omega⟩)
  · refine e177 (s177_0 ⟨fun q1 => ?_, fun q2 => ⟨⟨(by first | omega | assumption | (refine ⟨?_, ?_⟩ <;> omega) | (simp_all; done)), (by first | omega | assumption | (refine ⟨?_, ?_⟩ <;> omega) | (simp_all; done))⟩, fun q3 => ?_, fun q4 => ⟨fun q5 => ?_, fun q6 => ?_⟩⟩⟩)
    · exact k0 (fun z => c z.1)
    all_goals omega
theorem c182 {q : Nat} (hd : 2 ≤ d) (ho : tOk T n) (hT : rTp M T n) (k1 : q < n → 48 ≤ T q ∧ T q ≤ 57 → P 1 (rS M p f v) G) (k0 : ¬ (q < n ∧ 48 ≤ T q ∧ T q ≤ 57) → P 0 (rS M p f v) G) : sC d 182 [vO 12 82, vI (q : Int)] (rS M p f v) G (QI P) := by
  obtain ⟨d, rfl⟩ := sD 1 (d := d) (by omega)
  have h400 := ho.1
  have hl := hT.l (p := p) (f := f) (v := v)
  by_cases c : q < n
  · have hb := hT.b (p := p) (f := f) (v := v) c
    have h2 := ho.2 q c
    have hb' : rS M p f v 83 ((q : Int)).toNat = if T q < 128 then T q else T q - 256 := hb
    have e : ((48 ≤ T q ∧ T q ≤ 57) ↔ 48 ≤ rS M p f v 83 ((q : Int)).toNat ∧ rS M p f v 83 ((q : Int)).toNat ≤ 57) := by
      rw [hb']
      split <;> omega
    refine e182 (s182_0 ⟨fun q1 => ?_, fun q2 => ⟨⟨(by first | omega | assumption | (refine ⟨?_, ?_⟩ <;> omega) | (simp_all; done)), (by first | omega | assumption | (refine ⟨?_, ?_⟩ <;> omega) | (simp_all; done))⟩, fun q3 => ?_, fun q4 => ⟨fun q5 => ?_, fun q6 => ?_⟩⟩⟩)
    · omega
    · exact k0 (fun z => by have := e.1 z.2; omega)
    · exact k0 (fun z => by have := e.1 z.2; omega)
    · exact k1 c (e.2 ⟨by omega, by omega⟩)
  · refine e182 (s182_0 ⟨fun q1 => ?_, fun q2 => ⟨⟨(by first | omega | assumption | (refine ⟨?_, ?_⟩ <;> omega) | (simp_all; done)), (by first | omega | assumption | (refine ⟨?_, ?_⟩ <;> omega) | (simp_all; done))⟩, fun q3 => ?_, fun q4 => ⟨fun q5 => ?_, fun q6 => ?_⟩⟩⟩)
    · exact k0 (fun z => c z.1)
    all_goals omega
theorem c178 {q : Nat} {k : Int} (hd : 2 ≤ d) (hx : q ≤ 400 ∧ 0 ≤ k ∧ k ≤ 7) (kk : P 0 (rS M p (if f = 0 then 1 + 8 * (q : Int) + k else f) v) G) : sC d 178 [vO 12 82, vI k, vI (q : Int)] (rS M p f v) G (QI P) := by
  obtain ⟨d, rfl⟩ := sD 1 (d := d) (by omega)
  have hf : rS M p f v 82 12 = f := rS_f
  refine e178 (s178_0 ⟨fun q1 => ?_, fun q2 => ⟨⟨by omega, by omega⟩, ⟨by omega, by omega⟩, ⟨by omega, by omega⟩, ?_⟩⟩)
  · rw [if_neg (by omega)] at kk; exact kk
  · rw [rS_uf]; rw [if_pos (by omega)] at kk; exact kk
theorem c175 (hd : 2 ≤ d) (ho : tOk T n) (hT : rTp M T n) (hp : p ≤ n) (kk : P (chr T n (blk T n p)) (rS M (blk T n p) f v) G) : sC d 175 [vO 12 82] (rS M p f v) G (QI P) := by
  obtain ⟨d, rfl⟩ := sD 1 (d := d) (by omega)
  have h400 := ho.1
  refine e175 ?_
  have key : ∀ k p, n - p = k → p ≤ n → P (chr T n (blk T n p)) (rS M (blk T n p) f v) G → sW (sC d) 175 (QI P) 0 [vO 12 82] [] (rS M p f v) G 0 0 := by
    intro k
    induction k with
    | zero =>
      intro p hk hp kk
      have hl := hT.l (p := p) (f := f) (v := v)
      have hpp : rS M p f v 82 11 = p := rS_p
      refine (s175_0 ⟨fun q1 => ?_, fun q2 => ⟨⟨(by first | omega | assumption | (refine ⟨?_, ?_⟩ <;> omega) | (simp_all; done)), (by first | omega | assumption | (refine ⟨?_, ?_⟩ <;> omega) | (simp_all; done))⟩, fun q3 => ?_, fun q4 => ⟨⟨by omega, by omega⟩, ?_⟩⟩⟩)
      · rw [show blk T n p = p from run_stop (fun z => by omega)] at kk
        unfold chr at kk
        rw [if_neg (by omega)] at kk
        exact kk
      all_goals omega
    | succ k ih =>
      intro p hk hp kk
      have hl := hT.l (p := p) (f := f) (v := v)
      have hpp : rS M p f v 82 11 = p := rS_p
      have h2 := ho.2 p (by omega)
      have hb : rS M p f v 83 (rS M p f v 82 11).toNat = if T p < 128 then T p else T p - 256 := by rw [hpp]; exact hT.b (by omega)
      have e32 : rS M p f v 83 (rS M p f v 82 11).toNat = 32 ↔ T p = 32 := by rw [hb]; split <;> omega
      refine (s175_0 ⟨fun q1 => ?_, fun q2 => ⟨⟨(by first | omega | assumption | (refine ⟨?_, ?_⟩ <;> omega) | (simp_all; done)), (by first | omega | assumption | (refine ⟨?_, ?_⟩ <;> omega) | (simp_all; done))⟩, fun q3 => ?_, fun q4 => ⟨⟨by omega, by omega⟩, ?_⟩⟩⟩)
      · omega
      · rw [show blk T n p = p from run_stop (fun z => q3 (e32.2 (bBl_i.1 z.2)))] at kk
        unfold chr at kk
        rw [if_pos (by omega)] at kk
        rw [z_and255, hb, show (if T p < 128 then T p else T p - 256) % 256 = T p by split <;> omega]; exact kk
      · rw [hpp, show ((p : Int) + 1) = ((p + 1 : Nat) : Int) from rfl, rS_up]
        refine ih (p + 1) (by omega) (by omega) ?_
        rw [show blk T n p = blk T n (p + 1) from run_go (by omega) (bBl_i.2 (e32.1 q4))] at kk
        exact kk
      all_goals omega
  exact key _ p rfl hp kk
theorem c180 (hd : 4 ≤ d) (ho : tOk T n) (hT : rTp M T n) (hp : p ≤ n) (kk : PV (rS M (lts T n p) f v) G) : sC d 180 [vO 12 82] (rS M p f v) G (QV PV) := by
  obtain ⟨d, rfl⟩ := sD 2 (d := d) (by omega)
  have h400 := ho.1
  refine e180 ?_
  have key : ∀ k p, n - p = k → p ≤ n → PV (rS M (lts T n p) f v) G → sW (sC (d + 1)) 180 (QV PV) 0 [vO 12 82] [] (rS M p f v) G 0 0 := by
    intro k
    induction k with
    | zero =>
      intro p hk hp kk
      have hpp : rS M p f v 82 11 = p := rS_p
      refine s180_0 ?_
      rw [hpp]
      refine c177 (by omega) ho hT (fun z _ => by omega) (fun _ => ?_)
      refine ⟨fun q1 => ?_, fun q2 => ⟨⟨by omega, by omega⟩, ?_⟩⟩
      · rw [show lts T n p = p from run_stop (fun z => by omega)] at kk; exact kk
      · omega
    | succ k ih =>
      intro p hk hp kk
      have hpp : rS M p f v 82 11 = p := rS_p
      refine s180_0 ?_
      rw [hpp]
      refine c177 (by omega) ho hT (fun z1 z2 => ?_) (fun z => ?_)
      · refine ⟨fun q1 => ?_, fun q2 => ⟨⟨by omega, by omega⟩, ?_⟩⟩
        · omega
        · rw [hpp, show ((p : Int) + 1) = ((p + 1 : Nat) : Int) from rfl, rS_up]
          refine ih (p + 1) (by omega) (by omega) ?_
          rw [show lts T n p = lts T n (p + 1) from run_go (by omega) (bLt_i.2 z2)] at kk
          exact kk
      · refine ⟨fun q1 => ?_, fun q2 => ⟨⟨by omega, by omega⟩, ?_⟩⟩
        · rw [show lts T n p = p from run_stop (fun y => z ⟨y.1, bLt_i.1 y.2⟩)] at kk; exact kk
        · omega
  exact key _ p rfl hp kk
end
