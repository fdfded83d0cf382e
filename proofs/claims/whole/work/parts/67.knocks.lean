/-! STEP: knocks. -/
theorem i_div16 {x : Int} (h0 : 0 ≤ x) (h1 : x < 2147483648) : iDiv x 16 = x / 16 := by
  show (Int32.ofInt x / Int32.ofInt 16).toInt = _
  rw [Int32.toInt_div, i_to h0 h1, i_to (by decide) (by decide), Int.tdiv_eq_ediv_of_nonneg h0]
  have e : Int.bmod (x / 16) 4294967296 = x / 16 := by
    rw [Int.bmod_def]
    split <;> omega
  exact e
theorem mixL {c a b B : Int} (c0 : 0 ≤ c) (c1 : c ≤ 16) (a0 : 0 ≤ a) (a1 : a ≤ B) (b0 : 0 ≤ b) (b1 : b ≤ B) : 0 ≤ c * a ∧ c * a ≤ 16 * B ∧ 0 ≤ (16 - c) * b ∧ (16 - c) * b ≤ 16 * B ∧ c * a + (16 - c) * b ≤ 16 * B := by
  have h1 := Int.mul_nonneg c0 a0
  have h2 := Int.mul_nonneg (show 0 ≤ 16 - c by omega) b0
  have h3 := Int.mul_le_mul_of_nonneg_left a1 c0
  have h4 := Int.mul_le_mul_of_nonneg_left b1 (show 0 ≤ 16 - c by omega)
  have h5 := Int.mul_nonneg c0 (show 0 ≤ B by omega)
  have h6 := Int.mul_nonneg (show 0 ≤ 16 - c by omega) (show 0 ≤ B by omega)
  have h7 : c * B + (16 - c) * B = 16 * B := by rw [← Int.add_mul]; congr 1; omega
  omega
def kLet (m : Nat → Int) (n w e q : Int) : Int := if e < q + n then -1 else 1000 * w + m (q + n).toNat
def kMax (m : Nat → Int) (n w e q : Int) : Int := if m (q + 1).toNat < kLet m n w e q then kLet m n w e q else m (q + 1).toNat
def kStp (m : Nat → Int) (c n w e q : Int) : Int := (c * kMax m n w e q + (16 - c) * m (q + 1).toNat) / 16
def kInv (m : Nat → Int) (c n w e s : Int) : Prop := m e.toNat = 0 ∧ ∀ q : Int, s < q → 0 ≤ q → q < e → m q.toNat = kStp m c n w e q ∧ 0 ≤ m q.toNat ∧ m q.toNat ≤ 99000 * (e - q)
theorem kInv.b {m : Nat → Int} {c n w e s q : Int} (h : kInv m c n w e s) (he : e ≤ 95) (q0 : s < q) (q1 : 0 ≤ q) (q2 : q ≤ e) : 0 ≤ m q.toNat ∧ m q.toNat ≤ 99000 * (e - q) := by
  by_cases c : q < e
  · exact (h.2 q q0 q1 c).2
  · rw [show q = e by omega, h.1]; omega
theorem kInv.mx {m : Nat → Int} {c n w e s q : Int} (h : kInv m c n w e s) (he : e ≤ 95) (hn : 1 ≤ n) (hw : 0 ≤ w ∧ w ≤ 99) (q0 : s ≤ q) (q1 : 0 ≤ q) (q2 : q < e) : (0 ≤ kMax m n w e q ∧ kMax m n w e q ≤ 99000 * (e - q)) ∧ -1 ≤ kLet m n w e q ∧ kLet m n w e q ≤ 99000 * (e - q) := by
  have b1 := h.b he (q := q + 1) (by omega) (by omega) (by omega)
  have hl : -1 ≤ kLet m n w e q ∧ kLet m n w e q ≤ 99000 * (e - q) := by
    unfold kLet
    split
    · omega
    · have b2 := h.b he (q := q + n) (by omega) (by omega) (by omega)
      omega
  refine ⟨?_, hl⟩
  unfold kMax
  split <;> omega
theorem kInv.st {m : Nat → Int} {c n w e s q : Int} (h : kInv m c n w e s) (he : e ≤ 95) (hc : 0 ≤ c ∧ c ≤ 16) (hn : 1 ≤ n) (hw : 0 ≤ w ∧ w ≤ 99) (q0 : s ≤ q) (q1 : 0 ≤ q) (q2 : q < e) : 0 ≤ kStp m c n w e q ∧ kStp m c n w e q ≤ 99000 * (e - q) := by
  have b1 := h.b he (q := q + 1) (by omega) (by omega) (by omega)
  have b2 := (h.mx he hn hw q0 q1 q2).1
  have := mixL (B := 99000 * (e - q)) hc.1 hc.2 b2.1 b2.2 b1.1 (by omega)
  unfold kStp
  omega
theorem kStp_congr {m m' : Nat → Int} {c n w e q : Int} (q1 : 0 ≤ q) (hn : 1 ≤ n) (h : ∀ r : Int, q < r → m' r.toNat = m r.toNat) : kStp m' c n w e q = kStp m c n w e q := by
  unfold kStp kMax kLet
  rw [h (q + 1) (by omega), h (q + n) (by omega)]
theorem kInv.next {m : Nat → Int} {c n w e s : Int} (h : kInv m c n w e s) (he : e ≤ 95) (hc : 0 ≤ c ∧ c ≤ 16) (hn : 1 ≤ n) (hw : 0 ≤ w ∧ w ≤ 99) (s0 : 0 ≤ s) (s1 : s < e) : kInv (uS m s.toNat (kStp m c n w e s)) c n w e (s - 1) := by
  have hs := h.st he hc hn hw (Int.le_refl s) s0 s1
  refine ⟨(uS_ne (by omega)).trans h.1, fun q q0 q1 q2 => ?_⟩
  have e1 : kStp (uS m s.toNat (kStp m c n w e s)) c n w e q = kStp m c n w e q := kStp_congr q1 hn (fun r hr => uS_ne (by omega))
  rw [e1]
  by_cases c : q = s
  · rw [c, uS_eq rfl]; exact ⟨rfl, hs⟩
  · rw [uS_ne (by omega)]; exact h.2 q (by omega) q1 q2
theorem kInv.uniq {m m' : Nat → Int} {c n w e s s' : Int} (he : e ≤ 95) (hn : 1 ≤ n) (h : kInv m c n w e s) (h' : kInv m' c n w e s') : ∀ (k : Nat) (q : Int), q + k = e → s < q → s' < q → 0 ≤ q → m' q.toNat = m q.toNat := by
  intro k
  induction k using Nat.strongRecOn with
  | ind k ih =>
    intro q hk hs hs' h0
    by_cases c : q < e
    · rw [(h.2 q hs h0 c).1, (h'.2 q hs' h0 c).1]
      unfold kStp kMax kLet
      rw [ih (k - 1) (by omega) (q + 1) (by omega) (by omega) (by omega) (by omega)]
      by_cases c2 : e < q + n
      · rw [if_pos c2, if_pos c2]
      · rw [if_neg c2, if_neg c2, ih (k - n.toNat) (by omega) (q + n) (by omega) (by omega) (by omega) (by omega)]
    · rw [show q = e by omega, h.1, h'.1]
section
variable {d : Nat} {P : Int → sM → sG → Prop} {PV : sM → sG → Prop} {M : sM} {G : sG}
theorem c161 {c n w e : Int} (hd : 20 ≤ d) (he : 0 ≤ e ∧ e ≤ 95) (hc : 0 ≤ c ∧ c ≤ 16) (hn : 1 ≤ n ∧ n ≤ 95) (hw : 0 ≤ w ∧ w ≤ 99) (kk : ∀ M' : sM, (∀ a, a ≠ 81 → M' a = M a) → kInv (M' 81) c n w e (-1) → (∀ q : Int, e ≤ q → q < 97 → M' 81 q.toNat = 0) → PV M' G) : sC d 161 [vO 2 78, vI c, vI n, vI (1000 * w), vI e] M G (QV PV) := by
  obtain ⟨d, rfl⟩ := sD 9 (d := d) (by omega)
  refine e161 (s161_0 (c6 (by omega) (by decide) (by decide) ?_))
  rw [if_neg (by omega)]
  refine ⟨⟨by omega, by omega⟩, ?_⟩
  rw [show e - 1 = e - 1 - ((0 : Nat) : Int) by omega]
  refine sUpTo (W := fun i => ∀ N : sM, (∀ a, a ≠ 81 → N a = M a) → kInv (N 81) c n w e (e - 1 - (i : Int)) → (∀ q : Int, e ≤ q → q < 97 → N 81 q.toNat = 0) → sW (sC (d + 8)) 161 (QV PV) 19 [vO 2 78, vI c, vI n, vI (1000 * w), vI e, vI (e - 1 - (i : Int)), vN, vN] [] N G 0 0) e.toNat ?_ ?_ (sFill M 81 (Int.toNat 97) 0) (fun a ha => sFill_ne ha) ?_ (fun q q0 q1 => if_pos ⟨rfl, by omega⟩)
  · intro N n1 n2 n9
    refine (s161_19 ⟨fun q1 => ?_, fun q2 => ⟨⟨by omega, by omega⟩, ⟨(by first | omega | assumption | (refine ⟨?_, ?_⟩ <;> omega) | (simp_all; done)), (by first | omega | assumption | (refine ⟨?_, ?_⟩ <;> omega) | (simp_all; done))⟩, ⟨by omega, by omega⟩, fun q3 => ⟨⟨by omega, by omega⟩, ⟨by omega, by omega⟩, ⟨by omega, by omega⟩, ⟨by omega, by omega⟩, ⟨(by first | omega | assumption | (refine ⟨?_, ?_⟩ <;> omega) | (simp_all; done)), (by first | omega | assumption | (refine ⟨?_, ?_⟩ <;> omega) | (simp_all; done))⟩, ⟨by omega, by omega⟩, ?_⟩, fun q4 => ⟨fun q5 => ⟨⟨by omega, by omega⟩, ⟨by omega, by omega⟩, ⟨by omega, by omega⟩, ⟨by omega, by omega⟩, ⟨by omega, by omega⟩, ⟨(by first | omega | assumption | (refine ⟨?_, ?_⟩ <;> omega) | (simp_all; done)), (by first | omega | assumption | (refine ⟨?_, ?_⟩ <;> omega) | (simp_all; done))⟩, ⟨by omega, by omega⟩, ?_⟩, fun q6 => ⟨fun q7 => ⟨⟨by omega, by omega⟩, ⟨by omega, by omega⟩, ⟨by omega, by omega⟩, ⟨by omega, by omega⟩, ⟨by omega, by omega⟩, ⟨(by first | omega | assumption | (refine ⟨?_, ?_⟩ <;> omega) | (simp_all; done)), (by first | omega | assumption | (refine ⟨?_, ?_⟩ <;> omega) | (simp_all; done))⟩, ⟨by omega, by omega⟩, ?_⟩, fun q8 => ⟨⟨(by first | omega | assumption | (refine ⟨?_, ?_⟩ <;> omega) | (simp_all; done)), (by first | omega | assumption | (refine ⟨?_, ?_⟩ <;> omega) | (simp_all; done))⟩, ⟨by omega, by omega⟩, ⟨by omega, by omega⟩, ⟨by omega, by omega⟩, ⟨by omega, by omega⟩, ⟨by omega, by omega⟩, ⟨(by first | omega | assumption | (refine ⟨?_, ?_⟩ <;> omega) | (simp_all; done)), (by first | omega | assumption | (refine ⟨?_, ?_⟩ <;> omega) | (simp_all; done))⟩, ⟨by omega, by omega⟩, ?_⟩⟩⟩⟩⟩)
    · refine kk N n1 ?_ n9
      rw [show e - 1 - ((e.toNat : Nat) : Int) = -1 by omega] at n2
      exact n2
    all_goals omega
  · intro i hi ih N n1 n2 n9
    have n0 := n2.next he.2 hc hn.1 hw (by omega) (by omega)
    have mx := n2.mx he.2 hn.1 hw (Int.le_refl _) (by omega) (by omega)
    have b1 := n2.b he.2 (q := e - 1 - (i : Int) + 1) (by omega) (by omega) (by omega)
    have ml := mixL (B := 99000 * (e - (e - 1 - (i : Int)))) hc.1 hc.2 mx.1.1 mx.1.2 b1.1 (by omega)
    have fin : ∀ v : Int, v = kStp (N 81) c n w e (e - 1 - (i : Int)) → sW (sC (d + 8)) 161 (QV PV) 19 [vO 2 78, vI c, vI n, vI (1000 * w), vI e, vI ((e - 1 - (i : Int)) + (-1)), vN, vN] [] (sUpd N 81 (e - 1 - (i : Int)).toNat v) G 0 0 := fun v hv => by
      have := ih (sUpd N 81 (e - 1 - (i : Int)).toNat v) (fun a ha => (sUpd_ne ha).trans (n1 a ha)) (by
        have e2 : sUpd N 81 (e - 1 - (i : Int)).toNat v 81 = uS (N 81) (e - 1 - (i : Int)).toNat v := by funext j; exact sUpd_at
        rw [e2, hv, show e - 1 - ((i + 1 : Nat) : Int) = e - 1 - (i : Int) - 1 by omega]
        exact n0) (fun q q0 q1 => (sUpd_ni (by omega)).trans (n9 q q0 q1))
      rw [show e - 1 - ((i + 1 : Nat) : Int) = (e - 1 - (i : Int)) + (-1) by omega] at this
      exact this
    have kl : kLet (N 81) n w e (e - 1 - (i : Int)) = if e < e - 1 - (i : Int) + n then -1 else 1000 * w + N 81 (e - 1 - (i : Int) + n).toNat := rfl
    have km : kMax (N 81) n w e (e - 1 - (i : Int)) = if N 81 (e - 1 - (i : Int) + 1).toNat < kLet (N 81) n w e (e - 1 - (i : Int)) then kLet (N 81) n w e (e - 1 - (i : Int)) else N 81 (e - 1 - (i : Int) + 1).toNat := rfl
    by_cases cl : e < e - 1 - (i : Int) + n
    · rw [kl, if_pos cl] at km
      rw [km] at ml
      have kv : kStp (N 81) c n w e (e - 1 - (i : Int)) = (c * (if N 81 (e - 1 - (i : Int) + 1).toNat < -1 then -1 else N 81 (e - 1 - (i : Int) + 1).toNat) + (16 - c) * N 81 (e - 1 - (i : Int) + 1).toNat) / 16 := by unfold kStp; rw [km]
      rw [kv] at fin
      clear km kl kv mx ih n0 n1 n2
      refine (s161_19 ⟨fun q1 => ?_, fun q2 => ⟨⟨by omega, by omega⟩, ⟨(by first | omega | assumption | (refine ⟨?_, ?_⟩ <;> omega) | (simp_all; done)), (by first | omega | assumption | (refine ⟨?_, ?_⟩ <;> omega) | (simp_all; done))⟩, ⟨by omega, by omega⟩, fun q3 => ⟨⟨by omega, by omega⟩, ⟨by omega, by omega⟩, ⟨by omega, by omega⟩, ⟨by omega, by omega⟩, ⟨(by first | omega | assumption | (refine ⟨?_, ?_⟩ <;> omega) | (simp_all; done)), (by first | omega | assumption | (refine ⟨?_, ?_⟩ <;> omega) | (simp_all; done))⟩, ⟨by omega, by omega⟩, ?_⟩, fun q4 => ⟨fun q5 => ⟨⟨by omega, by omega⟩, ⟨by omega, by omega⟩, ⟨by omega, by omega⟩, ⟨by omega, by omega⟩, ⟨by omega, by omega⟩, ⟨(by first | omega | assumption | (refine ⟨?_, ?_⟩ <;> omega) | (simp_all; done)), (by first | omega | assumption | (refine ⟨?_, ?_⟩ <;> omega) | (simp_all; done))⟩, ⟨by omega, by omega⟩, ?_⟩, fun q6 => ⟨fun q7 => ⟨⟨by omega, by omega⟩, ⟨by omega, by omega⟩, ⟨by omega, by omega⟩, ⟨by omega, by omega⟩, ⟨by omega, by omega⟩, ⟨(by first | omega | assumption | (refine ⟨?_, ?_⟩ <;> omega) | (simp_all; done)), (by first | omega | assumption | (refine ⟨?_, ?_⟩ <;> omega) | (simp_all; done))⟩, ⟨by omega, by omega⟩, ?_⟩, fun q8 => ⟨⟨(by first | omega | assumption | (refine ⟨?_, ?_⟩ <;> omega) | (simp_all; done)), (by first | omega | assumption | (refine ⟨?_, ?_⟩ <;> omega) | (simp_all; done))⟩, ⟨by omega, by omega⟩, ⟨by omega, by omega⟩, ⟨by omega, by omega⟩, ⟨by omega, by omega⟩, ⟨by omega, by omega⟩, ⟨(by first | omega | assumption | (refine ⟨?_, ?_⟩ <;> omega) | (simp_all; done)), (by first | omega | assumption | (refine ⟨?_, ?_⟩ <;> omega) | (simp_all; done))⟩, ⟨by omega, by omega⟩, ?_⟩⟩⟩⟩⟩)
      all_goals try omega
      refine fin _ (i_div16 (by omega) (by omega))
    · rw [kl, if_neg cl] at km
      rw [kl, if_neg cl] at mx
      rw [km] at ml
      have kv : kStp (N 81) c n w e (e - 1 - (i : Int)) = (c * (if N 81 (e - 1 - (i : Int) + 1).toNat < 1000 * w + N 81 (e - 1 - (i : Int) + n).toNat then 1000 * w + N 81 (e - 1 - (i : Int) + n).toNat else N 81 (e - 1 - (i : Int) + 1).toNat) + (16 - c) * N 81 (e - 1 - (i : Int) + 1).toNat) / 16 := by unfold kStp; rw [km]
      rw [kv] at fin
      have mx2 := mx.2
      clear km kl kv mx ih n0 n1 n2
      refine (s161_19 ⟨fun q1 => ?_, fun q2 => ⟨⟨by omega, by omega⟩, ⟨(by first | omega | assumption | (refine ⟨?_, ?_⟩ <;> omega) | (simp_all; done)), (by first | omega | assumption | (refine ⟨?_, ?_⟩ <;> omega) | (simp_all; done))⟩, ⟨by omega, by omega⟩, fun q3 => ⟨⟨by omega, by omega⟩, ⟨by omega, by omega⟩, ⟨by omega, by omega⟩, ⟨by omega, by omega⟩, ⟨(by first | omega | assumption | (refine ⟨?_, ?_⟩ <;> omega) | (simp_all; done)), (by first | omega | assumption | (refine ⟨?_, ?_⟩ <;> omega) | (simp_all; done))⟩, ⟨by omega, by omega⟩, ?_⟩, fun q4 => ⟨fun q5 => ⟨⟨by omega, by omega⟩, ⟨by omega, by omega⟩, ⟨by omega, by omega⟩, ⟨by omega, by omega⟩, ⟨by omega, by omega⟩, ⟨(by first | omega | assumption | (refine ⟨?_, ?_⟩ <;> omega) | (simp_all; done)), (by first | omega | assumption | (refine ⟨?_, ?_⟩ <;> omega) | (simp_all; done))⟩, ⟨by omega, by omega⟩, ?_⟩, fun q6 => ⟨fun q7 => ⟨⟨by omega, by omega⟩, ⟨by omega, by omega⟩, ⟨by omega, by omega⟩, ⟨by omega, by omega⟩, ⟨by omega, by omega⟩, ⟨(by first | omega | assumption | (refine ⟨?_, ?_⟩ <;> omega) | (simp_all; done)), (by first | omega | assumption | (refine ⟨?_, ?_⟩ <;> omega) | (simp_all; done))⟩, ⟨by omega, by omega⟩, ?_⟩, fun q8 => ⟨⟨(by first | omega | assumption | (refine ⟨?_, ?_⟩ <;> omega) | (simp_all; done)), (by first | omega | assumption | (refine ⟨?_, ?_⟩ <;> omega) | (simp_all; done))⟩, ⟨by omega, by omega⟩, ⟨by omega, by omega⟩, ⟨by omega, by omega⟩, ⟨by omega, by omega⟩, ⟨by omega, by omega⟩, ⟨(by first | omega | assumption | (refine ⟨?_, ?_⟩ <;> omega) | (simp_all; done)), (by first | omega | assumption | (refine ⟨?_, ?_⟩ <;> omega) | (simp_all; done))⟩, ⟨by omega, by omega⟩, ?_⟩⟩⟩⟩⟩)
      all_goals try omega
      refine fin _ (i_div16 (by omega) (by omega))
  · exact ⟨if_pos ⟨rfl, by omega⟩, fun q q0 q1 q2 => by omega⟩
theorem L160 (t c n w e x5 x6 : Int) : Step t 160 273 [vI c, vI n, vI w, vI e, vI x5, vI x6] := by
  intro d M G hd hI
  have hI1 := hI.same (kp.refl [] M)
  by_cases hg : 0 ≤ c ∧ c ≤ 16 ∧ 1 ≤ n ∧ n ≤ 95 ∧ 0 ≤ w ∧ w ≤ 99 ∧ 0 ≤ e ∧ e ≤ 95 ∧ 0 ≤ x5 ∧ x5 ≤ e ∧ 0 ≤ x6 ∧ x6 ≤ 1
  · have ref : ∀ (M1 : sM) (r : Int), (∀ a, a ≠ 81 → M1 a = M a) → (∀ m : Nat → Int, kInv m c n w e (x5 - 1) → (x6 = 0 → r = m x5.toNat) ∧ (x6 = 1 → r = if x5 < e then (if m (x5 + 1).toNat < kLet m n w e x5 then 1 else 0) else 0)) → sC d 273 [vO 12 82, vI c, vI n, vI w, vI e, vI x5, vI x6] M1 G (QI (LPost t r)) := fun M1 r h1 hr => by
      obtain ⟨d, rfl⟩ := sD 7 (d := d) (by omega)
      refine e273 (s273_0 ⟨fun q1 => ?_, fun q2 => ⟨fun q3 => ?_, fun q4 => ⟨fun q5 => ?_, fun q6 => ⟨fun q7 => ?_, fun q8 => ⟨fun q9 => ?_, fun q10 => ⟨fun q11 => ?_, fun q12 => ⟨fun q13 => ?_, fun q14 => ⟨fun q15 => ?_, fun q16 => ⟨fun q17 => ?_, fun q18 => ⟨fun q19 => ?_, fun q20 => ⟨fun q21 => ?_, fun q22 => ⟨fun q23 => ?_, fun q24 => ⟨⟨(by first | omega | assumption | (refine ⟨?_, ?_⟩ <;> omega) | (simp_all; done)), (by first | omega | assumption | (refine ⟨?_, ?_⟩ <;> omega) | (simp_all; done))⟩, ⟨by omega, by omega⟩, ?_⟩⟩⟩⟩⟩⟩⟩⟩⟩⟩⟩⟩⟩)
      all_goals try omega
      rw [show e - 1 = e - 1 - ((0 : Nat) : Int) by omega]
      refine sUpTo (W := fun i => ∀ N : sM, (∀ a, a ≠ 81 → a ≠ 105 → N a = M a) → kInv (N 105) c n w e (e - 1 - (i : Int)) → sW (sC (d + 6)) 273 (QI (LPost t r)) 92 [vO 12 82, vI c, vI n, vI w, vI e, vI x5, vI x6, vI (if 0 < i then (if N 105 (e - (i : Int) + 1).toNat < kLet (N 105) n w e (e - (i : Int)) then 1 else 0) else 0), vI (e - 1 - (i : Int)), vN] [] N G 0 0) (e - x5).toNat ?_ ?_ (sUpd M1 105 e.toNat 0) (fun a a1 a2 => (sUpd_ne a2).trans (h1 a a1)) ⟨sUpd_eq, fun q q0 q1 q2 => by omega⟩
      · intro N n1 n2
        have fin : Inv (t + 1) N G := hI.same ⟨fun a _ ha => n1 a (by omega) (by omega), fun _ => by rw [n1 1 (by decide) (by decide)], fun _ => by rw [n1 3 (by decide) (by decide)], fun _ => by rw [n1 82 (by decide) (by decide)]; exact ⟨rfl, rfl⟩⟩
        rw [show e - 1 - (((e - x5).toNat : Nat) : Int) = x5 - 1 by omega] at n2 ⊢
        have hr' := hr (N 105) n2
        refine (s273_92 ⟨fun q1 => ⟨fun q2 => ?_, fun q3 => ⟨⟨(by first | omega | assumption | (refine ⟨?_, ?_⟩ <;> omega) | (simp_all; done)), (by first | omega | assumption | (refine ⟨?_, ?_⟩ <;> omega) | (simp_all; done))⟩, ?_⟩⟩, fun q4 => ⟨⟨by omega, by omega⟩, fun q5 => ⟨⟨by omega, by omega⟩, ⟨(by first | omega | assumption | (refine ⟨?_, ?_⟩ <;> omega) | (simp_all; done)), (by first | omega | assumption | (refine ⟨?_, ?_⟩ <;> omega) | (simp_all; done))⟩, fun q6 => ⟨⟨by omega, by omega⟩, ⟨by omega, by omega⟩, ⟨by omega, by omega⟩, ⟨by omega, by omega⟩, ⟨(by first | omega | assumption | (refine ⟨?_, ?_⟩ <;> omega) | (simp_all; done)), (by first | omega | assumption | (refine ⟨?_, ?_⟩ <;> omega) | (simp_all; done))⟩, ⟨by omega, by omega⟩, ?_⟩, fun q7 => ⟨⟨by omega, by omega⟩, ⟨by omega, by omega⟩, ⟨by omega, by omega⟩, ⟨by omega, by omega⟩, ⟨(by first | omega | assumption | (refine ⟨?_, ?_⟩ <;> omega) | (simp_all; done)), (by first | omega | assumption | (refine ⟨?_, ?_⟩ <;> omega) | (simp_all; done))⟩, ⟨by omega, by omega⟩, ?_⟩⟩, fun q8 => ⟨⟨by omega, by omega⟩, ⟨(by first | omega | assumption | (refine ⟨?_, ?_⟩ <;> omega) | (simp_all; done)), (by first | omega | assumption | (refine ⟨?_, ?_⟩ <;> omega) | (simp_all; done))⟩, ⟨by omega, by omega⟩, ⟨by omega, by omega⟩, ⟨(by first | omega | assumption | (refine ⟨?_, ?_⟩ <;> omega) | (simp_all; done)), (by first | omega | assumption | (refine ⟨?_, ?_⟩ <;> omega) | (simp_all; done))⟩, fun q9 => ⟨⟨by omega, by omega⟩, ⟨by omega, by omega⟩, ⟨by omega, by omega⟩, ⟨by omega, by omega⟩, ⟨(by first | omega | assumption | (refine ⟨?_, ?_⟩ <;> omega) | (simp_all; done)), (by first | omega | assumption | (refine ⟨?_, ?_⟩ <;> omega) | (simp_all; done))⟩, ⟨by omega, by omega⟩, ?_⟩, fun q10 => ⟨⟨by omega, by omega⟩, ⟨by omega, by omega⟩, ⟨by omega, by omega⟩, ⟨by omega, by omega⟩, ⟨(by first | omega | assumption | (refine ⟨?_, ?_⟩ <;> omega) | (simp_all; done)), (by first | omega | assumption | (refine ⟨?_, ?_⟩ <;> omega) | (simp_all; done))⟩, ⟨by omega, by omega⟩, ?_⟩⟩⟩⟩)
        · refine ⟨?_, fin⟩
          rw [hr'.2 (by omega), show e - (((e - x5).toNat : Nat) : Int) = x5 by omega]
          by_cases z : x5 < e
          · rw [if_pos z, if_pos (c := 0 < (e - x5).toNat) (by omega)]
          · rw [if_neg z, if_neg (c := 0 < (e - x5).toNat) (by omega)]
        · exact ⟨(hr'.1 (by omega)).symm, fin⟩
        all_goals omega
      · intro i hi ih N n1 n2
        have n0 := n2.next hg.2.2.2.2.2.2.2.1 ⟨hg.1, hg.2.1⟩ hg.2.2.1 ⟨hg.2.2.2.2.1, hg.2.2.2.2.2.1⟩ (by omega) (by omega)
        have mx := n2.mx hg.2.2.2.2.2.2.2.1 hg.2.2.1 ⟨hg.2.2.2.2.1, hg.2.2.2.2.2.1⟩ (Int.le_refl _) (by omega) (by omega)
        have b1 := n2.b hg.2.2.2.2.2.2.2.1 (q := e - 1 - (i : Int) + 1) (by omega) (by omega) (by omega)
        have ml := mixL (B := 99000 * (e - (e - 1 - (i : Int)))) hg.1 hg.2.1 mx.1.1 mx.1.2 b1.1 (by omega)
        have kl : kLet (N 105) n w e (e - 1 - (i : Int)) = if e < e - 1 - (i : Int) + n then -1 else 1000 * w + N 105 (e - 1 - (i : Int) + n).toNat := rfl
        have km : kMax (N 105) n w e (e - 1 - (i : Int)) = if N 105 (e - 1 - (i : Int) + 1).toNat < kLet (N 105) n w e (e - 1 - (i : Int)) then kLet (N 105) n w e (e - 1 - (i : Int)) else N 105 (e - 1 - (i : Int) + 1).toNat := rfl
        have fin : ∀ v x7 : Int, v = kStp (N 105) c n w e (e - 1 - (i : Int)) → x7 = (if N 105 (e - 1 - (i : Int) + 1).toNat < kLet (N 105) n w e (e - 1 - (i : Int)) then 1 else 0) → sW (sC (d + 6)) 273 (QI (LPost t r)) 92 [vO 12 82, vI c, vI n, vI w, vI e, vI x5, vI x6, vI x7, vI ((e - 1 - (i : Int)) + (-1)), vN] [] (sUpd N 105 (e - 1 - (i : Int)).toNat v) G 0 0 := fun v x7 hv hx => by
          have e2 : sUpd N 105 (e - 1 - (i : Int)).toNat v 105 = uS (N 105) (e - 1 - (i : Int)).toNat v := by funext j; exact sUpd_at
          have := ih (sUpd N 105 (e - 1 - (i : Int)).toNat v) (fun a a1 a2 => (sUpd_ne a2).trans (n1 a a1 a2)) (by
            rw [e2, hv, show e - 1 - ((i + 1 : Nat) : Int) = e - 1 - (i : Int) - 1 by omega]
            exact n0)
          rw [if_pos (Nat.succ_pos i), e2, show e - ((i + 1 : Nat) : Int) = e - 1 - (i : Int) by omega, show e - 1 - ((i + 1 : Nat) : Int) = (e - 1 - (i : Int)) + (-1) by omega] at this
          have k2 : kLet (uS (N 105) (e - 1 - (i : Int)).toNat v) n w e (e - 1 - (i : Int)) = kLet (N 105) n w e (e - 1 - (i : Int)) := by unfold kLet; rw [uS_ne (by omega)]
          rw [k2, uS_ne (by omega)] at this
          rw [hx]
          exact this
        by_cases cl : e < e - 1 - (i : Int) + n
        · rw [kl, if_pos cl] at km fin
          rw [if_neg (by omega)] at km
          rw [km] at ml
          have kv : kStp (N 105) c n w e (e - 1 - (i : Int)) = (c * N 105 (e - 1 - (i : Int) + 1).toNat + (16 - c) * N 105 (e - 1 - (i : Int) + 1).toNat) / 16 := by unfold kStp; rw [km]
          rw [kv] at fin
          clear km kl kv mx ih n0 n1 n2
          refine (s273_92 ⟨fun q1 => ⟨fun q2 => ?_, fun q3 => ⟨⟨(by first | omega | assumption | (refine ⟨?_, ?_⟩ <;> omega) | (simp_all; done)), (by first | omega | assumption | (refine ⟨?_, ?_⟩ <;> omega) | (simp_all; done))⟩, ?_⟩⟩, fun q4 => ⟨⟨by omega, by omega⟩, fun q5 => ⟨⟨by omega, by omega⟩, ⟨(by first | omega | assumption | (refine ⟨?_, ?_⟩ <;> omega) | (simp_all; done)), (by first | omega | assumption | (refine ⟨?_, ?_⟩ <;> omega) | (simp_all; done))⟩, fun q6 => ⟨⟨by omega, by omega⟩, ⟨by omega, by omega⟩, ⟨by omega, by omega⟩, ⟨by omega, by omega⟩, ⟨(by first | omega | assumption | (refine ⟨?_, ?_⟩ <;> omega) | (simp_all; done)), (by first | omega | assumption | (refine ⟨?_, ?_⟩ <;> omega) | (simp_all; done))⟩, ⟨by omega, by omega⟩, ?_⟩, fun q7 => ⟨⟨by omega, by omega⟩, ⟨by omega, by omega⟩, ⟨by omega, by omega⟩, ⟨by omega, by omega⟩, ⟨(by first | omega | assumption | (refine ⟨?_, ?_⟩ <;> omega) | (simp_all; done)), (by first | omega | assumption | (refine ⟨?_, ?_⟩ <;> omega) | (simp_all; done))⟩, ⟨by omega, by omega⟩, ?_⟩⟩, fun q8 => ⟨⟨by omega, by omega⟩, ⟨(by first | omega | assumption | (refine ⟨?_, ?_⟩ <;> omega) | (simp_all; done)), (by first | omega | assumption | (refine ⟨?_, ?_⟩ <;> omega) | (simp_all; done))⟩, ⟨by omega, by omega⟩, ⟨by omega, by omega⟩, ⟨(by first | omega | assumption | (refine ⟨?_, ?_⟩ <;> omega) | (simp_all; done)), (by first | omega | assumption | (refine ⟨?_, ?_⟩ <;> omega) | (simp_all; done))⟩, fun q9 => ⟨⟨by omega, by omega⟩, ⟨by omega, by omega⟩, ⟨by omega, by omega⟩, ⟨by omega, by omega⟩, ⟨(by first | omega | assumption | (refine ⟨?_, ?_⟩ <;> omega) | (simp_all; done)), (by first | omega | assumption | (refine ⟨?_, ?_⟩ <;> omega) | (simp_all; done))⟩, ⟨by omega, by omega⟩, ?_⟩, fun q10 => ⟨⟨by omega, by omega⟩, ⟨by omega, by omega⟩, ⟨by omega, by omega⟩, ⟨by omega, by omega⟩, ⟨(by first | omega | assumption | (refine ⟨?_, ?_⟩ <;> omega) | (simp_all; done)), (by first | omega | assumption | (refine ⟨?_, ?_⟩ <;> omega) | (simp_all; done))⟩, ⟨by omega, by omega⟩, ?_⟩⟩⟩⟩)
          all_goals try omega
          exact fin _ _ (i_div16 (by omega) (by omega)) (if_neg (by omega)).symm
        · rw [kl, if_neg cl] at km fin mx
          by_cases cm : N 105 (e - 1 - (i : Int) + 1).toNat < 1000 * w + N 105 (e - 1 - (i : Int) + n).toNat
          · rw [if_pos cm] at km
            rw [km] at ml
            have kv : kStp (N 105) c n w e (e - 1 - (i : Int)) = (c * (1000 * w + N 105 (e - 1 - (i : Int) + n).toNat) + (16 - c) * N 105 (e - 1 - (i : Int) + 1).toNat) / 16 := by unfold kStp; rw [km]
            rw [kv] at fin
            have mx2 := mx.2
            clear km kl kv mx ih n0 n1 n2
            refine (s273_92 ⟨fun q1 => ⟨fun q2 => ?_, fun q3 => ⟨⟨(by first | omega | assumption | (refine ⟨?_, ?_⟩ <;> omega) | (simp_all; done)), (by first | omega | assumption | (refine ⟨?_, ?_⟩ <;> omega) | (simp_all; done))⟩, ?_⟩⟩, fun q4 => ⟨⟨by omega, by omega⟩, fun q5 => ⟨⟨by omega, by omega⟩, ⟨(by first | omega | assumption | (refine ⟨?_, ?_⟩ <;> omega) | (simp_all; done)), (by first | omega | assumption | (refine ⟨?_, ?_⟩ <;> omega) | (simp_all; done))⟩, fun q6 => ⟨⟨by omega, by omega⟩, ⟨by omega, by omega⟩, ⟨by omega, by omega⟩, ⟨by omega, by omega⟩, ⟨(by first | omega | assumption | (refine ⟨?_, ?_⟩ <;> omega) | (simp_all; done)), (by first | omega | assumption | (refine ⟨?_, ?_⟩ <;> omega) | (simp_all; done))⟩, ⟨by omega, by omega⟩, ?_⟩, fun q7 => ⟨⟨by omega, by omega⟩, ⟨by omega, by omega⟩, ⟨by omega, by omega⟩, ⟨by omega, by omega⟩, ⟨(by first | omega | assumption | (refine ⟨?_, ?_⟩ <;> omega) | (simp_all; done)), (by first | omega | assumption | (refine ⟨?_, ?_⟩ <;> omega) | (simp_all; done))⟩, ⟨by omega, by omega⟩, ?_⟩⟩, fun q8 => ⟨⟨by omega, by omega⟩, ⟨(by first | omega | assumption | (refine ⟨?_, ?_⟩ <;> omega) | (simp_all; done)), (by first | omega | assumption | (refine ⟨?_, ?_⟩ <;> omega) | (simp_all; done))⟩, ⟨by omega, by omega⟩, ⟨by omega, by omega⟩, ⟨(by first | omega | assumption | (refine ⟨?_, ?_⟩ <;> omega) | (simp_all; done)), (by first | omega | assumption | (refine ⟨?_, ?_⟩ <;> omega) | (simp_all; done))⟩, fun q9 => ⟨⟨by omega, by omega⟩, ⟨by omega, by omega⟩, ⟨by omega, by omega⟩, ⟨by omega, by omega⟩, ⟨(by first | omega | assumption | (refine ⟨?_, ?_⟩ <;> omega) | (simp_all; done)), (by first | omega | assumption | (refine ⟨?_, ?_⟩ <;> omega) | (simp_all; done))⟩, ⟨by omega, by omega⟩, ?_⟩, fun q10 => ⟨⟨by omega, by omega⟩, ⟨by omega, by omega⟩, ⟨by omega, by omega⟩, ⟨by omega, by omega⟩, ⟨(by first | omega | assumption | (refine ⟨?_, ?_⟩ <;> omega) | (simp_all; done)), (by first | omega | assumption | (refine ⟨?_, ?_⟩ <;> omega) | (simp_all; done))⟩, ⟨by omega, by omega⟩, ?_⟩⟩⟩⟩)
            all_goals try omega
            exact fin _ _ (i_div16 (by omega) (by omega)) (if_pos cm).symm
          · rw [if_neg cm] at km
            rw [km] at ml
            have kv : kStp (N 105) c n w e (e - 1 - (i : Int)) = (c * N 105 (e - 1 - (i : Int) + 1).toNat + (16 - c) * N 105 (e - 1 - (i : Int) + 1).toNat) / 16 := by unfold kStp; rw [km]
            rw [kv] at fin
            have mx2 := mx.2
            clear km kl kv mx ih n0 n1 n2
            refine (s273_92 ⟨fun q1 => ⟨fun q2 => ?_, fun q3 => ⟨⟨(by first | omega | assumption | (refine ⟨?_, ?_⟩ <;> omega) | (simp_all; done)), (by first | omega | assumption | (refine ⟨?_, ?_⟩ <;> omega) | (simp_all; done))⟩, ?_⟩⟩, fun q4 => ⟨⟨by omega, by omega⟩, fun q5 => ⟨⟨by omega, by omega⟩, ⟨(by first | omega | assumption | (refine ⟨?_, ?_⟩ <;> omega) | (simp_all; done)), (by first | omega | assumption | (refine ⟨?_, ?_⟩ <;> omega) | (simp_all; done))⟩, fun q6 => ⟨⟨by omega, by omega⟩, ⟨by omega, by omega⟩, ⟨by omega, by omega⟩, ⟨by omega, by omega⟩, ⟨(by first | omega | assumption | (refine ⟨?_, ?_⟩ <;> omega) | (simp_all; done)), (by first | omega | assumption | (refine ⟨?_, ?_⟩ <;> omega) | (simp_all; done))⟩, ⟨by omega, by omega⟩, ?_⟩, fun q7 => ⟨⟨by omega, by omega⟩, ⟨by omega, by omega⟩, ⟨by omega, by omega⟩, ⟨by omega, by omega⟩, ⟨(by first | omega | assumption | (refine ⟨?_, ?_⟩ <;> omega) | (simp_all; done)), (by first | omega | assumption | (refine ⟨?_, ?_⟩ <;> omega) | (simp_all; done))⟩, ⟨by omega, by omega⟩, ?_⟩⟩, fun q8 => ⟨⟨by omega, by omega⟩, ⟨(by first | omega | assumption | (refine ⟨?_, ?_⟩ <;> omega) | (simp_all; done)), (by first | omega | assumption | (refine ⟨?_, ?_⟩ <;> omega) | (simp_all; done))⟩, ⟨by omega, by omega⟩, ⟨by omega, by omega⟩, ⟨(by first | omega | assumption | (refine ⟨?_, ?_⟩ <;> omega) | (simp_all; done)), (by first | omega | assumption | (refine ⟨?_, ?_⟩ <;> omega) | (simp_all; done))⟩, fun q9 => ⟨⟨by omega, by omega⟩, ⟨by omega, by omega⟩, ⟨by omega, by omega⟩, ⟨by omega, by omega⟩, ⟨(by first | omega | assumption | (refine ⟨?_, ?_⟩ <;> omega) | (simp_all; done)), (by first | omega | assumption | (refine ⟨?_, ?_⟩ <;> omega) | (simp_all; done))⟩, ⟨by omega, by omega⟩, ?_⟩, fun q10 => ⟨⟨by omega, by omega⟩, ⟨by omega, by omega⟩, ⟨by omega, by omega⟩, ⟨by omega, by omega⟩, ⟨(by first | omega | assumption | (refine ⟨?_, ?_⟩ <;> omega) | (simp_all; done)), (by first | omega | assumption | (refine ⟨?_, ?_⟩ <;> omega) | (simp_all; done))⟩, ⟨by omega, by omega⟩, ?_⟩⟩⟩⟩)
            all_goals try omega
            exact fin _ _ (i_div16 (by omega) (by omega)) (if_neg cm).symm
    obtain ⟨d, rfl⟩ := sD 37 (d := d) (by omega)
    refine e160 (s160_0 ⟨fun q1 => ?_, fun q2 => ⟨fun q3 => ?_, fun q4 => ⟨fun q5 => ?_, fun q6 => ⟨fun q7 => ?_, fun q8 => ⟨fun q9 => ?_, fun q10 => ⟨fun q11 => ⟨fun q12 => ?_, fun q13 => ⟨fun q14 => ?_, fun q15 => ⟨fun q16 => ?_, fun q17 => ⟨fun q18 => ?_, fun q19 => ⟨fun q20 => ?_, fun q21 => ⟨fun q22 => ⟨⟨by omega, by omega⟩, ?_⟩, fun q69 => ?_⟩⟩⟩⟩⟩⟩, fun q70 => ?_⟩⟩⟩⟩⟩⟩)
    all_goals try (exfalso; omega)
    refine c161 (by omega) ⟨by omega, by omega⟩ ⟨by omega, by omega⟩ ⟨by omega, by omega⟩ ⟨by omega, by omega⟩ (fun M1 h1 hk h9 => ?_)
    have bk := fun q a b => hk.b (q := q) (by omega) (show -1 < q by omega) a b
    have b5 := bk x5 (by omega) (by omega)
    have b51 : 0 ≤ M1 81 (x5 + 1).toNat := by
      by_cases z : x5 < e
      · exact (bk (x5 + 1) (by omega) (by omega)).1
      · rw [h9 (x5 + 1) (by omega) (by omega)]; exact Int.le_refl 0
    have bn : x5 + n ≤ e → 0 ≤ M1 81 (x5 + n).toNat ∧ M1 81 (x5 + n).toNat ≤ 99000 * 96 := fun z => by
      have := bk (x5 + n) (by omega) (by omega)
      omega
    have go : ∀ r : Int, (x6 = 0 → r = M1 81 x5.toNat) → (x6 = 1 → r = if x5 + n ≤ e ∧ M1 81 (x5 + 1).toNat < 1000 * w + M1 81 (x5 + n).toNat then 1 else 0) → sC (d + 37) 273 [vO 12 82, vI c, vI n, vI w, vI e, vI x5, vI x6] M1 G (QI (LPost t r)) := fun r k0 k1 => by
      refine ref M1 r h1 (fun m hm => ⟨fun z => ?_, fun z => ?_⟩)
      · rw [k0 z]
        exact (kInv.uniq (by omega) (by omega) hk hm (e - x5).toNat x5 (by omega) (by omega) (by omega) (by omega)).symm
      · rw [k1 z]
        unfold kLet
        by_cases y : x5 < e
        · have e1 := kInv.uniq (by omega) (by omega) hk hm (e - (x5 + 1)).toNat (x5 + 1) (by omega) (by omega) (by omega) (by omega)
          rw [if_pos y, e1]
          by_cases cn : e < x5 + n
          · rw [if_pos cn, if_neg (by omega), if_neg (by omega)]
          · have e2 := kInv.uniq (by omega) (by omega) hk hm (e - (x5 + n)).toNat (x5 + n) (by omega) (by omega) (by omega) (by omega)
            rw [if_neg cn, e2]
            by_cases cm : M1 81 (x5 + 1).toNat < 1000 * w + M1 81 (x5 + n).toNat
            · rw [if_pos cm, if_pos ⟨by omega, cm⟩]
            · rw [if_neg cm, if_neg (fun v => cm v.2)]
        · rw [if_neg y, if_neg (fun v => by omega)]
    refine ⟨fun q23 => ⟨⟨by omega, by omega⟩, fun q24 => ⟨⟨by omega, by omega⟩, fun q25 => ?_, fun q26 => ⟨fun q27 => ?_, fun q28 => ⟨⟨(by first | omega | assumption | (refine ⟨?_, ?_⟩ <;> omega) | (simp_all; done)), (by first | omega | assumption | (refine ⟨?_, ?_⟩ <;> omega) | (simp_all; done))⟩, fun q29 => ?_, fun q30 => ?_⟩⟩⟩, fun q31 => ⟨fun q32 => ⟨⟨by omega, by omega⟩, ⟨by omega, by omega⟩, fun q33 => ⟨fun q34 => ?_, fun q35 => ?_⟩, fun q36 => ⟨fun q37 => ⟨fun q38 => ?_, fun q39 => ?_⟩, fun q40 => ⟨⟨(by first | omega | assumption | (refine ⟨?_, ?_⟩ <;> omega) | (simp_all; done)), (by first | omega | assumption | (refine ⟨?_, ?_⟩ <;> omega) | (simp_all; done))⟩, fun q41 => ?_, fun q42 => ?_⟩⟩⟩, fun q43 => ⟨fun q44 => ⟨⟨by omega, by omega⟩, ⟨by omega, by omega⟩, fun q45 => ⟨fun q46 => ?_, fun q47 => ?_⟩, fun q48 => ⟨fun q49 => ⟨fun q50 => ?_, fun q51 => ?_⟩, fun q52 => ⟨⟨(by first | omega | assumption | (refine ⟨?_, ?_⟩ <;> omega) | (simp_all; done)), (by first | omega | assumption | (refine ⟨?_, ?_⟩ <;> omega) | (simp_all; done))⟩, fun q53 => ?_, fun q54 => ?_⟩⟩⟩, fun q55 => ⟨⟨(by first | omega | assumption | (refine ⟨?_, ?_⟩ <;> omega) | (simp_all; done)), (by first | omega | assumption | (refine ⟨?_, ?_⟩ <;> omega) | (simp_all; done))⟩, ⟨by omega, by omega⟩, ⟨by omega, by omega⟩, fun q56 => ⟨fun q57 => ?_, fun q58 => ?_⟩, fun q59 => ⟨fun q60 => ⟨fun q61 => ?_, fun q62 => ?_⟩, fun q63 => ⟨⟨(by first | omega | assumption | (refine ⟨?_, ?_⟩ <;> omega) | (simp_all; done)), (by first | omega | assumption | (refine ⟨?_, ?_⟩ <;> omega) | (simp_all; done))⟩, fun q64 => ?_, fun q65 => ?_⟩⟩⟩⟩⟩⟩, fun q66 => ⟨fun q67 => ?_, fun q68 => ⟨⟨(by first | omega | assumption | (refine ⟨?_, ?_⟩ <;> omega) | (simp_all; done)), (by first | omega | assumption | (refine ⟨?_, ?_⟩ <;> omega) | (simp_all; done))⟩, ?_⟩⟩⟩
    all_goals try (exfalso; omega)
    all_goals try (exact go _ (fun z => absurd z (by omega)) (fun _ => (if_neg (by omega)).symm))
    all_goals try (exact go _ (fun z => absurd z (by omega)) (fun _ => (if_pos (by omega)).symm))
    all_goals try (exact go _ (fun z => rfl) (fun z => absurd z (by omega)))
  · have r0 : sC d 273 [vO 12 82, vI c, vI n, vI w, vI e, vI x5, vI x6] M G (QI (LPost t (-1))) := by
      obtain ⟨d, rfl⟩ := sD 7 (d := d) (by omega)
      have z : sW (sC (d + 6)) 273 (QI (LPost t (-1))) 73 [vN, vN, vN, vN, vN, vN, vN, vN, vN, vN] [] M G 0 0 := s273_73 ⟨rfl, hI1⟩
      refine e273 (s273_0 ⟨fun q1 => ?_, fun q2 => ⟨fun q3 => ?_, fun q4 => ⟨fun q5 => ?_, fun q6 => ⟨fun q7 => ?_, fun q8 => ⟨fun q9 => ?_, fun q10 => ⟨fun q11 => ?_, fun q12 => ⟨fun q13 => ?_, fun q14 => ⟨fun q15 => ?_, fun q16 => ⟨fun q17 => ?_, fun q18 => ⟨fun q19 => ?_, fun q20 => ⟨fun q21 => ?_, fun q22 => ⟨fun q23 => ?_, fun q24 => ⟨⟨(by first | omega | assumption | (refine ⟨?_, ?_⟩ <;> omega) | (simp_all; done)), (by first | omega | assumption | (refine ⟨?_, ?_⟩ <;> omega) | (simp_all; done))⟩, ⟨by omega, by omega⟩, ?_⟩⟩⟩⟩⟩⟩⟩⟩⟩⟩⟩⟩⟩)
      all_goals try (exact z)
      omega
    obtain ⟨d, rfl⟩ := sD 7 (d := d) (by omega)
    refine e160 (s160_0 ⟨fun q1 => ?_, fun q2 => ⟨fun q3 => ?_, fun q4 => ⟨fun q5 => ?_, fun q6 => ⟨fun q7 => ?_, fun q8 => ⟨fun q9 => ?_, fun q10 => ⟨fun q11 => ⟨fun q12 => ?_, fun q13 => ⟨fun q14 => ?_, fun q15 => ⟨fun q16 => ?_, fun q17 => ⟨fun q18 => ?_, fun q19 => ⟨fun q20 => ?_, fun q21 => ⟨fun q22 => ⟨⟨by omega, by omega⟩, ?_⟩, fun q69 => ?_⟩⟩⟩⟩⟩⟩, fun q70 => ?_⟩⟩⟩⟩⟩⟩)
    all_goals try (exact s160_31 r0)
    all_goals try (exact s160_64 r0)
    omega
end
