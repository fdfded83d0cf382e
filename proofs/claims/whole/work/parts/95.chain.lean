/-! The class: chains of stays, place by place. -/
section
variable {d : Nat} {P : Int → sM → sG → Prop} {PV : sM → sG → Prop} {M : sM} {G : sG} {B : Int} {S : Nat → Int}
/-- the stays of a house in order, as the class has them -/
def srtM (S : Nat → Int) (M : sM) (m : Nat) (od : Nat → Nat) : Prop := m ≤ 18 ∧ srt S od m ∧ (∀ i, i < m → ((od i : Nat) : Int) < S 1) ∧ (∀ i, i < m → M 61 i = ((od i : Nat) : Int)) ∧ ∀ i, i < m → ∃ c, M 62 i = ((c : Nat) : Int) ∧ ovS S od i c
theorem srtM.congr {N : sM} {m : Nat} {od : Nat → Nat} (h : srtM S M m od) (h1 : N 61 = M 61) (h2 : N 62 = M 62) : srtM S N m od := by
  unfold srtM at h ⊢
  rw [h1, h2]
  exact h
theorem two17 {s : Nat} (h : s < 18) : ((2 ^ s : Nat) : Int) ≤ 131072 := by
  have h3 : (2 : Nat) ^ 17 = 131072 := by decide
  have := Nat.pow_le_pow_right (n := 2) (by decide) (show s ≤ 17 by omega)
  omega
theorem scF_b {od : Nat → Nat} {m i : Nat} (hv : vTown B S) (h : srtM S M m od) (hi : i < m) : -131072 ≤ scF S (od i) ∧ scF S (od i) ≤ 25952256 := by
  have h1 := h.2.2.1 i hi
  have h2 := (hv.2.2.1 ((od i : Nat) : Int) (by omega) h1).2.2.2.2.2.1
  have h3 := (h.2.1.1 i hi).1
  have h4 := two17 h3
  have h5 := Nat.two_pow_pos (od i)
  unfold scF
  omega
theorem mCh_b {od : Nat → Nat} {m k : Nat} {p b v : Int} (hv : vTown B S) (h : srtM S M m od) (hk : k ≤ m) (hm : mCh S od p k b v) : -2359296 ≤ v ∧ v ≤ 467140608 := by
  obtain ⟨⟨X, x1, x2⟩, -⟩ := hm
  have e : ∀ s : Nat, -131072 ≤ (if X.testBit s = true then scF S s else 0) ∧ (if X.testBit s = true then scF S s else 0) ≤ 25952256 := fun s => by
    by_cases c : X.testBit s = true
    · rw [if_pos c]
      obtain ⟨⟨i, i0, i1⟩, -⟩ := x1.1 s c
      have := scF_b hv h (i := i) (by omega)
      rw [i1] at this
      exact this
    · rw [if_neg c]; omega
  have h1 := nS_le (f := fun s => if X.testBit s = true then scF S s else 0) (c := 25952256) (n := 18) (fun s _ => (e s).2)
  have h2 := nS_mno (f := fun _ => (-131072 : Int)) (g := fun s => if X.testBit s = true then scF S s else 0) (n := 18) (fun s _ => (e s).1)
  have h3 : nS (fun _ => (-131072 : Int)) 18 = -2359296 := by decide
  have h4 : nS (fun s => if X.testBit s = true then scF S s else 0) 18 = v := x2
  omega
theorem c108 {od : Nat → Nat} {m k a2 : Nat} {p b : Int} (hd : 5 ≤ d) (hv : vTown B S) (ht : TR 14 M S) (h : srtM S M m od) (hp : 1 ≤ p) (hk : k ≤ m) (ha : a2 ≠ 65) (hw : ∀ i, i < k → ∃ w, mCh S od (p - 1) i (tO S (od i) 2) w ∧ M a2 i = scF S (od i) + w) (kk : ∀ (N : sM) (v : Int), (∀ a, a ≠ 65 → N a = M a) → mCh S od p k b v → P v N G) : sC d 108 [vO 1 60, vO 10 14, vA 0 a2 18, vI (k : Int), vI b] M G (QI P) := by
  obtain ⟨d, rfl⟩ := sD 2 (d := d) (by omega)
  have hm18 := h.1
  have hs1 := hv.1.2.1
  refine e108 (s108_0 ?_)
  refine sUpTo (W := fun i => ∀ N : sM, (∀ a, a ≠ 65 → N a = M a) → (∀ j, j ≤ i → mCh S od p j b (N 65 j)) → sW (sC (d + 1)) 108 (QI P) 10 [vO 1 60, vO 10 14, vA 0 a2 18, vI (k : Int), vI b, vI (i : Int)] [] N G 0 0) k ?_ ?_ _ (fun a h1 => sUpd_ne h1) (fun j hj => by
    rw [show j = 0 by omega, sUpd_eq]
    exact mCh_0 (by omega))
  · intro N n1 n2
    refine (s108_10 ⟨fun q1 => ⟨⟨(by first | omega | assumption | (refine ⟨?_, ?_⟩ <;> omega) | (simp_all; done)), (by first | omega | assumption | (refine ⟨?_, ?_⟩ <;> omega) | (simp_all; done))⟩, ?_⟩, fun q2 => ⟨⟨by omega, by omega⟩, ⟨(by first | omega | assumption | (refine ⟨?_, ?_⟩ <;> omega) | (simp_all; done)), (by first | omega | assumption | (refine ⟨?_, ?_⟩ <;> omega) | (simp_all; done))⟩, ⟨(by first | omega | assumption | (refine ⟨?_, ?_⟩ <;> omega) | (simp_all; done)), (by first | omega | assumption | (refine ⟨?_, ?_⟩ <;> omega) | (simp_all; done))⟩, ⟨(by first | omega | assumption | (refine ⟨?_, ?_⟩ <;> omega) | (simp_all; done)), (by first | omega | assumption | (refine ⟨?_, ?_⟩ <;> omega) | (simp_all; done))⟩, ⟨(by first | omega | assumption | (refine ⟨?_, ?_⟩ <;> omega) | (simp_all; done)), (by first | omega | assumption | (refine ⟨?_, ?_⟩ <;> omega) | (simp_all; done))⟩, fun q3 => ?_, fun q4 => ⟨⟨(by first | omega | assumption | (refine ⟨?_, ?_⟩ <;> omega) | (simp_all; done)), (by first | omega | assumption | (refine ⟨?_, ?_⟩ <;> omega) | (simp_all; done))⟩, ⟨(by first | omega | assumption | (refine ⟨?_, ?_⟩ <;> omega) | (simp_all; done)), (by first | omega | assumption | (refine ⟨?_, ?_⟩ <;> omega) | (simp_all; done))⟩, ⟨by omega, by omega⟩, ?_⟩⟩⟩)
    · exact kk N _ n1 (n2 k (Nat.le_refl k))
    all_goals omega
  · intro i hi ih N n1 n2
    have e61 : N 61 ((i : Int)).toNat = ((od i : Nat) : Int) := by rw [n1 61 (by decide)]; exact h.2.2.2.1 i (by omega)
    obtain ⟨c, c1, c2, c3, c4⟩ := h.2.2.2.2 i (by omega)
    have e62 : N 62 ((i : Int)).toNat = (c : Int) := by rw [n1 62 (by decide)]; exact c1
    have ol := h.2.2.1 i (by omega)
    have tN : TR 14 N S := ht.congr (fun a r1 r2 => n1 a (by omega))
    have e22 : N 22 (N 61 ((i : Int)).toNat).toNat = tO S (od i) 2 := by rw [e61]; exact (tN.2.2.1 _ (by omega) ol).2.2.1
    have ei : ((i : Int) + 1).toNat = i + 1 := by omega
    have vi := mCh_b hv h (by omega) (n2 i (by omega))
    obtain ⟨w, w1, w2⟩ := hw i hi
    have ew : N a2 i = scF S (od i) + w := by rw [n1 a2 ha]; exact w2
    have wb := mCh_b hv h (by omega) w1
    have ub := mCh_b hv h (by omega) (n2 c (by omega))
    have fb := scF_b hv h (i := i) (by omega)
    have y1 : (sUpd N 65 ((i : Int) + 1).toNat (N 65 ((i : Int)).toNat)) 65 ((i : Int)).toNat = N 65 i := by rw [ei]; exact sUpd_ni (show i ≠ i + 1 by omega)
    have y2 : (sUpd N 65 ((i : Int) + 1).toNat (N 65 ((i : Int)).toNat)) a2 ((i : Int)).toNat = scF S (od i) + w := by rw [sUpd_ne ha]; exact ew
    have y3 : (sUpd N 65 ((i : Int) + 1).toNat (N 65 ((i : Int)).toNat)) 65 (N 62 ((i : Int)).toNat).toNat = N 65 c := by
      rw [e62, ei]; exact sUpd_ni (show c ≠ i + 1 by omega)
    have stp : ∀ (N2 : sM) (v : Int), (∀ a, a ≠ 65 → N2 a = M a) → (∀ j, j ≤ i → N2 65 j = N 65 j) → N2 65 (i + 1) = v → mCh S od p (i + 1) b v → sW (sC (d + 1)) 108 (QI P) 10 [vO 1 60, vO 10 14, vA 0 a2 18, vI (k : Int), vI b, vI ((i + 1 : Nat) : Int)] [] N2 G 0 0 := fun N2 v b1 b2 b3 b4 => ih N2 b1 (fun j hj => by
      by_cases z : j = i + 1
      · rw [z, b3]; exact b4
      · rw [b2 j (by omega)]; exact n2 j (by omega))
    refine (s108_10 ⟨fun q1 => ⟨⟨(by first | omega | assumption | (refine ⟨?_, ?_⟩ <;> omega) | (simp_all; done)), (by first | omega | assumption | (refine ⟨?_, ?_⟩ <;> omega) | (simp_all; done))⟩, ?_⟩, fun q2 => ⟨⟨by omega, by omega⟩, ⟨(by first | omega | assumption | (refine ⟨?_, ?_⟩ <;> omega) | (simp_all; done)), (by first | omega | assumption | (refine ⟨?_, ?_⟩ <;> omega) | (simp_all; done))⟩, ⟨(by first | omega | assumption | (refine ⟨?_, ?_⟩ <;> omega) | (simp_all; done)), (by first | omega | assumption | (refine ⟨?_, ?_⟩ <;> omega) | (simp_all; done))⟩, ⟨(by first | omega | assumption | (refine ⟨?_, ?_⟩ <;> omega) | (simp_all; done)), (by first | omega | assumption | (refine ⟨?_, ?_⟩ <;> omega) | (simp_all; done))⟩, ⟨(by first | omega | assumption | (refine ⟨?_, ?_⟩ <;> omega) | (simp_all; done)), (by first | omega | assumption | (refine ⟨?_, ?_⟩ <;> omega) | (simp_all; done))⟩, fun q3 => ?_, fun q4 => ⟨⟨(by first | omega | assumption | (refine ⟨?_, ?_⟩ <;> omega) | (simp_all; done)), (by first | omega | assumption | (refine ⟨?_, ?_⟩ <;> omega) | (simp_all; done))⟩, ⟨(by first | omega | assumption | (refine ⟨?_, ?_⟩ <;> omega) | (simp_all; done)), (by first | omega | assumption | (refine ⟨?_, ?_⟩ <;> omega) | (simp_all; done))⟩, ⟨by omega, by omega⟩, ?_⟩⟩⟩)
    · omega
    · rw [e22] at q3
      exact stp _ (N 65 i) (fun a h1 => (sUpd_ne h1).trans (n1 a h1)) (fun j hj => sUpd_ni (by omega)) (by rw [ei]; exact sUpd_eq) (mCh_skip q3 (n2 i (by omega)))
    · rw [e22] at q4
      rw [y1, y2, y3]
      have tk := mCh_take hp h.2.1 (show i < m by omega) q4 c2 c3 c4 (n2 i (by omega)) (n2 c (by omega)) w1
      exact stp _ _ (fun a h1 => (sUpd_ne h1).trans ((sUpd_ne h1).trans (n1 a h1))) (fun j hj => (sUpd_ni (by omega)).trans (sUpd_ni (by omega))) (by rw [ei]; exact sUpd_eq) tk
    all_goals omega
theorem sc_val {w : Int} {s : Nat} (w0 : 0 ≤ w) (w1 : w ≤ 99) (hs : s < 18) : (iShl w 18) - (iShl 1 (s : Int)) = w * 262144 - ((2 ^ s : Nat) : Int) := by
  obtain ⟨a, rfl⟩ : ∃ a : Nat, w = (a : Int) := ⟨w.toNat, z_nat w0⟩
  have h3 : (2 : Nat) ^ 18 = 262144 := by decide
  have e := n_shl (a := a) (k := 18) (by decide) (by rw [h3]; omega)
  rw [h3] at e
  rw [show (18 : Int) = ((18 : Nat) : Int) from rfl, e, show iShl 1 (s : Int) = ((2 ^ s : Nat) : Int) from z_bit (by omega) (by omega)]
  omega
theorem c105 {h : Int} (hd : 40 ≤ d) (hv : vTown B S) (ht : TR 14 M S) (h0 : 0 ≤ h) (h1 : h < S 0) (kk : ∀ (N : sM) (m : Nat) (od : Nat → Nat) (v : Int), (∀ a, ¬ (61 ≤ a ∧ a ≤ 65) → N a = M a) → m ≤ 18 → srtM S N m od → (∀ s, fkS od m s ↔ (s : Int) < S 1 ∧ tO S s 1 = h) → mCh S od (hO S h 1) m 0 v → P v N G) : sC d 105 [vO 1 60, vO 10 14, vI h] M G (QI P) := by
  obtain ⟨d, rfl⟩ := sD 22 (d := d) (by omega)
  have hs1 := hv.1.2.1
  have hs0 := hv.1.1
  have hr := (hv.2.1 h h0 h1).2.1
  refine e105 (s105_0 (?_))
  refine c106 (by omega) hv ht (fun N m od n1 ml hs hm n3 n4 => ?_)
  have odl : ∀ i, i < m → ((od i : Nat) : Int) < S 1 := fun i hi => ((hm (od i)).mp ⟨i, hi, rfl⟩).1
  have hM : srtM S N m od := ⟨ml, hs, odl, n3, n4⟩
  refine ?_
  refine c6 (by omega) (by decide) (by decide) ?_
  refine ?_
  have fl : ∀ a, a ≠ 63 → (sFill N 63 (18 : Int).toNat 0) a = N a := fun a ha => by
    funext i
    unfold sFill
    exact if_neg (fun z => ha z.1)
  have main : sW (sC (d + 21)) 105 (QI P) 18 [vO 1 60, vO 10 14, vI h, vI (m : Int), vI ((1 : Nat) : Int), vN, vN] [] (sFill N 63 (18 : Int).toNat 0) G 0 0 := by
    refine sUpFrom (W := fun p => ∀ N2 : sM, (∀ a, ¬ (63 ≤ a ∧ a ≤ 65) → N2 a = N a) → (1 < p → ∀ i, i < m → ∃ w, mCh S od ((p : Int) - 1 - 1) i (tO S (od i) 2) w ∧ N2 63 i = scF S (od i) + w) → sW (sC (d + 21)) 105 (QI P) 18 [vO 1 60, vO 10 14, vI h, vI (m : Int), vI (p : Int), vN, vN] [] N2 G 0 0) 1 ((hO S h 1).toNat + 1) (by omega) ?_ ?_ _ (fun a ha => fl a (by omega)) (fun z => absurd z (Nat.lt_irrefl 1))
    · intro N2 m1 m2
      have trN : TR 14 N2 S := ht.congr (fun a r1 r2 => (m1 a (by omega)).trans (n1 a (by omega) (by omega)))
      have e16 : N2 16 h.toNat = hO S h 1 := (trN.2.1 h h0 h1).2.1
      have hM2 := hM.congr (m1 61 (by decide)) (m1 62 (by decide))
      refine (s105_18 ⟨⟨(by first | omega | assumption | (refine ⟨?_, ?_⟩ <;> omega) | (simp_all; done)), (by first | omega | assumption | (refine ⟨?_, ?_⟩ <;> omega) | (simp_all; done))⟩, fun q1 => ?_, fun q2 => ?_⟩)
      · refine c108 (p := hO S h 1) (a2 := 63) (by omega) hv trN hM2 (by omega) (Nat.le_refl m) (by decide) (fun i hi => ?_) (fun N3 v h3 hc => ?_)
        · obtain ⟨w, w1, w2⟩ := m2 (by omega) i hi
          rw [show (((hO S h 1).toNat + 1 : Nat) : Int) - 1 - 1 = hO S h 1 - 1 by omega] at w1
          exact ⟨w, w1, w2⟩
        · refine ?_
          exact kk N3 m od v (fun a ha => (h3 a (by omega)).trans ((m1 a (by omega)).trans (n1 a (by omega) (by omega)))) ml (hM2.congr (h3 61 (by decide)) (h3 62 (by decide))) hm hc
      all_goals omega
    · intro p p0 p1 ih N2 m1 m2
      have trN : TR 14 N2 S := ht.congr (fun a r1 r2 => (m1 a (by omega)).trans (n1 a (by omega) (by omega)))
      have e16 : N2 16 h.toNat = hO S h 1 := (trN.2.1 h h0 h1).2.1
      have cpn : ∀ a, a ≠ 64 → (sCpy N2 63 0 64 0 18) a = N2 a := fun a ha => sCpy_ne ha
      have cpa : ∀ i, i < 18 → (sCpy N2 63 0 64 0 18) 64 i = N2 63 i := fun i hi => sCpy_at hi
      have loop : sW (sC (d + 21)) 105 (QI P) 47 [vO 1 60, vO 10 14, vI h, vI (m : Int), vI (p : Int), vI ((0 : Nat) : Int), vN] [] (sCpy N2 63 0 64 0 18) G 0 0 := by
        refine sUpTo (W := fun i => ∀ N3 : sM, (∀ a, ¬ (63 ≤ a ∧ a ≤ 65) → N3 a = N a) → (∀ j, j < 18 → N3 64 j = N2 63 j) → (∀ j, j < i → ∃ w, mCh S od ((p : Int) - 1) j (tO S (od j) 2) w ∧ N3 63 j = scF S (od j) + w) → sW (sC (d + 21)) 105 (QI P) 47 [vO 1 60, vO 10 14, vI h, vI (m : Int), vI (p : Int), vI (i : Int), vN] [] N3 G 0 0) m ?_ ?_ _ (fun a ha => (cpn a (by omega)).trans (m1 a ha)) cpa (fun j hj => absurd hj (Nat.not_lt_zero j))
        · intro N3 b1 b2 b3
          refine (s105_47 ⟨fun q1 => ⟨⟨by omega, by omega⟩, ?_⟩, fun q2 => ⟨fun q3 => ⟨⟨(by first | omega | assumption | (refine ⟨?_, ?_⟩ <;> omega) | (simp_all; done)), (by first | omega | assumption | (refine ⟨?_, ?_⟩ <;> omega) | (simp_all; done))⟩, ⟨(by first | omega | assumption | (refine ⟨?_, ?_⟩ <;> omega) | (simp_all; done)), (by first | omega | assumption | (refine ⟨?_, ?_⟩ <;> omega) | (simp_all; done))⟩, ⟨by omega, by omega⟩, ⟨by omega, by omega⟩, ⟨by omega, by omega⟩, ?_⟩, fun q4 => ⟨⟨(by first | omega | assumption | (refine ⟨?_, ?_⟩ <;> omega) | (simp_all; done)), (by first | omega | assumption | (refine ⟨?_, ?_⟩ <;> omega) | (simp_all; done))⟩, ⟨(by first | omega | assumption | (refine ⟨?_, ?_⟩ <;> omega) | (simp_all; done)), (by first | omega | assumption | (refine ⟨?_, ?_⟩ <;> omega) | (simp_all; done))⟩, ?_⟩⟩⟩)
          · exact ih N3 b1 (fun _ i hi => by
              rw [show ((p + 1 : Nat) : Int) - 1 - 1 = (p : Int) - 1 by omega]
              exact b3 i hi)
          all_goals omega
        · intro i hi ih2 N3 b1 b2 b3
          have trN3 : TR 14 N3 S := ht.congr (fun a r1 r2 => (b1 a (by omega)).trans (n1 a (by omega) (by omega)))
          have hM3 := hM.congr (b1 61 (by decide)) (b1 62 (by decide))
          have gen : ∀ N4 : sM, (∀ a, ¬ (63 ≤ a ∧ a ≤ 65) → N4 a = N a) → N4 61 ((i : Int)).toNat = ((od i : Nat) : Int) ∧ N4 22 ((od i : Nat) : Int).toNat = tO S (od i) 2 ∧ N4 24 ((od i : Nat) : Int).toNat = tO S (od i) 4 := fun N4 h4 => by
            have tr4 : TR 14 N4 S := ht.congr (fun a r1 r2 => (h4 a (by omega)).trans (n1 a (by omega) (by omega)))
            have t := tr4.2.2.1 ((od i : Nat) : Int) (by omega) (odl i hi)
            exact ⟨by rw [h4 61 (by decide)]; exact n3 i hi, t.2.2.1, t.2.2.2.2.1⟩
          obtain ⟨g1, g2, g3⟩ := gen N3 b1
          have wv := (hv.2.2.1 ((od i : Nat) : Int) (by omega) (odl i hi)).2.2.2.2.2.1
          have o18 := (hs.1 i hi).1
          have sv : (iShl (tO S (od i) 4) 18) - (iShl 1 ((od i : Nat) : Int)) = scF S (od i) := sc_val wv.1 wv.2 o18
          have fb := scF_b hv hM3 hi
          have nx : ∀ (N4 : sM) (w : Int), (∀ a, ¬ (63 ≤ a ∧ a ≤ 65) → N4 a = N a) → (∀ j, j < 18 → N4 64 j = N2 63 j) → (∀ j, N4 63 j = N3 63 j) → mCh S od ((p : Int) - 1) i (tO S (od i) 2) w → sW (sC (d + 21)) 105 (QI P) 47 [vO 1 60, vO 10 14, vI h, vI (m : Int), vI (p : Int), vI ((i + 1 : Nat) : Int), vN] [] (sUpd N4 63 ((i : Int)).toNat (scF S (od i) + w)) G 0 0 := fun N4 w h4 h5 h6 h7 => ih2 _ (fun a ha => (sUpd_ne (by omega)).trans (h4 a ha)) (fun j hj => by rw [sUpd_ne (by decide)]; exact h5 j hj) (fun j hj => by
            by_cases z : j = i
            · rw [z]; exact ⟨w, h7, sUpd_eq⟩
            · obtain ⟨w', w1, w2⟩ := b3 j (by omega)
              exact ⟨w', w1, (sUpd_ni z).trans ((h6 j).trans w2)⟩)
          rw [← g1] at g2 g3
          have sv3 : (iShl (N3 24 (N3 61 ((i : Int)).toNat).toNat) 18) - (iShl 1 (N3 61 ((i : Int)).toNat)) = scF S (od i) := by
            rw [g3, g1]; exact sv
          refine (s105_47 ⟨fun q1 => ⟨⟨by omega, by omega⟩, ?_⟩, fun q2 => ⟨fun q3 => ⟨⟨(by first | omega | assumption | (refine ⟨?_, ?_⟩ <;> omega) | (simp_all; done)), (by first | omega | assumption | (refine ⟨?_, ?_⟩ <;> omega) | (simp_all; done))⟩, ⟨(by first | omega | assumption | (refine ⟨?_, ?_⟩ <;> omega) | (simp_all; done)), (by first | omega | assumption | (refine ⟨?_, ?_⟩ <;> omega) | (simp_all; done))⟩, ⟨by omega, by omega⟩, ⟨by omega, by omega⟩, ⟨by omega, by omega⟩, ?_⟩, fun q4 => ⟨⟨(by first | omega | assumption | (refine ⟨?_, ?_⟩ <;> omega) | (simp_all; done)), (by first | omega | assumption | (refine ⟨?_, ?_⟩ <;> omega) | (simp_all; done))⟩, ⟨(by first | omega | assumption | (refine ⟨?_, ?_⟩ <;> omega) | (simp_all; done)), (by first | omega | assumption | (refine ⟨?_, ?_⟩ <;> omega) | (simp_all; done))⟩, ?_⟩⟩⟩)
          all_goals try omega
          · rw [sv3]
            refine nx N3 0 b1 b2 (fun _ => rfl) ?_
            rw [show (p : Int) - 1 = 0 by omega]
            exact mCh_none hs (by omega)
          · rw [g2]
            refine c108 (p := (p : Int) - 1) (a2 := 64) (by omega) hv trN3 hM3 (by omega) (by omega) (by decide) (fun j hj => ?_) (fun N4 v h4 hc => ?_)
            · obtain ⟨w, w1, w2⟩ := m2 (by omega) j (by omega)
              exact ⟨w, w1, (b2 j (by omega)).trans w2⟩
            · obtain ⟨k1, k2, k3⟩ := gen N4 (fun a ha => (h4 a (by omega)).trans (b1 a ha))
              have vb := mCh_b hv hM3 (by omega) hc
              rw [← k1] at k3
              have sv4 : (iShl (N4 24 (N4 61 ((i : Int)).toNat).toNat) 18) - (iShl 1 (N4 61 ((i : Int)).toNat)) = scF S (od i) := by
                rw [k3, k1]; exact sv
              refine ⟨⟨(by first | omega | assumption | (refine ⟨?_, ?_⟩ <;> omega) | (simp_all; done)), (by first | omega | assumption | (refine ⟨?_, ?_⟩ <;> omega) | (simp_all; done))⟩, ⟨by omega, by omega⟩, ⟨by omega, by omega⟩, ⟨by omega, by omega⟩, ?_⟩
              all_goals try omega
              rw [sv4]
              rw [g1] at hc
              exact nx N4 v (fun a ha => (h4 a (by omega)).trans (b1 a ha)) (fun j hj => by rw [h4 64 (by decide)]; exact b2 j hj) (fun j => by rw [h4 63 (by decide)]) hc
      refine (s105_18 ⟨⟨(by first | omega | assumption | (refine ⟨?_, ?_⟩ <;> omega) | (simp_all; done)), (by first | omega | assumption | (refine ⟨?_, ?_⟩ <;> omega) | (simp_all; done))⟩, fun q1 => ?_, fun q2 => ?_⟩)
      · omega
      · exact loop
      all_goals omega
  exact main
end
