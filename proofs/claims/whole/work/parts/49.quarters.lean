/-! QUARTERS, by the class. -/
section Qs
variable {d : Nat} {P : Int → sM → sG → Prop} {PV : sM → sG → Prop} {M : sM} {G : sG} {b a : Nat} {S : Nat → Int} {B : Int} {D : Nat → (Nat → Int) → Int} {kd : Nat → Int} {n : Int}
/-- what a going, a coming, a window leave as it is -/
theorem lv_low {p : Int} (p0 : 0 ≤ p) {j : Nat} (hj : j < 136 ∨ 196 ≤ j ∨ (136 ≤ j ∧ j < 196 ∧ (j - 136) % 5 = 4)) (p1 : p < 12) : lvS S p j = S j := by unfold lvS; rw [uS_ne (by omega), uS_ne (by omega), uS_ne (by omega)]
def keepS (S S' : Nat → Int) : Prop := S' 0 = S 0 ∧ S' 1 = S 1 ∧ S' 2 = S 2 ∧ S' 3 = S 3 ∧ ∀ j : Nat, 196 ≤ j ∨ (5 ≤ j ∧ j < 10) ∨ (136 ≤ j ∧ j < 196 ∧ (j - 136) % 5 = 4) → S' j = S j
theorem keepS.refl (S : Nat → Int) : keepS S S := ⟨rfl, rfl, rfl, rfl, fun _ _ => rfl⟩
theorem keepS.trans {S S' S'' : Nat → Int} (h : keepS S S') (h' : keepS S' S'') : keepS S S'' := ⟨h'.1.trans h.1, h'.2.1.trans h.2.1, h'.2.2.1.trans h.2.2.1, h'.2.2.2.1.trans h.2.2.2.1, fun j hj => (h'.2.2.2.2 j hj).trans (h.2.2.2.2 j hj)⟩
theorem lv_keep {p : Int} (p0 : 0 ≤ p) (p1 : p < 12) : keepS S (lvS S p) := ⟨lv_low p0 (by omega) p1, lv_low p0 (by omega) p1, lv_low p0 (by omega) p1, lv_low p0 (by omega) p1, fun j hj => lv_low p0 (by omega) p1⟩
theorem go_keep : ∀ (k : Nat) (S : Nat → Int), keepS S (goF D kd n k S)
  | 0, S => keepS.refl S
  | k + 1, S => by
    unfold goF
    split
    · exact keepS.refl S
    · next h =>
      have hsp := (lstN_spec 12 0 (Q := fun p => goes D kd n S p)).2.1
      exact (lv_keep (by omega) (show ((fstG D kd n S : Nat) : Int) < 12 by unfold fstG at h ⊢; omega)).trans (go_keep k _)
theorem win_keep {h : Int} (h0 : 0 ≤ h) (h1 : h < 6) : keepS S (winS S h) := ⟨win_o h0 h1 (by omega), win_o h0 h1 (by omega), win_o h0 h1 (by omega), win_o h0 h1 (by omega), fun j hj => win_o h0 h1 (by omega)⟩
theorem winF_keep {q : Int} (hv : vTown B S) (q0 : 0 ≤ q) (q1 : q < 12) : keepS S (winF D kd n S q) := by
  unfold winF
  split
  · next h =>
    have hp := (hv.2.2.2.1 q q0 q1).1
    have h0 := hv.1.1
    exact (win_keep h.1.1 (by omega)).trans (lv_keep q0 q1)
  · exact keepS.refl S
theorem winT_v (hv : vTown B S) : ∀ i : Nat, i ≤ 12 → vTown B (fT (winF D kd n) i S)
  | 0, _ => hv
  | i + 1, hi => winF_v (winT_v hv i (by omega)) (by omega) (by omega)
theorem winT_keep (hv : vTown B S) : ∀ i : Nat, i ≤ 12 → keepS S (fT (winF D kd n) i S)
  | 0, _ => keepS.refl S
  | i + 1, hi => (winT_keep hv i (by omega)).trans (winF_keep (winT_v hv i (by omega)) (by omega) (by omega))
theorem com_keep {q : Int} (hv : vTown B S) (q0 : 0 ≤ q) (q1 : q < 12) : keepS S (comF D kd n S q) := by
  by_cases h : pO S q 0 = -1 ∧ nxS S q < S 1 ∧ inN S (tO S (nxS S q) 1) < hO S (tO S (nxS S q) 1) 1 ∧ (heldK D kd n 0 (wE S q (nxS S q)) ∨ ¬ hasK kd n 0)
  · rw [comF_pos h]
    have hs1 := hv.1.2.1
    obtain ⟨n0, n1, n2, -⟩ := nxS_spec hs1.1 q
    have hl := (com_beg hv q0 q1 h.1 n0 h.2.1 h.2.2.1).1
    have hb : ∀ j : Nat, j < 28 ∨ 136 ≤ j → begS S (nxS S q) j = S j := fun j hj => beg_o (by omega) hj
    exact ⟨(hl.1.1 0 (by decide) (by decide)).trans (hb 0 (by omega)), (hl.1.1 1 (by decide) (by decide)).trans (hb 1 (by omega)), (hl.1.1 2 (by decide) (by decide)).trans (hb 2 (by omega)), (hl.1.1 3 (by decide) (by decide)).trans (hb 3 (by omega)), fun j hj => by
      rcases hj with z | z | z
      · exact (hl.1.2 j z).trans (hb j (by omega))
      · exact (hl.1.1 j (by omega) (by omega)).trans (hb j (by omega))
      · have e := (hl.2.2 (((j - 136) / 5 : Nat) : Int) (by omega) (by omega)).2.2.2.2
        unfold pO at e
        rw [show ((136 + (5 * (((j - 136) / 5 : Nat) : Int))) + 4).toNat = j by omega] at e
        exact e.trans (hb j (by omega))⟩
  · rw [comF_neg h]; exact keepS.refl S
theorem comT_keep (hv : vTown B S) : ∀ i : Nat, i ≤ 12 → keepS S (fT (comF D kd n) i S)
  | 0, _ => keepS.refl S
  | i + 1, hi => (comT_keep hv i (by omega)).trans (com_keep (comT_v hv i (by omega)) (by omega) (by omega))
theorem goF_v : ∀ (k : Nat) (S : Nat → Int), vTown B S → vTown B (goF D kd n k S)
  | 0, S, hv => hv
  | k + 1, S, hv => by
    unfold goF
    split
    · exact hv
    · next h =>
      have hsp := (lstN_spec 12 0 (Q := fun p => goes D kd n S p)).2.1
      have h1 : ((fstG D kd n S : Nat) : Int) < 12 := by unfold fstG at h ⊢; omega
      exact goF_v k _ (lv_v hv (lvS_R (by omega) h1) (by omega) h1)
/-- before the late are counted -/
noncomputable def midS (D : Nat → (Nat → Int) → Int) (kd : Nat → Int) (n : Int) (S : Nat → Int) : Nat → Int := fT (comF D kd n) 12 (fT (winF D kd n) 12 (goF D kd n 12 S))
theorem mid_v (hv : vTown B S) : vTown (B + 12) (midS D kd n S) := comT_v (winT_v (goF_v 12 S hv) 12 (Nat.le_refl _)) 12 (Nat.le_refl _)
theorem mid_keep (hv : vTown B S) : keepS S (midS D kd n S) := (go_keep 12 S).trans ((winT_keep (goF_v 12 S hv) 12 (Nat.le_refl _)).trans (comT_keep (winT_v (goF_v 12 S hv) 12 (Nat.le_refl _)) 12 (Nat.le_refl _)))
theorem qua_v (hv : vTown B S) (h3 : S 3 ≤ 1200) (h2 : S 2 < 96) : vTown (B + 12) (quaF D kd n S) := by
  have hm := mid_v (D := D) (kd := kd) (n := n) hv
  obtain ⟨k0, k1, k2, k3, k4⟩ := mid_keep (D := D) (kd := kd) (n := n) hv
  have hn := nS12 (fLate01 (midS D kd n S)) (Nat.le_refl 12)
  have hs := hv.1
  have e : quaF D kd n S = uS (uS (midS D kd n S) 3 (midS D kd n S 3 + nS (fLate (midS D kd n S)) 12)) 2 (midS D kd n S 2 + 1) := rfl
  rw [e]
  exact now_v (late_v hm (by have := hs.2.2.2.1; omega) (by omega)) (by rw [k2]; have := hs.2.2.1; omega) (by rw [k2]; omega)
theorem qua_low (hv : vTown B S) : quaF D kd n S 0 = S 0 ∧ quaF D kd n S 1 = S 1 ∧ quaF D kd n S 2 = S 2 + 1 ∧ S 3 ≤ quaF D kd n S 3 ∧ quaF D kd n S 3 ≤ S 3 + 12 ∧ ∀ j : Nat, 196 ≤ j ∨ (5 ≤ j ∧ j < 10) ∨ (136 ≤ j ∧ j < 196 ∧ (j - 136) % 5 = 4) → quaF D kd n S j = S j := by
  obtain ⟨k0, k1, k2, k3, k4⟩ := mid_keep (D := D) (kd := kd) (n := n) hv
  have hn := nS12 (fLate01 (midS D kd n S)) (Nat.le_refl 12)
  have e3 : quaF D kd n S 3 = midS D kd n S 3 + nS (fLate (midS D kd n S)) 12 := rfl
  have e2 : quaF D kd n S 2 = midS D kd n S 2 + 1 := rfl
  exact ⟨k0, k1, by rw [e2, k2], by omega, by omega, fun j hj => by
    show uS (uS (midS D kd n S) 3 (midS D kd n S 3 + nS (fLate (midS D kd n S)) 12)) 2 (midS D kd n S 2 + 1) j = S j
    rw [uS_ne (by omega), uS_ne (by omega)]; exact k4 j hj⟩
theorem quas_v (hv : vTown B S) : ∀ k : Nat, S 3 + 12 * k ≤ 1200 → S 2 + k ≤ 96 → vTown (B + 12 * k) (quasF D kd n k S) ∧ quasF D kd n k S 0 = S 0 ∧ quasF D kd n k S 1 = S 1 ∧ quasF D kd n k S 2 = S 2 + k ∧ S 3 ≤ quasF D kd n k S 3 ∧ quasF D kd n k S 3 ≤ S 3 + 12 * k ∧ ∀ j : Nat, 196 ≤ j ∨ (5 ≤ j ∧ j < 10) ∨ (136 ≤ j ∧ j < 196 ∧ (j - 136) % 5 = 4) → quasF D kd n k S j = S j
  | 0, _, _ => by
    refine ⟨hv.mono (by omega), rfl, rfl, ?_, Int.le_refl _, ?_, fun _ _ => rfl⟩
    · show S 2 = S 2 + ((0 : Nat) : Int); omega
    · show S 3 ≤ S 3 + 12 * ((0 : Nat) : Int); omega
  | k + 1, h3, h2 => by
    obtain ⟨a, b, c, e, f, g, h⟩ := quas_v hv k (by omega) (by omega)
    have q := qua_low (D := D) (kd := kd) (n := n) a
    refine ⟨(qua_v a (by omega) (by omega)).mono (by omega), q.1.trans b, q.2.1.trans c, ?_, ?_, ?_, fun j hj => (q.2.2.2.2.2 j hj).trans (h j hj)⟩
    · show quaF D kd n (quasF D kd n k S) 2 = _; omega
    · show S 3 ≤ quaF D kd n (quasF D kd n k S) 3; omega
    · show quaF D kd n (quasF D kd n k S) 3 ≤ _; omega
theorem c78 {x3 : Int} (hd : 40 ≤ d) (hr : ruleC M G a n kd D) (hv : vTown B S) (ht : TR b M S) (hb : b + 14 < 58) (ha : 59 < a) (h0 : 0 ≤ x3) (h3 : S 3 + 12 * x3 ≤ 1200) (h2 : S 2 + x3 ≤ 96) (kk : ∀ M', cF b M M' → TR b M' (quasF D kd n x3.toNat S) → PV M' G) : sC d 78 [vO 0 57, vQ 6 a, vO 10 b, vI x3] M G (QV PV) := by
  obtain ⟨d, rfl⟩ := sD 2 (d := d) (by omega)
  have hS2 := hv.1.2.2.1
  refine e78 (s78_0 ⟨fun _ => ?_, fun z => absurd z hr.1⟩)
  refine sUpTo (W := fun i => ∀ M', cF b M M' → TR b M' (quasF D kd n i S) → sW (sC (d + 1)) 78 (QV PV) 8 [vO 0 57, vQ 6 a, vO 10 b, vI x3, vI (i : Int)] [] M' G 0 0) x3.toNat ?_ ?_ M (cF.refl b M) ht
  · intro M' hF ht'
    exact s78_8 ⟨fun _ => kk M' hF ht', fun q => by omega⟩
  · intro i hi ih M' hF ht'
    obtain ⟨hv', q0, q1, q2', q3', q4', -⟩ := quas_v (D := D) (kd := kd) (n := n) hv i (by omega) (by omega)
    have rr : ∀ M'', cF b M M'' → ruleC M'' G a n kd D := fun M'' h => hr.congr (fun k hk => h _ (by omega) (by omega) (by omega))
    refine s78_8 ⟨fun q => by omega, fun q => ?_⟩
    refine c79 (by omega) (rr M' hF) hv' ht' hb ha (fun M1 f1 v1 t1 => ?_)
    have g1 := hF.trans f1
    refine c86 (by omega) (rr M1 g1) v1 t1 hb ha (fun M2 f2 v2 t2 => ?_)
    have g2 := g1.trans f2
    refine c88 (by omega) (rr M2 g2) v2 t2 hb ha (fun M3 f3 t3 => ?_)
    have g3 := g2.trans f3
    have hm := mid_v (D := D) (kd := kd) (n := n) hv'
    have km := mid_keep (D := D) (kd := kd) (n := n) hv'
    have hn := nS12 (fLate01 (midS D kd n (quasF D kd n i S))) (Nat.le_refl 12)
    refine c90 (S := midS D kd n (quasF D kd n i S)) (by omega) hm t3 (by have := km.2.2.2.1; omega) ?_
    have e13 : sUpd M3 b 14 (midS D kd n (quasF D kd n i S) 3 + nS (fLate (midS D kd n (quasF D kd n i S))) 12) b 13 = midS D kd n (quasF D kd n i S) 2 := (sUpd_ni (by decide)).trans t3.1.2.2.1
    have h13 := km.2.2.1
    rw [e13]
    have hs2 := hv'.1.2.2.1
    refine ⟨⟨by omega, by omega⟩, ⟨by omega, by omega⟩, ?_⟩
    refine ih _ (fun x y1 y2 y3 => by rw [sUpd_ne (by omega), sUpd_ne (by omega)]; exact g3 x y1 y2 y3) ?_
    have t4 : TR b (sUpd M3 b 14 (midS D kd n (quasF D kd n i S) 3 + nS (fLate (midS D kd n (quasF D kd n i S))) 12)) (uS (midS D kd n (quasF D kd n i S)) 3 (midS D kd n (quasF D kd n i S) 3 + nS (fLate (midS D kd n (quasF D kd n i S))) 12)) := t3.low (Or.inr rfl) (fun j j1 _ => sUpd_ne (by omega)) ⟨sUpd_ni (by decide), sUpd_ni (by decide)⟩ ((sUpd_ni (by decide)).trans t3.1.2.2.1) sUpd_eq
    exact t4.low (Or.inl rfl) (fun j j1 _ => sUpd_ne (by omega)) ⟨sUpd_ni (by decide), sUpd_ni (by decide)⟩ sUpd_eq ((sUpd_ni (by decide)).trans t4.1.2.2.2)
end Qs
