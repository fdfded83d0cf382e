/-! RULES: what a row of steps comes to, for the class (with its jumps) and for the reference. -/
def jn (s x y : Int) : Int := if s = 2 then jWrap (x + y) else if s = 3 then jWrap (x - y) else if s = 4 then jWrap (x * y) else if s = 5 then (if y = 0 then 0 else jDiv x y) else if s = 6 then (if x < y then 1 else 0) else if s = 7 then (if x ≤ y then 1 else 0) else if s = 8 then (if x = y then 1 else 0) else if s = 9 then (if y ≤ x then 1 else 0) else (if y < x then 1 else 0)
/-- a look at the class's machine that its steps carry on -/
def cCl (s g w : Nat → Int) (E : Nat) (W : Nat → Nat → (Nat → Int) → Prop) : Prop :=
  (∀ i t v, i < E → s i = 0 → t < 64 → W (i + 1) (t + 1) (uS v t (g i)) → W i t v) ∧
  (∀ i t v, i < E → s i = 1 → t < 64 → W (i + 1) (t + 1) (uS v t (w (g i).toNat)) → W i t v) ∧
  (∀ i t v, i < E → s i = 11 → 1 ≤ t → t ≤ 64 → W (i + 1) t (uS v (t - 1) (jWrap (1 - v (t - 1)))) → W i t v) ∧
  (∀ i t v, i < E → s i = 12 → 1 ≤ t → t ≤ 64 → (v (t - 1) = 0 → W (Nat.max (i + 1) (g i).toNat) t v) → (v (t - 1) ≠ 0 → W (i + 1) (t - 1) v) → W i t v) ∧
  (∀ i t v, i < E → s i = 13 → 1 ≤ t → t ≤ 64 → (v (t - 1) ≠ 0 → W (Nat.max (i + 1) (g i).toNat) t v) → (v (t - 1) = 0 → W (i + 1) (t - 1) v) → W i t v) ∧
  (∀ i t v, i < E → 2 ≤ s i → s i ≤ 10 → 2 ≤ t → t ≤ 64 → W (i + 1) (t - 1) (uS v (t - 2) (jn (s i) (v (t - 2)) (v (t - 1)))) → W i t v)
/-- the same for the reference -/
def rCl (s g w : Nat → Int) (E : Nat) (W : Nat → Nat → (Nat → Int) → Prop) : Prop :=
  (∀ i t v, i < E → s i = 0 → t < 64 → W (i + 1) (t + 1) (uS v t (g i)) → W i t v) ∧
  (∀ i t v, i < E → s i = 1 → t < 64 → W (i + 1) (t + 1) (uS v t (w (g i).toNat)) → W i t v) ∧
  (∀ i t v, i < E → s i = 11 → 1 ≤ t → t ≤ 64 → W (i + 1) t (uS v (t - 1) (jWrap (1 - v (t - 1)))) → W i t v) ∧
  (∀ i t v, i < E → s i = 12 → 2 ≤ t → t ≤ 64 → W (i + 1) (t - 1) (uS v (t - 2) (jAnd (v (t - 2)) (v (t - 1)))) → W i t v) ∧
  (∀ i t v, i < E → s i = 13 → 2 ≤ t → t ≤ 64 → W (i + 1) (t - 1) (uS v (t - 2) (jOr (v (t - 2)) (v (t - 1)))) → W i t v) ∧
  (∀ i t v, i < E → 2 ≤ s i → s i ≤ 10 → 2 ≤ t → t ≤ 64 → W (i + 1) (t - 1) (uS v (t - 2) (jn (s i) (v (t - 2)) (v (t - 1)))) → W i t v)
/-- the steps from a to b put one number on top, with h places -/
def cSeg (s g : Nat → Int) (a b h : Nat) (D : (Nat → Int) → Int) : Prop := a ≤ b ∧ 1 ≤ h ∧ ∀ w E W, b ≤ E → cCl s g w E W → ∀ t v, t + h ≤ 64 → (∀ v', (∀ j, j < t → v' j = v j) → v' t = D w → W b (t + 1) v') → W a t v
def rSeg (s g : Nat → Int) (a b h : Nat) (D : (Nat → Int) → Int) : Prop := a ≤ b ∧ 1 ≤ h ∧ ∀ w E W, b ≤ E → rCl s g w E W → ∀ t v, t + h ≤ 64 → (∀ v', (∀ j, j < t → v' j = v j) → v' t = D w → W b (t + 1) v') → W a t v
section Segs
variable {s g : Nat → Int} {a b c h h' k : Nat} {D D' : (Nat → Int) → Int}
theorem cSeg.mono (H : cSeg s g a b h D) (hk : h ≤ k) : cSeg s g a b k D := ⟨H.1, Nat.le_trans H.2.1 hk, fun w E W hE hc t v ht kk => H.2.2 w E W hE hc t v (by omega) kk⟩
theorem rSeg.mono (H : rSeg s g a b h D) (hk : h ≤ k) : rSeg s g a b k D := ⟨H.1, Nat.le_trans H.2.1 hk, fun w E W hE hc t v ht kk => H.2.2 w E W hE hc t v (by omega) kk⟩
theorem cSeg.num (h0 : s a = 0) : cSeg s g a (a + 1) 1 (fun _ => g a) := ⟨Nat.le_succ a, Nat.le_refl _, fun w E W hE hc t v ht kk => hc.1 a t v (by omega) h0 (by omega) (kk _ (fun j hj => uS_ne (by omega)) (uS_eq rfl))⟩
theorem rSeg.num (h0 : s a = 0) : rSeg s g a (a + 1) 1 (fun _ => g a) := ⟨Nat.le_succ a, Nat.le_refl _, fun w E W hE hc t v ht kk => hc.1 a t v (by omega) h0 (by omega) (kk _ (fun j hj => uS_ne (by omega)) (uS_eq rfl))⟩
theorem cSeg.word (h0 : s a = 1) : cSeg s g a (a + 1) 1 (fun w => w (g a).toNat) := ⟨Nat.le_succ a, Nat.le_refl _, fun w E W hE hc t v ht kk => hc.2.1 a t v (by omega) h0 (by omega) (kk _ (fun j hj => uS_ne (by omega)) (uS_eq rfl))⟩
theorem rSeg.word (h0 : s a = 1) : rSeg s g a (a + 1) 1 (fun w => w (g a).toNat) := ⟨Nat.le_succ a, Nat.le_refl _, fun w E W hE hc t v ht kk => hc.2.1 a t v (by omega) h0 (by omega) (kk _ (fun j hj => uS_ne (by omega)) (uS_eq rfl))⟩
theorem cSeg.not (H : cSeg s g a b h D) (h0 : s b = 11) : cSeg s g a (b + 1) h (fun w => jWrap (1 - D w)) := ⟨Nat.le_succ_of_le H.1, H.2.1, fun w E W hE hc t v ht kk => H.2.2 w E W (by omega) hc t v ht (fun v' e1 e2 => hc.2.2.1 b (t + 1) v' (by omega) h0 (by omega) (by have := H.2.1; omega) (by
  rw [Nat.add_sub_cancel, e2]
  exact kk _ (fun j hj => (uS_ne (by omega)).trans (e1 j hj)) (uS_eq rfl)))⟩
theorem rSeg.not (H : rSeg s g a b h D) (h0 : s b = 11) : rSeg s g a (b + 1) h (fun w => jWrap (1 - D w)) := ⟨Nat.le_succ_of_le H.1, H.2.1, fun w E W hE hc t v ht kk => H.2.2 w E W (by omega) hc t v ht (fun v' e1 e2 => hc.2.2.1 b (t + 1) v' (by omega) h0 (by omega) (by have := H.2.1; omega) (by
  rw [Nat.add_sub_cancel, e2]
  exact kk _ (fun j hj => (uS_ne (by omega)).trans (e1 j hj)) (uS_eq rfl)))⟩
theorem cSeg.join (H : cSeg s g a b h D) (H' : cSeg s g b c h' D') (h0 : 2 ≤ s c ∧ s c ≤ 10) : cSeg s g a (c + 1) (h + h') (fun w => jn (s c) (D w) (D' w)) := ⟨by have := H.1; have := H'.1; omega, by have := H.2.1; omega, fun w E W hE hc t v ht kk => H.2.2 w E W (by have := H'.1; omega) hc t v (by omega) (fun v' e1 e2 => H'.2.2 w E W (by omega) hc (t + 1) v' (by have := H.2.1; omega) (fun v'' f1 f2 => hc.2.2.2.2.2 c (t + 1 + 1) v'' (by omega) h0.1 h0.2 (by omega) (by have := H.2.1; have := H'.2.1; omega) (by
  rw [show t + 1 + 1 - 1 = t + 1 by omega, show t + 1 + 1 - 2 = t by omega, f2, f1 t (by omega), e2]
  exact kk _ (fun j hj => (uS_ne (by omega)).trans ((f1 j (by omega)).trans (e1 j hj))) (uS_eq rfl))))⟩
theorem rSeg.join (H : rSeg s g a b h D) (H' : rSeg s g b c h' D') (h0 : 2 ≤ s c ∧ s c ≤ 10) : rSeg s g a (c + 1) (h + h') (fun w => jn (s c) (D w) (D' w)) := ⟨by have := H.1; have := H'.1; omega, by have := H.2.1; omega, fun w E W hE hc t v ht kk => H.2.2 w E W (by have := H'.1; omega) hc t v (by omega) (fun v' e1 e2 => H'.2.2 w E W (by omega) hc (t + 1) v' (by have := H.2.1; omega) (fun v'' f1 f2 => hc.2.2.2.2.2 c (t + 1 + 1) v'' (by omega) h0.1 h0.2 (by omega) (by have := H.2.1; have := H'.2.1; omega) (by
  rw [show t + 1 + 1 - 1 = t + 1 by omega, show t + 1 + 1 - 2 = t by omega, f2, f1 t (by omega), e2]
  exact kk _ (fun j hj => (uS_ne (by omega)).trans ((f1 j (by omega)).trans (e1 j hj))) (uS_eq rfl))))⟩
theorem rSeg.and (H : rSeg s g a b h D) (H' : rSeg s g b c h' D') (h0 : s c = 12) : rSeg s g a (c + 1) (h + h') (fun w => jAnd (D w) (D' w)) := ⟨by have := H.1; have := H'.1; omega, by have := H.2.1; omega, fun w E W hE hc t v ht kk => H.2.2 w E W (by have := H'.1; omega) hc t v (by omega) (fun v' e1 e2 => H'.2.2 w E W (by omega) hc (t + 1) v' (by have := H.2.1; omega) (fun v'' f1 f2 => hc.2.2.2.1 c (t + 1 + 1) v'' (by omega) h0 (by omega) (by have := H.2.1; have := H'.2.1; omega) (by
  rw [show t + 1 + 1 - 1 = t + 1 by omega, show t + 1 + 1 - 2 = t by omega, f2, f1 t (by omega), e2]
  exact kk _ (fun j hj => (uS_ne (by omega)).trans ((f1 j (by omega)).trans (e1 j hj))) (uS_eq rfl))))⟩
theorem rSeg.or (H : rSeg s g a b h D) (H' : rSeg s g b c h' D') (h0 : s c = 13) : rSeg s g a (c + 1) (h + h') (fun w => jOr (D w) (D' w)) := ⟨by have := H.1; have := H'.1; omega, by have := H.2.1; omega, fun w E W hE hc t v ht kk => H.2.2 w E W (by have := H'.1; omega) hc t v (by omega) (fun v' e1 e2 => H'.2.2 w E W (by omega) hc (t + 1) v' (by have := H.2.1; omega) (fun v'' f1 f2 => hc.2.2.2.2.1 c (t + 1 + 1) v'' (by omega) h0 (by omega) (by have := H.2.1; have := H'.2.1; omega) (by
  rw [show t + 1 + 1 - 1 = t + 1 by omega, show t + 1 + 1 - 2 = t by omega, f2, f1 t (by omega), e2]
  exact kk _ (fun j hj => (uS_ne (by omega)).trans ((f1 j (by omega)).trans (e1 j hj))) (uS_eq rfl))))⟩
theorem cSeg.and (H : cSeg s g a b h D) (H' : cSeg s g (b + 1) c h' D') (h0 : s b = 12) (h1 : (g b).toNat = c) : cSeg s g a c (h + h') (fun w => if D w = 0 then D w else D' w) := ⟨by have := H.1; have := H'.1; omega, by have := H.2.1; omega, fun w E W hE hc t v ht kk => H.2.2 w E W (by have := H'.1; omega) hc t v (by omega) (fun v' e1 e2 => hc.2.2.2.1 b (t + 1) v' (by have := H'.1; omega) h0 (by omega) (by have := H.2.1; omega) (fun z => by
    rw [Nat.add_sub_cancel, e2] at z
    rw [h1, show Nat.max (b + 1) c = c from Nat.max_eq_right H'.1]
    exact kk v' e1 (e2.trans (if_pos z).symm)) (fun z => by
    rw [Nat.add_sub_cancel, e2] at z
    rw [Nat.add_sub_cancel]
    exact H'.2.2 w E W hE hc t v' (by have := H.2.1; omega) (fun v'' f1 f2 => kk v'' (fun j hj => (f1 j hj).trans (e1 j hj)) (f2.trans (if_neg z).symm))))⟩
theorem cSeg.or (H : cSeg s g a b h D) (H' : cSeg s g (b + 1) c h' D') (h0 : s b = 13) (h1 : (g b).toNat = c) : cSeg s g a c (h + h') (fun w => if D w ≠ 0 then D w else D' w) := ⟨by have := H.1; have := H'.1; omega, by have := H.2.1; omega, fun w E W hE hc t v ht kk => H.2.2 w E W (by have := H'.1; omega) hc t v (by omega) (fun v' e1 e2 => hc.2.2.2.2.1 b (t + 1) v' (by have := H'.1; omega) h0 (by omega) (by have := H.2.1; omega) (fun z => by
    rw [Nat.add_sub_cancel, e2] at z
    rw [h1, show Nat.max (b + 1) c = c from Nat.max_eq_right H'.1]
    exact kk v' e1 (e2.trans (if_pos z).symm)) (fun z => by
    rw [Nat.add_sub_cancel, e2] at z
    rw [Nat.add_sub_cancel]
    exact H'.2.2 w E W hE hc t v' (by have := H.2.1; omega) (fun v'' f1 f2 => kk v'' (fun j hj => (f1 j hj).trans (e1 j hj)) (f2.trans (if_neg (fun y => y z)).symm))))⟩
/-- the steps between alone count -/
theorem cCl.congr {s' g' w : Nat → Int} {E : Nat} {W : Nat → Nat → (Nat → Int) → Prop} (hs : ∀ i, a ≤ i → i < b → s' i = s i ∧ g' i = g i) (hE : E ≤ b) (hc : cCl s' g' w E W) : cCl s g w E (fun i t v => a ≤ i → W i t v) := by
  obtain ⟨c1, c2, c3, c4, c5, c6⟩ := hc
  have mx : ∀ x y : Nat, x ≤ Nat.max x y := fun x y => Nat.le_max_left x y
  refine ⟨fun i t v hi hs0 ht k ha => ?_, fun i t v hi hs0 ht k ha => ?_, fun i t v hi hs0 ht ht' k ha => ?_, fun i t v hi hs0 ht ht' k1 k2 ha => ?_, fun i t v hi hs0 ht ht' k1 k2 ha => ?_, fun i t v hi hs0 hs1 ht ht' k ha => ?_⟩
  · obtain ⟨e1, e2⟩ := hs i ha (by omega)
    exact c1 i t v hi (e1.trans hs0) ht (by rw [e2]; exact k (by omega))
  · obtain ⟨e1, e2⟩ := hs i ha (by omega)
    exact c2 i t v hi (e1.trans hs0) ht (by rw [e2]; exact k (by omega))
  · obtain ⟨e1, e2⟩ := hs i ha (by omega)
    exact c3 i t v hi (e1.trans hs0) ht ht' (k (by omega))
  · obtain ⟨e1, e2⟩ := hs i ha (by omega)
    exact c4 i t v hi (e1.trans hs0) ht ht' (fun z => by rw [e2]; exact k1 z (Nat.le_trans (by omega) (mx (i + 1) _))) (fun z => k2 z (by omega))
  · obtain ⟨e1, e2⟩ := hs i ha (by omega)
    exact c5 i t v hi (e1.trans hs0) ht ht' (fun z => by rw [e2]; exact k1 z (Nat.le_trans (by omega) (mx (i + 1) _))) (fun z => k2 z (by omega))
  · obtain ⟨e1, e2⟩ := hs i ha (by omega)
    exact c6 i t v hi (by omega) (by omega) ht ht' (by rw [e1]; exact k (by omega))
theorem rCl.congr {s' g' w : Nat → Int} {E : Nat} {W : Nat → Nat → (Nat → Int) → Prop} (hs : ∀ i, a ≤ i → i < b → s' i = s i ∧ g' i = g i) (hE : E ≤ b) (hc : rCl s' g' w E W) : rCl s g w E (fun i t v => a ≤ i → W i t v) := by
  obtain ⟨c1, c2, c3, c4, c5, c6⟩ := hc
  refine ⟨fun i t v hi hs0 ht k ha => ?_, fun i t v hi hs0 ht k ha => ?_, fun i t v hi hs0 ht ht' k ha => ?_, fun i t v hi hs0 ht ht' k ha => ?_, fun i t v hi hs0 ht ht' k ha => ?_, fun i t v hi hs0 hs1 ht ht' k ha => ?_⟩
  · obtain ⟨e1, e2⟩ := hs i ha (by omega)
    exact c1 i t v hi (e1.trans hs0) ht (by rw [e2]; exact k (by omega))
  · obtain ⟨e1, e2⟩ := hs i ha (by omega)
    exact c2 i t v hi (e1.trans hs0) ht (by rw [e2]; exact k (by omega))
  · obtain ⟨e1, e2⟩ := hs i ha (by omega)
    exact c3 i t v hi (e1.trans hs0) ht ht' (k (by omega))
  · obtain ⟨e1, e2⟩ := hs i ha (by omega)
    exact c4 i t v hi (e1.trans hs0) ht ht' (k (by omega))
  · obtain ⟨e1, e2⟩ := hs i ha (by omega)
    exact c5 i t v hi (e1.trans hs0) ht ht' (k (by omega))
  · obtain ⟨e1, e2⟩ := hs i ha (by omega)
    exact c6 i t v hi (by omega) (by omega) ht ht' (by rw [e1]; exact k (by omega))
theorem cCl.less {w : Nat → Int} {E E' : Nat} {W : Nat → Nat → (Nat → Int) → Prop} (hE : E' ≤ E) (hc : cCl s g w E W) : cCl s g w E' W := by
  obtain ⟨c1, c2, c3, c4, c5, c6⟩ := hc
  exact ⟨fun i t v hi => c1 i t v (by omega), fun i t v hi => c2 i t v (by omega), fun i t v hi => c3 i t v (by omega), fun i t v hi => c4 i t v (by omega), fun i t v hi => c5 i t v (by omega), fun i t v hi => c6 i t v (by omega)⟩
theorem rCl.less {w : Nat → Int} {E E' : Nat} {W : Nat → Nat → (Nat → Int) → Prop} (hE : E' ≤ E) (hc : rCl s g w E W) : rCl s g w E' W := by
  obtain ⟨c1, c2, c3, c4, c5, c6⟩ := hc
  exact ⟨fun i t v hi => c1 i t v (by omega), fun i t v hi => c2 i t v (by omega), fun i t v hi => c3 i t v (by omega), fun i t v hi => c4 i t v (by omega), fun i t v hi => c5 i t v (by omega), fun i t v hi => c6 i t v (by omega)⟩
theorem cSeg.congr {s' g' : Nat → Int} (hs : ∀ i, a ≤ i → i < b → s' i = s i ∧ g' i = g i) (H : cSeg s g a b h D) : cSeg s' g' a b h D :=
  ⟨H.1, H.2.1, fun w E W hE hc t v ht kk => H.2.2 w b (fun i t v => a ≤ i → W i t v) (Nat.le_refl _) (cCl.congr hs (Nat.le_refl _) (hc.less hE)) t v ht (fun v' e1 e2 _ => kk v' e1 e2) (Nat.le_refl _)⟩
theorem rSeg.congr {s' g' : Nat → Int} (hs : ∀ i, a ≤ i → i < b → s' i = s i ∧ g' i = g i) (H : rSeg s g a b h D) : rSeg s' g' a b h D :=
  ⟨H.1, H.2.1, fun w E W hE hc t v ht kk => H.2.2 w b (fun i t v => a ≤ i → W i t v) (Nat.le_refl _) (rCl.congr hs (Nat.le_refl _) (hc.less hE)) t v ht (fun v' e1 e2 _ => kk v' e1 e2) (Nat.le_refl _)⟩
end Segs
section Joined
variable {d : Nat} {P : Int → sM → sG → Prop} {M : sM} {G : sG}
theorem c85 {x0 x y : Int} (hd : 5 ≤ d) (h0 : 2 ≤ x0 ∧ x0 ≤ 10) (kk : P (jn x0 x y) M G) : sC d 85 [vI x0, vL x, vL y] M G (QL P) := by
  obtain ⟨d, rfl⟩ := sD 2 (d := d) (by omega)
  unfold jn at kk
  refine e85 (s85_0 ⟨fun q1 => ⟨fun q2 => ?_, fun q3 => ?_⟩, fun q4 => ?_, fun q5 => ?_, fun q6 => ?_, fun q7 => ⟨fun q8 => ?_, fun q9 => ?_⟩, fun q10 => ⟨fun q11 => ?_, fun q12 => ?_⟩, fun q13 => ⟨fun q14 => ?_, fun q15 => ?_⟩, fun q16 => ⟨fun q17 => ?_, fun q18 => ?_⟩, fun q19 => ⟨fun q20 => ?_, fun q21 => ?_⟩⟩)
  · have e : x0 = 10 := by omega
    subst e
    simpa [Int.not_lt.mpr q2] using kk
  · have e : x0 = 10 := by omega
    subst e
    simpa [q3] using kk
  · subst q4; simpa using kk
  · subst q5; simpa using kk
  · subst q6; simpa using kk
  · subst q7; simpa [q8] using kk
  · subst q7; simpa [q9] using kk
  · subst q10; simpa [Int.not_lt.mpr q11] using kk
  · subst q10; simpa [q12] using kk
  · subst q13; simpa [Int.not_le.mpr q14] using kk
  · subst q13; simpa [q15] using kk
  · subst q16; simpa [q17] using kk
  · subst q16; simpa [q18] using kk
  · subst q19; simpa [Int.not_le.mpr q20] using kk
  · subst q19; simpa [q21] using kk
theorem c228 {x0 x y : Int} (hd : 5 ≤ d) (k1 : 2 ≤ x0 → x0 ≤ 10 → P (jn x0 x y) M G) (k2 : x0 = 12 → P (jAnd x y) M G) (k3 : x0 = 13 → P (jOr x y) M G) (h0 : (2 ≤ x0 ∧ x0 ≤ 10) ∨ x0 = 12 ∨ x0 = 13) : sC d 228 [vI x0, vL x, vL y] M G (QL P) := by
  obtain ⟨d, rfl⟩ := sD 2 (d := d) (by omega)
  unfold jn at k1
  refine e228 (s228_0 ⟨fun q1 => ?_, fun q2 => ?_, fun q3 => ?_, fun q4 => ?_, fun q5 => ⟨fun q6 => ?_, fun q7 => ?_⟩, fun q8 => ⟨fun q9 => ?_, fun q10 => ?_⟩, fun q11 => ⟨fun q12 => ?_, fun q13 => ?_⟩, fun q14 => ⟨fun q15 => ?_, fun q16 => ?_⟩, fun q17 => ⟨fun q18 => ?_, fun q19 => ?_⟩, fun q20 => ⟨fun q21 => ?_, fun q22 => ?_⟩, fun q23 => ?_, fun q24 => ?_⟩)
  · exact k3 (by omega)
  · subst q2; simpa using k1
  · subst q3; simpa using k1
  · subst q4; simpa using k1
  · subst q5; simpa [q6] using k1
  · subst q5; simpa [q7] using k1
  · subst q8; simpa [Int.not_lt.mpr q9] using k1
  · subst q8; simpa [q10] using k1
  · subst q11; simpa [Int.not_le.mpr q12] using k1
  · subst q11; simpa [q13] using k1
  · subst q14; simpa [q15] using k1
  · subst q14; simpa [q16] using k1
  · subst q17; simpa [Int.not_le.mpr q18] using k1
  · subst q17; simpa [q19] using k1
  · subst q20; simpa [Int.not_lt.mpr q21] using k1
  · subst q20; simpa [q22] using k1
  · omega
  · exact k2 q24
end Joined
