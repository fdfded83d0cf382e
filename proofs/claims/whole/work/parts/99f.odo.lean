/-! STEP: plan. -/
section
variable {G : sG} {S : Nat → Int}
theorem plF.refl (N : sM) (m : Int) : plF S N N m none := ⟨fun _ _ _ => rfl, fun p _ h => absurd h (by simp)⟩
theorem plF.same {N N' : sM} {m : Int} (hm : m ≠ 0) (h : N' 100 = N 100) (F : Option (Nat → Nat)) : plF S N N' m F := ⟨fun _ i _ => by rw [h], fun p h0 => absurd h0 hm⟩
noncomputable def gT (S : Nat → Int) (r k : Nat) (a : Nat → Nat) : Nat → Int := fun y => if opB S k a k y = true then cT S r (k + 1) (upC a k y) else 0
noncomputable def gP (S : Nat → Int) (r k : Nat) (a : Nat → Nat) : Nat → Option (Nat → Nat) := fun y => if opB S k a k y = true then fP S r (k + 1) (upC a k y) else none
theorem gT_0 (r k : Nat) (a : Nat → Nat) (y : Nat) : 0 ≤ gT S r k a y := by
  have := (cT_b (S := S) r (k + 1) (upC a k y)).1
  unfold gT
  split <;> omega
theorem gTP (r k : Nat) (a : Nat → Nat) (y : Nat) : (gP S r k a y = none → gT S r k a y = 0) ∧ ∀ p, gP S r k a y = some p → 1 ≤ gT S r k a y := by
  unfold gP gT
  by_cases c : opB S k a k y = true
  · rw [if_pos c, if_pos c]; exact fP_cT r (k + 1) (upC a k y)
  · rw [if_neg c, if_neg c]; exact ⟨fun _ => rfl, fun p h => absurd h (by simp)⟩
theorem sF_ge0 {g : Nat → Int} (h : ∀ y, 0 ≤ g y) : ∀ c x, 0 ≤ sF g x c := fun c => by
  induction c with
  | zero => exact fun _ => Int.le_refl 0
  | succ c ih =>
    intro x
    have := ih (x + 1)
    have := h x
    show 0 ≤ g x + sF g (x + 1) c
    omega
def at33 (S : Nat → Int) (d : Nat) (P : Int → sM → sG → Prop) (G : sG) (m k : Int) (N : sM) : Prop := sW (sC (d + 1)) 252 (QI P) 33 [vO 12 82, vI (S 5), vI m, vI k, vN] [] N G 0 0
theorem ex1M {d : Nat} {P : Int → sM → sG → Prop} {m k : Int} {N : sM} (hv : vTold S) (hk : 0 ≤ k) (hm : 1000000 ≤ m) (h : P m N G) : at33 S d P G m k N := by
  unfold at33
  have h5 := hv.1
  refine s252_33 ⟨fun q1 => by omega, fun q2 => ⟨fun q3 => h, fun q4 => by omega⟩⟩
/-- one level of the odometer -/
theorem r252c (hv : vTold S) {d : Nat} (hd : 12 ≤ d) (r k : Nat) (a : Nat → Nat) (P : Int → sM → sG → Prop) (hk : (k : Int) + (r + 1 : Nat) = S 5) (hal : ∀ i, i < k → ((a i : Nat) : Int) < wC S i) (deep : ∀ (y : Nat) (m : Int) (N : sM), opB S k a k y = true → 0 ≤ m → m < 1000000 → N 93 = S → (∀ i, i < k → N 99 i = wF S i + ((a i : Nat) : Int)) → N 99 k = wF S k + (y : Int) → (m + gT S r k a y < 1000000 → ∀ N' : sM, (∀ b, b ≠ 99 → b ≠ 100 → N' b = N b) → (∀ i, i < k + 1 → N' 99 i = N 99 i) → plF S N N' m (gP S r k a y) → at33 S d P G (m + gT S r k a y) k N') → (1000000 ≤ m + gT S r k a y → ∀ N' : sM, (∀ b, b ≠ 99 → b ≠ 100 → N' b = N b) → plF S N N' m (gP S r k a y) → P 1000000 N' G) → (r = 0 → sW (sC (d + 1)) 252 (QI P) 131 [vO 12 82, vI (S 5), vI m, vI (k : Int), vI 0] [] N G 0 0) ∧ (r ≠ 0 → at33 S d P G m ((k : Int) + 1) (sUpd N 99 ((k : Int) + 1).toNat (wF S (k + 1) - 1)))) : ∀ (c x : Nat) (m : Int) (N : sM), x + c = 12 → (x : Int) ≤ wC S k → 0 ≤ m → m ≤ 1000000 → N 93 = S → (∀ i, i < k → N 99 i = wF S i + ((a i : Nat) : Int)) → N 99 k = wF S k - 1 + (x : Int) → (m + sF (gT S r k a) x c < 1000000 → ∀ N' : sM, (∀ b, b ≠ 99 → b ≠ 100 → N' b = N b) → (∀ i, i < k → N' 99 i = N 99 i) → plF S N N' m (fF (gP S r k a) x c) → at33 S d P G (m + sF (gT S r k a) x c) ((k : Int) + (-1)) N') → (1000000 ≤ m + sF (gT S r k a) x c → ∀ N' : sM, (∀ b, b ≠ 99 → b ≠ 100 → N' b = N b) → plF S N N' m (fF (gP S r k a) x c) → P 1000000 N' G) → at33 S d P G m k N := by
  have h5 := hv.1
  have kl : (k : Int) < S 5 := by omega
  have vk := wish_v hv kl
  have wck : wC S k = wT S k - wF S k - wD S k + 1 := rfl
  intro c
  induction c with
  | zero =>
    intro x m N hc hx m0 m1 hS hpre hk2 cont stop
    have e0 : sF (gT S r k a) x 0 = 0 := rfl
    rw [e0, Int.add_zero] at cont stop
    have eT : N 93 ((196 + (5 * (k : Int))) + 3).toNat = wT S k := by rw [hS]; rfl
    have eD : N 93 ((196 + (5 * (k : Int))) + 4).toNat = wD S k := by rw [hS]; rfl
    have e99 : N 99 ((k : Int)).toNat = wF S k - 1 + (x : Int) := hk2
    have eU : (sUpd N 99 ((k : Int)).toNat ((N 99 ((k : Int)).toNat) + 1)) 99 ((k : Int)).toNat = (N 99 ((k : Int)).toNat) + 1 := sUpd_eq
    unfold at33
    refine (s252_33 ⟨fun q1 => ?_, fun q2 => ⟨fun q3 => ?_, fun q4 => ⟨⟨(by first | omega | assumption | (refine ⟨?_, ?_⟩ <;> omega) | (simp_all; done)), (by first | omega | assumption | (refine ⟨?_, ?_⟩ <;> omega) | (simp_all; done))⟩, ⟨by omega, by omega⟩, ⟨by omega, by omega⟩, ⟨by omega, by omega⟩, ⟨by omega, by omega⟩, ⟨(by first | omega | assumption | (refine ⟨?_, ?_⟩ <;> omega) | (simp_all; done)), (by first | omega | assumption | (refine ⟨?_, ?_⟩ <;> omega) | (simp_all; done))⟩, ⟨by omega, by omega⟩, ⟨by omega, by omega⟩, ⟨(by first | omega | assumption | (refine ⟨?_, ?_⟩ <;> omega) | (simp_all; done)), (by first | omega | assumption | (refine ⟨?_, ?_⟩ <;> omega) | (simp_all; done))⟩, fun q5 => ?_, fun q10 => ⟨⟨by omega, by omega⟩, ?_⟩⟩⟩⟩)
    · omega
    · rw [show m = 1000000 by omega] at stop ⊢
      exact stop (by omega) N (fun _ _ _ => rfl) (plF.refl N _)
    · omega
    · refine cont (by omega) _ (fun b r1 r2 => sUpd_ne r1) (fun i hi => sUpd_ni (show i ≠ k by omega)) ?_
      exact ⟨fun _ i _ => by rw [sUpd_ne (by decide)], fun p _ h => absurd h (by simp [fF])⟩
    all_goals omega
  | succ c ihc =>
    intro x m N hc hx m0 m1 hS hpre hk2 cont stop
    by_cases hm : 1000000 ≤ m
    · have me : m = 1000000 := by omega
      have g0 := sF_ge0 (gT_0 (S := S) r k a) (c + 1) x
      refine ex1M hv (by omega) hm ?_
      have := stop (by omega) N (fun _ _ _ => rfl) (plF.same (by omega) rfl _)
      rw [me]; exact this
    · have eT : N 93 ((196 + (5 * (k : Int))) + 3).toNat = wT S k := by rw [hS]; rfl
      have eD : N 93 ((196 + (5 * (k : Int))) + 4).toNat = wD S k := by rw [hS]; rfl
      have e99 : N 99 ((k : Int)).toNat = wF S k - 1 + (x : Int) := hk2
      have eU : (sUpd N 99 ((k : Int)).toNat ((N 99 ((k : Int)).toNat) + 1)) 99 ((k : Int)).toNat = (N 99 ((k : Int)).toNat) + 1 := sUpd_eq
      have est : sF (gT S r k a) x (c + 1) = gT S r k a x + sF (gT S r k a) (x + 1) c := rfl
      have bU : ∀ b, b ≠ 99 → (sUpd N 99 ((k : Int)).toNat ((N 99 ((k : Int)).toNat) + 1)) b = N b := fun b hb => sUpd_ne hb
      have pU : ∀ i, i < k → (sUpd N 99 ((k : Int)).toNat ((N 99 ((k : Int)).toNat) + 1)) 99 i = N 99 i := fun i hi => sUpd_ni (show i ≠ k by omega)
      have kU : (sUpd N 99 ((k : Int)).toNat ((N 99 ((k : Int)).toNat) + 1)) 99 k = wF S k + (x : Int) := by
        have : (sUpd N 99 ((k : Int)).toNat ((N 99 ((k : Int)).toNat) + 1)) 99 k = (N 99 ((k : Int)).toNat) + 1 := sUpd_eq
        rw [this]; omega
      unfold at33
      refine (s252_33 ⟨fun q1 => ?_, fun q2 => ⟨fun q3 => ?_, fun q4 => ⟨⟨(by first | omega | assumption | (refine ⟨?_, ?_⟩ <;> omega) | (simp_all; done)), (by first | omega | assumption | (refine ⟨?_, ?_⟩ <;> omega) | (simp_all; done))⟩, ⟨by omega, by omega⟩, ⟨by omega, by omega⟩, ⟨by omega, by omega⟩, ⟨by omega, by omega⟩, ⟨(by first | omega | assumption | (refine ⟨?_, ?_⟩ <;> omega) | (simp_all; done)), (by first | omega | assumption | (refine ⟨?_, ?_⟩ <;> omega) | (simp_all; done))⟩, ⟨by omega, by omega⟩, ⟨by omega, by omega⟩, ⟨(by first | omega | assumption | (refine ⟨?_, ?_⟩ <;> omega) | (simp_all; done)), (by first | omega | assumption | (refine ⟨?_, ?_⟩ <;> omega) | (simp_all; done))⟩, fun q5 => ?_, fun q10 => ⟨⟨by omega, by omega⟩, ?_⟩⟩⟩⟩)
      · omega
      · omega
      · have hxc : (x : Int) < wC S k := by omega
        refine c254 (S := S) (by omega) hv (by rw [bU 93 (by decide)]; exact hS) kl (fun o ho => ?_) (fun hok => ?_) (fun hok => ?_)
        · by_cases z : o = k
          · rw [z, kU]; omega
          · rw [pU o (by omega), hpre o (by omega)]
            have vo := wish_v hv (show (o : Int) < S 5 by omega)
            have wco : wC S o = wT S o - wF S o - wD S o + 1 := rfl
            have := hal o (by omega)
            omega
        · have ho : opB S k a k x = true := opB_i.mpr ⟨hxc, fun o ho => by
            have := hok o ho
            rw [pU o ho, kU, hpre o ho] at this
            exact this⟩
          have dp := deep x m (sUpd N 99 ((k : Int)).toNat ((N 99 ((k : Int)).toNat) + 1)) ho m0 (by omega) (by rw [bU 93 (by decide)]; exact hS) (fun i hi => (pU i hi).trans (hpre i hi)) kU (fun hlt N' a1 a2 a3 => ?_) (fun hge N' a1 a3 => ?_)
          · have e198 : (sUpd N 99 ((k : Int)).toNat ((N 99 ((k : Int)).toNat) + 1)) 93 ((196 + (5 * ((k : Int) + 1))) + 2).toNat = wF S (k + 1) := by
              rw [bU 93 (by decide), hS]
              unfold wF
              congr 1
            have b198 : (k : Int) < S 5 - 1 → 0 ≤ wF S (k + 1) ∧ wF S (k + 1) ≤ 95 := fun z => by
              have vo := wish_v hv (show ((k + 1 : Nat) : Int) < S 5 by omega)
              have wco : wC S (k + 1) = wT S (k + 1) - wF S (k + 1) - wD S (k + 1) + 1 := rfl
              omega
            refine ⟨fun q6 => ⟨⟨by omega, by omega⟩, fun q7 => ?_, fun q8 => ⟨⟨by omega, by omega⟩, ⟨by omega, by omega⟩, ⟨by omega, by omega⟩, ⟨by omega, by omega⟩, ⟨(by first | omega | assumption | (refine ⟨?_, ?_⟩ <;> omega) | (simp_all; done)), (by first | omega | assumption | (refine ⟨?_, ?_⟩ <;> omega) | (simp_all; done))⟩, ⟨by omega, by omega⟩, ⟨(by first | omega | assumption | (refine ⟨?_, ?_⟩ <;> omega) | (simp_all; done)), (by first | omega | assumption | (refine ⟨?_, ?_⟩ <;> omega) | (simp_all; done))⟩, ?_⟩⟩, fun q9 => ?_⟩
            · exact dp.1 (by omega)
            · rw [e198]
              exact dp.2 (by omega)
            · omega
            all_goals omega
          · refine ihc (x + 1) (m + gT S r k a x) N' (by omega) (by omega) (by have := gT_0 (S := S) r k a x; omega) (by omega) (by rw [a1 93 (by decide) (by decide), bU 93 (by decide)]; exact hS) (fun i hi => by rw [a2 i (by omega), pU i hi]; exact hpre i hi) (by rw [a2 k (by omega), kU]; omega) (fun hlt2 N'' b1 b2 b3 => ?_) (fun hge2 N'' b1 b3 => ?_)
            · have := cont (by rw [est]; omega) N'' (fun b r1 r2 => (b1 b r1 r2).trans ((a1 b r1 r2).trans (bU b r1))) (fun i hi => (b2 i hi).trans ((a2 i (by omega)).trans (pU i hi))) (plF.comp (F1 := gP S r k a x) (T1 := gT S r k a x) m0 ⟨fun z i hi => (a3.1 z i hi).trans (by rw [bU 100 (by decide)]), a3.2⟩ (gTP r k a x).1 (gTP r k a x).2 b3 _ (fun p hp => fF_some hp) (fun hp => fF_step hp))
              rw [est, ← Int.add_assoc] at this
              exact this
            · exact stop (by rw [est]; omega) N'' (fun b r1 r2 => (b1 b r1 r2).trans ((a1 b r1 r2).trans (bU b r1))) (plF.comp (F1 := gP S r k a x) (T1 := gT S r k a x) m0 ⟨fun z i hi => (a3.1 z i hi).trans (by rw [bU 100 (by decide)]), a3.2⟩ (gTP r k a x).1 (gTP r k a x).2 b3 _ (fun p hp => fF_some hp) (fun hp => fF_step hp))
          · have g0 := sF_ge0 (gT_0 (S := S) r k a) c (x + 1)
            have g1 := gT_0 (S := S) r k a x
            have hne : gP S r k a x ≠ none := fun z => by have := (gTP (S := S) r k a x).1 z; omega
            refine stop (by rw [est]; omega) N' (fun b r1 r2 => (a1 b r1 r2).trans (bU b r1)) ⟨fun z i hi => ?_, fun p hm0 hp i hi => ?_⟩
            · refine (a3.1 ?_ i hi).trans (by rw [bU 100 (by decide)])
              rcases z with z | z
              · exact Or.inl z
              · exact Or.inr (fF_none' z x (Nat.le_refl x) (by omega))
            · refine a3.2 p hm0 ?_ i hi
              cases hg : gP S r k a x with
              | none => exact absurd hg hne
              | some p' =>
                rw [fF_some hg] at hp
                exact hp
        · have hn : ¬ opB S k a k x = true := fun z => hok (fun o ho => by
            have := (opB_i.mp z).2 o ho
            rw [pU o ho, kU, hpre o ho]
            exact this)
          have t0 : gT S r k a x = 0 := if_neg hn
          have p0 : gP S r k a x = none := if_neg hn
          refine ⟨fun q6 => ⟨⟨by omega, by omega⟩, fun q7 => ?_, fun q8 => ⟨⟨by omega, by omega⟩, ⟨by omega, by omega⟩, ⟨by omega, by omega⟩, ⟨by omega, by omega⟩, ⟨(by first | omega | assumption | (refine ⟨?_, ?_⟩ <;> omega) | (simp_all; done)), (by first | omega | assumption | (refine ⟨?_, ?_⟩ <;> omega) | (simp_all; done))⟩, ⟨by omega, by omega⟩, ⟨(by first | omega | assumption | (refine ⟨?_, ?_⟩ <;> omega) | (simp_all; done)), (by first | omega | assumption | (refine ⟨?_, ?_⟩ <;> omega) | (simp_all; done))⟩, ?_⟩⟩, fun q9 => ?_⟩
          · omega
          · omega
          · rw [est, t0, Int.zero_add] at cont stop
            rw [fF_step p0] at cont stop
            exact ihc (x + 1) m _ (by omega) (by omega) m0 (by omega) (by rw [bU 93 (by decide)]; exact hS) (fun i hi => (pU i hi).trans (hpre i hi)) (by rw [kU]; omega) (fun hlt2 N'' b1 b2 b3 => cont hlt2 N'' (fun b r1 r2 => (b1 b r1 r2).trans (bU b r1)) (fun i hi => (b2 i hi).trans (pU i hi)) ⟨fun z i hi => (b3.1 z i hi).trans (by rw [bU 100 (by decide)]), b3.2⟩) (fun hge2 N'' b1 b3 => stop hge2 N'' (fun b r1 r2 => (b1 b r1 r2).trans (bU b r1)) ⟨fun z i hi => (b3.1 z i hi).trans (by rw [bU 100 (by decide)]), b3.2⟩)
          all_goals omega
      · have hxc : x = (wC S k).toNat := by omega
        have z0 : ∀ y, x ≤ y → ¬ opB S k a k y = true := fun y hy z => by have := (opB_i.mp z).1; omega
        have t0 : sF (gT S r k a) x (c + 1) = 0 := sF_0 (fun y h1 h2 => if_neg (z0 y h1))
        have p0 : fF (gP S r k a) x (c + 1) = none := fF_none (fun y h1 h2 => if_neg (z0 y h1))
        rw [t0, Int.add_zero] at cont
        refine cont (by omega) _ (fun b r1 r2 => bU b r1) pU ?_
        rw [p0]
        exact ⟨fun _ i _ => by rw [bU 100 (by decide)], fun p _ h => absurd h (by simp)⟩
      all_goals omega
end
