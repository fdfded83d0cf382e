/-! The reference's orders, one behind the other. -/
section
variable {G : sG} {S : Nat → Int}
def orF (S : Nat → Int) (N N' : sM) (m : Int) (F : Option (Nat → Nat)) : Prop := (m ≠ 0 ∨ F = none → ∀ i : Nat, i < (S 6).toNat → N' 103 i = N 103 i) ∧ ∀ p, m = 0 → F = some p → ∀ i : Nat, i < (S 6).toNat → N' 103 i = wR S (p i)
theorem orF.comp {N N1 N2 : sM} {m T1 : Int} {F1 F2 : Option (Nat → Nat)} (hm : 0 ≤ m) (h : orF S N N1 m F1) (hn : F1 = none → T1 = 0) (hs : ∀ p, F1 = some p → 1 ≤ T1) (h' : orF S N1 N2 (m + T1) F2) (F : Option (Nat → Nat)) (hF1 : ∀ p, F1 = some p → F = some p) (hF0 : F1 = none → F = F2) : orF S N N2 m F := by
  constructor
  · intro z i hi
    cases hf : F1 with
    | none =>
      have e := hF0 hf
      have t := hn hf
      rw [h'.1 (by rcases z with z | z; exact Or.inl (by omega); exact Or.inr (by rw [← e]; exact z)) i hi]
      exact h.1 (Or.inr hf) i hi
    | some p =>
      have e := hF1 p hf
      have t := hs p hf
      have hm0 : m ≠ 0 := by
        rcases z with z | z
        · exact z
        · rw [e] at z; exact absurd z (by simp)
      rw [h'.1 (Or.inl (by omega)) i hi]
      exact h.1 (Or.inl hm0) i hi
  · intro p m0 hp i hi
    cases hf : F1 with
    | none =>
      have e := hF0 hf
      have t := hn hf
      exact h'.2 p (by omega) (by rw [← e]; exact hp) i hi
    | some p' =>
      have e := hF1 p' hf
      have t := hs p' hf
      rw [e] at hp
      have : p' = p := Option.some.inj hp
      rw [h'.1 (Or.inl (by omega)) i hi, ← this]
      exact h.2 p' m0 hf i hi
def at75 (d : Nat) (P : Int → sM → sG → Prop) (G : sG) (x1 cnt more : Int) (N : sM) : Prop := sW (sC d) 266 (QI P) 75 [vO 12 82, vI x1, vI cnt, vI more, vN] [] N G 0 0
def beN (d : Nat) (P : Int → sM → sG → Prop) (x1 cnt : Int) (G : sG) (N : sM) : Prop := sC d 269 [vO 12 82] N G (QI (fun r1 M1 G1 => at75 d P G1 x1 cnt r1 M1))
theorem r266 (hv : vTold S) {d : Nat} (hd : 30 ≤ d) {P : Int → sM → sG → Prop} {x1 : Int} : ∀ (r k : Nat) (c : Nat → Nat) (cnt : Int) (N : sM), k + r = (S 6).toNat → prm (S 6).toNat c → asc S (S 6).toNat c k → orR S N c → N 93 = S → 0 ≤ cnt → cnt + aT S (S 6).toNat r k c ≤ 100000000 → (∀ N' : sM, (∀ a, a ≠ 102 → a ≠ 103 → a ≠ 104 → N' a = N a) → orR S N' (rev (S 6).toNat c k) → orF S N N' cnt (aP S (S 6).toNat r k c) → beN d P x1 (cnt + aT S (S 6).toNat r k c) G N') → at75 d P G x1 cnt 1 N := by
  have h6 := hv.2.1
  intro r
  induction r with
  | zero =>
    intro k c cnt N hk hp ha ho hS c0 c1 cont
    have kn : k = (S 6).toNat := by omega
    have orev : ∀ N' : sM, (∀ a, a ≠ 103 → a ≠ 104 → N' a = N a) → orR S N' (rev (S 6).toNat c k) := fun N' h i hi => by
      rw [h 102 (by decide) (by decide)]
      unfold rev
      rw [if_pos (by omega)]
      exact ho i hi
    have eT : aT S (S 6).toNat 0 k c = if gdB S (S 6).toNat c = true then 1 else 0 := rfl
    have eP : aP S (S 6).toNat 0 k c = if gdB S (S 6).toNat c = true then some c else none := rfl
    rw [eT, eP] at cont
    rw [eT] at c1
    unfold at75
    refine (s266_75 ⟨fun q1 => ⟨fun q2 => ⟨fun q3 => ⟨⟨(by first | omega | assumption | (refine ⟨?_, ?_⟩ <;> omega) | (simp_all; done)), (by first | omega | assumption | (refine ⟨?_, ?_⟩ <;> omega) | (simp_all; done))⟩, ?_⟩, fun q4 => ?_⟩, fun q5 => ?_⟩, fun q6 => ?_⟩)
    · omega
    · omega
    · omega
    · refine c267 (S := S) (by omega) hv hS hp ho (fun hg N1 n1 => ?_) (fun hg N1 n1 => ?_)
      · have hb : gdB S (S 6).toNat c = true := gdB_i.mpr hg
        rw [if_pos hb, if_pos hb] at cont
        rw [if_pos hb] at c1
        have e93 : N1 93 = S := (n1 93 (by decide)).trans hS
        refine ⟨fun q7 => ?_, fun q8 => ?_⟩
        · omega
        · by_cases z : cnt = 0
          · have loop : sW (sC d) 266 (QI P) 89 [vO 12 82, vI x1, vI cnt, vN, vI ((0 : Nat) : Int)] [] N1 G 0 0 := by
              refine sUpTo (W := fun i => ∀ N2 : sM, (∀ a, a ≠ 103 → N2 a = N1 a) → (∀ j, j < i → N2 103 j = wR S (c j)) → sW (sC d) 266 (QI P) 89 [vO 12 82, vI x1, vI cnt, vN, vI (i : Int)] [] N2 G 0 0) (S 6).toNat ?_ ?_ N1 (fun _ _ => rfl) (fun j hj => absurd hj (Nat.not_lt_zero j))
              · intro N2 m1 m2
                have e6 : N2 93 6 = S 6 := by rw [m1 93 (by decide), e93]
                have ct := cont N2 (fun a r1 r2 r3 => (m1 a r2).trans (n1 a r3)) (orev N2 (fun a r1 r2 => (m1 a r1).trans (n1 a r2))) ⟨fun w => by
                  rcases w with w | w
                  · exact absurd z w
                  · exact absurd w (by simp), fun p _ hpp i hi => by
                  have : c = p := Option.some.inj hpp
                  rw [← this]; exact m2 i hi⟩
                refine (s266_89 ⟨fun q1 => ⟨⟨by omega, by omega⟩, ?_⟩, fun q2 => ⟨fun q3 => ⟨⟨by omega, by omega⟩, ?_⟩, fun q4 => ⟨⟨(by first | omega | assumption | (refine ⟨?_, ?_⟩ <;> omega) | (simp_all; done)), (by first | omega | assumption | (refine ⟨?_, ?_⟩ <;> omega) | (simp_all; done))⟩, ⟨by omega, by omega⟩, ?_⟩⟩⟩)
                · exact ct
                · exact ct
                all_goals omega
              · intro i hi ih N2 m1 m2
                have e6 : N2 93 6 = S 6 := by rw [m1 93 (by decide), e93]
                have e102 : N2 102 ((i : Int)).toNat = wR S (c i) := by
                  rw [m1 102 (by decide), n1 102 (by decide)]; exact ho i hi
                refine (s266_89 ⟨fun q1 => ⟨⟨by omega, by omega⟩, ?_⟩, fun q2 => ⟨fun q3 => ⟨⟨by omega, by omega⟩, ?_⟩, fun q4 => ⟨⟨(by first | omega | assumption | (refine ⟨?_, ?_⟩ <;> omega) | (simp_all; done)), (by first | omega | assumption | (refine ⟨?_, ?_⟩ <;> omega) | (simp_all; done))⟩, ⟨by omega, by omega⟩, ?_⟩⟩⟩)
                · omega
                · omega
                · refine ih _ (fun a ha => (sUpd_ne ha).trans (m1 a ha)) (fun j hj => ?_)
                  by_cases e : j = i
                  · rw [e, e102]; exact sUpd_eq
                  · exact (sUpd_ni (show j ≠ i from e)).trans (m2 j (by omega))
                all_goals omega
            exact loop
          · have ct := cont N1 (fun a _ _ r3 => n1 a r3) (orev N1 (fun a _ r2 => n1 a r2)) ⟨fun _ i _ => by rw [n1 103 (by decide)], fun p h0 => absurd h0 z⟩
            have e6 : N1 93 6 = S 6 := by rw [e93]
            refine (s266_89 ⟨fun q1 => ⟨⟨by omega, by omega⟩, ?_⟩, fun q2 => ⟨fun q3 => ⟨⟨by omega, by omega⟩, ?_⟩, fun q4 => ⟨⟨(by first | omega | assumption | (refine ⟨?_, ?_⟩ <;> omega) | (simp_all; done)), (by first | omega | assumption | (refine ⟨?_, ?_⟩ <;> omega) | (simp_all; done))⟩, ⟨by omega, by omega⟩, ?_⟩⟩⟩)
            · exact ct
            · exact ct
            all_goals omega
      · have hb : ¬ gdB S (S 6).toNat c = true := fun z => hg (gdB_i.mp z)
        rw [if_neg hb, if_neg hb, Int.add_zero] at cont
        have ct := cont N1 (fun a _ _ r3 => n1 a r3) (orev N1 (fun a _ r2 => n1 a r2)) ⟨fun _ i _ => by rw [n1 103 (by decide)], fun p _ h0 => absurd h0 (by simp)⟩
        refine ⟨fun q7 => ?_, fun q8 => ?_⟩
        · exact ct
        · omega
  | succ r ihr =>
    intro k c cnt N hk hp ha ho hS c0 c1 cont
    have eT : aT S (S 6).toNat (r + 1) k c = sF (fun j => aT S (S 6).toNat r (k + 1) (rot c k j)) 0 (r + 1) := rfl
    have eP : aP S (S 6).toNat (r + 1) k c = fF (fun j => aP S (S 6).toNat r (k + 1) (rot c k j)) 0 (r + 1) := rfl
    rw [eT] at c1
    rw [eT, eP] at cont
    have g0 : ∀ j, 0 ≤ aT S (S 6).toNat r (k + 1) (rot c k j) := fun j => (aP_aT r (k + 1) (rot c k j)).2.2
    have go : ∀ (m j : Nat) (ct : Int) (N1 : sM), j + (m + 1) = r + 1 → (∀ a, a ≠ 102 → a ≠ 103 → a ≠ 104 → N1 a = N a) → orR S N1 (rot c k j) → 0 ≤ ct → ct + sF (fun j => aT S (S 6).toNat r (k + 1) (rot c k j)) j (m + 1) ≤ 100000000 → (∀ N' : sM, (∀ a, a ≠ 102 → a ≠ 103 → a ≠ 104 → N' a = N a) → orR S N' (rev (S 6).toNat c k) → orF S N1 N' ct (fF (fun j => aP S (S 6).toNat r (k + 1) (rot c k j)) j (m + 1)) → beN d P x1 (ct + sF (fun j => aT S (S 6).toNat r (k + 1) (rot c k j)) j (m + 1)) G N') → at75 d P G x1 ct 1 N1 := fun m => by
      induction m with
      | zero =>
        intro j ct N1 hj n1 oN t0 t1 cont2
        have est : sF (fun j => aT S (S 6).toNat r (k + 1) (rot c k j)) j (0 + 1) = aT S (S 6).toNat r (k + 1) (rot c k j) + 0 := rfl
        rw [est, Int.add_zero] at t1 cont2
        have pj := rot_p hp (show k + j < (S 6).toNat by omega)
        refine ihr (k + 1) (rot c k j) ct N1 (by omega) pj (rot_asc ha) oN ((n1 93 (by decide) (by decide) (by decide)).trans hS) t0 t1 (fun N' b1 b2 b3 => ?_)
        refine cont2 N' (fun a r1 r2 r3 => (b1 a r1 r2 r3).trans (n1 a r1 r2 r3)) (fun i hi => ?_) ?_
        · rw [b2 i hi]
          unfold rev
          by_cases e1 : i < k
          · rw [if_pos (by omega), if_pos e1, rot_l e1]
          · rw [if_neg e1]
            by_cases e2 : i = k
            · rw [if_pos (by omega), e2, rot_k, show k + (S 6).toNat - 1 - k = k + j by omega]
            · rw [if_neg (by omega), rot_m (by omega) (by omega), show k + 1 + (S 6).toNat - 1 - i - 1 = k + (S 6).toNat - 1 - i by omega]
        · have e0 : fF (fun j => aP S (S 6).toNat r (k + 1) (rot c k j)) j (0 + 1) = aP S (S 6).toNat r (k + 1) (rot c k j) := by
            cases hh : aP S (S 6).toNat r (k + 1) (rot c k j) with
            | none => exact fF_step hh
            | some p => exact fF_some hh
          rw [e0]; exact b3
      | succ m ihm =>
        intro j ct N1 hj n1 oN t0 t1 cont2
        have est : sF (fun j => aT S (S 6).toNat r (k + 1) (rot c k j)) j (m + 1 + 1) = aT S (S 6).toNat r (k + 1) (rot c k j) + sF (fun j => aT S (S 6).toNat r (k + 1) (rot c k j)) (j + 1) (m + 1) := rfl
        have rest := sF_ge0 g0 (m + 1) (j + 1)
        have gj := g0 j
        rw [est] at t1 cont2
        have pj := rot_p hp (show k + j < (S 6).toNat by omega)
        refine ihr (k + 1) (rot c k j) ct N1 (by omega) pj (rot_asc ha) oN ((n1 93 (by decide) (by decide) (by decide)).trans hS) t0 (by omega) (fun N' b1 b2 b3 => ?_)
        have e93 : N' 93 = S := (b1 93 (by decide) (by decide) (by decide)).trans ((n1 93 (by decide) (by decide) (by decide)).trans hS)
        -- the next
        have vals : ∀ i, k < i → i < (S 6).toNat → rev (S 6).toNat (rot c k j) (k + 1) i = rot c k j (k + (S 6).toNat - i) := fun i h1 h2 => by
          unfold rev
          rw [if_neg (by omega), show k + 1 + (S 6).toNat - 1 - i = k + (S 6).toNat - i by omega]
        have valk : rev (S 6).toNat (rot c k j) (k + 1) k = c (k + j) := by
          unfold rev
          rw [if_pos (by omega), rot_k]
        have rasc := rot_asc (j := j) ha
        have lt2 : ∀ t, k + j < t → t < (S 6).toNat → wR S (c (k + j)) < wR S (rot c k j t) := fun t h1 h2 => by
          rw [rot_r h1]; exact ha (k + j) t (by omega) h1 h2
        have lt1 : ∀ t, k < t → t ≤ k + j → wR S (rot c k j t) < wR S (c (k + j)) := fun t h1 h2 => by
          rw [rot_m h1 h2]; exact ha (t - 1) (k + j) (by omega) (by omega) (by omega)
        refine c269y (S := S) (b := fun i => wR S (rev (S 6).toNat (rot c k j) (k + 1) i)) (k := k) (o := (S 6).toNat - 1 - j) (by omega) hv e93 b2 (by omega) ?_ (fun i h1 h2 => ?_) ⟨by omega, by omega⟩ ?_ (fun i h1 h2 => ?_) (fun N2 m1 m2 => ?_)
        · show wR S (rev (S 6).toNat (rot c k j) (k + 1) k) < wR S (rev (S 6).toNat (rot c k j) (k + 1) (k + 1))
          rw [valk, vals (k + 1) (by omega) (by omega)]
          exact lt2 _ (by omega) (by omega)
        · show wR S (rev (S 6).toNat (rot c k j) (k + 1) (i + 1)) < wR S (rev (S 6).toNat (rot c k j) (k + 1) i)
          rw [vals i h1 (by omega), vals (i + 1) (by omega) h2]
          exact rasc _ _ (by omega) (by omega) (by omega)
        · show wR S (rev (S 6).toNat (rot c k j) (k + 1) k) < wR S (rev (S 6).toNat (rot c k j) (k + 1) ((S 6).toNat - 1 - j))
          rw [valk, vals _ (by omega) (by omega)]
          exact lt2 _ (by omega) (by omega)
        · show wR S (rev (S 6).toNat (rot c k j) (k + 1) i) < wR S (rev (S 6).toNat (rot c k j) (k + 1) k)
          rw [valk, vals i (by omega) h2]
          exact lt1 _ (by omega) (by omega)
        · have al2 : ∀ a, a ≠ 102 → a ≠ 103 → a ≠ 104 → N2 a = N a := fun a r1 r2 r3 => (m1 a r1).trans ((b1 a r1 r2 r3).trans (n1 a r1 r2 r3))
          refine ihm (j + 1) (ct + aT S (S 6).toNat r (k + 1) (rot c k j)) N2 (by omega) al2 (fun i hi => ?_) (by omega) (by omega) (fun N'' d1 d2 d3 => ?_)
          · rw [m2 i hi]
            unfold nxA
            by_cases e1 : i < k
            · rw [if_pos e1, rot_l e1]
              show wR S (rev (S 6).toNat (rot c k j) (k + 1) i) = _
              unfold rev
              rw [if_pos (by omega), rot_l e1]
            · rw [if_neg e1]
              by_cases e2 : i = k
              · rw [if_pos e2, e2, rot_k]
                show wR S (rev (S 6).toNat (rot c k j) (k + 1) ((S 6).toNat - 1 - j)) = _
                rw [vals _ (by omega) (by omega), rot_r (by omega), show k + (S 6).toNat - ((S 6).toNat - 1 - j) = k + (j + 1) by omega]
              · rw [if_neg e2]
                by_cases e3 : k + (S 6).toNat - i = (S 6).toNat - 1 - j
                · rw [if_pos e3]
                  show wR S (rev (S 6).toNat (rot c k j) (k + 1) k) = _
                  rw [valk, rot_m (by omega) (by omega), show i - 1 = k + j by omega]
                · rw [if_neg e3]
                  show wR S (rev (S 6).toNat (rot c k j) (k + 1) (k + (S 6).toNat - i)) = _
                  rw [vals _ (by omega) (by omega), show k + (S 6).toNat - (k + (S 6).toNat - i) = i by omega]
                  by_cases e4 : i ≤ k + j
                  · rw [rot_m (by omega) e4, rot_m (by omega) (by omega)]
                  · rw [rot_r (by omega), rot_r (by omega)]
          · have ap := aP_aT (S := S) (n := (S 6).toNat) r (k + 1) (rot c k j)
            have := cont2 N'' d1 d2 (orF.comp (F1 := aP S (S 6).toNat r (k + 1) (rot c k j)) (T1 := aT S (S 6).toNat r (k + 1) (rot c k j)) t0 b3 ap.1 ap.2.1 ⟨fun z i hi => (d3.1 z i hi).trans (by rw [m1 103 (by decide)]), d3.2⟩ _ (fun p hpp => fF_some hpp) (fun hpp => fF_step hpp))
            rw [← Int.add_assoc] at this
            exact this
    have o0 : orR S N (rot c k 0) := fun i hi => by
      rw [ho i hi]
      by_cases e1 : i < k
      · rw [rot_l e1]
      · by_cases e2 : i = k
        · rw [e2, rot_k]; rfl
        · rw [rot_r (by omega)]
    exact go r 0 cnt N (by omega) (fun _ _ _ _ => rfl) o0 c0 c1 cont
end
