/-! The reference's look at an order. -/
section
variable {d : Nat} {P : Int → sM → sG → Prop} {PV : sM → sG → Prop} {M : sM} {G : sG} {S : Nat → Int}
theorem cm_all {n : Nat} {c : Nat → Nat} (hp : prm n c) {q : Nat} (hq : q < n) : (cmM c n).testBit q = true := by
  have s3 := nS_inj (F := fun x => if x = q then (1 : Int) else 0) hp
  have s4 : nS (fun x => if x = q then (1 : Int) else 0) n = 1 := nS_at (f := fun _ => 1) hq
  have s5 : nS (fun i => (fun x => if x = q then (1 : Int) else 0) (c i)) n = 1 := s3.trans s4
  obtain ⟨i, i0, i1⟩ := nS_pos (f := fun i => (fun x => if x = q then (1 : Int) else 0) (c i)) (n := n) (by rw [s5]; decide)
  have i1' : 0 < (if c i = q then (1 : Int) else 0) := i1
  by_cases z : c i = q
  · exact cmM_bit.mpr ⟨i, i0, z⟩
  · rw [if_neg z] at i1'; exact absurd i1' (by decide)
theorem c267 {c : Nat → Nat} (hd : 15 ≤ d) (hv : vTold S) (hS : M 93 = S) (hp : prm (S 6).toNat c) (ho : orR S M c) (k1 : good S (S 6).toNat c → ∀ N : sM, (∀ a, a ≠ 104 → N a = M a) → P 1 N G) (k0 : ¬ good S (S 6).toNat c → ∀ N : sM, (∀ a, a ≠ 104 → N a = M a) → P 0 N G) : sC d 267 [vO 12 82] M G (QI P) := by
  obtain ⟨d, rfl⟩ := sD 8 (d := d) (by omega)
  have h6 := hv.2.1
  have h7 := hv.2.2.1
  have e6 : M 93 6 = S 6 := by rw [hS]
  refine e267 (s267_0 ?_)
  rw [e6]
  -- the facts
  have facts : (∀ i, i < (S 6).toNat → stkQ (cmM c i) (c i)) → ∀ N : sM, (∀ a, a ≠ 104 → N a = M a) → sW (sC (d + 7)) 267 (QI P) 94 [vO 12 82, vN, vN, vN, vI ((0 : Nat) : Int), vN, vN] [] N G 0 0 := fun hst N n1 => by
    have e93 : N 93 = S := (n1 93 (by decide)).trans hS
    have oN : orR S N c := fun i hi => by rw [n1 102 (by decide)]; exact ho i hi
    have fct : ∀ f : Nat, (f : Int) < S 7 → S (234 + (2 * (f : Int))).toNat ≠ S ((234 + (2 * (f : Int))) + 1).toNat := fun f hf => (hv.2.2.2.2.2.2.2.2.1 (f : Int) (by omega) hf).2.2
    refine sUpTo (W := fun f => (∀ f' : Nat, f' < f → ∀ i j, i < (S 6).toNat → j < (S 6).toNat → wR S (c i) = S (234 + (2 * (f' : Int))).toNat → wR S (c j) = S ((234 + (2 * (f' : Int))) + 1).toNat → i < j) → sW (sC (d + 7)) 267 (QI P) 94 [vO 12 82, vN, vN, vN, vI (f : Int), vN, vN] [] N G 0 0) (S 7).toNat ?_ ?_ (fun f' hf' => absurd hf' (Nat.not_lt_zero f'))
    · intro h
      have e7 : N 93 7 = S 7 := by rw [e93]
      refine (s267_94 ⟨fun q1 => ?_, fun q2 => ⟨⟨by omega, by omega⟩, ⟨by omega, by omega⟩, ⟨(by first | omega | assumption | (refine ⟨?_, ?_⟩ <;> omega) | (simp_all; done)), (by first | omega | assumption | (refine ⟨?_, ?_⟩ <;> omega) | (simp_all; done))⟩, ?_⟩⟩)
      · refine k1 (fun i hi => ⟨fun z => ?_, hst i hi, fun p hpa => ?_⟩) N n1
        · obtain ⟨i', a, b⟩ := cmM_bit.mp z
          have := hp.2 i' i (by omega) hi b
          omega
        · obtain ⟨p1, p2, f, f1, f2, f3⟩ := hpa
          obtain ⟨i', a, b⟩ := cmM_bit.mp (cm_all hp (show p < (S 6).toNat by omega))
          have := h f (by omega) i' i a hi (by rw [b]; exact f2.symm) f3.symm
          exact cmM_bit.mpr ⟨i', this, b⟩
      all_goals omega
    · intro f hf ih h
      have e7 : N 93 7 = S 7 := by rw [e93]
      have fa : N 93 (234 + (2 * (f : Int))).toNat = S (234 + (2 * (f : Int))).toNat := by rw [e93]
      have fb : N 93 ((234 + (2 * (f : Int))) + 1).toNat = S ((234 + (2 * (f : Int))) + 1).toNat := by rw [e93]
      have ne := fct f (by omega)
      have nx : (∀ i j, i < (S 6).toNat → j < (S 6).toNat → wR S (c i) = S (234 + (2 * (f : Int))).toNat → wR S (c j) = S ((234 + (2 * (f : Int))) + 1).toNat → i < j) → sW (sC (d + 7)) 267 (QI P) 94 [vO 12 82, vN, vN, vN, vI ((f + 1 : Nat) : Int), vN, vN] [] N G 0 0 := fun hh => ih (fun f' hf' => by
        by_cases z : f' = f
        · rw [z]; exact hh
        · exact h f' (by omega))
      have inj : ∀ i j x, i < (S 6).toNat → j < (S 6).toNat → wR S (c i) = x → wR S (c j) = x → i = j := fun i j x hi hj e1 e2 => hp.2 i j hi hj (row_inj hv (by have := hp.1 i hi; omega) (by have := hp.1 j hj; omega) (e1.trans e2.symm))
      refine (s267_94 ⟨fun q1 => ?_, fun q2 => ⟨⟨by omega, by omega⟩, ⟨by omega, by omega⟩, ⟨(by first | omega | assumption | (refine ⟨?_, ?_⟩ <;> omega) | (simp_all; done)), (by first | omega | assumption | (refine ⟨?_, ?_⟩ <;> omega) | (simp_all; done))⟩, ?_⟩⟩)
      · omega
      · rw [fa]
        refine c268 (by omega) hv e93 oN (fun i hi e1 => ?_) (fun hn1 => ?_)
        · refine ⟨⟨by omega, by omega⟩, ⟨(by first | omega | assumption | (refine ⟨?_, ?_⟩ <;> omega) | (simp_all; done)), (by first | omega | assumption | (refine ⟨?_, ?_⟩ <;> omega) | (simp_all; done))⟩, ?_⟩
          rw [fb]
          refine c268 (d := d + 7) (by omega) hv e93 oN (fun j hj e2 => ?_) (fun hn2 => ?_)
          · have nij : i ≠ j := fun z => by rw [z] at e1; exact ne (e1.symm.trans e2)
            refine ⟨fun q3 => ⟨⟨by omega, by omega⟩, ?_⟩, fun q4 => ⟨fun q5 => ⟨⟨by omega, by omega⟩, ?_⟩, fun q6 => ⟨fun q7 => ⟨⟨by omega, by omega⟩, ?_⟩, fun q8 => ?_⟩⟩⟩
            · omega
            · omega
            · refine nx (fun i' j' a b a1 b1 => ?_)
              have := inj i' i _ a hi a1 e1
              have := inj j' j _ b hj b1 e2
              omega
            · refine k0 (fun hg => ?_) N n1
              have hgj := (hg j hj).2.2 (c i) ⟨by have := hp.1 i hi; omega, by have := hp.1 j hj; omega, f, by omega, e1.symm, e2.symm⟩
              obtain ⟨l, l0, l1⟩ := cmM_bit.mp hgj
              have := hp.2 l i (by omega) hi l1
              omega
            all_goals omega
          · refine ⟨fun q3 => ⟨⟨by omega, by omega⟩, ?_⟩, fun q4 => ⟨fun q5 => ⟨⟨by omega, by omega⟩, ?_⟩, fun q6 => ⟨fun q7 => ⟨⟨by omega, by omega⟩, ?_⟩, fun q8 => ?_⟩⟩⟩
            · omega
            · exact nx (fun i' j' a b a1 b1 => absurd b1 (hn2 j' b))
            all_goals omega
        · refine ⟨⟨by omega, by omega⟩, ⟨(by first | omega | assumption | (refine ⟨?_, ?_⟩ <;> omega) | (simp_all; done)), (by first | omega | assumption | (refine ⟨?_, ?_⟩ <;> omega) | (simp_all; done))⟩, ?_⟩
          rw [fb]
          refine c268 (d := d + 7) (by omega) hv e93 oN (fun j hj e2 => ?_) (fun hn2 => ?_)
          · refine ⟨fun q3 => ⟨⟨by omega, by omega⟩, ?_⟩, fun q4 => ⟨fun q5 => ⟨⟨by omega, by omega⟩, ?_⟩, fun q6 => ⟨fun q7 => ⟨⟨by omega, by omega⟩, ?_⟩, fun q8 => ?_⟩⟩⟩
            · exact nx (fun i' j' a b a1 b1 => absurd a1 (hn1 i' a))
            all_goals omega
          · refine ⟨fun q3 => ⟨⟨by omega, by omega⟩, ?_⟩, fun q4 => ⟨fun q5 => ⟨⟨by omega, by omega⟩, ?_⟩, fun q6 => ⟨fun q7 => ⟨⟨by omega, by omega⟩, ?_⟩, fun q8 => ?_⟩⟩⟩
            · exact nx (fun i' j' a b a1 b1 => absurd a1 (hn1 i' a))
            all_goals omega
      all_goals omega
  -- the pile
  have main : sW (sC (d + 7)) 267 (QI P) 15 [vO 12 82, vI (S 6), vI ((0 : Nat) : Int), vI ((0 : Nat) : Int), vI ((0 : Nat) : Int), vN, vN] [] M G 0 0 := by
    refine sUpTo (W := fun k => ∀ (N : sM) (h g : Nat) (pl : Nat → Nat), (∀ a, a ≠ 104 → N a = M a) → stP S (S 6).toNat c N k h g pl → (h = 0 ∨ pl (h - 1) ≠ g) → sW (sC (d + 7)) 267 (QI P) 15 [vO 12 82, vI (S 6), vI (h : Int), vI (g : Int), vI (k : Int), vN, vN] [] N G 0 0) (S 6).toNat ?_ ?_ M 0 0 (fun i => i) (fun _ _ => rfl) ⟨fun i hi => absurd hi (Nat.not_lt_zero i), fun i _ hi => absurd hi (Nat.not_lt_zero i), fun p => ⟨fun z => absurd z tb0, fun z => z.elim (fun y => absurd y (Nat.not_lt_zero p)) (fun ⟨i, hi, _⟩ => absurd hi (Nat.not_lt_zero i))⟩, rfl, Or.inl ⟨fun i hi => absurd hi (Nat.not_lt_zero i), fun i j _ hj => absurd hj (Nat.not_lt_zero j)⟩⟩ (Or.inl rfl)
    · intro N h g pl n1 hs hc
      obtain ⟨s1, s2, s3, s4, s5⟩ := hs
      rcases s5 with ⟨a, b⟩ | ⟨⟨i, i0, i1⟩, x, y, x0, x1, x2⟩
      · have hz : h = 0 := Classical.byContradiction fun z => by
          have gl : g < (S 6).toNat := by omega
          rcases (s3 g).mp (cm_all hp gl) with w | ⟨i, i0, i1⟩
          · omega
          · have h4 : pl (h - 1) ≠ g := hc.resolve_left z
            by_cases e : i = h - 1
            · rw [e] at i1; exact h4 i1
            · have := b i (h - 1) (by omega) (by omega)
              have := (s1 (h - 1) (by omega)).2.2
              omega
        have fc := facts a N n1
        refine (s267_15 ⟨fun q1 => ⟨fun q2 => ?_, fun q3 => ?_⟩, fun q4 => ⟨⟨(by first | omega | assumption | (refine ⟨?_, ?_⟩ <;> omega) | (simp_all; done)), (by first | omega | assumption | (refine ⟨?_, ?_⟩ <;> omega) | (simp_all; done))⟩, ⟨(by first | omega | assumption | (refine ⟨?_, ?_⟩ <;> omega) | (simp_all; done)), (by first | omega | assumption | (refine ⟨?_, ?_⟩ <;> omega) | (simp_all; done))⟩, ⟨by omega, by omega⟩, ?_⟩⟩)
        · exact fc
        · omega
        all_goals omega
      · have nb : ¬ good S (S 6).toNat c := fun z => i1 (z i i0).2.1
        refine (s267_15 ⟨fun q1 => ⟨fun q2 => ?_, fun q3 => ?_⟩, fun q4 => ⟨⟨(by first | omega | assumption | (refine ⟨?_, ?_⟩ <;> omega) | (simp_all; done)), (by first | omega | assumption | (refine ⟨?_, ?_⟩ <;> omega) | (simp_all; done))⟩, ⟨(by first | omega | assumption | (refine ⟨?_, ?_⟩ <;> omega) | (simp_all; done)), (by first | omega | assumption | (refine ⟨?_, ?_⟩ <;> omega) | (simp_all; done))⟩, ⟨by omega, by omega⟩, ?_⟩⟩)
        · omega
        · exact k0 nb N n1
        all_goals omega
    · intro k hk ih N h g pl n1 hs hc
      have s4 := hs.2.2.2.1
      have e102 : N 102 ((k : Int)).toNat = wR S (c k) := by rw [n1 102 (by decide)]; exact ho k hk
      -- they go as far as they can
      have pops : ∀ (h' : Nat) (g' : Nat) (N' : sM) (pl' : Nat → Nat), (∀ a, a ≠ 104 → N' a = M a) → stP S (S 6).toNat c N' (k + 1) h' g' pl' → sW (sC (d + 7)) 267 (QI P) 37 [vO 12 82, vI (S 6), vI (h' : Int), vI (g' : Int), vI (k : Int), vN, vN] [] N' G 0 0 := fun h' => by
        induction h' with
        | zero =>
          intro g' N' pl' a1 a2
          have nx := ih N' 0 g' pl' a1 a2 (Or.inl rfl)
          refine (s267_37 ⟨fun q1 => ⟨⟨by omega, by omega⟩, ?_⟩, fun q2 => ⟨⟨by omega, by omega⟩, ⟨(by first | omega | assumption | (refine ⟨?_, ?_⟩ <;> omega) | (simp_all; done)), (by first | omega | assumption | (refine ⟨?_, ?_⟩ <;> omega) | (simp_all; done))⟩, ⟨by omega, by omega⟩, ⟨(by first | omega | assumption | (refine ⟨?_, ?_⟩ <;> omega) | (simp_all; done)), (by first | omega | assumption | (refine ⟨?_, ?_⟩ <;> omega) | (simp_all; done))⟩, fun q3 => ⟨⟨by omega, by omega⟩, ?_⟩, fun q4 => ⟨⟨by omega, by omega⟩, ⟨by omega, by omega⟩, fun q5 => ?_, fun q6 => ?_⟩⟩⟩)
          · exact nx
          all_goals omega
        | succ h' ihh =>
          intro g' N' pl' a1 a2
          have t := a2.1 h' (by omega)
          have q4 := a2.2.2.2.1
          have e93 : N' 93 = S := (a1 93 (by decide)).trans hS
          have e104 : N' 104 (((h' + 1 : Nat) : Int) - 1).toNat = wR S (pl' h') := by
            rw [show (((h' + 1 : Nat) : Int) - 1).toNat = h' by omega]; exact t.2.1
          have eW : N' 93 (226 + (g' : Int)).toNat = wR S g' := by rw [e93]; rfl
          have eh : ((h' + 1 : Nat) : Int) + (-1) = (h' : Int) := by omega
          have gl : (g' : Int) < S 6 := by omega
          refine (s267_37 ⟨fun q1 => ⟨⟨by omega, by omega⟩, ?_⟩, fun q2 => ⟨⟨by omega, by omega⟩, ⟨(by first | omega | assumption | (refine ⟨?_, ?_⟩ <;> omega) | (simp_all; done)), (by first | omega | assumption | (refine ⟨?_, ?_⟩ <;> omega) | (simp_all; done))⟩, ⟨by omega, by omega⟩, ⟨(by first | omega | assumption | (refine ⟨?_, ?_⟩ <;> omega) | (simp_all; done)), (by first | omega | assumption | (refine ⟨?_, ?_⟩ <;> omega) | (simp_all; done))⟩, fun q3 => ⟨⟨by omega, by omega⟩, ?_⟩, fun q4 => ⟨⟨by omega, by omega⟩, ⟨by omega, by omega⟩, fun q5 => ?_, fun q6 => ?_⟩⟩⟩)
          · omega
          · rw [e104, eW] at q3
            exact ih N' (h' + 1) g' pl' a1 a2 (Or.inr (by
              rw [show h' + 1 - 1 = h' by omega]
              exact fun z => q3 (by rw [z])))
          · rw [e104, eW] at q4
            have et : pl' h' = g' := row_inj hv (by have := t.1; omega) gl q4
            rw [eh]
            exact ihh (g' + 1) N' pl' a1 (a2.pop et)
          · rw [e104, eW] at q4
            have et : pl' h' = g' := row_inj hv (by have := t.1; omega) gl q4
            have p1 := a2.pop et
            have p2 := p1.2.2.2.1
            have hz : h' = 0 := by omega
            subst hz
            exact ihh (g' + 1) N' pl' a1 p1
          all_goals omega
      refine (s267_15 ⟨fun q1 => ⟨fun q2 => ?_, fun q3 => ?_⟩, fun q4 => ⟨⟨(by first | omega | assumption | (refine ⟨?_, ?_⟩ <;> omega) | (simp_all; done)), (by first | omega | assumption | (refine ⟨?_, ?_⟩ <;> omega) | (simp_all; done))⟩, ⟨(by first | omega | assumption | (refine ⟨?_, ?_⟩ <;> omega) | (simp_all; done)), (by first | omega | assumption | (refine ⟨?_, ?_⟩ <;> omega) | (simp_all; done))⟩, ⟨by omega, by omega⟩, ?_⟩⟩)
      · omega
      · omega
      · rw [e102]
        have ps := stP.push (N' := sUpd N 104 ((h : Int)).toNat (wR S (c k))) hp hk hs hc (fun i hi => sUpd_ni (show i ≠ h by omega)) sUpd_eq
        have := pops (h + 1) g _ _ (fun a ha => (sUpd_ne ha).trans (n1 a ha)) ps
        exact this
      all_goals omega
  exact main
end
