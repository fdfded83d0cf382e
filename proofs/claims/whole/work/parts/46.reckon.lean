/-! THE REFERENCE RECKONS. -/
def mT (M : sM) (t : Nat) (V : Nat → Int) : sM := fun a i => if a = 91 then V i else if a = 82 ∧ i = 21 then (t : Int) else M a i
theorem mT_top (M : sM) (t : Nat) (V : Nat → Int) : mT M t V 82 21 = (t : Int) := rfl
theorem mT_st (M : sM) (t : Nat) (V : Nat → Int) : mT M t V 91 = V := by funext i; unfold mT; rw [if_pos rfl]
theorem mT_ne {M : sM} {t : Nat} {V : Nat → Int} {a : Nat} (h : a ≠ 91) (h2 : a ≠ 82) : mT M t V a = M a := by
  funext i; unfold mT; rw [if_neg h, if_neg (fun z => h2 z.1)]
theorem mT_82 {M : sM} {t : Nat} {V : Nat → Int} {i : Nat} (h : i ≠ 21) : mT M t V 82 i = M 82 i := by
  unfold mT; rw [if_neg (by decide), if_neg (fun z => h z.2)]
theorem mT_K (M : sM) (t : Nat) (V : Nat → Int) : rK M (mT M t V) := ⟨fun _ h1 _ h3 => mT_ne h1 h3, fun _ h => mT_82 h⟩
theorem mT_upd (M : sM) (t : Nat) (V : Nat → Int) (i : Nat) (x : Int) : sUpd (mT M t V) 91 i x = mT M t (uS V i x) := by
  funext b j
  unfold mT sUpd uS
  dsimp only
  by_cases h : b = 91
  · rw [if_pos h, if_pos h]
    by_cases h2 : j = i
    · rw [if_pos ⟨h, h2⟩, if_pos h2]
    · rw [if_neg (fun z => h2 z.2), if_neg h2]
  · rw [if_neg h, if_neg h, if_neg (fun z => h z.1)]
theorem mT_set (M : sM) (t t' : Nat) (V : Nat → Int) {x : Int} (hx : x = (t' : Int)) : sUpd (mT M t V) 82 21 x = mT M t' V := by
  funext b j
  unfold mT sUpd
  dsimp only
  by_cases h : b = 91
  · rw [if_pos h, if_pos h, if_neg (fun z => by have := z.1; omega)]
  · rw [if_neg h, if_neg h]
    by_cases h2 : b = 82 ∧ j = 21
    · rw [if_pos h2, if_pos h2, hx]
    · rw [if_neg h2, if_neg h2, if_neg h2]
theorem mT_in (M : sM) (t : Nat) {x : Int} (hx : x = (t : Int)) : sUpd M 82 21 x = mT M t (M 91) := by
  funext b j
  unfold mT sUpd
  by_cases h : b = 91
  · subst h; rw [if_pos rfl, if_neg (fun z => by have := z.1; omega)]
  · rw [if_neg h]
    by_cases h2 : b = 82 ∧ j = 21
    · rw [if_pos h2, if_pos h2, hx]
    · rw [if_neg h2, if_neg h2]
section Reckon
variable {d : Nat} {P : Int → sM → sG → Prop} {PV : sM → sG → Prop} {M : sM} {G : sG} {w : Nat → Int}
theorem c225 {r a e h : Int} {hh : Nat} {D : (Nat → Int) → Int} (hd : 10 ≤ d) (r0 : 0 ≤ r) (r1 : r < 6) (a0 : 0 ≤ a) (ae : a ≤ e) (e1 : e ≤ 400) (hg : ∀ i : Nat, (i : Int) < e → 0 ≤ rVg M r i ∧ rVg M r i ≤ 99999 ∧ (rSg M r i = 1 → rVg M r i ≤ 9)) (h64 : hh ≤ 64) (H : rSeg (rSg M r) (rVg M r) a.toNat e.toNat hh D) (hw : ∀ j, j < 10 → M 92 j = w j) (kk : ∀ M', rK M M' → M' 92 = M 92 → P (D w) M' G) : sC d 225 [vO 12 82, vI r, vI a, vI e] M G (QL P) := by
  obtain ⟨d, rfl⟩ := sD 3 (d := d) (by omega)
  refine e225 (s225_0 ?_)
  rw [mT_in M 0 (x := 0) rfl]
  have cl : rCl (rSg M r) (rVg M r) w e.toNat (fun i t v => sW (sC (d + 1 + 1)) 225 (QL P) 8 [vO 12 82, vI r, vN, vI e, vI ((i : Nat) : Int), vN, vN, vN, vN, vN, vN] [] (mT M t v) G 0 0) := by
    have m84 : ∀ t v, mT M t v 84 = M 84 := fun t v => mT_ne (by decide) (by decide)
    have m92 : ∀ t v, mT M t v 92 = M 92 := fun t v => mT_ne (by decide) (by decide)
    have go : ∀ {i t t' : Nat} {v : Nat → Int}, t = t' → sW (sC (d + 1 + 1)) 225 (QL P) 8 [vO 12 82, vI r, vN, vI e, vI ((i + 1 : Nat) : Int), vN, vN, vN, vN, vN, vN] [] (mT M t v) G 0 0 → (i : Int) < e → sW (sC (d + 1 + 1)) 225 (QL P) 129 [vO 12 82, vI r, vN, vI e, vI ((i : Nat) : Int), vN, vN, vN, vN, vN, vN] [] (mT M t' v) G 0 0 := fun {i t t' v} e1 k hi => by
      subst e1
      exact s225_129 ⟨⟨by omega, by omega⟩, k⟩
    refine ⟨fun i t v hi hs0 ht k => ?_, fun i t v hi hs0 ht k => ?_, fun i t v hi hs0 h1 ht k => ?_, fun i t v hi hs0 h1 ht k => ?_, fun i t v hi hs0 h1 ht k => ?_, fun i t v hi hs0 hs1 h1 ht k => ?_⟩
    · have et := mT_top M t v
      have es : iAnd (mT M t v 84 ((400 * r) + (i : Int)).toNat) 15 = 0 := by rw [m84]; exact hs0
      refine (s225_8 ⟨fun q1 => ⟨⟨by omega, by omega⟩, ⟨(by first | omega | assumption | (refine ⟨?_, ?_⟩ <;> omega) | (simp_all; done)), (by first | omega | assumption | (refine ⟨?_, ?_⟩ <;> omega) | (simp_all; done))⟩, ?_⟩, fun q2 => ⟨⟨by omega, by omega⟩, ⟨by omega, by omega⟩, ⟨(by first | omega | assumption | (refine ⟨?_, ?_⟩ <;> omega) | (simp_all; done)), (by first | omega | assumption | (refine ⟨?_, ?_⟩ <;> omega) | (simp_all; done))⟩, fun q3 => ⟨fun q4 => ⟨fun q5 => ⟨⟨by omega, by omega⟩, ⟨(by first | omega | assumption | (refine ⟨?_, ?_⟩ <;> omega) | (simp_all; done)), (by first | omega | assumption | (refine ⟨?_, ?_⟩ <;> omega) | (simp_all; done))⟩, ⟨by omega, by omega⟩, ⟨(by first | omega | assumption | (refine ⟨?_, ?_⟩ <;> omega) | (simp_all; done)), (by first | omega | assumption | (refine ⟨?_, ?_⟩ <;> omega) | (simp_all; done))⟩, ?_⟩, fun q6 => ⟨⟨by omega, by omega⟩, ⟨(by first | omega | assumption | (refine ⟨?_, ?_⟩ <;> omega) | (simp_all; done)), (by first | omega | assumption | (refine ⟨?_, ?_⟩ <;> omega) | (simp_all; done))⟩, ⟨by omega, by omega⟩, ?_⟩⟩, fun q7 => ⟨⟨(by first | omega | assumption | (refine ⟨?_, ?_⟩ <;> omega) | (simp_all; done)), (by first | omega | assumption | (refine ⟨?_, ?_⟩ <;> omega) | (simp_all; done))⟩, ⟨(by first | omega | assumption | (refine ⟨?_, ?_⟩ <;> omega) | (simp_all; done)), (by first | omega | assumption | (refine ⟨?_, ?_⟩ <;> omega) | (simp_all; done))⟩, ⟨by omega, by omega⟩, ?_⟩⟩, fun q8 => ⟨⟨(by first | omega | assumption | (refine ⟨?_, ?_⟩ <;> omega) | (simp_all; done)), (by first | omega | assumption | (refine ⟨?_, ?_⟩ <;> omega) | (simp_all; done))⟩, ⟨by omega, by omega⟩, ?_⟩⟩⟩)
      · omega
      · omega
      · omega
      · omega
      · rw [et, m84, mT_upd, mT_set M t (t + 1) _ (by omega), show ((t : Int)).toNat = t by omega]
        exact go rfl k (by omega)
    · have et := mT_top M t v
      have es : iAnd (mT M t v 84 ((400 * r) + (i : Int)).toNat) 15 = 1 := by rw [m84]; exact hs0
      obtain ⟨g0, g1, g2⟩ := hg i (by omega)
      have g9 := g2 hs0
      have eg : iShr (mT M t v 84 ((400 * r) + (i : Int)).toNat) 4 = rVg M r i := by rw [m84]; rfl
      refine (s225_8 ⟨fun q1 => ⟨⟨by omega, by omega⟩, ⟨(by first | omega | assumption | (refine ⟨?_, ?_⟩ <;> omega) | (simp_all; done)), (by first | omega | assumption | (refine ⟨?_, ?_⟩ <;> omega) | (simp_all; done))⟩, ?_⟩, fun q2 => ⟨⟨by omega, by omega⟩, ⟨by omega, by omega⟩, ⟨(by first | omega | assumption | (refine ⟨?_, ?_⟩ <;> omega) | (simp_all; done)), (by first | omega | assumption | (refine ⟨?_, ?_⟩ <;> omega) | (simp_all; done))⟩, fun q3 => ⟨fun q4 => ⟨fun q5 => ⟨⟨by omega, by omega⟩, ⟨(by first | omega | assumption | (refine ⟨?_, ?_⟩ <;> omega) | (simp_all; done)), (by first | omega | assumption | (refine ⟨?_, ?_⟩ <;> omega) | (simp_all; done))⟩, ⟨by omega, by omega⟩, ⟨(by first | omega | assumption | (refine ⟨?_, ?_⟩ <;> omega) | (simp_all; done)), (by first | omega | assumption | (refine ⟨?_, ?_⟩ <;> omega) | (simp_all; done))⟩, ?_⟩, fun q6 => ⟨⟨by omega, by omega⟩, ⟨(by first | omega | assumption | (refine ⟨?_, ?_⟩ <;> omega) | (simp_all; done)), (by first | omega | assumption | (refine ⟨?_, ?_⟩ <;> omega) | (simp_all; done))⟩, ⟨by omega, by omega⟩, ?_⟩⟩, fun q7 => ⟨⟨(by first | omega | assumption | (refine ⟨?_, ?_⟩ <;> omega) | (simp_all; done)), (by first | omega | assumption | (refine ⟨?_, ?_⟩ <;> omega) | (simp_all; done))⟩, ⟨(by first | omega | assumption | (refine ⟨?_, ?_⟩ <;> omega) | (simp_all; done)), (by first | omega | assumption | (refine ⟨?_, ?_⟩ <;> omega) | (simp_all; done))⟩, ⟨by omega, by omega⟩, ?_⟩⟩, fun q8 => ⟨⟨(by first | omega | assumption | (refine ⟨?_, ?_⟩ <;> omega) | (simp_all; done)), (by first | omega | assumption | (refine ⟨?_, ?_⟩ <;> omega) | (simp_all; done))⟩, ⟨by omega, by omega⟩, ?_⟩⟩⟩)
      · omega
      · omega
      · omega
      · rw [et, eg, m92, mT_upd, mT_set M t (t + 1) _ (by omega), show ((t : Int)).toNat = t by omega, hw _ (by omega)]
        exact go rfl k (by omega)
      · omega
    · have et := mT_top M t v
      have es : iAnd (mT M t v 84 ((400 * r) + (i : Int)).toNat) 15 = 11 := by rw [m84]; exact hs0
      refine (s225_8 ⟨fun q1 => ⟨⟨by omega, by omega⟩, ⟨(by first | omega | assumption | (refine ⟨?_, ?_⟩ <;> omega) | (simp_all; done)), (by first | omega | assumption | (refine ⟨?_, ?_⟩ <;> omega) | (simp_all; done))⟩, ?_⟩, fun q2 => ⟨⟨by omega, by omega⟩, ⟨by omega, by omega⟩, ⟨(by first | omega | assumption | (refine ⟨?_, ?_⟩ <;> omega) | (simp_all; done)), (by first | omega | assumption | (refine ⟨?_, ?_⟩ <;> omega) | (simp_all; done))⟩, fun q3 => ⟨fun q4 => ⟨fun q5 => ⟨⟨by omega, by omega⟩, ⟨(by first | omega | assumption | (refine ⟨?_, ?_⟩ <;> omega) | (simp_all; done)), (by first | omega | assumption | (refine ⟨?_, ?_⟩ <;> omega) | (simp_all; done))⟩, ⟨by omega, by omega⟩, ⟨(by first | omega | assumption | (refine ⟨?_, ?_⟩ <;> omega) | (simp_all; done)), (by first | omega | assumption | (refine ⟨?_, ?_⟩ <;> omega) | (simp_all; done))⟩, ?_⟩, fun q6 => ⟨⟨by omega, by omega⟩, ⟨(by first | omega | assumption | (refine ⟨?_, ?_⟩ <;> omega) | (simp_all; done)), (by first | omega | assumption | (refine ⟨?_, ?_⟩ <;> omega) | (simp_all; done))⟩, ⟨by omega, by omega⟩, ?_⟩⟩, fun q7 => ⟨⟨(by first | omega | assumption | (refine ⟨?_, ?_⟩ <;> omega) | (simp_all; done)), (by first | omega | assumption | (refine ⟨?_, ?_⟩ <;> omega) | (simp_all; done))⟩, ⟨(by first | omega | assumption | (refine ⟨?_, ?_⟩ <;> omega) | (simp_all; done)), (by first | omega | assumption | (refine ⟨?_, ?_⟩ <;> omega) | (simp_all; done))⟩, ⟨by omega, by omega⟩, ?_⟩⟩, fun q8 => ⟨⟨(by first | omega | assumption | (refine ⟨?_, ?_⟩ <;> omega) | (simp_all; done)), (by first | omega | assumption | (refine ⟨?_, ?_⟩ <;> omega) | (simp_all; done))⟩, ⟨by omega, by omega⟩, ?_⟩⟩⟩)
      · omega
      · omega
      · rw [et, mT_st, mT_set M t (t - 1) _ (by omega), mT_upd, mT_set M (t - 1) t _ (by omega), show ((t : Int) - 1).toNat = t - 1 by omega]
        exact go rfl k (by omega)
      · omega
      · omega
    · have et := mT_top M t v
      have es : iAnd (mT M t v 84 ((400 * r) + (i : Int)).toNat) 15 = 12 := by rw [m84]; exact hs0
      refine (s225_8 ⟨fun q1 => ⟨⟨by omega, by omega⟩, ⟨(by first | omega | assumption | (refine ⟨?_, ?_⟩ <;> omega) | (simp_all; done)), (by first | omega | assumption | (refine ⟨?_, ?_⟩ <;> omega) | (simp_all; done))⟩, ?_⟩, fun q2 => ⟨⟨by omega, by omega⟩, ⟨by omega, by omega⟩, ⟨(by first | omega | assumption | (refine ⟨?_, ?_⟩ <;> omega) | (simp_all; done)), (by first | omega | assumption | (refine ⟨?_, ?_⟩ <;> omega) | (simp_all; done))⟩, fun q3 => ⟨fun q4 => ⟨fun q5 => ⟨⟨by omega, by omega⟩, ⟨(by first | omega | assumption | (refine ⟨?_, ?_⟩ <;> omega) | (simp_all; done)), (by first | omega | assumption | (refine ⟨?_, ?_⟩ <;> omega) | (simp_all; done))⟩, ⟨by omega, by omega⟩, ⟨(by first | omega | assumption | (refine ⟨?_, ?_⟩ <;> omega) | (simp_all; done)), (by first | omega | assumption | (refine ⟨?_, ?_⟩ <;> omega) | (simp_all; done))⟩, ?_⟩, fun q6 => ⟨⟨by omega, by omega⟩, ⟨(by first | omega | assumption | (refine ⟨?_, ?_⟩ <;> omega) | (simp_all; done)), (by first | omega | assumption | (refine ⟨?_, ?_⟩ <;> omega) | (simp_all; done))⟩, ⟨by omega, by omega⟩, ?_⟩⟩, fun q7 => ⟨⟨(by first | omega | assumption | (refine ⟨?_, ?_⟩ <;> omega) | (simp_all; done)), (by first | omega | assumption | (refine ⟨?_, ?_⟩ <;> omega) | (simp_all; done))⟩, ⟨(by first | omega | assumption | (refine ⟨?_, ?_⟩ <;> omega) | (simp_all; done)), (by first | omega | assumption | (refine ⟨?_, ?_⟩ <;> omega) | (simp_all; done))⟩, ⟨by omega, by omega⟩, ?_⟩⟩, fun q8 => ⟨⟨(by first | omega | assumption | (refine ⟨?_, ?_⟩ <;> omega) | (simp_all; done)), (by first | omega | assumption | (refine ⟨?_, ?_⟩ <;> omega) | (simp_all; done))⟩, ⟨by omega, by omega⟩, ?_⟩⟩⟩)
      · omega
      · rw [es, et, mT_st, mT_set M t (t - 1) _ (by omega), mT_set M (t - 1) (t - 2) _ (by omega), show ((t : Int) - 1 - 1).toNat = t - 2 by omega, show ((t : Int) - 1).toNat = t - 1 by omega]
        refine c228 (by omega) (fun z => by omega) (fun _ => ?_) (fun z => by omega) (by omega)
        have et2 := mT_top M (t - 2) v
        refine ⟨⟨(by first | omega | assumption | (refine ⟨?_, ?_⟩ <;> omega) | (simp_all; done)), (by first | omega | assumption | (refine ⟨?_, ?_⟩ <;> omega) | (simp_all; done))⟩, ⟨by omega, by omega⟩, ?_⟩
        rw [et2, mT_upd, mT_set M (t - 2) (t - 1) _ (by omega), show ((t - 2 : Nat) : Int).toNat = t - 2 by omega]
        exact go rfl k (by omega)
      · omega
      · omega
      · omega
    · have et := mT_top M t v
      have es : iAnd (mT M t v 84 ((400 * r) + (i : Int)).toNat) 15 = 13 := by rw [m84]; exact hs0
      refine (s225_8 ⟨fun q1 => ⟨⟨by omega, by omega⟩, ⟨(by first | omega | assumption | (refine ⟨?_, ?_⟩ <;> omega) | (simp_all; done)), (by first | omega | assumption | (refine ⟨?_, ?_⟩ <;> omega) | (simp_all; done))⟩, ?_⟩, fun q2 => ⟨⟨by omega, by omega⟩, ⟨by omega, by omega⟩, ⟨(by first | omega | assumption | (refine ⟨?_, ?_⟩ <;> omega) | (simp_all; done)), (by first | omega | assumption | (refine ⟨?_, ?_⟩ <;> omega) | (simp_all; done))⟩, fun q3 => ⟨fun q4 => ⟨fun q5 => ⟨⟨by omega, by omega⟩, ⟨(by first | omega | assumption | (refine ⟨?_, ?_⟩ <;> omega) | (simp_all; done)), (by first | omega | assumption | (refine ⟨?_, ?_⟩ <;> omega) | (simp_all; done))⟩, ⟨by omega, by omega⟩, ⟨(by first | omega | assumption | (refine ⟨?_, ?_⟩ <;> omega) | (simp_all; done)), (by first | omega | assumption | (refine ⟨?_, ?_⟩ <;> omega) | (simp_all; done))⟩, ?_⟩, fun q6 => ⟨⟨by omega, by omega⟩, ⟨(by first | omega | assumption | (refine ⟨?_, ?_⟩ <;> omega) | (simp_all; done)), (by first | omega | assumption | (refine ⟨?_, ?_⟩ <;> omega) | (simp_all; done))⟩, ⟨by omega, by omega⟩, ?_⟩⟩, fun q7 => ⟨⟨(by first | omega | assumption | (refine ⟨?_, ?_⟩ <;> omega) | (simp_all; done)), (by first | omega | assumption | (refine ⟨?_, ?_⟩ <;> omega) | (simp_all; done))⟩, ⟨(by first | omega | assumption | (refine ⟨?_, ?_⟩ <;> omega) | (simp_all; done)), (by first | omega | assumption | (refine ⟨?_, ?_⟩ <;> omega) | (simp_all; done))⟩, ⟨by omega, by omega⟩, ?_⟩⟩, fun q8 => ⟨⟨(by first | omega | assumption | (refine ⟨?_, ?_⟩ <;> omega) | (simp_all; done)), (by first | omega | assumption | (refine ⟨?_, ?_⟩ <;> omega) | (simp_all; done))⟩, ⟨by omega, by omega⟩, ?_⟩⟩⟩)
      · omega
      · rw [es, et, mT_st, mT_set M t (t - 1) _ (by omega), mT_set M (t - 1) (t - 2) _ (by omega), show ((t : Int) - 1 - 1).toNat = t - 2 by omega, show ((t : Int) - 1).toNat = t - 1 by omega]
        refine c228 (by omega) (fun z => by omega) (fun z => by omega) (fun _ => ?_) (by omega)
        have et2 := mT_top M (t - 2) v
        refine ⟨⟨(by first | omega | assumption | (refine ⟨?_, ?_⟩ <;> omega) | (simp_all; done)), (by first | omega | assumption | (refine ⟨?_, ?_⟩ <;> omega) | (simp_all; done))⟩, ⟨by omega, by omega⟩, ?_⟩
        rw [et2, mT_upd, mT_set M (t - 2) (t - 1) _ (by omega), show ((t - 2 : Nat) : Int).toNat = t - 2 by omega]
        exact go rfl k (by omega)
      · omega
      · omega
      · omega
    · have et := mT_top M t v
      have es : iAnd (mT M t v 84 ((400 * r) + (i : Int)).toNat) 15 = rSg M r i := by rw [m84]; exact rfl
      refine (s225_8 ⟨fun q1 => ⟨⟨by omega, by omega⟩, ⟨(by first | omega | assumption | (refine ⟨?_, ?_⟩ <;> omega) | (simp_all; done)), (by first | omega | assumption | (refine ⟨?_, ?_⟩ <;> omega) | (simp_all; done))⟩, ?_⟩, fun q2 => ⟨⟨by omega, by omega⟩, ⟨by omega, by omega⟩, ⟨(by first | omega | assumption | (refine ⟨?_, ?_⟩ <;> omega) | (simp_all; done)), (by first | omega | assumption | (refine ⟨?_, ?_⟩ <;> omega) | (simp_all; done))⟩, fun q3 => ⟨fun q4 => ⟨fun q5 => ⟨⟨by omega, by omega⟩, ⟨(by first | omega | assumption | (refine ⟨?_, ?_⟩ <;> omega) | (simp_all; done)), (by first | omega | assumption | (refine ⟨?_, ?_⟩ <;> omega) | (simp_all; done))⟩, ⟨by omega, by omega⟩, ⟨(by first | omega | assumption | (refine ⟨?_, ?_⟩ <;> omega) | (simp_all; done)), (by first | omega | assumption | (refine ⟨?_, ?_⟩ <;> omega) | (simp_all; done))⟩, ?_⟩, fun q6 => ⟨⟨by omega, by omega⟩, ⟨(by first | omega | assumption | (refine ⟨?_, ?_⟩ <;> omega) | (simp_all; done)), (by first | omega | assumption | (refine ⟨?_, ?_⟩ <;> omega) | (simp_all; done))⟩, ⟨by omega, by omega⟩, ?_⟩⟩, fun q7 => ⟨⟨(by first | omega | assumption | (refine ⟨?_, ?_⟩ <;> omega) | (simp_all; done)), (by first | omega | assumption | (refine ⟨?_, ?_⟩ <;> omega) | (simp_all; done))⟩, ⟨(by first | omega | assumption | (refine ⟨?_, ?_⟩ <;> omega) | (simp_all; done)), (by first | omega | assumption | (refine ⟨?_, ?_⟩ <;> omega) | (simp_all; done))⟩, ⟨by omega, by omega⟩, ?_⟩⟩, fun q8 => ⟨⟨(by first | omega | assumption | (refine ⟨?_, ?_⟩ <;> omega) | (simp_all; done)), (by first | omega | assumption | (refine ⟨?_, ?_⟩ <;> omega) | (simp_all; done))⟩, ⟨by omega, by omega⟩, ?_⟩⟩⟩)
      · omega
      · rw [es, et, mT_st, mT_set M t (t - 1) _ (by omega), mT_set M (t - 1) (t - 2) _ (by omega), show ((t : Int) - 1 - 1).toNat = t - 2 by omega, show ((t : Int) - 1).toNat = t - 1 by omega]
        refine c228 (by omega) (fun _ _ => ?_) (fun z => by omega) (fun z => by omega) (by omega)
        have et2 := mT_top M (t - 2) v
        refine ⟨⟨(by first | omega | assumption | (refine ⟨?_, ?_⟩ <;> omega) | (simp_all; done)), (by first | omega | assumption | (refine ⟨?_, ?_⟩ <;> omega) | (simp_all; done))⟩, ⟨by omega, by omega⟩, ?_⟩
        rw [et2, mT_upd, mT_set M (t - 2) (t - 1) _ (by omega), show ((t - 2 : Nat) : Int).toNat = t - 2 by omega]
        exact go rfl k (by omega)
      · omega
      · omega
      · omega
  have fin := H.2.2 w e.toNat _ (Nat.le_refl _) cl 0 (M 91) (by omega) (fun v' _ e2 => ?_)
  · rw [← z_nat a0] at fin
    exact fin
  · have et := mT_top M (0 + 1) v'
    refine (s225_8 ⟨fun q1 => ⟨⟨by omega, by omega⟩, ⟨(by first | omega | assumption | (refine ⟨?_, ?_⟩ <;> omega) | (simp_all; done)), (by first | omega | assumption | (refine ⟨?_, ?_⟩ <;> omega) | (simp_all; done))⟩, ?_⟩, fun q2 => ⟨⟨by omega, by omega⟩, ⟨by omega, by omega⟩, ⟨(by first | omega | assumption | (refine ⟨?_, ?_⟩ <;> omega) | (simp_all; done)), (by first | omega | assumption | (refine ⟨?_, ?_⟩ <;> omega) | (simp_all; done))⟩, fun q3 => ⟨fun q4 => ⟨fun q5 => ⟨⟨by omega, by omega⟩, ⟨(by first | omega | assumption | (refine ⟨?_, ?_⟩ <;> omega) | (simp_all; done)), (by first | omega | assumption | (refine ⟨?_, ?_⟩ <;> omega) | (simp_all; done))⟩, ⟨by omega, by omega⟩, ⟨(by first | omega | assumption | (refine ⟨?_, ?_⟩ <;> omega) | (simp_all; done)), (by first | omega | assumption | (refine ⟨?_, ?_⟩ <;> omega) | (simp_all; done))⟩, ?_⟩, fun q6 => ⟨⟨by omega, by omega⟩, ⟨(by first | omega | assumption | (refine ⟨?_, ?_⟩ <;> omega) | (simp_all; done)), (by first | omega | assumption | (refine ⟨?_, ?_⟩ <;> omega) | (simp_all; done))⟩, ⟨by omega, by omega⟩, ?_⟩⟩, fun q7 => ⟨⟨(by first | omega | assumption | (refine ⟨?_, ?_⟩ <;> omega) | (simp_all; done)), (by first | omega | assumption | (refine ⟨?_, ?_⟩ <;> omega) | (simp_all; done))⟩, ⟨(by first | omega | assumption | (refine ⟨?_, ?_⟩ <;> omega) | (simp_all; done)), (by first | omega | assumption | (refine ⟨?_, ?_⟩ <;> omega) | (simp_all; done))⟩, ⟨by omega, by omega⟩, ?_⟩⟩, fun q8 => ⟨⟨(by first | omega | assumption | (refine ⟨?_, ?_⟩ <;> omega) | (simp_all; done)), (by first | omega | assumption | (refine ⟨?_, ?_⟩ <;> omega) | (simp_all; done))⟩, ⟨by omega, by omega⟩, ?_⟩⟩⟩)
    · rw [et, mT_st, mT_set M (0 + 1) 0 _ (by omega), show (((0 + 1 : Nat) : Int) - 1).toNat = 0 by omega, e2]
      exact kk _ (mT_K M 0 v') (mT_ne (by decide) (by decide))
    · omega
    · omega
    · omega
    · omega
theorem c224 {r n x2 x3 : Int} {kd : Nat → Int} {D : Nat → (Nat → Int) → Int} (hd : 15 ≤ d) (hr : ruleF M r n kd D) (hw : ∀ j, j < 10 → M 92 j = w j) (h3 : x3 = 0 ∨ x3 = 1)
    (k1 : heldK D kd n x2 w ∨ (x3 = 1 ∧ ¬ hasK kd n x2) → ∀ M', rK M M' → P 1 M' G) (k0 : ¬ (heldK D kd n x2 w ∨ (x3 = 1 ∧ ¬ hasK kd n x2)) → ∀ M', rK M M' → P 0 M' G) : sC d 224 [vO 12 82, vI r, vI x2, vI x3] M G (QI P) := by
  obtain ⟨d, rfl⟩ := sD 2 (d := d) (by omega)
  have hr0 := hr
  obtain ⟨r0, r1, rn, n0, n1, hcl⟩ := hr
  refine e224 (s224_0 ?_)
  have lp := sUpTo (W := fun i => ∀ M' y, rK M M' → M' 92 = M 92 → (y = 0 ∨ y = 1) → (y = 1 → hasK kd n x2) → (y = 0 → ∀ c : Int, 0 ≤ c → c < (i : Int) → kd c.toNat ≠ x2) → (∀ c : Int, 0 ≤ c → c < (i : Int) → ¬ (kd c.toNat = x2 ∧ D c.toNat w = 1)) → sW (sC (d + 1)) 224 (QI P) 6 [vO 12 82, vI r, vI x2, vI x3, vI y, vI (i : Int), vN] [] M' G 0 0) n.toNat ?_ ?_
  · exact lp M 0 (rK.refl M) rfl (Or.inl rfl) (fun z => by omega) (fun _ c a b => by omega) (fun c a b => by omega)
  · intro M' y hK h92 hy y1 y0 hno
    have e87 : M' 87 = M 87 := hK.a (by decide) (by decide) (by decide)
    have e87' : M' 87 r.toNat = n := by rw [e87]; exact rn
    have nh : ¬ heldK D kd n x2 w := fun ⟨c, c0, c1, c2⟩ => hno c c0 (by omega) c2
    refine (s224_6 ⟨⟨(by first | omega | assumption | (refine ⟨?_, ?_⟩ <;> omega) | (simp_all; done)), (by first | omega | assumption | (refine ⟨?_, ?_⟩ <;> omega) | (simp_all; done))⟩, fun q1 => ⟨fun q2 => ?_, fun q3 => ⟨fun q4 => ?_, fun q5 => ?_⟩⟩, fun q6 => ⟨⟨by omega, by omega⟩, ⟨by omega, by omega⟩, ⟨by omega, by omega⟩, ⟨(by first | omega | assumption | (refine ⟨?_, ?_⟩ <;> omega) | (simp_all; done)), (by first | omega | assumption | (refine ⟨?_, ?_⟩ <;> omega) | (simp_all; done))⟩, fun q7 => ⟨⟨by omega, by omega⟩, ⟨(by first | omega | assumption | (refine ⟨?_, ?_⟩ <;> omega) | (simp_all; done)), (by first | omega | assumption | (refine ⟨?_, ?_⟩ <;> omega) | (simp_all; done))⟩, ⟨by omega, by omega⟩, ⟨(by first | omega | assumption | (refine ⟨?_, ?_⟩ <;> omega) | (simp_all; done)), (by first | omega | assumption | (refine ⟨?_, ?_⟩ <;> omega) | (simp_all; done))⟩, ?_⟩, fun q10 => ⟨⟨by omega, by omega⟩, ?_⟩⟩⟩)
    · exact k0 (fun z => z.elim nh (fun z => z.2 (y1 (by omega)))) M' hK
    · exact k0 (fun z => z.elim nh (fun z => by omega)) M' hK
    · exact k1 (Or.inr ⟨by omega, fun ⟨c, c0, c1, c2⟩ => y0 q3 c c0 (by omega) c2⟩) M' hK
    · omega
    · omega
  · intro i hi ih M' y hK h92 hy y1 y0 hno
    have e87 : M' 87 = M 87 := hK.a (by decide) (by decide) (by decide)
    have e87' : M' 87 r.toNat = n := by rw [e87]; exact rn
    have e86 : M' 86 = M 86 := hK.a (by decide) (by decide) (by decide)
    have e84 : M' 84 = M 84 := hK.a (by decide) (by decide) (by decide)
    obtain ⟨c1, c2, c3, c4, c5, ⟨hh, h64, H⟩, hD⟩ := hcl i (by omega) (by omega)
    refine (s224_6 ⟨⟨(by first | omega | assumption | (refine ⟨?_, ?_⟩ <;> omega) | (simp_all; done)), (by first | omega | assumption | (refine ⟨?_, ?_⟩ <;> omega) | (simp_all; done))⟩, fun q1 => ⟨fun q2 => ?_, fun q3 => ⟨fun q4 => ?_, fun q5 => ?_⟩⟩, fun q6 => ⟨⟨by omega, by omega⟩, ⟨by omega, by omega⟩, ⟨by omega, by omega⟩, ⟨(by first | omega | assumption | (refine ⟨?_, ?_⟩ <;> omega) | (simp_all; done)), (by first | omega | assumption | (refine ⟨?_, ?_⟩ <;> omega) | (simp_all; done))⟩, fun q7 => ⟨⟨by omega, by omega⟩, ⟨(by first | omega | assumption | (refine ⟨?_, ?_⟩ <;> omega) | (simp_all; done)), (by first | omega | assumption | (refine ⟨?_, ?_⟩ <;> omega) | (simp_all; done))⟩, ⟨by omega, by omega⟩, ⟨(by first | omega | assumption | (refine ⟨?_, ?_⟩ <;> omega) | (simp_all; done)), (by first | omega | assumption | (refine ⟨?_, ?_⟩ <;> omega) | (simp_all; done))⟩, ?_⟩, fun q10 => ⟨⟨by omega, by omega⟩, ?_⟩⟩⟩)
    · omega
    · omega
    · omega
    · rw [e86] at q7 ⊢
      rw [c1] at q7
      have hr' := hr0.congr e84 e86 e87
      have eS : rSg M' r = rSg M r := by funext j; unfold rSg; rw [e84]
      have eV : rVg M' r = rVg M r := by funext j; unfold rVg; rw [e84]
      refine c225 (h := 0) (w := w) (by omega) r0 r1 c2 c3 c4 (by rw [eS, eV]; exact c5) h64 (by rw [eS, eV]; exact H) (fun j hj => by rw [h92]; exact hw j hj) (fun M'' hK' h92' => ?_)
      refine ⟨fun q8 => ⟨⟨by omega, by omega⟩, ?_⟩, fun q9 => ?_⟩
      · refine ih M'' 1 (hK.trans hK') (h92'.trans h92) (Or.inr rfl) (fun _ => ⟨i, by omega, by omega, q7⟩) (fun z => by omega) (fun c a0 a1 => ?_)
        by_cases e : c = (i : Int)
        · rw [e]; exact fun z => q8 z.2
        · exact hno c a0 (by omega)
      · exact k1 (Or.inl ⟨i, by omega, by omega, q7, q9⟩) M'' (hK.trans hK')
    · rw [e86, c1] at q10
      refine ih M' y hK h92 hy y1 (fun z c a0 a1 => ?_) (fun c a0 a1 => ?_)
      · by_cases e : c = (i : Int)
        · rw [e]; exact q10
        · exact y0 z c a0 (by omega)
      · by_cases e : c = (i : Int)
        · rw [e]; exact fun z => q10 z.1
        · exact hno c a0 (by omega)
end Reckon
