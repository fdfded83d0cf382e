/-! THE RULE PARSER, reference: a clause, and all of them. -/
def rCls (M : sM) (r : Nat) : List (Int × den) → Nat → Prop
  | [], a => a = 0
  | x :: l, a => M 86 (36 * r + 3 * l.length) = x.1 ∧ M 86 (36 * r + 3 * l.length + 2) = (a : Int) ∧ ∃ b h : Nat, M 86 (36 * r + 3 * l.length + 1) = (b : Int) ∧ h ≤ 64 ∧ rCls M r l b ∧ rSeg (rSg M r) (rVg M r) b a h x.2
theorem rCls.congr {M M' : sM} {r : Nat} : ∀ {l : List (Int × den)} {a : Nat}, rCls M r l a → (∀ j, j < 36 * r + 3 * l.length → M' 86 j = M 86 j) → (∀ i, i < a → rSg M' r i = rSg M r i ∧ rVg M' r i = rVg M r i) → rCls M' r l a
  | [], a, h, _, _ => h
  | x :: l, a, h, e, g => by
    obtain ⟨h1, h2, b, f, h3, hf, hl, hs⟩ := h
    have hlen : (x :: l).length = l.length + 1 := rfl
    rw [hlen] at e
    have := hs.1
    exact ⟨(e _ (by omega)).trans h1, (e _ (by omega)).trans h2, b, f, (e _ (by omega)).trans h3, hf, hl.congr (fun j hj => e j (by omega)) (fun i hi => g i (by omega)), hs.congr (fun i _ hi => g i hi)⟩
/-- what the reading of a rule may change -/
def offP (r : Nat) (M M' : sM) : Prop := (∀ a, a ≠ 82 → a ≠ 84 → a ≠ 85 → a ≠ 86 → a ≠ 87 → a ≠ 90 → M' a = M a) ∧ (∀ i, i ≠ 11 → i ≠ 12 → i ≠ 13 → i ≠ 15 → i ≠ 16 → i ≠ 17 → i ≠ 19 → M' 82 i = M 82 i) ∧ (∀ j, j < 400 * r ∨ 400 * r + 400 ≤ j → M' 84 j = M 84 j) ∧ (∀ j, j < 36 * r ∨ 36 * r + 36 ≤ j → M' 86 j = M 86 j) ∧ ∀ j, j ≠ r → M' 87 j = M 87 j
theorem offP.refl (r : Nat) (M : sM) : offP r M M := ⟨fun _ _ _ _ _ _ _ => rfl, fun _ _ _ _ _ _ _ _ => rfl, fun _ _ => rfl, fun _ _ => rfl, fun _ _ => rfl⟩
theorem offP.trans {r : Nat} {M M' M'' : sM} (h : offP r M M') (h' : offP r M' M'') : offP r M M'' := ⟨fun a h1 h2 h3 h4 h5 h6 => (h'.1 a h1 h2 h3 h4 h5 h6).trans (h.1 a h1 h2 h3 h4 h5 h6), fun i h1 h2 h3 h4 h5 h6 h7 => (h'.2.1 i h1 h2 h3 h4 h5 h6 h7).trans (h.2.1 i h1 h2 h3 h4 h5 h6 h7), fun j hj => (h'.2.2.1 j hj).trans (h.2.2.1 j hj), fun j hj => (h'.2.2.2.1 j hj).trans (h.2.2.2.1 j hj), fun j hj => (h'.2.2.2.2 j hj).trans (h.2.2.2.2 j hj)⟩
theorem offW.p {r a0 : Nat} {M M' : sM} (h : offW r a0 M M') : offP r M M' := ⟨fun a h1 h2 h3 _ _ h6 => h.1 a h1 h2 h3 h6, fun i h1 h2 h3 h4 h5 _ h7 => h.2.1 i h1 h2 h3 h4 h5 h7, fun j hj => h.2.2.2 j (by omega), fun j _ => by rw [h.1 86 (by decide) (by decide) (by decide) (by decide)], fun j _ => by rw [h.1 87 (by decide) (by decide) (by decide) (by decide)]⟩
theorem offP.tp {r n : Nat} {T : Nat → Int} {M M' : sM} (h : offP r M M') (hT : rTp M T n) : rTp M' T n := ⟨(h.2.1 1 (by decide) (by decide) (by decide) (by decide) (by decide) (by decide) (by decide)).trans hT.1, fun i hi => by rw [h.1 83 (by decide) (by decide) (by decide) (by decide) (by decide) (by decide)]; exact hT.2 i hi⟩
theorem offP.u6 {r j : Nat} {M : sM} {y : Int} (h : 36 * r ≤ j ∧ j < 36 * r + 36) : offP r M (sUpd M 86 j y) := ⟨fun a h1 h2 h3 h4 h5 h6 => sUpd_ne h4, fun i _ _ _ _ _ _ _ => by rw [sUpd_ne (by decide)], fun j _ => by rw [sUpd_ne (by decide)], fun i hi => sUpd_ni (by omega), fun j _ => by rw [sUpd_ne (by decide)]⟩
theorem offP.u7 {r : Nat} {M : sM} {y : Int} : offP r M (sUpd M 87 r y) := ⟨fun a h1 h2 h3 h4 h5 h6 => sUpd_ne h5, fun i _ _ _ _ _ _ _ => by rw [sUpd_ne (by decide)], fun j _ => by rw [sUpd_ne (by decide)], fun i hi => by rw [sUpd_ne (by decide)], fun j hj => sUpd_ni hj⟩
theorem offP.u2 {r i : Nat} {M : sM} {y : Int} (h : i = 17 ∨ i = 15) : offP r M (sUpd M 82 i y) := ⟨fun a h1 _ _ _ _ _ => sUpd_ne h1, fun j _ _ _ h4 _ h6 _ => sUpd_ni (by omega), fun j _ => by rw [sUpd_ne (by decide)], fun i hi => by rw [sUpd_ne (by decide)], fun j hj => by rw [sUpd_ne (by decide)]⟩
section
variable {d n p m len r a0 : Nat} {T : Nat → Int} {P : Int → sM → sG → Prop} {PV : sM → sG → Prop} {M : sM} {G : sG} {f v : Int} {s : stS} {D : den} {k : Int} {cl : List (Int × den)} {x : Int × List (Int × den)}
theorem c185 {p2 : Nat} (hd : 38 ≤ d) (ho : tOk T n) (hT : rTp M T n) (hp : p ≤ n) (hl : lts T n p = p2) (h0 : rAt M r len m) (hR : rRng M r len) (hC : rCls M r cl len) (h87 : M 87 r = (cl.length : Int)) (hlp : len ≤ p2) (hA : okA n (1, p2, m, [], D, k, cl)) (ht : aTo T n (1, p2, m, [], D, k, cl) x)
    (kf : ∀ M' q' v', offP r M M' → x.1 ≠ 0 → q' ≤ n → P 0 (rS M' q' x.1 v') G)
    (kk : ∀ M' len' p' m' D' v', offP r M M' → M' 82 17 = M 82 17 → rAt M' r len' m' → rRng M' r len' → len' ≤ p' → p2 ≤ p' → rCls M' r ((k, D') :: cl) len' → M' 87 r = ((cl.length + 1 : Nat) : Int) → okA n (6, p', m', [], D', k, cl) → aTo T n (6, p', m', [], D', k, cl) x → blk T n p' = p' → ¬ atB T n p' wOr = true → ¬ atB T n p' wAnd = true → P 1 (rS M' p' 0 v') G) : sC d 185 [vO 12 82, vI k] (rS M p 0 v) G (QI P) := by
  obtain ⟨d, rfl⟩ := sD 1 (d := d) (by omega)
  have h400 := ho.1
  have h12 : cl.length < 12 := hA.2.2.2.2.2.2.2.2.2.2.2.2 (by decide) (by decide)
  obtain ⟨b1, b2, b3, b4, b5⟩ := h0
  have g14 : ∀ X q w, X 82 14 = (r : Int) → rS X q 0 w 82 14 = (r : Int) := fun X q w h => (rS_o (Or.inr ⟨by decide, by decide, by decide⟩)).trans h
  have ga : ∀ X q w a, a ≠ 82 → rS X q 0 w a = X a := fun X q w a h => rS_a h
  refine e185 (s185_0 (c180 (by omega) ho hT hp ?_))
  rw [hl, g14 M p2 v b1, show ((r : Int)).toNat = r from rfl, ga M p2 v 87 (by decide), ga M p2 v 85 (by decide), h87, b3, show ((36 * (r : Int)) + (3 * (cl.length : Int))).toNat = 36 * r + 3 * cl.length by omega, show (((36 * (r : Int)) + (3 * (cl.length : Int))) + 1).toNat = 36 * r + 3 * cl.length + 1 by omega, show (((36 * (r : Int)) + (3 * (cl.length : Int))) + 2).toNat = 36 * r + 3 * cl.length + 2 by omega, rS_u (Or.inl (by decide)), rS_u (Or.inl (by decide))]
  obtain ⟨X, hX⟩ : ∃ X, X = sUpd (sUpd M 86 (36 * r + 3 * cl.length) k) 86 (36 * r + 3 * cl.length + 1) (len : Int) := ⟨_, rfl⟩
  rw [← hX]
  have oX : offP r M X := by rw [hX]; exact (offP.u6 ⟨by omega, by omega⟩).trans (offP.u6 ⟨by omega, by omega⟩)
  have x84 : X 84 = M 84 := by rw [hX, sUpd_ne (by decide), sUpd_ne (by decide)]
  have xe := rSg_84 (r := r) x84
  have x82 : X 82 = M 82 := by rw [hX, sUpd_ne (by decide), sUpd_ne (by decide)]
  have x85 : X 85 = M 85 := by rw [hX, sUpd_ne (by decide), sUpd_ne (by decide)]
  have x87 : X 87 = M 87 := by rw [hX, sUpd_ne (by decide), sUpd_ne (by decide)]
  have k186 : ∀ (Q : Int → sM → sG → Prop), (∀ M' q' v', offW r len X M' → x.1 ≠ 0 → q' ≤ n → Q 0 (rS M' q' x.1 v') G) → (∀ M' len' p' m' D' h v', p2 ≤ p' → offW r len X M' → rAt M' r len' m' → rRng M' r len' → len' ≤ p' → rSeg (rSg M' r) (rVg M' r) len len' h D' → h ≤ m' → okA n (6, p', m', [], D', k, cl) → aTo T n (6, p', m', [], D', k, cl) x → blk T n p' = p' → ¬ atB T n p' wOr = true → ¬ atB T n p' wAnd = true → Q 1 (rS M' p' 0 v') G) → sC d 186 [vO 12 82] (rS X p2 0 v) G (QI Q) := fun Q k1 k2 => c186 (by omega) ho (oX.tp hT) ⟨by rw [x82]; exact b1, b2, by rw [x85]; exact b3, by rw [x82]; exact b4, b5⟩ (fun i hi => by rw [xe.1, xe.2]; exact hR i hi) hlp hA ht k1 (fun M' len' p' m' D' h v' hpp a1 a2 a3 a4 a5 a6 a7 a8 a9 a10 a11 => k2 M' len' p' m' D' h v' hpp a1 a2 a3 a4 a5 a6 a7 a8 a9 a10 a11)
  refine ⟨⟨by omega, by omega⟩, ⟨by omega, by omega⟩, ⟨by omega, by omega⟩, ⟨by omega, by omega⟩, ⟨by omega, by omega⟩, ⟨by omega, by omega⟩, ⟨by omega, by omega⟩, ⟨by omega, by omega⟩, k186 _ (fun M' q' v' o' hf hq' => ⟨fun z => absurd rfl z, fun _ => kf M' q' v' (oX.trans o'.p) hf hq'⟩) (fun M' len' p' m' D' h v' hpp o' a' hR' hl' hs' hh' hA' ht' hb' no na => ⟨fun _ => ?_, fun z => absurd z (by decide)⟩)⟩
  obtain ⟨c1, c2, c3, c4, c5⟩ := a'
  have m87 : M' 87 r = (cl.length : Int) := by rw [o'.1 87 (by decide) (by decide) (by decide) (by decide), x87]; exact h87
  rw [g14 M' p' v' c1, show ((r : Int)).toNat = r from rfl, ga M' p' v' 87 (by decide), ga M' p' v' 85 (by decide), m87, c3, rS_u (Or.inl (by decide)), rS_u (Or.inl (by decide))]
  obtain ⟨N, hN⟩ : ∃ N, N = sUpd (sUpd M' 86 (36 * r + 3 * cl.length + 2) (len' : Int)) 87 r ((cl.length : Int) + 1) := ⟨_, rfl⟩
  rw [← hN]
  have n84 : N 84 = M' 84 := by rw [hN, sUpd_ne (by decide), sUpd_ne (by decide)]
  have ne := rSg_84 (r := r) n84
  have n82 : N 82 = M' 82 := by rw [hN, sUpd_ne (by decide), sUpd_ne (by decide)]
  have oN : offP r M' N := by rw [hN]; exact (offP.u6 ⟨by omega, by omega⟩).trans offP.u7
  have m86 : M' 86 = X 86 := o'.1 86 (by decide) (by decide) (by decide) (by decide)
  have hp'n : p' ≤ n := hA'.2.2.2.1
  refine ⟨⟨by omega, by omega⟩, ⟨by omega, by omega⟩, ⟨by omega, by omega⟩, ⟨by omega, by omega⟩, ⟨by omega, by omega⟩, kk N len' p' m' D' v' ((oX.trans o'.p).trans oN) ?_ ⟨by rw [n82]; exact c1, c2, ?_, by rw [n82]; exact c4, c5⟩ (fun i hi => by rw [ne.1, ne.2]; exact hR' i hi) hl' hpp ⟨?_, ?_, len, h, ?_, by omega, ?_, ?_⟩ ?_ hA' ht' hb' no na⟩
  · rw [n82, o'.2.1 17 (by decide) (by decide) (by decide) (by decide) (by decide) (by decide), x82]
  · rw [hN, sUpd_ne (by decide), sUpd_ne (by decide)]; exact c3
  · rw [hN, sUpd_ne (by decide), sUpd_ni (by omega), m86, hX, sUpd_ni (by omega), sUpd_eq]
  · rw [hN, sUpd_ne (by decide), sUpd_eq]
  · rw [hN, sUpd_ne (by decide), sUpd_ni (by omega), m86, hX, sUpd_eq]
  · refine hC.congr (fun j hj => ?_) (fun i hi => ?_)
    · rw [hN, sUpd_ne (by decide), sUpd_ni (by omega), m86, hX, sUpd_ni (by omega), sUpd_ni (by omega)]
    · rw [ne.1, ne.2]
      have e84 : M' 84 (400 * (r : Int) + (i : Int)).toNat = M 84 (400 * (r : Int) + (i : Int)).toNat := by
        rw [o'.2.2.2 _ (by omega), x84]
      unfold rSg rVg
      rw [e84]
      exact ⟨rfl, rfl⟩
  · rw [ne.1, ne.2]; exact hs'
  · rw [hN, sUpd_eq]; rfl
theorem aTo.cla (ht : aTo T n (0, p, m, s, D, k, cl) x) : (aKd T n (blk T n p) = -1 → x.1 = 1 + 8 * (blk T n p : Int)) ∧ (aKd T n (blk T n p) ≠ -1 → (12 ≤ cl.length → x.1 = 1 + 8 * (blk T n p : Int) + 4) ∧ (cl.length < 12 → aTo T n (1, blk T n p + (if aKd T n (blk T n p) = 2 then 6 else 4), m, s, D, aKd T n (blk T n p), cl) x)) := by
  have h := ht.step (by show (0 : Nat) ≠ 7; decide)
  rw [aStep_0] at h
  unfold aCla at h
  refine ⟨fun z => ?_, fun z => ⟨fun y => ?_, fun y => ?_⟩⟩
  · rw [if_pos z] at h
    rw [h.1 (show 1 + 8 * (blk T n p : Int) ≠ 0 by omega)]
  · rw [if_neg z, if_pos y] at h
    rw [h.1 (show 1 + 8 * (blk T n p : Int) + 4 ≠ 0 by omega)]
  · rw [if_neg z, if_neg (by omega)] at h
    exact h.2 rfl
end
