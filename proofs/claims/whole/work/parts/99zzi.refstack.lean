/-! THE RULE PARSER, reference: what is open; settling. -/
def rCode (o : Nat) : Int := if o = 14 then 91 else (o : Int)
def rStk (M : sM) (r : Nat) : stS → Nat → Nat → Nat → Prop
  | [], a, a0, _ => a = a0
  | x :: s, a, a0, H => M 90 s.length = rCode x.1 ∧
    (((x.1 = 11 ∨ x.1 = 14) ∧ rStk M r s a a0 H)
    ∨ ((x.1 = 12 ∨ x.1 = 13) ∧ ∃ b h H', rStk M r s b a0 H' ∧ H' + h ≤ H ∧ rSeg (rSg M r) (rVg M r) b a h x.2))
theorem rStk.ge {M : sM} {r : Nat} : ∀ {s : stS} {a a0 H : Nat}, rStk M r s a a0 H → a0 ≤ a
  | [], a, a0, H, h => by have : a = a0 := h; omega
  | x :: s, a, a0, H, h => by
    rcases h.2 with ⟨-, z⟩ | ⟨-, b, g, H', z, -, y⟩
    · exact rStk.ge z
    · have := rStk.ge z
      have := y.1
      omega
theorem rStk.congr {M M' : sM} {r : Nat} : ∀ {s : stS} {a a0 H : Nat}, rStk M r s a a0 H → (∀ i, i < s.length → M' 90 i = M 90 i) → (∀ i, i < a → rSg M' r i = rSg M r i ∧ rVg M' r i = rVg M r i) → rStk M' r s a a0 H
  | [], a, a0, H, h, _, _ => h
  | x :: s, a, a0, H, h, e, g => by
    have e' : ∀ i, i < s.length → M' 90 i = M 90 i := fun i hi => e i (Nat.lt_succ_of_lt hi)
    refine ⟨(e s.length (Nat.lt_succ_self _)).trans h.1, ?_⟩
    rcases h.2 with ⟨y, z⟩ | ⟨y, b, f, H', z, e1, q⟩
    · exact Or.inl ⟨y, z.congr e' g⟩
    · have := q.1
      exact Or.inr ⟨y, b, f, H', z.congr e' (fun i hi => g i (by omega)), e1, q.congr (fun i _ hi => g i (by omega))⟩
def rF1 (M : sM) (r a0 : Nat) (s : stS) (len m p : Nat) : Prop := rAt M r len m ∧ M 82 19 = (s.length : Int) ∧ M 82 16 = (dpt s : Int) ∧ len + s.length ≤ p ∧ rRng M r len ∧ ∃ H, rStk M r s len a0 H ∧ H ≤ m
def rF2 (M : sM) (r a0 : Nat) (s : stS) (D : den) (len m p : Nat) : Prop := rAt M r len m ∧ M 82 19 = (s.length : Int) ∧ M 82 16 = (dpt s : Int) ∧ len + s.length ≤ p ∧ rRng M r len ∧ ∃ a h H, rStk M r s a a0 H ∧ rSeg (rSg M r) (rVg M r) a len h D ∧ H + h ≤ m
/-- what the reading of a clause may change -/
def offW (r a0 : Nat) (M M' : sM) : Prop := (∀ a, a ≠ 82 → a ≠ 84 → a ≠ 85 → a ≠ 90 → M' a = M a) ∧ (∀ i, i ≠ 11 → i ≠ 12 → i ≠ 13 → i ≠ 15 → i ≠ 16 → i ≠ 19 → M' 82 i = M 82 i) ∧ (∀ j, j ≠ r → M' 85 j = M 85 j) ∧ ∀ j, j < 400 * r + a0 ∨ 400 * r + 400 ≤ j → M' 84 j = M 84 j
theorem offW.refl (r a0 : Nat) (M : sM) : offW r a0 M M := ⟨fun _ _ _ _ _ => rfl, fun _ _ _ _ _ _ _ => rfl, fun _ _ => rfl, fun _ _ => rfl⟩
theorem offW.trans {r a0 : Nat} {M M' M'' : sM} (h : offW r a0 M M') (h' : offW r a0 M' M'') : offW r a0 M M'' := ⟨fun a h1 h2 h3 h4 => (h'.1 a h1 h2 h3 h4).trans (h.1 a h1 h2 h3 h4), fun i h1 h2 h3 h4 h5 h6 => (h'.2.1 i h1 h2 h3 h4 h5 h6).trans (h.2.1 i h1 h2 h3 h4 h5 h6), fun j hj => (h'.2.2.1 j hj).trans (h.2.2.1 j hj), fun j hj => (h'.2.2.2 j hj).trans (h.2.2.2 j hj)⟩
theorem offV.w {r len a0 : Nat} {M M' : sM} (h : offV r len M M') (hl : a0 ≤ len) : offW r a0 M M' := ⟨fun a h1 h2 h3 _ => h.1 a h1 h2 h3, fun i h1 h2 h3 h4 _ _ => h.2.1 i h1 h2 h3 h4, h.2.2.1, fun j hj => h.2.2.2 j (by omega)⟩
theorem offW.u {r a0 a i : Nat} {M : sM} {y : Int} (h : (a = 82 ∧ (i = 15 ∨ i = 16 ∨ i = 19)) ∨ a = 90) : offW r a0 M (sUpd M a i y) := ⟨fun b h1 h2 h3 h4 => sUpd_ne (by omega), fun j h1 h2 h3 h4 h5 h6 => by
  by_cases c : a = 82
  · rw [c, sUpd_ni (by omega)]
  · rw [sUpd_ne (by omega)], fun j hj => by rw [sUpd_ne (by omega)], fun j hj => by rw [sUpd_ne (by omega)]⟩
theorem offW.tp {r a0 n : Nat} {T : Nat → Int} {M M' : sM} (h : offW r a0 M M') (hT : rTp M T n) : rTp M' T n := ⟨(h.2.1 1 (by decide) (by decide) (by decide) (by decide) (by decide) (by decide)).trans hT.1, fun i hi => by rw [h.1 83 (by decide) (by decide) (by decide) (by decide)]; exact hT.2 i hi⟩
theorem jA_01 {a b : Int} (ha : a = 0 ∨ a = 1) (hb : b = 0 ∨ b = 1) : jAnd a b = (if a = 0 then a else b) ∧ jOr a b = (if a ≠ 0 then a else b) := by
  rcases ha with rfl | rfl <;> rcases hb with rfl | rfl <;> decide
theorem rSg_84 {M N : sM} {r : Nat} (h : N 84 = M 84) : rSg N r = rSg M r ∧ rVg N r = rVg M r := by
  constructor <;> funext i
  · unfold rSg; rw [h]
  · unfold rVg; rw [h]
theorem rPop {M N : sM} {r a0 : Nat} {x : Nat × den} {s : stS} {D : den} {len m p : Nat} (h : rF2 M r a0 (x :: s) D len m p) (hx : x.1 = 11 ∨ x.1 = 12 ∨ x.1 = 13) (hd : x.1 = 12 ∨ x.1 = 13 → d01 x.2) (hD : d01 D) (n14 : N 82 14 = M 82 14) (n85 : N 85 r = ((len + 1 : Nat) : Int)) (n15 : N 82 15 = M 82 15) (n19 : N 82 19 = (s.length : Int)) (n16 : N 82 16 = (dpt s : Int)) (n90 : N 90 = M 90) (hlo : ∀ i, i < len → rSg N r i = rSg M r i ∧ rVg N r i = rVg M r i) (hat : rSg N r len = (x.1 : Int) ∧ rVg N r len = 0) : rF2 N r a0 s (apD x.1 x.2 D) (len + 1) m p := by
  obtain ⟨⟨b1, b2, b3, b4, b5⟩, h19, h16, hlp, hR, a, f, H, hk, hs, hH⟩ := h
  have hl : (x :: s).length = s.length + 1 := rfl
  rw [hl] at hlp h19
  have ha := hs.1
  refine ⟨⟨n14.trans b1, b2, n85, n15.trans b4, b5⟩, n19, n16, by omega, fun i hi => ?_, ?_⟩
  · by_cases c : i = len
    · rw [c, hat.1, hat.2]; exact ⟨by decide, by decide, fun z => by omega⟩
    · rw [(hlo i (by omega)).1, (hlo i (by omega)).2]; exact hR i (by omega)
  · have hs' := hs.congr (s' := rSg N r) (g' := rVg N r) (fun i _ hi => hlo i hi)
    rcases hk.2 with ⟨y, z⟩ | ⟨y, b, g, H', z, e1, q⟩
    · have x11 : x.1 = 11 := by omega
      have : apD x.1 x.2 D = fun w => jWrap (1 - D w) := by funext w; unfold apD; rw [if_pos x11]
      rw [this]
      exact ⟨a, f, H, z.congr (fun i _ => by rw [n90]) (fun i hi => hlo i (by omega)), hs'.not (by rw [hat.1, x11]; rfl), hH⟩
    · have q' := q.congr (s' := rSg N r) (g' := rVg N r) (fun i _ hi => hlo i (by omega))
      have hb := q.1
      have z' : rStk N r s b a0 H' := z.congr (fun i _ => by rw [n90]) (fun i hi => hlo i (by omega))
      rcases y with y | y
      · have : apD x.1 x.2 D = fun w => jAnd (x.2 w) (D w) := by
          funext w
          unfold apD
          rw [if_neg (by omega), if_pos y, (jA_01 (hd (Or.inl y) w) (hD w)).1]
        rw [this]
        exact ⟨b, g + f, H', z', q'.and hs' (by rw [hat.1, y]; rfl), by omega⟩
      · have : apD x.1 x.2 D = fun w => jOr (x.2 w) (D w) := by
          funext w
          unfold apD
          rw [if_neg (by omega), if_neg (by omega), if_pos y, (jA_01 (hd (Or.inr y) w) (hD w)).2]
        rw [this]
        exact ⟨b, g + f, H', z', q'.or hs' (by rw [hat.1, y]; rfl), by omega⟩
section
variable {d n p m len r a0 : Nat} {T : Nat → Int} {P : Int → sM → sG → Prop} {PV : sM → sG → Prop} {M : sM} {G : sG} {f v : Int} {s : stS} {D : den} {k : Int} {cl : List (Int × den)} {x : Int × List (Int × den)}
theorem c198 {o : Nat} (hd : 2 ≤ d) (ho : 11 ≤ o ∧ o ≤ 14) (kk : P (bnd o : Int) M G) : sC d 198 [vI (rCode o)] M G (QI P) := by
  obtain ⟨d, rfl⟩ := sD 1 (d := d) (by omega)
  have hc : o = 11 ∨ o = 12 ∨ o = 13 ∨ o = 14 := by omega
  refine e198 (s198_0 ⟨fun a => ⟨fun b => ⟨fun c => ?_, fun c => ?_⟩, fun b => ?_⟩, fun a => ?_⟩) <;> rcases hc with rfl | rfl | rfl | rfl
  · exact absurd (show rCode 11 = 11 from rfl) c
  · exact absurd (show rCode 12 = 12 from rfl) b
  · exact absurd (show rCode 13 = 13 from rfl) a
  · exact kk
  · exact kk
  · exact absurd (show rCode 12 = 12 from rfl) b
  · exact absurd (show rCode 13 = 13 from rfl) a
  · exact absurd c (by decide)
  · exact absurd b (by decide)
  · exact kk
  · exact absurd b (by decide)
  · exact absurd b (by decide)
  · exact absurd a (by decide)
  · exact absurd a (by decide)
  · exact kk
  · exact absurd a (by decide)
theorem c197 {b q : Nat} (hd : 6 ≤ d) (b1 : 1 ≤ b ∧ b ≤ 3) (hp : p ≤ 400) : ∀ (s : stS) (D : den) (M : sM) (len : Nat), wfs s → tb s ≤ 3 → d01 D → rF2 M r a0 s D len m p → (∀ M' len', offW r a0 M M' → rF2 M' r a0 (stl b s D).1 (stl b s D).2 len' m p → PV (rS M' q f v) G) → sC d 197 [vO 12 82, vI (b : Int)] (rS M q f v) G (QV PV) := by
  obtain ⟨d, rfl⟩ := sD 1 (d := d) (by omega)
  have g19 : ∀ M : sM, rS M q f v 82 19 = M 82 19 := fun M => rS_o (Or.inr ⟨by decide, by decide, by decide⟩)
  have g16 : ∀ M : sM, rS M q f v 82 16 = M 82 16 := fun M => rS_o (Or.inr ⟨by decide, by decide, by decide⟩)
  have g90 : ∀ M : sM, rS M q f v 90 = M 90 := fun M => rS_a (by decide)
  have key : ∀ (s : stS) (D : den) (M : sM) (len : Nat), wfs s → tb s ≤ 3 → d01 D → rF2 M r a0 s D len m p → (∀ M' len', offW r a0 M M' → rF2 M' r a0 (stl b s D).1 (stl b s D).2 len' m p → PV (rS M' q f v) G) → sW (sC d) 197 (QV PV) 0 [vO 12 82, vI (b : Int)] [] (rS M q f v) G 0 0 := by
    intro s
    induction s with
    | nil =>
      intro D M len hw ht hD hF kk
      have h19 : M 82 19 = 0 := hF.2.1
      have e := g19 M
      exact s197_0 ⟨fun _ => kk M len (offW.refl _ _ _) hF, fun z => by omega⟩
    | cons x s ih =>
      intro D M len hw ht hD hF kk
      have hF' := hF
      obtain ⟨⟨b1', b2, b3, b4, b5⟩, h19, h16, hlp, hR, a, fh, H, hk, hs, hH⟩ := hF'
      have hl : (x :: s).length = s.length + 1 := rfl
      have hdp : dpt (x :: s) = (if x.1 = 11 ∨ x.1 = 14 then 1 else 0) + dpt s := rfl
      rw [hl] at hlp h19
      have e19 := g19 M
      have e10 : (rS M q f v 82 19 - 1).toNat = s.length := by omega
      have hx := bnd_low hw.2.1 ht
      have hdl := dpt_len s
      have hdl2 := dpt_len (x :: s)
      rw [hl] at hdl2
      have a0l : a0 ≤ len := by have := hk.ge; have := hs.1; omega
      refine s197_0 ⟨fun z => by omega, fun _ => ⟨⟨by omega, by omega⟩, ⟨by omega, by omega⟩, ?_⟩⟩
      rw [e10, g90, hk.1]
      refine c198 (by omega) (by omega) ⟨fun z => ?_, fun z => ⟨⟨by omega, by omega⟩, ⟨by omega, by omega⟩, ?_⟩⟩
      · have e : stl b (x :: s) D = (x :: s, D) := if_neg (by omega)
        rw [e] at kk
        exact kk M len (offW.refl _ _ _) hF
      · have cb : b ≤ bnd x.1 := by omega
        have x14 : x.1 ≠ 14 := fun y => by rw [y] at cb; have : bnd 14 = 0 := rfl; omega
        have hxo : rCode x.1 = (x.1 : Int) := if_neg x14
        have e : stl b (x :: s) D = stl b s (apD x.1 x.2 D) := if_pos cb
        rw [e] at kk
        have hD' : d01 (apD x.1 x.2 D) := apD_01 (by omega) hw.2.2.2 (fun _ => hD)
        have hts : tb s ≤ 3 := hw.low (by have : bnd x.1 ≤ 3 := ht; omega)
        rw [e10, g90, hk.1, hxo, rS_u (Or.inr ⟨by decide, by decide, by decide⟩)]
        obtain ⟨X, hX⟩ : ∃ X, X = sUpd M 82 19 (rS M q f v 82 19 - 1) := ⟨_, rfl⟩
        rw [← hX]
        have oX : offW r a0 M X := by rw [hX]; exact offW.u (Or.inl ⟨rfl, Or.inr (Or.inr rfl)⟩)
        have x84 : X 84 = M 84 := by rw [hX, sUpd_ne (by decide)]
        have x14' : X 82 14 = (r : Int) := by rw [hX, sUpd_ni (by decide)]; exact b1'
        have hle : len < 400 := by omega
        refine c194 (o := x.1) (w := 0) (by omega) x14' b2 (by rw [hX, sUpd_ne (by decide)]; exact b3) hle rfl rfl (by omega) (by decide) ?_
        obtain ⟨N, hN⟩ : ∃ N, N = rPut X r len x.1 0 := ⟨_, rfl⟩
        rw [← hN]
        have oP : offV r len X N := by rw [hN]; exact rPut.off hle
        have oN : offW r a0 M N := oX.trans (oP.w a0l)
        have hlo : ∀ i, i < len → rSg N r i = rSg M r i ∧ rVg N r i = rVg M r i := fun i hi => by
          rw [(oP.rows hi).1, (oP.rows hi).2, (rSg_84 x84).1, (rSg_84 x84).2]; exact ⟨rfl, rfl⟩
        have hat : rSg N r len = (x.1 : Int) ∧ rVg N r len = 0 := by
          rw [hN]
          exact rPut.at (by omega) (by decide)
        have n82 : ∀ i, i ≠ 11 → i ≠ 12 → i ≠ 13 → i ≠ 15 → N 82 i = X 82 i := oP.2.1
        have n15 : N 82 15 = M 82 15 := by rw [hN]; unfold rPut; rw [sUpd_ne (by decide), sUpd_ne (by decide), hX, sUpd_ni (by decide)]
        have n19 : N 82 19 = (s.length : Int) := by rw [n82 19 (by decide) (by decide) (by decide) (by decide), hX, sUpd_eq]; omega
        have n16 : N 82 16 = M 82 16 := by rw [n82 16 (by decide) (by decide) (by decide) (by decide), hX, sUpd_ni (by decide)]
        have n14 : N 82 14 = M 82 14 := by rw [n82 14 (by decide) (by decide) (by decide) (by decide), hX, sUpd_ni (by decide)]
        have n85 : N 85 r = ((len + 1 : Nat) : Int) := by rw [hN]; exact rPut.len
        have n90 : N 90 = M 90 := by rw [oP.1 90 (by decide) (by decide) (by decide), hX, sUpd_ne (by decide)]
        have m19 := g19 N
        have m16 := g16 N
        have e20 : (rS N q f v 82 19).toNat = s.length := by omega
        refine ⟨⟨by omega, by omega⟩, ?_⟩
        rw [e20, g90, n90, hk.1, hxo]
        refine ⟨fun z11 => ?_, fun z11 => ⟨⟨by omega, by omega⟩, ?_⟩⟩
        · have x11 : x.1 ≠ 11 := fun y => z11 (by omega)
          exact ih (apD x.1 x.2 D) N (len + 1) hw.1 hts hD' (rPop hF (by omega) hw.2.2.2 hD n14 n85 n15 n19 (by rw [n16, h16, hdp, if_neg (by omega), Nat.zero_add]) n90 hlo hat) (fun M' len' o' h' => kk M' len' (oN.trans o') h')
        · have x11 : x.1 = 11 := by omega
          rw [rS_u (Or.inr ⟨by decide, by decide, by decide⟩), m16]
          obtain ⟨Y, hY⟩ : ∃ Y, Y = sUpd N 82 16 (N 82 16 - 1) := ⟨_, rfl⟩
          rw [← hY]
          have y84 : Y 84 = N 84 := by rw [hY, sUpd_ne (by decide)]
          have oY : offW r a0 M Y := oN.trans (by rw [hY]; exact offW.u (Or.inl ⟨rfl, Or.inr (Or.inl rfl)⟩))
          exact ih (apD x.1 x.2 D) Y (len + 1) hw.1 hts hD' (rPop hF (by omega) hw.2.2.2 hD (by rw [hY, sUpd_ni (by decide)]; exact n14) (by rw [hY, sUpd_ne (by decide)]; exact n85) (by rw [hY, sUpd_ni (by decide)]; exact n15) (by rw [hY, sUpd_ni (by decide)]; exact n19) (by rw [hY, sUpd_eq, n16, h16, hdp, if_pos (Or.inl x11)]; omega) (by rw [hY, sUpd_ne (by decide)]; exact n90) (fun i hi => by rw [(rSg_84 y84).1, (rSg_84 y84).2]; exact hlo i hi) (by rw [(rSg_84 y84).1, (rSg_84 y84).2]; exact hat)) (fun M' len' o' h' => kk M' len' (oY.trans o') h')
  intro s D M len hw ht hD hF kk
  exact e197 (key s D M len hw ht hD hF kk)
/-- whether a bracket is open -/
theorem rStk.hasB {M : sM} {r : Nat} : ∀ {s : stS} {a a0 H : Nat}, rStk M r s a a0 H → ((∃ i, i < s.length ∧ M 90 i = 91) ↔ 0 < brk s)
  | [], a, a0, H, h => ⟨fun ⟨i, hi, _⟩ => absurd hi (Nat.not_lt_zero i), fun z => absurd z (Nat.lt_irrefl 0)⟩
  | x :: s, a, a0, H, h => by
    have hb : brk (x :: s) = (if x.1 = 14 then 1 else 0) + brk s := rfl
    have ih : (∃ i, i < s.length ∧ M 90 i = 91) ↔ 0 < brk s := by
      rcases h.2 with ⟨-, z⟩ | ⟨-, b, g, H', z, -⟩
      · exact z.hasB
      · exact z.hasB
    rw [hb]
    by_cases c : x.1 = 14
    · rw [if_pos c]
      refine ⟨fun _ => by omega, fun _ => ⟨s.length, Nat.lt_succ_self _, ?_⟩⟩
      rw [h.1]; exact if_pos c
    · rw [if_neg c, Nat.zero_add]
      constructor
      · rintro ⟨i, hi, h91⟩
        have hi' : i < s.length + 1 := hi
        by_cases e : i = s.length
        · rw [e, h.1] at h91
          have : rCode x.1 = (x.1 : Int) := if_neg c
          have hx : x.1 ≤ 14 := by rcases h.2 with ⟨z, -⟩ | ⟨z, -⟩ <;> omega
          omega
        · exact ih.1 ⟨i, by omega, h91⟩
      · intro z
        obtain ⟨i, hi, h91⟩ := ih.2 z
        exact ⟨i, Nat.lt_succ_of_lt hi, h91⟩
theorem c199 {q a H : Nat} (hd : 2 ≤ d) (h19 : M 82 19 = (s.length : Int)) (hl : s.length ≤ 400) (hk : rStk M r s a a0 H) (k1 : 0 < brk s → P 1 (rS M q f v) G) (k0 : brk s = 0 → P 0 (rS M q f v) G) : sC d 199 [vO 12 82] (rS M q f v) G (QI P) := by
  obtain ⟨d, rfl⟩ := sD 1 (d := d) (by omega)
  have g19 : rS M q f v 82 19 = (s.length : Int) := (rS_o (Or.inr ⟨by decide, by decide, by decide⟩)).trans h19
  have g90 : rS M q f v 90 = M 90 := rS_a (by decide)
  have hb := hk.hasB
  have loop : ∀ y i : Nat, s.length - i ≤ y → i ≤ s.length → (∀ j, j < i → M 90 j ≠ 91) → sW (sC d) 199 (QI P) 2 [vO 12 82, vI (i : Int)] [] (rS M q f v) G 0 0 := by
    intro y
    induction y with
    | zero =>
      intro i hy hi hno
      refine s199_2 ⟨fun _ => k0 ?_, fun z => by omega⟩
      exact Decidable.byContradiction fun z => by
        obtain ⟨j, hj, h91⟩ := hb.2 (by omega)
        exact hno j (by omega) h91
    | succ y ih =>
      intro i hy hi hno
      refine s199_2 ⟨fun _ => k0 ?_, fun z => ⟨⟨by omega, by omega⟩, fun z91 => ?_, fun z91 => ?_⟩⟩
      · exact Decidable.byContradiction fun z => by
          obtain ⟨j, hj, h91⟩ := hb.2 (by omega)
          exact hno j (by omega) h91
      · rw [g90] at z91
        refine ⟨⟨by omega, by omega⟩, ih (i + 1) (by omega) (by omega) (fun j hj => ?_)⟩
        by_cases c : j = i
        · rw [c]; exact z91
        · exact hno j (by omega)
      · rw [g90] at z91
        exact k1 (hb.1 ⟨i, by omega, z91⟩)
  exact e199 (s199_0 (loop s.length 0 (by omega) (Nat.zero_le _) (fun j hj => absurd hj (Nat.not_lt_zero j))))
end
