/-! WHAT HOLDS BETWEEN THE CALLS OF THE LAW. -/
def lowLate (S : Nat → Int) : Prop := S 3 ≤ 12 * S 2
def iTape (M : sM) : Prop := 0 ≤ M 3 1 ∧ M 3 1 ≤ 400 ∧ M 82 1 = M 3 1 ∧ ∀ i : Nat, (i : Int) < M 3 1 → (0 ≤ M 4 i ∧ M 4 i ≤ 255) ∧ M 83 i = if M 4 i < 128 then M 4 i else M 4 i - 256
def iRules (own : Nat → Nat) (M : sM) (G : sG) : Prop := 0 ≤ M 1 11 ∧ M 1 11 ≤ 6 ∧ M 82 2 = M 1 11 ∧ ∀ r : Int, 0 ≤ r → r < M 1 11 → 109 ≤ M 12 r.toNat ∧ (∀ j, j < 5 → own ((M 12 r.toNat).toNat + j) = 1) ∧ ∃ n kd D, ruleC M G (M 12 r.toNat).toNat n kd D ∧ ruleF M r n kd D
def imgS (M : sM) (k : Int) : Nat → Int := fun i => M 106 ((274 * k) + (i : Int)).toNat
def iImgs (own : Nat → Nat) (t : Int) (M : sM) (G : sG) : Prop := ∀ k : Int, 0 ≤ k → k < 4 → (M 107 k.toNat = 0 ∧ M 41 k.toNat = 0) ∨ (M 107 k.toNat = 1 ∧ 109 ≤ M 41 k.toNat ∧ (∀ j, j < 28 → own ((M 41 k.toNat).toNat + j) = 10 + k.toNat) ∧ vTown (1200 * t) (imgS M k) ∧ lowLate (imgS M k) ∧ vTold (imgS M k) ∧ TR ((M 41 k.toNat).toNat + 1) M (imgS M k) ∧ TO ((M 41 k.toNat).toNat + 16) M (imgS M k))
def iTown (t : Int) (M : sM) : Prop := vTown (1200 * t) (M 93) ∧ lowLate (M 93) ∧ TR 14 M (M 93)
def iTold (M : sM) : Prop := vTold (M 93) ∧ TO 29 M (M 93)
/-- own: whose an address is (1: a rule's, 10 on: an image's); what is made later lies from N on -/
def Inv0 (own : Nat → Nat) (t : Int) (M : sM) (G : sG) : Prop := iTape M ∧ iRules own M G ∧ iImgs own t M G ∧ iTown t M ∧ iTold M
def Inv (t : Int) (M : sM) (G : sG) : Prop := 0 ≤ t ∧ ∃ own N, (∀ a, N ≤ a → G a = (0, 0, 0) ∧ own a = 0) ∧ 109 ≤ N ∧ Inv0 own t M G
/-- what stays: all that lasts, but l -/
def kp (l : List Nat) (M M' : sM) : Prop := (∀ a, a ∉ l → (a = 4 ∨ a = 12 ∨ (14 ≤ a ∧ a ≤ 41) ∨ a = 83 ∨ a = 84 ∨ a = 86 ∨ a = 87 ∨ a = 93 ∨ a = 106 ∨ a = 107 ∨ 108 ≤ a) → M' a = M a) ∧ (1 ∉ l → M' 1 11 = M 1 11) ∧ (3 ∉ l → M' 3 1 = M 3 1) ∧ (82 ∉ l → M' 82 1 = M 82 1 ∧ M' 82 2 = M 82 2)
theorem kp.refl (l : List Nat) (M : sM) : kp l M M := ⟨fun _ _ _ => rfl, fun _ => rfl, fun _ => rfl, fun _ => ⟨rfl, rfl⟩⟩
theorem kp.trans {l : List Nat} {M M' M'' : sM} (h : kp l M M') (h' : kp l M' M'') : kp l M M'' := ⟨fun a h1 h2 => (h'.1 a h1 h2).trans (h.1 a h1 h2), fun z => (h'.2.1 z).trans (h.2.1 z), fun z => (h'.2.2.1 z).trans (h.2.2.1 z), fun z => ⟨(h'.2.2.2 z).1.trans (h.2.2.2 z).1, (h'.2.2.2 z).2.trans (h.2.2.2 z).2⟩⟩
theorem TO.congr {c : Nat} {M M' : sM} {S : Nat → Int} (h : TO c M S) (e : ∀ a, c ≤ a → a ≤ c + 11 → M' a = M a) : TO c M' S := by
  have e' : ∀ k, k ≤ 11 → M' (c + k) = M (c + k) := fun k hk => e _ (by omega) (by omega)
  unfold TO at h ⊢
  rw [show M' c = M c from e c (by omega) (by omega), e' 1 (by omega), e' 2 (by omega), e' 3 (by omega), e' 4 (by omega), e' 5 (by omega), e' 6 (by omega), e' 7 (by omega), e' 8 (by omega), e' 9 (by omega), e' 10 (by omega), e' 11 (by omega)]
  exact h
/-- a row that is alike in all that a town is -/
def eqTown (S S' : Nat → Int) : Prop := (∀ j, j < 5 ∨ (10 ≤ j ∧ j < 136) → S' j = S j) ∧ ∀ p w : Int, 0 ≤ p → p < 12 → 0 ≤ w → w < 4 → pO S' p w = pO S p w
theorem eqTown.h {S S' : Nat → Int} (e : eqTown S S') {h w : Int} (h0 : 0 ≤ h) (h1 : h < 6) (w0 : 0 ≤ w) (w1 : w < 3) : hO S' h w = hO S h w := e.1 _ (by omega)
theorem eqTown.t {S S' : Nat → Int} (e : eqTown S S') {s w : Int} (h0 : 0 ≤ s) (h1 : s < 18) (w0 : 0 ≤ w) (w1 : w < 6) : tO S' s w = tO S s w := e.1 _ (by omega)
theorem eqTown.in {S S' : Nat → Int} (e : eqTown S S') (h : Int) : inN S' h = inN S h := nS_congr (fun i hi => by
  show (if pO S' (i : Int) 0 = h then (1 : Int) else 0) = _
  rw [e.2 i 0 (by omega) (by omega) (by decide) (by decide)]
  rfl)
theorem TR.row {b : Nat} {M : sM} {S S' : Nat → Int} {B : Int} (hv : vTown B S) (ht : TR b M S) (e : eqTown S S') : TR b M S' := by
  obtain ⟨l, h2, h3, h4, h5⟩ := ht
  have hs0 := hv.1.1
  have hs1 := hv.1.2.1
  have e0 := e.1 0 (by omega)
  have e1 := e.1 1 (by omega)
  refine ⟨by unfold TRl; rw [e0, e1, e.1 2 (by omega), e.1 3 (by omega)]; exact l, fun h h0 h1 => ?_, fun s s0 s1 => ?_, fun p p0 p1 => ?_, fun h h0 h1 => ?_⟩
  · rw [e0] at h1
    rw [e.h h0 (by omega) (by decide) (by decide), e.h h0 (by omega) (by decide) (by decide), e.h h0 (by omega) (by decide) (by decide), e.in]
    exact h2 h h0 h1
  · rw [e1] at s1
    rw [e.t s0 (by omega) (by decide) (by decide), e.t s0 (by omega) (by decide) (by decide), e.t s0 (by omega) (by decide) (by decide), e.t s0 (by omega) (by decide) (by decide), e.t s0 (by omega) (by decide) (by decide), e.t s0 (by omega) (by decide) (by decide)]
    exact h3 s s0 s1
  · rw [e.2 p 0 p0 p1 (by decide) (by decide), e.2 p 1 p0 p1 (by decide) (by decide), e.2 p 3 p0 p1 (by decide) (by decide)]
    exact h4 p p0 p1
  · rw [e0] at h1
    have hr := h5 h h0 h1
    refine ⟨fun g => ?_, fun i j i0 ij j1 => ?_⟩
    · rw [e.in, ← hr.1 g]
      exact nS_congr (fun q hq => by rw [e.2 q 0 (by omega) (by omega) (by decide) (by decide)])
    · rw [e.in] at j1
      obtain ⟨a1, a2, -⟩ := hr.mem i0 (by omega)
      obtain ⟨b1, b2, -⟩ := hr.mem (i := j) (by omega) j1
      rw [e.2 _ 2 a1 a2 (by decide) (by decide), e.2 _ 2 b1 b2 (by decide) (by decide)]
      exact hr.2 i j i0 ij j1
theorem vTown.row {S S' : Nat → Int} {B : Int} (hv : vTown B S) (e : eqTown S S') (h4 : ∀ p : Int, 0 ≤ p → p < 12 → 0 ≤ pO S' p 4 ∧ pO S' p 4 ≤ 99) : vTown B S' := by
  obtain ⟨⟨a0, a1, a2, a3, a4⟩, g2, g3, g4, g5⟩ := hv
  have e0 := e.1 0 (by omega)
  have e1 := e.1 1 (by omega)
  refine ⟨⟨by rw [e0]; exact a0, by rw [e1]; exact a1, by rw [e.1 2 (by omega)]; exact a2, by rw [e.1 3 (by omega)]; exact a3, by rw [e.1 4 (by omega)]; exact a4⟩, fun h h0 h1 => ?_, fun s s0 s1 => ?_, fun p p0 p1 => ?_, fun h h0 h1 => ?_⟩
  · rw [e0] at h1
    rw [e.h h0 (by omega) (by decide) (by decide), e.h h0 (by omega) (by decide) (by decide), e.h h0 (by omega) (by decide) (by decide)]
    exact g2 h h0 h1
  · rw [e1] at s1
    rw [e.t s0 (by omega) (by decide) (by decide), e.t s0 (by omega) (by decide) (by decide), e.t s0 (by omega) (by decide) (by decide), e.t s0 (by omega) (by decide) (by decide), e.t s0 (by omega) (by decide) (by decide), e.t s0 (by omega) (by decide) (by decide), e0]
    exact g3 s s0 s1
  · rw [e.2 p 0 p0 p1 (by decide) (by decide), e.2 p 1 p0 p1 (by decide) (by decide), e.2 p 2 p0 p1 (by decide) (by decide), e.2 p 3 p0 p1 (by decide) (by decide), e0, e1, e.1 4 (by omega)]
    obtain ⟨c0, c1, c2, c3, c4, -⟩ := g4 p p0 p1
    exact ⟨c0, c1, c2, c3, c4, h4 p p0 p1⟩
  · rw [e0] at h1
    rw [e.in, e.h h0 (by omega) (by decide) (by decide)]
    exact g5 h h0 h1
/-- a row that is alike in all that is told beside the street -/
def eqTold (S S' : Nat → Int) : Prop := (∀ j, (5 ≤ j ∧ j < 10) ∨ 196 ≤ j → S' j = S j) ∧ ∀ p : Int, 0 ≤ p → p < 12 → pO S' p 4 = pO S p 4
theorem vTold.row {S S' : Nat → Int} (hv : vTold S) (e : eqTold S S') : vTold S' := by
  obtain ⟨a5, a6, a7, a8, a9, h1, h2, h3, h4, h5⟩ := hv
  have e5 := e.1 5 (by omega)
  have e6 := e.1 6 (by omega)
  have e7 := e.1 7 (by omega)
  have e8 := e.1 8 (by omega)
  have e9 := e.1 9 (by omega)
  refine ⟨by rw [e5]; exact a5, by rw [e6]; exact a6, by rw [e7]; exact a7, by rw [e8]; exact a8, by rw [e9]; exact a9, fun w w0 w1 => ?_, fun k k0 k1 => ?_, fun j k j0 jk k1 => ?_, fun f f0 f1 => ?_, fun g g0 g1 => ?_⟩
  · rw [e5] at w1
    rw [e.1 _ (by omega), e.1 ((196 + (5 * w)) + 1).toNat (by omega), e.1 ((196 + (5 * w)) + 2).toNat (by omega), e.1 ((196 + (5 * w)) + 3).toNat (by omega), e.1 ((196 + (5 * w)) + 4).toNat (by omega)]
    exact h1 w w0 w1
  · rw [e6] at k1
    rw [e.1 _ (by omega)]
    exact h2 k k0 k1
  · rw [e6] at k1
    rw [e.1 (226 + j).toNat (by omega), e.1 (226 + k).toNat (by omega)]
    exact h3 j k j0 jk k1
  · rw [e7] at f1
    rw [e.1 (234 + (2 * f)).toNat (by omega), e.1 ((234 + (2 * f)) + 1).toNat (by omega)]
    exact h4 f f0 f1
  · rw [e8] at g1
    rw [e.1 (250 + (2 * g)).toNat (by omega), e.1 ((250 + (2 * g)) + 1).toNat (by omega)]
    exact h5 g g0 g1
theorem TO.row {c : Nat} {M : sM} {S S' : Nat → Int} (hv : vTold S) (ht : TO c M S) (e : eqTold S S') : TO c M S' := by
  obtain ⟨a5, a6, a7, a8, a9, -⟩ := hv
  obtain ⟨l, h1, h2, h3, h4, h5⟩ := ht
  have e5 := e.1 5 (by omega)
  have e6 := e.1 6 (by omega)
  have e7 := e.1 7 (by omega)
  have e8 := e.1 8 (by omega)
  have e9 := e.1 9 (by omega)
  refine ⟨by rw [e5, e6, e7, e8, e9]; exact l, fun p p0 p1 => by rw [e.2 p p0 p1]; exact h1 p p0 p1, fun w w0 w1 => ?_, fun k k0 k1 => ?_, fun f f0 f1 => ?_, fun g g0 g1 => ?_⟩
  · rw [e5] at w1
    rw [e.1 _ (by omega), e.1 ((196 + (5 * w)) + 1).toNat (by omega), e.1 ((196 + (5 * w)) + 2).toNat (by omega), e.1 ((196 + (5 * w)) + 3).toNat (by omega), e.1 ((196 + (5 * w)) + 4).toNat (by omega)]
    exact h2 w w0 w1
  · rw [e6] at k1
    rw [e.1 _ (by omega)]
    exact h3 k k0 k1
  · rw [e7] at f1
    rw [e.1 (234 + (2 * f)).toNat (by omega), e.1 ((234 + (2 * f)) + 1).toNat (by omega)]
    exact h4 f f0 f1
  · rw [e8] at g1
    rw [e.1 (250 + (2 * g)).toNat (by omega), e.1 ((250 + (2 * g)) + 1).toNat (by omega)]
    exact h5 g g0 g1
theorem iRules.keep {own : Nat → Nat} {M M' : sM} {G : sG} (h : iRules own M G) (e11 : M' 1 11 = M 1 11) (e82 : M' 82 2 = M 82 2) (e12 : M' 12 = M 12) (e84 : M' 84 = M 84) (e86 : M' 86 = M 86) (e87 : M' 87 = M 87) (e : ∀ a, 109 ≤ a → own a = 1 → M' a = M a) : iRules own M' G := by
  obtain ⟨a0, a1, a2, hr⟩ := h
  refine ⟨by rw [e11]; exact a0, by rw [e11]; exact a1, by rw [e82, e11]; exact a2, fun r r0 r1 => ?_⟩
  rw [e11] at r1
  rw [e12]
  obtain ⟨g1, g2, n, kd, D, hc, hf⟩ := hr r r0 r1
  exact ⟨g1, g2, n, kd, D, hc.congr (fun k hk => e _ (by omega) (g2 k (by omega))), hf.congr e84 e86 e87⟩
theorem iImgs.keep {own : Nat → Nat} {t t' : Int} {M M' : sM} {G : sG} (htt : t ≤ t') (h : iImgs own t M G) (e41 : M' 41 = M 41) (e106 : M' 106 = M 106) (e107 : M' 107 = M 107) (e : ∀ a, 109 ≤ a → 10 ≤ own a → M' a = M a) : iImgs own t' M' G := by
  intro k k0 k1
  have es : imgS M' k = imgS M k := by funext i; unfold imgS; rw [e106]
  rw [e107, e41, es]
  rcases h k k0 k1 with z | ⟨z1, z2, z3, z4, z5, z6, z7, z8⟩
  · exact Or.inl z
  · refine Or.inr ⟨z1, z2, z3, z4.mono (by omega), z5, z6, z7.congr (fun a h1 h2 => e a (by omega) ?_), z8.congr (fun a h1 h2 => e a (by omega) ?_)⟩
    · have := z3 (a - (M 41 k.toNat).toNat) (by omega)
      rw [show (M 41 k.toNat).toNat + (a - (M 41 k.toNat).toNat) = a by omega] at this
      omega
    · have := z3 (a - (M 41 k.toNat).toNat) (by omega)
      rw [show (M 41 k.toNat).toNat + (a - (M 41 k.toNat).toNat) = a by omega] at this
      omega
theorem iTape.keep {M M' : sM} (h : iTape M) (e3 : M' 3 1 = M 3 1) (e82 : M' 82 1 = M 82 1) (e4 : M' 4 = M 4) (e83 : M' 83 = M 83) : iTape M' := by
  unfold iTape at h ⊢
  rw [e3, e82, e4, e83]
  exact h
/-- a call that lets all be -/
theorem Inv.same {t : Int} {M M' : sM} {G : sG} (h : Inv t M G) (k : kp [] M M') : Inv (t + 1) M' G := by
  obtain ⟨t0, own, N, hN, hN2, h1, h2, h3, h4, h5⟩ := h
  have ka := fun a ha => k.1 a List.not_mem_nil ha
  have e93 : M' 93 = M 93 := ka 93 (by omega)
  refine ⟨by omega, own, N, hN, hN2, h1.keep (k.2.2.1 List.not_mem_nil) (k.2.2.2 List.not_mem_nil).1 (ka 4 (by omega)) (ka 83 (by omega)), h2.keep (k.2.1 List.not_mem_nil) (k.2.2.2 List.not_mem_nil).2 (ka 12 (by omega)) (ka 84 (by omega)) (ka 86 (by omega)) (ka 87 (by omega)) (fun a ha _ => ka a (by omega)), h3.keep (by omega) (ka 41 (by omega)) (ka 106 (by omega)) (ka 107 (by omega)) (fun a ha _ => ka a (by omega)), ?_, ?_⟩
  · obtain ⟨v, l, tr⟩ := h4
    refine ⟨by rw [e93]; exact v.mono (by omega), by rw [e93]; exact l, by rw [e93]; exact tr.congr (fun a _ _ => ka a (by omega))⟩
  · obtain ⟨v, tr⟩ := h5
    exact ⟨by rw [e93]; exact v, by rw [e93]; exact tr.congr (fun a _ _ => ka a (by omega))⟩
/-- a call that changes the town alone -/
theorem Inv.town {t : Int} {M M' : sM} {G : sG} (h : Inv t M G) (k : ∀ a, ¬ (14 ≤ a ∧ a ≤ 28) → a ≠ 93 → (a = 4 ∨ a = 12 ∨ (14 ≤ a ∧ a ≤ 41) ∨ a = 83 ∨ a = 84 ∨ a = 86 ∨ a = 87 ∨ a = 106 ∨ a = 107 ∨ 108 ≤ a) → M' a = M a) (k11 : M' 1 11 = M 1 11) (k31 : M' 3 1 = M 3 1) (k82 : M' 82 1 = M 82 1 ∧ M' 82 2 = M 82 2) (hv : vTown (1200 * (t + 1)) (M' 93)) (hl : lowLate (M' 93)) (ht : TR 14 M' (M' 93)) (he : eqTold (M 93) (M' 93)) : Inv (t + 1) M' G := by
  obtain ⟨t0, own, N, hN, hN2, h1, h2, h3, h4, h5⟩ := h
  refine ⟨by omega, own, N, hN, hN2, h1.keep k31 k82.1 (k 4 (by omega) (by omega) (by omega)) (k 83 (by omega) (by omega) (by omega)), h2.keep k11 k82.2 (k 12 (by omega) (by omega) (by omega)) (k 84 (by omega) (by omega) (by omega)) (k 86 (by omega) (by omega) (by omega)) (k 87 (by omega) (by omega) (by omega)) (fun a ha _ => k a (by omega) (by omega) (by omega)), h3.keep (by omega) (k 41 (by omega) (by omega) (by omega)) (k 106 (by omega) (by omega) (by omega)) (k 107 (by omega) (by omega) (by omega)) (fun a ha _ => k a (by omega) (by omega) (by omega)), ⟨hv, hl, ht⟩, ?_⟩
  obtain ⟨v, tr⟩ := h5
  exact ⟨v.row he, (tr.congr (M' := M') (fun a _ _ => k a (by omega) (by omega) (by omega))).row v he⟩
/-- a call that changes what is told beside the street -/
theorem Inv.told {t : Int} {M M' : sM} {G : sG} (h : Inv t M G) (k : ∀ a, ¬ (29 ≤ a ∧ a ≤ 40) → a ≠ 93 → (a = 4 ∨ a = 12 ∨ (14 ≤ a ∧ a ≤ 41) ∨ a = 83 ∨ a = 84 ∨ a = 86 ∨ a = 87 ∨ a = 106 ∨ a = 107 ∨ 108 ≤ a) → M' a = M a) (k11 : M' 1 11 = M 1 11) (k31 : M' 3 1 = M 3 1) (k82 : M' 82 1 = M 82 1 ∧ M' 82 2 = M 82 2) (he : eqTown (M 93) (M' 93)) (h4' : ∀ p : Int, 0 ≤ p → p < 12 → 0 ≤ pO (M' 93) p 4 ∧ pO (M' 93) p 4 ≤ 99) (hv : vTold (M' 93)) (ht : TO 29 M' (M' 93)) : Inv (t + 1) M' G := by
  obtain ⟨t0, own, N, hN, hN2, h1, h2, h3, h4, h5⟩ := h
  refine ⟨by omega, own, N, hN, hN2, h1.keep k31 k82.1 (k 4 (by omega) (by omega) (by omega)) (k 83 (by omega) (by omega) (by omega)), h2.keep k11 k82.2 (k 12 (by omega) (by omega) (by omega)) (k 84 (by omega) (by omega) (by omega)) (k 86 (by omega) (by omega) (by omega)) (k 87 (by omega) (by omega) (by omega)) (fun a ha _ => k a (by omega) (by omega) (by omega)), h3.keep (by omega) (k 41 (by omega) (by omega) (by omega)) (k 106 (by omega) (by omega) (by omega)) (k 107 (by omega) (by omega) (by omega)) (fun a ha _ => k a (by omega) (by omega) (by omega)), ?_, ⟨hv, ht⟩⟩
  obtain ⟨v, l, tr⟩ := h4
  refine ⟨(v.row he h4').mono (by omega), ?_, (tr.congr (M' := M') (fun a _ _ => k a (by omega) (by omega) (by omega))).row v he⟩
  unfold lowLate at l ⊢
  rw [he.1 3 (by omega), he.1 2 (by omega)]
  exact l
/-- the law's step: both answer alike -/
def LPost (t : Int) (r : Int) : Int → sM → sG → Prop := fun r' M G => r' = r ∧ Inv (t + 1) M G
def Step (t : Int) (k k' : Nat) (A : List sV) : Prop := ∀ (d : Nat) (M : sM) (G : sG), 100 ≤ d → Inv t M G → sC d k (vO 11 1 :: A) M G (QI (fun r M1 G1 => sC d k' (vO 12 82 :: A) M1 G1 (QI (LPost t r))))
