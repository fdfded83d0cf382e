/-! WHAT HOLDS OF THE ROW, KEPT BY A GOING, A COMING, A WINDOW, A BEGINNING. -/
theorem nS_ch {f g : Nat → Int} {k : Nat} : ∀ {n : Nat}, k < n → (∀ i, i < n → i ≠ k → g i = f i) → nS g n = nS f n - f k + g k
  | 0, hk, _ => absurd hk (by omega)
  | n + 1, hk, h => by
    show nS g n + g n = nS f n + f n - f k + g k
    by_cases e : k = n
    · subst e
      rw [nS_congr (n := k) (f := g) (g := f) (fun i hi => h i (by omega) (by omega))]
      omega
    · rw [nS_ch (n := n) (by omega) (fun i hi ne => h i (by omega) ne), h n (by omega) (fun z => e z.symm)]
      omega
theorem lv_sum {S S' : Nat → Int} {p h : Int} (hl : lvR S S' p) (p0 : 0 ≤ p) (p1 : p < 12) (hh : 0 ≤ h) (g : Int → Int) : nS (fun q => if pO S' (q : Int) 0 = h then g q else 0) 12 = nS (fun q => if pO S (q : Int) 0 = h then g q else 0) 12 - (if pO S p 0 = h then g p else 0) := by
  have := nS_ch (f := fun q => if pO S (q : Int) 0 = h then g q else 0) (g := fun q => if pO S' (q : Int) 0 = h then g q else 0) (k := p.toNat) (n := 12) (by omega) (fun i hi ne => by
    have := (hl.2.2 i (by omega) (by omega)).1
    rw [if_neg (by omega)] at this
    rw [this])
  rw [this]
  have e := (hl.2.2 p p0 p1).1
  rw [if_pos rfl] at e
  rw [← z_nat p0, e, if_neg (c := (-1 : Int) = h) (by omega)]
  omega
theorem lv_inN {S S' : Nat → Int} {p h : Int} (hl : lvR S S' p) (p0 : 0 ≤ p) (p1 : p < 12) (hh : 0 ≤ h) : inN S' h = inN S h - (if pO S p 0 = h then 1 else 0) := lv_sum hl p0 p1 hh (fun _ => 1)
theorem en_sum {S S' : Nat → Int} {p h s k : Int} (hl : enR S S' p h s) (p0 : 0 ≤ p) (p1 : p < 12) (hp : pO S p 0 = -1) (hk : 0 ≤ k) (g : Int → Int) : nS (fun q => if pO S' (q : Int) 0 = k then g q else 0) 12 = nS (fun q => if pO S (q : Int) 0 = k then g q else 0) 12 + (if h = k then g p else 0) := by
  have := nS_ch (f := fun q => if pO S (q : Int) 0 = k then g q else 0) (g := fun q => if pO S' (q : Int) 0 = k then g q else 0) (k := p.toNat) (n := 12) (by omega) (fun i hi ne => by
    have := (hl.2.2 i (by omega) (by omega)).1
    rw [if_neg (by omega)] at this
    rw [this])
  rw [this]
  have e := (hl.2.2 p p0 p1).1
  rw [if_pos rfl] at e
  rw [← z_nat p0, e, hp, if_neg (c := (-1 : Int) = k) (by omega)]
  omega
theorem en_inN {S S' : Nat → Int} {p h s k : Int} (hl : enR S S' p h s) (p0 : 0 ≤ p) (p1 : p < 12) (hp : pO S p 0 = -1) (hk : 0 ≤ k) : inN S' k = inN S k + (if h = k then 1 else 0) := en_sum hl p0 p1 hp hk (fun _ => 1)
theorem vTown.mono {B B' : Int} {S : Nat → Int} (hB : B ≤ B') (h : vTown B S) : vTown B' S := by
  obtain ⟨⟨a, b, c, d, e⟩, r⟩ := h
  exact ⟨⟨a, b, c, d, by omega⟩, r⟩
theorem likeS.v {S S' : Nat → Int} (e : likeS S S') (hs : 0 ≤ S 0 ∧ S 0 ≤ 6) (ht : 0 ≤ S 1 ∧ S 1 ≤ 18) (h2 : vHo S) (h3 : vSt S) : vHo S' ∧ vSt S' := by
  have e0 : S' 0 = S 0 := e.1 0 (by decide) (by decide)
  have e1 : S' 1 = S 1 := e.1 1 (by decide) (by decide)
  refine ⟨fun h h0 h1 => ?_, fun s s0 s1 => ?_⟩
  · rw [e0] at h1
    rw [e.h h0 (by omega) (by decide) (by decide), e.h h0 (by omega) (by decide) (by decide), e.h h0 (by omega) (by decide) (by decide)]
    exact h2 h h0 h1
  · rw [e1] at s1
    rw [e.t s0 (by omega) (by decide) (by decide), e.t s0 (by omega) (by decide) (by decide), e.t s0 (by omega) (by decide) (by decide), e.t s0 (by omega) (by decide) (by decide), e.t s0 (by omega) (by decide) (by decide), e.t s0 (by omega) (by decide) (by decide), e0]
    exact h3 s s0 s1
theorem lv_v {B : Int} {S S' : Nat → Int} {p : Int} (hv : vTown B S) (hl : lvR S S' p) (p0 : 0 ≤ p) (p1 : p < 12) : vTown B S' := by
  obtain ⟨⟨a0, a1, a2, a3, a4⟩, h2, h3, h4, h5⟩ := hv
  have e := fun j (h : j < 136) (h' : j ≠ 4) => hl.1.1 j h h'
  have e0 := e 0 (by decide) (by decide)
  have e1 := e 1 (by decide) (by decide)
  have e2 := e 2 (by decide) (by decide)
  have e3 := e 3 (by decide) (by decide)
  have e4 := hl.2.1
  obtain ⟨g1, g2⟩ := hl.1.v a0 a1 h2 h3
  refine ⟨⟨by omega, by omega, by omega, by omega, by omega⟩, g1, g2, fun q q0 q1 => ?_, fun h h0 h1 => ?_⟩
  · obtain ⟨b0, b1, b2, b3, b4⟩ := hl.2.2 q q0 q1
    obtain ⟨c0, c1, c2, c3, c4, c5⟩ := h4 q q0 q1
    rw [b0, b1, b2, b3, b4, e0, e1, e4]
    by_cases z : q = p
    · rw [if_pos z, if_pos z, if_pos z]
      exact ⟨⟨by omega, by omega⟩, ⟨by omega, by omega⟩, fun _ => rfl, ⟨by omega, by omega⟩, c4, c5⟩
    · rw [if_neg z, if_neg z, if_neg z]
      exact ⟨c0, c1, c2, c3, c4, c5⟩
  · rw [e0] at h1
    rw [lv_inN hl p0 p1 h0, hl.1.h h0 (by omega) (by decide) (by decide)]
    have := h5 h h0 h1
    split <;> omega
theorem en_v {B : Int} {S S' : Nat → Int} {p h s : Int} (hv : vTown B S) (hl : enR S S' p h s) (p0 : 0 ≤ p) (p1 : p < 12) (h0 : 0 ≤ h) (h1 : h < S 0) (hs : -1 ≤ s ∧ s < S 1) (hp : pO S p 0 = -1) (hr : inN S h < hO S h 1) : vTown (B + 1) S' := by
  obtain ⟨⟨a0, a1, a2, a3, a4⟩, h2, h3, h4, h5⟩ := hv
  have e := fun j (h : j < 136) (h' : j ≠ 4) => hl.1.1 j h h'
  have e0 := e 0 (by decide) (by decide)
  have e1 := e 1 (by decide) (by decide)
  have e2 := e 2 (by decide) (by decide)
  have e3 := e 3 (by decide) (by decide)
  have e4 := hl.2.1
  obtain ⟨g1, g2⟩ := hl.1.v a0 a1 h2 h3
  refine ⟨⟨by omega, by omega, by omega, by omega, by omega⟩, g1, g2, fun q q0 q1 => ?_, fun k k0 k1 => ?_⟩
  · obtain ⟨b0, b1, b2, b3, b4⟩ := hl.2.2 q q0 q1
    obtain ⟨c0, c1, c2, c3, c4, c5⟩ := h4 q q0 q1
    rw [b0, b1, b2, b3, b4, e0, e1, e4]
    by_cases z : q = p
    · rw [if_pos z, if_pos z, if_pos z, if_pos z]
      subst z
      refine ⟨⟨by omega, by omega⟩, hs, fun y => by omega, ⟨by omega, by omega⟩, ?_, c5⟩
      split
      · exact ⟨by omega, by omega, by omega⟩
      · exact c4
    · rw [if_neg z, if_neg z, if_neg z, if_neg z]
      refine ⟨c0, c1, c2, ⟨by omega, by omega⟩, ?_, c5⟩
      split
      · exact ⟨by omega, by omega, by omega⟩
      · exact c4
  · rw [e0] at k1
    rw [en_inN hl p0 p1 hp k0, hl.1.h k0 (by omega) (by decide) (by decide)]
    have := h5 k k0 k1
    by_cases c : h = k
    · rw [if_pos c]; subst c; omega
    · rw [if_neg c]; omega
def winS (S : Nat → Int) (h : Int) : Nat → Int := uS S ((10 + (3 * h)) + 2).toNat (hO S h 2 - 1)
def begS (S : Nat → Int) (s : Int) : Nat → Int := if 0 ≤ s then uS S ((28 + (6 * s)) + 5).toNat 1 else S
theorem pO_low {S S' : Nat → Int} {k : Nat} {x : Int} (e : S' = uS S k x) (hk : k < 136) {p w : Int} (p0 : 0 ≤ p) (w0 : 0 ≤ w) : pO S' p w = pO S p w := by
  rw [e]; unfold pO; exact uS_ne (by omega)
theorem inN_low {S S' : Nat → Int} {k : Nat} {x : Int} (e : S' = uS S k x) (hk : k < 136) (h : Int) : inN S' h = inN S h := by
  refine nS_congr (fun i _ => ?_)
  show (if pO S' (i : Int) 0 = h then (1 : Int) else 0) = _
  rw [pO_low e hk (by omega) (by decide)]
  rfl
theorem win_h {S : Nat → Int} {h k w : Int} (h0 : 0 ≤ h) (k0 : 0 ≤ k) (w0 : 0 ≤ w) (w1 : w < 3) : hO (winS S h) k w = if k = h ∧ w = 2 then hO S h 2 - 1 else hO S k w := by
  unfold winS
  by_cases c : k = h ∧ w = 2
  · rw [if_pos c]; unfold hO; rw [uS_eq (by omega)]
  · rw [if_neg c]; unfold hO; rw [uS_ne (by omega)]
theorem win_o {S : Nat → Int} {h : Int} (h0 : 0 ≤ h) (h1 : h < 6) {j : Nat} (hj : j < 10 ∨ 28 ≤ j) : winS S h j = S j := by unfold winS; exact uS_ne (by omega)
theorem win_v {B : Int} {S : Nat → Int} {h : Int} (hv : vTown B S) (h0 : 0 ≤ h) (h1 : h < S 0) (hw : 0 < hO S h 2) : vTown B (winS S h) := by
  obtain ⟨⟨a0, a1, a2, a3, a4⟩, h2, h3, h4, h5⟩ := hv
  have o := fun (j : Nat) hj => win_o (S := S) h0 (by omega) (j := j) hj
  refine ⟨⟨by rw [o 0 (by omega)]; exact a0, by rw [o 1 (by omega)]; exact a1, by rw [o 2 (by omega)]; exact a2, by rw [o 3 (by omega)]; exact a3, by rw [o 4 (by omega)]; exact a4⟩, fun k k0 k1 => ?_, fun s s0 s1 => ?_, fun p p0 p1 => ?_, fun k k0 k1 => ?_⟩
  · rw [o 0 (by omega)] at k1
    rw [win_h h0 k0 (by decide) (by decide), win_h h0 k0 (by decide) (by decide), win_h h0 k0 (by decide) (by decide), if_neg (fun z => absurd z.2 (by decide)), if_neg (fun z => absurd z.2 (by decide))]
    obtain ⟨b0, b1, b2⟩ := h2 k k0 k1
    refine ⟨b0, b1, ?_⟩
    split
    · next c => rw [c.1] at b2; omega
    · exact b2
  · rw [o 1 (by omega)] at s1
    rw [o 0 (by omega)]
    have e : ∀ w : Int, 0 ≤ w → tO (winS S h) s w = tO S s w := fun w w0 => o _ (by omega)
    rw [e 0 (by decide), e 1 (by decide), e 2 (by decide), e 3 (by decide), e 4 (by decide), e 5 (by decide)]
    exact h3 s s0 s1
  · rw [o 0 (by omega), o 1 (by omega), o 4 (by omega)]
    have e : ∀ w : Int, 0 ≤ w → pO (winS S h) p w = pO S p w := fun w w0 => o _ (by omega)
    rw [e 0 (by decide), e 1 (by decide), e 2 (by decide), e 3 (by decide), e 4 (by decide)]
    exact h4 p p0 p1
  · rw [o 0 (by omega)] at k1
    rw [inN_low (S' := winS S h) rfl (by omega), win_h h0 k0 (by decide) (by decide), if_neg (fun z => absurd z.2 (by decide))]
    exact h5 k k0 k1
theorem beg_o {S : Nat → Int} {s : Int} (s1 : s < 18) {j : Nat} (hj : j < 28 ∨ 136 ≤ j) : begS S s j = S j := by unfold begS; split; exact uS_ne (by omega); rfl
theorem beg_t {S : Nat → Int} {s k w : Int} (k0 : 0 ≤ k) (w0 : 0 ≤ w) (w1 : w < 6) : tO (begS S s) k w = if k = s ∧ w = 5 then 1 else tO S k w := by
  unfold begS
  by_cases c : k = s ∧ w = 5
  · rw [if_pos c, if_pos (by omega)]; unfold tO; rw [uS_eq (by omega)]
  · rw [if_neg c]
    split
    · unfold tO; rw [uS_ne (by omega)]
    · rfl
theorem inN_beg {S : Nat → Int} {s : Int} (s1 : s < 18) (h : Int) : inN (begS S s) h = inN S h := by
  refine nS_congr (fun i _ => ?_)
  show (if begS S s ((136 + (5 * (i : Int))) + 0).toNat = h then (1 : Int) else 0) = _
  rw [beg_o s1 (by omega)]
  rfl
theorem beg_v {B : Int} {S : Nat → Int} {s : Int} (hv : vTown B S) (hs : s < S 1) : vTown B (begS S s) := by
  obtain ⟨⟨a0, a1, a2, a3, a4⟩, h2, h3, h4, h5⟩ := hv
  have o := fun (j : Nat) hj => beg_o (S := S) (s := s) (by omega) (j := j) hj
  refine ⟨⟨by rw [o 0 (by omega)]; exact a0, by rw [o 1 (by omega)]; exact a1, by rw [o 2 (by omega)]; exact a2, by rw [o 3 (by omega)]; exact a3, by rw [o 4 (by omega)]; exact a4⟩, fun k k0 k1 => ?_, fun k k0 k1 => ?_, fun p p0 p1 => ?_, fun k k0 k1 => ?_⟩
  · rw [o 0 (by omega)] at k1
    have e : ∀ w : Int, 0 ≤ w → w < 3 → hO (begS S s) k w = hO S k w := fun w w0 w1 => o _ (by omega)
    rw [e 0 (by decide) (by decide), e 1 (by decide) (by decide), e 2 (by decide) (by decide)]
    exact h2 k k0 k1
  · rw [o 1 (by omega)] at k1
    rw [o 0 (by omega), beg_t k0 (by decide) (by decide), beg_t k0 (by decide) (by decide), beg_t k0 (by decide) (by decide), beg_t k0 (by decide) (by decide), beg_t k0 (by decide) (by decide), beg_t k0 (by decide) (by decide), if_neg (fun z => absurd z.2 (by decide)), if_neg (fun z => absurd z.2 (by decide)), if_neg (fun z => absurd z.2 (by decide)), if_neg (fun z => absurd z.2 (by decide)), if_neg (fun z => absurd z.2 (by decide))]
    obtain ⟨b0, b1, b2, b3, b4, b5, b6⟩ := h3 k k0 k1
    refine ⟨b0, b1, b2, b3, b4, b5, ?_⟩
    split
    · exact Or.inr rfl
    · exact b6
  · rw [o 0 (by omega), o 1 (by omega), o 4 (by omega)]
    have e : ∀ w : Int, 0 ≤ w → pO (begS S s) p w = pO S p w := fun w w0 => o _ (by omega)
    rw [e 0 (by decide), e 1 (by decide), e 2 (by decide), e 3 (by decide), e 4 (by decide)]
    exact h4 p p0 p1
  · rw [o 0 (by omega)] at k1
    rw [inN_beg (by omega), show hO (begS S s) k 1 = hO S k 1 from o _ (by omega)]
    exact h5 k k0 k1
