/-! THE RULE PARSER, class: what a step does to what waits. -/
section
variable {M N : sM} {s : stS} {D : den} {cl : List (Int × den)} {m m' p p' len : Nat} {x : Nat × den} {o : Nat} {k : Int}
theorem cCr1.congr (h : cCr1 M s cl m p) (e5 : N 5 = M 5) (e6 : N 6 = M 6) (e9 : N 9 = M 9) (e10 : N 10 = M 10) (e11 : N 11 = M 11) (e78 : ∀ i, i < cl.length → N 7 i = M 7 i ∧ N 8 i = M 8 i) (e2 : N 2 8 = M 2 8 ∧ N 2 10 = M 2 10 ∧ N 2 12 = M 2 12) (hp : p ≤ p') : cCr1 N s cl m p' := by
  obtain ⟨len, a0, H, h1, h2, h3, h4, h5, h6, h7, h8⟩ := h
  have e56 : ∀ (t i : Nat), i < t → N 5 i = M 5 i ∧ N 6 i = M 6 i := fun t i _ => by rw [e5, e6]; exact ⟨rfl, rfl⟩
  exact ⟨len, a0, H, e2.1.trans h1, e2.2.1.trans h2, e2.2.2.trans h3, by omega, h5.congr e78 (e56 _), h6.congr (fun i _ => by rw [e9, e10, e11]; exact ⟨rfl, rfl, rfl⟩) (e56 _), h7, fun i hi => by rw [e5, e6]; exact h8 i hi⟩
theorem cCr2.congr (h : cCr2 M s D cl m p) (e5 : N 5 = M 5) (e6 : N 6 = M 6) (e9 : N 9 = M 9) (e10 : N 10 = M 10) (e11 : N 11 = M 11) (e78 : ∀ i, i < cl.length → N 7 i = M 7 i ∧ N 8 i = M 8 i) (e2 : N 2 8 = M 2 8 ∧ N 2 10 = M 2 10 ∧ N 2 12 = M 2 12) (hp : p ≤ p') (hm : m ≤ m') : cCr2 N s D cl m' p' := by
  obtain ⟨len, a, a0, f, H, h1, h2, h3, h4, h5, h6, h7, h8, h9⟩ := h
  have e56 : ∀ (t i : Nat), i < t → N 5 i = M 5 i ∧ N 6 i = M 6 i := fun t i _ => by rw [e5, e6]; exact ⟨rfl, rfl⟩
  exact ⟨len, a, a0, f, H, e2.1.trans h1, e2.2.1.trans h2, e2.2.2.trans h3, by omega, h5.congr e78 (e56 _), h6.congr (fun i _ => by rw [e9, e10, e11]; exact ⟨rfl, rfl, rfl⟩) (e56 _), by rw [e5, e6]; exact h7, by omega, fun i hi => by rw [e5, e6]; exact h9 i hi⟩
theorem cPush (h : cCr2 M s D cl m p) (ho : 2 ≤ o ∧ o ≤ 10) (e5 : N 5 = M 5) (e6 : N 6 = M 6) (e78 : ∀ i, i < cl.length → N 7 i = M 7 i ∧ N 8 i = M 8 i) (e9 : ∀ i, N 9 i = if i = s.length then (o : Int) else M 9 i) (e10 : ∀ i, N 10 i = if i = s.length then -1 else M 10 i) (e11 : ∀ i, N 11 i = if i = s.length then (bnd o : Int) else M 11 i) (n8 : N 2 8 = M 2 8) (n10 : N 2 10 = ((s.length + 1 : Nat) : Int)) (n12 : N 2 12 = M 2 12) (hp : p + 1 ≤ p') (hm : m ≤ m') : cCr1 N ((o, D) :: s) cl m' p' := by
  obtain ⟨len, a, a0, f, H, h1, h2, h3, h4, h5, h6, h7, h8, h9⟩ := h
  have hl : ((o, D) :: s).length = s.length + 1 := rfl
  have hd : dpt ((o, D) :: s) = (if o = 11 ∨ o = 14 then 1 else 0) + dpt s := rfl
  have e56 : ∀ (t i : Nat), i < t → N 5 i = M 5 i ∧ N 6 i = M 6 i := fun t i _ => by rw [e5, e6]; exact ⟨rfl, rfl⟩
  refine ⟨len, a0, H + f, n8.trans h1, n10, by rw [n12, h3, hd, if_neg (by omega), Nat.zero_add], by rw [hl]; omega, h5.congr e78 (e56 _), ⟨by rw [e9, if_pos rfl], by rw [e11, if_pos rfl], Or.inr (Or.inr ⟨ho, by rw [e10, if_pos rfl], a, f, H, h6.congr (fun i hi => by rw [e9, e10, e11, if_neg (by omega), if_neg (by omega), if_neg (by omega)]; exact ⟨rfl, rfl, rfl⟩) (e56 _), Nat.le_refl _, by rw [e5, e6]; exact h7⟩)⟩, by omega, fun i hi => by rw [e5, e6]; exact h9 i hi⟩
theorem cPushJ (h : cCr2 M s D cl m p) (hlen : M 2 8 = (len : Int)) (ho : o = 12 ∨ o = 13) (e5 : ∀ i, N 5 i = if i = len then (o : Int) else M 5 i) (e6 : ∀ i, N 6 i = if i = len then 0 else M 6 i) (e78 : ∀ i, i < cl.length → N 7 i = M 7 i ∧ N 8 i = M 8 i) (e9 : ∀ i, N 9 i = if i = s.length then (o : Int) else M 9 i) (e10 : ∀ i, N 10 i = if i = s.length then (len : Int) else M 10 i) (e11 : ∀ i, N 11 i = if i = s.length then (bnd o : Int) else M 11 i) (n8 : N 2 8 = ((len + 1 : Nat) : Int)) (n10 : N 2 10 = ((s.length + 1 : Nat) : Int)) (n12 : N 2 12 = M 2 12) (hp : p + 2 ≤ p') : cCr1 N ((o, D) :: s) cl m p' := by
  obtain ⟨len', a, a0, f, H, h1, h2, h3, h4, h5, h6, h7, h8, h9⟩ := h
  obtain rfl : len' = len := by omega
  have hl : ((o, D) :: s).length = s.length + 1 := rfl
  have hd : dpt ((o, D) :: s) = (if o = 11 ∨ o = 14 then 1 else 0) + dpt s := rfl
  have ha := h7.1
  have h0a := h6.ge
  have e56 : ∀ i, i < len' → N 5 i = M 5 i ∧ N 6 i = M 6 i := fun i hi => by rw [e5, e6, if_neg (by omega), if_neg (by omega)]; exact ⟨rfl, rfl⟩
  refine ⟨len' + 1, a0, H + f, n8, n10, by rw [n12, h3, hd, if_neg (by omega), Nat.zero_add], by rw [hl]; omega, h5.congr e78 (fun i hi => e56 i (by omega)), ⟨by rw [e9, if_pos rfl], by rw [e11, if_pos rfl], Or.inr (Or.inl ⟨ho, a, len', f, H, h6.congr (fun i hi => by rw [e9, e10, e11, if_neg (by omega), if_neg (by omega), if_neg (by omega)]; exact ⟨rfl, rfl, rfl⟩) (fun i hi => e56 i (by omega)), Nat.le_refl _, rfl, by rw [e10, if_pos rfl], by rw [e5, if_pos rfl], h7.congr (fun i _ hi => e56 i hi)⟩)⟩, by omega, fun i hi => ?_⟩
  by_cases c : i = len'
  · rw [e5, e6, if_pos c, if_pos c]
    exact ⟨by decide, by decide, fun z => by omega⟩
  · rw [e5, e6, if_neg c, if_neg c]
    exact h9 i (by omega)
theorem cPushO (h : cCr1 M s cl m p) (ho : o = 11 ∨ o = 14) (e5 : N 5 = M 5) (e6 : N 6 = M 6) (e78 : ∀ i, i < cl.length → N 7 i = M 7 i ∧ N 8 i = M 8 i) (e9 : ∀ i, N 9 i = if i = s.length then (o : Int) else M 9 i) (e10 : ∀ i, N 10 i = if i = s.length then -1 else M 10 i) (e11 : ∀ i, N 11 i = if i = s.length then (bnd o : Int) else M 11 i) (n8 : N 2 8 = M 2 8) (n10 : N 2 10 = ((s.length + 1 : Nat) : Int)) (n12 : N 2 12 = M 2 12 + 1) (hp : p + 1 ≤ p') : cCr1 N ((o, D) :: s) cl m p' := by
  obtain ⟨len, a0, H, h1, h2, h3, h4, h5, h6, h7, h8⟩ := h
  have hl : ((o, D) :: s).length = s.length + 1 := rfl
  have hd : dpt ((o, D) :: s) = (if o = 11 ∨ o = 14 then 1 else 0) + dpt s := rfl
  have e56 : ∀ (t i : Nat), i < t → N 5 i = M 5 i ∧ N 6 i = M 6 i := fun t i _ => by rw [e5, e6]; exact ⟨rfl, rfl⟩
  refine ⟨len, a0, H, n8.trans h1, n10, by rw [n12, h3, hd, if_pos ho]; omega, by rw [hl]; omega, h5.congr e78 (e56 _), ⟨by rw [e9, if_pos rfl], by rw [e11, if_pos rfl], Or.inl ⟨ho, by rw [e10, if_pos rfl], h6.congr (fun i hi => by rw [e9, e10, e11, if_neg (by omega), if_neg (by omega), if_neg (by omega)]; exact ⟨rfl, rfl, rfl⟩) (e56 _)⟩⟩, h7, fun i hi => by rw [e5, e6]; exact h8 i hi⟩
theorem cValue {v : Int} (h : cCr1 M s cl m p) (hlen : M 2 8 = (len : Int)) (ho : o ≤ 1) (hv : 0 ≤ v ∧ v ≤ 99999 ∧ (o = 1 → v ≤ 9)) (e5 : ∀ i, N 5 i = if i = len then (o : Int) else M 5 i) (e6 : ∀ i, N 6 i = if i = len then v else M 6 i) (e78 : ∀ i, i < cl.length → N 7 i = M 7 i ∧ N 8 i = M 8 i) (e9 : N 9 = M 9) (e10 : N 10 = M 10) (e11 : N 11 = M 11) (n8 : N 2 8 = ((len + 1 : Nat) : Int)) (n10 : N 2 10 = M 2 10) (n12 : N 2 12 = M 2 12) (hp : p + 1 ≤ p') (hm : m + 1 ≤ m') : cCr2 N s (valD o v) cl m' p' := by
  obtain ⟨len', a0, H, h1, h2, h3, h4, h5, h6, h7, h8⟩ := h
  obtain rfl : len' = len := by omega
  have h0a := h6.ge
  have e56 : ∀ i, i < len' → N 5 i = M 5 i ∧ N 6 i = M 6 i := fun i hi => by rw [e5, e6, if_neg (by omega), if_neg (by omega)]; exact ⟨rfl, rfl⟩
  have l5 : N 5 len' = (o : Int) := by rw [e5, if_pos rfl]
  have l6 : N 6 len' = v := by rw [e6, if_pos rfl]
  refine ⟨len' + 1, len', a0, 1, H, n8, n10.trans h2, n12.trans h3, by omega, h5.congr e78 (fun i hi => e56 i (by omega)), h6.congr (fun i _ => by rw [e9, e10, e11]; exact ⟨rfl, rfl, rfl⟩) (fun i hi => e56 i hi), ?_, by omega, fun i hi => ?_⟩
  · by_cases c : o = 0
    · have hs := cSeg.num (s := N 5) (g := N 6) (a := len') (by rw [l5, c]; rfl)
      rw [l6] at hs
      have : valD o v = fun _ => v := by funext w; unfold valD; rw [if_pos c]
      rw [this]
      exact hs
    · have hs := cSeg.word (s := N 5) (g := N 6) (a := len') (by rw [l5, show o = 1 by omega]; rfl)
      rw [l6] at hs
      have : valD o v = fun w => w v.toNat := by funext w; unfold valD; rw [if_neg c]
      rw [this]
      exact hs
  · by_cases c : i = len'
    · rw [c, l5, l6]
      exact ⟨hv.1, hv.2.1, fun z => hv.2.2 (by omega)⟩
    · rw [e5, e6, if_neg c, if_neg c]
      exact h8 i (by omega)
theorem cClose (h : cCr2 M (x :: s) D cl m p) (hx : x.1 = 14) (e5 : N 5 = M 5) (e6 : N 6 = M 6) (e9 : N 9 = M 9) (e10 : N 10 = M 10) (e11 : N 11 = M 11) (e78 : ∀ i, i < cl.length → N 7 i = M 7 i ∧ N 8 i = M 8 i) (n8 : N 2 8 = M 2 8) (n10 : N 2 10 = M 2 10 - 1) (n12 : N 2 12 = M 2 12 - 1) (hp : p ≤ p') : cCr2 N s D cl m p' := by
  obtain ⟨len, a, a0, f, H, h1, h2, h3, h4, h5, h6, h7, h8, h9⟩ := h
  have hl : (x :: s).length = s.length + 1 := rfl
  have hd : dpt (x :: s) = (if x.1 = 11 ∨ x.1 = 14 then 1 else 0) + dpt s := rfl
  rw [hl] at h2 h4
  rw [hd, if_pos (Or.inr hx)] at h3
  have e56 : ∀ (t i : Nat), i < t → N 5 i = M 5 i ∧ N 6 i = M 6 i := fun t i _ => by rw [e5, e6]; exact ⟨rfl, rfl⟩
  have hk : cStk M s a a0 H := by
    rcases h6.2.2 with ⟨-, -, z⟩ | ⟨y, -⟩ | ⟨y, -⟩
    · exact z
    · omega
    · omega
  exact ⟨len, a, a0, f, H, n8.trans h1, by rw [n10]; omega, by rw [n12]; omega, by omega, h5.congr e78 (e56 _), hk.congr (fun i _ => by rw [e9, e10, e11]; exact ⟨rfl, rfl, rfl⟩) (e56 _), by rw [e5, e6]; exact h7, h8, fun i hi => by rw [e5, e6]; exact h9 i hi⟩
theorem cEnd (h : cCr2 M [] D cl m p) (hlen : M 2 8 = (len : Int)) (hm : m ≤ 64) (e5 : N 5 = M 5) (e6 : N 6 = M 6) (e7 : ∀ i, N 7 i = M 7 i) (e8 : ∀ i, N 8 i = if i = cl.length then (len : Int) else M 8 i) (hk : M 7 cl.length = k) (n8 : N 2 8 = M 2 8) (n10 : N 2 10 = M 2 10) (n12 : N 2 12 = M 2 12) (hp : p ≤ p') : cCr1 N [] ((k, D) :: cl) m p' := by
  obtain ⟨len', a, a0, f, H, h1, h2, h3, h4, h5, h6, h7, h8, h9⟩ := h
  obtain rfl : len' = len := by omega
  have ha : a = a0 := h6
  have e56 : ∀ (t i : Nat), i < t → N 5 i = M 5 i ∧ N 6 i = M 6 i := fun t i _ => by rw [e5, e6]; exact ⟨rfl, rfl⟩
  refine ⟨len', len', 0, n8.trans h1, n10.trans h2, n12.trans h3, by omega, ⟨(e7 _).trans hk, by rw [e8, if_pos rfl], a0, f, by omega, h5.congr (fun i hi => by rw [e7, e8, if_neg (by omega)]; exact ⟨rfl, rfl⟩) (e56 _), by rw [e5, e6, ← ha]; exact h7⟩, rfl, Nat.zero_le _, fun i hi => by rw [e5, e6]; exact h9 i hi⟩
end
