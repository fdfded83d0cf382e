/-! HOW THE SMALL MACHINE'S STATE LIES IN THE MACHINE'S. ρ: an address, as the machine has it; sa: the texts' addresses. -/
def sEnc (sa ρ : Nat → Nat) (v : sV) : Value := if v.1 = 0 then .int (Int32.ofInt v.2.2) else if v.1 = 1 then .long (Int64.ofInt v.2.2) else if v.1 = 3 then .ref (sa v.2.1) else if v.1 = 2 ∨ (40 ≤ v.1 ∧ v.1 < 60 ∧ v.2.1 = 0) then .null else .ref (ρ v.2.1)
def sOK (G : sG) (v : sV) : Prop :=
  if v.1 = 0 then sI v.2.2 else if v.1 = 1 then sJ v.2.2 else if v.1 = 2 then True else if v.1 = 3 then v.2.1 < 21
  else if v.1 < 9 then 0 ≤ v.2.2 ∧ G v.2.1 = (if v.1 = 8 then 7 else v.1 - 2, v.2.2.toNat, 0)
  else if v.1 < 20 then False
  else if v.1 < 33 then v.2.1 ≠ 0 ∧ G v.2.1 = (1, v.1 - 20, sFul (v.1 - 20))
  else if v.1 < 40 then False
  else if v.1 < 53 then v.2.1 = 0 ∨ G v.2.1 = (1, v.1 - 40, sFul (v.1 - 40))
  else if v.1 < 60 then False
  else if v.1 < 73 then v.2.1 ≠ 0 ∧ G v.2.1 = (8, v.1 - 60, 0)
  else if v.1 < 80 then False
  else if v.1 < 93 then v.2.1 ≠ 0 ∧ 0 ≤ v.2.2 ∧ G v.2.1 = (1, v.1 - 80, v.2.2.toNat)
  else if v.1 < 100 then False
  else v.1 < 113 ∧ 0 ≤ v.2.2 ∧ G v.2.1 = (6, v.2.2.toNat, v.1 - 100)
theorem sEnc_I (sa ρ : Nat → Nat) (x : Int) : sEnc sa ρ (vI x) = .int (Int32.ofInt x) := rfl
theorem sEnc_L (sa ρ : Nat → Nat) (x : Int) : sEnc sa ρ (vL x) = .long (Int64.ofInt x) := rfl
theorem sEnc_S (sa ρ : Nat → Nat) (j : Nat) : sEnc sa ρ (vS j) = .ref (sa j) := rfl
theorem sEnc_A (sa ρ : Nat → Nat) {t : Nat} (ht : t < 5) (a : Nat) (n : Int) : sEnc sa ρ (vA t a n) = .ref (ρ a) := by
  unfold sEnc; simp only [vA]; rw [if_neg (by omega), if_neg (by omega), if_neg (by omega), if_neg (by omega)]
theorem sEnc_O (sa ρ : Nat → Nat) {c : Nat} (hc : c < 13) (a : Nat) : sEnc sa ρ (vO c a) = .ref (ρ a) := by
  unfold sEnc; simp only [vO]; rw [if_neg (by omega), if_neg (by omega), if_neg (by omega), if_neg (by omega)]
theorem sEnc_F (sa ρ : Nat → Nat) (c a : Nat) : sEnc sa ρ (vF c a) = .ref (ρ a) := by
  unfold sEnc; simp only [vF]; rw [if_neg (by omega), if_neg (by omega), if_neg (by omega), if_neg (by omega)]
theorem sEnc_T (sa ρ : Nat → Nat) (c a : Nat) (y : Int) : sEnc sa ρ (vT c a y) = .ref (ρ a) := by
  unfold sEnc; simp only [vT]; rw [if_neg (by omega), if_neg (by omega), if_neg (by omega), if_neg (by omega)]
theorem sEnc_B (sa ρ : Nat → Nat) (c a : Nat) (y : Int) : sEnc sa ρ (vB c a y) = .ref (ρ a) := by
  unfold sEnc; simp only [vB]; rw [if_neg (by omega), if_neg (by omega), if_neg (by omega), if_neg (by omega)]
theorem sEnc_Q (sa ρ : Nat → Nat) (c : Nat) {a : Nat} (ha : a ≠ 0) : sEnc sa ρ (vQ c a) = .ref (ρ a) := by
  unfold sEnc; simp only [vQ]; rw [if_neg (by omega), if_neg (by omega), if_neg (by omega), if_neg (by omega)]
theorem sEnc_Q0 (sa ρ : Nat → Nat) {c : Nat} (hc : c < 20) : sEnc sa ρ (vQ c 0) = .null := by
  unfold sEnc; simp only [vQ]; rw [if_neg (by omega), if_neg (by omega), if_neg (by omega), if_pos (Or.inr ⟨by omega, by omega, trivial⟩)]
theorem sEnc_cat (sa ρ : Nat → Nat) (v : sV) : (sEnc sa ρ v).category = sCat v := by
  unfold sEnc sCat
  split
  · next h => rw [if_neg (by omega)]; rfl
  · split
    · next h => rfl
    · split
      · rfl
      · split <;> rfl
theorem sCats_eq (sa ρ : Nat → Nat) : ∀ S : List sV, ((S.map (sEnc sa ρ)).map fun v => v.category).sum = sCats S
  | [] => rfl
  | v :: S => by
    have := sCats_eq sa ρ S
    simp only [List.map_cons, List.sum_cons, sCats, sEnc_cat] at this ⊢
    omega
theorem sOK_I {G : sG} {x : Int} : sOK G (vI x) ↔ sI x := Iff.rfl
theorem sOK_L {G : sG} {x : Int} : sOK G (vL x) ↔ sJ x := Iff.rfl
theorem sOK_S {G : sG} {j : Nat} : sOK G (vS j) ↔ j < 21 := Iff.rfl
theorem sOK_N {G : sG} : sOK G vN := trivial
theorem sOK_A {G : sG} {t a : Nat} {n : Int} (ht : t < 5) : sOK G (vA t a n) ↔ 0 ≤ n ∧ G a = (if t = 4 then 7 else t + 2, n.toNat, 0) := by
  unfold sOK; simp only [vA]
  rw [if_neg (by omega), if_neg (by omega), if_neg (by omega), if_neg (by omega), if_pos (by omega)]
  by_cases h : t = 4
  · subst h; simp
  · rw [if_neg (by omega), if_neg h, show 4 + t - 2 = t + 2 by omega]
theorem sOK_O {G : sG} {c a : Nat} (hc : c < 13) : sOK G (vO c a) ↔ a ≠ 0 ∧ G a = (1, c, sFul c) := by
  unfold sOK; simp only [vO]
  rw [if_neg (by omega), if_neg (by omega), if_neg (by omega), if_neg (by omega), if_neg (by omega), if_neg (by omega), if_pos (by omega), show 20 + c - 20 = c by omega]
theorem sOK_Q {G : sG} {c a : Nat} (hc : c < 13) : sOK G (vQ c a) ↔ a = 0 ∨ G a = (1, c, sFul c) := by
  unfold sOK; simp only [vQ]
  rw [if_neg (by omega), if_neg (by omega), if_neg (by omega), if_neg (by omega), if_neg (by omega), if_neg (by omega), if_neg (by omega), if_neg (by omega), if_pos (by omega), show 40 + c - 40 = c by omega]
theorem sOK_F {G : sG} {c a : Nat} (hc : c < 13) : sOK G (vF c a) ↔ a ≠ 0 ∧ G a = (8, c, 0) := by
  unfold sOK; simp only [vF]
  rw [if_neg (by omega), if_neg (by omega), if_neg (by omega), if_neg (by omega), if_neg (by omega), if_neg (by omega), if_neg (by omega), if_neg (by omega), if_neg (by omega), if_neg (by omega), if_pos (by omega), show 60 + c - 60 = c by omega]
theorem sOK_T {G : sG} {c a : Nat} {y : Int} (hc : c < 13) : sOK G (vT c a y) ↔ a ≠ 0 ∧ 0 ≤ y ∧ G a = (1, c, y.toNat) := by
  unfold sOK; simp only [vT]
  rw [if_neg (by omega), if_neg (by omega), if_neg (by omega), if_neg (by omega), if_neg (by omega), if_neg (by omega), if_neg (by omega), if_neg (by omega), if_neg (by omega), if_neg (by omega), if_neg (by omega), if_neg (by omega), if_pos (by omega), show 80 + c - 80 = c by omega]
theorem sOK_B {G : sG} {c a : Nat} {y : Int} : sOK G (vB c a y) ↔ c < 13 ∧ 0 ≤ y ∧ G a = (6, y.toNat, c) := by
  unfold sOK; simp only [vB]
  rw [if_neg (by omega), if_neg (by omega), if_neg (by omega), if_neg (by omega), if_neg (by omega), if_neg (by omega), if_neg (by omega), if_neg (by omega), if_neg (by omega), if_neg (by omega), if_neg (by omega), if_neg (by omega), if_neg (by omega), if_neg (by omega), show 100 + c - 100 = c by omega]
  constructor
  · rintro ⟨h1, h2⟩; exact ⟨by omega, h2⟩
  · rintro ⟨h1, h2⟩; exact ⟨by omega, h2⟩
/-- a value's kind holds where nothing that it speaks of has changed -/
theorem sOK_to {G G' : sG} {v : sV} (h : sOK G v) (hg : G v.2.1 ≠ (0, 0, 0) → G' v.2.1 = G v.2.1) : sOK G' v := by
  have key : ∀ q : Nat × Nat × Nat, q.1 ≠ 0 → G v.2.1 = q → G' v.2.1 = q := fun q hq e => by rw [hg (by rw [e]; intro z; rw [z] at hq; exact hq rfl), e]
  unfold sOK at h ⊢
  by_cases c0 : v.1 = 0
  · rw [if_pos c0] at h ⊢; exact h
  rw [if_neg c0] at h ⊢
  by_cases c1 : v.1 = 1
  · rw [if_pos c1] at h ⊢; exact h
  rw [if_neg c1] at h ⊢
  by_cases c2 : v.1 = 2
  · rw [if_pos c2] at h ⊢; exact h
  rw [if_neg c2] at h ⊢
  by_cases c3 : v.1 = 3
  · rw [if_pos c3] at h ⊢; exact h
  rw [if_neg c3] at h ⊢
  by_cases c4 : v.1 < 9
  · rw [if_pos c4] at h ⊢; exact ⟨h.1, key _ (by dsimp only; split <;> omega) h.2⟩
  rw [if_neg c4] at h ⊢
  by_cases c5 : v.1 < 20
  · rw [if_pos c5] at h ⊢; exact h
  rw [if_neg c5] at h ⊢
  by_cases c6 : v.1 < 33
  · rw [if_pos c6] at h ⊢; exact ⟨h.1, key _ (by simp) h.2⟩
  rw [if_neg c6] at h ⊢
  by_cases c7 : v.1 < 40
  · rw [if_pos c7] at h ⊢; exact h
  rw [if_neg c7] at h ⊢
  by_cases c8 : v.1 < 53
  · rw [if_pos c8] at h ⊢; exact h.elim Or.inl (fun h => Or.inr (key _ (by simp) h))
  rw [if_neg c8] at h ⊢
  by_cases c9 : v.1 < 60
  · rw [if_pos c9] at h ⊢; exact h
  rw [if_neg c9] at h ⊢
  by_cases c10 : v.1 < 73
  · rw [if_pos c10] at h ⊢; exact ⟨h.1, key _ (by simp) h.2⟩
  rw [if_neg c10] at h ⊢
  by_cases c11 : v.1 < 80
  · rw [if_pos c11] at h ⊢; exact h
  rw [if_neg c11] at h ⊢
  by_cases c12 : v.1 < 93
  · rw [if_pos c12] at h ⊢; exact ⟨h.1, h.2.1, key _ (by simp) h.2.2⟩
  rw [if_neg c12] at h ⊢
  by_cases c13 : v.1 < 100
  · rw [if_pos c13] at h ⊢; exact h
  rw [if_neg c13] at h ⊢
  exact ⟨h.1, h.2.1, key _ (by simp) h.2.2⟩
/-- words that ride on warmer tables -/
def sRide (w : Cond) : Bool := match w with
  | .stringRef _ _ _ => false
  | .privateMethod _ => false
  | .soleField _ _ => false
  | .superclass _ _ => false
  | .laysStatic _ _ _ => false
  | _ => true
def sRide2 (w : Cond) : Bool := match w with
  | .fieldLinkNest _ _ _ _ _ _ => true
  | .methodLinkNest _ _ _ _ => true
  | .castable _ _ => true
  | .arrayOver (.object _) => true
  | _ => false
set_option maxRecDepth 100000 in
theorem sRide_all : ∀ w ∈ lw_tbl, (goodWord w || sRide2 w || !sRide w) = true := by decide +kernel
def sKn (D : va_G) (sa : Nat → Nat) (U : State) : Prop := va_K D sCl [] U ∧ (∀ w ∈ lw_tbl, sRide w = true → w.before #[] U = true) ∧ ∀ o x j O t, sSR o x = some j → sOwn[o]? = some O → sTxt[j]? = some t → vk_R O x t (sa j) U
theorem sKn.warm {D : va_G} {sa : Nat → Nat} {s U : State} (hW : s.WarmedH U.vm) (h : sKn D sa s) : sKn D sa U := by
  refine ⟨va_K.moved hW.alike h.1, fun w hw hr => ?_, fun o x j O t h1 h2 h3 => (h.2.2 o x j O t h1 h2 h3).warm hW⟩
  have h1 := sRide_all w hw
  have h2 := h.2.1 w hw hr
  rw [Bool.or_eq_true, Bool.or_eq_true] at h1
  rcases h1 with (h1 | h1) | h1
  · exact word_at hW (good_of_word h1) h2
  · unfold sRide2 at h1
    split at h1
    · exact va_Nw.warmF hW h2
    · exact va_Nw.warmM hW h2
    · exact va_Nw.warmC hW h2
    · exact va_AO.moved hW.alike h2
    · cases h1
  · rw [hr] at h1; cases h1
theorem sKn.word {D : va_G} {sa : Nat → Nat} {U : State} (h : sKn D sa U) {w : Cond} (hw : w ∈ lw_tbl) (hr : sRide w = true) (ho : w.onTables = true) (A : Array Value) : w.before A U = true := va_Nw.use ho (h.2.1 w hw hr)
