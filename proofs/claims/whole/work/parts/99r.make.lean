/-! MAKING: rules for new, newarray, anewarray, putfield of a final reference, constructors; what a constructor leaves. -/
section Rules
variable {d k : Nat} {Q : Option sV → sM → sG → Prop} {pc : Nat} {L S : List sV} {M : sM} {G : sG} {n m : Nat}
theorem q_new {x c a n' m' : Nat} (pc' : Nat) (hp : pc + 3 = pc') (hc : sCode k pc = some (.new x, 3)) (hf : sCR (sKo k).1 x = some c) (h0 : 0 < a) (hg : G a = (0, 0, 0)) (hb : n + 1 = n' ∧ m + sNF c = m' ∧ n' ≤ (sKo k).2.2.2.1 ∧ m' ≤ (sKo k).2.2.2.2) (kk : sW (sC d) k Q pc' L (vF c a :: S) (sClr M a) (sGs G a (8, c, 0)) n' m') : sW (sC d) k Q pc L S M G n m := by
  subst hp
  obtain ⟨rfl, rfl, b3, b4⟩ := hb
  exact q_step hc ⟨rfl, c, a, hf, h0, hg, ⟨b3, b4⟩, kk⟩
theorem q_newarr {t : Jvm.ClassFile.ArrayType} {u a n' m' : Nat} {x : Int} (pc' : Nat) (hp : pc + 2 = pc') (hc : sCode k pc = some (.newarray t, 2)) (ht : sAt t = u ∧ u < 4) (hx : 0 ≤ x ∧ x ≤ 4096) (h0 : 0 < a) (hg : G a = (0, 0, 0)) (hb : n + 1 = n' ∧ m + x.toNat = m' ∧ n' ≤ (sKo k).2.2.2.1 ∧ m' ≤ (sKo k).2.2.2.2) (kk : sW (sC d) k Q pc' L (vA u a x :: S) (sClr M a) (sGs G a (2 + u, x.toNat, 0)) n' m') : sW (sC d) k Q pc L (vI x :: S) M G n m := by
  subst hp
  obtain ⟨rfl, rfl, b3, b4⟩ := hb
  obtain ⟨rfl, t2⟩ := ht
  exact q_step hc ⟨rfl, x, a, S, rfl, t2, hx.1, hx.2, h0, hg, ⟨b3, b4⟩, kk⟩
theorem q_anew {y c a n' m' : Nat} {x : Int} (pc' : Nat) (hp : pc + 3 = pc') (hc : sCode k pc = some (.anewarray y, 3)) (hf : sCR (sKo k).1 y = some c) (hcc : c = 6 ∨ c = 8) (hx : 0 ≤ x ∧ x ≤ 4096) (h0 : 0 < a) (hg : G a = (0, 0, 0)) (hb : n + 1 = n' ∧ m + x.toNat = m' ∧ n' ≤ (sKo k).2.2.2.1 ∧ m' ≤ (sKo k).2.2.2.2) (kk : sW (sC d) k Q pc' L (vB c a x :: S) (sClr M a) (sGs G a (6, x.toNat, c)) n' m') : sW (sC d) k Q pc L (vI x :: S) M G n m := by
  subst hp
  obtain ⟨rfl, rfl, b3, b4⟩ := hb
  exact q_step hc ⟨rfl, c, x, a, S, hf, hcc, rfl, hx.1, hx.2, h0, hg, ⟨b3, b4⟩, kk⟩
theorem q_putR {x c f a o : Nat} {u : sV} {L' : List sV} (pc' : Nat) (hp : pc + 3 = pc') (hc : sCode k pc = some (.putfield x, 3)) (hf : sFR (sKo k).1 x = some (c, f)) (hq : (sFI c f).2.2.1 ≠ 0 ∧ c = (sKo k).1 ∧ sIni k = true ∧ (sFI c f).1 = o) (hu : u = sRef G a (sFI c f)) (hl : L'.all (fun w => w.1 < 60) = true) (kk : sW (sC d) k Q pc' (vT c a ((o + 1 : Nat) : Int) :: L') [] M (sGs G a (1, c, o + 1)) n m) : sW (sC d) k Q pc (vT c a ((o : Nat) : Int) :: L') [u, vT c a ((o : Nat) : Int)] M G n m := by
  subst hp
  obtain ⟨q1, q2, q3, rfl⟩ := hq
  exact q_step hc ⟨rfl, c, f, a, _, u, [], hf, rfl, Or.inr ⟨q1, q2, q3, rfl, hu, rfl, L', rfl, hl, kk⟩⟩
theorem q_objI {x c a : Nat} {y : Int} (pc' : Nat) (hp : pc + 3 = pc') (hc : sCode k pc = some (.invokespecial x, 3)) (hm : sMR (sKo k).1 x = some 1000) (hcat : sCats S ≤ 8) (kk : sW (sC d) k Q pc' L S M G n m) : sW (sC d) k Q pc L (vT c a y :: S) M G n m := by
  subst hp
  exact q_step hc ⟨rfl, 1000, hm, Or.inl ⟨c, a, y, S, rfl, rfl, hcat, kk⟩⟩
theorem q_init {x k' c a na rk mc ms n' m' : Nat} (A : List sV) {S0 : List sV} (pc' : Nat) (hp : pc + 3 = pc') (hc : sCode k pc = some (.invokespecial x, 3)) (hm : sMR (sKo k).1 x = some k') (hf : k' < 1000 ∧ sStat k' = false ∧ sIni k' = true ∧ sKo k' = (c, na, rk, mc, ms)) (hS : S0 = A.reverse ++ vF c a :: vF c a :: S) (hl : A.length = na) (hcat : sCats S ≤ 7) (n1 : sNoF L = true) (n2 : sNoF S = true) (n3 : sArg A = true) (hb : n + mc = n' ∧ m + ms = m' ∧ n' ≤ (sKo k).2.2.2.1 ∧ m' ≤ (sKo k).2.2.2.2)
    (kk : sC d k' (vT c a 0 :: A) M (sGs G a (1, c, 0)) (QV (fun M' G' => G' a = (1, c, sFul c) ∧ sW (sC d) k Q pc' L (vO c a :: S) M' G' n' m'))) : sW (sC d) k Q pc L S0 M G n m := by
  subst hp
  obtain ⟨f1, f2, f3, f4⟩ := hf
  obtain ⟨rfl, rfl, b3, b4⟩ := hb
  subst hS
  refine q_step hc ⟨rfl, k', hm, Or.inr ⟨A, c, a, S, f1, f2, f3, by rw [f4], rfl, by rw [f4]; exact hl, hcat, n1, n2, n3, by rw [f4]; exact ⟨b3, b4⟩, ?_⟩⟩
  rw [f4]
  exact sC_mono d _ _ _ _ _ _ (fun r M' G' ⟨hr, h1, h2⟩ => ⟨hr, h1, h2⟩) kk
end Rules
theorem sGs_eq {G : sG} {a : Nat} {q : Nat × Nat × Nat} : sGs G a q a = q := by unfold sGs; rw [if_pos rfl]
theorem sGs_ne {G : sG} {a b : Nat} {q : Nat × Nat × Nat} (h : b ≠ a) : sGs G a q b = G b := by unfold sGs; rw [if_neg h]
theorem sClr_eq {M : sM} {a : Nat} : sClr M a a = fun _ => 0 := by funext i; unfold sClr; rw [if_pos rfl]
theorem sClr_ne {M : sM} {a b : Nat} (h : b ≠ a) : sClr M a b = M b := by funext i; unfold sClr; rw [if_neg h]
/-- so far: what lies outside is as it was; what was made holds Z; the rest is free -/
def mkI (M0 : sM) (G0 : sG) (a sz : Nat) (Z : Nat → Nat → Int) (nx : Nat) (M : sM) (G : sG) : Prop := (∀ x, x < a ∨ a + sz ≤ x → M x = M0 x ∧ G x = G0 x) ∧ (∀ i, nx ≤ i → i < sz → G (a + i) = (0, 0, 0)) ∧ ∀ i, i < nx → M (a + i) = Z i
section
variable {M0 M : sM} {G0 G : sG} {a sz nx : Nat} {Z : Nat → Nat → Int}
theorem mkI.free (h : mkI M0 G0 a sz Z nx M G) (hn : nx < sz) : G (a + nx) = (0, 0, 0) := h.2.1 nx (Nat.le_refl nx) hn
/-- a row, and the final reference to it -/
theorem mkA {F : sM → sG → Prop} {q q' : Nat × Nat × Nat} (h : mkI M0 G0 a sz Z nx M G) (hn : nx < sz) (h1 : 1 ≤ nx) (hz : Z nx = fun _ => 0) (kk : ∀ M' G', mkI M0 G0 a sz Z (nx + 1) M' G' → G' a = q' → F M' G') : F (sClr M (a + nx)) (sGs (sGs G (a + nx) q) a q') := by
  refine kk _ _ ⟨fun x hx => ⟨?_, ?_⟩, fun i hi hs => ?_, fun i hi => ?_⟩ sGs_eq
  · rw [sClr_ne (by omega)]; exact (h.1 x hx).1
  · rw [sGs_ne (by omega), sGs_ne (by omega)]; exact (h.1 x hx).2
  · rw [sGs_ne (by omega), sGs_ne (by omega)]; exact h.2.1 i (by omega) hs
  · by_cases c : i = nx
    · rw [c, sClr_eq, hz]
    · rw [sClr_ne (by omega)]; exact h.2.2 i (by omega)
/-- a number of the object itself, which is 0 anyway -/
theorem mkZ {F : sM → Prop} {f : Nat} (h : mkI M0 G0 a sz Z nx M G) (h1 : 1 ≤ nx) (hz : Z 0 = fun _ => 0) (kk : F M) : F (sUpd M a f 0) := by
  have e : sUpd M a f 0 = M := by
    funext x i
    unfold sUpd
    by_cases c : x = a ∧ i = f
    · rw [if_pos c, c.1, c.2]
      have := h.2.2 0 (by omega)
      rw [Nat.add_zero, hz] at this
      rw [this]
    · rw [if_neg c]
  rw [e]; exact kk
def mkOk (e k c sz : Nat) (Z : Nat → Nat → Int) : Prop := ∀ (d a : Nat) (M : sM) (G : sG) (PV : sM → sG → Prop), e ≤ d → 0 < a → M a = (fun _ => 0) → G a = (1, c, 0) → (∀ i, 1 ≤ i → i < sz → G (a + i) = (0, 0, 0)) → (∀ M' G', (∀ x, x < a ∨ a + sz ≤ x → M' x = M x ∧ G' x = G x) → G' a = (1, c, sFul c) → (∀ i, i < sz → M' (a + i) = Z i) → PV M' G') → sC d k [vT c a 0] M G (QV PV)
/-- an object within, made by its own constructor -/
theorem mkO {F : sM → sG → Prop} {e k c sz' d : Nat} {Z' : Nat → Nat → Int} {q : Nat × Nat × Nat} (hk : mkOk e k c sz' Z') (hd : e ≤ d) (h : mkI M0 G0 a sz Z nx M G) (hn : nx + sz' ≤ sz) (h0 : 0 < a) (h1 : 1 ≤ nx) (h2 : 1 ≤ sz') (hz : ∀ i, i < sz' → Z (nx + i) = Z' i) (kk : ∀ M' G', mkI M0 G0 a sz Z (nx + sz') M' G' → G' a = G a → G' (a + nx) = (1, c, sFul c) → F M' G') : sC d k [vT c (a + nx) 0] (sClr M (a + nx)) (sGs (sGs G (a + nx) q) (a + nx) (1, c, 0)) (QV F) := by
  refine hk d (a + nx) _ _ F hd (by omega) sClr_eq sGs_eq (fun i i1 i2 => ?_) (fun M' G' g1 g2 g3 => ?_)
  · rw [sGs_ne (by omega), sGs_ne (by omega), Nat.add_assoc]; exact h.2.1 (nx + i) (by omega) (by omega)
  · refine kk M' G' ⟨fun x hx => ?_, fun i hi hs => ?_, fun i hi => ?_⟩ ?_ g2
    · have e := g1 x (by omega)
      rw [e.1, e.2, sClr_ne (by omega), sGs_ne (by omega), sGs_ne (by omega)]
      exact h.1 x hx
    · rw [(g1 (a + i) (by omega)).2, sGs_ne (by omega), sGs_ne (by omega)]
      exact h.2.1 i (by omega) hs
    · by_cases c2 : i < nx
      · rw [(g1 (a + i) (by omega)).1, sClr_ne (by omega)]
        exact h.2.2 i c2
      · have := g3 (i - nx) (by omega)
        rw [show a + nx + (i - nx) = a + i by omega] at this
        rw [this, ← hz (i - nx) (by omega), show nx + (i - nx) = i by omega]
    · rw [(g1 a (by omega)).2, sGs_ne (by omega), sGs_ne (by omega)]
/-- the final reference to it -/
theorem mkS {F : sM → sG → Prop} {q : Nat × Nat × Nat} (h : mkI M0 G0 a sz Z nx M G) (h1 : 1 ≤ nx) (hs : nx ≤ sz) (h2 : 1 ≤ sz) (kk : ∀ G', mkI M0 G0 a sz Z nx M G' → G' a = q → F M G') : F M (sGs G a q) := by
  refine kk _ ⟨fun x hx => ⟨(h.1 x hx).1, ?_⟩, fun i hi hs => ?_, h.2.2⟩ sGs_eq
  · rw [sGs_ne (by omega)]; exact (h.1 x hx).2
  · rw [sGs_ne (by omega)]; exact h.2.1 i hi hs
end
/-- a place of an object within: nothing there but what is free -/
theorem mkI.start {M : sM} {G : sG} {a c sz : Nat} {Z : Nat → Nat → Int} (hM : M a = fun _ => 0) (hf : ∀ i, 1 ≤ i → i < sz → G (a + i) = (0, 0, 0)) (hz : Z 0 = fun _ => 0) : mkI M G a sz Z 1 M G := ⟨fun _ _ => ⟨rfl, rfl⟩, hf, fun i hi => by
  have : i = 0 := by omega
  rw [this, Nat.add_zero, hM, hz]⟩
/-- -1 in the rows l, 0 elsewhere -/
def zL (l : List Nat) : Nat → Nat → Int := fun i j => if i ∈ l ∧ j < 12 then -1 else 0
theorem zL_z {l : List Nat} {i : Nat} (h : i ∉ l) : zL l i = fun _ => 0 := by
  funext j; unfold zL; rw [if_neg (fun z => h z.1)]
theorem zL_i {l : List Nat} {i : Nat} (h : i ∈ l) : zL l i = fun j => if j < 12 then -1 else 0 := by
  funext j; unfold zL
  by_cases c : j < 12
  · rw [if_pos ⟨h, c⟩, if_pos c]
  · rw [if_neg (fun z => c z.2), if_neg c]
theorem zL_c {l l' : List Nat} {i i' : Nat} (h : i ∈ l ↔ i' ∈ l') : zL l i = zL l' i' := by
  by_cases c : i ∈ l
  · rw [zL_i c, zL_i (h.1 c)]
  · rw [zL_z c, zL_z (fun z => c (h.2 z))]
