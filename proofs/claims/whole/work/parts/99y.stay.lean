/-! THE STREET: stays, clauses; the class's side. -/
/-- a number, where there was perhaps a fault -/
def numG (T : Nat → Int) (n p : Nat) (f lo hi : Int) : Nat × Int × Int := if f ≠ 0 then (p, f, 0) else numF T n p lo hi
theorem numG_le {T : Nat → Int} {n p : Nat} {f lo hi : Int} (h : p ≤ n) : (numG T n p f lo hi).1 ≤ n := by
  unfold numG
  split
  · exact h
  · exact numF_le h
theorem numG_0 {T : Nat → Int} {n p : Nat} {lo hi : Int} : numG T n p 0 lo hi = numF T n p lo hi := if_neg (fun z => z rfl)
theorem numG_f {T : Nat → Int} {n p : Nat} {f lo hi : Int} (h : f ≠ 0) : numG T n p f lo hi = (p, f, 0) := if_pos h
theorem numG_ok {T : Nat → Int} {n p : Nat} {f lo hi : Int} (h : (numG T n p f lo hi).2.1 = 0) : f = 0 ∧ lo ≤ (numG T n p f lo hi).2.2 ∧ (numG T n p f lo hi).2.2 ≤ hi := by
  by_cases c : f = 0
  · subst c
    rw [numG_0] at h ⊢
    exact ⟨rfl, numF_in h⟩
  · rw [numG_f c] at h
    exact absurd h c
theorem numG_ge {T : Nat → Int} {n p : Nat} {f lo hi : Int} (h : 0 ≤ lo) : 0 ≤ (numG T n p f lo hi).2.2 := by
  by_cases c : (numG T n p f lo hi).2.1 = 0
  · have := numG_ok c; omega
  · unfold numG at c ⊢
    split
    · exact Int.le_refl 0
    · rename_i z
      rw [if_neg z] at c
      unfold numF at c ⊢
      split
      · exact Int.le_refl 0
      · rename_i z1
        rw [if_neg z1] at c
        split
        · exact Int.le_refl 0
        · rename_i z2
          rw [if_neg z2] at c
          exact absurd rfl c
theorem numG_up {T : Nat → Int} {n p : Nat} {f lo hi : Int} (h : 0 ≤ hi) : (numG T n p f lo hi).2.2 ≤ hi := by
  by_cases c : (numG T n p f lo hi).2.1 = 0
  · exact (numG_ok c).2.2
  · unfold numG at c ⊢
    split
    · exact h
    · rename_i z
      rw [if_neg z] at c
      unfold numF at c ⊢
      split
      · exact h
      · rename_i z1
        rw [if_neg z1] at c
        split
        · exact h
        · rename_i z2
          rw [if_neg z2] at c
          exact absurd rfl c
section
variable (T : Nat → Int) (n p : Nat) (nh : Int)
def s1F : Nat × Int × Int := numG T n p 0 0 11
def s2F : Nat × Int × Int := numG T n (s1F T n p).1 (s1F T n p).2.1 0 (nh - 1)
def s3F : Nat × Int × Int := numG T n (s2F T n p nh).1 (s2F T n p nh).2.1 0 95
def s4F : Nat × Int × Int := numG T n (s3F T n p nh).1 (s3F T n p nh).2.1 ((s3F T n p nh).2.2 + 1) 95
def s5F : Nat × Int × Int := numG T n (s4F T n p nh).1 (s4F T n p nh).2.1 0 99
end
section
variable {d n p : Nat} {T : Nat → Int} {P : Int → sM → sG → Prop} {PV : sM → sG → Prop} {M : sM} {G : sG} {f lo hi : Int}
theorem c29g (hd : 6 ≤ d) (ho : tOk T n) (hT : cTp M T n) (hp : p ≤ n) (hl : 0 ≤ lo) (hh : hi ≤ 99999) (kk : P (numG T n p f lo hi).2.2 (cS M (numG T n p f lo hi).1 (numG T n p f lo hi).2.1) G) : sC d 29 [vO 4 3, vI lo, vI hi] (cS M p f) G (QI P) := by
  refine c29 hd ho hT hp hl hh (fun z => ?_) (fun z => ?_)
  · rw [numG_f z] at kk; exact kk
  · subst z; rw [numG_0] at kk; exact kk
theorem c32 {k nh : Nat} (hd : 10 ≤ d) (ho : tOk T n) (hT : cTp M T n) (hp : p ≤ n) (hn : M 42 0 = (nh : Int)) (hn6 : nh ≤ 6) (h : M 42 6 = (k : Int)) (h6 : k < 18)
    (kb : (s5F T n p nh).2.1 ≠ 0 → PV (cS M (s5F T n p nh).1 (s5F T n p nh).2.1) G)
    (kk : (s5F T n p nh).2.1 = 0 → PV (cS (sUpd (sUpd (sUpd (sUpd (sUpd (sUpd (sUpd M 48 k (s1F T n p).2.2) 49 k (s2F T n p nh).2.2) 50 k (s3F T n p nh).2.2) 51 k (s4F T n p nh).2.2) 52 k (s5F T n p nh).2.2) 53 k 0) 42 6 ((k + 1 : Nat) : Int)) (s5F T n p nh).1 0) G) :
    sC d 32 [vO 4 3, vO 10 42] (cS M p 0) G (QV PV) := by
  obtain ⟨d, rfl⟩ := sD 2 (d := d) (by omega)
  have l1 : (s1F T n p).1 ≤ n := numG_le hp
  have l2 : (s2F T n p nh).1 ≤ n := numG_le l1
  have l3 : (s3F T n p nh).1 ≤ n := numG_le l2
  have l4 : (s4F T n p nh).1 ≤ n := numG_le l3
  have g3 : 0 ≤ (s3F T n p nh).2.2 := numG_ge (by decide)
  have hn' : ∀ q g, cS M q g 42 0 = (nh : Int) := fun q g => by rw [cS_a (by decide)]; exact hn
  have h1 := hn' (s1F T n p).1 (s1F T n p).2.1
  have u3 : (s3F T n p nh).2.2 ≤ 95 := numG_up (by decide)
  refine e32 (s32_0 (c29g (by omega) ho hT hp (by decide) (by decide) ?_))
  have h1' : cS M (numG T n p 0 0 11).1 (numG T n p 0 0 11).2.1 42 0 = (nh : Int) := h1
  refine ⟨⟨by omega, by omega⟩, ?_⟩
  rw [show cS M (numG T n p 0 0 11).1 (numG T n p 0 0 11).2.1 42 0 = (nh : Int) from h1]
  refine c29g (by omega) ho hT l1 (by decide) (by omega) ?_
  refine c29g (by omega) ho hT l2 (by decide) (by decide) ?_
  refine ⟨(⟨by omega, by omega⟩ : sI ((s3F T n p nh).2.2 + 1)), ?_⟩
  refine c29g (by omega) ho hT l3 (by show 0 ≤ (s3F T n p nh).2.2 + 1; omega) (by decide) ?_
  refine c29g (by omega) ho hT l4 (by decide) (by decide) ?_
  refine ⟨fun z => ?_, fun z => ?_⟩
  · rw [cS_f] at z
    exact kb z
  · rw [cS_f] at z
    have z' : (s5F T n p nh).2.1 = 0 := z
    show sC _ 33 [vO 10 42, vI (s1F T n p).2.2, vI (s2F T n p nh).2.2, vI (s3F T n p nh).2.2, vI (s4F T n p nh).2.2, vI (s5F T n p nh).2.2] (cS M (s5F T n p nh).1 (s5F T n p nh).2.1) G (QV PV)
    rw [z']
    exact c33 (by omega) h h6 (kk z')
end
