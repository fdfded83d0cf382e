/-! THE STREET: what is read, as functions of the tape; the class's side. -/
def atW_dec (T : Nat → Int) (n p : Nat) (w : List Nat) : Decidable (atW T n p w) := by unfold atW; infer_instance
def atB (T : Nat → Int) (n p : Nat) (w : List Nat) : Bool := @decide (atW T n p w) (atW_dec T n p w)
theorem atB_i {T : Nat → Int} {n p : Nat} {w : List Nat} : atB T n p w = true ↔ atW T n p w := @decide_eq_true_iff _ (atW_dec T n p w)
theorem atB_y {T : Nat → Int} {n p : Nat} {w : List Nat} (h : atW T n p w) : atB T n p w = true := atB_i.2 h
theorem atB_n {T : Nat → Int} {n p : Nat} {w : List Nat} (h : ¬ atW T n p w) : ¬ atB T n p w = true := fun z => h (atB_i.1 z)
def wHouse : List Nat := [104, 111, 117, 115, 101]
def wStay : List Nat := [115, 116, 97, 121]
def wLast : List Nat := [108, 97, 115, 116]
def wFirst : List Nat := [102, 105, 114, 115, 116]
def wFree : List Nat := [102, 114, 101, 101]
section
variable (T : Nat → Int) (n p : Nat)
/-- a law: the place behind it, the fault, the law -/
def lawF : Nat × Int × Int :=
  if atB T n (blk T n p) wLast = true then (blk T n p + 4, 0, 0) else if atB T n (blk T n p) wFirst = true then (blk T n p + 5, 0, 1) else if atB T n (blk T n p) wFree = true then (blk T n p + 4, 0, 2) else (blk T n p, 1 + 8 * (blk T n p : Int), 0)
end
section
variable {T : Nat → Int} {n p : Nat} {lo hi : Int}
theorem numF_le (h : p ≤ n) : (numF T n p lo hi).1 ≤ n := by
  have hb : blk T n p ≤ n := run_le h
  have hd : dig T n (blk T n p) ≤ n := run_le hb
  unfold numF
  split
  · exact hb
  · split
    · exact hb
    · exact hd
theorem numF_in (h : (numF T n p lo hi).2.1 = 0) : lo ≤ (numF T n p lo hi).2.2 ∧ (numF T n p lo hi).2.2 ≤ hi := by
  unfold numF at h ⊢
  split at h
  · exact absurd h (by show ¬ (1 + 8 * (blk T n p : Int) = 0); omega)
  · rename_i c
    rw [if_neg c]
    split at h
    · exact absurd h (by show ¬ (1 + 8 * (blk T n p : Int) + 1 = 0); omega)
    · rename_i c2
      rw [if_neg c2]
      exact ⟨by show lo ≤ nmb _ _ _; omega, by show nmb _ _ _ ≤ hi; omega⟩
theorem lawF_le (h : p ≤ n) : (lawF T n p).1 ≤ n := by
  have hb : blk T n p ≤ n := run_le h
  unfold lawF
  split
  · rename_i c; exact (atB_i.1 c).1
  · split
    · rename_i c; exact (atB_i.1 c).1
    · split
      · rename_i c; exact (atB_i.1 c).1
      · exact hb
theorem lawF_in : 0 ≤ (lawF T n p).2.2 ∧ (lawF T n p).2.2 ≤ 2 := by
  unfold lawF
  split
  · exact ⟨show (0 : Int) ≤ 0 by decide, show (0 : Int) ≤ 2 by decide⟩
  · split
    · exact ⟨show (0 : Int) ≤ 1 by decide, show (1 : Int) ≤ 2 by decide⟩
    · split
      · exact ⟨show (0 : Int) ≤ 2 by decide, show (2 : Int) ≤ 2 by decide⟩
      · exact ⟨show (0 : Int) ≤ 0 by decide, show (0 : Int) ≤ 2 by decide⟩
end
section
variable {d n p : Nat} {T : Nat → Int} {PV : sM → sG → Prop} {M : sM} {G : sG} {f : Int}
theorem c31 {x1 x2 x3 : Int} {k : Nat} (hd : 2 ≤ d) (h : M 42 0 = (k : Int)) (h6 : k < 6) (kk : PV (cS (sUpd (sUpd (sUpd (sUpd M 43 k x1) 44 k x2) 45 k x3) 42 0 ((k + 1 : Nat) : Int)) p f) G) : sC d 31 [vO 10 42, vI x1, vI x2, vI x3] (cS M p f) G (QV PV) := by
  obtain ⟨d, rfl⟩ := sD 1 (d := d) (by omega)
  have e : cS M p f 42 0 = (k : Int) := by rw [cS_a (by decide)]; exact h
  refine e31 (s31_0 ⟨fun q1 => ?_, fun q2 => ⟨⟨(by first | omega | assumption | (refine ⟨?_, ?_⟩ <;> omega) | (simp_all; done)), (by first | omega | assumption | (refine ⟨?_, ?_⟩ <;> omega) | (simp_all; done))⟩, ⟨by omega, by omega⟩, ?_⟩⟩)
  · omega
  · rw [e, cS_u (by decide), cS_u (by decide), cS_u (by decide), cS_u (by decide)]
    exact kk
theorem c33 {x1 x2 x3 x4 x5 : Int} {k : Nat} (hd : 2 ≤ d) (h : M 42 6 = (k : Int)) (h6 : k < 18) (kk : PV (cS (sUpd (sUpd (sUpd (sUpd (sUpd (sUpd (sUpd M 48 k x1) 49 k x2) 50 k x3) 51 k x4) 52 k x5) 53 k 0) 42 6 ((k + 1 : Nat) : Int)) p f) G) : sC d 33 [vO 10 42, vI x1, vI x2, vI x3, vI x4, vI x5] (cS M p f) G (QV PV) := by
  obtain ⟨d, rfl⟩ := sD 1 (d := d) (by omega)
  have e : cS M p f 42 6 = (k : Int) := by rw [cS_a (by decide)]; exact h
  refine e33 (s33_0 ⟨fun q1 => ?_, fun q2 => ⟨⟨(by first | omega | assumption | (refine ⟨?_, ?_⟩ <;> omega) | (simp_all; done)), (by first | omega | assumption | (refine ⟨?_, ?_⟩ <;> omega) | (simp_all; done))⟩, ⟨by omega, by omega⟩, ?_⟩⟩)
  · omega
  · rw [e, cS_u (by decide), cS_u (by decide), cS_u (by decide), cS_u (by decide), cS_u (by decide), cS_u (by decide), cS_u (by decide)]
    exact kk
/-- a house: fault, place, law, room, windows -/
def houseF (T : Nat → Int) (n p : Nat) : Int × Nat × Int × Int × Int :=
  if (lawF T n p).2.1 ≠ 0 then ((lawF T n p).2.1, 0, 0, 0, 0)
  else if (numF T n (lawF T n p).1 1 12).2.1 ≠ 0 then ((numF T n (lawF T n p).1 1 12).2.1, 0, 0, 0, 0)
  else if (numF T n (numF T n (lawF T n p).1 1 12).1 0 9).2.1 ≠ 0 then ((numF T n (numF T n (lawF T n p).1 1 12).1 0 9).2.1, 0, 0, 0, 0)
  else (0, (numF T n (numF T n (lawF T n p).1 1 12).1 0 9).1, (lawF T n p).2.2, (numF T n (lawF T n p).1 1 12).2.2, (numF T n (numF T n (lawF T n p).1 1 12).1 0 9).2.2)
/-- the two numbers of a house, and what comes of it -/
theorem c27n {k : Nat} {law : Int} {p1 : Nat} {f1 : Int} (hd : 8 ≤ d) (ho : tOk T n) (hT : cTp M T n) (hp : p ≤ n) (h : M 42 0 = (k : Int)) (h6 : k < 6)
    (hl : p1 = (lawF T n p).1) (hf : f1 = (lawF T n p).2.1) (hlaw : f1 = 0 → law = (lawF T n p).2.2)
    (kb : ∀ p', p' ≤ n → (houseF T n p).1 ≠ 0 → PV (cS M p' (houseF T n p).1) G)
    (kk : (houseF T n p).1 = 0 → PV (cS (sUpd (sUpd (sUpd (sUpd M 43 k (houseF T n p).2.2.1) 44 k (houseF T n p).2.2.2.1) 45 k (houseF T n p).2.2.2.2) 42 0 ((k + 1 : Nat) : Int)) (houseF T n p).2.1 0) G) :
    sC d 29 [vO 4 3, vI 1, vI 12] (cS M p1 f1) G (QI (fun r4 M4 G4 => sC d 29 [vO 4 3, vI 0, vI 9] M4 G4 (QI (fun r5 M5 G5 => (M5 3 3 ≠ 0 → PV M5 G5) ∧ (M5 3 3 = 0 → sC d 31 [vO 10 42, vI law, vI r4, vI r5] M5 G5 (QV PV)))))) := by
  have l1 : p1 ≤ n := by rw [hl]; exact lawF_le hp
  have bad : ∀ (r4 r5 : Int) p' g, p' ≤ n → g ≠ 0 → (houseF T n p).1 = g → (cS M p' g 3 3 ≠ 0 → PV (cS M p' g) G) ∧ (cS M p' g 3 3 = 0 → sC d 31 [vO 10 42, vI law, vI r4, vI r5] (cS M p' g) G (QV PV)) := fun _ _ p' g z1 z2 z3 => ⟨fun _ => by rw [← z3]; exact kb p' z1 (by rw [z3]; exact z2), fun z => absurd z (by rw [cS_f]; exact z2)⟩
  by_cases c : f1 = 0
  · have hlw := hlaw c
    subst c
    refine c29 (by omega) ho hT l1 (by decide) (by decide) (fun z => absurd rfl z) (fun _ => ?_)
    have l2 := numF_le (T := T) (lo := 1) (hi := 12) l1
    by_cases c2 : (numF T n p1 1 12).2.1 = 0
    · rw [c2]
      refine c29 (by omega) ho hT l2 (by decide) (by decide) (fun z => absurd rfl z) (fun _ => ?_)
      have l3 := numF_le (T := T) (lo := 0) (hi := 9) l2
      by_cases c3 : (numF T n (numF T n p1 1 12).1 0 9).2.1 = 0
      · have e : houseF T n p = (0, (numF T n (numF T n p1 1 12).1 0 9).1, law, (numF T n p1 1 12).2.2, (numF T n (numF T n p1 1 12).1 0 9).2.2) := by
          unfold houseF
          rw [← hl, if_neg (by rw [← hf]; exact fun z => z rfl), if_neg (fun z => z c2), if_neg (fun z => z c3), hlw]
        rw [e] at kk
        rw [c3]
        refine ⟨fun z => absurd cS_f z, fun _ => ?_⟩
        exact c31 (by omega) h h6 (kk rfl)
      · refine bad _ _ _ _ l3 c3 ?_
        unfold houseF
        rw [← hl, if_neg (by rw [← hf]; exact fun z => z rfl), if_neg (fun z => z c2), if_pos c3]
    · have e : (houseF T n p).1 = (numF T n p1 1 12).2.1 := by
        unfold houseF
        rw [← hl, if_neg (by rw [← hf]; exact fun z => z rfl), if_pos c2]
      refine c29 (by omega) ho hT l2 (by decide) (by decide) (fun _ => ?_) (fun z => absurd z c2)
      exact bad _ _ _ _ l2 c2 e
  · have e : (houseF T n p).1 = f1 := by
      unfold houseF
      rw [← hf, if_pos c]
    refine c29 (by omega) ho hT l1 (by decide) (by decide) (fun _ => ?_) (fun z => absurd z c)
    refine c29 (by omega) ho hT l1 (by decide) (by decide) (fun _ => ?_) (fun z => absurd z c)
    exact bad _ _ _ _ l1 c e
theorem c27 {k : Nat} (hd : 10 ≤ d) (ho : tOk T n) (hT : cTp M T n) (hp : p ≤ n) (h : M 42 0 = (k : Int)) (h6 : k < 6)
    (kb : ∀ p', p' ≤ n → (houseF T n p).1 ≠ 0 → PV (cS M p' (houseF T n p).1) G)
    (kk : (houseF T n p).1 = 0 → PV (cS (sUpd (sUpd (sUpd (sUpd M 43 k (houseF T n p).2.2.1) 44 k (houseF T n p).2.2.2.1) 45 k (houseF T n p).2.2.2.2) 42 0 ((k + 1 : Nat) : Int)) (houseF T n p).2.1 0) G) :
    sC d 27 [vO 4 3, vO 10 42] (cS M p 0) G (QV PV) := by
  obtain ⟨d, rfl⟩ := sD 2 (d := d) (by omega)
  have hb : blk T n p ≤ n := run_le hp
  have h400 := ho.1
  have eb : blk T n (blk T n p) = blk T n p := run_stop (run_end hp)
  refine e27 (s27_0 (c28 (w := wLast) (by omega) (by decide) rfl (by decide) ho hT hp (fun z => absurd rfl z) (fun _ z1 => ?_) (fun _ z1 => ?_)))
  · refine ⟨fun q1 => ?_, fun q12 => ?_⟩
    · omega
    · exact c27n (p := p) (by omega) ho hT hp h h6 (by unfold lawF; rw [if_pos (atB_y z1)]; rfl) (by unfold lawF; rw [if_pos (atB_y z1)]) (fun _ => by unfold lawF; rw [if_pos (atB_y z1)]) kb kk
  · refine ⟨fun q1 => ?_, fun q12 => ?_⟩
    · refine c28 (w := wFirst) (by omega) (by decide) rfl (by decide) ho hT hb (fun z => absurd rfl z) (fun _ z2 => ?_) (fun _ z2 => ?_)
      all_goals rw [eb] at z2
      · refine ⟨fun q2 => ?_, fun q9 => ?_⟩
        · omega
        · rw [eb]
          exact c27n (p := p) (by omega) ho hT hp h h6 (by unfold lawF; rw [if_neg (atB_n z1), if_pos (atB_y z2)]; rfl) (by unfold lawF; rw [if_neg (atB_n z1), if_pos (atB_y z2)]) (fun _ => by unfold lawF; rw [if_neg (atB_n z1), if_pos (atB_y z2)]) kb kk
      · refine ⟨fun q2 => ?_, fun q9 => ?_⟩
        · rw [eb]
          refine c28 (w := wFree) (by omega) (by decide) rfl (by decide) ho hT hb (fun z => absurd rfl z) (fun _ z3 => ?_) (fun _ z3 => ?_)
          all_goals rw [eb] at z3
          · refine ⟨fun q3 => ?_, fun q6 => ?_⟩
            · rw [eb]
              exact c27n (p := p) (by omega) ho hT hp h h6 (by unfold lawF; rw [if_neg (atB_n z1), if_neg (atB_n z2), if_pos (atB_y z3)]; rfl) (by unfold lawF; rw [if_neg (atB_n z1), if_neg (atB_n z2), if_pos (atB_y z3)]) (fun _ => by unfold lawF; rw [if_neg (atB_n z1), if_neg (atB_n z2), if_pos (atB_y z3)]) kb kk
            · omega
          · refine ⟨fun q3 => ?_, fun q6 => ?_⟩
            · omega
            · rw [eb]
              refine c24 (by omega) ⟨by omega, by decide, by decide⟩ ?_
              rw [if_pos rfl]
              exact c27n (p := p) (by omega) ho hT hp h h6 (by unfold lawF; rw [if_neg (atB_n z1), if_neg (atB_n z2), if_neg (atB_n z3)]) (by unfold lawF; rw [if_neg (atB_n z1), if_neg (atB_n z2), if_neg (atB_n z3)]; show _ = 1 + 8 * (blk T n p : Int); omega) (fun z => by omega) kb kk
        · omega
    · omega
end
