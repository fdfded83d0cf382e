/-! THE RULE PARSER, class: what opens, a value. -/
section
variable {d n p m e : Nat} {T : Nat → Int} {P : Int → sM → sG → Prop} {PV : sM → sG → Prop} {M : sM} {G : sG} {s : stS} {D : den} {k : Int} {cl : List (Int × den)}
theorem cSt.len (hS : cSt M T n (e, p, m, s, D, k, cl)) (he : e ≤ 6) : M 2 10 = (s.length : Int) ∧ M 2 12 = (dpt s : Int) ∧ ∃ len : Nat, M 2 8 = (len : Int) ∧ len + s.length ≤ p := by
  obtain ⟨h1, h2, h3, h4, h5, h6, h7, h8, h9, h10⟩ := hS
  by_cases c : e ≤ 3
  · obtain ⟨len, a0, H, g1, g2, g3, g4, -⟩ := h9 (Or.inl c)
    exact ⟨g2, g3, len, g1, g4⟩
  · obtain ⟨len, a, a0, h, H, g1, g2, g3, g4, -⟩ := h10 (by omega) he
    exact ⟨g2, g3, len, g1, g4⟩
theorem c39 {x1 : Int} (hd : 8 ≤ d) (ho : tOk T n) (hS : cSt M T n (1, p, m, s, D, k, cl)) (hA : okA n (1, p, m, s, D, k, cl)) (hx : x1 = if chr T n p = 91 then 1 else 0) (kk : cK T n M G PV (aOpn T n p m s D k cl)) : sC d 39 [vO 7 2, vI x1] M G (QV PV) := by
  obtain ⟨d, rfl⟩ := sD 2 (d := d) (by omega)
  obtain ⟨l1, l2, len, l3, l4⟩ := hS.len (by decide)
  have hS' := hS
  obtain ⟨h1, h2, h3, h4, h5, h6, h7, h8, h9, -⟩ := hS'
  have hp : p ≤ n := hA.2.2.2.1
  have h10 : dpt s ≤ 10 := hA.2.1
  have hw := wfs_48 hA.1 h10
  have h400 := ho.1
  have hC := h9 (Or.inl (by decide))
  have h8' : M 7 cl.length = k := h8 (by decide) (by decide)
  have hbl := brk_len s
  refine e39 (s39_0 ⟨fun q1 => ⟨⟨by omega, by omega⟩, fun q2 => ⟨⟨by omega, by omega⟩, ?_⟩, fun q3 => ⟨⟨by omega, by omega⟩, ⟨by omega, by omega⟩, ?_⟩⟩, fun q4 => ?_⟩)
  · have hr : aOpn T n p m s D k cl = (0, 1, p + 3, m, (11, D) :: s, D, k, cl) := by
      unfold aOpn
      rw [if_neg (by omega), if_neg (fun z => by rw [if_pos z] at hx; omega)]
    rw [hr] at kk
    refine c40 (w := s.length) (by omega) (by simp [sUpd, l1]) (by omega) ?_
    have o : ∀ x3 x12, offR2 M (sUpd (sUpd (sUpd (sUpd (sUpd (sUpd M 2 12 x12) 3 2 x3) 9 s.length 11) 11 s.length 3) 10 s.length (-1)) 2 10 ((s.length + 1 : Nat) : Int)) := fun x3 x12 => (((((offR2.u (Or.inl rfl)).trans (offR2.u (Or.inr (Or.inl ⟨rfl, Or.inl rfl⟩)))).trans (offR2.u (Or.inr (Or.inr (by decide))))).trans (offR2.u (Or.inr (Or.inr (by decide))))).trans (offR2.u (Or.inr (Or.inr (by decide))))).trans (offR2.u (Or.inl rfl))
    refine kk.2 rfl _ (o _ _) ⟨(o _ _).tp h1, ?_, ?_, ?_, ?_, ?_, ?_, fun _ _ => ?_, fun _ => cPushO hC (Or.inl rfl) ?_ ?_ ?_ ?_ ?_ ?_ ?_ ?_ ?_ (by omega), fun z => by omega⟩
    · simp [sUpd, h2]
    · simp [sUpd, h3]
    · simp [sUpd, h4]
    · simp [sUpd, h5]
    · have : brk ((11, D) :: s) = brk s := Nat.zero_add _
      rw [this]
      simp [sUpd, h6]
    · simp [sUpd, h7]
    · simp [sUpd, h8']
    · funext i; simp [sUpd]
    · funext i; simp [sUpd]
    · intro i _; simp [sUpd]
    · intro i; simp [sUpd]
    · intro i; simp [sUpd]
    · intro i; have : bnd 11 = 3 := rfl; simp [sUpd, this]
    · simp [sUpd]
    · simp [sUpd]
    · simp [sUpd]
  · have hr : aOpn T n p m s D k cl = (0, 1, p + 1, m, (14, D) :: s, D, k, cl) := by
      unfold aOpn
      rw [if_neg (by omega), if_pos (Decidable.byContradiction fun z => by rw [if_neg z] at hx; omega)]
    rw [hr] at kk
    refine c40 (w := s.length) (by omega) (by simp [sUpd, l1]) (by omega) ?_
    have o : ∀ x3 x12 x13, offR2 M (sUpd (sUpd (sUpd (sUpd (sUpd (sUpd (sUpd M 2 12 x12) 2 13 x13) 3 2 x3) 9 s.length 14) 11 s.length 0) 10 s.length (-1)) 2 10 ((s.length + 1 : Nat) : Int)) := fun x3 x12 x13 => ((((((offR2.u (Or.inl rfl)).trans (offR2.u (Or.inl rfl))).trans (offR2.u (Or.inr (Or.inl ⟨rfl, Or.inl rfl⟩)))).trans (offR2.u (Or.inr (Or.inr (by decide))))).trans (offR2.u (Or.inr (Or.inr (by decide))))).trans (offR2.u (Or.inr (Or.inr (by decide))))).trans (offR2.u (Or.inl rfl))
    refine kk.2 rfl _ (o _ _ _) ⟨(o _ _ _).tp h1, ?_, ?_, ?_, ?_, ?_, ?_, fun _ _ => ?_, fun _ => cPushO hC (Or.inr rfl) ?_ ?_ ?_ ?_ ?_ ?_ ?_ ?_ ?_ (by omega), fun z => by omega⟩
    · simp [sUpd, h2]
    · simp [sUpd, h3]
    · simp [sUpd, h4]
    · simp [sUpd, h5]
    · have : brk ((14, D) :: s) = 1 + brk s := rfl
      rw [this]
      simp [sUpd, h6]
      omega
    · simp [sUpd, h7]
    · simp [sUpd, h8']
    · funext i; simp [sUpd]
    · funext i; simp [sUpd]
    · intro i _; simp [sUpd]
    · intro i; simp [sUpd]
    · intro i; simp [sUpd]
    · intro i; have : bnd 14 = 0 := rfl; simp [sUpd, this]
    · simp [sUpd]
    · simp [sUpd]
    · simp [sUpd]
  · refine failK (g := 0) (by omega) (by omega) h2 h3 ⟨by decide, by decide⟩ ?_ kk
    unfold aOpn
    rw [if_pos (by omega)]
  all_goals omega
theorem c42 (hd : 6 ≤ d) (ho : tOk T n) (hT : cTp M T n) (hp : p ≤ n) (hb : blk T n p = p) (k0 : wdF T n p = -1 → P (-1) (cS M p 0) G) (k1 : wdF T n p ≠ -1 → P (wdF T n p) (cS M (lts T n p) 0) G) : sC d 42 [vO 7 2] (cS M p 0) G (QI P) := by
  obtain ⟨d, rfl⟩ := sD 2 (d := d) (by omega)
  have cw : ∀ {P : Int → sM → sG → Prop} {j : Nat} {w : List Nat}, j < 21 → sByt.getD j [] = w → okL w → (atW T n p w → P 1 (cS M (lts T n p) 0) G) → (¬ atW T n p w → P 0 (cS M p 0) G) → sC (d + 1) 28 [vO 4 3, vS j] (cS M p 0) G (QI P) := fun hj hw hl k1 k0 => by
    have hl8 := hl.2.1
    refine c28 (by omega) hj hw (by omega) ho hT hp (fun z => absurd rfl z) (fun _ z => ?_) (fun _ z => ?_)
    · rw [hb] at z ⊢
      rw [← atW_lts hp hl z]
      exact k1 z
    · rw [hb] at z ⊢
      exact k0 z
  unfold wdF at k0 k1
  refine e42 (s42_0 ?_)
  refine cw (w := wNow) (by decide) (by decide) ok_now.1 (fun z => ?_) (fun z => ?_)
  · rw [if_pos (atB_y z)] at k1
    exact ⟨fun y => absurd y (by decide), fun _ => k1 (by decide)⟩
  rw [if_neg (atB_n z)] at k0 k1
  refine ⟨fun _ => ?_, fun y => absurd rfl y⟩
  refine cw (w := wPers) (by decide) (by decide) ok_pers.1 (fun z => ?_) (fun z => ?_)
  · rw [if_pos (atB_y z)] at k1
    exact ⟨fun y => absurd y (by decide), fun _ => k1 (by decide)⟩
  rw [if_neg (atB_n z)] at k0 k1
  refine ⟨fun _ => ?_, fun y => absurd rfl y⟩
  refine cw (w := wHouse) (by decide) (by decide) ok_house.1 (fun z => ?_) (fun z => ?_)
  · rw [if_pos (atB_y z)] at k1
    exact ⟨fun y => absurd y (by decide), fun _ => k1 (by decide)⟩
  rw [if_neg (atB_n z)] at k0 k1
  refine ⟨fun _ => ?_, fun y => absurd rfl y⟩
  refine cw (w := wIns) (by decide) (by decide) ok_ins.1 (fun z => ?_) (fun z => ?_)
  · rw [if_pos (atB_y z)] at k1
    exact ⟨fun y => absurd y (by decide), fun _ => k1 (by decide)⟩
  rw [if_neg (atB_n z)] at k0 k1
  refine ⟨fun _ => ?_, fun y => absurd rfl y⟩
  refine cw (w := wAft) (by decide) (by decide) ok_aft.1 (fun z => ?_) (fun z => ?_)
  · rw [if_pos (atB_y z)] at k1
    exact ⟨fun y => absurd y (by decide), fun _ => k1 (by decide)⟩
  rw [if_neg (atB_n z)] at k0 k1
  refine ⟨fun _ => ?_, fun y => absurd rfl y⟩
  refine cw (w := wRoom) (by decide) (by decide) ok_room.1 (fun z => ?_) (fun z => ?_)
  · rw [if_pos (atB_y z)] at k1
    exact ⟨fun y => absurd y (by decide), fun _ => k1 (by decide)⟩
  rw [if_neg (atB_n z)] at k0 k1
  refine ⟨fun _ => ?_, fun y => absurd rfl y⟩
  refine cw (w := wWins) (by decide) (by decide) ok_wins.1 (fun z => ?_) (fun z => ?_)
  · rw [if_pos (atB_y z)] at k1
    exact ⟨fun y => absurd y (by decide), fun _ => k1 (by decide)⟩
  rw [if_neg (atB_n z)] at k0 k1
  refine ⟨fun _ => ?_, fun y => absurd rfl y⟩
  refine cw (w := wWor) (by decide) (by decide) ok_wor.1 (fun z => ?_) (fun z => ?_)
  · rw [if_pos (atB_y z)] at k1
    exact ⟨fun y => absurd y (by decide), fun _ => k1 (by decide)⟩
  rw [if_neg (atB_n z)] at k0 k1
  refine ⟨fun _ => ?_, fun y => absurd rfl y⟩
  refine cw (w := wLate) (by decide) (by decide) ok_late.1 (fun z => ?_) (fun z => ?_)
  · rw [if_pos (atB_y z)] at k1
    exact ⟨fun y => absurd y (by decide), fun _ => k1 (by decide)⟩
  rw [if_neg (atB_n z)] at k0 k1
  refine ⟨fun _ => ?_, fun y => absurd rfl y⟩
  refine cw (w := wLong) (by decide) (by decide) ok_long.1 (fun z => ?_) (fun z => ?_)
  · rw [if_pos (atB_y z)] at k1
    exact ⟨fun y => absurd y (by decide), fun _ => k1 (by decide)⟩
  rw [if_neg (atB_n z)] at k0 k1
  exact ⟨fun _ => k0 rfl, fun y => absurd rfl y⟩
/-- behind the reading of a value: the part counted, the step put -/
theorem c41t {q o : Nat} {v f : Int} (hd : 8 ≤ d) (ho : tOk T n) (hS : cSt M T n (e, p, m, s, D, k, cl)) (hA : okA n (e, p, m, s, D, k, cl)) (e1 : 1 ≤ e) (e3 : e ≤ 3) (hv : valF T n p = (q, f, o, v)) (ho1 : o ≤ 1) (hqn : q ≤ n) (hq : f = 0 → p < q ∧ 0 ≤ v ∧ v ≤ 99999 ∧ (o = 1 → v ≤ 9)) (kk : cK T n M G PV (aVal T n e p m s k cl)) :
    sC d 43 [vO 7 2, vI (p : Int)] (cS M q f) G (QV (fun M3 G3 => sC d 44 [vO 7 2, vI (o : Int), vI v] M3 G3 (QI (fun r4 M4 G4 => (M4 2 14 ≠ 3 → PV (sUpd M4 2 14 4) G4) ∧ (M4 2 14 = 3 → PV (sUpd M4 2 14 5) G4))))) := by
  obtain ⟨l1, l2, len, l3, l4⟩ := hS.len (by omega)
  have hS' := hS
  obtain ⟨h1, h2, h3, h4, h5, h6, h7, h8, h9, -⟩ := hS'
  have hp : p ≤ n := hA.2.2.2.1
  have hm : m ≤ 60 := hA.2.2.1
  have h400 := ho.1
  have hC := h9 (Or.inl e3)
  have h8' : M 7 cl.length = k := h8 e1 (by omega)
  refine c43 (m := m) (k := 0) (by omega) h5 hm (by omega) ?_
  by_cases cl4 : len < 400
  · refine c44 (len := len) (by omega) (by rw [cS_a (by decide), sUpd_ni (by decide)]; exact l3) cl4 ?_
    obtain ⟨g, hg⟩ : ∃ g, g = (if f = 0 ∧ 60 ≤ m then 1 + 8 * (p : Int) + 3 else f) := ⟨_, rfl⟩
    rw [← hg]
    obtain ⟨X, hX⟩ : ∃ X, X = sUpd (sUpd (sUpd (cS (sUpd M 2 11 ((m + 1 : Nat) : Int)) q g) 5 len (o : Int)) 6 len v) 2 8 ((len + 1 : Nat) : Int) := ⟨_, rfl⟩
    rw [← hX]
    have x14 : X 2 14 = (e : Int) := by rw [hX]; simp [sUpd, cS, h7]
    have oX : offR2 M X := by
      rw [hX]
      exact ((((offR2.u (Or.inl rfl)).trans offR2.cs).trans (offR2.u (Or.inr (Or.inr (by decide))))).trans (offR2.u (Or.inr (Or.inr (by decide))))).trans (offR2.u (Or.inl rfl))
    have x33 : X 3 3 = g := by rw [hX]; simp [sUpd, cS]
    have goal : ∀ e' : Nat, (if e = 3 then 5 else 4) = e' → PV (sUpd X 2 14 (e' : Int)) G := by
      intro e' he'
      have oY : offR2 M (sUpd X 2 14 (e' : Int)) := oX.trans (offR2.u (Or.inl rfl))
      have y33 : sUpd X 2 14 (e' : Int) 3 3 = g := by rw [sUpd_ne (by decide)]; exact x33
      by_cases c1 : f = 0
      · by_cases c2 : 60 ≤ m
        · have hr : aVal T n e p m s k cl = (1 + 8 * (p : Int) + 3, a0S) := by unfold aVal; rw [hv, if_neg (fun z => z c1), if_pos c2]
          rw [hr] at kk
          rw [if_pos ⟨c1, c2⟩] at hg
          exact kk.1 (show 1 + 8 * (p : Int) + 3 ≠ 0 by omega) _ oY (y33.trans hg)
        · have hr : aVal T n e p m s k cl = (0, e', q, m + 1, s, valD o v, k, cl) := by unfold aVal; rw [hv, if_neg (fun z => z c1), if_neg c2, he']
          rw [hr] at kk
          rw [if_neg (fun z => c2 z.2)] at hg
          obtain ⟨q1, q2, q3, q4⟩ := hq c1
          have e45 : 4 ≤ e' ∧ e' ≤ 5 := by rw [← he']; split <;> omega
          refine kk.2 rfl _ oY ⟨oY.tp h1, ?_, by rw [y33, hg, c1], ?_, ?_, ?_, ?_, fun _ _ => ?_, fun z => by omega, fun _ _ => cValue hC l3 ho1 ⟨q2, q3, q4⟩ ?_ ?_ ?_ ?_ ?_ ?_ ?_ ?_ ?_ (by omega) (Nat.le_refl _)⟩
          · rw [hX]; simp [sUpd, cS]
          · rw [hX]; simp [sUpd, cS, h4]
          · rw [hX]; simp [sUpd, cS]
          · rw [hX]; simp [sUpd, cS, h6]
          · rw [hX]; simp [sUpd, cS]
          · rw [hX]; simp [sUpd, cS, h8']
          · intro i; rw [hX]; simp [sUpd, cS]
          · intro i; rw [hX]; simp [sUpd, cS]
          · intro i _; rw [hX]; simp [sUpd, cS]
          · rw [hX]; funext i; simp [sUpd, cS]
          · rw [hX]; funext i; simp [sUpd, cS]
          · rw [hX]; funext i; simp [sUpd, cS]
          · rw [hX]; simp [sUpd, cS]
          · rw [hX]; simp [sUpd, cS]
          · rw [hX]; simp [sUpd, cS]
      · have hr : aVal T n e p m s k cl = (f, a0S) := by unfold aVal; rw [hv, if_pos c1]
        rw [hr] at kk
        rw [if_neg (fun z => c1 z.1)] at hg
        exact kk.1 c1 _ oY (y33.trans hg)
    rw [x14]
    exact ⟨fun z => goal 4 (if_neg (by omega)), fun z => goal 5 (if_pos (by omega))⟩
  · have c1 : f ≠ 0 := fun z => by have := (hq z).1; omega
    have hr : aVal T n e p m s k cl = (f, a0S) := by unfold aVal; rw [hv, if_pos c1]
    rw [hr] at kk
    refine c44f (len := len) (by omega) (by rw [cS_a (by decide), sUpd_ni (by decide)]; exact l3) (by omega) ?_
    rw [if_neg (fun z => c1 z.1)]
    have o : ∀ x, offR2 M (sUpd (cS (sUpd M 2 11 ((m + 1 : Nat) : Int)) q f) 2 14 x) := fun x => ((offR2.u (Or.inl rfl)).trans offR2.cs).trans (offR2.u (Or.inl rfl))
    exact ⟨fun _ => kk.1 c1 _ (o _) (by simp [sUpd, cS]), fun _ => kk.1 c1 _ (o _) (by simp [sUpd, cS])⟩
theorem c41 (hd : 10 ≤ d) (ho : tOk T n) (hb : blk T n p = p) (hS : cSt M T n (e, p, m, s, D, k, cl)) (hA : okA n (e, p, m, s, D, k, cl)) (e1 : 1 ≤ e) (e3 : e ≤ 3) (kk : cK T n M G PV (aVal T n e p m s k cl)) : sC d 41 [vO 7 2, vI (chr T n p)] M G (QV PV) := by
  obtain ⟨d, rfl⟩ := sD 1 (d := d) (by omega)
  have hS' := hS
  obtain ⟨h1, h2, h3, -⟩ := hS'
  have hp : p ≤ n := hA.2.2.2.1
  have h400 := ho.1
  have hM : cS M p 0 = M := cS_self.2 ⟨h2, h3⟩
  refine e41 (s41_0 (c30 (by omega) (fun z => ?_) (fun z => ?_)))
  · refine ⟨fun y => absurd y (by decide), fun _ => ?_⟩
    rw [h2, ← hM]
    have hv : valF T n p = ((numF T n p 0 99999).1, (numF T n p 0 99999).2.1, 0, (numF T n p 0 99999).2.2) := if_pos z
    refine c29 (by omega) ho h1 hp (by decide) (by decide) (fun y => absurd rfl y) (fun _ => ?_)
    have hnn : 0 ≤ (numF T n p 0 99999).2.2 := by
      unfold numF
      split
      · exact Int.le_refl 0
      · split
        · exact Int.le_refl 0
        · rename_i c
          show 0 ≤ nmb _ _ _
          omega
    refine ⟨fun _ => ?_, fun y => by omega⟩
    exact c41t (o := 0) (by omega) ho hS hA e1 e3 hv (by decide) (numF_le hp) (fun y => by
      have a := numF_sp (lo := 0) (hi := 99999) hp hb y
      have b := numF_in (T := T) (n := n) (p := p) (lo := 0) (hi := 99999) y
      exact ⟨a.1, b.1, b.2, fun w => absurd w (by decide)⟩) kk
  · refine ⟨fun _ => ?_, fun y => absurd rfl y⟩
    rw [h2, ← hM]
    refine c42 (by omega) ho h1 hp hb (fun y => ?_) (fun y => ?_)
    · refine ⟨fun w => absurd rfl w, fun _ => ?_⟩
      rw [hM]
      refine failK (g := 0) (by omega) (by omega) h2 h3 ⟨by decide, by decide⟩ ?_ kk
      have hv : valF T n p = (p, 1 + 8 * (p : Int), 1, 0) := by unfold valF; rw [if_neg z, if_pos y]
      unfold aVal
      rw [hv, if_pos (show 1 + 8 * (p : Int) ≠ 0 by omega)]
      show 1 + 8 * (p : Int) = _
      omega
    · have hv : valF T n p = (lts T n p, 0, 1, wdF T n p) := by unfold valF; rw [if_neg z, if_neg y]
      have hs := valF_sp (T := T) (n := n) (q := p) hp hb (by rw [hv])
      rw [hv] at hs
      refine ⟨fun _ => ?_, fun w => absurd w y⟩
      exact c41t (o := 1) (by omega) ho hS hA e1 e3 hv (by decide) hs.2.1 (fun _ => ⟨hs.1, hs.2.2.2⟩) kk
end
