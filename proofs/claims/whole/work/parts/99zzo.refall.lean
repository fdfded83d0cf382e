/-! THE RULE PARSER, reference: clauseHere and readsAll. -/
/-- a clause behind the reference -/
def rCl1 (T : Nat → Int) (n r : Nat) (cl : List (Int × den)) (x : Int × List (Int × den)) (M M' : sM) (len' p' m' : Nat) (k' : Int) (D' : den) : Prop :=
  offP r M M' ∧ M' 82 17 = ((cl.length + 1 : Nat) : Int) ∧ rAt M' r len' m' ∧ rRng M' r len' ∧ len' ≤ p' ∧ rCls M' r ((k', D') :: cl) len' ∧ M' 87 r = ((cl.length + 1 : Nat) : Int) ∧ okA n (6, p', m', [], D', k', cl) ∧ aTo T n (6, p', m', [], D', k', cl) x ∧ blk T n p' = p' ∧ ¬ atB T n p' wOr = true ∧ ¬ atB T n p' wAnd = true
section
variable {d n p m len r a0 : Nat} {T : Nat → Int} {P : Int → sM → sG → Prop} {PV : sM → sG → Prop} {M : sM} {G : sG} {f v : Int} {s : stS} {D : den} {k : Int} {cl : List (Int × den)} {x : Int × List (Int × den)}
theorem c174r (hd : 44 ≤ d) (ho : tOk T n) (hT : rTp M T n) (h0 : rAt M r len m) (hR : rRng M r len) (hC : rCls M r cl len) (h87 : M 87 r = (cl.length : Int)) (h17 : M 82 17 = (cl.length : Int)) (hlp : len ≤ p) (hA : okA n (0, p, m, [], D, k, cl)) (ht : aTo T n (0, p, m, [], D, k, cl) x)
    (kf : ∀ M' q' v', offP r M M' → x.1 ≠ 0 → q' ≤ n → P 0 (rS M' q' x.1 v') G)
    (kk : ∀ M' len' p' m' k' D' v', p < p' → rCl1 T n r cl x M M' len' p' m' k' D' → P 1 (rS M' p' 0 v') G) : sC d 174 [vO 12 82] (rS M p 0 v) G (QI P) := by
  obtain ⟨d, rfl⟩ := sD 1 (d := d) (by omega)
  have h400 := ho.1
  have hp : p ≤ n := hA.2.2.2.1
  have hcl12 : cl.length ≤ 12 := hA.2.2.2.2.2.1
  obtain ⟨q, hq⟩ : ∃ q, q = blk T n p := ⟨_, rfl⟩
  have hpq : p ≤ q := by rw [hq]; exact run_ge hp
  have hqn : q ≤ n := by rw [hq]; exact run_le hp
  have hb : blk T n q = q := by rw [hq]; exact blk_blk hp
  have hc := aTo.cla ht
  rw [← hq] at hc
  obtain ⟨b1, b2, b3, b4, b5⟩ := h0
  have g14 : rS M q 0 v 82 14 = (r : Int) := (rS_o (Or.inr ⟨by decide, by decide, by decide⟩)).trans b1
  have g17 : rS M q 0 v 82 17 = (cl.length : Int) := (rS_o (Or.inr ⟨by decide, by decide, by decide⟩)).trans h17
  have cw : ∀ {P : Int → sM → sG → Prop} {M1 : sM} {w : List Nat} {y z : Int}, rTp M1 T n → okL w → y = ((wvW w : Nat) : Int) → (atB T n q w = true → P 1 (rS M1 q 0 z) G) → (¬ atB T n q w = true → P 0 (rS M1 q 0 z) G) → sC d 176 [vO 12 82, vL y] (rS M1 q 0 z) G (QI P) := fun hT1 hw hy k1 k0 => by
    refine c176 (by omega) ho hT1 hqn hw hy (fun z => ?_) (fun z => ?_)
    · rw [hb] at z ⊢; exact k1 (atB_y z)
    · rw [hb] at z ⊢; exact k0 (atB_n z)
  -- the clause itself
  have t87 : aKd T n q ≠ -1 → sW (sC d) 174 (QI P) 87 [vO 12 82, vI (q : Int), vI 0, vN] [] (rS M q 0 v) G 0 0 := by
    intro hk
    obtain ⟨hc1, hc2⟩ := hc.2 hk
    have gp : cl.length < 12 → ∀ (w : Nat) (wd : List Nat) (kd : Int), okL wd → wd.length = w → atB T n q wd = true → aKd T n q = kd → (if kd = 2 then 6 else 4) = w → sC d 185 [vO 12 82, vI kd] (rS (sUpd M 82 17 ((cl.length : Int) + 1)) q 0 v) G (QI (fun r3 M3 G3 => (r3 = 0 ∨ r3 = 1) ∧ P r3 M3 G3)) := by
      intro h12 w wd kd hwl hwlen hat hkd hw
      have hlt : lts T n q = q + w := (atW_lts hqn hwl (atB_i.1 hat)).trans (by rw [hwlen])
      have t1 := hc2 h12
      rw [hkd, hw] at t1
      have hA1 := hA.cla (T := T) (by rw [← hq]; unfold aCla; rw [if_neg hk, if_neg (by omega)])
      rw [← hq] at hA1
      unfold aCla at hA1
      rw [if_neg hk, if_neg (by omega), hkd, hw] at hA1
      have oX : offP r M (sUpd M 82 17 ((cl.length : Int) + 1)) := offP.u2 (Or.inl rfl)
      have x84 : sUpd M 82 17 ((cl.length : Int) + 1) 84 = M 84 := sUpd_ne (by decide)
      have xe := rSg_84 (r := r) x84
      have w2 : 0 < w := by rw [← hwlen]; exact hwl.1
      refine c185 (p2 := q + w) (by omega) ho (oX.tp hT) hqn hlt ⟨by rw [sUpd_ni (by decide)]; exact b1, b2, by rw [sUpd_ne (by decide)]; exact b3, by rw [sUpd_ni (by decide)]; exact b4, b5⟩ (fun i hi => by rw [xe.1, xe.2]; exact hR i hi) (hC.congr (fun j _ => by rw [sUpd_ne (by decide)]) (fun i _ => by rw [xe.1, xe.2]; exact ⟨rfl, rfl⟩)) (by rw [sUpd_ne (by decide)]; exact h87) (by omega) hA1.1 t1 (fun M' q' v' o' hf hq' => ⟨Or.inl rfl, kf M' q' v' (oX.trans o') hf hq'⟩) (fun M' len' p' m' D' v' o' m17 a' hR' hl' hpp hC' m87 hA' ht' hb' no na => ⟨Or.inr rfl, kk M' len' p' m' kd D' v' (by omega) ⟨oX.trans o', ?_, a', hR', hl', hC', m87, hA', ht', hb', no, na⟩⟩)
      rw [m17, sUpd_eq]; rfl
    refine s174_87 ⟨fun _ => ⟨fun z => ?_, fun z => ?_⟩, fun z => absurd rfl z⟩
    · refine ⟨⟨by omega, by omega⟩, ?_⟩
      have h12 : cl.length < 12 := by omega
      rw [g17, rS_u (Or.inr ⟨by decide, by decide, by decide⟩)]
      have hTX : rTp (sUpd M 82 17 ((cl.length : Int) + 1)) T n := (offP.u2 (r := r) (Or.inl rfl)).tp hT
      refine cw hTX ok_come.1 (by rw [ok_come.2.1]; rfl) (fun z1 => ⟨fun y => absurd y (by decide), fun _ => ?_⟩) (fun z1 => ⟨fun _ => ?_, fun y => absurd rfl y⟩)
      · exact gp h12 4 wCome 0 ok_come.1 ok_come.2.2 z1 (by unfold aKd; rw [if_pos z1]) rfl
      refine cw hTX ok_hold.1 (by rw [ok_hold.2.1]; rfl) (fun z2 => ⟨fun y => absurd y (by decide), fun _ => ?_⟩) (fun z2 => ⟨fun _ => ?_, fun y => absurd rfl y⟩)
      · exact gp h12 4 wHold 1 ok_hold.1 ok_hold.2.2 z2 (by unfold aKd; rw [if_neg z1, if_pos z2]) rfl
      have z3 : atB T n q wWin = true := Decidable.byContradiction fun y => hk (by unfold aKd; rw [if_neg z1, if_neg z2, if_neg y])
      exact gp h12 6 wWin 2 ok_win.1 ok_win.2.2 z3 (by unfold aKd; rw [if_neg z1, if_neg z2, if_pos z3]) rfl
    · refine c178 (by omega) ⟨by omega, by decide, by decide⟩ ⟨Or.inl rfl, ?_⟩
      have hx := hc1 (by omega)
      rw [if_pos rfl, ← hx]
      exact kf M q v (offP.refl _ _) (by rw [hx]; omega) hqn
  refine e174 (s174_0 (c175 (by omega) ho hT hp ?_))
  rw [← hq, rS_p]
  refine ⟨fun _ => ?_, fun z => by omega⟩
  refine cw hT ok_come.1 (by rw [ok_come.2.1]; rfl) (fun z1 => ⟨fun _ => ?_, fun y => absurd y (by decide)⟩) (fun z1 => ⟨fun y => absurd rfl y, fun _ => ?_⟩)
  · exact t87 (by unfold aKd; rw [if_pos z1]; decide)
  refine cw hT ok_hold.1 (by rw [ok_hold.2.1]; rfl) (fun z2 => ⟨fun _ => ?_, fun y => absurd y (by decide)⟩) (fun z2 => ⟨fun y => absurd rfl y, fun _ => ?_⟩)
  · exact t87 (by unfold aKd; rw [if_neg z1, if_pos z2]; decide)
  refine cw hT ok_win.1 (by rw [ok_win.2.1]; rfl) (fun z3 => ⟨fun y => absurd y (by decide), fun _ => ?_⟩) (fun z3 => ⟨fun _ => ?_, fun y => absurd rfl y⟩)
  · exact t87 (by unfold aKd; rw [if_neg z1, if_neg z2, if_pos z3]; decide)
  refine c178 (by omega) ⟨by omega, by decide, by decide⟩ ⟨Or.inl rfl, ?_⟩
  have hx := hc.1 (by unfold aKd; rw [if_neg z1, if_neg z2, if_neg z3])
  rw [if_pos rfl, Int.add_zero, ← hx]
  exact kf M q v (offP.refl _ _) (by rw [hx]; omega) hqn
theorem c173r (hd : 50 ≤ d) (ho : tOk T n) (hT : rTp M T n) (h14 : M 82 14 = (r : Int)) (r6 : r < 6) (h87 : M 87 r = 0) (ht : aTo T n aI x)
    (kf : ∀ N q v, (∀ a, a ≠ 82 → a ≠ 84 → a ≠ 85 → a ≠ 86 → a ≠ 87 → a ≠ 90 → N a = M a) → N 82 2 = M 82 2 → (∀ j, j < 400 * r ∨ 400 * r + 400 ≤ j → N 84 j = M 84 j) → (∀ j, j < 36 * r ∨ 36 * r + 36 ≤ j → N 86 j = M 86 j) → (∀ j, j ≠ r → N 87 j = M 87 j) → x.1 ≠ 0 → P 0 (sUpd (rS N q x.1 v) 82 1 0) G)
    (kk : ∀ N q v len m, (∀ a, a ≠ 82 → a ≠ 84 → a ≠ 85 → a ≠ 86 → a ≠ 87 → a ≠ 90 → N a = M a) → N 82 2 = M 82 2 → (∀ j, j < 400 * r ∨ 400 * r + 400 ≤ j → N 84 j = M 84 j) → (∀ j, j < 36 * r ∨ 36 * r + 36 ≤ j → N 86 j = M 86 j) → (∀ j, j ≠ r → N 87 j = M 87 j) → x.1 = 0 → rAt N r len m → len ≤ 400 → rRng N r len → rCls N r x.2 len → N 87 r = (x.2.length : Int) → x.2.length ≤ 12 → (∀ y, y ∈ x.2 → d01 y.2) → P 1 (sUpd (rS N q 0 v) 82 1 0) G) : sC d 173 [vO 12 82] M G (QI P) := by
  obtain ⟨d, rfl⟩ := sD 1 (d := d) (by omega)
  have h400 := ho.1
  obtain ⟨X, hX⟩ : ∃ X, X = sUpd (sUpd (sUpd (sUpd (sUpd M 85 (M 82 14).toNat 0) 82 17 0) 82 11 0) 82 12 0) 82 15 0 := ⟨_, rfl⟩
  have x1 : ∀ a, a ≠ 82 → a ≠ 85 → X a = M a := fun a h1 h2 => by
    rw [hX, sUpd_ne h1, sUpd_ne h1, sUpd_ne h1, sUpd_ne h1, sUpd_ne h2]
  have x2 : ∀ i, i ≠ 17 → i ≠ 11 → i ≠ 12 → i ≠ 15 → X 82 i = M 82 i := fun i i1 i2 i3 i4 => by
    rw [hX, sUpd_ni i4, sUpd_ni i3, sUpd_ni i2, sUpd_ni i1, sUpd_ne (by decide)]
  have x11 : X 82 11 = ((0 : Nat) : Int) := by rw [hX, sUpd_ni (by decide), sUpd_ni (by decide), sUpd_eq]; rfl
  have x12 : X 82 12 = 0 := by rw [hX, sUpd_ni (by decide), sUpd_eq]
  have x17 : X 82 17 = 0 := by rw [hX, sUpd_ni (by decide), sUpd_ni (by decide), sUpd_ni (by decide), sUpd_eq]
  have x15 : X 82 15 = 0 := by rw [hX, sUpd_eq]
  have x85 : X 85 r = 0 := by
    rw [hX, sUpd_ne (by decide), sUpd_ne (by decide), sUpd_ne (by decide), sUpd_ne (by decide), h14]
    exact sUpd_eq
  have hTX : rTp X T n := by
    unfold rTp
    rw [x2 1 (by decide) (by decide) (by decide) (by decide), x1 83 (by decide) (by decide)]
    exact hT
  -- the frames, from X back to M
  have fr : ∀ N, offP r X N → (∀ a, a ≠ 82 → a ≠ 84 → a ≠ 85 → a ≠ 86 → a ≠ 87 → a ≠ 90 → N a = M a) ∧ N 82 2 = M 82 2 ∧ (∀ j, j < 400 * r ∨ 400 * r + 400 ≤ j → N 84 j = M 84 j) ∧ (∀ j, j < 36 * r ∨ 36 * r + 36 ≤ j → N 86 j = M 86 j) ∧ (∀ j, j ≠ r → N 87 j = M 87 j) := fun N o => ⟨fun a h1 h2 h3 h4 h5 h6 => (o.1 a h1 h2 h3 h4 h5 h6).trans (x1 a h1 h3), (o.2.1 2 (by decide) (by decide) (by decide) (by decide) (by decide) (by decide) (by decide)).trans (x2 2 (by decide) (by decide) (by decide) (by decide)), fun j hj => (o.2.2.1 j hj).trans (by rw [x1 84 (by decide) (by decide)]), fun j hj => (o.2.2.2.1 j hj).trans (by rw [x1 86 (by decide) (by decide)]), fun j hj => (o.2.2.2.2 j hj).trans (by rw [x1 87 (by decide) (by decide)])⟩
  have bad : ∀ N q v, offP r X N → x.1 ≠ 0 → sW (sC d) 173 (QI P) 35 [vO 12 82, vI 0] [] (rS N q x.1 v) G 0 0 := fun N q v o hf => by
    obtain ⟨f1, f2, f3, f4, f5⟩ := fr N o
    refine s173_35 ⟨fun _ => ⟨fun _ => kf N q v f1 f2 f3 f4 f5 hf, fun z => ?_⟩, fun z => absurd rfl z⟩
    have : rS N q x.1 v 82 12 = x.1 := rS_f
    exact absurd (this.symm.trans z) hf
  have loop : ∀ y cl M0 N len p m k D v, n - p ≤ y → offP r X M0 → rCl1 T n r cl x M0 N len p m k D → sW (sC d) 173 (QI P) 35 [vO 12 82, vI 1] [] (rS N p 0 v) G 0 0 := by
    intro y
    induction y with
    | zero =>
      intro cl M0 N len p m k D v hy o0 H
      obtain ⟨o1, n17, a1, R1, lp, C1, n87, A1, t1, hb, no, na⟩ := H
      have hp : p ≤ n := A1.2.2.2.1
      have oN := o0.trans o1
      have hTN := oN.tp hTX
      obtain ⟨f1, f2, f3, f4, f5⟩ := fr N oN
      have hc : chr T n p = -1 := by unfold chr; rw [if_neg (by omega)]
      have hl := (aTo.last (p := p) (s := []) (by rw [hb]; exact no) (by rw [hb]; exact na) (by rw [hb]; exact fun z => absurd z.2 (Nat.lt_irrefl 0)) t1).2 rfl
      rw [hb] at hl
      have hx := hl.2.2.1 hc
      have hD : d01 D := A1.2.2.2.2.2.2.2.2.2.2.2.1 rfl
      have hcl := A1.2.2.2.2.2.2.1
      have h12 : cl.length < 12 := A1.2.2.2.2.2.2.2.2.2.2.2.2 (by decide) (by decide)
      refine s173_35 ⟨fun z => absurd z (by decide), fun _ => c175 (by omega) ho hTN hp ⟨fun _ => c175 (by omega) ho hTN (run_le hp) ⟨fun _ => ⟨fun z => ?_, fun _ => ?_⟩, fun z => ?_⟩, fun z => ?_⟩⟩
      · exact absurd rS_f z
      · rw [hb, hb]
        have e2 : x.2 = (k, D) :: cl := by rw [hx]; rfl
        refine kk N p v len m f1 f2 f3 f4 f5 (by rw [hx]) a1 (by omega) R1 (by rw [e2]; exact C1) (by rw [e2]; exact n87) (by rw [e2]; show cl.length + 1 ≤ 12; omega) (fun w hw => ?_)
        rw [e2] at hw
        rcases List.mem_cons.1 hw with z | z
        · rw [z]; exact hD
        · exact hcl w z
      · rw [hb, hb] at z; exact absurd hc z
      · rw [hb, hc] at z; exact absurd z (by decide)
    | succ y ih =>
      intro cl M0 N len p m k D v hy o0 H
      obtain ⟨o1, n17, a1, R1, lp, C1, n87, A1, t1, hb, no, na⟩ := H
      have hp : p ≤ n := A1.2.2.2.1
      have oN := o0.trans o1
      have hTN := oN.tp hTX
      obtain ⟨f1, f2, f3, f4, f5⟩ := fr N oN
      have hl := (aTo.last (p := p) (s := []) (by rw [hb]; exact no) (by rw [hb]; exact na) (by rw [hb]; exact fun z => absurd z.2 (Nat.lt_irrefl 0)) t1).2 rfl
      rw [hb] at hl
      have hD : d01 D := A1.2.2.2.2.2.2.2.2.2.2.2.1 rfl
      have hcl := A1.2.2.2.2.2.2.1
      have h12 : cl.length < 12 := A1.2.2.2.2.2.2.2.2.2.2.2.2 (by decide) (by decide)
      have hm60 : m ≤ 60 := A1.2.2.1
      have hall : ∀ w, w ∈ (k, D) :: cl → d01 w.2 := fun w hw => by
        rcases List.mem_cons.1 hw with z | z
        · rw [z]; exact hD
        · exact hcl w z
      refine s173_35 ⟨fun z => absurd z (by decide), fun _ => c175 (by omega) ho hTN hp ⟨fun z59 => c175 (by omega) ho hTN (run_le hp) ⟨fun zE => ⟨fun z => ?_, fun _ => ?_⟩, fun zE => ?_⟩, fun z59 => ?_⟩⟩
      · exact absurd rS_f z
      · rw [hb, hb] at zE
        have hx := hl.2.2.1 zE
        rw [hb, hb]
        have e2 : x.2 = (k, D) :: cl := by rw [hx]; rfl
        exact kk N p v len m f1 f2 f3 f4 f5 (by rw [hx]) a1 (by omega) R1 (by rw [e2]; exact C1) (by rw [e2]; exact n87) (by rw [e2]; show cl.length + 1 ≤ 12; omega) (by rw [e2]; exact hall)
      · rw [hb] at z59
        rw [hb, hb] at zE ⊢
        have hx := hl.2.2.2 z59 zE
        rw [rS_p]
        refine c178 (by omega) ⟨by omega, by decide, by decide⟩ ?_
        rw [if_pos rfl, Int.add_zero, ← hx]
        refine ⟨fun z => kf N p v f1 f2 f3 f4 f5 (by rw [hx]; omega), fun z => ?_⟩
        have : rS N p x.1 v 82 12 = x.1 := rS_f
        exact absurd (this.symm.trans z) (by rw [hx]; omega)
      · rw [hb] at z59 ⊢
        have hlt := chr_lt z59 (by decide)
        have t2 := hl.2.1 z59
        have gp : rS N p 0 v 82 11 = (p : Int) := rS_p
        refine ⟨⟨by omega, by omega⟩, ?_⟩
        have up : sUpd (rS N p 0 v) 82 11 (rS N p 0 v 82 11 + 1) = rS N (p + 1) 0 v := by
          rw [gp, show (p : Int) + 1 = ((p + 1 : Nat) : Int) from rfl, rS_up]
        rw [up]
        have A2 : okA n (0, p + 1, m, [], D, k, (k, D) :: cl) := ⟨trivial, Nat.zero_le _, hm60, by omega, by decide, by show cl.length + 1 ≤ 12; omega, hall, fun _ => rfl, fun z => by omega, fun z => by omega, fun z => by omega, fun z => by omega, fun z => by omega⟩
        exact c174r (by omega) ho hTN a1 R1 C1 n87 n17 (by omega) A2 t2 (fun M' q' v' o' hf hq' => bad M' q' v' (oN.trans o') hf) (fun M' len' p' m' k' D' v' hpp H' => ih ((k, D) :: cl) N M' len' p' m' k' D' v' (by omega) oN H')
  refine e173 (s173_0 ⟨⟨by omega, by omega⟩, ?_⟩)
  rw [← hX]
  have e := rS_self (M := X) (q := 0) (f := 0) (v := X 82 13) x11 x12 rfl
  rw [← e]
  exact c174r (cl := []) (len := 0) (m := 0) (by omega) ho hTX ⟨(x2 14 (by decide) (by decide) (by decide) (by decide)).trans h14, r6, x85, x15, Nat.zero_le _⟩ (fun i hi => absurd hi (Nat.not_lt_zero i)) rfl (by rw [x1 87 (by decide) (by decide)]; exact h87) x17 (Nat.le_refl _) okA_I ht (fun M' q' v' o' hf hq' => bad M' q' v' o' hf) (fun M' len' p' m' k' D' v' hpp H' => loop _ [] X M' len' p' m' k' D' v' (Nat.le_refl _) (offP.refl _ _) H')
end
