/-! THE RULE PARSER, reference: a step put, a part made, a value. -/
theorem sg_lo {o v : Nat} (ho : o < 16) (hv : v ≤ 99999) : iAnd ((o : Int) + 16 * (v : Int)) 15 = (o : Int) ∧ iShr ((o : Int) + 16 * (v : Int)) 4 = (v : Int) := by
  have e : ((o : Int) + 16 * (v : Int)) = ((o + 16 * v : Nat) : Int) := rfl
  have l : o + 16 * v < 2147483648 := by omega
  constructor
  · rw [e, show (15 : Int) = ((15 : Nat) : Int) from rfl, n_and l]
    have : (o + 16 * v) &&& 15 = (o + 16 * v) % 2 ^ 4 := Nat.and_two_pow_sub_one_eq_mod _ 4
    rw [this, show (2 : Nat) ^ 4 = 16 from rfl]
    omega
  · rw [e, show (4 : Int) = ((4 : Nat) : Int) from rfl, n_shr l (by decide), show (2 : Nat) ^ 4 = 16 from rfl]
    omega
/-- the steps below stay, and all that has nothing to do with them -/
def offV (r len : Nat) (M M' : sM) : Prop := (∀ a, a ≠ 82 → a ≠ 84 → a ≠ 85 → M' a = M a) ∧ (∀ i, i ≠ 11 → i ≠ 12 → i ≠ 13 → i ≠ 15 → M' 82 i = M 82 i) ∧ (∀ j, j ≠ r → M' 85 j = M 85 j) ∧ ∀ j, j < 400 * r + len ∨ 400 * r + 400 ≤ j → M' 84 j = M 84 j
theorem offV.refl (r len : Nat) (M : sM) : offV r len M M := ⟨fun _ _ _ _ => rfl, fun _ _ _ _ _ => rfl, fun _ _ => rfl, fun _ _ => rfl⟩
theorem offV.trans {r len len' : Nat} {M M' M'' : sM} (h : offV r len M M') (h' : offV r len' M' M'') (hl : len ≤ len') : offV r len M M'' := ⟨fun a h1 h2 h3 => (h'.1 a h1 h2 h3).trans (h.1 a h1 h2 h3), fun i h1 h2 h3 h4 => (h'.2.1 i h1 h2 h3 h4).trans (h.2.1 i h1 h2 h3 h4), fun j hj => (h'.2.2.1 j hj).trans (h.2.2.1 j hj), fun j hj => (h'.2.2.2 j (by omega)).trans (h.2.2.2 j hj)⟩
theorem offV.tp {r len n : Nat} {T : Nat → Int} {M M' : sM} (h : offV r len M M') (hT : rTp M T n) : rTp M' T n := ⟨(h.2.1 1 (by decide) (by decide) (by decide) (by decide)).trans hT.1, fun i hi => by rw [h.1 83 (by decide) (by decide) (by decide)]; exact hT.2 i hi⟩
theorem offV.rows {r len : Nat} {M M' : sM} (h : offV r len M M') {i : Nat} (hi : i < len) : rSg M' r i = rSg M r i ∧ rVg M' r i = rVg M r i := by
  unfold rSg rVg
  rw [h.2.2.2 _ (by omega)]
  exact ⟨rfl, rfl⟩
def rRng (M : sM) (r len : Nat) : Prop := ∀ i : Nat, i < len → 0 ≤ rVg M r i ∧ rVg M r i ≤ 99999 ∧ (rSg M r i = 1 → rVg M r i ≤ 9)
/-- where the reference's rule stands: its text, its steps, the parts made -/
def rAt (M : sM) (r len m : Nat) : Prop := M 82 14 = (r : Int) ∧ r < 6 ∧ M 85 r = (len : Int) ∧ M 82 15 = (m : Int) ∧ m ≤ 60
/-- a step put -/
def rPut (M : sM) (r len o v : Nat) : sM := sUpd (sUpd M 84 (400 * r + len) ((o : Int) + 16 * (v : Int))) 85 r ((len + 1 : Nat) : Int)
theorem rPut.off {M : sM} {r len o v : Nat} (hl : len < 400) : offV r len M (rPut M r len o v) := by
  unfold rPut
  refine ⟨fun a h1 h2 h3 => by rw [sUpd_ne h3, sUpd_ne h2], fun i _ _ _ _ => by rw [sUpd_ne (by decide), sUpd_ne (by decide)], fun j hj => by rw [sUpd_ni hj, sUpd_ne (by decide)], fun j hj => by rw [sUpd_ne (by decide), sUpd_ni (by omega)]⟩
theorem rPut.len {M : sM} {r len o v : Nat} : rPut M r len o v 85 r = ((len + 1 : Nat) : Int) := by unfold rPut; exact sUpd_eq
theorem rPut.at {M : sM} {r len o v : Nat} (ho : o < 16) (hv : v ≤ 99999) : rSg (rPut M r len o v) r len = (o : Int) ∧ rVg (rPut M r len o v) r len = (v : Int) := by
  have e : rPut M r len o v 84 (400 * (r : Int) + (len : Int)).toNat = (o : Int) + 16 * (v : Int) := by
    unfold rPut
    rw [sUpd_ne (by decide), show (400 * (r : Int) + (len : Int)).toNat = 400 * r + len by omega, sUpd_eq]
  unfold rSg rVg
  rw [e]
  exact sg_lo ho hv
theorem rPut.rng {M : sM} {r len o v : Nat} (hl : len < 400) (h : rRng M r len) (ho : o < 16) (hv : v ≤ 99999) (h1 : o = 1 → v ≤ 9) : rRng (rPut M r len o v) r (len + 1) := fun i hi => by
  by_cases c : i = len
  · rw [c, (rPut.at ho hv).1, (rPut.at ho hv).2]
    exact ⟨by omega, by omega, fun z => by omega⟩
  · have e := (rPut.off (M := M) (r := r) (o := o) (v := v) hl).rows (i := i) (by omega)
    rw [e.1, e.2]
    exact h i (by omega)
section
variable {d n p m len r : Nat} {T : Nat → Int} {P : Int → sM → sG → Prop} {PV : sM → sG → Prop} {M : sM} {G : sG} {f v : Int}
theorem c194 {o w : Nat} {x1 x2 : Int} (hd : 2 ≤ d) (h14 : M 82 14 = (r : Int)) (r6 : r < 6) (h85 : M 85 r = (len : Int)) (hl : len < 400) (e1 : x1 = (o : Int)) (e2 : x2 = (w : Int)) (ho : o < 16) (hw : w ≤ 99999) (kk : PV (rS (rPut M r len o w) p f v) G) : sC d 194 [vO 12 82, vI x1, vI x2] (rS M p f v) G (QV PV) := by
  obtain ⟨d, rfl⟩ := sD 1 (d := d) (by omega)
  have g14 : rS M p f v 82 14 = (r : Int) := by rw [rS_o (Or.inr ⟨by decide, by decide, by decide⟩)]; exact h14
  have g85 : rS M p f v 85 (rS M p f v 82 14).toNat = (len : Int) := by rw [g14, rS_a (by decide)]; exact h85
  refine e194 (s194_0 ⟨⟨by omega, by omega⟩, ⟨(by first | omega | assumption | (refine ⟨?_, ?_⟩ <;> omega) | (simp_all; done)), (by first | omega | assumption | (refine ⟨?_, ?_⟩ <;> omega) | (simp_all; done))⟩, ⟨by omega, by omega⟩, ⟨by omega, by omega⟩, ⟨by omega, by omega⟩, ⟨(by first | omega | assumption | (refine ⟨?_, ?_⟩ <;> omega) | (simp_all; done)), (by first | omega | assumption | (refine ⟨?_, ?_⟩ <;> omega) | (simp_all; done))⟩, ⟨by omega, by omega⟩, ?_⟩)
  · rw [g85, g14, e1, e2]
    rw [show (400 * (r : Int) + (len : Int)).toNat = 400 * r + len by omega, show ((r : Int)).toNat = r from rfl, rS_u (Or.inl (by decide)), rS_u (Or.inl (by decide))]
    exact kk
  all_goals (first | omega | exact ⟨by omega, by omega⟩)
theorem c193 {q : Nat} (hd : 4 ≤ d) (hm : M 82 15 = (m : Int)) (m60 : m ≤ 60) (hq : q ≤ 400) (k0 : m = 60 → P 0 (rS M p (if f = 0 then 1 + 8 * (q : Int) + 3 else f) v) G) (k1 : m < 60 → P 1 (rS (sUpd M 82 15 ((m + 1 : Nat) : Int)) p f v) G) : sC d 193 [vO 12 82, vI (q : Int)] (rS M p f v) G (QI P) := by
  obtain ⟨d, rfl⟩ := sD 2 (d := d) (by omega)
  have g15 : rS M p f v 82 15 = (m : Int) := by rw [rS_o (Or.inr ⟨by decide, by decide, by decide⟩)]; exact hm
  refine e193 (s193_0 ⟨fun q1 => ⟨⟨by omega, by omega⟩, ?_⟩, fun q2 => ?_⟩)
  · rw [g15, rS_u (Or.inr ⟨by decide, by decide, by decide⟩)]
    exact k1 (by omega)
  · exact c178 (by omega) ⟨by omega, by decide, by decide⟩ ⟨Or.inl rfl, k0 (by omega)⟩
  all_goals omega
theorem c195 (hd : 8 ≤ d) (ho : tOk T n) (hT : rTp M T n) (hp : p ≤ n) (hb : blk T n p = p) (kk : P (wdF T n p) (rS M p f v) G) : sC d 195 [vO 12 82] (rS M p f v) G (QI P) := by
  obtain ⟨d, rfl⟩ := sD 1 (d := d) (by omega)
  have cw : ∀ {P : Int → sM → sG → Prop} {w : List Nat} {y : Int}, okL w → y = ((wvW w : Nat) : Int) → (atW T n p w → P 1 (rS M p f v) G) → (¬ atW T n p w → P 0 (rS M p f v) G) → sC d 176 [vO 12 82, vL y] (rS M p f v) G (QI P) := fun hw hy k1 k0 => by
    refine c176 (by omega) ho hT hp hw hy (fun z => ?_) (fun z => ?_)
    · rw [hb] at z ⊢; exact k1 z
    · rw [hb] at z ⊢; exact k0 z
  unfold wdF at kk
  refine e195 (s195_0 ?_)
  refine cw (w := wNow) ok_now.1 (by rw [ok_now.2.1]; rfl) (fun z => ?_) (fun z => ?_)
  · rw [if_pos (atB_y z)] at kk
    exact ⟨fun y => absurd y (by decide), fun _ => kk⟩
  rw [if_neg (atB_n z)] at kk
  refine ⟨fun _ => ?_, fun y => absurd rfl y⟩
  refine cw (w := wPers) ok_pers.1 (by rw [ok_pers.2.1]; rfl) (fun z => ?_) (fun z => ?_)
  · rw [if_pos (atB_y z)] at kk
    exact ⟨fun y => absurd y (by decide), fun _ => kk⟩
  rw [if_neg (atB_n z)] at kk
  refine ⟨fun _ => ?_, fun y => absurd rfl y⟩
  refine cw (w := wHouse) ok_house.1 (by rw [ok_house.2.1]; rfl) (fun z => ?_) (fun z => ?_)
  · rw [if_pos (atB_y z)] at kk
    exact ⟨fun y => absurd y (by decide), fun _ => kk⟩
  rw [if_neg (atB_n z)] at kk
  refine ⟨fun _ => ?_, fun y => absurd rfl y⟩
  refine cw (w := wIns) ok_ins.1 (by rw [ok_ins.2.1]; rfl) (fun z => ?_) (fun z => ?_)
  · rw [if_pos (atB_y z)] at kk
    exact ⟨fun y => absurd y (by decide), fun _ => kk⟩
  rw [if_neg (atB_n z)] at kk
  refine ⟨fun _ => ?_, fun y => absurd rfl y⟩
  refine cw (w := wAft) ok_aft.1 (by rw [ok_aft.2.1]; rfl) (fun z => ?_) (fun z => ?_)
  · rw [if_pos (atB_y z)] at kk
    exact ⟨fun y => absurd y (by decide), fun _ => kk⟩
  rw [if_neg (atB_n z)] at kk
  refine ⟨fun _ => ?_, fun y => absurd rfl y⟩
  refine cw (w := wRoom) ok_room.1 (by rw [ok_room.2.1]; rfl) (fun z => ?_) (fun z => ?_)
  · rw [if_pos (atB_y z)] at kk
    exact ⟨fun y => absurd y (by decide), fun _ => kk⟩
  rw [if_neg (atB_n z)] at kk
  refine ⟨fun _ => ?_, fun y => absurd rfl y⟩
  refine cw (w := wWins) ok_wins.1 (by rw [ok_wins.2.1]; rfl) (fun z => ?_) (fun z => ?_)
  · rw [if_pos (atB_y z)] at kk
    exact ⟨fun y => absurd y (by decide), fun _ => kk⟩
  rw [if_neg (atB_n z)] at kk
  refine ⟨fun _ => ?_, fun y => absurd rfl y⟩
  refine cw (w := wWor) ok_wor.1 (by rw [ok_wor.2.1]; rfl) (fun z => ?_) (fun z => ?_)
  · rw [if_pos (atB_y z)] at kk
    exact ⟨fun y => absurd y (by decide), fun _ => kk⟩
  rw [if_neg (atB_n z)] at kk
  refine ⟨fun _ => ?_, fun y => absurd rfl y⟩
  refine cw (w := wLate) ok_late.1 (by rw [ok_late.2.1]; rfl) (fun z => ?_) (fun z => ?_)
  · rw [if_pos (atB_y z)] at kk
    exact ⟨fun y => absurd y (by decide), fun _ => kk⟩
  rw [if_neg (atB_n z)] at kk
  refine ⟨fun _ => ?_, fun y => absurd rfl y⟩
  refine cw (w := wLong) ok_long.1 (by rw [ok_long.2.1]; rfl) (fun z => ?_) (fun z => ?_)
  · rw [if_pos (atB_y z)] at kk
    exact ⟨fun y => absurd y (by decide), fun _ => kk⟩
  rw [if_neg (atB_n z)] at kk
  exact ⟨fun _ => kk, fun y => absurd rfl y⟩
/-- the fault of a value, counted with the parts -/
def vFt (T : Nat → Int) (n q m : Nat) : Int := if (valF T n q).2.1 ≠ 0 then (valF T n q).2.1 else if 60 ≤ m then 1 + 8 * (q : Int) + 3 else 0
theorem c192 (hd : 10 ≤ d) (ho : tOk T n) (hT : rTp M T n) (hp : p ≤ n) (hA : rAt M r len m) (hlp : len ≤ p) (kf : ∀ q' v', q' ≤ n → vFt T n (blk T n p) m ≠ 0 → P 0 (rS M q' (vFt T n (blk T n p) m) v') G) (kk : vFt T n (blk T n p) m = 0 → ∀ v', P 1 (rS (rPut (sUpd M 82 15 ((m + 1 : Nat) : Int)) r len (valF T n (blk T n p)).2.2.1 (valF T n (blk T n p)).2.2.2.toNat) (valF T n (blk T n p)).1 0 v') G) : sC d 192 [vO 12 82] (rS M p 0 v) G (QI P) := by
  obtain ⟨d, rfl⟩ := sD 1 (d := d) (by omega)
  obtain ⟨q, hq⟩ : ∃ q, q = blk T n p := ⟨_, rfl⟩
  have hqn : q ≤ n := by rw [hq]; exact run_le hp
  have hpq : p ≤ q := by rw [hq]; exact run_ge hp
  have hb : blk T n q = q := by rw [hq]; exact blk_blk hp
  have h400 := ho.1
  obtain ⟨a14, r6, a85, a15, m60⟩ := hA
  have hvs := valF_sp (T := T) (n := n) (q := q) hqn hb
  refine e192 (s192_0 (c175 (by omega) ho hT hp ?_))
  rw [← hq] at kf kk ⊢
  rw [rS_p]
  have hT1 : rTp (sUpd M 82 15 ((m + 1 : Nat) : Int)) T n := hT.u ⟨by decide, Or.inr (by decide)⟩
  have s14 : sUpd M 82 15 ((m + 1 : Nat) : Int) 82 14 = (r : Int) := by rw [sUpd_ni (by decide)]; exact a14
  have s85 : sUpd M 82 15 ((m + 1 : Nat) : Int) 85 r = (len : Int) := by rw [sUpd_ne (by decide)]; exact a85
  have full : ∀ q' v', q' ≤ n → (valF T n q).2.1 = 0 → m = 60 → P 0 (rS M q' (if (0 : Int) = 0 then 1 + 8 * (q : Int) + 3 else 0) v') G := fun q' v' hq' h0 hm => by
    have e : vFt T n q m = 1 + 8 * (q : Int) + 3 := by unfold vFt; rw [if_neg (fun z => z h0), if_pos (by omega)]
    rw [e] at kf
    rw [if_pos rfl]
    exact kf q' v' hq' (by omega)
  refine c182 (by omega) ho hT (fun z1 z2 => ?_) (fun z => ?_)
  · have hc : chr T n q = T q := by unfold chr; rw [if_pos z1]
    have hv : valF T n q = ((numF T n q 0 99999).1, (numF T n q 0 99999).2.1, 0, (numF T n q 0 99999).2.2) := by unfold valF; rw [if_pos (by rw [hc]; exact z2)]
    refine ⟨fun y => absurd y (by decide), fun _ => ?_⟩
    refine c181 (by omega) ho hT hqn (fun q' v' hq' hf => ⟨fun _ => ?_, fun y => absurd rfl y⟩) (fun hf => ⟨fun y => absurd y (by decide), fun _ => ?_⟩)
    · have e : vFt T n q m = (numF T n q 0 99999).2.1 := by unfold vFt; rw [hv, if_pos hf]
      rw [e] at kf
      exact kf q' v' hq' hf
    · have hv0 : (valF T n q).2.1 = 0 := by rw [hv]; exact hf
      have hsp := hvs hv0
      rw [hv] at hsp
      have hn0 : 0 ≤ (numF T n q 0 99999).2.2 := hsp.2.2.2.1
      have hn1 : (numF T n q 0 99999).2.2 ≤ 99999 := hsp.2.2.2.2.1
      have hq1 : q < (numF T n q 0 99999).1 := hsp.1
      have hq2 : (numF T n q 0 99999).1 ≤ n := hsp.2.1
      refine c193 (m := m) (by omega) a15 m60 (by omega) (fun hm => ⟨fun y => absurd rfl y, fun _ => full _ _ hsp.2.1 hv0 hm⟩) (fun hm => ⟨fun _ => ?_, fun y => absurd y (by decide)⟩)
      have e : vFt T n q m = 0 := by unfold vFt; rw [if_neg (fun z => z hv0), if_neg (by omega)]
      have := kk e
      rw [hv] at this
      rw [rS_v]
      refine c194 (o := 0) (w := (numF T n q 0 99999).2.2.toNat) (by omega) s14 r6 s85 (by omega) rfl (by omega) (by decide) (by omega) (this _)
  · have hn : ¬ (48 ≤ chr T n q ∧ chr T n q ≤ 57) := fun y => by
      have hlt := chr_lt (T := T) (n := n) (q := q) rfl (show chr T n q ≠ -1 by omega)
      have hc : chr T n q = T q := by unfold chr; rw [if_pos hlt]
      exact z ⟨hlt, by omega, by omega⟩
    refine ⟨fun _ => ?_, fun y => absurd rfl y⟩
    refine c195 (by omega) ho hT hqn hb ?_
    by_cases w : wdF T n q = -1
    · have hv : valF T n q = (q, 1 + 8 * (q : Int), 1, 0) := by unfold valF; rw [if_neg hn, if_pos w]
      have e : vFt T n q m = 1 + 8 * (q : Int) := by unfold vFt; rw [hv, if_pos (show 1 + 8 * (q : Int) ≠ 0 by omega)]
      rw [e] at kf
      refine ⟨fun y => by omega, fun _ => ?_⟩
      refine c178 (by omega) ⟨by omega, by decide, by decide⟩ ⟨Or.inl rfl, ?_⟩
      have := kf q v hqn (by omega)
      rw [if_pos rfl, Int.add_zero]
      exact this
    · have hv : valF T n q = (lts T n q, 0, 1, wdF T n q) := by unfold valF; rw [if_neg hn, if_neg w]
      have hv0 : (valF T n q).2.1 = 0 := by rw [hv]
      have hsp := hvs hv0
      rw [hv] at hsp
      have hw := (wdF_sp w).1
      refine ⟨fun _ => ?_, fun y => by omega⟩
      refine c193 (m := m) (by omega) a15 m60 (by omega) (fun hm => ⟨fun y => absurd rfl y, fun _ => full _ _ hqn hv0 hm⟩) (fun hm => ⟨fun _ => ?_, fun y => absurd y (by decide)⟩)
      have e : vFt T n q m = 0 := by unfold vFt; rw [if_neg (fun z => z hv0), if_neg (by omega)]
      have := kk e
      rw [hv] at this
      refine c180 (by omega) ho hT1 hqn ?_
      have hl1 : p < lts T n q := by have := hsp.1; omega
      have hl2 : lts T n q ≤ n := hsp.2.1
      exact c194 (o := 1) (w := (wdF T n q).toNat) (by omega) s14 r6 s85 (by omega) rfl (by omega) (by decide) (by omega) (this _)
end
