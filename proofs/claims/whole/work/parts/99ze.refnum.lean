/-! THE REFERENCE'S READER: numbers. -/
section
variable {d n p : Nat} {T : Nat → Int} {P : Int → sM → sG → Prop} {M : sM} {G : sG} {v lo hi : Int}
theorem c181 (hd : 6 ≤ d) (ho : tOk T n) (hT : rTp M T n) (hp : p ≤ n) (kb : ∀ q' v', q' ≤ n → (numF T n p lo hi).2.1 ≠ 0 → P 0 (rS M q' (numF T n p lo hi).2.1 v') G) (kk : (numF T n p lo hi).2.1 = 0 → P 1 (rS M (numF T n p lo hi).1 0 (numF T n p lo hi).2.2) G) : sC d 181 [vO 12 82, vI lo, vI hi] (rS M p 0 v) G (QI P) := by
  obtain ⟨d, rfl⟩ := sD 2 (d := d) (by omega)
  have h400 := ho.1
  unfold numF at kb kk
  obtain ⟨q, hq⟩ : ∃ q, q = blk T n p := ⟨_, rfl⟩
  obtain ⟨e, he⟩ : ∃ e, e = dig T n q := ⟨_, rfl⟩
  have hqn : q ≤ n := by rw [hq]; exact run_le hp
  have hqe : q ≤ e := by rw [he]; exact run_ge hqn
  have hen : e ≤ n := by rw [he]; exact run_le hqn
  have hdg : ∀ i, q ≤ i → i < e → 48 ≤ T i ∧ T i ≤ 57 := fun i h1 h2 => bDg_i.1 (run_in hqn h1 (by rw [he] at h2; exact h2))
  have hst : ¬ (e < n ∧ 48 ≤ T e ∧ T e ≤ 57) := fun z => run_end (pr := bDg) (T := T) hqn ⟨by show dig T n q < n; rw [← he]; exact z.1, bDg_i.2 (by show 48 ≤ T (dig T n q) ∧ T (dig T n q) ≤ 57; rw [← he]; exact z.2)⟩
  rw [← hq, ← he] at kk kb
  refine e181 (s181_0 (c175 (by omega) ho hT hp ?_))
  rw [← hq]
  have hpp : ∀ q' f' v', rS M q' f' v' 82 11 = (q' : Nat) := fun _ _ _ => rS_p
  rw [hpp]
  have bad1 : ∀ (q' : Nat) (v' : Int), q' ≤ n → q < e → (5 < e - q ∨ nmb T q (e - q) < lo ∨ hi < nmb T q (e - q)) → sC (d + 1) 178 [vO 12 82, vI 1, vI (q : Int)] (rS M q' 0 v') G (QI (fun r2 M2 G2 => (r2 = 0 → P 0 M2 G2) ∧ (r2 ≠ 0 → P 1 M2 G2))) := fun q' v' z0 z1 z2 => by
    refine c178 (by omega) ⟨by omega, by decide, by decide⟩ ⟨fun _ => ?_, fun z => absurd rfl z⟩
    rw [if_pos rfl]
    rw [if_neg (show ¬ e = q by omega), if_pos z2] at kb
    exact kb q' v' z0 (by show ¬ (1 + 8 * (q : Int) + 1 = 0); omega)
  have key : ∀ r i, i + r = e - q → q < e → sW (sC (d + 1)) 181 (QI P) 34 [vO 12 82, vI lo, vI hi, vI (q : Int), vI (nmb T q (min i 5))] [] (rS M (q + i) 0 v) G 0 0 := by
    intro r
    induction r with
    | zero =>
      intro i hi hlt
      have ei : q + i = e := by omega
      have hv : i ≤ 5 → nmb T q (min i 5) = nmb T q (e - q) := fun z => by rw [show min i 5 = e - q by omega]
      have hpe := hpp (q + i) 0 v
      refine s181_34 ?_
      rw [hpp]
      refine c182 (by omega) ho hT (fun z1 z2 => ?_) (fun _ => ?_)
      · rw [ei] at z1 z2
        exact absurd ⟨z1, z2⟩ hst
      · refine ⟨fun q1 => ⟨⟨by omega, by omega⟩, fun q2 => ?_, fun q5 => ⟨fun q6 => ?_, fun q9 => ⟨fun q10 => ?_, fun q13 => ?_⟩⟩⟩, fun q14 => ⟨⟨by omega, by omega⟩, fun q15 => ⟨⟨by omega, by omega⟩, ?_⟩, fun q16 => ⟨⟨by omega, by omega⟩, ⟨(by first | omega | assumption | (refine ⟨?_, ?_⟩ <;> omega) | (simp_all; done)), (by first | omega | assumption | (refine ⟨?_, ?_⟩ <;> omega) | (simp_all; done))⟩, ⟨by omega, by omega⟩, ⟨by omega, by omega⟩, ⟨by omega, by omega⟩, ?_⟩⟩⟩
        · rw [rS_uv]
          exact bad1 _ _ (by omega) hlt (Or.inl (by omega))
        · rw [rS_uv]
          exact bad1 _ _ (by omega) hlt (Or.inr (Or.inl (by rw [← hv (by omega)]; exact q6)))
        · rw [rS_uv]
          exact bad1 _ _ (by omega) hlt (Or.inr (Or.inr (by rw [← hv (by omega)]; exact q10)))
        · have hv' := hv (by omega)
          rw [if_neg (show ¬ e = q by omega), if_neg (by rw [← hv']; omega)] at kk
          rw [rS_uv, hv', ei]
          exact kk rfl
        · omega
        · omega
    | succ r ih =>
      intro i hi hlt
      have hdi := hdg (q + i) (by omega) (by omega)
      have hpe := hpp (q + i) 0 v
      have hb : rS M (q + i) 0 v 83 (rS M (q + i) 0 v 82 11).toNat = T (q + i) := by
        rw [hpe, show (((q + i : Nat) : Int)).toNat = q + i by omega, hT.b (by omega), if_pos (by omega)]
      have hnm := nmb_b (T := T) (q := q) (k := min i 5) (fun i' h' => hdg _ (by omega) (by omega)) (by omega)
      have n4 : i < 5 → nmb T q (min i 5) ≤ 9999 := fun z => hnm.2.2 (by omega)
      refine s181_34 ?_
      rw [hpp]
      refine c182 (by omega) ho hT (fun _ _ => ?_) (fun z => absurd ⟨by omega, hdi⟩ z)
      have := ih (i + 1) (by omega) hlt
      refine ⟨fun q1 => ⟨⟨by omega, by omega⟩, fun q2 => ?_, fun q5 => ⟨fun q6 => ?_, fun q9 => ⟨fun q10 => ?_, fun q13 => ?_⟩⟩⟩, fun q14 => ⟨⟨by omega, by omega⟩, fun q15 => ⟨⟨by omega, by omega⟩, ?_⟩, fun q16 => ⟨⟨by omega, by omega⟩, ⟨(by first | omega | assumption | (refine ⟨?_, ?_⟩ <;> omega) | (simp_all; done)), (by first | omega | assumption | (refine ⟨?_, ?_⟩ <;> omega) | (simp_all; done))⟩, ⟨by omega, by omega⟩, ⟨by omega, by omega⟩, ⟨by omega, by omega⟩, ?_⟩⟩⟩
      · omega
      · omega
      · omega
      · omega
      · rw [hpe, show ((q + i : Nat) : Int) + 1 = ((q + (i + 1) : Nat) : Int) by omega, rS_up]
        rw [show min (i + 1) 5 = min i 5 by omega] at this
        exact this
      · rw [hb, hpe, show ((q + i : Nat) : Int) + 1 = ((q + (i + 1) : Nat) : Int) by omega, rS_up]
        rw [show min (i + 1) 5 = min i 5 + 1 by omega] at this
        have e1 : nmb T q (min i 5 + 1) = 10 * nmb T q (min i 5) + T (q + i) - 48 := by
          show 10 * nmb T q (min i 5) + T (q + min i 5) - 48 = _
          rw [show min i 5 = i by omega]
        rw [e1] at this
        exact this
  refine c182 (by omega) ho hT (fun z1 z2 => ?_) (fun z => ?_)
  · have hlt : q < e := by
      have : dig T n q = dig T n (q + 1) := run_go z1 (bDg_i.2 z2)
      rw [he, this]
      exact run_ge (by omega)
    refine ⟨fun _ => ?_, fun y => absurd y (by decide)⟩
    rw [hpp]
    exact key (e - q) 0 (by omega) hlt
  · refine ⟨fun y => absurd rfl y, fun _ => ?_⟩
    have eq : e = q := by
      rw [he]
      exact run_stop (fun y => z ⟨y.1, bDg_i.1 y.2⟩)
    rw [hpp]
    refine c178 (by omega) ⟨by omega, by decide, by decide⟩ ⟨Or.inl rfl, ?_⟩
    rw [if_pos rfl, show 1 + 8 * (q : Int) + 0 = 1 + 8 * (q : Int) by omega]
    rw [if_pos eq] at kb
    exact kb q v hqn (by show ¬ (1 + 8 * (q : Int) = 0); omega)
end
