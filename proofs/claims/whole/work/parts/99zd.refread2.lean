/-! THE REFERENCE'S READER: words and numbers. -/
def wv (g : Nat → Nat) : Nat → Nat
  | 0 => 0
  | k + 1 => 256 * wv g k + g k
theorem wv_congr {g g' : Nat → Nat} : ∀ k, (∀ i, i < k → g i = g' i) → wv g k = wv g' k := by
  intro k
  induction k with
  | zero => intro _; rfl
  | succ k ih =>
    intro h
    show 256 * wv g k + g k = 256 * wv g' k + g' k
    rw [ih (fun i hi => h i (by omega)), h k (by omega)]
theorem wv_inj {g g' : Nat → Nat} : ∀ k k', (∀ i, i < k → 97 ≤ g i ∧ g i ≤ 122) → (∀ i, i < k' → 97 ≤ g' i ∧ g' i ≤ 122) → wv g k = wv g' k' → k = k' ∧ ∀ i, i < k → g i = g' i := by
  intro k
  induction k with
  | zero =>
    intro k' _ h' e
    cases k' with
    | zero => exact ⟨rfl, fun i hi => absurd hi (Nat.not_lt_zero i)⟩
    | succ k' =>
      have := h' k' (by omega)
      have e' : 0 = 256 * wv g' k' + g' k' := e
      omega
  | succ k ih =>
    intro k' h h' e
    cases k' with
    | zero =>
      have := h k (by omega)
      have e' : 256 * wv g k + g k = 0 := e
      omega
    | succ k' =>
      have a1 := h k (by omega)
      have a2 := h' k' (by omega)
      have e' : 256 * wv g k + g k = 256 * wv g' k' + g' k' := e
      obtain ⟨b1, b2⟩ := ih k' (fun i hi => h i (by omega)) (fun i hi => h' i (by omega)) (by omega)
      subst b1
      refine ⟨rfl, fun i hi => ?_⟩
      by_cases c : i = k
      · rw [c]; omega
      · exact b2 i (by omega)
theorem wv_lt {g : Nat → Nat} {k : Nat} (h : ∀ i, i < k → g i ≤ 122) (hk : k ≤ 7) : wv g k < 36028797018963968 := by
  match k, hk, h with
  | 0, _, h => simp only [wv]; omega
  | 1, _, h => have h0 := h 0 (by decide); simp only [wv]; omega
  | 2, _, h => have h0 := h 0 (by decide); have h1 := h 1 (by decide); simp only [wv]; omega
  | 3, _, h => have h0 := h 0 (by decide); have h1 := h 1 (by decide); have h2 := h 2 (by decide); simp only [wv]; omega
  | 4, _, h => have h0 := h 0 (by decide); have h1 := h 1 (by decide); have h2 := h 2 (by decide); have h3 := h 3 (by decide); simp only [wv]; omega
  | 5, _, h => have h0 := h 0 (by decide); have h1 := h 1 (by decide); have h2 := h 2 (by decide); have h3 := h 3 (by decide); have h4 := h 4 (by decide); simp only [wv]; omega
  | 6, _, h => have h0 := h 0 (by decide); have h1 := h 1 (by decide); have h2 := h 2 (by decide); have h3 := h 3 (by decide); have h4 := h 4 (by decide); have h5 := h 5 (by decide); simp only [wv]; omega
  | 7, _, h => have h0 := h 0 (by decide); have h1 := h 1 (by decide); have h2 := h 2 (by decide); have h3 := h 3 (by decide); have h4 := h 4 (by decide); have h5 := h 5 (by decide); have h6 := h 6 (by decide); simp only [wv]; omega
def okL (w : List Nat) : Prop := 0 < w.length ∧ w.length < 8 ∧ ∀ i, i < w.length → 97 ≤ w.getD i 0 ∧ w.getD i 0 ≤ 122
def wvW (w : List Nat) : Nat := wv (fun i => w.getD i 0) w.length
/-- the letters that stand at q -/
def gL (T : Nat → Int) (q : Nat) : Nat → Nat := fun i => (T (q + i)).toNat
section
variable {d n p q : Nat} {T : Nat → Int} {P : Int → sM → sG → Prop} {PV : sM → sG → Prop} {M : sM} {G : sG} {f v : Int} {w : List Nat}
/-- a word stands there when the letters are those -/
theorem atW_run (hq : q ≤ n) (hw : okL w) : atW T n q w ↔ (0 < lts T n q - q ∧ lts T n q - q < 8 ∧ wv (gL T q) (lts T n q - q) = wvW w) := by
  have hge : q ≤ lts T n q := run_ge hq
  have hle : lts T n q ≤ n := run_le hq
  have hin : ∀ i, i < lts T n q - q → 97 ≤ T (q + i) ∧ T (q + i) ≤ 122 := fun i hi => bLt_i.1 (run_in hq (by omega) (by show q + i < lts T n q; omega))
  have hen : ¬ (lts T n q < n ∧ 97 ≤ T (lts T n q) ∧ T (lts T n q) ≤ 122) := fun z => run_end (pr := bLt) (T := T) hq ⟨z.1, bLt_i.2 z.2⟩
  constructor
  · intro h
    obtain ⟨a1, a2, a3⟩ := h
    have hlet : ∀ i, i < w.length → 97 ≤ T (q + i) ∧ T (q + i) ≤ 122 := fun i hi => by have := hw.2.2 i hi; rw [a2 i hi]; omega
    have e : lts T n q - q = w.length := by
      by_cases c : lts T n q - q < w.length
      · exact absurd ⟨by omega, by have := hlet (lts T n q - q) c; rw [show q + (lts T n q - q) = lts T n q by omega] at this; exact this⟩ hen
      · by_cases c2 : w.length < lts T n q - q
        · have := hin w.length c2
          omega
        · omega
    rw [e]
    refine ⟨hw.1, hw.2.1, wv_congr _ (fun i hi => ?_)⟩
    show (T (q + i)).toNat = w.getD i 0
    rw [a2 i hi]; omega
  · intro ⟨h1, h2, h3⟩
    obtain ⟨b1, b2⟩ := wv_inj _ _ (fun i hi => by show 97 ≤ (T (q + i)).toNat ∧ (T (q + i)).toNat ≤ 122; have := hin i hi; omega) hw.2.2 h3
    refine ⟨by omega, fun i hi => ?_, ?_⟩
    · have := b2 i (by omega)
      have e : (T (q + i)).toNat = w.getD i 0 := this
      have := hin i (by omega)
      omega
    · rw [show q + w.length = lts T n q by omega]
      omega
theorem c176 {y1 : Int} (hd : 6 ≤ d) (ho : tOk T n) (hT : rTp M T n) (hp : p ≤ n) (hw : okL w) (hy : y1 = ((wvW w : Nat) : Int)) (k1 : atW T n (blk T n p) w → P 1 (rS M (blk T n p) f v) G) (k0 : ¬ atW T n (blk T n p) w → P 0 (rS M (blk T n p) f v) G) : sC d 176 [vO 12 82, vL y1] (rS M p f v) G (QI P) := by
  obtain ⟨d, rfl⟩ := sD 2 (d := d) (by omega)
  have h400 := ho.1
  refine e176 (s176_0 (c175 (by omega) ho hT hp ?_))
  obtain ⟨q, hq⟩ : ∃ q, q = blk T n p := ⟨_, rfl⟩
  have hqn : q ≤ n := by rw [hq]; exact run_le hp
  rw [← hq] at k1 k0 ⊢
  have hge : q ≤ lts T n q := run_ge hqn
  have hle : lts T n q ≤ n := run_le hqn
  have hin : ∀ i, i < lts T n q - q → 97 ≤ T (q + i) ∧ T (q + i) ≤ 122 := fun i hi => bLt_i.1 (run_in hqn (by omega) (by show q + i < lts T n q; omega))
  have hen : ¬ (lts T n q < n ∧ 97 ≤ T (lts T n q) ∧ T (lts T n q) ≤ 122) := fun z => run_end (pr := bLt) (T := T) hqn ⟨z.1, bLt_i.2 z.2⟩
  have hat := atW_run (T := T) hqn hw
  have hpp : rS M q f v 82 11 = q := rS_p
  have key : ∀ r i, i + r = lts T n q - q → sW (sC (d + 1)) 176 (QI P) 10 [vO 12 82, vL y1, vN, vL ((wv (gL T q) (min i 8) : Nat) : Int), vN, vI (i : Int)] [] (rS M q f v) G 0 0 := by
    intro r
    induction r with
    | zero =>
      intro i hi
      refine s176_10 ⟨by rw [hpp]; exact ⟨by omega, by omega⟩, ?_⟩
      rw [hpp, show ((q : Int) + (i : Int)) = ((q + i : Nat) : Int) from rfl]
      refine c177 (by omega) ho hT (fun z1 z2 => ?_) (fun _ => ?_)
      · rw [show q + i = lts T n q by omega] at z1 z2
        exact absurd ⟨z1, z2⟩ hen
      · have ei : i = lts T n q - q := by omega
        refine ⟨fun q1 => ⟨fun q2 => ?_, fun q3 => ⟨fun q4 => ?_, fun q5 => ⟨fun q6 => ?_, fun q7 => ?_⟩⟩⟩, fun q8 => ⟨fun q9 => ⟨⟨by omega, by omega⟩, ?_⟩, fun q10 => ⟨⟨by omega, by omega⟩, ⟨(by first | omega | assumption | (refine ⟨?_, ?_⟩ <;> omega) | (simp_all; done)), (by first | omega | assumption | (refine ⟨?_, ?_⟩ <;> omega) | (simp_all; done))⟩, ⟨by omega, by omega⟩, ?_⟩⟩⟩
        · exact k0 (fun z => by have := (hat.1 z).1; omega)
        · exact k0 (fun z => by have := (hat.1 z).2.1; omega)
        · refine k0 (fun z => q6 ?_)
          have := (hat.1 z).2.2
          rw [show min i 8 = lts T n q - q by omega, this, hy]
        · refine k1 (hat.2 ⟨by omega, by omega, ?_⟩)
          rw [show min i 8 = lts T n q - q by omega, hy] at q7
          omega
        · omega
        · omega
    | succ r ih =>
      intro i hi
      have hti := hin i (by omega)
      have hlt : q + i < n := by omega
      have hb : rS M q f v 83 (rS M q f v 82 11 + (i : Int)).toNat = T (q + i) := by
        rw [hpp, show ((q : Int) + (i : Int)).toNat = q + i by omega, hT.b hlt, if_pos (by omega)]
      refine s176_10 ⟨by rw [hpp]; exact ⟨by omega, by omega⟩, ?_⟩
      rw [hpp, show ((q : Int) + (i : Int)) = ((q + i : Nat) : Int) from rfl]
      refine c177 (by omega) ho hT (fun _ _ => ?_) (fun z => absurd ⟨hlt, hti⟩ z)
      have := ih (i + 1) (by omega)
      refine ⟨fun q1 => ⟨fun q2 => ?_, fun q3 => ⟨fun q4 => ?_, fun q5 => ⟨fun q6 => ?_, fun q7 => ?_⟩⟩⟩, fun q8 => ⟨fun q9 => ⟨⟨by omega, by omega⟩, ?_⟩, fun q10 => ⟨⟨by omega, by omega⟩, ⟨(by first | omega | assumption | (refine ⟨?_, ?_⟩ <;> omega) | (simp_all; done)), (by first | omega | assumption | (refine ⟨?_, ?_⟩ <;> omega) | (simp_all; done))⟩, ⟨by omega, by omega⟩, ?_⟩⟩⟩
      · omega
      · omega
      · omega
      · omega
      · rw [show min (i + 1) 8 = min i 8 by omega] at this
        exact this
      · rw [show min (i + 1) 8 = min i 8 + 1 by omega] at this
        have hlt7 : wv (gL T q) (min i 8) < 36028797018963968 := wv_lt (fun i' hi' => by show (T (q + i')).toNat ≤ 122; have := hin i' (by omega); omega) (by omega)
        have e1 : jOr (jShl ((wv (gL T q) (min i 8) : Nat) : Int) 8) (rS M q f v 83 (rS M q f v 82 11 + (i : Int)).toNat) = ((wv (gL T q) (min i 8 + 1) : Nat) : Int) := by
          rw [hb, show T (q + i) = ((gL T q i : Nat) : Int) by show _ = (((T (q + i)).toNat : Nat) : Int); omega, w_add hlt7 (by show (T (q + i)).toNat < 256; omega)]
          show _ = ((256 * wv (gL T q) (min i 8) + gL T q (min i 8) : Nat) : Int)
          rw [show min i 8 = i by omega]
        rw [e1]
        exact this
  exact key (lts T n q - q) 0 (by omega)
end
