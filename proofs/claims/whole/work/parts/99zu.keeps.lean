/-! THE RULE PARSER: its words; what holds at every step. -/
theorem ok_not : okL wNot ∧ wvW wNot = 7237492 ∧ wNot.length = 3 := by unfold okL; decide +kernel
theorem ok_come : okL wCome ∧ wvW wCome = 1668246885 ∧ wCome.length = 4 := by unfold okL; decide +kernel
theorem ok_hold : okL wHold ∧ wvW wHold = 1752132708 ∧ wHold.length = 4 := by unfold okL; decide +kernel
theorem ok_win : okL wWin ∧ wvW wWin = 131294707347319 ∧ wWin.length = 6 := by unfold okL; decide +kernel
theorem ok_or : okL wOr ∧ wvW wOr = 28530 ∧ wOr.length = 2 := by unfold okL; decide +kernel
theorem ok_and : okL wAnd ∧ wvW wAnd = 6385252 ∧ wAnd.length = 3 := by unfold okL; decide +kernel
theorem ok_now : okL wNow ∧ wvW wNow = 0x6e6f77 ∧ wNow.length = 3 := by unfold okL; decide +kernel
theorem ok_pers : okL wPers ∧ wvW wPers = 0x706572736f6e ∧ wPers.length = 6 := by unfold okL; decide +kernel
theorem ok_ins : okL wIns ∧ wvW wIns = 0x696e73696465 ∧ wIns.length = 6 := by unfold okL; decide +kernel
theorem ok_aft : okL wAft ∧ wvW wAft = 0x6166746572 ∧ wAft.length = 5 := by unfold okL; decide +kernel
theorem ok_room : okL wRoom ∧ wvW wRoom = 0x726f6f6d ∧ wRoom.length = 4 := by unfold okL; decide +kernel
theorem ok_wins : okL wWins ∧ wvW wWins = 0x77696e646f7773 ∧ wWins.length = 7 := by unfold okL; decide +kernel
theorem ok_wor : okL wWor ∧ wvW wWor = 0x776f727468 ∧ wWor.length = 5 := by unfold okL; decide +kernel
theorem ok_late : okL wLate ∧ wvW wLate = 0x6c617465 ∧ wLate.length = 4 := by unfold okL; decide +kernel
theorem ok_long : okL wLong ∧ wvW wLong = 0x6c6f6e67 ∧ wLong.length = 4 := by unfold okL; decide +kernel
section
variable {T : Nat → Int} {n p q m e : Nat} {s : stS} {D : den} {k : Int} {cl : List (Int × den)} {z : stS × den}
theorem chr_lt {c : Int} (h : chr T n q = c) (hc : c ≠ -1) : q < n := by
  unfold chr at h
  by_cases z : q < n
  · exact z
  · rw [if_neg z] at h; exact absurd h.symm hc
theorem atW_c {w : List Nat} (hw : okL w) (h : atW T n q w) : q < n ∧ q + w.length ≤ n ∧ chr T n q = ((w.getD 0 0 : Nat) : Int) ∧ 97 ≤ chr T n q ∧ chr T n q ≤ 122 := by
  have h1 := h.1
  have h2 := h.2.1 0 hw.1
  have h3 := hw.2.2 0 hw.1
  have hw1 := hw.1
  have e : chr T n q = ((w.getD 0 0 : Nat) : Int) := by
    unfold chr
    rw [if_pos (by omega)]
    exact h2
  exact ⟨by omega, h1, e, by omega, by omega⟩
theorem wdF_sp (h : wdF T n q ≠ -1) : (0 ≤ wdF T n q ∧ wdF T n q ≤ 9) ∧ ∃ w, okL w ∧ atW T n q w := by
  unfold wdF at h ⊢
  split
  · rename_i c; exact ⟨⟨by decide, by decide⟩, wNow, ok_now.1, atB_i.1 c⟩
  · split
    · rename_i c; exact ⟨⟨by decide, by decide⟩, wPers, ok_pers.1, atB_i.1 c⟩
    · split
      · rename_i c; exact ⟨⟨by decide, by decide⟩, wHouse, ok_house.1, atB_i.1 c⟩
      · split
        · rename_i c; exact ⟨⟨by decide, by decide⟩, wIns, ok_ins.1, atB_i.1 c⟩
        · split
          · rename_i c; exact ⟨⟨by decide, by decide⟩, wAft, ok_aft.1, atB_i.1 c⟩
          · split
            · rename_i c; exact ⟨⟨by decide, by decide⟩, wRoom, ok_room.1, atB_i.1 c⟩
            · split
              · rename_i c; exact ⟨⟨by decide, by decide⟩, wWins, ok_wins.1, atB_i.1 c⟩
              · split
                · rename_i c; exact ⟨⟨by decide, by decide⟩, wWor, ok_wor.1, atB_i.1 c⟩
                · split
                  · rename_i c; exact ⟨⟨by decide, by decide⟩, wLate, ok_late.1, atB_i.1 c⟩
                  · split
                    · rename_i c; exact ⟨⟨by decide, by decide⟩, wLong, ok_long.1, atB_i.1 c⟩
                    · rename_i c1 c2 c3 c4 c5 c6 c7 c8 c9 c10
                      exfalso
                      rw [if_neg c1, if_neg c2, if_neg c3, if_neg c4, if_neg c5, if_neg c6, if_neg c7, if_neg c8, if_neg c9, if_neg c10] at h
                      exact h rfl
theorem numF_sp {lo hi : Int} (hq : q ≤ n) (hb : blk T n q = q) (h : (numF T n q lo hi).2.1 = 0) : q < (numF T n q lo hi).1 ∧ (numF T n q lo hi).1 ≤ n := by
  have h2 := numF_le (T := T) (lo := lo) (hi := hi) hq
  have hd : q ≤ dig T n q := run_ge hq
  unfold numF at h h2 ⊢
  rw [hb] at h h2 ⊢
  split at h
  · exact absurd h (by show ¬ (1 + 8 * (q : Int) = 0); omega)
  · rename_i c
    rw [if_neg c] at h2 ⊢
    split at h
    · exact absurd h (by show ¬ (1 + 8 * (q : Int) + 1 = 0); omega)
    · rename_i c2
      rw [if_neg c2] at h2 ⊢
      exact ⟨by show q < dig T n q; omega, h2⟩
theorem valF_sp (hq : q ≤ n) (hb : blk T n q = q) (h : (valF T n q).2.1 = 0) : q < (valF T n q).1 ∧ (valF T n q).1 ≤ n ∧ (valF T n q).2.2.1 ≤ 1 ∧ 0 ≤ (valF T n q).2.2.2 ∧ (valF T n q).2.2.2 ≤ 99999 ∧ ((valF T n q).2.2.1 = 1 → (valF T n q).2.2.2 ≤ 9) := by
  unfold valF at h ⊢
  split
  · rename_i c
    rw [if_pos c] at h
    have a := numF_sp (lo := 0) (hi := 99999) hq hb h
    have b := numF_in (T := T) (n := n) (p := q) (lo := 0) (hi := 99999) h
    exact ⟨a.1, a.2, Nat.zero_le _, b.1, b.2, fun z => absurd z (by show ¬ (0 : Nat) = 1; decide)⟩
  · rename_i c
    rw [if_neg c] at h
    split
    · rename_i c2
      rw [if_pos c2] at h
      exact absurd h (by show ¬ (1 + 8 * (q : Int) = 0); omega)
    · rename_i c2
      obtain ⟨⟨w0, w1⟩, w, hw, ha⟩ := wdF_sp c2
      have e : lts T n q = q + w.length := atW_lts hq hw ha
      have h1 := ha.1
      have h2 := hw.1
      exact ⟨by show q < lts T n q; omega, by show lts T n q ≤ n; omega, Nat.le_refl _, w0, by show wdF T n q ≤ 99999; omega, fun _ => w1⟩
/-- what holds at every step -/
def okA (n : Nat) : aS → Prop := fun (e, p, m, s, D, _, cl) => wfs s ∧ dpt s ≤ 10 ∧ m ≤ 60 ∧ p ≤ n ∧ e ≤ 7 ∧ cl.length ≤ 12 ∧ (∀ x, x ∈ cl → d01 x.2) ∧ (e = 0 ∨ e = 7 → s = []) ∧ (e = 1 ∨ e = 6 → tb s ≤ 3) ∧ (e = 2 ∨ e = 4 → nsg s) ∧ (e = 3 ∨ e = 5 → sgn s) ∧ (e = 6 → d01 D) ∧ (1 ≤ e → e ≤ 6 → cl.length < 12)
theorem aJn_c {c : Int} (h : aJn c ≠ 0) : (c = 43 ∧ aJn c = 2) ∨ (c = 45 ∧ aJn c = 3) ∨ (c = 42 ∧ aJn c = 4) ∨ (c = 47 ∧ aJn c = 5) := by
  unfold aJn at h ⊢
  by_cases c1 : c = 43
  · rw [if_pos c1]; exact Or.inl ⟨c1, rfl⟩
  · rw [if_neg c1] at h ⊢
    by_cases c2 : c = 45
    · rw [if_pos c2]; exact Or.inr (Or.inl ⟨c2, rfl⟩)
    · rw [if_neg c2] at h ⊢
      by_cases c3 : c = 42
      · rw [if_pos c3]; exact Or.inr (Or.inr (Or.inl ⟨c3, rfl⟩))
      · rw [if_neg c3] at h ⊢
        by_cases c4 : c = 47
        · rw [if_pos c4]; exact Or.inr (Or.inr (Or.inr ⟨c4, rfl⟩))
        · rw [if_neg c4] at h; exact absurd rfl h
theorem aJn_b {c : Int} (h : aJn c ≠ 0) : 2 ≤ aJn c ∧ aJn c ≤ 5 ∧ 5 ≤ bnd (aJn c) := by
  rcases aJn_c h with ⟨-, z⟩ | ⟨-, z⟩ | ⟨-, z⟩ | ⟨-, z⟩ <;> rw [z] <;> decide
theorem sgS_b {c : Int} {b : Bool} : 6 ≤ sgS c b ∧ sgS c b ≤ 10 := by
  unfold sgS
  split
  · decide
  · split
    · split <;> decide
    · split <;> decide
theorem bnd_sg {o : Nat} (h : 6 ≤ o ∧ o ≤ 10) : bnd o = 4 := by
  unfold bnd
  rw [if_neg (by omega), if_neg (by omega), if_neg (by omega), if_pos h]
theorem okA.cla (h : okA n (0, p, m, s, D, k, cl)) (hf : (aCla T n (blk T n p) m s D cl).1 = 0) : okA n (aCla T n (blk T n p) m s D cl).2 ∧ p < (aCla T n (blk T n p) m s D cl).2.2.1 := by
  obtain ⟨h1, h2, h3, h4, h5, h6, h7, h8, -⟩ := h
  have hge : p ≤ blk T n p := run_ge h4
  have hs : s = [] := h8 (Or.inl rfl)
  unfold aCla at hf ⊢
  split at hf
  · exact absurd hf (by show ¬ (1 + 8 * (blk T n p : Int) = 0); omega)
  · rename_i c1
    rw [if_neg c1]
    split at hf
    · exact absurd hf (by show ¬ (1 + 8 * (blk T n p : Int) + 4 = 0); omega)
    · rename_i c2
      rw [if_neg c2]
      have hl : blk T n p + (if aKd T n (blk T n p) = 2 then 6 else 4) ≤ n := by
        unfold aKd at c1 ⊢
        by_cases w1 : atB T n (blk T n p) wCome = true
        · have := (atW_c ok_come.1 (atB_i.1 w1)).2.1
          rw [ok_come.2.2] at this
          rw [if_pos w1, if_neg (by decide)]; exact this
        · rw [if_neg w1] at c1 ⊢
          by_cases w2 : atB T n (blk T n p) wHold = true
          · have := (atW_c ok_hold.1 (atB_i.1 w2)).2.1
            rw [ok_hold.2.2] at this
            rw [if_pos w2, if_neg (by decide)]; exact this
          · rw [if_neg w2] at c1 ⊢
            by_cases w3 : atB T n (blk T n p) wWin = true
            · have := (atW_c ok_win.1 (atB_i.1 w3)).2.1
              rw [ok_win.2.2] at this
              rw [if_pos w3, if_pos rfl]; exact this
            · rw [if_neg w3] at c1
              exact absurd rfl c1
      refine ⟨⟨h1, h2, h3, hl, by decide, h6, h7, fun z => by omega, fun _ => by rw [hs]; exact Nat.zero_le _, fun z => by omega, fun z => by omega, fun z => by omega, fun _ _ => by omega⟩, ?_⟩
      show p < blk T n p + (if aKd T n (blk T n p) = 2 then 6 else 4)
      split <;> omega
theorem okA.opn (h : okA n (1, p, m, s, D, k, cl)) (ho : chr T n (blk T n p) = 91 ∨ atB T n (blk T n p) wNot = true) (hf : (aOpn T n (blk T n p) m s D k cl).1 = 0) : okA n (aOpn T n (blk T n p) m s D k cl).2 ∧ p < (aOpn T n (blk T n p) m s D k cl).2.2.1 := by
  obtain ⟨h1, h2, h3, h4, h5, h6, h7, -, h9, -, -, -, h13⟩ := h
  have hge : p ≤ blk T n p := run_ge h4
  have ht : tb s ≤ 3 := h9 (Or.inl rfl)
  have h13 := h13 (by decide) (by decide)
  unfold aOpn at hf ⊢
  split at hf
  · exact absurd hf (by show ¬ (1 + 8 * (blk T n p : Int) + 2 = 0); omega)
  · rename_i c1
    rw [if_neg c1]
    by_cases c : chr T n (blk T n p) = 91
    · rw [if_pos c]
      have hl := chr_lt c (by decide)
      exact ⟨⟨⟨h1, ⟨by show 2 ≤ 14; decide, by show 14 ≤ 14; decide⟩, by rw [if_pos (Or.inr rfl)]; exact ht, fun z => by rcases z with z | z <;> exact absurd z (by show ¬ (14 : Nat) = _; decide)⟩, by show (if (14 : Nat) = 11 ∨ (14 : Nat) = 14 then 1 else 0) + dpt s ≤ 10; rw [if_pos (Or.inr rfl)]; omega, h3, by show blk T n p + 1 ≤ n; omega, by decide, h6, h7, fun z => by omega, fun _ => by show bnd 14 ≤ 3; decide, fun z => by omega, fun z => by omega, fun z => by omega, fun _ _ => h13⟩, by show p < blk T n p + 1; omega⟩
    · rw [if_neg c]
      have hl := (atW_c ok_not.1 (atB_i.1 (ho.resolve_left c))).2.1
      rw [ok_not.2.2] at hl
      exact ⟨⟨⟨h1, ⟨by show 2 ≤ 11; decide, by show 11 ≤ 14; decide⟩, by rw [if_pos (Or.inl rfl)]; exact ht, fun z => by rcases z with z | z <;> exact absurd z (by show ¬ (11 : Nat) = _; decide)⟩, by show (if (11 : Nat) = 11 ∨ (11 : Nat) = 14 then 1 else 0) + dpt s ≤ 10; rw [if_pos (Or.inl rfl)]; omega, h3, hl, by decide, h6, h7, fun z => by omega, fun _ => by show bnd 11 ≤ 3; decide, fun z => by omega, fun z => by omega, fun z => by omega, fun _ _ => h13⟩, by show p < blk T n p + 3; omega⟩
theorem okA.val (h : okA n (e, p, m, s, D, k, cl)) (e1 : 1 ≤ e) (e3 : e ≤ 3) (hf : (aVal T n e (blk T n p) m s k cl).1 = 0) : okA n (aVal T n e (blk T n p) m s k cl).2 ∧ p < (aVal T n e (blk T n p) m s k cl).2.2.1 := by
  obtain ⟨h1, h2, h3, h4, h5, h6, h7, -, h9, h10, h11, -, h13⟩ := h
  have hge : p ≤ blk T n p := run_ge h4
  have h13 := h13 (by omega) (by omega)
  unfold aVal at hf ⊢
  split at hf
  · rename_i c1; exact absurd hf c1
  · rename_i c1
    rw [if_neg c1]
    split at hf
    · exact absurd hf (by show ¬ (1 + 8 * (blk T n p : Int) + 3 = 0); omega)
    · rename_i c2
      rw [if_neg c2]
      have hv := valF_sp (T := T) (n := n) (q := blk T n p) (run_le h4) (run_stop (run_end h4)) (Decidable.not_not.1 c1)
      refine ⟨⟨h1, h2, by omega, hv.2.1, by split <;> decide, h6, h7, fun z => by split at z <;> omega, fun z => by split at z <;> omega, fun z => ?_, fun z => ?_, fun z => by split at z <;> omega, fun _ _ => h13⟩, by show p < (valF T n (blk T n p)).1; omega⟩
      · by_cases c : e = 3
        · rw [if_pos c] at z; omega
        · by_cases c4 : e = 1
          · exact nsg_low (h9 (Or.inl c4))
          · exact h10 (Or.inl (by omega))
      · by_cases c : e = 3
        · exact h11 (Or.inl c)
        · rw [if_neg c] at z; omega
theorem okA.beh (h : okA n (e, p, m, s, D, k, cl)) (e4 : 4 ≤ e) (e7 : e ≠ 7) (hf : (aBeh T n e (blk T n p) m k cl (stl (aDm T n e (blk T n p)) s D)).1 = 0) : okA n (aBeh T n e (blk T n p) m k cl (stl (aDm T n e (blk T n p)) s D)).2 ∧ (p < (aBeh T n e (blk T n p) m k cl (stl (aDm T n e (blk T n p)) s D)).2.2.1 ∨ (aBeh T n e (blk T n p) m k cl (stl (aDm T n e (blk T n p)) s D)).2.1 = 7) := by
  obtain ⟨h1, h2, h3, h4, h5, h6, h7, -, h9, h10, h11, h12, h13⟩ := h
  have hge : p ≤ blk T n p := run_ge h4
  have hle : blk T n p ≤ n := run_le h4
  have h13 := h13 (by omega) (by omega)
  obtain ⟨b, hb⟩ : ∃ b, b = aDm T n e (blk T n p) := ⟨_, rfl⟩
  have b1 : 1 ≤ b := by rw [hb]; exact aDm_1
  have w := stl_wf (b := b) s D h1
  have wd := stl_dpt (b := b) s D
  have wt := stl_tb (b := b) b1 s D
  have wb := stl_brk (b := b) b1 s D
  have dd : b ≤ 4 → e ≠ 4 → d01 (stl b s D).2 := fun z z4 => stl_01 b1 z s D h1 (by
    by_cases c : e = 6
    · exact Or.inl ⟨h9 (Or.inr c), h12 c⟩
    · exact Or.inr (h11 (Or.inr (by omega))))
  rw [← hb] at hf ⊢
  obtain ⟨q, hq⟩ : ∃ q, q = blk T n p := ⟨_, rfl⟩
  rw [← hq] at hf hge hle hb ⊢
  unfold aBeh at hf ⊢
  unfold aDm at hb
  by_cases c1 : e ≠ 6 ∧ aJn (chr T n q) ≠ 0
  · rw [if_pos c1] at hb ⊢
    have hj := aJn_b c1.2
    have hl : q < n := by rcases aJn_c c1.2 with ⟨z, -⟩ | ⟨z, -⟩ | ⟨z, -⟩ | ⟨z, -⟩ <;> exact chr_lt z (by decide)
    have b5 : 5 ≤ b := by rw [hb]; exact hj.2.2
    refine ⟨⟨⟨w, ⟨hj.1, by show aJn (chr T n q) ≤ 14; omega⟩, ?_, fun z => ?_⟩, ?_, h3, by show q + 1 ≤ n; omega, by split <;> decide, h6, h7, fun z => by split at z <;> omega, fun z => by split at z <;> omega, fun z => ?_, fun z => ?_, fun z => by split at z <;> omega, fun _ _ => h13⟩, Or.inl (by show p < q + 1; omega)⟩
    · rw [if_neg (show ¬ (aJn (chr T n q) = 11 ∨ aJn (chr T n q) = 14) by omega), ← hb]; exact wt
    · exact absurd z (show ¬ (aJn (chr T n q) = 12 ∨ aJn (chr T n q) = 13) by omega)
    · show (if aJn (chr T n q) = 11 ∨ aJn (chr T n q) = 14 then 1 else 0) + dpt (stl b s D).1 ≤ 10
      rw [if_neg (by omega)]; omega
    · by_cases c : e = 4
      · exact Or.inr ⟨hj.2.2, stl_nsg b1 s D (h10 (Or.inr c))⟩
      · rw [if_neg c] at z; omega
    · by_cases c : e = 4
      · rw [if_pos c] at z; omega
      · exact Or.inr ⟨hj.2.2, stl_sgn b5 s D (h11 (Or.inr (by omega)))⟩
  · rw [if_neg c1] at hb hf ⊢
    by_cases c2 : e = 4
    · rw [if_pos c2] at hb hf ⊢
      split at hf
      · exact absurd hf (by show ¬ (1 + 8 * (q : Int) = 0); omega)
      · rename_i c3
        rw [if_neg c3]
        split at hf
        · exact absurd hf (by show ¬ (1 + 8 * (q : Int) + 3 = 0); omega)
        · rename_i c4
          rw [if_neg c4]
          have hs := sgS_b (c := chr T n q) (b := lng T n q)
          have hs4 := bnd_sg hs
          have hl : q + (if lng T n q = true then 2 else 1) ≤ n := by
            have hlt : q < n := by
              by_cases y : q < n
              · exact y
              · have : chr T n q = -1 := by unfold chr; rw [if_neg y]
                rw [this] at c3
                exact absurd ⟨by decide, by decide, by decide⟩ c3
            by_cases y : lng T n q = true
            · rw [if_pos y]
              unfold lng at y
              have := (of_decide_eq_true y).2.1
              omega
            · rw [if_neg y]; omega
          refine ⟨⟨⟨w, ⟨by show 2 ≤ sgS (chr T n q) (lng T n q); omega, by show sgS (chr T n q) (lng T n q) ≤ 14; omega⟩, ?_, fun z => ?_⟩, ?_, by omega, hl, by decide, h6, h7, fun z => by omega, fun z => by omega, fun z => by omega, fun z => Or.inl hs4, fun z => by omega, fun _ _ => h13⟩, Or.inl (by show p < q + (if lng T n q = true then 2 else 1); split <;> omega)⟩
          · rw [if_neg (show ¬ (sgS (chr T n q) (lng T n q) = 11 ∨ sgS (chr T n q) (lng T n q) = 14) by omega)]
            show tb (stl b s D).1 < bnd (sgS (chr T n q) (lng T n q))
            rw [hs4]; omega
          · exact absurd z (show ¬ (sgS (chr T n q) (lng T n q) = 12 ∨ sgS (chr T n q) (lng T n q) = 13) by omega)
          · show (if sgS (chr T n q) (lng T n q) = 11 ∨ sgS (chr T n q) (lng T n q) = 14 then 1 else 0) + dpt (stl b s D).1 ≤ 10
            rw [if_neg (by omega)]; omega
    · rw [if_neg c2] at hb hf ⊢
      by_cases c5 : atB T n q wOr = true
      · rw [if_pos c5] at hb hf ⊢
        have hl := (atW_c ok_or.1 (atB_i.1 c5)).2.1
        rw [ok_or.2.2] at hl
        exact ⟨⟨⟨w, ⟨by show 2 ≤ 13; decide, by show 13 ≤ 14; decide⟩, by rw [if_neg (show ¬ ((13 : Nat) = 11 ∨ (13 : Nat) = 14) by decide)]; show tb (stl b s D).1 < 1; omega, fun z => dd (by omega) c2⟩, by show (if (13 : Nat) = 11 ∨ (13 : Nat) = 14 then 1 else 0) + dpt (stl b s D).1 ≤ 10; rw [if_neg (by decide)]; omega, h3, hl, by decide, h6, h7, fun z => by omega, fun _ => by show bnd 13 ≤ 3; decide, fun z => by omega, fun z => by omega, fun z => by omega, fun _ _ => h13⟩, Or.inl (by show p < q + 2; omega)⟩
      · rw [if_neg c5] at hb hf ⊢
        by_cases c6 : atB T n q wAnd = true
        · rw [if_pos c6] at hb hf ⊢
          have hl := (atW_c ok_and.1 (atB_i.1 c6)).2.1
          rw [ok_and.2.2] at hl
          exact ⟨⟨⟨w, ⟨by show 2 ≤ 12; decide, by show 12 ≤ 14; decide⟩, by rw [if_neg (show ¬ ((12 : Nat) = 11 ∨ (12 : Nat) = 14) by decide)]; show tb (stl b s D).1 < 2; omega, fun z => dd (by omega) c2⟩, by show (if (12 : Nat) = 11 ∨ (12 : Nat) = 14 then 1 else 0) + dpt (stl b s D).1 ≤ 10; rw [if_neg (by decide)]; omega, h3, hl, by decide, h6, h7, fun z => by omega, fun _ => by show bnd 12 ≤ 3; decide, fun z => by omega, fun z => by omega, fun z => by omega, fun _ _ => h13⟩, Or.inl (by show p < q + 3; omega)⟩
        · rw [if_neg c6] at hb hf ⊢
          have t0 : tb (stl b s D).1 = 0 := by omega
          by_cases c7 : chr T n q = 93 ∧ 0 < brk (stl b s D).1
          · rw [if_pos c7]
            have hl := chr_lt c7.1 (by decide)
            obtain ⟨x, s', hx, x14, ht⟩ := brk_1 w t0 c7.2
            rw [hx] at w wd ⊢
            have wd' : (if x.1 = 11 ∨ x.1 = 14 then 1 else 0) + dpt s' ≤ dpt s := wd
            exact ⟨⟨w.1, by show dpt s' ≤ 10; omega, h3, by show q + 1 ≤ n; omega, by decide, h6, h7, fun z => by omega, fun _ => ht, fun z => by omega, fun z => by omega, fun _ => dd (by omega) c2, fun _ _ => h13⟩, Or.inl (by show p < q + 1; omega)⟩
          · rw [if_neg c7] at hf ⊢
            have dcl : ∀ x, x ∈ (k, (stl b s D).2) :: cl → d01 x.2 := fun x hx => by
              rcases List.mem_cons.1 hx with z | z
              · rw [z]; exact dd (by omega) c2
              · exact h7 x z
            by_cases c8 : chr T n q = 59 ∧ brk (stl b s D).1 = 0
            · rw [if_pos c8]
              have hl := chr_lt c8.1 (by decide)
              exact ⟨⟨trivial, Nat.zero_le _, h3, by show q + 1 ≤ n; omega, by decide, by show cl.length + 1 ≤ 12; omega, dcl, fun _ => rfl, fun z => by omega, fun z => by omega, fun z => by omega, fun z => by omega, fun z => by omega⟩, Or.inl (by show p < q + 1; omega)⟩
            · rw [if_neg c8] at hf ⊢
              by_cases c9 : chr T n q = -1 ∧ brk (stl b s D).1 = 0
              · rw [if_pos c9]
                exact ⟨⟨trivial, Nat.zero_le _, h3, by show q ≤ n; omega, by decide, by show cl.length + 1 ≤ 12; omega, dcl, fun _ => rfl, fun z => by omega, fun z => by omega, fun z => by omega, fun z => by omega, fun _ z => by omega⟩, Or.inr rfl⟩
              · rw [if_neg c9] at hf
                exact absurd hf (by show ¬ (1 + 8 * (q : Int) = 0); omega)
end
