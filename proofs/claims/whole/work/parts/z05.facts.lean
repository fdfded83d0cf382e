/-! The tables' words as they are used. -/
theorem tabF {o x c k : Nat} (h : sFR o x = some (c, k)) : ∃ O r, sOwn[o]? = some O ∧ sCl[c]? = some r ∧ k < r.2.2 ∧ (r.2.1 k).1 = r.1 ∧ (Cond.fieldLinkNest O x (r.2.1 k).1 (r.2.1 k).2.1 (r.2.1 k).2.2.1 "AfterTheLast" ∈ lw_tbl ∨ Cond.fieldLink O x (r.2.1 k).1 (r.2.1 k).2.1 (r.2.1 k).2.2.1 ∈ lw_tbl) ∧ (o = c → Cond.fieldLink O x (r.2.1 k).1 (r.2.1 k).2.1 (r.2.1 k).2.2.1 ∈ lw_tbl) := by
  obtain ⟨p, hp⟩ := sZip sLens.1 (sFind h)
  have hc := ckF_all _ hp
  unfold ckF at hc
  split at hc
  next O r h1 h2 =>
    simp only [Bool.and_eq_true, decide_eq_true_eq] at hc
    obtain ⟨⟨⟨h0, h3⟩, h4⟩, h5⟩ := hc
    refine ⟨O, r, h1, h2, h3, h4, ?_, ?_⟩
    · have := sWd_mem h5
      by_cases hn : p.1 = 1
      · rw [if_pos hn] at this; exact Or.inl this
      · rw [if_neg hn] at this; exact Or.inr this
    · intro e
      have := sWd_mem h5
      rw [if_neg (by have := h0 e; omega)] at this
      exact this
  next => cases hc
theorem tabC {o x c : Nat} (h : sCR o x = some c) : ∃ O r, sOwn[o]? = some O ∧ sCl[c]? = some r ∧ Cond.classLink O x r.1 ∈ lw_tbl := by
  obtain ⟨p, hp⟩ := sZip sLens.2.2.1 (sFind h)
  have hc := ckC_all _ hp
  unfold ckC at hc
  split at hc
  next O r h1 h2 => exact ⟨O, r, h1, h2, sWd_mem (of_decide_eq_true hc)⟩
  next => cases hc
theorem tabI {o x : Nat} {v : Int} (h : sIR o x = some v) : ∃ O, sOwn[o]? = some O ∧ Cond.constant O x (Int32.ofInt v) ∈ lw_tbl := by
  obtain ⟨p, hp⟩ := sZip sLens.2.2.2.1 (sFind h)
  have hc := ckI_all _ hp
  unfold ckI at hc
  split at hc
  next O h1 => exact ⟨O, h1, sWd_mem (of_decide_eq_true hc)⟩
  next => cases hc
theorem tabJ {o x : Nat} {v : Int} (h : sLR o x = some v) : ∃ O, sOwn[o]? = some O ∧ Cond.constantLong O x (Int64.ofInt v) ∈ lw_tbl := by
  obtain ⟨p, hp⟩ := sZip sLens.2.2.2.2.1 (sFind h)
  have hc := ckJ_all _ hp
  unfold ckJ at hc
  split at hc
  next O h1 => exact ⟨O, h1, sWd_mem (of_decide_eq_true hc)⟩
  next => cases hc
theorem tabS {o x j : Nat} (h : sSR o x = some j) : ∃ O t, sOwn[o]? = some O ∧ sTxt[j]? = some t ∧ j < 21 ∧ Cond.stringRef O x t ∈ lw_tbl := by
  obtain ⟨p, hp⟩ := sZip sLens.2.2.2.2.2.1 (sFind h)
  have hc := ckS_all _ hp
  unfold ckS at hc
  split at hc
  next O t h1 h2 =>
    simp only [Bool.and_eq_true, decide_eq_true_eq] at hc
    exact ⟨O, t, h1, h2, hc.2, sWd_mem hc.1⟩
  next => cases hc
/-- a call's link: its own methods, or one of the seven that are taken whole -/
def sPrim (t : Nat) : Option MethodName := if t = 1000 then some Lib.objectInit else if t = 1001 then some Lib.Math.max.name else if t = 1002 then some (⟨"java/lang/Math", "min", "(II)I"⟩ : MethodName) else if t = 1003 then some arraycopyName else if t = 1004 then some ⟨"java/lang/String", "length", "()I"⟩ else if t = 1005 then some ⟨"java/lang/String", "charAt", "(I)C"⟩ else if t = 1006 then some ⟨"[I", "clone", "()Ljava/lang/Object;"⟩ else (sYL[t]?).map (·.1)
theorem tabM {o x t : Nat} (h : sMR o x = some t) : ∃ O y, sOwn[o]? = some O ∧ sPrim t = some y ∧ (t < 279 ∨ 1000 ≤ t) ∧ ((t < 279 ∧ Cond.methodLinkNest O x y "AfterTheLast" ∈ lw_tbl) ∨ Cond.methodLink O x y ∈ lw_tbl) := by
  obtain ⟨p, hp⟩ := sZip sLens.2.1 (sFind h)
  have hc := ckM_all _ hp
  unfold ckM at hc
  split at hc
  next O h1 =>
    split at hc
    next y h2 =>
      simp only [Bool.and_eq_true, decide_eq_true_eq] at hc
      obtain ⟨⟨h3, h4⟩, h5⟩ := hc
      refine ⟨O, y, h1, h2, h4, ?_⟩
      have := sWd_mem h3
      by_cases hn : p.1 = 1
      · rw [if_pos hn] at this
        rcases h4 with h4 | h4
        · exact Or.inl ⟨h4, this⟩
        · have := h5 h4; omega
      · rw [if_neg hn] at this; exact Or.inr this
    next => cases hc
  next => cases hc
/-- what the tables say of one of the 279 methods -/
def sMeth (k : Nat) (y : MethodName) (bs : ByteArray) (nL : Nat) (rt : Option FieldType) (st : Bool) : Prop :=
  sYL[k]? = some (y, bs, nL, rt, st) ∧ Cond.code y bs nL rt ∈ lw_tbl ∧ (st = true → Cond.static y ∈ lw_tbl) ∧ (st = false → Cond.instanceMethod y ∈ lw_tbl) ∧ (st = false → y.name ≠ "<init>" → Cond.selects y.cls y y ∈ lw_tbl) ∧ Cond.initialized y.cls ∈ lw_tbl ∧ plainName y.cls = true ∧ nL ≤ 40 ∧
  sOwn[(sKo k).1]? = some y.cls ∧ (parseMethodDescriptor y.desc).map (fun d => d.parameters.length) = some (sKo k).2.1 ∧ (((sKo k).2.2.1 = 0 ∧ rt = none) ∨ ((sKo k).2.2.1 = 1 ∧ rt = some .int) ∨ ((sKo k).2.2.1 = 2 ∧ rt = some .boolean) ∨ ((sKo k).2.2.1 = 3 ∧ rt = some .long) ∨ ((sKo k).2.2.1 = 4 ∧ (rt = some (.array .int) ∨ rt = some (.object RX6)))) ∧ y.cls ≠ "java/lang/invoke/MethodHandle" ∧ y.cls ≠ "java/lang/invoke/VarHandle" ∧ (st = false → (sKo k).1 < 13)
theorem tabY {k : Nat} (hk : k < 279) : ∃ y bs nL rt st, sMeth k y bs nL rt st := by
  have hlen : sYA.length = 279 := by decide +kernel
  have hlK : sKL.length = 280 := by decide +kernel
  have h1 : sYA[k]? = some (sYA[k]'(by omega)) := List.getElem?_eq_getElem (by omega)
  have h2 : sKL[k]? = some (sKL[k]'(by omega)) := List.getElem?_eq_getElem (by omega)
  generalize he : sYA[k]'(by omega) = e at h1
  generalize hf : sKL[k]'(by omega) = f at h2
  have hm : e ∈ sYA := List.mem_of_getElem? h1
  have hY : sYL[k]? = some e := by unfold sYL; rw [List.getElem?_append_left (by omega)]; exact h1
  have hz : (e, f) ∈ sYL.zip sKL := by
    refine List.mem_of_getElem? (i := k) ?_
    rw [List.getElem?_zip_eq_some]
    exact ⟨hY, h2⟩
  obtain ⟨p, hp⟩ := sZip sLens.2.2.2.2.2.2.1 hm
  have hy := ckY_all _ hp
  have hkk := ckK_all _ hz
  unfold ckY at hy
  unfold ckK at hkk
  obtain ⟨y, bs, nL, rt, st⟩ := e
  have hKo : sKo k = f := by unfold sKo; rw [List.getD_eq_getElem?_getD, h2]; rfl
  simp only [Bool.and_eq_true, Bool.or_eq_true, decide_eq_true_eq, beq_iff_eq] at hy hkk
  obtain ⟨⟨⟨⟨y1, y2⟩, y3⟩, y4⟩, y5⟩ := hy
  obtain ⟨⟨⟨⟨⟨k1, k2⟩, k3⟩, k4⟩, k5⟩, k6⟩ := hkk
  refine ⟨y, bs, nL, rt, st, hY, cwA _ hm, ?_, ?_, ?_, sWd_mem y3, y4, y5, ?_, ?_, ?_, k4, k5, ?_⟩
  · rintro rfl; exact sWd_mem y1
  · rintro rfl; exact sWd_mem y1
  · rintro rfl hne
    rcases y2 with (y2 | y2) | y2
    · cases y2
    · exact absurd y2 hne
    · exact sWd_mem y2
  · rw [hKo]; exact k1
  · rw [hKo]; exact k2
  · rw [hKo]
    rcases k3 with (((k3 | k3) | k3) | k3) | k3
    · exact Or.inl k3
    · exact Or.inr (Or.inl k3)
    · exact Or.inr (Or.inr (Or.inl k3))
    · exact Or.inr (Or.inr (Or.inr (Or.inl k3)))
    · exact Or.inr (Or.inr (Or.inr (Or.inr k3)))
  · rintro rfl
    rw [hKo]
    rcases k6 with k6 | k6
    · cases k6
    · exact k6
theorem tabL {c : Nat} {r : vw_C} (h : sCl[c]? = some r) : (∀ w ∈ u_ws r.1 r.2.1 r.2.2, w ∈ lw_tbl) ∧ Cond.instantiable r.1 r.2.2 ∈ lw_tbl ∧ Cond.initialized r.1 ∈ lw_tbl := by
  obtain ⟨p, hp⟩ := sZip sLens.2.2.2.2.2.2.2.2.1 (List.mem_of_getElem? h)
  have hc := ckL_all _ hp
  unfold ckL at hc
  simp only [Bool.and_eq_true, decide_eq_true_eq, List.all_eq_true, List.mem_range] at hc
  obtain ⟨⟨h1, h2⟩, h3⟩ := hc
  refine ⟨?_, sWd_mem h2, sWd_mem h3⟩
  intro w hw
  obtain ⟨k, hk, rfl⟩ := List.mem_map.mp hw
  have := h1 k (List.mem_range.mp hk)
  obtain ⟨q, hq, hq2⟩ := Option.bind_eq_some_iff.mp this
  exact sWd_mem hq2
theorem tabT {c : Nat} {r : vw_C} (h : sCl[c]? = some r) {k : Nat} (hk : k < r.2.2) : ((sTyOf c k = .int ∧ (sFI c k).2.2.1 = 0) ∨ (sTyOf c k ≠ .int ∧ (sFI c k).2.2.1 ≠ 0 ∧ (r.2.1 k).2.2.2 = true ∧ (sFI c k).1 < sFul c ∧ refKind (sTyOf c k) = true ∧ ((sFI c k).2.2.1 < 60 ∨ 100 ≤ (sFI c k).2.2.1) ∧ 3 < (sFI c k).2.2.1 ∧ ((sFI c k).2.2.1 < 40 ∨ 60 ≤ (sFI c k).2.2.1))) ∧ parseFieldDescriptor (r.2.1 k).2.2.1 = some (sTyOf c k) ∧ (r.2.1 k).1 = r.1 ∧ ∀ j, j < r.2.2 → j ≠ k → (r.2.1 j).2.1 ≠ (r.2.1 k).2.1 := by
  have hl : sCl.length = 13 := by decide +kernel
  have hc13 : c < 13 := by rw [← hl]; exact (List.getElem?_eq_some_iff.mp h).1
  have hm : (r, c) ∈ sCl.zip (List.range 13) := by
    refine List.mem_of_getElem? (i := c) ?_
    rw [List.getElem?_zip_eq_some]
    exact ⟨h, by rw [List.getElem?_range hc13]⟩
  have hc := ckT_all _ hm
  unfold ckT at hc
  simp only [Bool.and_eq_true, Bool.or_eq_true, decide_eq_true_eq, List.all_eq_true, List.mem_range] at hc
  obtain ⟨⟨⟨h1, h2⟩, h3⟩, h4⟩ := hc k hk
  refine ⟨h1, h2, h3, fun j hj hne => ?_⟩
  rcases h4 j hj with q | q
  · exact absurd q hne
  · exact q
