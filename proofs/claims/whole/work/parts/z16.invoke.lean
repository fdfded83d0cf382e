/-! The calls of own methods, the ends, the entry; the simulation of every call. -/
theorem sIni_void : ∀ k, k < 279 → sIni k = true → (sKo k).2.2.1 = 0 := by
  have h : ((List.range 279).all fun k => !sIni k || (sKo k).2.2.1 == 0) = true := by decide +kernel
  intro k hk hi
  have := List.all_eq_true.mp h k (List.mem_range.mpr hk)
  simpa [hi] using this
theorem sOwnCl : ∀ i, i < 13 → sOwn[i]? = (sCl[i]?).map (·.1) := by decide +kernel
section Sim10
variable {p : Program} {l : Launch} {e : Env} {R : Room} {s : State} {m : MethodId} {args : Array Value} {below : List Frame} {meth : Method} {c : Code} {D : va_G} {sa : Nat → Nat} {b : Nat} {ρ0 : Nat → Nat} {G0 : sG} {ex kk : Nat} {Qf : State → Prop}
variable {ret : Option sV → sM → sG → Nat → Nat → Prop} {len pc : Nat} {L S : List sV} {M : sM} {G : sG} {n mm d : Nat}
theorem sArg_ne {A : List sV} (h : sArg A = true) : ∀ v ∈ A, v.1 ≠ 2 ∧ (v.1 < 60 ∨ 100 ≤ v.1) := fun v hv => by
  have := List.all_eq_true.mp h v hv
  simpa using this
theorem sNoF_ne {A : List sV} (h : sNoF A = true) : ∀ v ∈ A, v.1 < 60 ∨ 80 ≤ v.1 := fun v hv => by
  have := List.all_eq_true.mp h v hv
  simpa using this
theorem sEx_cons (v : sV) (A : List sV) : sEx (v :: A) = if 80 ≤ v.1 ∧ v.1 < 100 then v.2.1 else 0 := rfl
theorem sEx_arg {A : List sV} (h : sArg A = true) : sEx A = 0 := by
  cases A with
  | nil => rfl
  | cons v A =>
    have := (sArg_ne h v List.mem_cons_self).2
    rw [sEx_cons, if_neg (by omega)]
theorem sim_static {x k : Nat} {A rest : List sV} (hMet : sMetD l D sa b d) (C : sCx p R s m meth c D sa kk d) (hcode : sCode kk pc = some (.invokestatic x, 3)) (hk : sMR (sKo kk).1 x = some k) (hk2 : k < 1000) (hst : sStat k = true) (hlA : A.length = (sKo k).2.1) (hcat : sCats rest ≤ 8) (n1 : sNoF L = true) (n2 : sNoF rest = true) (n3 : sArg A = true) (hbd : n + (sKo k).2.2.2.1 ≤ (sKo kk).2.2.2.1 ∧ mm + (sKo k).2.2.2.2 ≤ (sKo kk).2.2.2.2)
    (hcall : sC d k A M G (fun r M' G' => sX p l e R s m args below meth c D sa b ρ0 G0 ex kk Qf (pc + 3) L (r.toList ++ rest) M' G' (n + (sKo k).2.2.2.1) (mm + (sKo k).2.2.2.2))) : sX p l e R s m args below meth c D sa b ρ0 G0 ex kk Qf pc L (A.reverse ++ rest) M G n mm := by
  obtain ⟨hx, hb, hml, ⟨O, ho, hown⟩, hK, hfr, hlo, -, hrc, hrs⟩ := C
  obtain ⟨O', y', ho', hy, hk3, hl'⟩ := tabM hk
  cases ho.symm.trans ho'
  have hk279 : k < 279 := by omega
  obtain ⟨y, bs, nL, rt, st, hm⟩ := tabY hk279
  have hyy : y' = y := by
    unfold sPrim at hy
    rw [if_neg (by omega), if_neg (by omega), if_neg (by omega), if_neg (by omega), if_neg (by omega), if_neg (by omega), if_neg (by omega), hm.1] at hy
    cases hy; rfl
  subst hyy
  obtain ⟨e1, e2, e3, -⟩ := sBy_eq hm
  have hst' : st = true := by rw [← e3]; exact hst
  intro hn hmm H locs ρ ls hR hL hl hlen hoL hoS hE
  have hoA : ∀ v ∈ A, sOK G v := fun v hv => hoS v (List.mem_append_left _ (List.mem_reverse.mpr hv))
  have hoR : ∀ v ∈ rest, sOK G v := fun v hv => hoS v (List.mem_append_right _ hv)
  have hM := hMet k A M G _ hk279 hcall ρ hoA (fun v hv => (sArg_ne n3 v hv).1) y' bs nL rt st hm
  rw [sEx_arg n3] at hM
  obtain ⟨w1, w2, w3, w4, w5⟩ := sim_cw (args := args) (x := x) (O := O) hK hm hfr hlo
  have hpre : PreS s H (sPc D sa b ρ A M G) (A.map (sEnc sa ρ)) := ⟨sPc_blind, fun U hU hW => ⟨rfl, hK.warm hW, by rw [hU]; exact hR.moved hW.alike⟩⟩
  have hS : (A.reverse ++ rest).map (sEnc sa ρ) = (A.map (sEnc sa ρ)).reverse ++ rest.map (sEnc sa ρ) := by rw [List.map_append, List.map_reverse]
  have hstat := hK.word (hm.2.2.1 hst') rfl rfl args
  have hfix : CallFix p m c (sBy kk) (sMaxL kk) s args [] O := ⟨hx, hb, hml, hown, fun w hw => absurd hw List.not_mem_nil⟩
  have hsz : ls.size = sMaxL kk := by rw [hl.1, hlen.1]
  have hcs : 2 * (F0 m pc ls ((A.reverse ++ rest).map (sEnc sa ρ))).monitorRoom + ((rest.map (sEnc sa ρ)).map fun v => v.category).sum ≤ 8 := by rw [sCats_eq]; show 2 * 0 + _ ≤ 8; omega
  have hrun : va_Run p l e R s m args below meth c H locs n mm (sKo k).2.2.2.1 (sKo k).2.2.2.2 (F0 m pc ls ((A.reverse ++ rest).map (sEnc sa ρ))) (rest.map (sEnc sa ρ)) (sQc D sa b ρ G 0 (fun r M' G' => sX p l e R s m args below meth c D sa b ρ0 G0 ex kk Qf (pc + 3) L (r.toList ++ rest) M' G' (n + (sKo k).2.2.2.1) (mm + (sKo k).2.2.2.2)) (A.map (sEnc sa ρ)).toArray) (fun q => b ≤ q) := by
    rcases hl' with ⟨-, hw⟩ | hw
    · exact va_runSN (n := (sKo k).2.1) hfix hM ⟨⟨w1, w2, w3, w4, w5, hK.word hw rfl rfl args⟩, hstat, trivial⟩ hpre rfl (by rw [List.length_map]; exact hlA) hsz hS hcs (sCode_dec hcode) ⟨Nat.le_trans hbd.1 hrc, Nat.le_trans hbd.2 hrs⟩
    · exact va_runS (n := (sKo k).2.1) hfix hM ⟨⟨w1.1, w1.2.1, w1.2.2.1, w1.2.2.2.1, w1.2.2.2.2.1, w1.2.2.2.2.2, w2, w3, w4, w5, hK.word hw rfl rfl args⟩, hstat⟩ hpre rfl (by rw [List.length_map]; exact hlA) hsz hS hcs (sCode_dec hcode) ⟨Nat.le_trans hbd.1 hrc, Nat.le_trans hbd.2 hrs⟩
  refine sim_back hR hL hl hlen hoL hE (Nat.le_trans hbd.1 hrc) (Nat.le_trans hbd.2 hrs) n1 (fun _ _ => rfl) (Or.inl ⟨rfl, rfl⟩) hrun (fun r M' G' ρ' hq hE' hρ hto hok => ⟨r.toList ++ rest, ?_, ?_, hq⟩)
  · rw [List.map_append, sMap_to hoR hρ]
    cases r <;> rfl
  · intro v hv
    rcases List.mem_append.mp hv with hv | hv
    · cases r with
      | none => cases hv
      | some w => rw [List.mem_singleton.mp hv]; exact hok w rfl
    · exact hto v (hoR v hv) (sNoF_ne n2 v hv)
theorem sim_virtual {x k cc a : Nat} {v : sV} {A rest : List sV} (hMet : sMetD l D sa b d) (C : sCx p R s m meth c D sa kk d) (hcode : sCode kk pc = some (.invokevirtual x, 3)) (hk : sMR (sKo kk).1 x = some k) (hk2 : k < 1000) (hst : sStat k = false) (hini : sIni k = false) (hcc : (sKo k).1 = cc) (hv : sObj cc a v) (hlA : A.length = (sKo k).2.1) (hcat : sCats rest ≤ 8) (n1 : sNoF L = true) (n2 : sNoF rest = true) (n3 : sArg A = true) (hbd : n + (sKo k).2.2.2.1 ≤ (sKo kk).2.2.2.1 ∧ mm + (sKo k).2.2.2.2 ≤ (sKo kk).2.2.2.2)
    (hcall : sC d k (vO cc a :: A) M G (fun r M' G' => sX p l e R s m args below meth c D sa b ρ0 G0 ex kk Qf (pc + 3) L (r.toList ++ rest) M' G' (n + (sKo k).2.2.2.1) (mm + (sKo k).2.2.2.2))) : sX p l e R s m args below meth c D sa b ρ0 G0 ex kk Qf pc L (A.reverse ++ v :: rest) M G n mm := by
  obtain ⟨hx, hb, hml, ⟨O, ho, hown⟩, hK, hfr, hlo, -, hrc, hrs⟩ := C
  obtain ⟨O', y', ho', hy, hk3, hl'⟩ := tabM hk
  cases ho.symm.trans ho'
  have hk279 : k < 279 := by omega
  obtain ⟨y, bs, nL, rt, st, hm⟩ := tabY hk279
  have hyy : y' = y := by
    unfold sPrim at hy
    rw [if_neg (by omega), if_neg (by omega), if_neg (by omega), if_neg (by omega), if_neg (by omega), if_neg (by omega), if_neg (by omega), hm.1] at hy
    cases hy; rfl
  subst hyy
  obtain ⟨e1, e2, e3, e4⟩ := sBy_eq hm
  have hst' : st = false := by rw [← e3]; exact hst
  have hni : y'.name ≠ "<init>" := fun z => by rw [e4.mpr z] at hini; cases hini
  have hc13 : cc < 13 := by rw [← hcc]; exact hm.2.2.2.2.2.2.2.2.2.2.2.2.2 hst'
  intro hn hmm H locs ρ ls hR hL hl hlen hoL hoS hE
  have hoA : ∀ v ∈ A, sOK G v := fun v hv => hoS v (List.mem_append_left _ (List.mem_reverse.mpr hv))
  have hoV : sOK G v := hoS v (List.mem_append_right _ List.mem_cons_self)
  have hoR : ∀ v ∈ rest, sOK G v := fun v hv => hoS v (List.mem_append_right _ (List.mem_cons_of_mem _ hv))
  obtain ⟨va0, vG, vE⟩ := sObj_at hc13 hv hoV
  have hM := hMet k (vO cc a :: A) M G _ hk279 hcall ρ (sMem1 ((sOK_O hc13).mpr ⟨va0, vG⟩) hoA) (sMem1 (by simp only [vO]; omega) (fun v hv => (sArg_ne n3 v hv).1)) y' bs nL rt st hm
  rw [show sEx (vO cc a :: A) = 0 by rw [sEx_cons, if_neg (by simp only [vO]; omega)]] at hM
  obtain ⟨w1, w2, w3, w4, w5⟩ := sim_cw (args := args) (x := x) (O := O) hK hm hfr hlo
  have hA1 : ((vO cc a :: A).map (sEnc sa ρ)) = .ref (ρ a) :: A.map (sEnc sa ρ) := by rw [List.map_cons, sEnc_O sa ρ hc13]
  have hcellA := hR.2.2.2.2.1 a
  rw [vG] at hcellA
  obtain ⟨r0, hr0, ⟨cell, q1, q2, q3, q4⟩, -, -⟩ := hcellA
  have hCn : y'.cls = r0.1 := by
    have h9 := hm.2.2.2.2.2.2.2.2.1
    rw [hcc, sOwnCl cc hc13, hr0] at h9
    exact (Option.some.inj h9).symm
  have hpre : PreV s H y'.cls (ρ a) (sPc D sa b ρ (vO cc a :: A) M G) (A.map (sEnc sa ρ)) := ⟨sPc_blind, ⟨cell, q1, by rw [q3]; rfl, by rw [hCn, q2]; exact (hK.1.1 cc r0 hr0).2.1⟩, fun U hU hW => ⟨by rw [hA1], hK.warm hW, by rw [hU]; exact hR.moved hW.alike⟩⟩
  have hS : (A.reverse ++ v :: rest).map (sEnc sa ρ) = (A.map (sEnc sa ρ)).reverse ++ .ref (ρ a) :: rest.map (sEnc sa ρ) := by rw [List.map_append, List.map_reverse, List.map_cons, vE sa ρ]
  have hinst := hK.word (hm.2.2.2.1 hst') rfl rfl args
  have hsel := hK.word (hm.2.2.2.2.1 hst' hni) rfl rfl args
  have hfix : CallFix p m c (sBy kk) (sMaxL kk) s args [] O := ⟨hx, hb, hml, hown, fun w hw => absurd hw List.not_mem_nil⟩
  have hsz : ls.size = sMaxL kk := by rw [hl.1, hlen.1]
  have hcs : 2 * (F0 m pc ls ((A.reverse ++ v :: rest).map (sEnc sa ρ))).monitorRoom + ((rest.map (sEnc sa ρ)).map fun v => v.category).sum ≤ 8 := by rw [sCats_eq]; show 2 * 0 + _ ≤ 8; omega
  have hrun : va_Run p l e R s m args below meth c H locs n mm (sKo k).2.2.2.1 (sKo k).2.2.2.2 (F0 m pc ls ((A.reverse ++ v :: rest).map (sEnc sa ρ))) (rest.map (sEnc sa ρ)) (sQc D sa b ρ G 0 (fun r M' G' => sX p l e R s m args below meth c D sa b ρ0 G0 ex kk Qf (pc + 3) L (r.toList ++ rest) M' G' (n + (sKo k).2.2.2.1) (mm + (sKo k).2.2.2.2)) (Value.ref (ρ a) :: A.map (sEnc sa ρ)).toArray) (fun q => b ≤ q) := by
    rcases hl' with ⟨-, hw⟩ | hw
    · exact va_runVN (n := (sKo k).2.1) (C := y'.cls) hfix hM ⟨⟨w1, w2, w3, w4, w5, hK.word hw rfl rfl args⟩, hinst, hsel⟩ hpre rfl (by rw [List.length_map]; exact hlA) hsz hS hcs (sCode_dec hcode) ⟨Nat.le_trans hbd.1 hrc, Nat.le_trans hbd.2 hrs⟩
    · exact va_runV (n := (sKo k).2.1) (C := y'.cls) hfix hM ⟨⟨w1.1, w1.2.1, w1.2.2.1, w1.2.2.2.1, w1.2.2.2.2.1, w1.2.2.2.2.2, w2, w3, w4, w5, hK.word hw rfl rfl args⟩, hinst, hsel⟩ hpre rfl (by rw [List.length_map]; exact hlA) hsz hS hcs (sCode_dec hcode) ⟨Nat.le_trans hbd.1 hrc, Nat.le_trans hbd.2 hrs⟩
  refine sim_back hR hL hl hlen hoL hE (Nat.le_trans hbd.1 hrc) (Nat.le_trans hbd.2 hrs) n1 (fun _ _ => rfl) (Or.inl ⟨rfl, rfl⟩) hrun (fun r M' G' ρ' hq hE' hρ hto hok => ⟨r.toList ++ rest, ?_, ?_, hq⟩)
  · rw [List.map_append, sMap_to hoR hρ]
    cases r <;> rfl
  · intro v hv
    rcases List.mem_append.mp hv with hv | hv
    · cases r with
      | none => cases hv
      | some w => rw [List.mem_singleton.mp hv]; exact hok w rfl
    · exact hto v (hoR v hv) (sNoF_ne n2 v hv)
theorem sim_ctor {x k cc a : Nat} {A rest : List sV} (hMet : sMetD l D sa b d) (C : sCx p R s m meth c D sa kk d) (hcode : sCode kk pc = some (.invokespecial x, 3)) (hk : sMR (sKo kk).1 x = some k) (hk2 : k < 1000) (hst : sStat k = false) (hini : sIni k = true) (hcc : (sKo k).1 = cc) (hlA : A.length = (sKo k).2.1) (hcat : sCats rest ≤ 7) (n1 : sNoF L = true) (n2 : sNoF rest = true) (n3 : sArg A = true) (hbd : n + (sKo k).2.2.2.1 ≤ (sKo kk).2.2.2.1 ∧ mm + (sKo k).2.2.2.2 ≤ (sKo kk).2.2.2.2)
    (hcall : sC d k (vT cc a 0 :: A) M (sGs G a (1, cc, 0)) (fun r M' G' => r = none ∧ G' a = (1, cc, sFul cc) ∧ sX p l e R s m args below meth c D sa b ρ0 G0 ex kk Qf (pc + 3) L (vO cc a :: rest) M' G' (n + (sKo k).2.2.2.1) (mm + (sKo k).2.2.2.2))) : sX p l e R s m args below meth c D sa b ρ0 G0 ex kk Qf pc L (A.reverse ++ vF cc a :: vF cc a :: rest) M G n mm := by
  obtain ⟨hx, hb, hml, ⟨O, ho, hown⟩, hK, hfr, hlo, -, hrc, hrs⟩ := C
  obtain ⟨O', y', ho', hy, hk3, hl'⟩ := tabM hk
  cases ho.symm.trans ho'
  have hk279 : k < 279 := by omega
  obtain ⟨y, bs, nL, rt, st, hm⟩ := tabY hk279
  have hyy : y' = y := by
    unfold sPrim at hy
    rw [if_neg (by omega), if_neg (by omega), if_neg (by omega), if_neg (by omega), if_neg (by omega), if_neg (by omega), if_neg (by omega), hm.1] at hy
    cases hy; rfl
  subst hyy
  obtain ⟨e1, e2, e3, e4⟩ := sBy_eq hm
  have hst' : st = false := by rw [← e3]; exact hst
  have hni : y'.name = "<init>" := e4.mp hini
  have hrt : rt = none := by
    rcases hm.2.2.2.2.2.2.2.2.2.2.1 with z | z | z | z | z
    · exact z.2
    · have := sIni_void k hk279 hini; omega
    · have := sIni_void k hk279 hini; omega
    · have := sIni_void k hk279 hini; omega
    · have := sIni_void k hk279 hini; omega
  subst hrt
  have hc13 : cc < 13 := by rw [← hcc]; exact hm.2.2.2.2.2.2.2.2.2.2.2.2.2 hst'
  intro hn hmm H locs ρ ls hR hL hl hlen hoL hoS hE
  have hoA : ∀ v ∈ A, sOK G v := fun v hv => hoS v (List.mem_append_left _ (List.mem_reverse.mpr hv))
  have hoV := (sOK_F hc13).mp (hoS (vF cc a) (List.mem_append_right _ List.mem_cons_self))
  have hoR : ∀ v ∈ rest, sOK G v := fun v hv => hoS v (List.mem_append_right _ (List.mem_cons_of_mem _ (List.mem_cons_of_mem _ hv)))
  have hGn : ∀ x, x ≠ a → sGs G a (1, cc, 0) x = G x := fun x ee => by unfold sGs; rw [if_neg ee]
  have hGa : sGs G a (1, cc, 0) a = (1, cc, 0) := by unfold sGs; rw [if_pos rfl]
  have hane : G a ≠ (0, 0, 0) := sG_ne hoV.2 (by simp)
  have h8 : (G a).1 = 8 := by rw [hoV.2]
  have hR1 := hR.begins hoV.2
  have hoA1 : ∀ v ∈ A, sOK (sGs G a (1, cc, 0)) v := fun v hv => by
    have hok := hoA v hv
    have hf := (sArg_ne n3 v hv).2
    by_cases h3 : 3 < v.1
    · by_cases hz : 40 ≤ v.1 ∧ v.1 < 53 ∧ v.2.1 = 0
      · refine sOK_to hok (fun hh => ?_)
        rw [hz.2.2] at hh
        exact absurd hR.1 hh
      · have := sOK_n8 hok h3 (by omega) hz
        exact sOK_to hok (fun _ => hGn _ (fun ee => this (by rw [ee]; exact h8)))
    · exact sOK_lo hok (by omega)
  have hM := hMet k (vT cc a 0 :: A) M (sGs G a (1, cc, 0)) _ hk279 hcall ρ (sMem1 ((sOK_T hc13).mpr ⟨hoV.1, by omega, hGa⟩) hoA1) (sMem1 (by simp only [vT]; omega) (fun v hv => (sArg_ne n3 v hv).1)) y' bs nL none st hm
  rw [show sEx (vT cc a 0 :: A) = a by rw [sEx_cons, if_pos (by simp only [vT]; omega)]] at hM
  obtain ⟨w1, w2, w3, w4, w5⟩ := sim_cw (args := args) (x := x) (O := O) hK hm hfr hlo
  have hA1 : ((vT cc a 0 :: A).map (sEnc sa ρ)) = .ref (ρ a) :: A.map (sEnc sa ρ) := by rw [List.map_cons, sEnc_T sa ρ]
  have hpre : PreS s H (sPc D sa b ρ (vT cc a 0 :: A) M (sGs G a (1, cc, 0))) (.ref (ρ a) :: A.map (sEnc sa ρ)) := ⟨sPc_blind, fun U hU hW => ⟨by rw [hA1], hK.warm hW, by rw [hU]; exact hR1.moved hW.alike⟩⟩
  have hS : (A.reverse ++ vF cc a :: vF cc a :: rest).map (sEnc sa ρ) = (A.map (sEnc sa ρ)).reverse ++ .ref (ρ a) :: (.ref (ρ a) :: rest.map (sEnc sa ρ)) := by rw [List.map_append, List.map_reverse, List.map_cons, List.map_cons, sEnc_F sa ρ]
  have hinst := hK.word (hm.2.2.2.1 hst') rfl rfl args
  have hfix : CallFix p m c (sBy kk) (sMaxL kk) s args [] O := ⟨hx, hb, hml, hown, fun w hw => absurd hw List.not_mem_nil⟩
  have hsz : ls.size = sMaxL kk := by rw [hl.1, hlen.1]
  have hcs : 2 * (F0 m pc ls ((A.reverse ++ vF cc a :: vF cc a :: rest).map (sEnc sa ρ))).monitorRoom + ((Value.ref (ρ a) :: rest.map (sEnc sa ρ)).map fun v => v.category).sum ≤ 8 := by
    rw [List.map_cons, List.sum_cons, sCats_eq]
    show 2 * 0 + (1 + _) ≤ 8
    omega
  have hrun : va_Run p l e R s m args below meth c H locs n mm (sKo k).2.2.2.1 (sKo k).2.2.2.2 (F0 m pc ls ((A.reverse ++ vF cc a :: vF cc a :: rest).map (sEnc sa ρ))) (Value.ref (ρ a) :: rest.map (sEnc sa ρ)) (sQc D sa b ρ (sGs G a (1, cc, 0)) a (fun r M' G' => r = none ∧ G' a = (1, cc, sFul cc) ∧ sX p l e R s m args below meth c D sa b ρ0 G0 ex kk Qf (pc + 3) L (vO cc a :: rest) M' G' (n + (sKo k).2.2.2.1) (mm + (sKo k).2.2.2.2)) (Value.ref (ρ a) :: A.map (sEnc sa ρ)).toArray) (fun q => b ≤ q) := by
    rcases hl' with ⟨-, hw⟩ | hw
    · exact va_runIN (n := (sKo k).2.1) hfix hM ⟨⟨w1, w2, w3, w4, w5, hK.word hw rfl rfl args⟩, hni, hinst⟩ hpre rfl (by rw [List.length_map]; exact hlA) hsz hS hcs (sCode_dec hcode) ⟨Nat.le_trans hbd.1 hrc, Nat.le_trans hbd.2 hrs⟩
    · exact va_runI (n := (sKo k).2.1) hfix hM ⟨⟨w1.1, w1.2.1, w1.2.2.1, w1.2.2.2.1, w1.2.2.2.2.1, w1.2.2.2.2.2, w2, w3, w4, w5, hK.word hw rfl rfl args⟩, hni, hinst⟩ hpre rfl (by rw [List.length_map]; exact hlA) hsz hS hcs (sCode_dec hcode) ⟨Nat.le_trans hbd.1 hrc, Nat.le_trans hbd.2 hrs⟩
  refine sim_back hR hL hl hlen hoL hE (Nat.le_trans hbd.1 hrc) (Nat.le_trans hbd.2 hrs) n1 hGn (Or.inr ⟨h8, by rw [hGa]; simp⟩) hrun (fun r M' G' ρ' hq hE' hρ hto hok => ?_)
  obtain ⟨rfl, hq1, hq2⟩ := hq
  refine ⟨vO cc a :: rest, ?_, sMem1 ((sOK_O hc13).mpr ⟨hoV.1, hq1⟩) (fun v hv => hto v (hoR v hv) (sNoF_ne n2 v hv)), hq2⟩
  rw [List.map_cons, sEnc_O sa ρ' hc13, sMap_to hoR hρ, hρ a hane]
  rfl
/-- the ends of a method -/
theorem sim_ret {i : Instr} {Q : Option sV → sM → sG → Prop} {y : MethodName} {bs : ByteArray} {nL : Nat} {rt : Option FieldType} {st : Bool} {call : sCall} (hm : sMeth kk y bs nL rt st) (hlocks : meth.locks = false) (hrt : meth.sig.returnType = rt) (C : sCx p R s m meth c D sa kk d) (hcode : sCode kk pc = some (i, len)) (hi : i = .ireturn ∨ i = .lreturn ∨ i = .areturn ∨ i = .return_)
    (h : sStep kk call (sEnd kk Q) (sX p l e R s m args below meth c D sa b ρ0 G0 ex kk (MQ below (sQc D sa b ρ0 G0 ex Q) args s (sKo kk).2.2.2.1 (sKo kk).2.2.2.2 (fun q => b ≤ q))) i len pc L S M G n mm) : sX p l e R s m args below meth c D sa b ρ0 G0 ex kk (MQ below (sQc D sa b ρ0 G0 ex Q) args s (sKo kk).2.2.2.1 (sKo kk).2.2.2.2 (fun q => b ≤ q)) pc L S M G n mm := by
  obtain ⟨hx, hb, -⟩ := C
  have hrk := hm.2.2.2.2.2.2.2.2.2.2.1
  intro hn hmm H locs ρ ls hR hL hl hlen hoL hoS hE
  have post : ∀ (r : Option sV), Q r M G → (∀ v, r = some v → sOK G v) → ∀ t : State, t.heap = H → s.WarmedH t.vm → sQc D sa b ρ0 G0 ex Q args s (.returned (r.map (sEnc sa ρ))) t := fun r hq hok t ht hW => ⟨r, M, G, ρ, rfl, hq, by rw [ht]; exact hR.moved hW.alike, hE, hok⟩
  rcases hi with rfl | rfl | rfl | rfl
  · obtain ⟨rfl, x, rfl, hk, e1, e2, e3⟩ := h
    refine W.widen e1 e2 ?_
    rcases hk with hk | ⟨hk, hx01⟩
    · have hr : meth.sig.returnType = some .int := by
        rw [hrt]
        rcases hrk with z | z | z | z | z <;> first | exact z.2 | omega
      exact W.iret hx hb hr (post (some (vI x)) e3 (fun v hv => by cases hv; exact hoS _ List.mem_cons_self)) hL (sCode_dec hcode) hlocks
    · have hr : meth.sig.returnType = some .boolean := by
        rw [hrt]
        rcases hrk with z | z | z | z | z <;> first | exact z.2 | omega
      exact W.zret hx hb hr (by rcases hx01 with rfl | rfl <;> rfl) (post (some (vI x)) e3 (fun v hv => by cases hv; exact hoS _ List.mem_cons_self)) hL (sCode_dec hcode) hlocks
  · obtain ⟨rfl, x, rfl, hk, e1, e2, e3⟩ := h
    refine W.widen e1 e2 ?_
    have hr : meth.sig.returnType = some .long := by
      rw [hrt]
      rcases hrk with z | z | z | z | z <;> first | exact z.2 | omega
    exact W.lret hx hb hr (post (some (vL x)) e3 (fun v hv => by cases hv; exact hoS _ List.mem_cons_self)) hL (sCode_dec hcode) hlocks
  · obtain ⟨rfl, v, w, ⟨rfl, hw⟩, hk, h3, h4, e1, e2, e3⟩ := h
    refine W.widen e1 e2 ?_
    have hr : ∃ t, meth.sig.returnType = some t ∧ ((∃ n, t = .object n) ∨ ∃ u, t = .array u) := by
      rw [hrt]
      rcases hrk with z | z | z | z | ⟨-, z | z⟩
      · omega
      · omega
      · omega
      · omega
      · exact ⟨_, z, Or.inr ⟨_, rfl⟩⟩
      · exact ⟨_, z, Or.inl ⟨_, rfl⟩⟩
    obtain ⟨t, hr, ht⟩ := hr
    have hv := hoS v List.mem_cons_self
    have key : sEnc sa ρ w = sEnc sa ρ v ∧ sOK G w := by
      rcases hw with rfl | ⟨c', a', hc', rfl, rfl⟩
      · exact ⟨rfl, hv⟩
      · have := (sOK_O hc').mp hv
        exact ⟨by rw [sEnc_O sa ρ hc', sEnc_Q sa ρ c' this.1], (sOK_Q hc').mpr (Or.inr this.2)⟩
    have := post (some w) e3 (fun u hu => by cases hu; exact key.2)
    rw [Option.map_some, key.1] at this
    exact W.aret hx hb hr ht (sEnc_ref sa ρ h3) this hL (sCode_dec hcode) hlocks
  · obtain ⟨rfl, rfl, hk, e1, e2, e3⟩ := h
    refine W.widen e1 e2 ?_
    have hr : meth.sig.returnType = none := by
      rw [hrt]
      rcases hrk with z | z | z | z | z <;> first | exact z.2 | omega
    exact W.vret hx hb hr (post none e3 (fun v hv => by cases hv)) hL (sCode_dec hcode) hlocks
end Sim10
