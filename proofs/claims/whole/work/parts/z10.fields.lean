/-! Fields: read and written. -/
theorem sKn.lays {D : va_G} {sa : Nat → Nat} {s : State} (hK : sKn D sa s) {c : Nat} {r : vw_C} (hc : sCl[c]? = some r) (args : Array Value) : ∀ w ∈ u_ws r.1 r.2.1 r.2.2, w.before args s = true := by
  intro w hw
  have hm := (tabL hc).1 w hw
  obtain ⟨k, -, rfl⟩ := List.mem_map.mp hw
  unfold u_lay at hm ⊢
  split
  · next h => rw [if_pos h] at hm; exact hK.word hm rfl rfl args
  · next h => rw [if_neg h] at hm; exact hK.word hm rfl rfl args
theorem sC13 {c : Nat} {r : vw_C} (hc : sCl[c]? = some r) : c < 13 := by
  have hl : sCl.length = 13 := by decide +kernel
  rw [← hl]; exact (List.getElem?_eq_some_iff.mp hc).1
theorem sFieldAt {D : va_G} {sa : Nat → Nat} {s : State} (hK : sKn D sa s) {c : Nat} {r : vw_C} (hc : sCl[c]? = some r) {k : Nat} (hk : k < r.2.2) : ∃ cf kf fi f, s.fieldFound? (r.2.1 k).1 (r.2.1 k).2.1 (r.2.1 k).2.2.1 = some (cf, kf, fi, f) ∧ f.isStatic = false ∧ f.slot = D.2 c k := by
  obtain ⟨hS, hfc, kC, hkC, hkind⟩ := hK.1.1 c _ hc
  obtain ⟨cf, kf, fi, f, hi, hsl⟩ := hS k hk
  exact ⟨cf, kf, fi, f, hi, (u_facts hfc hkC (u_lays (args := #[]) (hK.lays hc #[]) (fun _ h => h) hk) hi).1, hsl⟩
theorem sApart {D : va_G} {sa : Nat → Nat} {s : State} (hK : sKn D sa s) {c : Nat} {r : vw_C} (hc : sCl[c]? = some r) : ∀ x y, x < r.2.2 → y < r.2.2 → x ≠ y → D.2 c x ≠ D.2 c y :=
  va_apart (own := "") (args := #[]) (hK.lays hc #[]) (fun _ h => h) (sTyOf c) (fun k hk => (tabT hc hk).2.1) (fun x hx y hy hne => (tabT hc hy).2.2.2 x hx hne) hK.1 hc
/-- a finished object's value, or this -/
theorem sObj_at {G : sG} {c a : Nat} {v : sV} (hc : c < 13) (h : sObj c a v) (hok : sOK G v) : a ≠ 0 ∧ G a = (1, c, sFul c) ∧ ∀ sa ρ : Nat → Nat, sEnc sa ρ v = .ref (ρ a) := by
  rcases h with rfl | ⟨rfl, h0⟩ | rfl
  · have := (sOK_O hc).mp hok
    exact ⟨this.1, this.2, fun sa ρ => sEnc_O sa ρ hc a⟩
  · rcases (sOK_Q hc).mp hok with z | z
    · exact absurd z h0
    · exact ⟨h0, z, fun sa ρ => sEnc_Q sa ρ c h0⟩
  · have := (sOK_T hc).mp hok
    exact ⟨this.1, by simpa using this.2.2, fun sa ρ => sEnc_T sa ρ c a _⟩
theorem sEnc_sRef (sa ρ : Nat → Nat) {G : sG} {a : Nat} {q : Nat × Nat × Nat × Int} (h1 : 3 < q.2.2.1) (h2 : q.2.2.1 < 40 ∨ 60 ≤ q.2.2.1) : sEnc sa ρ (sRef G a q) = .ref (ρ (a + q.2.1)) := by
  unfold sEnc sRef
  simp only
  rw [if_neg (by omega), if_neg (by omega), if_neg (by omega), if_neg (by omega)]
theorem sOrd {c : Nat} {r : vw_C} (h : sCl[c]? = some r) {j k : Nat} (hj : j < r.2.2) (hk : k < r.2.2) (hne : j ≠ k) (h1 : (sFI c j).2.2.1 ≠ 0) (h2 : (sFI c k).2.2.1 ≠ 0) : (sFI c j).1 ≠ (sFI c k).1 := by
  have hall : ((List.range 13).all fun c => (List.range (sNF c)).all fun j => (List.range (sNF c)).all fun k => (j == k) || ((sFI c j).2.2.1 == 0) || ((sFI c k).2.2.1 == 0) || ((sFI c j).1 != (sFI c k).1)) = true := by decide +kernel
  have hNF : sNF c = r.2.2 := by unfold sNF; rw [h]; rfl
  rw [← hNF] at hj hk
  have h3 := List.all_eq_true.mp (List.all_eq_true.mp (List.all_eq_true.mp hall c (List.mem_range.mpr (sC13 h))) j (List.mem_range.mpr hj)) k (List.mem_range.mpr hk)
  simp only [Bool.or_eq_true, beq_iff_eq, bne_iff_ne] at h3
  rcases h3 with ((h3 | h3) | h3) | h3
  · exact absurd h3 hne
  · exact absurd h3 h1
  · exact absurd h3 h2
  · exact h3
theorem sOK_lo {G G' : sG} {w : sV} (h : sOK G w) (h3 : w.1 ≤ 3) : sOK G' w := by
  unfold sOK at h ⊢
  by_cases c0 : w.1 = 0
  · rw [if_pos c0] at h ⊢; exact h
  rw [if_neg c0] at h ⊢
  by_cases c1 : w.1 = 1
  · rw [if_pos c1] at h ⊢; exact h
  rw [if_neg c1] at h ⊢
  by_cases c2 : w.1 = 2
  · rw [if_pos c2] at h ⊢; exact h
  rw [if_neg c2] at h ⊢
  rw [if_pos (show w.1 = 3 by omega)] at h ⊢
  exact h
section Sim3
variable {p : Program} {l : Launch} {e : Env} {R : Room} {s : State} {m : MethodId} {args : Array Value} {below : List Frame} {meth : Method} {c : Code} {D : va_G} {sa : Nat → Nat} {b : Nat} {ρ0 : Nat → Nat} {G0 : sG} {ex kk : Nat} {Qf : State → Prop}
variable {call : sCall} {ret : Option sV → sM → sG → Nat → Nat → Prop} {len pc : Nat} {L S : List sV} {M : sM} {G : sG} {n mm d : Nat}
/-- a field's value comes onto the stack -/
theorem sim_get0 {x cc k a y : Nat} {H : Heap} {locs : List Loc} {ρ : Nat → Nat} {ls : Array Slot} {st : List Value} (C : sCx p R s m meth c D sa kk d) (hcode : sCode kk pc = some (.getfield x, 3)) (hf : sFR (sKo kk).1 x = some (cc, k)) (hR : sHR D sa b ρ M G s H) (hG : G a = (1, cc, y))
    (kz : W p l e R s m args below meth c H locs n mm Qf (F0 m (pc + 3) ls (sFV ρ M a cc y k :: st))) : W p l e R s m args below meth c H locs n mm Qf (F0 m pc ls (.ref (ρ a) :: st)) := by
  obtain ⟨hx, hb, -, ⟨O, ho, hown⟩, hK, -⟩ := C
  obtain ⟨O', r, ho', hr, hk, hrf, hlink, -⟩ := tabF hf
  cases ho.symm.trans ho'
  have hcell := hR.2.2.2.2.1 a
  rw [hG] at hcell
  obtain ⟨r', hr', ⟨cell, e1, e2, e3, e4⟩, -, -⟩ := hcell
  cases hr.symm.trans hr'
  obtain ⟨cf, kf, fi, f, hi, hst, hsl⟩ := sFieldAt hK hr hk
  rcases hlink with hw | hw
  · exact va_Wgetf hx hb hown (hK.word hw rfl rfl _) hi hst e1 (by rw [e3]; exact fun h => by cases h) (v := sFV ρ M a cc y k) (by rw [hsl]; exact e4 k hk) rfl rfl (sCode_dec hcode) kz
  · exact W.getf hx hb hown (hK.word hw rfl rfl _) hi hst e1 (by rw [e3]; exact fun h => by cases h) (v := sFV ρ M a cc y k) (by rw [hsl]; exact e4 k hk) rfl rfl (sCode_dec hcode) kz
theorem sim_getfield {x : Nat} (C : sCx p R s m meth c D sa kk d) (hcode : sCode kk pc = some (.getfield x, len)) (h : sStep kk call ret (sX p l e R s m args below meth c D sa b ρ0 G0 ex kk Qf) (.getfield x) len pc L S M G n mm) : sX p l e R s m args below meth c D sa b ρ0 G0 ex kk Qf pc L S M G n mm := by
  obtain ⟨rfl, cc, k, a, v, S', hf, rfl, h⟩ := h
  obtain ⟨O', r, ho', hr, hk, hrf, -⟩ := tabF hf
  have hc13 := sC13 hr
  intro hn hm H locs ρ ls hR hL hl hlen hoL hoS hE
  have hv := hoS v List.mem_cons_self
  rcases h with ⟨h1, h2, kz⟩ | ⟨h1, h2, kz⟩
  · have key : ∃ y, G a = (1, cc, y) ∧ sEnc sa ρ v = .ref (ρ a) := by
      rcases h2 with h2 | ⟨y, rfl⟩
      · have := sObj_at hc13 h2 hv; exact ⟨_, this.2.1, this.2.2 sa ρ⟩
      · have := (sOK_T hc13).mp hv; exact ⟨_, this.2.2, sEnc_T sa ρ cc a y⟩
    obtain ⟨y, hG, he⟩ := key
    have hcell := hR.2.2.2.2.1 a
    rw [hG] at hcell
    obtain ⟨r', hr', -, h3, -⟩ := hcell
    cases hr.symm.trans hr'
    rw [List.map_cons, he]
    refine sim_get0 C hcode hf hR hG ?_
    have := kz hn hm H locs ρ ls hR hL hl hlen hoL (sMem1 (h3 k hk h1) (sMemT hoS)) hE
    unfold sFV
    rw [if_pos h1]
    exact this
  · have key : ∃ y, G a = (1, cc, y) ∧ (sFI cc k).1 < y ∧ sEnc sa ρ v = .ref (ρ a) := by
      rcases (tabT hr hk).1 with t | t
      · exact absurd t.2 h1
      rcases h2 with h2 | ⟨y, rfl, hy⟩
      · have := sObj_at hc13 h2 hv; exact ⟨_, this.2.1, t.2.2.2.1, this.2.2 sa ρ⟩
      · have := (sOK_T hc13).mp hv; exact ⟨_, this.2.2, by omega, sEnc_T sa ρ cc a y⟩
    obtain ⟨y, hG, hy, he⟩ := key
    have hcell := hR.2.2.2.2.1 a
    rw [hG] at hcell
    obtain ⟨r', hr', -, -, h4⟩ := hcell
    cases hr.symm.trans hr'
    rw [List.map_cons, he]
    refine sim_get0 C hcode hf hR hG ?_
    have := kz hn hm H locs ρ ls hR hL hl hlen hoL (sMem1 (h4 k hk h1 hy) (sMemT hoS)) hE
    rcases (tabT hr hk).1 with t | t
    · exact absurd t.2 h1
    rw [List.map_cons, sEnc_sRef sa ρ t.2.2.2.2.2.2.1 t.2.2.2.2.2.2.2] at this
    unfold sFV
    rw [if_neg h1, if_pos hy]
    exact this
/-- a value goes into a field: the cell as it is then -/
theorem sim_put0 {x cc k a y : Nat} {H : Heap} {locs : List Loc} {ρ : Nat → Nat} {ls : Array Slot} {st : List Value} {v : Value} (C : sCx p R s m meth c D sa kk d) (hcode : sCode kk pc = some (.putfield x, 3)) (hf : sFR (sKo kk).1 x = some (cc, k)) (hR : sHR D sa b ρ M G s H) (hG : G a = (1, cc, y))
    (hfin : sFin cc k = false ∨ (cc = (sKo kk).1 ∧ sIni kk = true)) (hn1 : narrow (sTyOf cc k) v = v) (hft : fits (sTyOf cc k) v = true)
    (kz : ∀ H', t_OB (ρ a) (D.1 cc) (sNF cc) (D.2 cc) H' (updV (sFV ρ M a cc y) k v) → H'.size = H.size → (∀ q, q ≠ ρ a → H'[q]? = H[q]?) → ∀ z, W p l e R s m args below meth c H' (locs ++ [⟨ρ a, z⟩]) n mm Qf (F0 m (pc + 3) ls st)) : W p l e R s m args below meth c H locs n mm Qf (F0 m pc ls (v :: .ref (ρ a) :: st)) := by
  obtain ⟨hx, hb, -, ⟨O, ho, hown⟩, hK, -, -, hini, -⟩ := C
  obtain ⟨O', r, ho', hr, hk, hrf, hlink, hplain⟩ := tabF hf
  cases ho.symm.trans ho'
  have hcell := hR.2.2.2.2.1 a
  rw [hG] at hcell
  obtain ⟨r', hr', ⟨cell, e1, e2, e3, e4⟩, -, -⟩ := hcell
  cases hr.symm.trans hr'
  have hNF : sNF cc = r.2.2 := by unfold sNF; rw [hr]; rfl
  have hFin : sFin cc k = (r.2.1 k).2.2.2 := by unfold sFin; rw [hr]; rfl
  obtain ⟨hS, hfc, kC, hkC, hkind⟩ := hK.1.1 cc _ hr
  obtain ⟨cf, kf, fi, f, hi, hsl⟩ := hS k hk
  have hts := hK.lays hr args
  have hst := (u_facts hfc hkC (u_lays hts (fun _ h => h) hk) hi).1
  have hd := (tabT hr hk).2.1
  have hlay := hts _ (u_in_lay hk)
  unfold u_lay at hlay
  have hap := sApart hK hr
  have fin : ∀ H' : Heap, H'[ρ a]? = some (cell.setSlot f.slot v) → t_OB (ρ a) (D.1 cc) (sNF cc) (D.2 cc) H' (updV (sFV ρ M a cc y) k v) := fun H' h' => by
    rw [hsl] at h'
    rw [hNF]
    exact ⟨_, h', e2, e3, t_set e4 hap hk v⟩
  by_cases hfn : (r.2.1 k).2.2.2 = true
  · rw [if_pos hfn] at hlay
    rcases hfin with hfin | ⟨hown2, hin2⟩
    · rw [hFin, hfn] at hfin; cases hfin
    have hw := hplain hown2.symm
    have hO : r.1 = O := by
      have h1 : sOwn[cc]? = some r.1 := by
        have hall : ∀ i, i < 13 → sOwn[i]? = (sCl[i]?).map (·.1) := by decide +kernel
        rw [hall cc (sC13 hr), hr]; rfl
      rw [← hown2] at ho
      exact Option.some.inj (h1.symm.trans ho)
    have hcf : m.cls = cf := by
      obtain ⟨_, _, c', _, _, _, -, -, hf', -, -, -, hown3, -⟩ := Cond.laysFinal_spec hlay
      have e1 : c' = cf := by have := hi.symm.trans hf'; simp at this; exact this.1.symm
      rw [hrf, hO] at hown3
      rw [← e1]; exact Option.some.inj (hown.symm.trans hown3)
    have h6 := u_fits hfc hkC hkind (Or.inr hlay) hi hd hn1 hft
    refine W.putFinK hx hb hown (hK.word hw rfl rfl _) hi hst hcf (hini hin2) (by rw [e2]; exact h6) e1 e3 (by rw [hsl]; exact k2_hasslot (e4 k hk)) rfl rfl (sCode_dec hcode) fun H' g1 g2 g3 => kz H' (fin H' g1) g2 g3 _
  · rw [if_neg hfn] at hlay
    have h6 := u_store hfc hkC hkind hlay hi hd hn1 hft
    rcases hlink with hw | hw
    · exact va_WputK hx hb hown (hK.word hw rfl rfl _) hi hst (by rw [e2]; exact h6) e1 e3 (by rw [hsl]; exact k2_hasslot (e4 k hk)) rfl rfl (sCode_dec hcode) fun H' g1 g2 g3 => kz H' (fin H' g1) g2 g3 _
    · exact W.putK hx hb ⟨hown, hK.word hw rfl rfl _, ⟨_, _, _, hi⟩, hst⟩ (by rw [e2]; exact h6) e1 e3 (by rw [hsl]; exact k2_hasslot (e4 k hk)) rfl rfl (sCode_dec hcode) fun H' g1 g2 g3 => kz H' (fin H' g1) g2 g3 _
theorem sim_putfield {x : Nat} (C : sCx p R s m meth c D sa kk d) (hcode : sCode kk pc = some (.putfield x, len)) (h : sStep kk call ret (sX p l e R s m args below meth c D sa b ρ0 G0 ex kk Qf) (.putfield x) len pc L S M G n mm) : sX p l e R s m args below meth c D sa b ρ0 G0 ex kk Qf pc L S M G n mm := by
  obtain ⟨rfl, cc, k, a, v, u, S', hf, rfl, h⟩ := h
  obtain ⟨O', r, ho', hr, hk, hrf, -⟩ := tabF hf
  have hc13 := sC13 hr
  have hNF : sNF cc = r.2.2 := by unfold sNF; rw [hr]; rfl
  intro hn hm H locs ρ ls hR hL hl hlen hoL hoS hE
  have hu := hoS u List.mem_cons_self
  have hv := hoS v (List.mem_cons_of_mem _ List.mem_cons_self)
  rcases h with ⟨z, h1, rfl, h2, kz⟩ | ⟨h1, hcc, hini, rfl, rfl, rfl, L', rfl, hL', kz⟩
  · have key : ∃ y, G a = (1, cc, y) ∧ sEnc sa ρ v = .ref (ρ a) ∧ (sFin cc k = false ∨ (cc = (sKo kk).1 ∧ sIni kk = true)) := by
      rcases h2 with ⟨h2, h3⟩ | ⟨y, rfl, h3, h4⟩
      · have := sObj_at hc13 h2 hv; exact ⟨_, this.2.1, this.2.2 sa ρ, Or.inl h3⟩
      · have := (sOK_T hc13).mp hv; exact ⟨_, this.2.2, sEnc_T sa ρ cc a y, Or.inr ⟨h3, h4⟩⟩
    obtain ⟨y, hG, he, hfin⟩ := key
    have hint : sTyOf cc k = .int := by
      rcases (tabT hr hk).1 with t | t
      · exact t.1
      · exact absurd h1 t.2.1
    rw [List.map_cons, List.map_cons, he]
    refine sim_put0 C hcode hf hR hG hfin (v := .int (Int32.ofInt z)) (by rw [hint]; rfl) (by rw [hint]; rfl) (fun H' g1 g2 g3 zz => ?_)
    have hane := sG_ne hG (by simp)
    have h7 : (G a).1 ≠ 7 := by rw [hG]; simp
    have hR' : sHR D sa b ρ (sUpd M a k z) G s H' := by
      refine hR.write hane h7 g2 g3 (fun a' j hne => by unfold sUpd; rw [if_neg (fun q => hne q.1)]) ?_
      have hcell := hR.2.2.2.2.1 a
      rw [hG] at hcell ⊢
      obtain ⟨r', hr', -, h3, h4⟩ := hcell
      cases hr.symm.trans hr'
      rw [hNF] at g1
      refine ⟨r, hr, g1.to (fun j hj => ?_), fun j hj hj0 => ?_, h4⟩
      · unfold updV sFV sUpd
        by_cases ej : j = k
        · subst ej; rw [if_pos rfl, if_pos h1, if_pos ⟨rfl, rfl⟩]
        · rw [if_neg ej, if_neg (c := a = a ∧ j = k) (fun q => ej q.2)]
      · unfold sUpd
        by_cases ej : a = a ∧ j = k
        · rw [if_pos ej]; exact hu
        · rw [if_neg ej]; exact h3 j hj hj0
    exact kz hn hm H' _ ρ ls hR' (fun q hq => by
      rcases List.mem_append.mp hq with hq | hq
      · exact hL q hq
      · rw [List.mem_singleton.mp hq]; exact (hR.2.2.1 a hane).2.1 h7) hl hlen hoL (sMemT (sMemT hoS)) hE
  · have hT := (sOK_T hc13).mp hv
    have hG : G a = (1, cc, (sFI cc k).1) := by simpa using hT.2.2
    rcases (tabT hr hk).1 with t | t
    · exact absurd t.2 h1
    have hty : ∃ q, sEnc sa ρ (sRef G a (sFI cc k)) = .ref q := ⟨_, sEnc_sRef sa ρ t.2.2.2.2.2.2.1 t.2.2.2.2.2.2.2⟩
    have hfitn : narrow (sTyOf cc k) (.ref (ρ (a + (sFI cc k).2.1))) = .ref (ρ (a + (sFI cc k).2.1)) ∧ fits (sTyOf cc k) (.ref (ρ (a + (sFI cc k).2.1))) = true := by
      have := t.2.2.2.2.1
      cases hq : sTyOf cc k <;> rw [hq] at this <;> first | exact ⟨rfl, rfl⟩ | cases this
    rw [List.map_cons, List.map_cons, sEnc_T, sEnc_sRef sa ρ t.2.2.2.2.2.2.1 t.2.2.2.2.2.2.2]
    refine sim_put0 C hcode hf hR hG (Or.inr ⟨hcc, hini⟩) hfitn.1 hfitn.2 (fun H' g1 g2 g3 zz => ?_)
    have hane := sG_ne hG (by simp)
    have h7 : (G a).1 ≠ 7 := by rw [hG]; simp
    have hal := sOK_alloc hu t.2.2.2.2.2.2.1 t.2.2.2.2.2.2.2
    have hdn := sOK_done hu t.2.2.2.2.2.1 (by rcases t.2.2.2.2.2.2.2 with z | z <;> simp only [sRef] <;> omega) t.2.2.2.2.2.2.1
    have hne : ∀ x, G x ≠ (0, 0, 0) → (∀ c y, G x = (1, c, y) → y = sFul c) → x ≠ a := fun x _ hd e => by
      have := hd cc (sFI cc k).1 (by rw [e]; exact hG)
      have := t.2.2.2.1
      omega
    have hGn : ∀ x, x ≠ a → sGs G a (1, cc, (sFI cc k).1 + 1) x = G x := fun x e => by unfold sGs; rw [if_neg e]
    have hGa : sGs G a (1, cc, (sFI cc k).1 + 1) a = (1, cc, (sFI cc k).1 + 1) := by unfold sGs; rw [if_pos rfl]
    have okTo : ∀ w : sV, sOK G w → w.2.1 ≠ a → sOK (sGs G a (1, cc, (sFI cc k).1 + 1)) w := fun w hw hwa => sOK_to hw (fun _ => hGn _ hwa)
    have refTo : ∀ j, j < r.2.2 → (sFI cc j).2.2.1 ≠ 0 → sOK G (sRef G a (sFI cc j)) → sOK (sGs G a (1, cc, (sFI cc k).1 + 1)) (sRef (sGs G a (1, cc, (sFI cc k).1 + 1)) a (sFI cc j)) := fun j hj hj0 hw => by
      rcases (tabT hr hj).1 with t' | t'
      · exact absurd t'.2 hj0
      have hna := hne _ (sOK_alloc hw t'.2.2.2.2.2.2.1 t'.2.2.2.2.2.2.2) (sOK_done hw t'.2.2.2.2.2.1 (by rcases t'.2.2.2.2.2.2.2 with z | z <;> simp only [sRef] <;> omega) t'.2.2.2.2.2.2.1)
      have e1 : sRef (sGs G a (1, cc, (sFI cc k).1 + 1)) a (sFI cc j) = sRef G a (sFI cc j) := by
        have : sGs G a (1, cc, (sFI cc k).1 + 1) (a + (sFI cc j).2.1) = G (a + (sFI cc j).2.1) := hGn _ hna
        unfold sRef; rw [this]
      rw [e1]
      exact okTo _ hw hna
    have hR' : sHR D sa b ρ M (sGs G a (1, cc, (sFI cc k).1 + 1)) s H' := by
      refine hR.fin hG t.2.2.2.1 g2 g3 ?_
      have hcell := hR.2.2.2.2.1 a
      rw [hG] at hcell
      obtain ⟨r', hr', -, h3, h4⟩ := hcell
      cases hr.symm.trans hr'
      rw [hNF] at g1
      refine ⟨r, hr, g1.to (fun j hj => ?_), h3, fun j hj hj0 hjy => ?_⟩
      · unfold updV sFV
        by_cases ej : j = k
        · subst ej; rw [if_pos rfl, if_neg h1, if_pos (Nat.lt_succ_self _)]
        · rw [if_neg ej]
          by_cases hj0 : (sFI cc j).2.2.1 = 0
          · rw [if_pos hj0, if_pos hj0]
          · rw [if_neg hj0, if_neg hj0]
            have hord := sOrd hr hj hk ej hj0 h1
            by_cases hy : (sFI cc j).1 < (sFI cc k).1
            · rw [if_pos hy, if_pos (by omega)]
            · rw [if_neg hy, if_neg (by omega)]
      · by_cases ej : j = k
        · subst ej; exact refTo j hj hj0 hu
        · have hord := sOrd hr hj hk ej hj0 h1
          exact refTo j hj hj0 (h4 j hj hj0 (by omega))
    refine kz hn hm H' _ ρ ls hR' (fun q hq => by
      rcases List.mem_append.mp hq with hq | hq
      · exact hL q hq
      · rw [List.mem_singleton.mp hq]; exact (hR.2.2.1 a hane).2.1 h7) ?_ ⟨by simpa using hlen.1, fun c' a' y' hc' hh => by
        simp only [List.head?_cons, Option.some.injEq, vT, Prod.mk.injEq] at hh
        rw [← hh.2.1]; exact hlen.2 cc a _ (by omega) rfl⟩ ?_ (fun v hv => absurd hv List.not_mem_nil) ?_
    · refine ⟨by simpa using hl.1, hl.2.1, fun i w hw c2 => ?_⟩
      cases i with
      | zero =>
        cases hw
        have := hl.2.2 0 _ rfl (by simp only [vT]; omega)
        rw [sEnc_T] at this ⊢
        exact this
      | succ i => exact hl.2.2 (i + 1) w hw c2
    · intro w hw
      rcases List.mem_cons.mp hw with rfl | hw
      · exact (sOK_T hc13).mpr ⟨hT.1, by omega, by rw [hGa]; rfl⟩
      · have hlt := of_decide_eq_true (List.all_eq_true.mp hL' w hw)
        have hwok := hoL w (List.mem_cons_of_mem _ hw)
        by_cases h3 : 3 < w.1
        · by_cases hz : 40 ≤ w.1 ∧ w.1 < 53 ∧ w.2.1 = 0
          · refine sOK_to hwok (fun hh => ?_)
            rw [hz.2.2] at hh
            exact absurd hR.1 hh
          · refine okTo w hwok (fun e => ?_)
            have h40 : w.1 < 40 ∨ 53 ≤ w.1 ∨ w.2.1 ≠ 0 := by omega
            have := sOK_done hwok (Or.inl hlt) h40 h3 cc (sFI cc k).1 (by rw [e]; exact hG)
            have := t.2.2.2.1
            omega
        · exact sOK_lo hwok (by omega)
    · refine ⟨hE.1, fun x hx hxe h8 => ?_, fun x hx => ?_⟩
      rotate_left
      · by_cases e : x = a
        · rw [e, hGa]; simp
        · rw [hGn x e]; exact hE.2.2 x hx
      by_cases e : x = a
      · subst e
        exact absurd (hlen.2 cc x _ (by omega) rfl) hxe
      · rw [hGn x e]; exact hE.2.1 x hx hxe h8
end Sim3
