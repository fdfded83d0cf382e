/-! THE SIMULATION, instruction by instruction: locals first. -/
theorem sHR.fin {D : va_G} {sa : Nat → Nat} {b : Nat} {ρ : Nat → Nat} {M : sM} {G : sG} {U : State} {H H1 : Heap} (h : sHR D sa b ρ M G U H) {a c y : Nat} (ha : G a = (1, c, y)) (hy : y < sFul c) (hz : H1.size = H.size) (ho : ∀ q, q ≠ ρ a → H1[q]? = H[q]?)
    (hc : sCellK D ρ M (sGs G a (1, c, y + 1)) U H1 a (1, c, y + 1)) : sHR D sa b ρ M (sGs G a (1, c, y + 1)) U H1 := by
  obtain ⟨g0, hb, hl, hi, hcell, hs⟩ := h
  have hane : G a ≠ (0, 0, 0) := sG_ne ha (by simp)
  have hGn : ∀ a', a' ≠ a → sGs G a (1, c, y + 1) a' = G a' := fun a' e => by unfold sGs; rw [if_neg e]
  have hGa : sGs G a (1, c, y + 1) a = (1, c, y + 1) := by unfold sGs; rw [if_pos rfl]
  have a0 : a ≠ 0 := fun e => hane (by rw [e]; exact g0)
  have hnz : ∀ a', sGs G a (1, c, y + 1) a' ≠ (0, 0, 0) → G a' ≠ (0, 0, 0) := fun a' h' => by
    by_cases e : a' = a
    · rw [e]; exact hane
    · rwa [hGn a' e] at h'
  refine ⟨by rw [hGn 0 (fun e => a0 e.symm)]; exact g0, by omega, fun a' h' => ?_, fun x z hx hzz => hi x z (hnz x hx) (hnz z hzz), fun a' => ?_, hs.kept (fun q hq hn => ho q (fun e => hn (by rw [e]; exact (hl a hane).2.1 (by rw [ha]; simp))))⟩
  · have := hl a' (hnz a' h')
    rw [hz]
    by_cases e : a' = a
    · subst e
      rw [hGa]
      rw [ha] at this
      exact this
    · rw [hGn a' e]; exact this
  · by_cases e : a' = a
    · subst e; rw [hGa]; exact hc
    · rw [hGn a' e]
      refine (hcell a').to (fun hq => ho _ (fun e2 => e (hi _ _ (fun z => hq (by rw [z])) hane e2))) (fun _ => rfl) (fun _ _ => rfl) (fun j => rfl) (fun x hx hd => ?_)
      refine hGn x (fun e => ?_)
      subst e
      have := hd c y ha
      omega
def sLoc (sa ρ : Nat → Nat) (L : List sV) (ls : Array Slot) : Prop := ls.size = L.length ∧ lv_wf ls ∧ ∀ (i : Nat) (v : sV), L[i]? = some v → v.1 ≠ 2 → ls[i]? = some (.val (sEnc sa ρ v))
def sLl (sa ρ : Nat → Nat) (L : List sV) : List (Nat × Value) := (List.range L.length).filterMap (fun j => (L[j]?).bind (fun v => if v.1 = 2 then none else some (j, sEnc sa ρ v)))
theorem sLl_mem {sa ρ : Nat → Nat} {L : List sV} {q : Nat × Value} : q ∈ sLl sa ρ L ↔ ∃ v, L[q.1]? = some v ∧ v.1 ≠ 2 ∧ q.2 = sEnc sa ρ v := by
  unfold sLl
  rw [List.mem_filterMap]
  constructor
  · rintro ⟨j, hj, h⟩
    obtain ⟨v, hv, h2⟩ := Option.bind_eq_some_iff.mp h
    by_cases c : v.1 = 2
    · rw [if_pos c] at h2; cases h2
    · rw [if_neg c] at h2
      cases h2
      exact ⟨v, hv, c, rfl⟩
  · rintro ⟨v, hv, c, e⟩
    refine ⟨q.1, List.mem_range.mpr (List.getElem?_eq_some_iff.mp hv).1, ?_⟩
    rw [hv]
    simp only [Option.bind_some, if_neg c]
    rw [← e]
theorem sLoc.has {sa ρ : Nat → Nat} {L : List sV} {ls : Array Slot} (h : sLoc sa ρ L ls) : lv_has ls L.length (sLl sa ρ L) := by
  refine ⟨h.1, h.2.1, fun q hq => ?_⟩
  obtain ⟨v, hv, c, e⟩ := sLl_mem.mp hq
  rw [h.2.2 _ _ hv c, e]
theorem sLoc.of {sa ρ : Nat → Nat} {L : List sV} {ls : Array Slot} {n : Nat} {l : List (Nat × Value)} (h : lv_has ls n l) (hn : L.length = n) (hm : ∀ (i : Nat) (v : sV), L[i]? = some v → v.1 ≠ 2 → (i, sEnc sa ρ v) ∈ l) : sLoc sa ρ L ls :=
  ⟨by rw [h.1, hn], h.2.1, fun i v hv c => h.2.2 _ (hm i v hv c)⟩
theorem sLoc.put1 {sa ρ : Nat → Nat} {L : List sV} {ls : Array Slot} {i : Nat} {v : sV} (hp : sPrev L i = true) (h : lv_has ls L.length ((i, sEnc sa ρ v) :: (sLl sa ρ L).filter (fun q => !(q.1 == i) && !(q.1 + 1 == i && q.2.category == 2)))) : sLoc sa ρ (L.set i v) ls := by
  refine sLoc.of h (by simp) (fun j w hw c => ?_)
  rw [List.getElem?_set] at hw
  by_cases e : i = j
  · subst e
    rw [if_pos rfl] at hw
    split at hw
    · cases hw; exact List.mem_cons_self
    · cases hw
  · rw [if_neg e] at hw
    refine List.mem_cons_of_mem _ (List.mem_filter.mpr ⟨sLl_mem.mpr ⟨w, hw, c, rfl⟩, ?_⟩)
    simp only [Bool.and_eq_true, Bool.not_eq_true', beq_eq_false_iff_ne, Bool.and_eq_false_iff, ne_eq]
    refine ⟨fun z => e z.symm, ?_⟩
    by_cases e2 : j + 1 = i
    · right
      subst e2
      rw [sEnc_cat]
      unfold sPrev at hp
      simp only [Nat.add_sub_cancel, Bool.or_eq_true, beq_iff_eq, bne_iff_ne, ne_eq] at hp
      rcases hp with hp | hp
      · omega
      · rw [List.getD_eq_getElem?_getD, hw] at hp
        unfold sCat
        rw [if_neg (show ¬ w.1 = 1 from hp)]
        decide
    · left; exact e2
theorem sLoc.put2 {sa ρ : Nat → Nat} {L : List sV} {ls : Array Slot} {i : Nat} {v : sV} (hp : sPrev L i = true) (h : lv_has ls L.length ((i, sEnc sa ρ v) :: (sLl sa ρ L).filter (fun q => !(q.1 == i) && (!(q.1 == i + 1) && !(q.1 + 1 == i && q.2.category == 2))))) : sLoc sa ρ ((L.set i v).set (i + 1) vN) ls := by
  refine sLoc.of h (by simp) (fun j w hw c => ?_)
  rw [List.getElem?_set] at hw
  by_cases e1 : i + 1 = j
  · subst e1
    rw [if_pos rfl] at hw
    split at hw
    · cases hw; exact absurd rfl c
    · cases hw
  rw [if_neg e1, List.getElem?_set] at hw
  by_cases e : i = j
  · subst e
    rw [if_pos rfl] at hw
    split at hw
    · cases hw; exact List.mem_cons_self
    · cases hw
  · rw [if_neg e] at hw
    refine List.mem_cons_of_mem _ (List.mem_filter.mpr ⟨sLl_mem.mpr ⟨w, hw, c, rfl⟩, ?_⟩)
    simp only [Bool.and_eq_true, Bool.not_eq_true', beq_eq_false_iff_ne, Bool.and_eq_false_iff, ne_eq]
    refine ⟨fun z => e z.symm, fun z => e1 z.symm, ?_⟩
    by_cases e2 : j + 1 = i
    · right
      subst e2
      rw [sEnc_cat]
      unfold sPrev at hp
      simp only [Nat.add_sub_cancel, Bool.or_eq_true, beq_iff_eq, bne_iff_ne, ne_eq] at hp
      rcases hp with hp | hp
      · omega
      · rw [List.getD_eq_getElem?_getD, hw] at hp
        unfold sCat
        rw [if_neg (show ¬ w.1 = 1 from hp)]
        decide
    · left; exact e2
theorem sCode_dec {k pc : Nat} {x : Instr × Nat} (h : sCode k pc = some x) : decode (sBy k) pc = .ok x := by
  unfold sCode at h
  split at h
  next y hy => cases h; exact hy
  next => cases h
/-- what has stayed since the method's start -/
def sExt (ρ0 : Nat → Nat) (G0 : sG) (ex : Nat) (ρ : Nat → Nat) (G : sG) : Prop := (∀ a, G0 a ≠ (0, 0, 0) → ρ a = ρ0 a) ∧ (∀ a, G0 a ≠ (0, 0, 0) → a ≠ ex → (G0 a).1 ≠ 8 → G a = G0 a) ∧ ∀ a, G0 a ≠ (0, 0, 0) → G a ≠ (0, 0, 0)
/-- the method that runs: its code, its class, its room -/
def sCx (p : Program) (R : Room) (s : State) (m : MethodId) (meth : Method) (c : Code) (D : va_G) (sa : Nat → Nat) (kk d : Nat) : Prop := p.tables.exec = Jvm.exec ∧ c.code = sBy kk ∧ c.maxLocals = sMaxL kk ∧ (∃ O, sOwn[(sKo kk).1]? = some O ∧ s.vm.findClass O = some m.cls) ∧ sKn D sa s ∧ d + 4 + 1 ≤ R.frames ∧ 64 * (d + 4 + 1) ≤ R.locals ∧ (sIni kk = true → meth.name = "<init>") ∧ (sKo kk).2.2.2.1 ≤ R.cells ∧ (sKo kk).2.2.2.2 ≤ R.slots
/-- so many locals; this, if it lies at 0, is the object that is made -/
def sHd (kk ex : Nat) (L : List sV) : Prop := L.length = sMaxL kk ∧ ∀ c a y, c < 20 → L.head? = some (vT c a y) → a = ex
theorem sHd.set {kk ex : Nat} {L : List sV} (h : sHd kk ex L) (i : Nat) {v : sV} (hv : v.1 < 80 ∨ 100 ≤ v.1) : sHd kk ex (L.set i v) := by
  refine ⟨by simpa using h.1, fun c a y hc hh => ?_⟩
  cases L with
  | nil => simp at hh
  | cons w L =>
    cases i with
    | zero =>
      simp only [List.set_cons_zero, List.head?_cons, Option.some.injEq] at hh
      rw [hh] at hv
      simp only [vT] at hv
      omega
    | succ i => exact h.2 c a y hc (by simpa using hh)
def sX (p : Program) (l : Launch) (e : Env) (R : Room) (s : State) (m : MethodId) (args : Array Value) (below : List Frame) (meth : Method) (c : Code) (D : va_G) (sa : Nat → Nat) (b : Nat) (ρ0 : Nat → Nat) (G0 : sG) (ex kk : Nat) (Qf : State → Prop) : sKont := fun pc L S M G n mm =>
  n ≤ R.cells → mm ≤ R.slots → ∀ H locs ρ ls, sHR D sa b ρ M G s H → (∀ q ∈ locs, b ≤ q.base) → sLoc sa ρ L ls → sHd kk ex L → (∀ v ∈ L, sOK G v) → (∀ v ∈ S, sOK G v) → sExt ρ0 G0 ex ρ G → W p l e R s m args below meth c H locs n mm Qf (F0 m pc ls (S.map (sEnc sa ρ)))
theorem sMem1 {α : Type} {P : α → Prop} {v : α} {S : List α} (h : P v) (hS : ∀ x ∈ S, P x) : ∀ x ∈ v :: S, P x := fun x hx => (List.mem_cons.mp hx).elim (fun e => e ▸ h) (hS x)
theorem sMemT {α : Type} {P : α → Prop} {v : α} {S : List α} (hS : ∀ x ∈ v :: S, P x) : ∀ x ∈ S, P x := fun x hx => hS x (List.mem_cons_of_mem _ hx)
theorem sMemS {P : sV → Prop} {L : List sV} {i : Nat} {v : sV} (h : P v) (hL : ∀ x ∈ L, P x) : ∀ x ∈ L.set i v, P x := fun x hx => (List.mem_or_eq_of_mem_set hx).elim (hL x) (fun e => e ▸ h)
section Sim
variable {p : Program} {l : Launch} {e : Env} {R : Room} {s : State} {m : MethodId} {args : Array Value} {below : List Frame} {meth : Method} {c : Code} {D : va_G} {sa : Nat → Nat} {b : Nat} {ρ0 : Nat → Nat} {G0 : sG} {ex kk : Nat} {Qf : State → Prop}
variable {call : sCall} {ret : Option sV → sM → sG → Nat → Nat → Prop} {len pc : Nat} {L S : List sV} {M : sM} {G : sG} {n mm d : Nat}
theorem sim_iconst {x : Int} (C : sCx p R s m meth c D sa kk d) (hcode : sCode kk pc = some (.iconst x, len)) (h : sStep kk call ret (sX p l e R s m args below meth c D sa b ρ0 G0 ex kk Qf) (.iconst x) len pc L S M G n mm) : sX p l e R s m args below meth c D sa b ρ0 G0 ex kk Qf pc L S M G n mm := by
  obtain ⟨hx, hb, -⟩ := C
  obtain ⟨rfl, h1, k⟩ := h
  intro hn hm H locs ρ ls hR hL hl hlen hoL hoS hE
  exact lv_iconst hx hb (sCode_dec hcode) rfl (k hn hm H locs ρ ls hR hL hl hlen hoL (sMem1 h1 hoS) hE)
theorem sim_bipush {x : Int} (C : sCx p R s m meth c D sa kk d) (hcode : sCode kk pc = some (.bipush x, len)) (h : sStep kk call ret (sX p l e R s m args below meth c D sa b ρ0 G0 ex kk Qf) (.bipush x) len pc L S M G n mm) : sX p l e R s m args below meth c D sa b ρ0 G0 ex kk Qf pc L S M G n mm := by
  obtain ⟨hx, hb, -⟩ := C
  obtain ⟨rfl, h1, h2, k⟩ := h
  intro hn hm H locs ρ ls hR hL hl hlen hoL hoS hE
  exact lv_bipush hx hb (sCode_dec hcode) h2 (k hn hm H locs ρ ls hR hL hl hlen hoL (sMem1 h1 hoS) hE)
theorem sim_sipush {x : Int} (C : sCx p R s m meth c D sa kk d) (hcode : sCode kk pc = some (.sipush x, len)) (h : sStep kk call ret (sX p l e R s m args below meth c D sa b ρ0 G0 ex kk Qf) (.sipush x) len pc L S M G n mm) : sX p l e R s m args below meth c D sa b ρ0 G0 ex kk Qf pc L S M G n mm := by
  obtain ⟨hx, hb, -⟩ := C
  obtain ⟨rfl, h1, h2, k⟩ := h
  intro hn hm H locs ρ ls hR hL hl hlen hoL hoS hE
  exact lv_sipush hx hb (sCode_dec hcode) h2 (k hn hm H locs ρ ls hR hL hl hlen hoL (sMem1 h1 hoS) hE)
theorem sim_lconst {x : Fin 2} (C : sCx p R s m meth c D sa kk d) (hcode : sCode kk pc = some (.lconst x, len)) (h : sStep kk call ret (sX p l e R s m args below meth c D sa b ρ0 G0 ex kk Qf) (.lconst x) len pc L S M G n mm) : sX p l e R s m args below meth c D sa b ρ0 G0 ex kk Qf pc L S M G n mm := by
  obtain ⟨hx, hb, -⟩ := C
  obtain ⟨rfl, k⟩ := h
  intro hn hm H locs ρ ls hR hL hl hlen hoL hoS hE
  rcases (show x = 0 ∨ x = 1 from match x with | 0 => Or.inl rfl | 1 => Or.inr rfl) with rfl | rfl
  · exact lv_lconst hx hb (sCode_dec hcode) rfl (k hn hm H locs ρ ls hR hL hl hlen hoL (sMem1 (show sJ 0 from ⟨by omega, by omega⟩) hoS) hE)
  · exact lv_lconst hx hb (sCode_dec hcode) rfl (k hn hm H locs ρ ls hR hL hl hlen hoL (sMem1 (show sJ 1 from ⟨by omega, by omega⟩) hoS) hE)
theorem sim_ldc {x : Nat} (C : sCx p R s m meth c D sa kk d) (hcode : sCode kk pc = some (.ldc x, len)) (h : sStep kk call ret (sX p l e R s m args below meth c D sa b ρ0 G0 ex kk Qf) (.ldc x) len pc L S M G n mm) : sX p l e R s m args below meth c D sa b ρ0 G0 ex kk Qf pc L S M G n mm := by
  obtain ⟨hx, hb, -, ⟨O, ho, hown⟩, hK, -⟩ := C
  obtain ⟨rfl, ⟨v, h1, h2, k⟩ | ⟨j, h1, k⟩⟩ := h
  · obtain ⟨O', ho', hw⟩ := tabI h1
    cases ho.symm.trans ho'
    intro hn hm H locs ρ ls hR hL hl hlen hoL hoS hE
    exact lv_ldc hx hb hown (hK.word hw rfl rfl _) (sCode_dec hcode) (k hn hm H locs ρ ls hR hL hl hlen hoL (sMem1 h2 hoS) hE)
  · obtain ⟨O', t, ho', ht, hj, hw⟩ := tabS h1
    cases ho.symm.trans ho'
    intro hn hm H locs ρ ls hR hL hl hlen hoL hoS hE
    exact va_ldcS hx hb hown (hK.2.2 _ _ _ _ _ h1 ho ht) (sCode_dec hcode) (k hn hm H locs ρ ls hR hL hl hlen hoL (sMem1 hj hoS) hE)
theorem sim_ldc_w {x : Nat} (C : sCx p R s m meth c D sa kk d) (hcode : sCode kk pc = some (.ldc_w x, len)) (h : sStep kk call ret (sX p l e R s m args below meth c D sa b ρ0 G0 ex kk Qf) (.ldc_w x) len pc L S M G n mm) : sX p l e R s m args below meth c D sa b ρ0 G0 ex kk Qf pc L S M G n mm := by
  obtain ⟨hx, hb, -, ⟨O, ho, hown⟩, hK, -⟩ := C
  obtain ⟨rfl, v, h1, h2, k⟩ := h
  obtain ⟨O', ho', hw⟩ := tabI h1
  cases ho.symm.trans ho'
  intro hn hm H locs ρ ls hR hL hl hlen hoL hoS hE
  exact lv_ldcw hx hb hown (hK.word hw rfl rfl _) (sCode_dec hcode) (k hn hm H locs ρ ls hR hL hl hlen hoL (sMem1 h2 hoS) hE)
theorem sim_ldc2_w {x : Nat} (C : sCx p R s m meth c D sa kk d) (hcode : sCode kk pc = some (.ldc2_w x, len)) (h : sStep kk call ret (sX p l e R s m args below meth c D sa b ρ0 G0 ex kk Qf) (.ldc2_w x) len pc L S M G n mm) : sX p l e R s m args below meth c D sa b ρ0 G0 ex kk Qf pc L S M G n mm := by
  obtain ⟨hx, hb, -, ⟨O, ho, hown⟩, hK, -⟩ := C
  obtain ⟨rfl, v, h1, h2, k⟩ := h
  obtain ⟨O', ho', hw⟩ := tabJ h1
  cases ho.symm.trans ho'
  intro hn hm H locs ρ ls hR hL hl hlen hoL hoS hE
  exact lv_ldc2 hx hb hown (hK.word hw rfl rfl _) (sCode_dec hcode) (k hn hm H locs ρ ls hR hL hl hlen hoL (sMem1 h2 hoS) hE)
theorem sim_aconst_null (C : sCx p R s m meth c D sa kk d) (hcode : sCode kk pc = some (.aconst_null, len)) (h : sStep kk call ret (sX p l e R s m args below meth c D sa b ρ0 G0 ex kk Qf) .aconst_null len pc L S M G n mm) : sX p l e R s m args below meth c D sa b ρ0 G0 ex kk Qf pc L S M G n mm := by
  obtain ⟨hx, hb, -⟩ := C
  obtain ⟨rfl, x, h1, k⟩ := h
  intro hn hm H locs ρ ls hR hL hl hlen hoL hoS hE
  refine lv_null hx hb (sCode_dec hcode) ?_
  have := k hn hm H locs ρ ls hR hL hl hlen hoL (sMem1 ((sOK_Q h1).mpr (Or.inl rfl)) hoS) hE
  rw [List.map_cons, sEnc_Q0 sa ρ (by omega)] at this
  exact this
end Sim
