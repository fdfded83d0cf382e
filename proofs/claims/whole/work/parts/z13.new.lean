/-! New objects and arrays; the methods that are taken whole. -/
theorem wSysNat : Cond.native arraycopyName ∈ lw_tbl := mT3 (List.mem_of_getElem? (i := 126) (by decide +kernel))
theorem wSysStat : Cond.static arraycopyName ∈ lw_tbl := mT3 (List.mem_of_getElem? (i := 125) (by decide +kernel))
theorem wSysIni : Cond.initialized "java/lang/System" ∈ lw_tbl := mT1 (List.mem_of_getElem? (i := 18) (by decide +kernel))
theorem wMathIni : Cond.initialized "java/lang/Math" ∈ lw_tbl := mT1 (List.mem_of_getElem? (i := 20) (by decide +kernel))
theorem wMmaxStat : Cond.static Lib.Math.max.name ∈ lw_tbl := mT4 (List.mem_of_getElem? (i := 157) (by decide +kernel))
theorem wMmaxCode : Cond.code Lib.Math.max.name Lib.Math.max.code 2 (some .int) ∈ lw_tbl := mT4 (List.mem_of_getElem? (i := 158) (by rfl))
theorem wMminStat : Cond.static Lib.Math.min.name ∈ lw_tbl := mT4 (List.mem_of_getElem? (i := 0) (by decide +kernel))
theorem wMminCode : Cond.code Lib.Math.min.name Lib.Math.min.code 2 (some .int) ∈ lw_tbl := mT4 (List.mem_of_getElem? (i := 1) (by rfl))
theorem wObjInst : Cond.instanceMethod Lib.objectInit ∈ lw_tbl := mT1 (List.mem_of_getElem? (i := 28) (by decide +kernel))
theorem wObjCode : Cond.code Lib.objectInit ⟨#[0xb1]⟩ 1 none ∈ lw_tbl := mT1 (List.mem_of_getElem? (i := 29) (by rfl))
theorem wCloSame : Cond.sameMethod "[I" "java/lang/Object" "clone" "()Ljava/lang/Object;" ∈ lw_tbl := mT3 (List.mem_of_getElem? (i := 233) (by decide +kernel))
theorem wCloNat : Cond.native ⟨"java/lang/Object", "clone", "()Ljava/lang/Object;"⟩ ∈ lw_tbl := mT3 (List.mem_of_getElem? (i := 234) (by decide +kernel))
theorem wCloInst : Cond.instanceMethod ⟨"java/lang/Object", "clone", "()Ljava/lang/Object;"⟩ ∈ lw_tbl := mT3 (List.mem_of_getElem? (i := 235) (by decide +kernel))
theorem wCloSel : Cond.selects "[I" ⟨"[I", "clone", "()Ljava/lang/Object;"⟩ ⟨"java/lang/Object", "clone", "()Ljava/lang/Object;"⟩ ∈ lw_tbl := mT3 (List.mem_of_getElem? (i := 236) (by decide +kernel))
theorem wCloCast : Cond.castable "[I" "java/lang/Cloneable" ∈ lw_tbl := mT3 (List.mem_of_getElem? (i := 237) (by decide +kernel))
theorem wCastLink : Cond.classLink "java/util/Arrays" 317 "[I" ∈ lw_tbl := mT3 (List.mem_of_getElem? (i := 238) (by decide +kernel))
theorem wArrI : Cond.arrayClass .int ∈ lw_tbl := mT1 (List.mem_of_getElem? (i := 58) (by decide +kernel))
theorem wArrJ : Cond.arrayClass .long ∈ lw_tbl := mT2 (List.mem_of_getElem? (i := 92) (by decide +kernel))
theorem wArrZ : Cond.arrayClass .boolean ∈ lw_tbl := mT2 (List.mem_of_getElem? (i := 155) (by decide +kernel))
theorem wArrB : Cond.arrayClass .byte ∈ lw_tbl := mT3 (List.mem_of_getElem? (i := 127) (by decide +kernel))
theorem wOverRule : Cond.arrayOver (.object "AfterTheLast$Rule") ∈ lw_tbl := mT1 (List.mem_of_getElem? (i := 113) (by decide +kernel))
theorem wOverScene : Cond.arrayOver (.object "AfterTheLast$Scene") ∈ lw_tbl := mT2 (List.mem_of_getElem? (i := 76) (by decide +kernel))
section Sim6
variable {p : Program} {l : Launch} {e : Env} {R : Room} {s : State} {m : MethodId} {args : Array Value} {below : List Frame} {meth : Method} {c : Code} {D : va_G} {sa : Nat → Nat} {b : Nat} {ρ0 : Nat → Nat} {G0 : sG} {ex kk : Nat} {Qf : State → Prop}
variable {call : sCall} {ret : Option sV → sM → sG → Nat → Nat → Prop} {len pc : Nat} {L S : List sV} {M : sM} {G : sG} {n mm d : Nat}
theorem sim_new {x : Nat} (C : sCx p R s m meth c D sa kk d) (hcode : sCode kk pc = some (.new x, len)) (h : sStep kk call ret (sX p l e R s m args below meth c D sa b ρ0 G0 ex kk Qf) (.new x) len pc L S M G n mm) : sX p l e R s m args below meth c D sa b ρ0 G0 ex kk Qf pc L S M G n mm := by
  obtain ⟨hx, hb, -, ⟨O, ho, hown⟩, hK, -, -, -, hrc, hrs⟩ := C
  obtain ⟨rfl, cc, a, hc, ha0, ha, hbd, k⟩ := h
  obtain ⟨O', r, ho', hr, hw⟩ := tabC hc
  cases ho.symm.trans ho'
  have hNF : sNF cc = r.2.2 := by unfold sNF; rw [hr]; rfl
  have hc13 := sC13 hr
  intro hn hm H locs ρ ls hR hL hl hlen hoL hoS hE
  obtain ⟨-, hinst, hini⟩ := tabL hr
  have hKn := hK.1.1 cc r hr
  obtain ⟨m1, m2, m3⟩ := sMade (H := H) (q := (8, cc, 0)) ha (by simp) hE
  refine W.newcK hx hb hown (hK.word hw rfl rfl _) (hK.word hinst rfl rfl _) (hK.word hini rfl rfl _) rfl (sCode_dec hcode) (Nat.le_trans hbd.1 hrc) (by rw [← hNF]; exact Nat.le_trans hbd.2 hrs) hKn.2.1 rfl fun H' kC hkC e1 e2 e3 => ?_
  have hborn := u_born (sTyOf cc) (hK.lays hr args) (fun _ h => h) hKn hkC e1 (fun j hj => (tabT hr hj).2.1)
  have hGa : sGs G a (8, cc, 0) a = (8, cc, 0) := by unfold sGs; rw [if_pos rfl]
  have hR' : sHR D sa b (fun x => if x = a then H.size else ρ x) (sClr M a) (sGs G a (8, cc, 0)) s H' := by
    refine hR.make ha ha0 (by simp) (by simp) e2 e3 (fun a' j hne => by unfold sClr; rw [if_neg hne]) ⟨r, hr, ?_, fun j hj _ => ?_⟩
    · simp only [if_pos]
      refine hborn.to (fun j hj => ?_)
      unfold sFV sClr
      rw [if_pos rfl]
      rcases (tabT hr hj).1 with t | t
      · rw [if_pos t.2, t.1]; rfl
      · rw [if_neg t.2.1, if_neg (Nat.not_lt_zero _)]
        have h1 := t.2.2.2.2.1
        cases hq : sTyOf cc j <;> rw [hq] at h1 <;> first | rfl | cases h1
    · unfold sClr; rw [if_pos rfl]; exact sI_0
  have := k (Nat.le_trans hbd.1 hrc) (Nat.le_trans hbd.2 hrs) H' locs _ ls hR' hL (hl.to hoL m1) hlen (fun v hv => m2 v (hoL v hv)) (sMem1 ((sOK_F hc13).mpr ⟨by omega, hGa⟩) (fun v hv => m2 v (hoS v hv))) m3
  rw [List.map_cons, sEnc_F, sMap_to hoS m1] at this
  simp only [if_pos] at this
  rw [← hNF]
  exact this
theorem sRoomA {x : Int} (h1 : x ≤ 4096) (ty : FieldType) (hb : componentBytes ty ≤ 8) : x.toNat * componentBytes ty ≤ 536870912 := by
  have : x.toNat ≤ 4096 := by omega
  have := Nat.mul_le_mul this hb
  omega
theorem sim_newarray {t : Jvm.ClassFile.ArrayType} (C : sCx p R s m meth c D sa kk d) (hcode : sCode kk pc = some (.newarray t, len)) (h : sStep kk call ret (sX p l e R s m args below meth c D sa b ρ0 G0 ex kk Qf) (.newarray t) len pc L S M G n mm) : sX p l e R s m args below meth c D sa b ρ0 G0 ex kk Qf pc L S M G n mm := by
  obtain ⟨hx, hb, -, -, hK, -, -, -, hrc, hrs⟩ := C
  obtain ⟨rfl, x, a, S', rfl, ht, hx0, hx1, ha0, ha, hbd, k⟩ := h
  intro hn hm H locs ρ ls hR hL hl hlen hoL hoS hE
  have hX : sI x := hoS _ List.mem_cons_self
  obtain ⟨m1, m2, m3⟩ := sMade (H := H) (q := (2 + sAt t, x.toNat, 0)) ha (by simp) hE
  have hGa : sGs G a (2 + sAt t, x.toNat, 0) a = (2 + sAt t, x.toNat, 0) := by unfold sGs; rw [if_pos rfl]
  rw [List.map_cons, sEnc_I]
  have harr : (Cond.arrayClass (newarray.typeOf t)).before args s = true := by
    cases t <;> first | exact hK.2.1 _ wArrI rfl | exact hK.2.1 _ wArrJ rfl | exact hK.2.1 _ wArrB rfl | exact hK.2.1 _ wArrZ rfl | exact absurd ht (by decide)
  have hcb : componentBytes (newarray.typeOf t) ≤ 8 := by cases t <;> decide
  refine va_newaK hx hb harr rfl (sCode_dec hcode) rfl (sNn hX hx0) (sIx hX) (sRoomA hx1 _ hcb) (Nat.le_trans hbd.1 hrc) (Nat.le_trans hbd.2 hrs) rfl fun H' cA e1 e2 e3 hAr hNm => ?_
  have hKa : ∀ ty : FieldType, newarray.typeOf t = ty → (∀ C, ty ≠ .object C) → va_K D sCl [(cA, ty)] s := fun ty hty hno => ⟨hK.1.1, fun i q hq => by
    cases i with
    | zero =>
      cases hq
      rw [← hty]
      refine ⟨hAr, ?_⟩
      cases t <;> exact hNm
    | succ i => cases hq⟩
  have hM : ∀ j, sClr M a a j = 0 := fun j => by unfold sClr; rw [if_pos rfl]
  have hR' : sHR D sa b (fun x => if x = a then H.size else ρ x) (sClr M a) (sGs G a (2 + sAt t, x.toNat, 0)) s H' := by
    refine hR.make ha ha0 (by simp) (by simp only; omega) e2 e3 (fun a' j hne => by unfold sClr; rw [if_neg hne]) ?_
    cases t <;> first | exact absurd ht (by decide) | skip
    · refine ⟨cA, hKa _ rfl (fun C h => by cases h), ?_, fun j => Or.inl (hM j)⟩
      simp only [if_pos, hM]; exact e1
    · refine ⟨cA, hKa _ rfl (fun C h => by cases h), ?_, fun j => by rw [hM]; exact ⟨by omega, by omega⟩⟩
      simp only [if_pos, hM]; exact e1
    · refine ⟨cA, hKa _ rfl (fun C h => by cases h), ?_, fun j => by rw [hM]; exact sI_0⟩
      simp only [if_pos, hM]; exact e1
    · refine ⟨cA, hKa _ rfl (fun C h => by cases h), ?_, fun j => by rw [hM]; exact ⟨by omega, by omega⟩⟩
      simp only [if_pos, hM]; exact e1
  have := k (Nat.le_trans hbd.1 hrc) (Nat.le_trans hbd.2 hrs) H' locs _ ls hR' hL (hl.to hoL m1) hlen (fun v hv => m2 v (hoL v hv)) (sMem1 ((sOK_A (by omega)).mpr ⟨hx0, by rw [hGa, if_neg (by omega), Nat.add_comm]⟩) (fun v hv => m2 v (hoS v (List.mem_cons_of_mem _ hv)))) m3
  rw [List.map_cons, sEnc_A sa _ (by omega), sMap_to (sMemT hoS) m1] at this
  simp only [if_pos] at this
  exact this
theorem sim_anewarray {y : Nat} (C : sCx p R s m meth c D sa kk d) (hcode : sCode kk pc = some (.anewarray y, len)) (h : sStep kk call ret (sX p l e R s m args below meth c D sa b ρ0 G0 ex kk Qf) (.anewarray y) len pc L S M G n mm) : sX p l e R s m args below meth c D sa b ρ0 G0 ex kk Qf pc L S M G n mm := by
  obtain ⟨hx, hb, -, ⟨O, ho, hown⟩, hK, -, -, -, hrc, hrs⟩ := C
  obtain ⟨rfl, cc, x, a, S', hc, hc68, rfl, hx0, hx1, ha0, ha, hbd, k⟩ := h
  obtain ⟨O', r, ho', hr, hw⟩ := tabC hc
  cases ho.symm.trans ho'
  have hc13 := sC13 hr
  intro hn hm H locs ρ ls hR hL hl hlen hoL hoS hE
  have hX : sI x := hoS _ List.mem_cons_self
  obtain ⟨m1, m2, m3⟩ := sMade (H := H) (q := (6, x.toNat, cc)) ha (by simp) hE
  have hGa : sGs G a (6, x.toNat, cc) a = (6, x.toNat, cc) := by unfold sGs; rw [if_pos rfl]
  have hover : (Cond.arrayOver (.object r.1)).before args s = true := by
    rcases hc68 with rfl | rfl
    · cases hr; exact hK.2.1 _ wOverRule rfl
    · cases hr; exact hK.2.1 _ wOverScene rfl
  rw [List.map_cons, sEnc_I]
  refine W.anew hx hb hown (hK.word hw rfl rfl _) hover rfl (sCode_dec hcode) rfl (sNn hX hx0) (by rw [sIx hX]; omega) (Nat.le_trans hbd.1 hrc) (by rw [sIx hX]; exact Nat.le_trans hbd.2 hrs) fun cA kA comp f1 f2 f3 f4 => ?_
  rw [sIx hX]
  generalize hH1 : H.push ({ cls := cA, slots := Array.replicate x.toNat .null, vm := .none } : Cell) = H1
  have z1 : H1.size = H.size + 1 := by rw [← hH1, Array.size_push]
  have e1 : H1[H.size]? = some (arrV cA x.toNat (fun _ => .null)) := by rw [← hH1, Array.getElem?_push_size, ← arrV_new]
  have o1 : ∀ q : Nat, q < H.size → H1[q]? = H[q]? := fun q hq => by rw [← hH1, Array.getElem?_push, if_neg (Nat.ne_of_lt hq)]
  have hM : ∀ j, sClr M a a j = 0 := fun j => by unfold sClr; rw [if_pos rfl]
  have hKa : va_K D sCl [(cA, .object r.1)] s := ⟨hK.1.1, fun i q hq => by
    cases i with
    | zero =>
      cases hq
      exact ⟨fun n z => ⟨(fun q => by intro h; cases h), kA, f2, comp, f3⟩, kA, comp, f2, f3, f4, f1⟩
    | succ i => cases hq⟩
  have hR' : sHR D sa b (fun x => if x = a then H.size else ρ x) (sClr M a) (sGs G a (6, x.toNat, cc)) s H1 := by
    refine hR.make ha ha0 (by simp) (by simp) z1 o1 (fun a' j hne => by unfold sClr; rw [if_neg hne]) ⟨cA, r, hr, hKa, ?_, fun j => by rw [hM]; exact ⟨by omega, Or.inl rfl⟩⟩
    simp only [if_pos, hM]; exact e1
  have := k (Nat.le_trans hbd.1 hrc) (Nat.le_trans hbd.2 hrs) H1 locs _ ls hR' hL (hl.to hoL m1) hlen (fun v hv => m2 v (hoL v hv)) (sMem1 (sOK_B.mpr ⟨hc13, hx0, hGa⟩) (fun v hv => m2 v (hoS v (List.mem_cons_of_mem _ hv)))) m3
  rw [List.map_cons, sEnc_B sa _, sMap_to (sMemT hoS) m1] at this
  simp only [if_pos] at this
  exact this
theorem sim_checkcast {x : Nat} (C : sCx p R s m meth c D sa kk d) (hcode : sCode kk pc = some (.checkcast x, len)) (h : sStep kk call ret (sX p l e R s m args below meth c D sa b ρ0 G0 ex kk Qf) (.checkcast x) len pc L S M G n mm) : sX p l e R s m args below meth c D sa b ρ0 G0 ex kk Qf pc L S M G n mm := by
  obtain ⟨hx, hb, -, ⟨O, ho, hown⟩, hK, -⟩ := C
  obtain ⟨rfl, ⟨h14, rfl⟩, a, nn, S', rfl, k⟩ := h
  rw [h14] at ho
  cases ho
  intro hn hm H locs ρ ls hR hL hl hlen hoL hoS hE
  have ha := (sOK_A (by omega)).mp (hoS _ List.mem_cons_self)
  have hcell := hR.2.2.2.2.1 a
  rw [ha.2] at hcell
  obtain ⟨cA, q1, q2, q3⟩ := hcell
  have := k hn hm H locs ρ ls hR hL hl hlen hoL hoS hE
  rw [List.map_cons, sEnc_A sa ρ (by omega)] at this ⊢
  exact va_castA (D := D) (cl := sCl) (ws := [(ρ a, .inl (cA, nn.toNat, .inl (fun j => Int32.ofInt (M a j))))]) hx hb hown (hK.word wCastLink rfl rfl _) (fun i q hq => by
    cases i with
    | zero => cases hq; exact q2
    | succ i => cases hq) 0 rfl ((q1.2 0 _ rfl).2) (sCode_dec hcode) this
end Sim6
