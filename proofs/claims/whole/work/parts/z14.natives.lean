/-! Math, System.arraycopy, clone, Object's constructor. -/
section Sim7
variable {p : Program} {l : Launch} {e : Env} {R : Room} {s : State} {m : MethodId} {args : Array Value} {below : List Frame} {meth : Method} {c : Code} {D : va_G} {sa : Nat → Nat} {b : Nat} {ρ0 : Nat → Nat} {G0 : sG} {ex kk : Nat} {Qf : State → Prop}
variable {call : sCall} {ret : Option sV → sM → sG → Nat → Nat → Prop} {len pc : Nat} {L S : List sV} {M : sM} {G : sG} {n mm d : Nat}
variable {H : Heap} {locs : List Loc} {cells slots : Nat} {Q : State → Prop} {cc : ByteArray} {ls : Array Slot} {rest : List Value} {cl : List vw_C} {a : Nat}
/-- arraycopy of ints, the heap as it is then (after the kit's va_copyi) -/
theorem W_copyi (hexec : p.tables.exec = Jvm.exec) (hb : c.code = cc) (hml : c.maxLocals = ls.size) {own : String} {index : Nat} (hown : s.vm.findClass own = some m.cls) (hlink : (Cond.methodLink own index arraycopyName).before args s = true) (hnat : (Cond.native arraycopyName).before args s = true) (hstat : (Cond.static arraycopyName).before args s = true) (hini : (Cond.initialized "java/lang/System").before args s = true)
    {a0 : Nat} {c0 c1 : ClassId} {n0 n1 : Nat} {f g : Nat → Int32} (hK0 : va_K D cl [(c0, .int)] s) (hK1 : va_K D cl [(c1, .int)] s) (hc0 : H[a0]? = some (arrV c0 n0 (fun j => .int (f j)))) (hc1 : H[a]? = some (arrV c1 n1 (fun j => .int (g j))))
    {sp dp z : Int32} (h1 : ¬ sp < 0) (h2 : ¬ dp < 0) (h3 : ¬ z < 0) (h4 : sp.toNatClampNeg + z.toNatClampNeg ≤ n0) (h5 : dp.toNatClampNeg + z.toNatClampNeg ≤ n1)
    (hframes : 1 ≤ R.frames) (hlocals : (rest.map fun v => v.category).sum + (nativeFrameWords "java/lang/System" "arraycopy" 5 + 11) ≤ R.locals) (hdg : decode cc pc = .ok (.invokestatic index, 3))
    (kk : ∀ (H1 : Heap) (locs1 : List Loc), (∀ q ∈ locs1, q ∈ locs ∨ q.base = a) → H1[a]? = some (arrV c1 n1 (fun j => .int (va_cpy f g sp.toNatClampNeg dp.toNatClampNeg z.toNatClampNeg j))) → H1.size = H.size → (∀ q, q ≠ a → H1[q]? = H[q]?) → W p l e R s m args below meth c H1 locs1 cells slots Q (F0 m (pc + 3) ls rest)) : W p l e R s m args below meth c H locs cells slots Q (F0 m pc ls (.int z :: .int dp :: .ref a :: .int sp :: .ref a0 :: rest)) := by
  have nn : ∀ z : Int32, ¬ z < 0 → z.toInt = (z.toNatClampNeg : Int) := by
    intro z hz
    have hz0 : (0 : Int) ≤ z.toInt := by
      have := Int32.not_lt.mp hz
      simpa using Int32.le_iff_toInt_le.mp this
    show z.toInt = ((z.toInt.toNat : Nat) : Int)
    omega
  intro T hT X
  obtain ⟨-, k0, hk0, cm0, hkk0⟩ := (hK0.2 0 _ rfl).1 n0 (fun j => .int (f j))
  obtain ⟨-, k1, hk1, cm1, hkk1⟩ := (hK1.2 0 _ rfl).1 n1 (fun j => .int (g j))
  obtain ⟨vm', X', step⟩ := X.arraycopy hexec hown hlink hnat hstat hini (src := a0) (dst := a) (cs := arrV c0 n0 (fun j => .int (f j))) (cd := arrV c1 n1 (fun j => .int (g j))) (srcPos := sp) (destPos := dp) (n := z) (by rw [hT]; exact hc0) (by rw [hT]; exact hc1)
    (fun _ h => by cases h) (fun _ h => by cases h) (fun h => by cases h) (fun h => by cases h) hk0 hk1 hkk0 hkk1 (by simp [refKind]) h1 h2 h3
    (by rw [nn sp h1, nn z h3]; show ¬ _ > ((arrV c0 n0 (fun j => .int (f j))).slots.size : Int); rw [arrV_size]; omega)
    (by rw [nn dp h2, nn z h3]; show ¬ _ > ((arrV c1 n1 (fun j => .int (g j))).slots.size : Int); rw [arrV_size]; omega)
    (fun vm₁ _ i hi => by
      have e : (arrV c0 n0 (fun j => .int (f j))).slots.getD (sp.toNatClampNeg + i) .null = .int (f (sp.toNatClampNeg + i)) := by
        rw [Array.getD_eq_getD_getElem?, arrV_read _ _ (by omega)]
        rfl
      refine ⟨?_, ?_⟩
      · rw [e]; rfl
      · rw [e]; exact trivial)
    (g := F0 m pc ls (.int z :: .int dp :: .ref a :: .int sp :: .ref a0 :: rest)) rfl (by rw [hml]) (rest := rest) rfl (by rw [hb]; exact hdg) hframes (by show 2 * 0 + _ + _ ≤ _; omega)
  have e1 : copied (arrV c0 n0 (fun j => .int (f j))) (arrV c1 n1 (fun j => .int (g j))) sp dp z = arrV c1 n1 (fun j => .int (va_cpy f g sp.toNatClampNeg dp.toNatClampNeg z.toNatClampNeg j)) := va_copied (fun z => .int z) c0 c1 f g h4
  rw [e1] at X' step
  have hl : a < H.size := (Array.getElem?_eq_some_iff.mp hc1).1
  have hheap : ((T.setVm vm').setCell a (arrV c1 n1 (fun j => .int (va_cpy f g sp.toNatClampNeg dp.toNatClampNeg z.toNatClampNeg j)))).heap = H.setIfInBounds a (arrV c1 n1 (fun j => .int (va_cpy f g sp.toNatClampNeg dp.toNatClampNeg z.toNatClampNeg j))) := by rw [← hT]; rfl
  obtain ⟨t, a1, b1⟩ := kk (H.setIfInBounds a (arrV c1 n1 (fun j => .int (va_cpy f g sp.toNatClampNeg dp.toNatClampNeg z.toNatClampNeg j)))) _ (fun q hq => by
      rcases List.mem_append.mp hq with h | h
      · exact Or.inl h
      · obtain ⟨z, -, hz⟩ := List.mem_map.mp h
        rw [← hz]
        exact Or.inr rfl) (by simp [Array.getElem?_setIfInBounds, hl]) (by simp) (fun q hq => by simp [Array.getElem?_setIfInBounds, Ne.symm hq]) _ hheap X'
  exact ⟨t, step t a1, b1⟩
/-- clone of an int array (after the kit's va_clone) -/
theorem W_clone (hexec : p.tables.exec = Jvm.exec) (hb : c.code = cc) (hml : c.maxLocals = ls.size) {own : String} {index : Nat} (hown : s.vm.findClass own = some m.cls)
    (hlink : (Cond.methodLink own index ⟨"[I", "clone", "()Ljava/lang/Object;"⟩).before args s = true) (hsame : (Cond.sameMethod "[I" "java/lang/Object" "clone" "()Ljava/lang/Object;").before args s = true)
    (hnat : (Cond.native ⟨"java/lang/Object", "clone", "()Ljava/lang/Object;"⟩).before args s = true) (hinst : (Cond.instanceMethod ⟨"java/lang/Object", "clone", "()Ljava/lang/Object;"⟩).before args s = true)
    (hsel : (Cond.selects "[I" ⟨"[I", "clone", "()Ljava/lang/Object;"⟩ ⟨"java/lang/Object", "clone", "()Ljava/lang/Object;"⟩).before args s = true) (hcl : va_Nw (.castable "[I" "java/lang/Cloneable") s)
    {cA : ClassId} {N : Nat} {f : Nat → Int32} (hK : va_K D cl [(cA, .int)] s) (hcell : H[a]? = some (arrV cA N (fun j => .int (f j))))
    (hframes : 1 ≤ R.frames) (hlocals : (rest.map fun v => v.category).sum + 14 ≤ R.locals) (hcells : cells + 1 ≤ R.cells) (hslots : slots + N ≤ R.slots) (hdg : decode cc pc = .ok (.invokevirtual index, 3))
    (kk : ∀ H1 : Heap, H1[H.size]? = some (arrV cA N (fun j => .int (f j))) → H1.size = H.size + 1 → (∀ q, q < H.size → H1[q]? = H[q]?) →
      W p l e R s m args below meth c H1 locs (cells + 1) (slots + N) Q (F0 m (pc + 3) ls (.ref H.size :: rest))) : W p l e R s m args below meth c H locs cells slots Q (F0 m pc ls (.ref a :: rest)) := by
  have hsz : (arrV cA N (fun j => Value.int (f j))).slots.size = N := arrV_size _ _ _
  have hnm : s.vm.findClass "[I" = some cA := (hK.2 0 _ rfl).2
  obtain ⟨c0, t0', f1, f2, f3⟩ := Cond.castable_spec (va_Nw.use (A := args) rfl hcl)
  cases hnm.symm.trans f1
  intro T hT X
  have hcellT : T.heap[a]? = some (arrV cA N (fun j => .int (f j))) := by rw [hT]; exact hcell
  obtain ⟨-, kA, hkA, comp, hkind⟩ := State.isArrayOf_alike X.warmed.alike ((hK.2 0 _ rfl).1 0 (fun _ => .null))
  obtain ⟨-, kS, hkS, compS, hkindS⟩ := (hK.2 0 _ rfl).1 0 (fun _ => .null)
  obtain ⟨vm', X', st⟩ := X.cloneArray hexec hown hlink hsame hnat hinst hsel (a := a) (cell := arrV cA N (fun j => .int (f j))) hcellT (fun k h => by cases h) (fun h => by cases h) hnm f2 f3
    (fun i v hv => by
      have hk' : T.vm.classes[cA]? = some kA := hkA
      have hfit : fits .int v = true := by
        by_cases hi : i < N
        · rw [arrV_read _ _ hi] at hv; cases hv; rfl
        · have := (Array.getElem?_eq_some_iff.mp hv).1
          rw [hsz] at this
          omega
      show T.fitsSlot cA .none i v = true
      simpa [State.fitsSlot, State.slotType?, hk', hkind] using hfit)
    (g := F0 m pc ls (.ref a :: rest)) rfl (by rw [hml]) rfl (by rw [hb]; exact hdg) hframes (by show 2 * 0 + _ + 14 ≤ _; omega) hcells (by rw [hsz]; exact hslots) (hloader := Vm.clonesLoader_of_array hkS hkindS)
  rw [hsz] at X'
  generalize hH1 : H.push (arrV cA N (fun j => .int (f j))) = H1
  obtain ⟨t, b1, b2⟩ := kk H1 (by rw [← hH1, Array.getElem?_push_size]) (by rw [← hH1, Array.size_push]) (fun q hq => by rw [← hH1, Array.getElem?_push, if_neg (Nat.ne_of_lt hq)])
    ((T.setVm vm').pushCell (arrV cA N (fun j => .int (f j)))) (by rw [← hH1, ← hT]; rfl) X'
  refine ⟨t, st t ?_, b2⟩
  rw [hT]
  exact b1
end Sim7
section Sim8
variable {p : Program} {l : Launch} {e : Env} {R : Room} {s : State} {m : MethodId} {args : Array Value} {below : List Frame} {meth : Method} {c : Code} {D : va_G} {sa : Nat → Nat} {b : Nat} {ρ0 : Nat → Nat} {G0 : sG} {ex kk : Nat} {Qf : State → Prop}
variable {call : sCall} {ret : Option sV → sM → sG → Nat → Nat → Prop} {len pc : Nat} {L S : List sV} {M : sM} {G : sG} {n mm d : Nat}
theorem sim_math {x k : Nat} {u v : Int} {rest : List sV} (C : sCx p R s m meth c D sa kk d) (hcode : sCode kk pc = some (.invokestatic x, 3)) (hk : sMR (sKo kk).1 x = some k) (hr : sCats rest ≤ 8)
    (h : (k = 1001 ∧ sX p l e R s m args below meth c D sa b ρ0 G0 ex kk Qf (pc + 3) L (vI (if u < v then v else u) :: rest) M G n mm) ∨ (k = 1002 ∧ sX p l e R s m args below meth c D sa b ρ0 G0 ex kk Qf (pc + 3) L (vI (if v < u then v else u) :: rest) M G n mm)) : sX p l e R s m args below meth c D sa b ρ0 G0 ex kk Qf pc L (vI v :: vI u :: rest) M G n mm := by
  obtain ⟨hx, hb, hml, ⟨O, ho, hown⟩, hK, hfr, hlo, -⟩ := C
  obtain ⟨O', y, ho', hy, -, hl'⟩ := tabM hk
  cases ho.symm.trans ho'
  intro hn hm H locs ρ ls hR hL hl hlen hoL hoS hE
  have hV : sI v := hoS _ List.mem_cons_self
  have hU : sI u := hoS _ (List.mem_cons_of_mem _ List.mem_cons_self)
  have hlk : k = 1001 ∨ k = 1002 → Cond.methodLink O x y ∈ lw_tbl := fun hk => by
    rcases hl' with ⟨h1, -⟩ | h1
    · omega
    · exact h1
  have hcat : ((rest.map (sEnc sa ρ)).map fun v => v.category).sum + 13 ≤ R.locals := by rw [sCats_eq]; omega
  have hml2 : c.maxLocals = ls.size := by rw [hml, hl.1, hlen.1]
  rcases h with ⟨rfl, k⟩ | ⟨rfl, k⟩
  · cases hy
    have := k hn hm H locs ρ ls hR hL hl hlen hoL (sMem1 (show sI (if u < v then v else u) by split <;> assumption) (sMemT (sMemT hoS))) hE
    have e1 : sEnc sa ρ (vI (if u < v then v else u)) = .int (if Int32.ofInt u < Int32.ofInt v then Int32.ofInt v else Int32.ofInt u) := by
      rw [sEnc_I]
      by_cases hc : u < v
      · rw [if_pos hc, if_pos ((sI_lt hU hV).mpr hc)]
      · rw [if_neg hc, if_neg (fun z => hc ((sI_lt hU hV).mp z))]
    rw [List.map_cons, e1] at this
    exact va_mmax hx hb hml2 hown (hK.word (hlk (Or.inl rfl)) rfl rfl _) (hK.word wMmaxStat rfl rfl _) (hK.word wMathIni rfl rfl _) (hK.word wMmaxCode rfl rfl _) (by omega) hcat hn hm (sCode_dec hcode) this
  · cases hy
    have := k hn hm H locs ρ ls hR hL hl hlen hoL (sMem1 (show sI (if v < u then v else u) by split <;> assumption) (sMemT (sMemT hoS))) hE
    have e1 : sEnc sa ρ (vI (if v < u then v else u)) = .int (if Int32.ofInt v < Int32.ofInt u then Int32.ofInt v else Int32.ofInt u) := by
      rw [sEnc_I]
      by_cases hc : v < u
      · rw [if_pos hc, if_pos ((sI_lt hV hU).mpr hc)]
      · rw [if_neg hc, if_neg (fun z => hc ((sI_lt hV hU).mp z))]
    rw [List.map_cons, e1] at this
    exact va_mmin hx hb hml2 hown (hK.word (hlk (Or.inr rfl)) rfl rfl _) (hK.word wMminStat rfl rfl _) (hK.word wMathIni rfl rfl _) (hK.word wMminCode rfl rfl _) (by omega) hcat hn hm (sCode_dec hcode) this
theorem sim_copy {x : Nat} {z dp n1 sp n0 : Int} {a1 a0 : Nat} {rest : List sV} (C : sCx p R s m meth c D sa kk d) (hcode : sCode kk pc = some (.invokestatic x, 3)) (hk : sMR (sKo kk).1 x = some 1003) (hr : sCats rest ≤ 8) (h0 : 0 ≤ z) (h1 : 0 ≤ dp) (h2 : 0 ≤ sp) (h3 : dp + z ≤ n1) (h4 : sp + z ≤ n0)
    (k : sX p l e R s m args below meth c D sa b ρ0 G0 ex kk Qf (pc + 3) L rest (sCpy M a0 sp.toNat a1 dp.toNat z.toNat) G n mm) : sX p l e R s m args below meth c D sa b ρ0 G0 ex kk Qf pc L (vI z :: vI dp :: vA 0 a1 n1 :: vI sp :: vA 0 a0 n0 :: rest) M G n mm := by
  obtain ⟨hx, hb, hml, ⟨O, ho, hown⟩, hK, hfr, hlo, -⟩ := C
  obtain ⟨O', y, ho', hy, -, hl'⟩ := tabM hk
  cases ho.symm.trans ho'
  cases hy
  have hlk : Cond.methodLink O x arraycopyName ∈ lw_tbl := by
    rcases hl' with ⟨h1, -⟩ | h1
    · omega
    · exact h1
  intro hn hm H locs ρ ls hR hL hl hlen hoL hoS hE
  have hZ : sI z := hoS (vI z) (by simp)
  have hDp : sI dp := hoS (vI dp) (by simp)
  have hSp : sI sp := hoS (vI sp) (by simp)
  have hA1 := (sOK_A (by omega)).mp (hoS (vA 0 a1 n1) (by simp))
  have hA0 := (sOK_A (by omega)).mp (hoS (vA 0 a0 n0) (by simp))
  have hG1 : G a1 = (2, n1.toNat, 0) := hA1.2
  have hG0 : G a0 = (2, n0.toNat, 0) := hA0.2
  have c1 := hR.2.2.2.2.1 a1
  have c0 := hR.2.2.2.2.1 a0
  rw [hG1] at c1
  rw [hG0] at c0
  obtain ⟨cA1, q1, q2, q3⟩ := c1
  obtain ⟨cA0, p1, p2, p3⟩ := c0
  have hane := sG_ne hG1 (by simp)
  have h7 : (G a1).1 ≠ 7 := by rw [hG1]; simp
  have hcat : ((rest.map (sEnc sa ρ)).map fun v => v.category).sum + (nativeFrameWords "java/lang/System" "arraycopy" 5 + 11) ≤ R.locals := by
    rw [sCats_eq]
    have : nativeFrameWords "java/lang/System" "arraycopy" 5 ≤ 40 := by decide +kernel
    omega
  simp only [List.map_cons]
  rw [sEnc_A sa ρ (by omega), sEnc_A sa ρ (by omega)]
  refine W_copyi hx hb (by rw [hml, hl.1, hlen.1]) hown (hK.word hlk rfl rfl _) (hK.word wSysNat rfl rfl _) (hK.word wSysStat rfl rfl _) (hK.word wSysIni rfl rfl _) p1 q1 p2 q2 (sNn hSp h2) (sNn hDp h1) (sNn hZ h0) (by rw [sIx hSp, sIx hZ]; omega) (by rw [sIx hDp, sIx hZ]; omega) (by omega) hcat (sCode_dec hcode) (fun H1 locs1 g0 g1 g2 g3 => ?_)
  refine k hn hm H1 _ ρ ls (hR.write hane h7 g2 g3 (fun a' j hne => by unfold sCpy; rw [if_neg (fun q => hne q.1)]) ?_) (fun q hq => ?_) hl hlen hoL (fun v hv => hoS v (by simp [hv])) hE
  · rw [hG1]
    refine ⟨cA1, q1, ?_, fun j => ?_⟩
    · rw [g1]
      congr 2
      funext j
      unfold va_cpy sCpy
      rw [sIx hSp, sIx hDp, sIx hZ]
      by_cases hj : dp.toNat ≤ j ∧ j < dp.toNat + z.toNat
      · rw [if_pos hj, if_pos (c := a1 = a1 ∧ dp.toNat ≤ j ∧ j < dp.toNat + z.toNat) ⟨rfl, hj⟩]
      · rw [if_neg hj, if_neg (c := a1 = a1 ∧ dp.toNat ≤ j ∧ j < dp.toNat + z.toNat) (fun q => hj q.2)]
    · unfold sCpy
      split
      · exact p3 _
      · exact q3 j
  · rcases g0 q hq with hq | hq
    · exact hL q hq
    · rw [hq]; exact (hR.2.2.1 a1 hane).2.1 h7
theorem sim_clone {x a bb : Nat} {nn : Int} {rest : List sV} (C : sCx p R s m meth c D sa kk d) (hcode : sCode kk pc = some (.invokevirtual x, 3)) (hk : sMR (sKo kk).1 x = some 1006) (hr : sCats rest ≤ 8) (hb0 : 0 < bb) (hG : G bb = (0, 0, 0)) (hbd : n + 1 ≤ (sKo kk).2.2.2.1 ∧ mm + nn.toNat ≤ (sKo kk).2.2.2.2)
    (k : sX p l e R s m args below meth c D sa b ρ0 G0 ex kk Qf (pc + 3) L (vA 0 bb nn :: rest) (sDup M a bb) (sGs G bb (2, nn.toNat, 0)) (n + 1) (mm + nn.toNat)) : sX p l e R s m args below meth c D sa b ρ0 G0 ex kk Qf pc L (vA 0 a nn :: rest) M G n mm := by
  obtain ⟨hx, hb, hml, ⟨O, ho, hown⟩, hK, hfr, hlo, -, hrc, hrs⟩ := C
  obtain ⟨O', y, ho', hy, -, hl'⟩ := tabM hk
  cases ho.symm.trans ho'
  cases hy
  have hlk : Cond.methodLink O x ⟨"[I", "clone", "()Ljava/lang/Object;"⟩ ∈ lw_tbl := by
    rcases hl' with ⟨h1, -⟩ | h1
    · omega
    · exact h1
  intro hn hm H locs ρ ls hR hL hl hlen hoL hoS hE
  have hA := (sOK_A (by omega)).mp (hoS (vA 0 a nn) (by simp))
  have hG1 : G a = (2, nn.toNat, 0) := hA.2
  have c1 := hR.2.2.2.2.1 a
  rw [hG1] at c1
  obtain ⟨cA1, q1, q2, q3⟩ := c1
  have hcat : ((rest.map (sEnc sa ρ)).map fun v => v.category).sum + 14 ≤ R.locals := by rw [sCats_eq]; omega
  obtain ⟨m1, m2, m3⟩ := sMade (H := H) (q := (2, nn.toNat, 0)) hG (by simp) hE
  have hGa : sGs G bb (2, nn.toNat, 0) bb = (2, nn.toNat, 0) := by unfold sGs; rw [if_pos rfl]
  have hane : a ≠ bb := fun z => by rw [z, hG] at hG1; cases hG1
  rw [List.map_cons, sEnc_A sa ρ (by omega)]
  refine W_clone hx hb (by rw [hml, hl.1, hlen.1]) hown (hK.word hlk rfl rfl _) (hK.word wCloSame rfl rfl _) (hK.word wCloNat rfl rfl _) (hK.word wCloInst rfl rfl _) (hK.word wCloSel rfl rfl _) (hK.2.1 _ wCloCast rfl) q1 q2 (by omega) hcat (Nat.le_trans hbd.1 hrc) (Nat.le_trans hbd.2 hrs) (sCode_dec hcode) (fun H1 g1 g2 g3 => ?_)
  have hR' : sHR D sa b (fun x => if x = bb then H.size else ρ x) (sDup M a bb) (sGs G bb (2, nn.toNat, 0)) s H1 := by
    have hM : ∀ j, sDup M a bb bb j = M a j := fun j => by unfold sDup; rw [if_pos rfl]
    refine hR.make hG hb0 (by simp) (by simp) g2 g3 (fun a' j hne => by unfold sDup; rw [if_neg hne]) ⟨cA1, q1, ?_, fun j => by rw [hM]; exact q3 j⟩
    simp only [if_pos, hM]; exact g1
  have := k (Nat.le_trans hbd.1 hrc) (Nat.le_trans hbd.2 hrs) H1 locs _ ls hR' hL (hl.to hoL m1) hlen (fun v hv => m2 v (hoL v hv)) (sMem1 ((sOK_A (by omega)).mpr ⟨hA.1, hGa⟩) (fun v hv => m2 v (hoS v (List.mem_cons_of_mem _ hv)))) m3
  rw [List.map_cons, sEnc_A sa _ (by omega), sMap_to (sMemT hoS) m1] at this
  simp only [if_pos] at this
  exact this
theorem sim_objInit {x cc a : Nat} {y : Int} {rest : List sV} (C : sCx p R s m meth c D sa kk d) (hcode : sCode kk pc = some (.invokespecial x, 3)) (hk : sMR (sKo kk).1 x = some 1000) (hr : sCats rest ≤ 8)
    (k : sX p l e R s m args below meth c D sa b ρ0 G0 ex kk Qf (pc + 3) L rest M G n mm) : sX p l e R s m args below meth c D sa b ρ0 G0 ex kk Qf pc L (vT cc a y :: rest) M G n mm := by
  obtain ⟨hx, hb, hml, ⟨O, ho, hown⟩, hK, hfr, hlo, -⟩ := C
  obtain ⟨O', z, ho', hy, -, hl'⟩ := tabM hk
  cases ho.symm.trans ho'
  cases hy
  have hlk : Cond.methodLink O x Lib.objectInit ∈ lw_tbl := by
    rcases hl' with ⟨h1, -⟩ | h1
    · omega
    · exact h1
  intro hn hm H locs ρ ls hR hL hl hlen hoL hoS hE
  rw [List.map_cons, sEnc_T]
  exact W.objInit hx hb hown (hK.word hlk rfl rfl _) (hK.word wObjInst rfl rfl _) (hK.word wObjCode rfl rfl _) rfl (by show ls.size = c.maxLocals; rw [hml, hl.1, hlen.1]) rfl (sCode_dec hcode) (by omega) (by show 2 * 0 + _ + 12 ≤ _; rw [sCats_eq]; omega) (k hn hm H locs ρ ls hR hL hl hlen hoL (sMemT hoS) hE)
end Sim8
