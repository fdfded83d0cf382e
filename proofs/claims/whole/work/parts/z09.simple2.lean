section Sim2
variable {p : Program} {l : Launch} {e : Env} {R : Room} {s : State} {m : MethodId} {args : Array Value} {below : List Frame} {meth : Method} {c : Code} {D : va_G} {sa : Nat → Nat} {b : Nat} {ρ0 : Nat → Nat} {G0 : sG} {ex kk : Nat} {Qf : State → Prop}
variable {call : sCall} {ret : Option sV → sM → sG → Nat → Nat → Prop} {len pc : Nat} {L S : List sV} {M : sM} {G : sG} {n mm d : Nat}
theorem sMemG {P : sV → Prop} {L : List sV} (hL : ∀ x ∈ L, P x) {i : Nat} {v : sV} (h : L[i]? = some v) : P v := hL v (List.mem_of_getElem? h)
theorem sI_to (x : Int32) : sI x.toInt := ⟨x.le_toInt, by have := x.toInt_lt; omega⟩
theorem sJ_to (x : Int64) : sJ x.toInt := ⟨x.le_toInt, by have := x.toInt_lt; omega⟩
theorem oJ_enc (f : Int64 → Int64 → Int64) (x y : Int) : Int64.ofInt (oJ f x y) = f (Int64.ofInt x) (Int64.ofInt y) := by unfold oJ; exact Int64.ofInt_toInt _

theorem sim_iload {x : Nat} (C : sCx p R s m meth c D sa kk d) (hcode : sCode kk pc = some (.iload x, len)) (h : sStep kk call ret (sX p l e R s m args below meth c D sa b ρ0 G0 ex kk Qf) (.iload x) len pc L S M G n mm) : sX p l e R s m args below meth c D sa b ρ0 G0 ex kk Qf pc L S M G n mm := by
  obtain ⟨hx, hb, -⟩ := C
  obtain ⟨rfl, v, h1, k⟩ := h
  intro hn hm H locs ρ ls hR hL hl hlen hoL hoS hE
  exact lv_iload hx hb (sCode_dec hcode) (hl.2.2 _ _ h1 (Nat.ne_of_beq_eq_false rfl)) (k hn hm H locs ρ ls hR hL hl hlen hoL (sMem1 (sMemG hoL h1) hoS) hE)

theorem sim_lload {x : Nat} (C : sCx p R s m meth c D sa kk d) (hcode : sCode kk pc = some (.lload x, len)) (h : sStep kk call ret (sX p l e R s m args below meth c D sa b ρ0 G0 ex kk Qf) (.lload x) len pc L S M G n mm) : sX p l e R s m args below meth c D sa b ρ0 G0 ex kk Qf pc L S M G n mm := by
  obtain ⟨hx, hb, -⟩ := C
  obtain ⟨rfl, v, h1, k⟩ := h
  intro hn hm H locs ρ ls hR hL hl hlen hoL hoS hE
  exact lv_lload hx hb (sCode_dec hcode) (hl.2.2 _ _ h1 (Nat.ne_of_beq_eq_false rfl)) (k hn hm H locs ρ ls hR hL hl hlen hoL (sMem1 (sMemG hoL h1) hoS) hE)

theorem sim_iload_n {x : Fin 4} (C : sCx p R s m meth c D sa kk d) (hcode : sCode kk pc = some (.iload_n x, len)) (h : sStep kk call ret (sX p l e R s m args below meth c D sa b ρ0 G0 ex kk Qf) (.iload_n x) len pc L S M G n mm) : sX p l e R s m args below meth c D sa b ρ0 G0 ex kk Qf pc L S M G n mm := by
  obtain ⟨hx, hb, -⟩ := C
  obtain ⟨rfl, v, h1, k⟩ := h
  intro hn hm H locs ρ ls hR hL hl hlen hoL hoS hE
  exact lv_iload_n hx hb (sCode_dec hcode) rfl (hl.2.2 _ _ h1 (Nat.ne_of_beq_eq_false rfl)) (k hn hm H locs ρ ls hR hL hl hlen hoL (sMem1 (sMemG hoL h1) hoS) hE)

theorem sim_lload_n {x : Fin 4} (C : sCx p R s m meth c D sa kk d) (hcode : sCode kk pc = some (.lload_n x, len)) (h : sStep kk call ret (sX p l e R s m args below meth c D sa b ρ0 G0 ex kk Qf) (.lload_n x) len pc L S M G n mm) : sX p l e R s m args below meth c D sa b ρ0 G0 ex kk Qf pc L S M G n mm := by
  obtain ⟨hx, hb, -⟩ := C
  obtain ⟨rfl, v, h1, k⟩ := h
  intro hn hm H locs ρ ls hR hL hl hlen hoL hoS hE
  exact lv_lload_n hx hb (sCode_dec hcode) rfl (hl.2.2 _ _ h1 (Nat.ne_of_beq_eq_false rfl)) (k hn hm H locs ρ ls hR hL hl hlen hoL (sMem1 (sMemG hoL h1) hoS) hE)

theorem sEnc_ref (sa ρ : Nat → Nat) {v : sV} (h : 3 ≤ v.1) : sEnc sa ρ v = .null ∨ ∃ q, sEnc sa ρ v = .ref q := by
  unfold sEnc
  rw [if_neg (by omega), if_neg (by omega)]
  split
  · exact Or.inr ⟨_, rfl⟩
  · split
    · exact Or.inl rfl
    · exact Or.inr ⟨_, rfl⟩

theorem sim_aload {x : Nat} (C : sCx p R s m meth c D sa kk d) (hcode : sCode kk pc = some (.aload x, len)) (h : sStep kk call ret (sX p l e R s m args below meth c D sa b ρ0 G0 ex kk Qf) (.aload x) len pc L S M G n mm) : sX p l e R s m args below meth c D sa b ρ0 G0 ex kk Qf pc L S M G n mm := by
  obtain ⟨hx, hb, -⟩ := C
  obtain ⟨rfl, v, h1, h2, k⟩ := h
  intro hn hm H locs ρ ls hR hL hl hlen hoL hoS hE
  have hls := hl.2.2 _ _ h1 (by omega)
  have kk1 := k hn hm H locs ρ ls hR hL hl hlen hoL (sMem1 (sMemG hoL h1) hoS) hE
  rw [List.map_cons] at kk1
  rcases sEnc_ref sa ρ h2 with z | ⟨q, z⟩
  · rw [z] at hls kk1; exact lv_aloadN hx hb (sCode_dec hcode) hls kk1
  · rw [z] at hls kk1; exact lv_aload hx hb (sCode_dec hcode) hls kk1

theorem sim_aload_n {x : Fin 4} (C : sCx p R s m meth c D sa kk d) (hcode : sCode kk pc = some (.aload_n x, len)) (h : sStep kk call ret (sX p l e R s m args below meth c D sa b ρ0 G0 ex kk Qf) (.aload_n x) len pc L S M G n mm) : sX p l e R s m args below meth c D sa b ρ0 G0 ex kk Qf pc L S M G n mm := by
  obtain ⟨hx, hb, -⟩ := C
  obtain ⟨rfl, v, h1, h2, k⟩ := h
  intro hn hm H locs ρ ls hR hL hl hlen hoL hoS hE
  have hls := hl.2.2 _ _ h1 (by omega)
  have kk1 := k hn hm H locs ρ ls hR hL hl hlen hoL (sMem1 (sMemG hoL h1) hoS) hE
  rw [List.map_cons] at kk1
  rcases sEnc_ref sa ρ h2 with z | ⟨q, z⟩
  · rw [z] at hls kk1; exact lv_aload_nN hx hb (sCode_dec hcode) rfl hls kk1
  · rw [z] at hls kk1; exact lv_aload_n hx hb (sCode_dec hcode) rfl hls kk1

theorem sim_istore {x : Nat} (C : sCx p R s m meth c D sa kk d) (hcode : sCode kk pc = some (.istore x, len)) (h : sStep kk call ret (sX p l e R s m args below meth c D sa b ρ0 G0 ex kk Qf) (.istore x) len pc L S M G n mm) : sX p l e R s m args below meth c D sa b ρ0 G0 ex kk Qf pc L S M G n mm := by
  obtain ⟨hx, hb, -⟩ := C
  obtain ⟨rfl, v, S', rfl, h1, h2, k⟩ := h
  intro hn hm H locs ρ ls hR hL hl hlen hoL hoS hE
  refine lv_istore hx hb (sCode_dec hcode) hl.has h1 rfl (fun ls' hl' => ?_)
  exact k hn hm H locs ρ ls' hR hL (sLoc.put1 h2 hl') (hlen.set _ (Or.inl (by simp only [vI]; omega))) (sMemS (hoS _ List.mem_cons_self) hoL) (sMemT hoS) hE

theorem sim_lstore {x : Nat} (C : sCx p R s m meth c D sa kk d) (hcode : sCode kk pc = some (.lstore x, len)) (h : sStep kk call ret (sX p l e R s m args below meth c D sa b ρ0 G0 ex kk Qf) (.lstore x) len pc L S M G n mm) : sX p l e R s m args below meth c D sa b ρ0 G0 ex kk Qf pc L S M G n mm := by
  obtain ⟨hx, hb, -⟩ := C
  obtain ⟨rfl, v, S', rfl, h1, h2, k⟩ := h
  intro hn hm H locs ρ ls hR hL hl hlen hoL hoS hE
  refine lv_lstore hx hb (sCode_dec hcode) hl.has h1 rfl (fun ls' hl' => ?_)
  exact k hn hm H locs ρ ls' hR hL (sLoc.put2 h2 hl') ((hlen.set _ (Or.inl (by simp only [vL]; omega))).set _ (Or.inl (by simp only [vN]; omega))) (sMemS sOK_N (sMemS (hoS _ List.mem_cons_self) hoL)) (sMemT hoS) hE

theorem sim_istore_n {x : Fin 4} (C : sCx p R s m meth c D sa kk d) (hcode : sCode kk pc = some (.istore_n x, len)) (h : sStep kk call ret (sX p l e R s m args below meth c D sa b ρ0 G0 ex kk Qf) (.istore_n x) len pc L S M G n mm) : sX p l e R s m args below meth c D sa b ρ0 G0 ex kk Qf pc L S M G n mm := by
  obtain ⟨hx, hb, -⟩ := C
  obtain ⟨rfl, v, S', rfl, h1, h2, k⟩ := h
  intro hn hm H locs ρ ls hR hL hl hlen hoL hoS hE
  refine lv_istore_n hx hb (sCode_dec hcode) rfl hl.has h1 rfl (fun ls' hl' => ?_)
  exact k hn hm H locs ρ ls' hR hL (sLoc.put1 h2 hl') (hlen.set _ (Or.inl (by simp only [vI]; omega))) (sMemS (hoS _ List.mem_cons_self) hoL) (sMemT hoS) hE

theorem sim_lstore_n {x : Fin 4} (C : sCx p R s m meth c D sa kk d) (hcode : sCode kk pc = some (.lstore_n x, len)) (h : sStep kk call ret (sX p l e R s m args below meth c D sa b ρ0 G0 ex kk Qf) (.lstore_n x) len pc L S M G n mm) : sX p l e R s m args below meth c D sa b ρ0 G0 ex kk Qf pc L S M G n mm := by
  obtain ⟨hx, hb, -⟩ := C
  obtain ⟨rfl, v, S', rfl, h1, h2, k⟩ := h
  intro hn hm H locs ρ ls hR hL hl hlen hoL hoS hE
  refine lv_lstore_n hx hb (sCode_dec hcode) rfl hl.has h1 rfl (fun ls' hl' => ?_)
  exact k hn hm H locs ρ ls' hR hL (sLoc.put2 h2 hl') ((hlen.set _ (Or.inl (by simp only [vL]; omega))).set _ (Or.inl (by simp only [vN]; omega))) (sMemS sOK_N (sMemS (hoS _ List.mem_cons_self) hoL)) (sMemT hoS) hE

theorem sim_astore {x : Nat} (C : sCx p R s m meth c D sa kk d) (hcode : sCode kk pc = some (.astore x, len)) (h : sStep kk call ret (sX p l e R s m args below meth c D sa b ρ0 G0 ex kk Qf) (.astore x) len pc L S M G n mm) : sX p l e R s m args below meth c D sa b ρ0 G0 ex kk Qf pc L S M G n mm := by
  obtain ⟨hx, hb, -⟩ := C
  obtain ⟨rfl, v, S', rfl, h0, h1, h2, k⟩ := h
  intro hn hm H locs ρ ls hR hL hl hlen hoL hoS hE
  rw [List.map_cons]
  have key : ∀ ls' : Array Slot, lv_has ls' L.length ((_, sEnc sa ρ v) :: (sLl sa ρ L).filter _) → W p l e R s m args below meth c H locs n mm Qf (F0 m (pc + 2) ls' (S'.map (sEnc sa ρ))) := fun ls' hl' => k hn hm H locs ρ ls' hR hL (sLoc.put1 h2 hl') (hlen.set _ h0.2) (sMemS (hoS _ List.mem_cons_self) hoL) (sMemT hoS) hE
  rcases sEnc_ref sa ρ h0.1 with z | ⟨q, z⟩
  · rw [z] at key ⊢; exact lv_astoreN hx hb (sCode_dec hcode) hl.has h1 rfl key
  · rw [z] at key ⊢; exact lv_astore hx hb (sCode_dec hcode) hl.has h1 rfl key

theorem sim_astore_n {x : Fin 4} (C : sCx p R s m meth c D sa kk d) (hcode : sCode kk pc = some (.astore_n x, len)) (h : sStep kk call ret (sX p l e R s m args below meth c D sa b ρ0 G0 ex kk Qf) (.astore_n x) len pc L S M G n mm) : sX p l e R s m args below meth c D sa b ρ0 G0 ex kk Qf pc L S M G n mm := by
  obtain ⟨hx, hb, -⟩ := C
  obtain ⟨rfl, v, S', rfl, h0, h1, h2, k⟩ := h
  intro hn hm H locs ρ ls hR hL hl hlen hoL hoS hE
  rw [List.map_cons]
  have key : ∀ ls' : Array Slot, lv_has ls' L.length ((_, sEnc sa ρ v) :: (sLl sa ρ L).filter _) → W p l e R s m args below meth c H locs n mm Qf (F0 m (pc + 1) ls' (S'.map (sEnc sa ρ))) := fun ls' hl' => k hn hm H locs ρ ls' hR hL (sLoc.put1 h2 hl') (hlen.set _ h0.2) (sMemS (hoS _ List.mem_cons_self) hoL) (sMemT hoS) hE
  rcases sEnc_ref sa ρ h0.1 with z | ⟨q, z⟩
  · rw [z] at key ⊢; exact lv_astore_nN hx hb (sCode_dec hcode) rfl hl.has h1 rfl key
  · rw [z] at key ⊢; exact lv_astore_n hx hb (sCode_dec hcode) rfl hl.has h1 rfl key

theorem sim_iinc {x : Nat} {y : Int} (C : sCx p R s m meth c D sa kk d) (hcode : sCode kk pc = some (.iinc x y, len)) (h : sStep kk call ret (sX p l e R s m args below meth c D sa b ρ0 G0 ex kk Qf) (.iinc x y) len pc L S M G n mm) : sX p l e R s m args below meth c D sa b ρ0 G0 ex kk Qf pc L S M G n mm := by
  obtain ⟨hx, hb, -⟩ := C
  obtain ⟨rfl, v, h1, h2, k⟩ := h
  intro hn hm H locs ρ ls hR hL hl hlen hoL hoS hE
  have hmem : (x, Value.int (Int32.ofInt v)) ∈ sLl sa ρ L := sLl_mem.mpr ⟨_, h1, Nat.ne_of_beq_eq_false rfl, rfl⟩
  obtain ⟨j, hj⟩ := List.getElem?_of_mem hmem
  refine lv_iinc hx hb (sCode_dec hcode) hl.has hj (v := Int32.ofInt (oI (· + ·) v y)) (oI_enc _ _ _).symm (List.getElem?_eq_some_iff.mp h1).1 rfl (fun ls' hl' => ?_)
  exact k hn hm H locs ρ ls' hR hL (sLoc.put1 h2 hl') (hlen.set _ (Or.inl (by simp only [vI]; omega))) (sMemS (sI_to _) hoL) hoS hE

theorem sim_dup (C : sCx p R s m meth c D sa kk d) (hcode : sCode kk pc = some (.dup, len)) (h : sStep kk call ret (sX p l e R s m args below meth c D sa b ρ0 G0 ex kk Qf) .dup len pc L S M G n mm) : sX p l e R s m args below meth c D sa b ρ0 G0 ex kk Qf pc L S M G n mm := by
  obtain ⟨hx, hb, -⟩ := C
  obtain ⟨rfl, v, S', rfl, h1, k⟩ := h
  intro hn hm H locs ρ ls hR hL hl hlen hoL hoS hE
  exact lv_dup hx hb (sCode_dec hcode) (by rw [sEnc_cat]; exact h1) (k hn hm H locs ρ ls hR hL hl hlen hoL (sMem1 (hoS _ List.mem_cons_self) hoS) hE)

theorem sim_dup2 (C : sCx p R s m meth c D sa kk d) (hcode : sCode kk pc = some (.dup2, len)) (h : sStep kk call ret (sX p l e R s m args below meth c D sa b ρ0 G0 ex kk Qf) .dup2 len pc L S M G n mm) : sX p l e R s m args below meth c D sa b ρ0 G0 ex kk Qf pc L S M G n mm := by
  obtain ⟨hx, hb, -⟩ := C
  obtain ⟨rfl, u, v, S', rfl, h1, h2, k⟩ := h
  intro hn hm H locs ρ ls hR hL hl hlen hoL hoS hE
  exact lv_dup2_11 hx hb (sCode_dec hcode) (by rw [sEnc_cat]; exact h1) (by rw [sEnc_cat]; exact h2) (k hn hm H locs ρ ls hR hL hl hlen hoL (sMem1 (hoS _ List.mem_cons_self) (sMem1 (hoS _ (List.mem_cons_of_mem _ List.mem_cons_self)) hoS)) hE)

theorem sim_pop (C : sCx p R s m meth c D sa kk d) (hcode : sCode kk pc = some (.pop, len)) (h : sStep kk call ret (sX p l e R s m args below meth c D sa b ρ0 G0 ex kk Qf) .pop len pc L S M G n mm) : sX p l e R s m args below meth c D sa b ρ0 G0 ex kk Qf pc L S M G n mm := by
  obtain ⟨hx, hb, -⟩ := C
  obtain ⟨rfl, v, S', rfl, h1, k⟩ := h
  intro hn hm H locs ρ ls hR hL hl hlen hoL hoS hE
  exact lv_pop hx hb (sCode_dec hcode) (by rw [sEnc_cat]; exact h1) (k hn hm H locs ρ ls hR hL hl hlen hoL (sMemT hoS) hE)

theorem sim_iadd (C : sCx p R s m meth c D sa kk d) (hcode : sCode kk pc = some (.iadd, len)) (h : sStep kk call ret (sX p l e R s m args below meth c D sa b ρ0 G0 ex kk Qf) .iadd len pc L S M G n mm) : sX p l e R s m args below meth c D sa b ρ0 G0 ex kk Qf pc L S M G n mm := by
  obtain ⟨hx, hb, -⟩ := C
  obtain ⟨rfl, x, y, S', rfl, k⟩ := h
  intro hn hm H locs ρ ls hR hL hl hlen hoL hoS hE
  have kk1 := k hn hm H locs ρ ls hR hL hl hlen hoL (sMem1 (sI_to _) (sMemT (sMemT hoS))) hE
  rw [List.map_cons, sEnc_I, oI_enc] at kk1
  exact lv_iadd hx hb (sCode_dec hcode) kk1

theorem sim_isub (C : sCx p R s m meth c D sa kk d) (hcode : sCode kk pc = some (.isub, len)) (h : sStep kk call ret (sX p l e R s m args below meth c D sa b ρ0 G0 ex kk Qf) .isub len pc L S M G n mm) : sX p l e R s m args below meth c D sa b ρ0 G0 ex kk Qf pc L S M G n mm := by
  obtain ⟨hx, hb, -⟩ := C
  obtain ⟨rfl, x, y, S', rfl, k⟩ := h
  intro hn hm H locs ρ ls hR hL hl hlen hoL hoS hE
  have kk1 := k hn hm H locs ρ ls hR hL hl hlen hoL (sMem1 (sI_to _) (sMemT (sMemT hoS))) hE
  rw [List.map_cons, sEnc_I, oI_enc] at kk1
  exact lv_isub hx hb (sCode_dec hcode) kk1

theorem sim_imul (C : sCx p R s m meth c D sa kk d) (hcode : sCode kk pc = some (.imul, len)) (h : sStep kk call ret (sX p l e R s m args below meth c D sa b ρ0 G0 ex kk Qf) .imul len pc L S M G n mm) : sX p l e R s m args below meth c D sa b ρ0 G0 ex kk Qf pc L S M G n mm := by
  obtain ⟨hx, hb, -⟩ := C
  obtain ⟨rfl, x, y, S', rfl, k⟩ := h
  intro hn hm H locs ρ ls hR hL hl hlen hoL hoS hE
  have kk1 := k hn hm H locs ρ ls hR hL hl hlen hoL (sMem1 (sI_to _) (sMemT (sMemT hoS))) hE
  rw [List.map_cons, sEnc_I, oI_enc] at kk1
  exact lv_imul hx hb (sCode_dec hcode) kk1

theorem sim_ishl (C : sCx p R s m meth c D sa kk d) (hcode : sCode kk pc = some (.ishl, len)) (h : sStep kk call ret (sX p l e R s m args below meth c D sa b ρ0 G0 ex kk Qf) .ishl len pc L S M G n mm) : sX p l e R s m args below meth c D sa b ρ0 G0 ex kk Qf pc L S M G n mm := by
  obtain ⟨hx, hb, -⟩ := C
  obtain ⟨rfl, x, y, S', rfl, k⟩ := h
  intro hn hm H locs ρ ls hR hL hl hlen hoL hoS hE
  have kk1 := k hn hm H locs ρ ls hR hL hl hlen hoL (sMem1 (sI_to _) (sMemT (sMemT hoS))) hE
  rw [List.map_cons, sEnc_I, oI_enc] at kk1
  exact lv_ishl hx hb (sCode_dec hcode) kk1

theorem sim_ishr (C : sCx p R s m meth c D sa kk d) (hcode : sCode kk pc = some (.ishr, len)) (h : sStep kk call ret (sX p l e R s m args below meth c D sa b ρ0 G0 ex kk Qf) .ishr len pc L S M G n mm) : sX p l e R s m args below meth c D sa b ρ0 G0 ex kk Qf pc L S M G n mm := by
  obtain ⟨hx, hb, -⟩ := C
  obtain ⟨rfl, x, y, S', rfl, k⟩ := h
  intro hn hm H locs ρ ls hR hL hl hlen hoL hoS hE
  have kk1 := k hn hm H locs ρ ls hR hL hl hlen hoL (sMem1 (sI_to _) (sMemT (sMemT hoS))) hE
  rw [List.map_cons, sEnc_I, oI_enc] at kk1
  exact lv_ishr hx hb (sCode_dec hcode) kk1

theorem sim_iand (C : sCx p R s m meth c D sa kk d) (hcode : sCode kk pc = some (.iand, len)) (h : sStep kk call ret (sX p l e R s m args below meth c D sa b ρ0 G0 ex kk Qf) .iand len pc L S M G n mm) : sX p l e R s m args below meth c D sa b ρ0 G0 ex kk Qf pc L S M G n mm := by
  obtain ⟨hx, hb, -⟩ := C
  obtain ⟨rfl, x, y, S', rfl, k⟩ := h
  intro hn hm H locs ρ ls hR hL hl hlen hoL hoS hE
  have kk1 := k hn hm H locs ρ ls hR hL hl hlen hoL (sMem1 (sI_to _) (sMemT (sMemT hoS))) hE
  rw [List.map_cons, sEnc_I, oI_enc] at kk1
  exact lv_iand hx hb (sCode_dec hcode) kk1

theorem sim_ior (C : sCx p R s m meth c D sa kk d) (hcode : sCode kk pc = some (.ior, len)) (h : sStep kk call ret (sX p l e R s m args below meth c D sa b ρ0 G0 ex kk Qf) .ior len pc L S M G n mm) : sX p l e R s m args below meth c D sa b ρ0 G0 ex kk Qf pc L S M G n mm := by
  obtain ⟨hx, hb, -⟩ := C
  obtain ⟨rfl, x, y, S', rfl, k⟩ := h
  intro hn hm H locs ρ ls hR hL hl hlen hoL hoS hE
  have kk1 := k hn hm H locs ρ ls hR hL hl hlen hoL (sMem1 (sI_to _) (sMemT (sMemT hoS))) hE
  rw [List.map_cons, sEnc_I, oI_enc] at kk1
  exact lv_ior hx hb (sCode_dec hcode) kk1

theorem sim_ixor (C : sCx p R s m meth c D sa kk d) (hcode : sCode kk pc = some (.ixor, len)) (h : sStep kk call ret (sX p l e R s m args below meth c D sa b ρ0 G0 ex kk Qf) .ixor len pc L S M G n mm) : sX p l e R s m args below meth c D sa b ρ0 G0 ex kk Qf pc L S M G n mm := by
  obtain ⟨hx, hb, -⟩ := C
  obtain ⟨rfl, x, y, S', rfl, k⟩ := h
  intro hn hm H locs ρ ls hR hL hl hlen hoL hoS hE
  have kk1 := k hn hm H locs ρ ls hR hL hl hlen hoL (sMem1 (sI_to _) (sMemT (sMemT hoS))) hE
  rw [List.map_cons, sEnc_I, oI_enc] at kk1
  exact lv_ixor hx hb (sCode_dec hcode) kk1

theorem sim_ladd (C : sCx p R s m meth c D sa kk d) (hcode : sCode kk pc = some (.ladd, len)) (h : sStep kk call ret (sX p l e R s m args below meth c D sa b ρ0 G0 ex kk Qf) .ladd len pc L S M G n mm) : sX p l e R s m args below meth c D sa b ρ0 G0 ex kk Qf pc L S M G n mm := by
  obtain ⟨hx, hb, -⟩ := C
  obtain ⟨rfl, x, y, S', rfl, k⟩ := h
  intro hn hm H locs ρ ls hR hL hl hlen hoL hoS hE
  have kk1 := k hn hm H locs ρ ls hR hL hl hlen hoL (sMem1 (sJ_to _) (sMemT (sMemT hoS))) hE
  rw [List.map_cons, sEnc_L, oJ_enc] at kk1
  exact lv_ladd hx hb (sCode_dec hcode) kk1

theorem sim_lsub (C : sCx p R s m meth c D sa kk d) (hcode : sCode kk pc = some (.lsub, len)) (h : sStep kk call ret (sX p l e R s m args below meth c D sa b ρ0 G0 ex kk Qf) .lsub len pc L S M G n mm) : sX p l e R s m args below meth c D sa b ρ0 G0 ex kk Qf pc L S M G n mm := by
  obtain ⟨hx, hb, -⟩ := C
  obtain ⟨rfl, x, y, S', rfl, k⟩ := h
  intro hn hm H locs ρ ls hR hL hl hlen hoL hoS hE
  have kk1 := k hn hm H locs ρ ls hR hL hl hlen hoL (sMem1 (sJ_to _) (sMemT (sMemT hoS))) hE
  rw [List.map_cons, sEnc_L, oJ_enc] at kk1
  exact lv_lsub hx hb (sCode_dec hcode) kk1

theorem sim_lmul (C : sCx p R s m meth c D sa kk d) (hcode : sCode kk pc = some (.lmul, len)) (h : sStep kk call ret (sX p l e R s m args below meth c D sa b ρ0 G0 ex kk Qf) .lmul len pc L S M G n mm) : sX p l e R s m args below meth c D sa b ρ0 G0 ex kk Qf pc L S M G n mm := by
  obtain ⟨hx, hb, -⟩ := C
  obtain ⟨rfl, x, y, S', rfl, k⟩ := h
  intro hn hm H locs ρ ls hR hL hl hlen hoL hoS hE
  have kk1 := k hn hm H locs ρ ls hR hL hl hlen hoL (sMem1 (sJ_to _) (sMemT (sMemT hoS))) hE
  rw [List.map_cons, sEnc_L, oJ_enc] at kk1
  exact lv_lmul hx hb (sCode_dec hcode) kk1

theorem sim_land (C : sCx p R s m meth c D sa kk d) (hcode : sCode kk pc = some (.land, len)) (h : sStep kk call ret (sX p l e R s m args below meth c D sa b ρ0 G0 ex kk Qf) .land len pc L S M G n mm) : sX p l e R s m args below meth c D sa b ρ0 G0 ex kk Qf pc L S M G n mm := by
  obtain ⟨hx, hb, -⟩ := C
  obtain ⟨rfl, x, y, S', rfl, k⟩ := h
  intro hn hm H locs ρ ls hR hL hl hlen hoL hoS hE
  have kk1 := k hn hm H locs ρ ls hR hL hl hlen hoL (sMem1 (sJ_to _) (sMemT (sMemT hoS))) hE
  rw [List.map_cons, sEnc_L, oJ_enc] at kk1
  exact lv_land hx hb (sCode_dec hcode) kk1

theorem sim_lor (C : sCx p R s m meth c D sa kk d) (hcode : sCode kk pc = some (.lor, len)) (h : sStep kk call ret (sX p l e R s m args below meth c D sa b ρ0 G0 ex kk Qf) .lor len pc L S M G n mm) : sX p l e R s m args below meth c D sa b ρ0 G0 ex kk Qf pc L S M G n mm := by
  obtain ⟨hx, hb, -⟩ := C
  obtain ⟨rfl, x, y, S', rfl, k⟩ := h
  intro hn hm H locs ρ ls hR hL hl hlen hoL hoS hE
  have kk1 := k hn hm H locs ρ ls hR hL hl hlen hoL (sMem1 (sJ_to _) (sMemT (sMemT hoS))) hE
  rw [List.map_cons, sEnc_L, oJ_enc] at kk1
  exact lv_lor hx hb (sCode_dec hcode) kk1

theorem sI_ne {y : Int} (h : sI y) (h0 : y ≠ 0) : ¬ Int32.ofInt y = 0 := fun z => h0 (by have := congrArg Int32.toInt z; rw [sI_of h] at this; simpa using this)
theorem sJ_ne {y : Int} (h : sJ y) (h0 : y ≠ 0) : ¬ Int64.ofInt y = 0 := fun z => h0 (by have := congrArg Int64.toInt z; rw [sJ_of h] at this; simpa using this)

theorem sim_idiv (C : sCx p R s m meth c D sa kk d) (hcode : sCode kk pc = some (.idiv, len)) (h : sStep kk call ret (sX p l e R s m args below meth c D sa b ρ0 G0 ex kk Qf) .idiv len pc L S M G n mm) : sX p l e R s m args below meth c D sa b ρ0 G0 ex kk Qf pc L S M G n mm := by
  obtain ⟨hx, hb, -⟩ := C
  obtain ⟨rfl, x, y, S', rfl, h1, k⟩ := h
  intro hn hm H locs ρ ls hR hL hl hlen hoL hoS hE
  have kk1 := k hn hm H locs ρ ls hR hL hl hlen hoL (sMem1 (sI_to _) (sMemT (sMemT hoS))) hE
  rw [List.map_cons, sEnc_I, oI_enc] at kk1
  exact lv_idiv hx hb (sCode_dec hcode) (sI_ne (hoS _ List.mem_cons_self) h1) kk1

theorem sim_irem (C : sCx p R s m meth c D sa kk d) (hcode : sCode kk pc = some (.irem, len)) (h : sStep kk call ret (sX p l e R s m args below meth c D sa b ρ0 G0 ex kk Qf) .irem len pc L S M G n mm) : sX p l e R s m args below meth c D sa b ρ0 G0 ex kk Qf pc L S M G n mm := by
  obtain ⟨hx, hb, -⟩ := C
  obtain ⟨rfl, x, y, S', rfl, h1, k⟩ := h
  intro hn hm H locs ρ ls hR hL hl hlen hoL hoS hE
  have kk1 := k hn hm H locs ρ ls hR hL hl hlen hoL (sMem1 (sI_to _) (sMemT (sMemT hoS))) hE
  rw [List.map_cons, sEnc_I, oI_enc] at kk1
  exact lv_irem hx hb (sCode_dec hcode) (sI_ne (hoS _ List.mem_cons_self) h1) kk1

theorem sim_ldiv (C : sCx p R s m meth c D sa kk d) (hcode : sCode kk pc = some (.ldiv, len)) (h : sStep kk call ret (sX p l e R s m args below meth c D sa b ρ0 G0 ex kk Qf) .ldiv len pc L S M G n mm) : sX p l e R s m args below meth c D sa b ρ0 G0 ex kk Qf pc L S M G n mm := by
  obtain ⟨hx, hb, -⟩ := C
  obtain ⟨rfl, x, y, S', rfl, h1, k⟩ := h
  intro hn hm H locs ρ ls hR hL hl hlen hoL hoS hE
  have kk1 := k hn hm H locs ρ ls hR hL hl hlen hoL (sMem1 (sJ_to _) (sMemT (sMemT hoS))) hE
  rw [List.map_cons, sEnc_L, oJ_enc] at kk1
  exact lv_ldiv hx hb (sCode_dec hcode) (sJ_ne (hoS _ List.mem_cons_self) h1) kk1

theorem sim_lrem (C : sCx p R s m meth c D sa kk d) (hcode : sCode kk pc = some (.lrem, len)) (h : sStep kk call ret (sX p l e R s m args below meth c D sa b ρ0 G0 ex kk Qf) .lrem len pc L S M G n mm) : sX p l e R s m args below meth c D sa b ρ0 G0 ex kk Qf pc L S M G n mm := by
  obtain ⟨hx, hb, -⟩ := C
  obtain ⟨rfl, x, y, S', rfl, h1, k⟩ := h
  intro hn hm H locs ρ ls hR hL hl hlen hoL hoS hE
  have kk1 := k hn hm H locs ρ ls hR hL hl hlen hoL (sMem1 (sJ_to _) (sMemT (sMemT hoS))) hE
  rw [List.map_cons, sEnc_L, oJ_enc] at kk1
  exact lv_lrem hx hb (sCode_dec hcode) (sJ_ne (hoS _ List.mem_cons_self) h1) kk1

theorem sim_ineg (C : sCx p R s m meth c D sa kk d) (hcode : sCode kk pc = some (.ineg, len)) (h : sStep kk call ret (sX p l e R s m args below meth c D sa b ρ0 G0 ex kk Qf) .ineg len pc L S M G n mm) : sX p l e R s m args below meth c D sa b ρ0 G0 ex kk Qf pc L S M G n mm := by
  obtain ⟨hx, hb, -⟩ := C
  obtain ⟨rfl, x, S', rfl, k⟩ := h
  intro hn hm H locs ρ ls hR hL hl hlen hoL hoS hE
  have kk1 := k hn hm H locs ρ ls hR hL hl hlen hoL (sMem1 (sI_to _) (sMemT hoS)) hE
  rw [List.map_cons, sEnc_I, oI_enc] at kk1
  exact lv_ineg hx hb (sCode_dec hcode) kk1

theorem sim_iushr (C : sCx p R s m meth c D sa kk d) (hcode : sCode kk pc = some (.iushr, len)) (h : sStep kk call ret (sX p l e R s m args below meth c D sa b ρ0 G0 ex kk Qf) .iushr len pc L S M G n mm) : sX p l e R s m args below meth c D sa b ρ0 G0 ex kk Qf pc L S M G n mm := by
  obtain ⟨hx, hb, -⟩ := C
  obtain ⟨rfl, x, y, S', rfl, k⟩ := h
  intro hn hm H locs ρ ls hR hL hl hlen hoL hoS hE
  have kk1 := k hn hm H locs ρ ls hR hL hl hlen hoL (sMem1 (sI_to _) (sMemT (sMemT hoS))) hE
  rw [List.map_cons, sEnc_I, oI_enc] at kk1
  exact lv_iushr hx hb (sCode_dec hcode) rfl kk1

theorem sim_lshl (C : sCx p R s m meth c D sa kk d) (hcode : sCode kk pc = some (.lshl, len)) (h : sStep kk call ret (sX p l e R s m args below meth c D sa b ρ0 G0 ex kk Qf) .lshl len pc L S M G n mm) : sX p l e R s m args below meth c D sa b ρ0 G0 ex kk Qf pc L S M G n mm := by
  obtain ⟨hx, hb, -⟩ := C
  obtain ⟨rfl, x, y, S', rfl, k⟩ := h
  intro hn hm H locs ρ ls hR hL hl hlen hoL hoS hE
  have kk1 := k hn hm H locs ρ ls hR hL hl hlen hoL (sMem1 (sJ_to _) (sMemT (sMemT hoS))) hE
  rw [List.map_cons, sEnc_L, Int64.ofInt_toInt] at kk1
  exact lv_lshl hx hb (sCode_dec hcode) rfl kk1

theorem sim_lcmp (C : sCx p R s m meth c D sa kk d) (hcode : sCode kk pc = some (.lcmp, len)) (h : sStep kk call ret (sX p l e R s m args below meth c D sa b ρ0 G0 ex kk Qf) .lcmp len pc L S M G n mm) : sX p l e R s m args below meth c D sa b ρ0 G0 ex kk Qf pc L S M G n mm := by
  obtain ⟨hx, hb, -⟩ := C
  obtain ⟨rfl, x, y, S', rfl, k⟩ := h
  intro hn hm H locs ρ ls hR hL hl hlen hoL hoS hE
  have hX : sJ x := hoS _ (List.mem_cons_of_mem _ List.mem_cons_self)
  have hY : sJ y := hoS _ List.mem_cons_self
  have kk1 := k hn hm H locs ρ ls hR hL hl hlen hoL (sMem1 (show sI (if y < x then 1 else if x < y then -1 else 0) from ⟨by split; omega; split <;> omega, by split; omega; split <;> omega⟩) (sMemT (sMemT hoS))) hE
  have e1 : Int32.ofInt (if y < x then 1 else if x < y then -1 else 0) = lg_cmp (Int64.ofInt x) (Int64.ofInt y) := by
    unfold lg_cmp
    have hgt : Int64.ofInt x > Int64.ofInt y ↔ y < x := by
      rw [gt_iff_lt, Int64.lt_iff_toInt_lt, sJ_of hX, sJ_of hY]
    have heq : Int64.ofInt x = Int64.ofInt y ↔ x = y := ⟨fun z => by rw [← sJ_of hX, ← sJ_of hY, z], fun z => by rw [z]⟩
    by_cases c1 : y < x
    · rw [if_pos c1, if_pos (hgt.mpr c1)]; rfl
    · rw [if_neg c1, if_neg (fun z => c1 (hgt.mp z))]
      by_cases c2 : x < y
      · rw [if_pos c2, if_neg (fun z => by have := heq.mp z; omega)]; rfl
      · rw [if_neg c2, if_pos (heq.mpr (by omega))]; rfl
  rw [List.map_cons, sEnc_I, e1] at kk1
  exact W.lcmp hx hb (sCode_dec hcode) kk1

theorem sim_i2l (C : sCx p R s m meth c D sa kk d) (hcode : sCode kk pc = some (.i2l, len)) (h : sStep kk call ret (sX p l e R s m args below meth c D sa b ρ0 G0 ex kk Qf) .i2l len pc L S M G n mm) : sX p l e R s m args below meth c D sa b ρ0 G0 ex kk Qf pc L S M G n mm := by
  obtain ⟨hx, hb, -⟩ := C
  obtain ⟨rfl, x, S', rfl, k⟩ := h
  intro hn hm H locs ρ ls hR hL hl hlen hoL hoS hE
  have hX : sI x := hoS _ List.mem_cons_self
  have hJ : sJ x := ⟨by have := hX.1; omega, by have := hX.2; omega⟩
  refine lv_i2l hx hb (sCode_dec hcode) (v := Int64.ofInt x) ?_ (k hn hm H locs ρ ls hR hL hl hlen hoL (sMem1 hJ (sMemT hoS)) hE)
  apply Int64.toInt_inj.mp
  rw [Int32.toInt_toInt64, sI_of hX, sJ_of hJ]

theorem sim_l2i (C : sCx p R s m meth c D sa kk d) (hcode : sCode kk pc = some (.l2i, len)) (h : sStep kk call ret (sX p l e R s m args below meth c D sa b ρ0 G0 ex kk Qf) .l2i len pc L S M G n mm) : sX p l e R s m args below meth c D sa b ρ0 G0 ex kk Qf pc L S M G n mm := by
  obtain ⟨hx, hb, -⟩ := C
  obtain ⟨rfl, x, S', rfl, k⟩ := h
  intro hn hm H locs ρ ls hR hL hl hlen hoL hoS hE
  have kk1 := k hn hm H locs ρ ls hR hL hl hlen hoL (sMem1 (sI_to _) (sMemT hoS)) hE
  rw [List.map_cons, sEnc_I, Int32.ofInt_toInt] at kk1
  exact lv_l2i hx hb (sCode_dec hcode) rfl kk1

theorem sim_i2b (C : sCx p R s m meth c D sa kk d) (hcode : sCode kk pc = some (.i2b, len)) (h : sStep kk call ret (sX p l e R s m args below meth c D sa b ρ0 G0 ex kk Qf) .i2b len pc L S M G n mm) : sX p l e R s m args below meth c D sa b ρ0 G0 ex kk Qf pc L S M G n mm := by
  obtain ⟨hx, hb, -⟩ := C
  obtain ⟨rfl, x, S', rfl, k⟩ := h
  intro hn hm H locs ρ ls hR hL hl hlen hoL hoS hE
  have kk1 := k hn hm H locs ρ ls hR hL hl hlen hoL (sMem1 (sI_to _) (sMemT hoS)) hE
  rw [List.map_cons, sEnc_I, Int32.ofInt_toInt] at kk1
  exact lv_i2b hx hb (sCode_dec hcode) rfl kk1

theorem sI_lt {x y : Int} (hx : sI x) (hy : sI y) : Int32.ofInt x < Int32.ofInt y ↔ x < y := by rw [Int32.lt_iff_toInt_lt, sI_of hx, sI_of hy]
theorem sI_le {x y : Int} (hx : sI x) (hy : sI y) : Int32.ofInt x ≤ Int32.ofInt y ↔ x ≤ y := by rw [Int32.le_iff_toInt_le, sI_of hx, sI_of hy]
theorem sI_eq {x y : Int} (hx : sI x) (hy : sI y) : Int32.ofInt x = Int32.ofInt y ↔ x = y := ⟨fun z => by rw [← sI_of hx, ← sI_of hy, z], fun z => by rw [z]⟩
theorem sI_0 : sI 0 := ⟨by omega, by omega⟩

theorem sim_ifCond {cd : Jvm.ClassFile.Cond} {off : Int} (C : sCx p R s m meth c D sa kk d) (hcode : sCode kk pc = some (.ifCond cd off, len)) (h : sStep kk call ret (sX p l e R s m args below meth c D sa b ρ0 G0 ex kk Qf) (.ifCond cd off) len pc L S M G n mm) : sX p l e R s m args below meth c D sa b ρ0 G0 ex kk Qf pc L S M G n mm := by
  obtain ⟨hx, hb, -⟩ := C
  obtain ⟨rfl, x, S', t, rfl, ht, k1, k2⟩ := h
  intro hn hm H locs ρ ls hR hL hl hlen hoL hoS hE
  have hX : sI x := hoS _ List.mem_cons_self
  have kt := fun z => k1 z hn hm H locs ρ ls hR hL hl hlen hoL (sMemT hoS) hE
  have kf := fun z => k2 z hn hm H locs ρ ls hR hL hl hlen hoL (sMemT hoS) hE
  cases cd
  case eq => exact lv_if_eq hx hb (sCode_dec hcode) ht (fun z => kt ((sI_eq hX sI_0).mp z)) (fun z => kf (fun y => z ((sI_eq hX sI_0).mpr y)))
  case ne => exact lv_if_ne hx hb (sCode_dec hcode) ht (fun z => kt (fun y => z ((sI_eq hX sI_0).mpr y))) (fun z => kf (fun y => y ((sI_eq hX sI_0).mp z)))
  case lt => exact lv_if_lt hx hb (sCode_dec hcode) ht (fun z => kt ((sI_lt hX sI_0).mp z)) (fun z => kf (fun y => z ((sI_lt hX sI_0).mpr y)))
  case ge => exact lv_if_ge hx hb (sCode_dec hcode) ht (fun z => kt ((sI_le sI_0 hX).mp z)) (fun z => kf (fun y => z ((sI_le sI_0 hX).mpr y)))
  case gt => exact lv_if_gt hx hb (sCode_dec hcode) ht (fun z => kt ((sI_lt sI_0 hX).mp z)) (fun z => kf (fun y => z ((sI_lt sI_0 hX).mpr y)))
  case le => exact lv_if_le hx hb (sCode_dec hcode) ht (fun z => kt ((sI_le hX sI_0).mp z)) (fun z => kf (fun y => z ((sI_le hX sI_0).mpr y)))

theorem sim_if_icmp {cd : Jvm.ClassFile.Cond} {off : Int} (C : sCx p R s m meth c D sa kk d) (hcode : sCode kk pc = some (.if_icmp cd off, len)) (h : sStep kk call ret (sX p l e R s m args below meth c D sa b ρ0 G0 ex kk Qf) (.if_icmp cd off) len pc L S M G n mm) : sX p l e R s m args below meth c D sa b ρ0 G0 ex kk Qf pc L S M G n mm := by
  obtain ⟨hx, hb, -⟩ := C
  obtain ⟨rfl, x, y, S', t, rfl, ht, k1, k2⟩ := h
  intro hn hm H locs ρ ls hR hL hl hlen hoL hoS hE
  have hY : sI y := hoS _ List.mem_cons_self
  have hX : sI x := hoS _ (List.mem_cons_of_mem _ List.mem_cons_self)
  have kt := fun z => k1 z hn hm H locs ρ ls hR hL hl hlen hoL (sMemT (sMemT hoS)) hE
  have kf := fun z => k2 z hn hm H locs ρ ls hR hL hl hlen hoL (sMemT (sMemT hoS)) hE
  cases cd
  case eq => exact lv_icmp_eq hx hb (sCode_dec hcode) ht (fun z => kt ((sI_eq hX hY).mp z)) (fun z => kf (fun y => z ((sI_eq hX hY).mpr y)))
  case ne => exact lv_icmp_ne hx hb (sCode_dec hcode) ht (fun z => kt (fun y => z ((sI_eq hX hY).mpr y))) (fun z => kf (fun y => y ((sI_eq hX hY).mp z)))
  case lt => exact lv_icmp_lt hx hb (sCode_dec hcode) ht (fun z => kt ((sI_lt hX hY).mp z)) (fun z => kf (fun y => z ((sI_lt hX hY).mpr y)))
  case ge => exact lv_icmp_ge hx hb (sCode_dec hcode) ht (fun z => kt ((sI_le hY hX).mp z)) (fun z => kf (fun y => z ((sI_le hY hX).mpr y)))
  case gt => exact lv_icmp_gt hx hb (sCode_dec hcode) ht (fun z => kt ((sI_lt hY hX).mp z)) (fun z => kf (fun y => z ((sI_lt hY hX).mpr y)))
  case le => exact lv_icmp_le hx hb (sCode_dec hcode) ht (fun z => kt ((sI_le hX hY).mp z)) (fun z => kf (fun y => z ((sI_le hX hY).mpr y)))

theorem sim_goto {off : Int} (C : sCx p R s m meth c D sa kk d) (hcode : sCode kk pc = some (.goto off, len)) (h : sStep kk call ret (sX p l e R s m args below meth c D sa b ρ0 G0 ex kk Qf) (.goto off) len pc L S M G n mm) : sX p l e R s m args below meth c D sa b ρ0 G0 ex kk Qf pc L S M G n mm := by
  obtain ⟨hx, hb, -⟩ := C
  obtain ⟨rfl, t, ht, k⟩ := h
  intro hn hm H locs ρ ls hR hL hl hlen hoL hoS hE
  exact lv_goto hx hb (sCode_dec hcode) ht (k hn hm H locs ρ ls hR hL hl hlen hoL hoS hE)

theorem sim_tableswitch {dd lo hi : Int} {offs : Array Int} (C : sCx p R s m meth c D sa kk d) (hcode : sCode kk pc = some (.tableswitch dd lo hi offs, len)) (h : sStep kk call ret (sX p l e R s m args below meth c D sa b ρ0 G0 ex kk Qf) (.tableswitch dd lo hi offs) len pc L S M G n mm) : sX p l e R s m args below meth c D sa b ρ0 G0 ex kk Qf pc L S M G n mm := by
  obtain ⟨hx, hb, -⟩ := C
  obtain ⟨x, S', rfl, k1, k2⟩ := h
  intro hn hm H locs ρ ls hR hL hl hlen hoL hoS hE
  have hX : sI x := hoS _ List.mem_cons_self
  by_cases c1 : x < lo ∨ hi < x
  · obtain ⟨t, ht, k⟩ := k1 c1
    exact lv_tableOut hx hb (sCode_dec hcode) (by rw [sI_of hX]; exact c1) ht (k hn hm H locs ρ ls hR hL hl hlen hoL (sMemT hoS) hE)
  · have c2 : ¬ x < lo := fun z => c1 (Or.inl z)
    have c3 : ¬ hi < x := fun z => c1 (Or.inr z)
    obtain ⟨off, t, ho, ht, k⟩ := k2 c2 c3
    exact lv_tableIn hx hb (sCode_dec hcode) (by rw [sI_of hX]; exact c2) (by rw [sI_of hX]; exact c3) (by rw [sI_of hX]; exact ho) ht (k hn hm H locs ρ ls hR hL hl hlen hoL (sMemT hoS) hE)

theorem sBad {G : sG} (h0 : G 0 = (0, 0, 0)) (x : Nat) (h : ¬ x < 20) : sOK G (vQ x 0) → False := by
  intro z
  unfold sOK at z
  simp only [vQ] at z
  rw [if_neg (by omega), if_neg (by omega), if_neg (by omega), if_neg (by omega), if_neg (by omega), if_neg (by omega), if_neg (by omega), if_neg (by omega), if_neg (by omega), if_neg (by omega)] at z
  by_cases c1 : 40 + x < 73
  · rw [if_pos c1] at z; exact z.1 rfl
  rw [if_neg c1] at z
  by_cases c2 : 40 + x < 80
  · rw [if_pos c2] at z; exact z
  rw [if_neg c2] at z
  by_cases c3 : 40 + x < 93
  · rw [if_pos c3] at z; exact z.1 rfl
  rw [if_neg c3] at z
  by_cases c4 : 40 + x < 100
  · rw [if_pos c4] at z; exact z
  rw [if_neg c4, h0] at z
  exact absurd (congrArg Prod.fst z.2.2) (by simp)
theorem sim_ifnull {off : Int} (C : sCx p R s m meth c D sa kk d) (hcode : sCode kk pc = some (.ifnull off, len)) (h : sStep kk call ret (sX p l e R s m args below meth c D sa b ρ0 G0 ex kk Qf) (.ifnull off) len pc L S M G n mm) : sX p l e R s m args below meth c D sa b ρ0 G0 ex kk Qf pc L S M G n mm := by
  obtain ⟨hx, hb, -⟩ := C
  obtain ⟨rfl, x, a, S', t, h1, ht, k1, k2⟩ := h
  intro hn hm H locs ρ ls hR hL hl hlen hoL hoS hE
  have hT : ∀ v ∈ S', sOK G v := by
    rcases h1 with rfl | ⟨rfl, -⟩
    · exact sMemT hoS
    · exact sMemT hoS
  by_cases ha : a = 0
  · have kz := k1 ha hn hm H locs ρ ls hR hL hl hlen hoL hT hE
    rcases h1 with rfl | ⟨rfl, h2⟩
    · subst ha
      rw [List.map_cons]
      by_cases hx20 : x < 20
      · rw [sEnc_Q0 sa ρ hx20]
        exact lv_ifnullN hx hb (sCode_dec hcode) ht kz
      · exact absurd (hoS _ List.mem_cons_self) (sBad hR.1 x hx20)
    · exact absurd ha h2
  · have kz := k2 ha hn hm H locs ρ ls hR hL hl hlen hoL hT hE
    have hr : ∃ q, S.map (sEnc sa ρ) = .ref q :: S'.map (sEnc sa ρ) := by
      rcases h1 with rfl | ⟨rfl, h2⟩
      · exact ⟨_, by rw [List.map_cons, sEnc_Q sa ρ x ha]⟩
      · rcases sEnc_ref sa ρ (v := vO x a) (by simp only [vO]; omega) with z | ⟨q, z⟩
        · exact absurd z (by unfold sEnc; simp only [vO]; rw [if_neg (by omega), if_neg (by omega), if_neg (by omega), if_neg (by omega)]; intro y; cases y)
        · exact ⟨q, by rw [List.map_cons, z]⟩
    obtain ⟨q, hq⟩ := hr
    rw [hq]
    exact lv_ifnull hx hb (sCode_dec hcode) kz

theorem sim_ifnonnull {off : Int} (C : sCx p R s m meth c D sa kk d) (hcode : sCode kk pc = some (.ifnonnull off, len)) (h : sStep kk call ret (sX p l e R s m args below meth c D sa b ρ0 G0 ex kk Qf) (.ifnonnull off) len pc L S M G n mm) : sX p l e R s m args below meth c D sa b ρ0 G0 ex kk Qf pc L S M G n mm := by
  obtain ⟨hx, hb, -⟩ := C
  obtain ⟨rfl, x, a, S', t, h1, ht, k1, k2⟩ := h
  intro hn hm H locs ρ ls hR hL hl hlen hoL hoS hE
  have hT : ∀ v ∈ S', sOK G v := by
    rcases h1 with rfl | ⟨rfl, -⟩
    · exact sMemT hoS
    · exact sMemT hoS
  by_cases ha : a = 0
  · have kz := k2 ha hn hm H locs ρ ls hR hL hl hlen hoL hT hE
    rcases h1 with rfl | ⟨rfl, h2⟩
    · subst ha
      rw [List.map_cons]
      by_cases hx20 : x < 20
      · rw [sEnc_Q0 sa ρ hx20]
        exact lv_ifnonnullN hx hb (sCode_dec hcode) kz
      · exact absurd (hoS _ List.mem_cons_self) (sBad hR.1 x hx20)
    · exact absurd ha h2
  · have kz := k1 ha hn hm H locs ρ ls hR hL hl hlen hoL hT hE
    have hr : ∃ q, S.map (sEnc sa ρ) = .ref q :: S'.map (sEnc sa ρ) := by
      rcases h1 with rfl | ⟨rfl, h2⟩
      · exact ⟨_, by rw [List.map_cons, sEnc_Q sa ρ x ha]⟩
      · rcases sEnc_ref sa ρ (v := vO x a) (by simp only [vO]; omega) with z | ⟨q, z⟩
        · exact absurd z (by unfold sEnc; simp only [vO]; rw [if_neg (by omega), if_neg (by omega), if_neg (by omega), if_neg (by omega)]; intro y; cases y)
        · exact ⟨q, by rw [List.map_cons, z]⟩
    obtain ⟨q, hq⟩ := hr
    rw [hq]
    exact lv_ifnonnull hx hb (sCode_dec hcode) ht kz

end Sim2
