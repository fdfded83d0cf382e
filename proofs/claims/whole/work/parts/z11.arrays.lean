/-! Arrays, and what is made. -/
theorem sIx {i : Int} (h : sI i) : (Int32.ofInt i).toNatClampNeg = i.toNat := by
  show (Int32.ofInt i).toInt.toNat = i.toNat
  rw [sI_of h]
theorem sNn {i : Int} (h : sI i) (h0 : 0 ≤ i) : ¬ Int32.ofInt i < 0 := fun z => by
  have := (sI_lt h sI_0).mp z
  omega
theorem sIn {i nn : Int} (h : sI i) (h0 : 0 ≤ i) (h1 : i < nn) {N : Nat} (hN : nn.toNat = N) : ¬ (Int32.ofInt i < 0 ∨ N ≤ (Int32.ofInt i).toNatClampNeg) := by
  rintro (z | z)
  · exact sNn h h0 z
  · rw [sIx h] at z; omega
theorem sEnc_to {sa ρ ρ' : Nat → Nat} {G : sG} {v : sV} (h : sOK G v) (hρ : ∀ a, G a ≠ (0, 0, 0) → ρ' a = ρ a) : sEnc sa ρ' v = sEnc sa ρ v := by
  unfold sEnc
  by_cases c0 : v.1 = 0
  · rw [if_pos c0, if_pos c0]
  rw [if_neg c0, if_neg c0]
  by_cases c1 : v.1 = 1
  · rw [if_pos c1, if_pos c1]
  rw [if_neg c1, if_neg c1]
  by_cases c3 : v.1 = 3
  · rw [if_pos c3, if_pos c3]
  rw [if_neg c3, if_neg c3]
  by_cases c4 : v.1 = 2 ∨ (40 ≤ v.1 ∧ v.1 < 60 ∧ v.2.1 = 0)
  · rw [if_pos c4, if_pos c4]
  rw [if_neg c4, if_neg c4]
  by_cases c5 : v.1 < 40 ∨ 60 ≤ v.1
  · rw [hρ _ (sOK_alloc h (by omega) c5)]
  · have h' := h
    unfold sOK at h'
    rw [if_neg (by omega), if_neg (by omega), if_neg (by omega), if_neg (by omega), if_neg (by omega), if_neg (by omega), if_neg (by omega), if_neg (by omega)] at h'
    by_cases c6 : v.1 < 53
    · rw [if_pos c6] at h'
      rcases h' with h' | h'
      · omega
      · rw [hρ _ (sG_ne h' (by simp))]
    · rw [if_neg c6, if_pos (by omega)] at h'
      exact h'.elim
theorem sMap_to {sa ρ ρ' : Nat → Nat} {G : sG} {S : List sV} (h : ∀ v ∈ S, sOK G v) (hρ : ∀ a, G a ≠ (0, 0, 0) → ρ' a = ρ a) : S.map (sEnc sa ρ') = S.map (sEnc sa ρ) := List.map_congr_left (fun v hv => sEnc_to (h v hv) hρ)
theorem sLoc.to {sa ρ ρ' : Nat → Nat} {G : sG} {L : List sV} {ls : Array Slot} (hl : sLoc sa ρ L ls) (h : ∀ v ∈ L, sOK G v) (hρ : ∀ a, G a ≠ (0, 0, 0) → ρ' a = ρ a) : sLoc sa ρ' L ls := ⟨hl.1, hl.2.1, fun i v hv c => by rw [hl.2.2 i v hv c, sEnc_to (h v (List.mem_of_getElem? hv)) hρ]⟩
section Sim4
variable {p : Program} {l : Launch} {e : Env} {R : Room} {s : State} {m : MethodId} {args : Array Value} {below : List Frame} {meth : Method} {c : Code} {D : va_G} {sa : Nat → Nat} {b : Nat} {ρ0 : Nat → Nat} {G0 : sG} {ex kk : Nat} {Qf : State → Prop}
variable {call : sCall} {ret : Option sV → sM → sG → Nat → Nat → Prop} {len pc : Nat} {L S : List sV} {M : sM} {G : sG} {n mm d : Nat}
theorem sim_iaload (C : sCx p R s m meth c D sa kk d) (hcode : sCode kk pc = some (.iaload, len)) (h : sStep kk call ret (sX p l e R s m args below meth c D sa b ρ0 G0 ex kk Qf) .iaload len pc L S M G n mm) : sX p l e R s m args below meth c D sa b ρ0 G0 ex kk Qf pc L S M G n mm := by
  obtain ⟨hx, hb, -⟩ := C
  obtain ⟨rfl, a, nn, i, S', hS, h0, h1, k⟩ := h
  intro hn hm H locs ρ ls hR hL hl hlen hoL hoS hE
  rcases hS with rfl | rfl
  · have hi : sI i := hoS _ List.mem_cons_self
    have ha := (sOK_A (by omega)).mp (hoS _ (List.mem_cons_of_mem _ List.mem_cons_self))
    have hcell := hR.2.2.2.2.1 a
    rw [ha.2] at hcell
    obtain ⟨cA, q1, q2, q3⟩ := hcell
    rw [List.map_cons, List.map_cons, sEnc_A sa ρ (by omega)]
    refine W.iald (v := .int (Int32.ofInt (M a i.toNat))) hx hb q2 ((q1.2 0 _ rfl).1 _ _) (fun q => by cases q) (by rw [arrV_size]; exact sIn hi h0 h1 rfl) (by rw [sIx hi, arrV_read _ _ (by omega)]) rfl rfl (sCode_dec hcode) ?_
    exact k hn hm H locs ρ ls hR hL hl hlen hoL (sMem1 (q3 _) (sMemT (sMemT hoS))) hE
  · have hi : sI i := hoS _ List.mem_cons_self
    have ha := (sOK_A (by omega)).mp (hoS _ (List.mem_cons_of_mem _ List.mem_cons_self))
    have hcell := hR.2.2.2.2.1 a
    rw [ha.2] at hcell
    obtain ⟨⟨scr, z1, z2, z3, z4, z5⟩, q3⟩ := hcell
    rw [List.map_cons, List.map_cons, sEnc_A sa ρ (by omega)]
    refine W.iald (v := .int (Int32.ofInt (M a i.toNat))) hx hb z1 z2 z3 (by rw [z4]; exact sIn hi h0 h1 rfl) (by rw [sIx hi, z5 _ (by omega)]) rfl rfl (sCode_dec hcode) ?_
    exact k hn hm H locs ρ ls hR hL hl hlen hoL (sMem1 (q3 _) (sMemT (sMemT hoS))) hE
theorem sim_laload (C : sCx p R s m meth c D sa kk d) (hcode : sCode kk pc = some (.laload, len)) (h : sStep kk call ret (sX p l e R s m args below meth c D sa b ρ0 G0 ex kk Qf) .laload len pc L S M G n mm) : sX p l e R s m args below meth c D sa b ρ0 G0 ex kk Qf pc L S M G n mm := by
  obtain ⟨hx, hb, -⟩ := C
  obtain ⟨rfl, a, nn, i, S', rfl, h0, h1, k⟩ := h
  intro hn hm H locs ρ ls hR hL hl hlen hoL hoS hE
  have hi : sI i := hoS _ List.mem_cons_self
  have ha := (sOK_A (by omega)).mp (hoS _ (List.mem_cons_of_mem _ List.mem_cons_self))
  have hcell := hR.2.2.2.2.1 a
  rw [ha.2] at hcell
  obtain ⟨cA, q1, q2, q3⟩ := hcell
  rw [List.map_cons, List.map_cons, sEnc_A sa ρ (by omega)]
  refine W.lald (v := .long (Int64.ofInt (M a i.toNat))) hx hb q2 ((q1.2 0 _ rfl).1 _ _) (fun q => by cases q) (by rw [arrV_size]; exact sIn hi h0 h1 rfl) (by rw [sIx hi, arrV_read _ _ (by omega)]) rfl rfl (sCode_dec hcode) ?_
  exact k hn hm H locs ρ ls hR hL hl hlen hoL (sMem1 (q3 _) (sMemT (sMemT hoS))) hE
theorem sim_baload (C : sCx p R s m meth c D sa kk d) (hcode : sCode kk pc = some (.baload, len)) (h : sStep kk call ret (sX p l e R s m args below meth c D sa b ρ0 G0 ex kk Qf) .baload len pc L S M G n mm) : sX p l e R s m args below meth c D sa b ρ0 G0 ex kk Qf pc L S M G n mm := by
  obtain ⟨hx, hb, -⟩ := C
  obtain ⟨rfl, a, nn, i, S', hS, h0, h1, k⟩ := h
  intro hn hm H locs ρ ls hR hL hl hlen hoL hoS hE
  rcases hS with rfl | rfl
  · have hi : sI i := hoS _ List.mem_cons_self
    have ha := (sOK_A (by omega)).mp (hoS _ (List.mem_cons_of_mem _ List.mem_cons_self))
    have hcell := hR.2.2.2.2.1 a
    rw [ha.2] at hcell
    obtain ⟨cA, q1, q2, q3⟩ := hcell
    rw [List.map_cons, List.map_cons, sEnc_A sa ρ (by omega)]
    refine W.bald (v := .int (Int32.ofInt (M a i.toNat))) hx hb q2 ((q1.2 0 _ rfl).1 _ _) (fun q => by cases q) (by rw [arrV_size]; exact sIn hi h0 h1 rfl) (by rw [sIx hi, arrV_read _ _ (by omega)]) rfl rfl (sCode_dec hcode) ?_
    exact k hn hm H locs ρ ls hR hL hl hlen hoL (sMem1 (show sI (M a i.toNat) from ⟨by have := (q3 i.toNat).1; omega, by have := (q3 i.toNat).2; omega⟩) (sMemT (sMemT hoS))) hE
  · have hi : sI i := hoS _ List.mem_cons_self
    have ha := (sOK_A (by omega)).mp (hoS _ (List.mem_cons_of_mem _ List.mem_cons_self))
    have hcell := hR.2.2.2.2.1 a
    rw [ha.2] at hcell
    obtain ⟨cA, q1, q2, q3⟩ := hcell
    rw [List.map_cons, List.map_cons, sEnc_A sa ρ (by omega)]
    refine W.zald (v := .int (Int32.ofInt (M a i.toNat))) hx hb q2 ((q1.2 0 _ rfl).1 _ _) (fun q => by cases q) (by rw [arrV_size]; exact sIn hi h0 h1 rfl) (by rw [sIx hi, arrV_read _ _ (by omega)]) rfl rfl (sCode_dec hcode) ?_
    exact k hn hm H locs ρ ls hR hL hl hlen hoL (sMem1 (show sI (M a i.toNat) from ⟨by rcases q3 i.toNat with q | q <;> omega, by rcases q3 i.toNat with q | q <;> omega⟩) (sMemT (sMemT hoS))) hE
theorem sim_aaload (C : sCx p R s m meth c D sa kk d) (hcode : sCode kk pc = some (.aaload, len)) (h : sStep kk call ret (sX p l e R s m args below meth c D sa b ρ0 G0 ex kk Qf) .aaload len pc L S M G n mm) : sX p l e R s m args below meth c D sa b ρ0 G0 ex kk Qf pc L S M G n mm := by
  obtain ⟨hx, hb, -⟩ := C
  obtain ⟨rfl, cc, a, nn, i, S', rfl, h0, h1, k⟩ := h
  intro hn hm H locs ρ ls hR hL hl hlen hoL hoS hE
  have hi : sI i := hoS _ List.mem_cons_self
  have ha := sOK_B.mp (hoS _ (List.mem_cons_of_mem _ List.mem_cons_self))
  have hcell := hR.2.2.2.2.1 a
  rw [ha.2.2] at hcell
  obtain ⟨cA, r, hr, q1, q2, q3⟩ := hcell
  have e1 : sEnc sa ρ (vQ cc (M a i.toNat).toNat) = if M a i.toNat = 0 then .null else .ref (ρ (M a i.toNat).toNat) := by
    have := (q3 i.toNat).1
    by_cases z : M a i.toNat = 0
    · rw [if_pos z, z]; exact sEnc_Q0 sa ρ (by omega)
    · rw [if_neg z]; exact sEnc_Q sa ρ cc (by omega)
  have hok : sOK G (vQ cc (M a i.toNat).toNat) := (sOK_Q ha.1).mpr (by
    rcases (q3 i.toNat).2 with z | z
    · left; rw [z]; rfl
    · exact Or.inr z)
  rw [List.map_cons, List.map_cons, sEnc_B sa ρ]
  refine W.aald (v := if M a i.toNat = 0 then .null else .ref (ρ (M a i.toNat).toNat)) hx hb q2 ((q1.2 0 _ rfl).1 _ _) rfl (fun q => by cases q) (by rw [arrV_size]; exact sIn hi h0 h1 rfl) (by rw [sIx hi, arrV_read _ _ (by omega)]) rfl rfl (sCode_dec hcode) ?_
  have := k hn hm H locs ρ ls hR hL hl hlen hoL (sMem1 hok (sMemT (sMemT hoS))) hE
  rw [List.map_cons, e1] at this
  exact this
theorem sim_arraylength (C : sCx p R s m meth c D sa kk d) (hcode : sCode kk pc = some (.arraylength, len)) (h : sStep kk call ret (sX p l e R s m args below meth c D sa b ρ0 G0 ex kk Qf) .arraylength len pc L S M G n mm) : sX p l e R s m args below meth c D sa b ρ0 G0 ex kk Qf pc L S M G n mm := by
  obtain ⟨hx, hb, -⟩ := C
  obtain ⟨rfl, t, a, nn, S', rfl, ht, hnn, k⟩ := h
  intro hn hm H locs ρ ls hR hL hl hlen hoL hoS hE
  have ha := (sOK_A ht).mp (hoS _ List.mem_cons_self)
  have key : ∃ cell ty, H[ρ a]? = some cell ∧ s.isArrayOf cell ty ∧ cell.slots.size = nn.toNat := by
    have hcell := hR.2.2.2.2.1 a
    rw [ha.2] at hcell
    rcases (show t = 0 ∨ t = 1 ∨ t = 2 ∨ t = 3 ∨ t = 4 by omega) with rfl | rfl | rfl | rfl | rfl
    · obtain ⟨cA, q1, q2, q3⟩ := hcell; exact ⟨_, _, q2, (q1.2 0 _ rfl).1 _ _, arrV_size _ _ _⟩
    · obtain ⟨cA, q1, q2, q3⟩ := hcell; exact ⟨_, _, q2, (q1.2 0 _ rfl).1 _ _, arrV_size _ _ _⟩
    · obtain ⟨cA, q1, q2, q3⟩ := hcell; exact ⟨_, _, q2, (q1.2 0 _ rfl).1 _ _, arrV_size _ _ _⟩
    · obtain ⟨cA, q1, q2, q3⟩ := hcell; exact ⟨_, _, q2, (q1.2 0 _ rfl).1 _ _, arrV_size _ _ _⟩
    · obtain ⟨⟨scr, z1, z2, z3, z4, z5⟩, q3⟩ := hcell; exact ⟨_, _, z1, z2, z4⟩
  obtain ⟨cell, ty, g1, g2, g3⟩ := key
  rw [List.map_cons, sEnc_A sa ρ ht]
  refine W.alen (n := Int32.ofInt nn) hx hb g1 g2 ?_ rfl rfl (sCode_dec hcode) ?_
  · rw [g3]
    show Int32.ofNat nn.toNat = Int32.ofInt nn
    rw [← Int32.ofInt_eq_ofNat, Int.toNat_of_nonneg ha.1]
  · exact k hn hm H locs ρ ls hR hL hl hlen hoL (sMem1 (show sI nn from ⟨by omega, by omega⟩) (sMemT hoS)) hE
end Sim4
