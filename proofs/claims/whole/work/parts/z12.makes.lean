/-! Arrays written; objects and arrays made. -/
section Sim5
variable {p : Program} {l : Launch} {e : Env} {R : Room} {s : State} {m : MethodId} {args : Array Value} {below : List Frame} {meth : Method} {c : Code} {D : va_G} {sa : Nat → Nat} {b : Nat} {ρ0 : Nat → Nat} {G0 : sG} {ex kk : Nat} {Qf : State → Prop}
variable {call : sCall} {ret : Option sV → sM → sG → Nat → Nat → Prop} {len pc : Nat} {L S : List sV} {M : sM} {G : sG} {n mm d : Nat}
theorem sLocs {G : sG} {H : Heap} {ρ : Nat → Nat} {locs : List Loc} {a z : Nat} (hR : sHR D sa b ρ M G s H) (hL : ∀ q ∈ locs, b ≤ q.base) (hane : G a ≠ (0, 0, 0)) (h7 : (G a).1 ≠ 7) : ∀ q ∈ locs ++ [(⟨ρ a, z⟩ : Loc)], b ≤ q.base := fun q hq => by
  rcases List.mem_append.mp hq with hq | hq
  · exact hL q hq
  · rw [List.mem_singleton.mp hq]; exact (hR.2.2.1 a hane).2.1 h7
theorem sim_iastore (C : sCx p R s m meth c D sa kk d) (hcode : sCode kk pc = some (.iastore, len)) (h : sStep kk call ret (sX p l e R s m args below meth c D sa b ρ0 G0 ex kk Qf) .iastore len pc L S M G n mm) : sX p l e R s m args below meth c D sa b ρ0 G0 ex kk Qf pc L S M G n mm := by
  obtain ⟨hx, hb, -⟩ := C
  obtain ⟨rfl, a, nn, i, x, S', rfl, h0, h1, k⟩ := h
  intro hn hm H locs ρ ls hR hL hl hlen hoL hoS hE
  have hX : sI x := hoS _ List.mem_cons_self
  have hi : sI i := hoS _ (List.mem_cons_of_mem _ List.mem_cons_self)
  have ha := (sOK_A (by omega)).mp (hoS _ (List.mem_cons_of_mem _ (List.mem_cons_of_mem _ List.mem_cons_self)))
  have hG : G a = (2, nn.toNat, 0) := ha.2
  have hcell := hR.2.2.2.2.1 a
  rw [hG] at hcell
  obtain ⟨cA, q1, q2, q3⟩ := hcell
  have hane := sG_ne hG (by simp)
  have h7 : (G a).1 ≠ 7 := by rw [hG]; simp
  rw [List.map_cons, List.map_cons, List.map_cons, sEnc_A sa ρ (by omega)]
  refine W.iast hx hb q2 ((q1.2 0 _ rfl).1 _ _) (fun q => by cases q) (by rw [arrV_size]; exact sIn hi h0 h1 rfl) rfl rfl (sCode_dec hcode) fun H' g1 g2 g3 => ?_
  refine k hn hm H' _ ρ ls (hR.write hane h7 g2 g3 (fun a' j hne => by unfold sUpd; rw [if_neg (fun q => hne q.1)]) ?_) (sLocs hR hL hane h7) hl hlen hoL (sMemT (sMemT (sMemT hoS))) hE
  rw [hG]
  refine ⟨cA, q1, ?_, fun j => ?_⟩
  · rw [g1, arrV_store, sIx hi]
    congr 2
    funext j
    unfold updV sUpd
    by_cases hj : j = i.toNat
    · rw [if_pos hj, if_pos ⟨rfl, hj⟩]
    · rw [if_neg hj, if_neg (c := a = a ∧ j = i.toNat) (fun q => hj q.2)]
  · unfold sUpd
    by_cases hj : a = a ∧ j = i.toNat
    · rw [if_pos hj]; exact hX
    · rw [if_neg hj]; exact q3 j
theorem sim_lastore (C : sCx p R s m meth c D sa kk d) (hcode : sCode kk pc = some (.lastore, len)) (h : sStep kk call ret (sX p l e R s m args below meth c D sa b ρ0 G0 ex kk Qf) .lastore len pc L S M G n mm) : sX p l e R s m args below meth c D sa b ρ0 G0 ex kk Qf pc L S M G n mm := by
  obtain ⟨hx, hb, -⟩ := C
  obtain ⟨rfl, a, nn, i, x, S', rfl, h0, h1, k⟩ := h
  intro hn hm H locs ρ ls hR hL hl hlen hoL hoS hE
  have hX : sJ x := hoS _ List.mem_cons_self
  have hi : sI i := hoS _ (List.mem_cons_of_mem _ List.mem_cons_self)
  have ha := (sOK_A (by omega)).mp (hoS _ (List.mem_cons_of_mem _ (List.mem_cons_of_mem _ List.mem_cons_self)))
  have hG : G a = (3, nn.toNat, 0) := ha.2
  have hcell := hR.2.2.2.2.1 a
  rw [hG] at hcell
  obtain ⟨cA, q1, q2, q3⟩ := hcell
  have hane := sG_ne hG (by simp)
  have h7 : (G a).1 ≠ 7 := by rw [hG]; simp
  rw [List.map_cons, List.map_cons, List.map_cons, sEnc_A sa ρ (by omega)]
  refine W.last hx hb q2 ((q1.2 0 _ rfl).1 _ _) (fun q => by cases q) (by rw [arrV_size]; exact sIn hi h0 h1 rfl) rfl rfl (sCode_dec hcode) fun H' g1 g2 g3 => ?_
  refine k hn hm H' _ ρ ls (hR.write hane h7 g2 g3 (fun a' j hne => by unfold sUpd; rw [if_neg (fun q => hne q.1)]) ?_) (sLocs hR hL hane h7) hl hlen hoL (sMemT (sMemT (sMemT hoS))) hE
  rw [hG]
  refine ⟨cA, q1, ?_, fun j => ?_⟩
  · rw [g1, arrV_store, sIx hi]
    congr 2
    funext j
    unfold updV sUpd
    by_cases hj : j = i.toNat
    · rw [if_pos hj, if_pos ⟨rfl, hj⟩]
    · rw [if_neg hj, if_neg (c := a = a ∧ j = i.toNat) (fun q => hj q.2)]
  · unfold sUpd
    by_cases hj : a = a ∧ j = i.toNat
    · rw [if_pos hj]; exact hX
    · rw [if_neg hj]; exact q3 j
theorem sim_bastore (C : sCx p R s m meth c D sa kk d) (hcode : sCode kk pc = some (.bastore, len)) (h : sStep kk call ret (sX p l e R s m args below meth c D sa b ρ0 G0 ex kk Qf) .bastore len pc L S M G n mm) : sX p l e R s m args below meth c D sa b ρ0 G0 ex kk Qf pc L S M G n mm := by
  obtain ⟨hx, hb, -⟩ := C
  obtain ⟨rfl, a, nn, i, x, S', h0, h1, ⟨rfl, k⟩ | ⟨rfl, h2, k⟩⟩ := h
  · intro hn hm H locs ρ ls hR hL hl hlen hoL hoS hE
    have hi : sI i := hoS _ (List.mem_cons_of_mem _ List.mem_cons_self)
    have ha := (sOK_A (by omega)).mp (hoS _ (List.mem_cons_of_mem _ (List.mem_cons_of_mem _ List.mem_cons_self)))
    have hG : G a = (4, nn.toNat, 0) := ha.2
    have hcell := hR.2.2.2.2.1 a
    rw [hG] at hcell
    obtain ⟨cA, q1, q2, q3⟩ := hcell
    have hane := sG_ne hG (by simp)
    have h7 : (G a).1 ≠ 7 := by rw [hG]; simp
    rw [List.map_cons, List.map_cons, List.map_cons, sEnc_A sa ρ (by omega)]
    refine W.bast hx hb q2 ((q1.2 0 _ rfl).1 _ _) (fun q => by cases q) (by rw [arrV_size]; exact sIn hi h0 h1 rfl) rfl rfl (sCode_dec hcode) fun H' g1 g2 g3 => ?_
    refine k hn hm H' _ ρ ls (hR.write hane h7 g2 g3 (fun a' j hne => by unfold sUpd; rw [if_neg (fun q => hne q.1)]) ?_) (sLocs hR hL hane h7) hl hlen hoL (sMemT (sMemT (sMemT hoS))) hE
    rw [hG]
    refine ⟨cA, q1, ?_, fun j => ?_⟩
    · rw [g1, sIx hi, narrow_byte, arrV_store]
      congr 2
      funext j
      unfold updV sUpd
      by_cases hj : j = i.toNat
      · rw [if_pos hj, if_pos ⟨rfl, hj⟩, Int32.ofInt_toInt]
      · rw [if_neg hj, if_neg (c := a = a ∧ j = i.toNat) (fun q => hj q.2)]
    · unfold sUpd
      by_cases hj : a = a ∧ j = i.toNat
      · rw [if_pos hj]
        have e1 : (Int32.ofInt x).toInt8.toInt32.toInt = (Int32.ofInt x).toInt8.toInt := Int8.toInt_toInt32 _
        rw [e1]
        have a1 := (Int32.ofInt x).toInt8.le_toInt
        have a2 := (Int32.ofInt x).toInt8.toInt_lt
        constructor <;> omega
      · rw [if_neg hj]; exact q3 j
  · intro hn hm H locs ρ ls hR hL hl hlen hoL hoS hE
    have hi : sI i := hoS _ (List.mem_cons_of_mem _ List.mem_cons_self)
    have ha := (sOK_A (by omega)).mp (hoS _ (List.mem_cons_of_mem _ (List.mem_cons_of_mem _ List.mem_cons_self)))
    have hG : G a = (5, nn.toNat, 0) := ha.2
    have hcell := hR.2.2.2.2.1 a
    rw [hG] at hcell
    obtain ⟨cA, q1, q2, q3⟩ := hcell
    have hane := sG_ne hG (by simp)
    have h7 : (G a).1 ≠ 7 := by rw [hG]; simp
    rw [List.map_cons, List.map_cons, List.map_cons, sEnc_A sa ρ (by omega)]
    refine W.zast hx hb q2 ((q1.2 0 _ rfl).1 _ _) (fun q => by cases q) (by rw [arrV_size]; exact sIn hi h0 h1 rfl) rfl rfl (sCode_dec hcode) fun H' g1 g2 g3 => ?_
    refine k hn hm H' _ ρ ls (hR.write hane h7 g2 g3 (fun a' j hne => by unfold sUpd; rw [if_neg (fun q => hne q.1)]) ?_) (sLocs hR hL hane h7) hl hlen hoL (sMemT (sMemT (sMemT hoS))) hE
    rw [hG]
    refine ⟨cA, q1, ?_, fun j => ?_⟩
    · have e1 : narrow .boolean (.int (Int32.ofInt x)) = .int (Int32.ofInt x) := by
        rcases h2 with rfl | rfl <;> rfl
      rw [g1, sIx hi, e1, arrV_store]
      congr 2
      funext j
      unfold updV sUpd
      by_cases hj : j = i.toNat
      · rw [if_pos hj, if_pos ⟨rfl, hj⟩]
      · rw [if_neg hj, if_neg (c := a = a ∧ j = i.toNat) (fun q => hj q.2)]
    · unfold sUpd
      by_cases hj : a = a ∧ j = i.toNat
      · rw [if_pos hj]; exact h2
      · rw [if_neg hj]; exact q3 j
theorem sim_aastore (C : sCx p R s m meth c D sa kk d) (hcode : sCode kk pc = some (.aastore, len)) (h : sStep kk call ret (sX p l e R s m args below meth c D sa b ρ0 G0 ex kk Qf) .aastore len pc L S M G n mm) : sX p l e R s m args below meth c D sa b ρ0 G0 ex kk Qf pc L S M G n mm := by
  obtain ⟨hx, hb, -, -, hK, -⟩ := C
  obtain ⟨rfl, cc, a, nn, i, bb, v, S', rfl, hv, hb0, h0, h1, k⟩ := h
  intro hn hm H locs ρ ls hR hL hl hlen hoL hoS hE
  have hi : sI i := hoS _ (List.mem_cons_of_mem _ List.mem_cons_self)
  have ha := sOK_B.mp (hoS _ (List.mem_cons_of_mem _ (List.mem_cons_of_mem _ List.mem_cons_self)))
  have hG := ha.2.2
  have hvo : G bb = (1, cc, sFul cc) ∧ sEnc sa ρ v = .ref (ρ bb) := by
    have h2 : sObj cc bb v := by
      rcases hv with rfl | rfl
      · exact Or.inl rfl
      · exact Or.inr (Or.inl ⟨rfl, hb0⟩)
    have := sObj_at ha.1 h2 (hoS _ List.mem_cons_self)
    exact ⟨this.2.1, this.2.2 sa ρ⟩
  have hcell := hR.2.2.2.2.1 a
  rw [hG] at hcell
  obtain ⟨cA, r, hr, q1, q2, q3⟩ := hcell
  have hcb := hR.2.2.2.2.1 bb
  rw [hvo.1] at hcb
  obtain ⟨r', hr', ⟨cellV, g1, g2, g3, -⟩, -, -⟩ := hcb
  cases hr.symm.trans hr'
  have hcls := (hK.1.1 cc r hr).2
  obtain ⟨kA, comp, k1, k2, k3, -⟩ := (q1.2 0 _ rfl).2
  have hcomp : comp = D.1 cc := Option.some.inj (k3.symm.trans hcls.1)
  subst hcomp
  obtain ⟨kC, hkC, -⟩ := hcls.2
  have hane := sG_ne hG (by simp)
  have h7 : (G a).1 ≠ 7 := by rw [hG]; simp
  rw [List.map_cons, List.map_cons, List.map_cons, sEnc_B sa ρ, hvo.2]
  refine W.aast hx hb q2 (fun q h => by cases h) (fun q => by cases q) k1 k2 rfl hkC ⟨sNn hi h0, by rw [arrV_size, sIx hi]; omega⟩ g1 (fun q h => by rw [g3] at h; cases h) (by rw [g2]; exact hkC) (by rw [g2]; exact va_asg _ _) rfl rfl (sCode_dec hcode) fun H' e1 e2 e3 => ?_
  refine k hn hm H' _ ρ ls (hR.write hane h7 e2 e3 (fun a' j hne => by unfold sUpd; rw [if_neg (fun q => hne q.1)]) ?_) (sLocs hR hL hane h7) hl hlen hoL (sMemT (sMemT (sMemT hoS))) hE
  rw [hG]
  refine ⟨cA, r, hr, q1, ?_, fun j => ?_⟩
  · rw [e1, arrV_store, sIx hi]
    congr 2
    funext j
    unfold updV sUpd
    by_cases hj : j = i.toNat
    · rw [if_pos hj, if_pos (c := a = a ∧ j = i.toNat) ⟨rfl, hj⟩, if_neg (by omega)]; rfl
    · rw [if_neg hj, if_neg (c := a = a ∧ j = i.toNat) (fun q => hj q.2)]
  · unfold sUpd
    by_cases hj : a = a ∧ j = i.toNat
    · rw [if_pos hj]; exact ⟨by omega, Or.inr hvo.1⟩
    · rw [if_neg hj]; exact q3 j
/-- what holds of all that was there when something new is made -/
theorem sMade {G : sG} {H : Heap} {ρ : Nat → Nat} {a : Nat} {q : Nat × Nat × Nat} (ha : G a = (0, 0, 0)) (hq : q.1 ≠ 0) (hE : sExt ρ0 G0 ex ρ G) :
    (∀ x, G x ≠ (0, 0, 0) → (fun x => if x = a then H.size else ρ x) x = ρ x) ∧ (∀ v, sOK G v → sOK (sGs G a q) v) ∧ sExt ρ0 G0 ex (fun x => if x = a then H.size else ρ x) (sGs G a q) := by
  have hne : ∀ x, G x ≠ (0, 0, 0) → x ≠ a := fun x hx e => hx (by rw [e]; exact ha)
  have hGn : ∀ x, x ≠ a → sGs G a q x = G x := fun x e => by unfold sGs; rw [if_neg e]
  refine ⟨fun x hx => by simp only [if_neg (hne x hx)], fun v hv => sOK_to hv (fun h => hGn _ (hne _ h)), fun x hx => ?_, fun x hx hxe h8 => ?_, fun x hx => ?_⟩
  · simp only [if_neg (hne x (hE.2.2 x hx))]; exact hE.1 x hx
  · rw [hGn x (hne x (hE.2.2 x hx))]; exact hE.2.1 x hx hxe h8
  · rw [hGn x (hne x (hE.2.2 x hx))]; exact hE.2.2 x hx
end Sim5
