/-! THE CLAIM OUT OF ONE WALK OF THE LAW'S BODY. Your part is whole_start (and what it stands on); all else here is the same for every law, but numbers. -/
def R_law : String := "AfterTheLastLaw"
def lw_P (b : Addr) (xs : List Int32) (args : Array Value) (s : State) : Prop := args = #[.ref b] ∧ s.IntsAt b xs ∧ xs.length ≤ 3584 ∧ (Jvm.Cond.and given_1 narrow_1).before args s = true
def lw_Q (_ : Array Value) (s : State) (o : Outcome) (t : State) : Prop := o = .returned (some (.int 1)) ∧ Framed s o t [] 600000 7302250
def lw_Z (below : List Frame) (a : Array Value) (s : State) : State → Prop := fun t => ∃ o, t.status = .running ∧ Ended t below o ∧ lw_Q a s o t
/-- the law's own end, with 1 on the stack, nothing written that was there before, its room as the claim has it -/
theorem lw_ret {p : Program} {l : Launch} {e : Env} {s : State} {m : MethodId} {below : List Frame} {meth : Method} {c : Code} {b : Nat} (hx : p.tables.exec = Jvm.exec) (hb : c.code = code) (hr : meth.sig.returnType = ret) (hlocks : meth.locks = false) {pc : Nat} {H : Heap} {ls : Array Slot} (hdg : decode code pc = .ok (.ireturn, 1)) : W p l e room_1 s m #[Value.ref b] below meth c H [] 600000 7302250 (lw_Z below #[Value.ref b] s) (F0 m pc ls [.int 1]) := by
  intro T hT X
  obtain ⟨fs, hret, hrun, hended, hW, hframe⟩ := X.leave (v := some (.int 1)) (hlocks := hlocks) (fun h => by rw [hr] at h; cases h)
  have hmeth' : T.vm.method? m = some meth := X.method'
  refine ⟨T.setFrames fs, ?_, .returned (some (.int 1)), hrun, hended, rfl, ⟨_, rfl⟩, hW, hframe⟩
  jvm_step X.here [X.here.top, hx, hb, hdg, hmeth', hr, ret, narrow_b1]
  (try refine ⟨rfl, ?_⟩); (try refine ⟨rfl, ?_⟩)
  first | (intro acts; rw [hret _ acts rfl rfl rfl]) | rw [hret _ _ rfl rfl rfl]
  exact Steps.refl _
/-- what holds at the law's entry: the machine, the code, the tables' words (any of lw_tbl by 'hts w (by decide +kernel)'), the script of L ints xs at the cell b, what the Statement gives of the start (any of its parts by flat_of_before) -/
def lw_At (p : Program) (s : State) (m : MethodId) (meth : Method) (c : Code) (b L : Nat) (xs : Nat → Int32) : Prop :=
  p.tables.exec = Jvm.exec ∧ c.code = code ∧ meth.sig.returnType = ret ∧ c.maxLocals = 4 ∧ s.vm.findClass R_law = some m.cls ∧ (∀ w ∈ lw_tbl, w.before #[Value.ref b] s = true) ∧ va_X b L xs s s.heap ∧ b < s.heap.size ∧ meth.locks = false ∧ (Jvm.Cond.and given_1 narrow_1).before #[Value.ref b] s = true
def sTm (j : Nat) : Term := match sStrL.getD j (0, 0, 0) with
  | (o, x, _) => Term.string (sOwn.getD o "") x
abbrev sNw : List Cond := flatC (Jvm.Cond.and given_1 narrow_1)
theorem nw_ex : ∀ j, j < 21 → Cond.exactly (sTm j) "java/lang/String" ∈ sNw := by decide +kernel
theorem nw_co : ∀ j, j < 21 → Cond.eq (.field (sTm j) "java/lang/String" "coder" "B") (.int 0) ∈ sNw := by decide +kernel
theorem nw_ar : ∀ j, j < 21 → Cond.arrayOf (.field (sTm j) "java/lang/String" "value" "[B") .byte ∈ sNw := by decide +kernel
theorem nw_le : ∀ j, j < 21 → Cond.eq (.length (.field (sTm j) "java/lang/String" "value" "[B")) (.int (Int32.ofNat (sLen j))) ∈ sNw := by decide +kernel
theorem nw_el : ∀ j, j < 21 → ∀ i, i < sLen j → Cond.eq (.elem (.field (sTm j) "java/lang/String" "value" "[B") (.int (Int32.ofNat i))) (.int (Int32.ofInt (sChr j i))) ∈ sNw := by decide +kernel
theorem nw_cs : Cond.eq (.static "java/lang/String" "COMPACT_STRINGS" "Z") (.int 1) ∈ sNw := by decide +kernel
theorem nw_pf : Cond.isRef (.static "jdk/internal/util/Preconditions" "SIOOBE_FORMATTER" "Ljava/util/function/BiFunction;") ∈ sNw := by decide +kernel
theorem wLay1 : Cond.laysStatic "java/lang/String" "COMPACT_STRINGS" "Z" ∈ lw_tbl := mT3 (List.mem_of_getElem? (i := 38) (by decide +kernel))
theorem wLay2 : Cond.laysStatic "jdk/internal/util/Preconditions" "SIOOBE_FORMATTER" "Ljava/util/function/BiFunction;" ∈ lw_tbl := mT3 (List.mem_of_getElem? (i := 54) (by decide +kernel))
theorem sTm_ok : ∀ q ∈ sStrL, Term.string (sOwn.getD q.1 "") q.2.1 = sTm q.2.2 := by decide +kernel
def sAr (w : Cond) : Bool := match w with
  | .arrayClass _ => true
  | .arrayOver _ => true
  | _ => false
theorem sAr_free {w : Cond} (hw : sAr w = true) {A : Array Value} {U : State} (h : w.before A U = true) : w.before #[] U = true := by
  unfold sAr at hw
  split at hw
  · exact h
  · exact h
  · cases hw
set_option maxRecDepth 100000 in
theorem sRide_tab : ∀ w ∈ lw_tbl, (w.onTables || sAr w || !sRide w) = true := by decide +kernel
/-- the texts at the start -/
theorem strs_start {args : Array Value} {s : State} (hs : ∀ w ∈ sNw, w.before args s = true) (hts : ∀ w ∈ lw_tbl, w.before args s = true) : ∃ sa : Nat → Nat, (∀ j, j < 21 → (sTm j).eval args s none [] s = some (.ref (sa j))) ∧ sStrs sa s.heap.size s s.heap := by
  have hA : ∀ a : Nat, a < s.heap.size → ¬ (fun q : Nat => s.heap.size ≤ q) a := fun a h => Nat.not_le.mpr h
  have h0 : ∀ j : Nat, ∃ q : Nat, j < 21 → (sTm j).eval args s none [] s = some (.ref q) ∧ ∃ v, va_O "java/lang/String" q (fun q => s.heap.size ≤ q) s s.heap ∧ va_OF "java/lang/String" "coder" "B" (.int 0) q (fun q => s.heap.size ≤ q) s s.heap ∧ va_OF "java/lang/String" "value" "[B" (.ref v) q (fun q => s.heap.size ≤ q) s s.heap ∧ va_T .byte v (sLen j) (fun i => .int (Int32.ofInt (sChr j i))) (fun q => s.heap.size ≤ q) s s.heap := by
    intro j
    by_cases hj : j < 21
    · obtain ⟨a, c, cA, kA, q1, q2, q3, q4, q5, q6, -⟩ := Cond.exactly_spec (args := args) (first := s) (o := none) (s := s) (idx := []) (t := sTm j) (cls := "java/lang/String") (hs _ (nw_ex j hj))
      have hsm := len_sm j hj
      obtain ⟨t, ht, hT⟩ := va_Tof (f := fun i => .int (Int32.ofInt (sChr j i))) (A := fun q => s.heap.size ≤ q) (N := sLen j) (by omega) (hs _ (nw_ar j hj)) (va_eqt (hs _ (nw_le j hj))) (fun i hi => va_eqt (hs _ (nw_el j hj i hi))) hA
      exact ⟨a, fun _ => ⟨q1, t, ⟨cA, q3, q5, by rw [q6]; exact q2, hA a (Array.getElem?_eq_some_iff.mp q3).1⟩, vk_OFof q1 (va_eqt (hs _ (nw_co j hj))) hA, vk_OFof q1 ht hA, hT⟩⟩
    · exact ⟨0, fun h => absurd h hj⟩
  obtain ⟨sa, hsa⟩ := Classical.axiomOfChoice h0
  refine ⟨sa, fun j hj => (hsa j hj).1, fun j hj => (hsa j hj).2, ?_, ?_⟩
  · exact va_Zof (hts _ wLay1) (hts _ wJsI) (va_eqt (hs _ nw_cs)) hA
  · exact va_Zqof (hts _ wLay2) (hts _ wJpI) (hs _ nw_pf) hA
theorem kn_start {b : Nat} {s : State} {sa : Nat → Nat} (hts : ∀ w ∈ lw_tbl, w.before #[Value.ref b] s = true) (hsa : ∀ j, j < 21 → (sTm j).eval #[Value.ref b] s none [] s = some (.ref (sa j))) : ∃ D : va_G, sKn D sa s := by
  have h0 : ∀ c : Nat, ∃ p : ClassId × (Nat → Nat), ∀ q : vw_C, sCl[c]? = some q → u_Kn s q.1 q.2.1 q.2.2 p.1 p.2 := by
    intro c
    cases hq : sCl[c]? with
    | none => exact ⟨(default, fun _ => 0), fun q z => by cases z⟩
    | some r =>
      obtain ⟨h1, h2, -⟩ := tabL hq
      obtain ⟨cC, iS, hk⟩ := u_known (C := r.1) (T := r.2.1) (N := r.2.2) (n := r.2.2) hts h1 (hts _ h2)
      exact ⟨(cC, iS), fun q z => by cases z; exact hk⟩
  obtain ⟨f, hf⟩ := Classical.axiomOfChoice h0
  refine ⟨(fun c => (f c).1, fun c => (f c).2), ⟨fun c q hq => hf c q hq, fun k q h => by simp at h⟩, fun w hw hr => ?_, fun o x j O t h1 h2 h3 => ?_⟩
  · have := sRide_tab w hw
    rw [hr, Bool.or_eq_true, Bool.or_eq_true] at this
    rcases this with (ho | ho) | ho
    · exact va_Nw.of ho (hts w hw)
    · exact sAr_free ho (hts w hw)
    · cases ho
  · obtain ⟨O', t', g1, g2, g3, g4⟩ := tabS h1
    cases h2.symm.trans g1
    cases h3.symm.trans g2
    have hm := sTm_ok _ (sFind h1)
    have e1 : sOwn.getD o "" = O := by rw [List.getD_eq_getElem?_getD, h2]; rfl
    have e2 : Term.string O x = sTm j := by rw [← e1]; exact hm
    exact vk_R.of (hts _ g4) (by rw [e2]; exact hsa j g3)
section Law
variable {p : Program} {l : Launch} {e : Env} {R : Room} {s : State} {m : MethodId} {args : Array Value} {below : List Frame} {meth : Method} {c : Code} {D : va_G} {sa : Nat → Nat} {Qf : State → Prop} {b N : Nat} {xs : Nat → Int32} {pc n mm d : Nat} {L S : List sV} {M : sM} {G : sG}
theorem sX_scr (hX0 : va_X b N xs s s.heap) (hbl : b < s.heap.size) (h : (∀ j, j < N → M 108 j = (xs j).toInt) → sX p l e R s m args below meth c D sa s.heap.size (fun _ => b) (lG0 N) 0 279 Qf pc L S M G n mm) : sX p l e R s m args below meth c D sa s.heap.size (fun _ => b) (lG0 N) 0 279 Qf pc L S M G n mm := by
  intro hn hm H locs ρ ls hR hL hl hlen hoL hoS hE T hT X
  refine h (fun j hj => ?_) hn hm H locs ρ ls hR hL hl hlen hoL hoS hE T hT X
  have g108 : lG0 N 108 = (7, N, 0) := if_pos rfl
  have gne : lG0 N 108 ≠ (0, 0, 0) := sG_ne g108 (by decide)
  have hG : G 108 = (7, N, 0) := (hE.2.1 108 gne (by decide) (by rw [g108]; exact fun z => absurd z (by decide : ¬ (7 : Nat) = 8))).trans g108
  have hρ : ρ 108 = b := hE.1 108 gne
  have hc := hR.2.2.2.2.1 108
  rw [hG] at hc
  obtain ⟨⟨cell, q1, -, -, -, q5⟩, q6⟩ := hc
  obtain ⟨c0, p1, -, -, p4, p5⟩ := hX0
  obtain ⟨c1, r1, -, -, r4⟩ := X.same.2.2.2.2.2 b c0 p1
  have r1' : H[b]? = some c1 := by rw [← hT]; exact r1
  rw [hρ, r1'] at q1
  have e0 : c1 = cell := Option.some.inj q1
  have e1 := q5 j hj
  have e2 := r4 j (fun z => absurd (hL _ z) (Nat.not_le.mpr hbl))
  have e3 := p5 j hj
  rw [← e0, e2, e3] at e1
  have e4 : xs j = Int32.ofInt (M 108 j) := Value.int.inj (Option.some.inj e1)
  rw [e4]
  exact (sI_of (q6 j)).symm
theorem lC_conv {scr : Nat → Int} {ret : Option sV → sM → sG → Nat → Nat → Prop} {X : sKont} (hX : ∀ pc L S M G n m, ((∀ j, j < N → M 108 j = scr j) → X pc L S M G n m) → X pc L S M G n m) {i : Instr} {len : Nat} (h : sStep 279 (lC d N scr) ret X i len pc L S M G n mm) : sStep 279 (sC d) ret X i len pc L S M G n mm := by
  cases i <;> first | exact h | skip
  case invokestatic =>
    obtain ⟨a, k, b, ⟨A, rest, c1, c2, c3, c4, c5, n1, n2, n3, c5', c6⟩ | r⟩ := h
    · exact ⟨a, k, b, Or.inl ⟨A, rest, c1, c2, c3, c4, c5, n1, n2, n3, c5', sC_mono d _ _ _ _ _ _ (fun r M' G' z => hX _ _ _ _ _ _ _ (fun y => z (Or.inr y))) c6⟩⟩
    · exact ⟨a, k, b, Or.inr r⟩
  case invokevirtual =>
    obtain ⟨a, k, b, ⟨A, v, c, x, rest, c1, c2, c2', c3, c4, c5, c6, c7, n1, n2, n3, c7', c8⟩ | r⟩ := h
    · exact ⟨a, k, b, Or.inl ⟨A, v, c, x, rest, c1, c2, c2', c3, c4, c5, c6, c7, n1, n2, n3, c7', sC_mono d _ _ _ _ _ _ (fun r M' G' z => hX _ _ _ _ _ _ _ (fun y => z (Or.inr y))) c8⟩⟩
    · exact ⟨a, k, b, Or.inr r⟩
  case invokespecial =>
    obtain ⟨a, k, b, r | ⟨A, c, x, rest, c1, c2, c3, c4, c5, c6, c7, c8, c9, n3, c9', c10⟩⟩ := h
    · exact ⟨a, k, b, Or.inl r⟩
    · exact ⟨a, k, b, Or.inr ⟨A, c, x, rest, c1, c2, c3, c4, c5, c6, c7, c8, c9, n3, c9', sC_mono d _ _ _ _ _ _ (fun r M' G' z => z (Or.inl c3)) c10⟩⟩
end Law
theorem sBy_law : sBy 279 = code := rfl
theorem sKo_law : sKo 279 = (13, 1, 2, 600000, 7302250) := by decide +kernel
/-- the law's ends -/
theorem law_ret {p : Program} {l : Launch} {e : Env} {s : State} {m : MethodId} {below : List Frame} {meth : Method} {c : Code} {D : va_G} {sa : Nat → Nat} {b : Nat} {ρ0 : Nat → Nat} {G0 : sG} {call : sCall} (hx : p.tables.exec = Jvm.exec) (hb : c.code = code) (hr : meth.sig.returnType = ret) (hlocks : meth.locks = false) {i : Instr} (hi : i = .ireturn ∨ i = .lreturn ∨ i = .areturn ∨ i = .return_) {len pc : Nat} {L S : List sV} {M : sM} {G : sG} {n mm : Nat} (hcode : sCode 279 pc = some (i, len))
    (h : sStep 279 call (sEnd 279 QL1) (sX p l e room_1 s m #[Value.ref b] below meth c D sa s.heap.size ρ0 G0 0 279 (lw_Z below #[Value.ref b] s)) i len pc L S M G n mm) : sX p l e room_1 s m #[Value.ref b] below meth c D sa s.heap.size ρ0 G0 0 279 (lw_Z below #[Value.ref b] s) pc L S M G n mm := by
  have hdec := sCode_dec hcode
  rw [sBy_law] at hdec
  intro hn hmm H locs ρ ls hR hL hl hlen hoL hoS hE
  rcases hi with rfl | rfl | rfl | rfl
  · obtain ⟨rfl, x, rfl, hk, e1, e2, y, e3, e4⟩ := h
    rw [sKo_law] at e1 e2
    have e5 : x = 1 := by
      have e6 := Option.some.inj e3
      have e7 : x = y := congrArg (fun v : sV => v.2.2) e6
      rw [e7]; exact e4
    subst e5
    refine W.widen e1 e2 (va_forget hL ?_)
    exact lw_ret hx hb hr hlocks hdec
  · obtain ⟨rfl, x, rfl, hk, e1, e2, y, e3, e4⟩ := h
    exact absurd (show (1 : Nat) = 0 from congrArg (fun v : sV => v.1) (Option.some.inj e3)) (by decide)
  · obtain ⟨rfl, v, w, hw, hk, h3, h4, e1, e2, y, e3, e4⟩ := h
    have e6 : w.1 = 0 := congrArg (fun v : sV => v.1) (Option.some.inj e3)
    rcases hw with ⟨-, rfl | ⟨c', a', hc', rfl, rfl⟩⟩
    · omega
    · simp only [vQ] at e6; omega
  · obtain ⟨rfl, rfl, hk, e1, e2, y, e3, e4⟩ := h
    cases e3
set_option maxHeartbeats 4000000 in
theorem whole_start {p : Program} {e : Env} {s : State} {m : MethodId} {below : List Frame} {meth : Method} {c : Code} (l : Launch) (hflags : l.flags = flags0) {b L : Nat} {xs : Nat → Int32} (hL : L ≤ 3584) (C0 : lw_At p s m meth c b L xs) : W p l e room_1 s m #[Value.ref b] below meth c s.heap [] 0 0 (lw_Z below #[Value.ref b] s) (entryFrame m ([Value.ref b] : List Value).toArray 4) := by
  obtain ⟨hx, hb, hr, hml, hown, hts, hX, hbl, hlocks, hgv⟩ := id C0
  have hs := flat_of_before _ hgv
  obtain ⟨sa, hsa, hst⟩ := strs_start hs hts
  obtain ⟨D, hKn⟩ := kn_start hts hsa
  have hko := sKo_law
  have hl0 : sMaxL 279 = 4 := by decide +kernel
  have C : sCx p room_1 s m meth c D sa 279 110 := ⟨hx, by rw [sBy_law]; exact hb, by rw [hl0]; exact hml, ⟨R_law, by rw [hko]; decide +kernel, hown⟩, hKn, by decide, by decide, fun z => absurd z (by decide +kernel), by rw [hko]; exact Nat.le_refl _, by rw [hko]; exact Nat.le_refl _⟩
  have g108 : lG0 L 108 = (7, L, 0) := if_pos rfl
  have g0 : ∀ a, a ≠ 108 → lG0 L a = (0, 0, 0) := fun a ha => if_neg ha
  have hsI : ∀ j, sI (xs j).toInt := fun j => sI_to (xs j)
  have hR : sHR D sa s.heap.size (fun _ => b) (lM0 (fun j => (xs j).toInt)) (lG0 L) s s.heap := by
    refine ⟨g0 0 (by decide), Nat.le_refl _, fun a ha => ?_, fun a a' ha ha' _ => ?_, fun a => ?_, hst⟩
    · by_cases e : a = 108
      · rw [e, g108]
        exact ⟨hbl, fun z => absurd rfl z, fun _ => hbl⟩
      · exact absurd (g0 a e) ha
    · by_cases e : a = 108
      · by_cases e' : a' = 108
        · rw [e, e']
        · exact absurd (g0 a' e') ha'
      · exact absurd (g0 a e) ha
    · by_cases e : a = 108
      · rw [e, g108]
        have e1 : (fun j => Int32.ofInt (lM0 (fun j => (xs j).toInt) 108 j)) = xs := by
          funext j
          have : lM0 (fun j => (xs j).toInt) 108 j = (xs j).toInt := if_pos rfl
          rw [this, Int32.ofInt_toInt]
        refine ⟨?_, fun j => ?_⟩
        · rw [e1]; exact hX
        · have : lM0 (fun j => (xs j).toInt) 108 j = (xs j).toInt := if_pos rfl
          rw [this]; exact hsI j
      · rw [g0 a e]; trivial
  have hA : ∀ v ∈ [vA 4 108 (L : Int)], sOK (lG0 L) v := fun v hv => by
    rw [List.mem_singleton.mp hv]
    exact (sOK_A (by decide)).mpr ⟨by omega, g108⟩
  have hW := law_start (d := 110) (N := L) (scr := fun j => (xs j).toInt) (Nat.le_refl _) hL hsI
  have hK := hW (sX p l e room_1 s m #[Value.ref b] below meth c D sa s.heap.size (fun _ => b) (lG0 L) 0 279 (lw_Z below #[Value.ref b] s))
    ⟨fun pc L' S M G n m' i len hcode hstep => sim_all (sMet_all l D sa s.heap.size 110) C (fun i hi => fun hcode hstep => law_ret hx hb hr hlocks hi hcode hstep) hcode (lC_conv (fun pc L S M G n m => sX_scr hX hbl) hstep), fun pc L S M G n m i hstep => sX_forget hstep⟩
  obtain ⟨hl, hh, ho⟩ := sEntry (sa := sa) (ρ := fun _ => b) (k := 279) (G := lG0 L) (A := [vA 4 108 (L : Int)]) (by rw [hl0]; exact Nat.le_of_ble_eq_true rfl) hA
  have e4 : sEnt (sMaxL 279) [vA 4 108 (L : Int)] = [vA 4 108 (L : Int), vN, vN, vN] := by rw [hl0]; rfl
  have e5 : [vA 4 108 (L : Int)].map (sEnc sa (fun _ => b)) = [Value.ref b] := by
    rw [List.map_cons, sEnc_A sa _ (by decide)]; rfl
  rw [e4, e5, hl0] at hl
  rw [e4] at hh ho
  have := hK (Nat.zero_le _) (Nat.zero_le _) s.heap [] (fun _ => b) _ hR (fun q hq => absurd hq List.not_mem_nil) hl hh ho (fun v hv => absurd hv List.not_mem_nil) ⟨fun _ _ => rfl, fun _ _ _ _ => rfl, fun _ h => h⟩
  rw [lg_entry_eq]
  exact this
-- ===== YOUR PART ENDS =====
set_option maxHeartbeats 4000000 in
theorem lw_walk (l : Launch) (hflags : l.flags = flags0) (b : Addr) (xs : List Int32) : MetFree l x (headSpec (Jvm.Cond.code x code maxLocals ret :: tables_1) room_1) (lw_P b xs) (fun _ _ _ _ _ => True) lw_Q := by
  refine MetFree.of_bodyS (code := code) (maxLocals := maxLocals) (ret := ret) (by decide) ?_ ?_
  · intro args s m h hn
    obtain ⟨meth, c, h1, h2, h3, h4, h5, h6, -, -⟩ := Cond.code_spec hn (atoms_spec (ws := Jvm.Cond.code x code maxLocals ret :: tables_1) h _ List.mem_cons_self)
    exact ⟨meth, c, h1, h2, h3, h4, h5, h6⟩
  · intro p e s m args below meth c s₁ B hml0 hP _
    obtain ⟨rfl, hx, hbd, hgv⟩ := hP
    obtain ⟨scr, harrAt, hlist, hof, hsmall⟩ := hx
    obtain ⟨hcb, hkn, -, -⟩ := State.arrayAt?_spec harrAt
    have hown : s.vm.findClass R_law = some m.cls := findClass_of_methodNamed B.named
    have hts0 : ∀ c ∈ (Jvm.Cond.code x code maxLocals ret :: tables_1), c.before #[Value.ref b] s = true := atoms_spec (ws := Jvm.Cond.code x code maxLocals ret :: tables_1) B.pre
    have hts : ∀ w ∈ lw_tbl, w.before #[Value.ref b] s = true := k2_hts_sels lw_privs (fun w hw => hts0 w (List.mem_cons_of_mem _ hw)) lw_privs_ok
    have hml : c.maxLocals = 4 := B.maxLocals_eq (hts0 _ List.mem_cons_self)
    have X₀ : Stand p l e room_1 s m #[Value.ref b] below meth c s₁ [] 0 0 := Stand.of_body B
    have hh0 : s₁.heap = s.heap := by rw [B.state]; rfl
    have hsz : scr.slots.size = xs.length := by rw [← Array.length_toList, hlist, List.length_map]
    have hval : ∀ j : Nat, j < xs.length → scr.slots[j]? = some (.int (xs.getD j 0)) := fun j hj => by
      rw [← Array.getElem?_toList, hlist]
      simp [hj]
    have hbl : b < s.heap.size := (Array.getElem?_eq_some_iff.mp hcb).1
    have hX : va_X b xs.length (fun j => xs.getD j 0) s s.heap := ⟨scr, hcb, hof, hkn, hsz, hval⟩
    have K : W p l e room_1 s m #[Value.ref b] below meth c s₁.heap [] 0 0 (lw_Z below #[Value.ref b] s) (entryFrame m ([Value.ref b] : List Value).toArray 4) := by
      rw [hh0]
      exact whole_start l hflags hbd ⟨B.exec, B.bytes, B.returns, hml, hown, hts, hX, hbl, B.notSynchronized, hgv⟩
    obtain ⟨t, a1, o, b1, b2, b3⟩ := K s₁ rfl X₀
    exact ⟨t, o, a1, b1, b2, b3⟩
theorem lw_pre_spec {args : Array Value} {s : State} (h : (Jvm.Cond.and given_1 narrow_1).before args s = true) (hr : rest_1_c.before args s = true) : ∃ (b : Addr) (xs : List Int32), lw_P b xs args s := by
  have hs := flat_of_before _ h
  have hq := flat_of_before _ hr
  have hc : (Cond.count 1).before args s = true := hs _ (by decide +kernel)
  have harr : (Cond.arrayOf (.arg 0) .int).before args s = true := hs _ (by decide +kernel)
  have hle : (Cond.le (.length (.arg 0)) (.int 3584)).before args s = true := hs _ (by decide +kernel)
  have hlen : (Cond.isInt (.length (.arg 0))).before args s = true := hq _ (by decide +kernel)
  have hall : (Cond.all (.arg 0) (.isInt (.elem (.arg 0) (.index 0)))).before args s = true := hq _ (by decide +kernel)
  obtain ⟨b, xs, hb, hx⟩ := State.ints_of_pre rfl harr hlen hall
  have hsm : xs.length < 2 ^ 31 := hx.choose_spec.2.2.2
  have hev : (Term.length (.arg 0)).eval args s none [] s = some (.int xs.length.toInt32) := hx.length_eval hb
  have hv := Cond.le_ints hev (show (Term.int 3584).eval args s none [] s = some (.int 3584) from rfl)
  have hd : xs.length.toInt32 ≤ 3584 := by
    simpa [Cond.before, Cond.holds, hv] using hle
  have hN : xs.length ≤ 3584 := (Int32.ofNat_le_ofNat hsm (by decide)).mp (show Int32.ofNat xs.length ≤ Int32.ofNat 3584 from hd)
  exact ⟨b, xs, Cond.one_arg hc (show args[0]? = some (.ref b) from hb), hx, hN, h⟩
theorem lw_comes (l : Launch) (hflags : l.flags = flags0) : Comes l x (Jvm.Cond.code x code maxLocals ret :: tables_1) room_1 (fun tb e args s => Calls_1 tb e args s ∧ rest_1 tb e args s ∧ Pre_1 tb e args s)
    (fun _ _ args s o t => lw_Q args s o t) := by
  intro p e ha hc hk s m args below hf hfit hheap happ hpre
  obtain ⟨b, xs, hP⟩ := lw_pre_spec hpre.2.2 hpre.2.1
  obtain ⟨k, o, h1, h2, h3, hQ⟩ := lw_walk l hflags b xs p e ha hc hk s m args below hf ((Spec.applies_iff_loose hf).mp happ).1 hP trivial
  exact ⟨k, o, h1, h2, h3, hQ⟩
theorem lw_frame {s t : State} {o : Outcome} {args : Array Value} (h : Framed s o t [] 600000 7302250) :
    Framed s o t (fieldLocs frame_1_writes args s ++ arrayLocs frame_1_arrays args s ++ staticLocs frame_1_statics s) 600000 7302250 := h
theorem lw_limb (L : Cond) (hL : ∀ (args : Array Value) (s t : State), L.after args s (.returned (some (.int 1))) t = true) :
    ArmFor flags0 classFile x code maxLocals ret World_1 tables_1 room_1 Calls_1 rest_1 Pre_1
      (fun tb e a s o t => postC L tb e a s o t ∧ Framed s o t (fieldLocs frame_1_writes a s ++ arrayLocs frame_1_arrays a s ++ staticLocs frame_1_statics s) 600000 7302250) := by
  intro l hflags _ _ p e ha hc hk s m args below hf hfit hheap happ hpre
  obtain ⟨k, o, h1, h2, h3, rfl, hF⟩ := lw_comes l hflags p e ha hc hk s m args below hf hfit hheap happ hpre
  exact ⟨k, _, h1, h2, h3, hL args s _, lw_frame hF⟩
theorem i_vc : Claimed_1_1 ∧ Claimed_1_2 := ⟨lw_limb limb_1_1 (fun args s t => by simp [limb_1_1, Cond.after, Cond.holds, Cond.value]), lw_limb limb_1_2 (fun args s t => Cond.after_iff.mpr (by
  first | (rw [show limb_1_2 = Cond.eq .result (.int 1) from rfl, Cond.eq_ints (x := 1) (y := 1) rfl rfl]; simp; done) | (simp [limb_1_2, Cond.value, Term.eval]; done)))⟩
