/-! The texts: length and charAt. The JDK's own methods by contract. -/
theorem wJsI : Cond.initialized "java/lang/String" ∈ lw_tbl := mT1 (List.mem_of_getElem? (i := 14) (by decide +kernel))
theorem wJlI : Cond.initialized "java/lang/StringLatin1" ∈ lw_tbl := mT1 (List.mem_of_getElem? (i := 15) (by decide +kernel))
theorem wJpI : Cond.initialized "jdk/internal/util/Preconditions" ∈ lw_tbl := mT1 (List.mem_of_getElem? (i := 16) (by decide +kernel))
abbrev jLen : MethodName := ⟨"java/lang/String", "length", "()I"⟩
abbrev jCod : MethodName := ⟨"java/lang/String", "coder", "()B"⟩
abbrev jChr : MethodName := ⟨"java/lang/String", "charAt", "(I)C"⟩
abbrev jIsL : MethodName := ⟨"java/lang/String", "isLatin1", "()Z"⟩
abbrev jLat : MethodName := ⟨"java/lang/StringLatin1", "charAt", "([BI)C"⟩
abbrev jSck : MethodName := ⟨"java/lang/String", "checkIndex", "(II)V"⟩
abbrev jPck : MethodName := ⟨"jdk/internal/util/Preconditions", "checkIndex", "(IILjava/util/function/BiFunction;)I"⟩
def jM (y : MethodName) (bs : ByteArray) (nL : Nat) (rt : Option FieldType) (np : Nat) : Prop := Cond.code y bs nL rt ∈ lw_tbl ∧ Cond.initialized y.cls ∈ lw_tbl ∧ plainName y.cls = true ∧ nL ≤ 3 ∧ (y.cls ≠ "java/lang/invoke/MethodHandle" ∧ y.cls ≠ "java/lang/invoke/VarHandle") ∧ (parseMethodDescriptor y.desc).map (fun d => d.parameters.length) = some np
theorem wC_jLen : Cond.code jLen prog_18_method_54_code 1 (some .int) ∈ lw_tbl := mT3 (List.mem_of_getElem? (i := 32) (by rfl))
theorem wM_jLen : jM jLen prog_18_method_54_code 1 (some .int) 0 := ⟨wC_jLen, wJsI, by decide +kernel, by decide, ⟨by decide, by decide⟩, by decide +kernel⟩
theorem wC_jCod : Cond.code jCod prog_18_method_152_code 1 (some .byte) ∈ lw_tbl := mT3 (List.mem_of_getElem? (i := 36) (by rfl))
theorem wM_jCod : jM jCod prog_18_method_152_code 1 (some .byte) 0 := ⟨wC_jCod, wJsI, by decide +kernel, by decide, ⟨by decide, by decide⟩, by decide +kernel⟩
theorem wC_jChr : Cond.code jChr prog_18_method_56_code 2 (some .char) ∈ lw_tbl := mT3 (List.mem_of_getElem? (i := 42) (by rfl))
theorem wM_jChr : jM jChr prog_18_method_56_code 2 (some .char) 1 := ⟨wC_jChr, wJsI, by decide +kernel, by decide, ⟨by decide, by decide⟩, by decide +kernel⟩
theorem wC_jIsL : Cond.code jIsL prog_18_method_154_code 1 (some .boolean) ∈ lw_tbl := mT3 (List.mem_of_getElem? (i := 46) (by rfl))
theorem wM_jIsL : jM jIsL prog_18_method_154_code 1 (some .boolean) 0 := ⟨wC_jIsL, wJsI, by decide +kernel, by decide, ⟨by decide, by decide⟩, by decide +kernel⟩
theorem wC_jLat : Cond.code jLat prog_19_method_2_code 2 (some .char) ∈ lw_tbl := mT3 (List.mem_of_getElem? (i := 49) (by rfl))
theorem wM_jLat : jM jLat prog_19_method_2_code 2 (some .char) 2 := ⟨wC_jLat, wJlI, by decide +kernel, by decide, ⟨by decide, by decide⟩, by decide +kernel⟩
theorem wC_jSck : Cond.code jSck prog_18_method_155_code 2 none ∈ lw_tbl := mT3 (List.mem_of_getElem? (i := 52) (by rfl))
theorem wM_jSck : jM jSck prog_18_method_155_code 2 none 2 := ⟨wC_jSck, wJsI, by decide +kernel, by decide, ⟨by decide, by decide⟩, by decide +kernel⟩
theorem wC_jPck : Cond.code jPck prog_23_method_11_code 3 (some .int) ∈ lw_tbl := mT3 (List.mem_of_getElem? (i := 57) (by rfl))
theorem wM_jPck : jM jPck prog_23_method_11_code 3 (some .int) 3 := ⟨wC_jPck, wJpI, by decide +kernel, by decide, ⟨by decide, by decide⟩, by decide +kernel⟩
theorem wN_jLen : Cond.instanceMethod jLen ∈ lw_tbl := mT3 (List.mem_of_getElem? (i := 30) (by decide +kernel))
theorem wE_jLen : Cond.selects "java/lang/String" jLen jLen ∈ lw_tbl := mT3 (List.mem_of_getElem? (i := 31) (by decide +kernel))
theorem wN_jCod : Cond.instanceMethod jCod ∈ lw_tbl := mT3 (List.mem_of_getElem? (i := 34) (by decide +kernel))
theorem wE_jCod : Cond.selects "java/lang/String" jCod jCod ∈ lw_tbl := mT3 (List.mem_of_getElem? (i := 35) (by decide +kernel))
theorem wN_jChr : Cond.instanceMethod jChr ∈ lw_tbl := mT3 (List.mem_of_getElem? (i := 40) (by decide +kernel))
theorem wE_jChr : Cond.selects "java/lang/String" jChr jChr ∈ lw_tbl := mT3 (List.mem_of_getElem? (i := 41) (by decide +kernel))
theorem wN_jIsL : Cond.instanceMethod jIsL ∈ lw_tbl := mT3 (List.mem_of_getElem? (i := 44) (by decide +kernel))
theorem wE_jIsL : Cond.selects "java/lang/String" jIsL jIsL ∈ lw_tbl := mT3 (List.mem_of_getElem? (i := 45) (by decide +kernel))
theorem wT_jLat : Cond.static jLat ∈ lw_tbl := mT3 (List.mem_of_getElem? (i := 48) (by decide +kernel))
theorem wT_jSck : Cond.static jSck ∈ lw_tbl := mT3 (List.mem_of_getElem? (i := 51) (by decide +kernel))
theorem wT_jPck : Cond.static jPck ∈ lw_tbl := mT3 (List.mem_of_getElem? (i := 56) (by decide +kernel))
theorem wL_cod : Cond.methodLink "java/lang/String" 335 jCod ∈ lw_tbl := mT3 (List.mem_of_getElem? (i := 33) (by decide +kernel))
theorem wL_isL : Cond.methodLink "java/lang/String" 492 jIsL ∈ lw_tbl := mT3 (List.mem_of_getElem? (i := 43) (by decide +kernel))
theorem wL_lat : Cond.methodLink "java/lang/String" 495 jLat ∈ lw_tbl := mT3 (List.mem_of_getElem? (i := 47) (by decide +kernel))
theorem wL_sck : Cond.methodLink "java/lang/StringLatin1" 9 jSck ∈ lw_tbl := mT3 (List.mem_of_getElem? (i := 50) (by decide +kernel))
theorem wL_pck : Cond.methodLink "java/lang/String" 1059 jPck ∈ lw_tbl := mT3 (List.mem_of_getElem? (i := 55) (by decide +kernel))
theorem wF_cs : Cond.fieldLink "java/lang/String" 38 "java/lang/String" "COMPACT_STRINGS" "Z" ∈ lw_tbl := mT3 (List.mem_of_getElem? (i := 37) (by decide +kernel))
theorem wF_pf : Cond.fieldLink "java/lang/String" 1053 "jdk/internal/util/Preconditions" "SIOOBE_FORMATTER" "Ljava/util/function/BiFunction;" ∈ lw_tbl := mT3 (List.mem_of_getElem? (i := 53) (by decide +kernel))
theorem wF_val : Cond.fieldLink "java/lang/String" 9 "java/lang/String" "value" "[B" ∈ lw_tbl := mT8 (List.mem_of_getElem? (i := 136) (by decide +kernel))
theorem wF_cod : Cond.fieldLink "java/lang/String" 15 "java/lang/String" "coder" "B" ∈ lw_tbl := mT8 (List.mem_of_getElem? (i := 137) (by decide +kernel))
def jS (sa : Nat → Nat) (b j v : Nat) (U : State) (H : Heap) : Prop := sStr1 sa b j v U H ∧ sStJ b U H
theorem jS.moved {sa : Nat → Nat} {b j v : Nat} {U U' : State} {H : Heap} (hvm : U.vm.Alike U'.vm) (h : jS sa b j v U H) : jS sa b j v U' H := ⟨h.1.moved hvm, h.2.moved hvm⟩
def jP (D : va_G) (sa : Nat → Nat) (b j v : Nat) (A : List Value) : Array Value → State → Prop := fun a U => a = A.toArray ∧ sKn D sa U ∧ jS sa b j v U U.heap
def jQ (v0 : Option Value) : Array Value → State → Outcome → State → Prop := fun _ st o t => o = .returned v0 ∧ t.heap = st.heap
abbrev jRm (f : Nat) : Room := { frames := f, cells := 0, slots := 0, locals := 24 * f }
theorem jP_blind {D : va_G} {sa : Nat → Nat} {b j v : Nat} {A : List Value} : FrameBlind (jP D sa b j v A) := fun a U g mk h => ⟨h.1, h.2.1.warm (U := U.calling g mk a) (State.WarmedH.refl U), h.2.2.moved (U' := U.calling g mk a) (Vm.Alike.refl U.vm)⟩
theorem chr_and : ∀ j, j < 21 → ∀ i, i < sLen j → Int32.ofInt (sChr j i) &&& 255 = Int32.ofInt (sChr j i) := by decide +kernel
theorem len_sm : ∀ j, j < 21 → sLen j < 20 := by decide +kernel
section J
variable {p : Program} {l : Launch} {e : Env} {R : Room} {s : State} {m : MethodId} {args : Array Value} {below : List Frame} {meth : Method} {c : Code} {H : Heap} {locs : List Loc} {cells slots : Nat} {Q : State → Prop} {D : va_G} {sa : Nat → Nat} {b j v : Nat}
variable {cc : ByteArray} {pc : Nat} {ls : Array Slot} {rest As : List Value} {own : String} {x nLc f np nL : Nat} {y : MethodName} {bs : ByteArray} {rt : Option FieldType} {v0 : Option Value}
theorem j_cw (hK : sKn D sa s) (hm : jM y bs nL rt np) (hfr : f + 1 ≤ R.frames) (hlo : 24 * (f + 1) ≤ R.locals) : ((jRm f).cells = 0 ∧ (jRm f).slots = 0 ∧ (jRm f).frames + 1 ≤ R.frames ∧ 8 + (nL + 11) + (jRm f).locals ≤ R.locals ∧ (∀ w ∈ [Cond.code y bs nL rt], ∀ (a' : Array Value) (U : State), s.WarmedH U.vm → w.before a' U = true) ∧ Cond.code y bs nL rt ∈ [Cond.code y bs nL rt]) ∧
  (Cond.code y bs nL rt).before args s = true ∧ (Cond.initialized y.cls).before args s = true ∧ (y.cls ≠ "java/lang/invoke/MethodHandle" ∧ y.cls ≠ "java/lang/invoke/VarHandle") ∧ (∀ sig, parseMethodDescriptor y.desc = some sig → np = sig.parameters.length) := by
  obtain ⟨h1, h2, h3, h4, h5, h6⟩ := hm
  refine ⟨⟨rfl, rfl, hfr, by show 8 + (nL + 11) + 24 * f ≤ R.locals; omega, fun w hw a' U hW => ?_, List.mem_singleton.mpr rfl⟩, hK.word h1 rfl rfl _, hK.word h2 rfl rfl _, h5, fun sig hs => ?_⟩
  · rw [List.mem_singleton.mp hw]
    exact (hK.warm hW).word h1 rfl rfl a'
  · rw [hs] at h6
    simpa using h6.symm
theorem j_back {mq : Array Value} {st : List Value} (hrun : va_Run p l e R s m args below meth c H locs cells slots 0 0 (F0 m pc ls st) rest (jQ v0 mq) (fun _ => False)) (kk : W p l e R s m args below meth c H locs cells slots Q (F0 m (pc + 3) ls (v0.toList ++ rest))) : W p l e R s m args below meth c H locs cells slots Q (F0 m pc ls st) := by
  intro T hT X
  obtain ⟨v, st₀, t, T', L, h0, X', hL, e1, e2, ⟨hv, hh⟩, go⟩ := hrun T hT X
  have hLn : L = [] := by
    cases L with
    | nil => rfl
    | cons q _ => exact (hL q List.mem_cons_self).elim
  subst hLn
  cases hv
  obtain ⟨t2, a1, b1⟩ := kk T' (by rw [e1, hh, h0]) (by simpa using X')
  exact ⟨t2, go t2 a1, b1⟩
theorem j_virt (hx : p.tables.exec = Jvm.exec) (hb : c.code = cc) (hml : c.maxLocals = nLc) (hown : s.vm.findClass own = some m.cls) (hK : sKn D sa s) (hs : jS sa b j v s H) (hcls : y.cls = "java/lang/String") (hM : Met l y [Cond.code y bs nL rt] (jRm f) (jP D sa b j v (.ref (sa j) :: As)) (jQ v0) 0 0 (fun _ => False)) (hm : jM y bs nL rt np) (hin : Cond.instanceMethod y ∈ lw_tbl) (hse : Cond.selects y.cls y y ∈ lw_tbl) (hl : Cond.methodLink own x y ∈ lw_tbl) (hn : As.length = np) (hsz : ls.size = nLc) (hcs : (rest.map fun v => v.category).sum ≤ 8) (hfr : f + 1 ≤ R.frames) (hlo : 24 * (f + 1) ≤ R.locals) (hdg : decode cc pc = .ok (.invokevirtual x, 3)) (hcl : cells ≤ R.cells ∧ slots ≤ R.slots)
    (kk : W p l e R s m args below meth c H locs cells slots Q (F0 m (pc + 3) ls (v0.toList ++ rest))) : W p l e R s m args below meth c H locs cells slots Q (F0 m pc ls (As.reverse ++ .ref (sa j) :: rest)) := by
  obtain ⟨w1, w2, w3, w4, w5⟩ := j_cw (args := args) hK hm hfr hlo
  obtain ⟨cell, q1, q2, q3, -⟩ := hs.1.1
  have hpre : PreV s H y.cls (sa j) (jP D sa b j v (.ref (sa j) :: As)) As := ⟨jP_blind, ⟨cell, q1, q2, by rw [hcls]; exact q3⟩, fun U hU hW => ⟨rfl, hK.warm hW, by rw [hU]; exact hs.moved hW.alike⟩⟩
  have hfix : CallFix p m c cc nLc s args [] own := ⟨hx, hb, hml, hown, fun w hw => absurd hw List.not_mem_nil⟩
  have hcs' : 2 * (F0 m pc ls (As.reverse ++ .ref (sa j) :: rest)).monitorRoom + (rest.map fun v => v.category).sum ≤ 8 := by show 2 * 0 + _ ≤ 8; omega
  exact j_back (va_runV (n := np) (C := y.cls) hfix hM ⟨⟨w1.1, w1.2.1, w1.2.2.1, w1.2.2.2.1, w1.2.2.2.2.1, w1.2.2.2.2.2, w2, w3, w4, w5, hK.word hl rfl rfl args⟩, hK.word hin rfl rfl args, hK.word hse rfl rfl args⟩ hpre rfl hn hsz rfl hcs' hdg hcl) kk
theorem j_stat (hx : p.tables.exec = Jvm.exec) (hb : c.code = cc) (hml : c.maxLocals = nLc) (hown : s.vm.findClass own = some m.cls) (hK : sKn D sa s) (hs : jS sa b j v s H) (hM : Met l y [Cond.code y bs nL rt] (jRm f) (jP D sa b j v As) (jQ v0) 0 0 (fun _ => False)) (hm : jM y bs nL rt np) (hst : Cond.static y ∈ lw_tbl) (hl : Cond.methodLink own x y ∈ lw_tbl) (hn : As.length = np) (hsz : ls.size = nLc) (hcs : (rest.map fun v => v.category).sum ≤ 8) (hfr : f + 1 ≤ R.frames) (hlo : 24 * (f + 1) ≤ R.locals) (hdg : decode cc pc = .ok (.invokestatic x, 3)) (hcl : cells ≤ R.cells ∧ slots ≤ R.slots)
    (kk : W p l e R s m args below meth c H locs cells slots Q (F0 m (pc + 3) ls (v0.toList ++ rest))) : W p l e R s m args below meth c H locs cells slots Q (F0 m pc ls (As.reverse ++ rest)) := by
  obtain ⟨w1, w2, w3, w4, w5⟩ := j_cw (args := args) hK hm hfr hlo
  have hpre : PreS s H (jP D sa b j v As) As := ⟨jP_blind, fun U hU hW => ⟨rfl, hK.warm hW, by rw [hU]; exact hs.moved hW.alike⟩⟩
  have hfix : CallFix p m c cc nLc s args [] own := ⟨hx, hb, hml, hown, fun w hw => absurd hw List.not_mem_nil⟩
  have hcs' : 2 * (F0 m pc ls (As.reverse ++ rest)).monitorRoom + (rest.map fun v => v.category).sum ≤ 8 := by show 2 * 0 + _ ≤ 8; omega
  exact j_back (va_runS (n := np) hfix hM ⟨⟨w1.1, w1.2.1, w1.2.2.1, w1.2.2.2.1, w1.2.2.2.2.1, w1.2.2.2.2.2, w2, w3, w4, w5, hK.word hl rfl rfl args⟩, hK.word hst rfl rfl args⟩ hpre rfl hn hsz rfl hcs' hdg hcl) kk
end J
section J2
variable {l : Launch} {D : va_G} {sa : Nat → Nat} {b j v : Nat}
theorem m_pck {i n : Int32} {u : Value} (hu : u = .null ∨ ∃ t, u = .ref t) (h0 : ¬ i < 0) (h1 : i < n) : Met l jPck [Cond.code jPck prog_23_method_11_code 3 (some .int)] (jRm 0) (jP D sa b j v [.int i, .int n, u]) (jQ (some (.int i))) 0 0 (fun _ => False) := by
  refine Met.ofW (cc := prog_23_method_11_code) (maxL := 3) (ret := some .int) (by decide +kernel) rfl ?_
  intro p e s m args below meth c s₁ B hml hP
  obtain ⟨rfl, hK, hs⟩ := hP
  have hx := B.exec
  have hb := B.bytes
  have hlen : (lg_sl [.int i, .int n, u]).length ≤ 3 := by
    rcases hu with rfl | ⟨t, rfl⟩ <;> exact Nat.le_refl 3
  have hl := lv_entry [.int i, .int n, u] (n := 3) hlen
  rw [lg_entry_eq]
  generalize (lg_sl [Value.int i, Value.int n, u] ++ List.replicate (3 - (lg_sl [Value.int i, Value.int n, u]).length) Slot.unset).toArray = ls at hl ⊢
  refine lv_iload_n hx hb (show decode prog_23_method_11_code 0 = .ok (.iload_n 0, 1) by decide +kernel) (i := 0) rfl (lv_at hl 0 rfl) ?_
  refine lv_if_lt hx hb (tgt := 9) (show decode prog_23_method_11_code 1 = .ok (.ifCond .lt 8, 3) by decide +kernel) rfl (fun q => absurd q h0) (fun _ => ?_)
  refine lv_iload_n hx hb (show decode prog_23_method_11_code 4 = .ok (.iload_n 0, 1) by decide +kernel) (i := 0) rfl (lv_at hl 0 rfl) ?_
  refine lv_iload_n hx hb (show decode prog_23_method_11_code 5 = .ok (.iload_n 1, 1) by decide +kernel) (i := 1) rfl (lv_at hl 1 rfl) ?_
  refine lv_icmp_lt hx hb (tgt := 16) (show decode prog_23_method_11_code 6 = .ok (.if_icmp .lt 10, 3) by decide +kernel) rfl (fun _ => ?_) (fun q => absurd h1 q)
  refine lv_iload_n hx hb (show decode prog_23_method_11_code 16 = .ok (.iload_n 0, 1) by decide +kernel) (i := 0) rfl (lv_at hl 0 rfl) ?_
  exact W.iret hx hb B.returns (fun t ht _ => ⟨rfl, ht⟩) (fun q hq => absurd hq List.not_mem_nil) (show decode prog_23_method_11_code 17 = .ok (.ireturn, 1) by decide +kernel) B.notSynchronized
theorem m_sck {i n : Int32} (h0 : ¬ i < 0) (h1 : i < n) : Met l jSck [Cond.code jSck prog_18_method_155_code 2 none] (jRm 1) (jP D sa b j v [.int i, .int n]) (jQ none) 0 0 (fun _ => False) := by
  refine Met.ofW (cc := prog_18_method_155_code) (maxL := 2) (ret := none) (by decide +kernel) rfl ?_
  intro p e s m args below meth c s₁ B hml hP
  obtain ⟨rfl, hK, hs⟩ := hP
  have hx := B.exec
  have hb := B.bytes
  have hown : s.vm.findClass "java/lang/String" = some m.cls := findClass_of_methodNamed B.named
  have hl := lv_entry [.int i, .int n] (n := 2) (Nat.le_refl 2)
  rw [lg_entry_eq]
  generalize (lg_sl [Value.int i, Value.int n] ++ List.replicate (2 - (lg_sl [Value.int i, Value.int n]).length) Slot.unset).toArray = ls at hl ⊢
  have go : ∀ u : Value, (u = .null ∨ ∃ t, u = .ref t) → va_Z "jdk/internal/util/Preconditions" "SIOOBE_FORMATTER" "Ljava/util/function/BiFunction;" u (fun q => b ≤ q) s s.heap → W p l e (headSpec [Cond.code jSck prog_18_method_155_code 2 none] (jRm 1)).room s m ([Value.int i, Value.int n].toArray) below meth c s.heap [] 0 0 (MQ below (jQ none) ([Value.int i, Value.int n].toArray) s 0 0 (fun _ => False)) (F0 m 0 ls []) := fun u hu hZ => by
    refine lv_iload_n hx hb (show decode prog_18_method_155_code 0 = .ok (.iload_n 0, 1) by decide +kernel) (i := 0) rfl (lv_at hl 0 rfl) ?_
    refine lv_iload_n hx hb (show decode prog_18_method_155_code 1 = .ok (.iload_n 1, 1) by decide +kernel) (i := 1) rfl (lv_at hl 1 rfl) ?_
    refine va_gets hx hb hZ va_S.rf hown (hK.word wF_pf rfl rfl _) (fun _ h => h) (show decode prog_18_method_155_code 2 = .ok (.getstatic 1053, 3) by decide +kernel) ?_
    refine j_stat (As := [.int i, .int n, u]) (rest := []) hx hb hml hown hK hs (m_pck hu h0 h1) wM_jPck wT_jPck wL_pck rfl hl.1 (by decide) (by decide) (by decide) (show decode prog_18_method_155_code 5 = .ok (.invokestatic 1059, 3) by decide +kernel) ⟨Nat.le_refl _, Nat.le_refl _⟩ ?_
    refine lv_pop hx hb (show decode prog_18_method_155_code 8 = .ok (.pop, 1) by decide +kernel) rfl ?_
    exact W.vret hx hb B.returns (fun t ht _ => ⟨rfl, ht⟩) (fun q hq => absurd hq List.not_mem_nil) (show decode prog_18_method_155_code 9 = .ok (.return_, 1) by decide +kernel) B.notSynchronized
  rcases hs.2.2 with hZ | ⟨t, hZ⟩
  · exact go _ (Or.inl rfl) hZ
  · exact go _ (Or.inr ⟨t, rfl⟩) hZ
theorem m_cod : Met l jCod [Cond.code jCod prog_18_method_152_code 1 (some .byte)] (jRm 0) (jP D sa b j v [.ref (sa j)]) (jQ (some (.int 0))) 0 0 (fun _ => False) := by
  refine Met.ofW (cc := prog_18_method_152_code) (maxL := 1) (ret := some .byte) (by decide +kernel) rfl ?_
  intro p e s m args below meth c s₁ B hml hP
  obtain ⟨rfl, hK, hs⟩ := hP
  have hx := B.exec
  have hb := B.bytes
  have hown : s.vm.findClass "java/lang/String" = some m.cls := findClass_of_methodNamed B.named
  have hl := lv_entry [.ref (sa j)] (n := 1) (Nat.le_refl 1)
  rw [lg_entry_eq]
  generalize (lg_sl [Value.ref (sa j)] ++ List.replicate (1 - (lg_sl [Value.ref (sa j)]).length) Slot.unset).toArray = ls at hl ⊢
  refine va_gets hx hb hs.2.1 va_S.rf hown (hK.word wF_cs rfl rfl _) (fun _ h => h) (show decode prog_18_method_152_code 0 = .ok (.getstatic 38, 3) by decide +kernel) ?_
  refine lv_if_eq hx hb (tgt := 13) (show decode prog_18_method_152_code 3 = .ok (.ifCond .eq 10, 3) by decide +kernel) rfl (fun q => absurd q (by decide)) (fun _ => ?_)
  refine lv_aload_n hx hb (show decode prog_18_method_152_code 6 = .ok (.aload_n 0, 1) by decide +kernel) (i := 0) rfl (lv_at hl 0 rfl) ?_
  refine vk_getf hx hb hs.1.2.1 va_S.rf hown (hK.word wF_cod rfl rfl _) (fun _ h => h) (show decode prog_18_method_152_code 7 = .ok (.getfield 15, 3) by decide +kernel) ?_
  refine lv_goto hx hb (tgt := 14) (show decode prog_18_method_152_code 10 = .ok (.goto 4, 3) by decide +kernel) rfl ?_
  exact W.zret hx hb B.returns (by decide +kernel) (fun t ht _ => ⟨rfl, ht⟩) (fun q hq => absurd hq List.not_mem_nil) (show decode prog_18_method_152_code 14 = .ok (.ireturn, 1) by decide +kernel) B.notSynchronized
theorem m_isL : Met l jIsL [Cond.code jIsL prog_18_method_154_code 1 (some .boolean)] (jRm 0) (jP D sa b j v [.ref (sa j)]) (jQ (some (.int 1))) 0 0 (fun _ => False) := by
  refine Met.ofW (cc := prog_18_method_154_code) (maxL := 1) (ret := some .boolean) (by decide +kernel) rfl ?_
  intro p e s m args below meth c s₁ B hml hP
  obtain ⟨rfl, hK, hs⟩ := hP
  have hx := B.exec
  have hb := B.bytes
  have hown : s.vm.findClass "java/lang/String" = some m.cls := findClass_of_methodNamed B.named
  have hl := lv_entry [.ref (sa j)] (n := 1) (Nat.le_refl 1)
  rw [lg_entry_eq]
  generalize (lg_sl [Value.ref (sa j)] ++ List.replicate (1 - (lg_sl [Value.ref (sa j)]).length) Slot.unset).toArray = ls at hl ⊢
  refine va_gets hx hb hs.2.1 va_S.rf hown (hK.word wF_cs rfl rfl _) (fun _ h => h) (show decode prog_18_method_154_code 0 = .ok (.getstatic 38, 3) by decide +kernel) ?_
  refine lv_if_eq hx hb (tgt := 17) (show decode prog_18_method_154_code 3 = .ok (.ifCond .eq 14, 3) by decide +kernel) rfl (fun q => absurd q (by decide)) (fun _ => ?_)
  refine lv_aload_n hx hb (show decode prog_18_method_154_code 6 = .ok (.aload_n 0, 1) by decide +kernel) (i := 0) rfl (lv_at hl 0 rfl) ?_
  refine vk_getf hx hb hs.1.2.1 va_S.rf hown (hK.word wF_cod rfl rfl _) (fun _ h => h) (show decode prog_18_method_154_code 7 = .ok (.getfield 15, 3) by decide +kernel) ?_
  refine lv_if_ne hx hb (tgt := 17) (show decode prog_18_method_154_code 10 = .ok (.ifCond .ne 7, 3) by decide +kernel) rfl (fun q => absurd rfl q) (fun _ => ?_)
  refine lv_iconst hx hb (show decode prog_18_method_154_code 13 = .ok (.iconst 1, 1) by decide +kernel) (v := 1) (by decide) ?_
  refine lv_goto hx hb (tgt := 18) (show decode prog_18_method_154_code 14 = .ok (.goto 4, 3) by decide +kernel) rfl ?_
  exact W.zret hx hb B.returns (by decide +kernel) (fun t ht _ => ⟨rfl, ht⟩) (fun q hq => absurd hq List.not_mem_nil) (show decode prog_18_method_154_code 18 = .ok (.ireturn, 1) by decide +kernel) B.notSynchronized
theorem len_shr : ∀ j, j < 21 → Int32.ofNat (sLen j) >>> ((0 : Int32) &&& 31) = Int32.ofInt ((sLen j : Nat) : Int) := by decide +kernel
theorem m_len (hj : j < 21) : Met l jLen [Cond.code jLen prog_18_method_54_code 1 (some .int)] (jRm 1) (jP D sa b j v [.ref (sa j)]) (jQ (some (.int (Int32.ofInt ((sLen j : Nat) : Int))))) 0 0 (fun _ => False) := by
  refine Met.ofW (cc := prog_18_method_54_code) (maxL := 1) (ret := some .int) (by decide +kernel) rfl ?_
  intro p e s m args below meth c s₁ B hml hP
  obtain ⟨rfl, hK, hs⟩ := hP
  have hx := B.exec
  have hb := B.bytes
  have hown : s.vm.findClass "java/lang/String" = some m.cls := findClass_of_methodNamed B.named
  have hl := lv_entry [.ref (sa j)] (n := 1) (Nat.le_refl 1)
  rw [lg_entry_eq]
  generalize (lg_sl [Value.ref (sa j)] ++ List.replicate (1 - (lg_sl [Value.ref (sa j)]).length) Slot.unset).toArray = ls at hl ⊢
  refine lv_aload_n hx hb (show decode prog_18_method_54_code 0 = .ok (.aload_n 0, 1) by decide +kernel) (i := 0) rfl (lv_at hl 0 rfl) ?_
  refine vk_getf hx hb hs.1.2.2.1 va_S.rf hown (hK.word wF_val rfl rfl _) (fun _ h => h) (show decode prog_18_method_54_code 1 = .ok (.getfield 9, 3) by decide +kernel) ?_
  refine va_tlen hx hb hs.1.2.2.2 va_S.rf (v := Int32.ofNat (sLen j)) rfl (show decode prog_18_method_54_code 4 = .ok (.arraylength, 1) by decide +kernel) ?_
  refine lv_aload_n hx hb (show decode prog_18_method_54_code 5 = .ok (.aload_n 0, 1) by decide +kernel) (i := 0) rfl (lv_at hl 0 rfl) ?_
  refine j_virt (As := []) (rest := [.int (Int32.ofNat (sLen j))]) hx hb hml hown hK hs rfl m_cod wM_jCod wN_jCod wE_jCod wL_cod rfl hl.1 (Nat.le_of_ble_eq_true rfl) (by decide) (by decide) (show decode prog_18_method_54_code 6 = .ok (.invokevirtual 335, 3) by decide +kernel) ⟨Nat.le_refl _, Nat.le_refl _⟩ ?_
  refine lv_ishr hx hb (show decode prog_18_method_54_code 9 = .ok (.ishr, 1) by decide +kernel) ?_
  rw [len_shr j hj]
  exact W.iret hx hb B.returns (fun t ht _ => ⟨rfl, ht⟩) (fun q hq => absurd hq List.not_mem_nil) (show decode prog_18_method_54_code 10 = .ok (.ireturn, 1) by decide +kernel) B.notSynchronized
theorem ix_ok {i : Nat} (hj : j < 21) (hi : i < sLen j) : (Int32.ofNat i).toNatClampNeg = i ∧ ¬ Int32.ofNat i < 0 ∧ Int32.ofNat i < Int32.ofNat (sLen j) := by
  have h : ∀ n, n < 20 → ∀ i, i < n → (Int32.ofNat i).toNatClampNeg = i ∧ ¬ Int32.ofNat i < 0 ∧ Int32.ofNat i < Int32.ofNat n := by decide +kernel
  exact h _ (len_sm j hj) _ hi
theorem m_lat {i : Nat} (hj : j < 21) (hi : i < sLen j) : Met l jLat [Cond.code jLat prog_19_method_2_code 2 (some .char)] (jRm 2) (jP D sa b j v [.ref v, .int (Int32.ofNat i)]) (jQ (some (.int (Int32.ofInt (sChr j i))))) 0 0 (fun _ => False) := by
  obtain ⟨i1, i2, i3⟩ := ix_ok hj hi
  refine Met.ofW (cc := prog_19_method_2_code) (maxL := 2) (ret := some .char) (by decide +kernel) rfl ?_
  intro p e s m args below meth c s₁ B hml hP
  obtain ⟨rfl, hK, hs⟩ := hP
  have hx := B.exec
  have hb := B.bytes
  have hown : s.vm.findClass "java/lang/StringLatin1" = some m.cls := findClass_of_methodNamed B.named
  have hl := lv_entry [.ref v, .int (Int32.ofNat i)] (n := 2) (Nat.le_refl 2)
  rw [lg_entry_eq]
  generalize (lg_sl [Value.ref v, Value.int (Int32.ofNat i)] ++ List.replicate (2 - (lg_sl [Value.ref v, Value.int (Int32.ofNat i)]).length) Slot.unset).toArray = ls at hl ⊢
  refine lv_iload_n hx hb (show decode prog_19_method_2_code 0 = .ok (.iload_n 1, 1) by decide +kernel) (i := 1) rfl (lv_at hl 1 rfl) ?_
  refine lv_aload_n hx hb (show decode prog_19_method_2_code 1 = .ok (.aload_n 0, 1) by decide +kernel) (i := 0) rfl (lv_at hl 0 rfl) ?_
  refine va_tlen hx hb hs.1.2.2.2 va_S.rf (v := Int32.ofNat (sLen j)) rfl (show decode prog_19_method_2_code 2 = .ok (.arraylength, 1) by decide +kernel) ?_
  refine j_stat (As := [.int (Int32.ofNat i), .int (Int32.ofNat (sLen j))]) (rest := []) hx hb hml hown hK hs (m_sck i2 i3) wM_jSck wT_jSck wL_sck rfl hl.1 (by decide) (by decide) (by decide) (show decode prog_19_method_2_code 3 = .ok (.invokestatic 9, 3) by decide +kernel) ⟨Nat.le_refl _, Nat.le_refl _⟩ ?_
  refine lv_aload_n hx hb (show decode prog_19_method_2_code 6 = .ok (.aload_n 0, 1) by decide +kernel) (i := 0) rfl (lv_at hl 0 rfl) ?_
  refine lv_iload_n hx hb (show decode prog_19_method_2_code 7 = .ok (.iload_n 1, 1) by decide +kernel) (i := 1) rfl (lv_at hl 1 rfl) ?_
  refine va_tb hx hb hs.1.2.2.2 va_S.rf (v := .int (Int32.ofInt (sChr j i))) (fun q => by
    rcases q with q | q
    · exact i2 q
    · omega) (by rw [i1]) (show decode prog_19_method_2_code 8 = .ok (.baload, 1) by decide +kernel) ?_
  refine lv_sipush hx hb (show decode prog_19_method_2_code 9 = .ok (.sipush 255, 3) by decide +kernel) (v := 255) (by decide +kernel) ?_
  refine lv_iand hx hb (show decode prog_19_method_2_code 12 = .ok (.iand, 1) by decide +kernel) ?_
  refine lv_i2c hx hb (v := Int32.ofInt (sChr j i)) (show decode prog_19_method_2_code 13 = .ok (.i2c, 1) by decide +kernel) (by rw [sc_c2, chr_and j hj i hi]) ?_
  exact W.zret hx hb B.returns (by rw [← chr_and j hj i hi]; exact sc_nar _) (fun t ht _ => ⟨rfl, ht⟩) (fun q hq => absurd hq List.not_mem_nil) (show decode prog_19_method_2_code 14 = .ok (.ireturn, 1) by decide +kernel) B.notSynchronized
theorem m_chr {i : Nat} (hj : j < 21) (hi : i < sLen j) : Met l jChr [Cond.code jChr prog_18_method_56_code 2 (some .char)] (jRm 3) (jP D sa b j v [.ref (sa j), .int (Int32.ofNat i)]) (jQ (some (.int (Int32.ofInt (sChr j i))))) 0 0 (fun _ => False) := by
  refine Met.ofW (cc := prog_18_method_56_code) (maxL := 2) (ret := some .char) (by decide +kernel) rfl ?_
  intro p e s m args below meth c s₁ B hml hP
  obtain ⟨rfl, hK, hs⟩ := hP
  have hx := B.exec
  have hb := B.bytes
  have hown : s.vm.findClass "java/lang/String" = some m.cls := findClass_of_methodNamed B.named
  have hl := lv_entry [.ref (sa j), .int (Int32.ofNat i)] (n := 2) (Nat.le_refl 2)
  rw [lg_entry_eq]
  generalize (lg_sl [Value.ref (sa j), Value.int (Int32.ofNat i)] ++ List.replicate (2 - (lg_sl [Value.ref (sa j), Value.int (Int32.ofNat i)]).length) Slot.unset).toArray = ls at hl ⊢
  refine lv_aload_n hx hb (show decode prog_18_method_56_code 0 = .ok (.aload_n 0, 1) by decide +kernel) (i := 0) rfl (lv_at hl 0 rfl) ?_
  refine j_virt (As := []) (rest := []) hx hb hml hown hK hs rfl m_isL wM_jIsL wN_jIsL wE_jIsL wL_isL rfl hl.1 (by decide) (by decide) (by decide) (show decode prog_18_method_56_code 1 = .ok (.invokevirtual 492, 3) by decide +kernel) ⟨Nat.le_refl _, Nat.le_refl _⟩ ?_
  refine lv_if_eq hx hb (tgt := 16) (show decode prog_18_method_56_code 4 = .ok (.ifCond .eq 12, 3) by decide +kernel) rfl (fun q => absurd q (by decide)) (fun _ => ?_)
  refine lv_aload_n hx hb (show decode prog_18_method_56_code 7 = .ok (.aload_n 0, 1) by decide +kernel) (i := 0) rfl (lv_at hl 0 rfl) ?_
  refine vk_getf hx hb hs.1.2.2.1 va_S.rf hown (hK.word wF_val rfl rfl _) (fun _ h => h) (show decode prog_18_method_56_code 8 = .ok (.getfield 9, 3) by decide +kernel) ?_
  refine lv_iload_n hx hb (show decode prog_18_method_56_code 11 = .ok (.iload_n 1, 1) by decide +kernel) (i := 1) rfl (lv_at hl 1 rfl) ?_
  refine j_stat (As := [.ref v, .int (Int32.ofNat i)]) (rest := []) hx hb hml hown hK hs (m_lat hj hi) wM_jLat wT_jLat wL_lat rfl hl.1 (by decide) (by decide) (by decide) (show decode prog_18_method_56_code 12 = .ok (.invokestatic 495, 3) by decide +kernel) ⟨Nat.le_refl _, Nat.le_refl _⟩ ?_
  exact W.zret hx hb B.returns (by rw [← chr_and j hj i hi]; exact sc_nar _) (fun t ht _ => ⟨rfl, ht⟩) (fun q hq => absurd hq List.not_mem_nil) (show decode prog_18_method_56_code 15 = .ok (.ireturn, 1) by decide +kernel) B.notSynchronized
end J2
section Sim12
variable {p : Program} {l : Launch} {e : Env} {R : Room} {s : State} {m : MethodId} {args : Array Value} {below : List Frame} {meth : Method} {c : Code} {D : va_G} {sa : Nat → Nat} {b : Nat} {ρ0 : Nat → Nat} {G0 : sG} {ex kk : Nat} {Qf : State → Prop}
variable {ret : Option sV → sM → sG → Nat → Nat → Prop} {len pc : Nat} {L S : List sV} {M : sM} {G : sG} {n mm d : Nat}
theorem sim_strlen {x j : Nat} {rest : List sV} (C : sCx p R s m meth c D sa kk d) (hcode : sCode kk pc = some (.invokevirtual x, 3)) (hk : sMR (sKo kk).1 x = some 1004) (hj : j < 21) (hr : sCats rest ≤ 8)
    (k : sX p l e R s m args below meth c D sa b ρ0 G0 ex kk Qf (pc + 3) L (vI (sLen j) :: rest) M G n mm) : sX p l e R s m args below meth c D sa b ρ0 G0 ex kk Qf pc L (vS j :: rest) M G n mm := by
  obtain ⟨hx, hb, hml, ⟨O, ho, hown⟩, hK, hfr, hlo, -, hrc, hrs⟩ := C
  obtain ⟨O', y, ho', hy, -, hl'⟩ := tabM hk
  cases ho.symm.trans ho'
  cases hy
  have hlk : Cond.methodLink O x jLen ∈ lw_tbl := by
    rcases hl' with ⟨h1, -⟩ | h1
    · omega
    · exact h1
  have hsm := len_sm j hj
  intro hn hm H locs ρ ls hR hL hl hlen hoL hoS hE
  obtain ⟨v, hv⟩ := hR.2.2.2.2.2.1 j hj
  have := k hn hm H locs ρ ls hR hL hl hlen hoL (sMem1 (show sI (sLen j) from ⟨by omega, by omega⟩) (sMemT hoS)) hE
  rw [List.map_cons, sEnc_I] at this
  rw [List.map_cons, sEnc_S]
  exact j_virt (As := []) (rest := rest.map (sEnc sa ρ)) hx hb hml hown hK ⟨hv, hR.2.2.2.2.2.2⟩ rfl (m_len hj) wM_jLen wN_jLen wE_jLen hlk rfl (by rw [hl.1, hlen.1]) (by rw [sCats_eq]; exact hr) (by omega) (by omega) (sCode_dec hcode) ⟨hn, hm⟩ this
theorem sim_charAt {x j : Nat} {i : Int} {rest : List sV} (C : sCx p R s m meth c D sa kk d) (hcode : sCode kk pc = some (.invokevirtual x, 3)) (hk : sMR (sKo kk).1 x = some 1005) (hj : j < 21) (h0 : 0 ≤ i) (h1 : i < sLen j) (hr : sCats rest ≤ 8)
    (k : sX p l e R s m args below meth c D sa b ρ0 G0 ex kk Qf (pc + 3) L (vI (sChr j i.toNat) :: rest) M G n mm) : sX p l e R s m args below meth c D sa b ρ0 G0 ex kk Qf pc L (vI i :: vS j :: rest) M G n mm := by
  obtain ⟨hx, hb, hml, ⟨O, ho, hown⟩, hK, hfr, hlo, -, hrc, hrs⟩ := C
  obtain ⟨O', y, ho', hy, -, hl'⟩ := tabM hk
  cases ho.symm.trans ho'
  cases hy
  have hlk : Cond.methodLink O x jChr ∈ lw_tbl := by
    rcases hl' with ⟨h1, -⟩ | h1
    · omega
    · exact h1
  have hsm := len_sm j hj
  obtain ⟨q, rfl⟩ : ∃ q : Nat, i = (q : Int) := ⟨i.toNat, by omega⟩
  have hq : q < sLen j := by omega
  intro hn hm H locs ρ ls hR hL hl hlen hoL hoS hE
  obtain ⟨v, hv⟩ := hR.2.2.2.2.2.1 j hj
  have hch : ∀ j, j < 21 → ∀ i, i < sLen j → 0 ≤ sChr j i ∧ sChr j i < 128 := by decide +kernel
  have hc := hch j hj q hq
  have := k hn hm H locs ρ ls hR hL hl hlen hoL (sMem1 (show sI (sChr j q) from ⟨by omega, by omega⟩) (sMemT (sMemT hoS))) hE
  rw [List.map_cons, sEnc_I] at this
  rw [List.map_cons, List.map_cons, sEnc_S, sEnc_I]
  exact j_virt (As := [.int (Int32.ofNat q)]) (rest := rest.map (sEnc sa ρ)) hx hb hml hown hK ⟨hv, hR.2.2.2.2.2.2⟩ rfl (m_chr hj hq) wM_jChr wN_jChr wE_jChr hlk rfl (by rw [hl.1, hlen.1]) (by rw [sCats_eq]; exact hr) (by omega) (by omega) (sCode_dec hcode) ⟨hn, hm⟩ this
end Sim12
