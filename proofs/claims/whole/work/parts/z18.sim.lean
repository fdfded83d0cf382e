/-! EVERY CALL OF THE SMALL MACHINE IS ONE OF THE MACHINE. -/
section Sim11
variable {p : Program} {l : Launch} {e : Env} {R : Room} {s : State} {m : MethodId} {args : Array Value} {below : List Frame} {meth : Method} {c : Code} {D : va_G} {sa : Nat → Nat} {b : Nat} {ρ0 : Nat → Nat} {G0 : sG} {ex kk : Nat} {Qf : State → Prop}
variable {ret : Option sV → sM → sG → Nat → Nat → Prop} {len pc : Nat} {L S : List sV} {M : sM} {G : sG} {n mm d : Nat}
set_option maxHeartbeats 4000000 in
theorem sim_all {i : Instr} (hMet : sMetD l D sa b d) (C : sCx p R s m meth c D sa kk d) (hret : ∀ i, (i = Instr.ireturn ∨ i = .lreturn ∨ i = .areturn ∨ i = .return_) → ∀ {len pc L S M G n mm}, sCode kk pc = some (i, len) → sStep kk (sC d) ret (sX p l e R s m args below meth c D sa b ρ0 G0 ex kk Qf) i len pc L S M G n mm → sX p l e R s m args below meth c D sa b ρ0 G0 ex kk Qf pc L S M G n mm)
    (hcode : sCode kk pc = some (i, len)) (h : sStep kk (sC d) ret (sX p l e R s m args below meth c D sa b ρ0 G0 ex kk Qf) i len pc L S M G n mm) : sX p l e R s m args below meth c D sa b ρ0 G0 ex kk Qf pc L S M G n mm := by
  cases i <;> first | exact h.elim | skip
  case iconst => exact sim_iconst C hcode h
  case bipush => exact sim_bipush C hcode h
  case sipush => exact sim_sipush C hcode h
  case ldc => exact sim_ldc C hcode h
  case ldc_w => exact sim_ldc_w C hcode h
  case ldc2_w => exact sim_ldc2_w C hcode h
  case lconst => exact sim_lconst C hcode h
  case aconst_null => exact sim_aconst_null C hcode h
  case iload => exact sim_iload C hcode h
  case iload_n => exact sim_iload_n C hcode h
  case lload => exact sim_lload C hcode h
  case lload_n => exact sim_lload_n C hcode h
  case aload => exact sim_aload C hcode h
  case aload_n => exact sim_aload_n C hcode h
  case istore => exact sim_istore C hcode h
  case istore_n => exact sim_istore_n C hcode h
  case lstore => exact sim_lstore C hcode h
  case lstore_n => exact sim_lstore_n C hcode h
  case astore => exact sim_astore C hcode h
  case astore_n => exact sim_astore_n C hcode h
  case iinc => exact sim_iinc C hcode h
  case dup => exact sim_dup C hcode h
  case dup2 => exact sim_dup2 C hcode h
  case pop => exact sim_pop C hcode h
  case iadd => exact sim_iadd C hcode h
  case isub => exact sim_isub C hcode h
  case imul => exact sim_imul C hcode h
  case idiv => exact sim_idiv C hcode h
  case irem => exact sim_irem C hcode h
  case ineg => exact sim_ineg C hcode h
  case ishl => exact sim_ishl C hcode h
  case ishr => exact sim_ishr C hcode h
  case iushr => exact sim_iushr C hcode h
  case iand => exact sim_iand C hcode h
  case ior => exact sim_ior C hcode h
  case ixor => exact sim_ixor C hcode h
  case ladd => exact sim_ladd C hcode h
  case lsub => exact sim_lsub C hcode h
  case lmul => exact sim_lmul C hcode h
  case ldiv => exact sim_ldiv C hcode h
  case lrem => exact sim_lrem C hcode h
  case land => exact sim_land C hcode h
  case lor => exact sim_lor C hcode h
  case lshl => exact sim_lshl C hcode h
  case lcmp => exact sim_lcmp C hcode h
  case i2l => exact sim_i2l C hcode h
  case l2i => exact sim_l2i C hcode h
  case i2b => exact sim_i2b C hcode h
  case ifCond => exact sim_ifCond C hcode h
  case if_icmp => exact sim_if_icmp C hcode h
  case ifnull => exact sim_ifnull C hcode h
  case ifnonnull => exact sim_ifnonnull C hcode h
  case goto => exact sim_goto C hcode h
  case tableswitch => exact sim_tableswitch C hcode h
  case getfield => exact sim_getfield C hcode h
  case putfield => exact sim_putfield C hcode h
  case iaload => exact sim_iaload C hcode h
  case iastore => exact sim_iastore C hcode h
  case laload => exact sim_laload C hcode h
  case lastore => exact sim_lastore C hcode h
  case baload => exact sim_baload C hcode h
  case bastore => exact sim_bastore C hcode h
  case aaload => exact sim_aaload C hcode h
  case aastore => exact sim_aastore C hcode h
  case arraylength => exact sim_arraylength C hcode h
  case new => exact sim_new C hcode h
  case newarray => exact sim_newarray C hcode h
  case anewarray => exact sim_anewarray C hcode h
  case checkcast => exact sim_checkcast C hcode h
  case invokestatic =>
    obtain ⟨rfl, k, hk, ⟨A, rest, c1, c2, rfl, c4, c5, n1, n2, n3, c5', c6⟩ | ⟨u, v, rest, rfl, c2, hc⟩ | ⟨z, dp, a1, n1, sp, a0, n0, rest, rfl, rfl, c3, c4, c5, c6, c7, c8, c9⟩⟩ := h
    · exact sim_static hMet C hcode hk c1 c2 c4 c5 n1 n2 n3 c5' c6
    · exact sim_math C hcode hk c2 hc
    · exact sim_copy C hcode hk c3 c4 c5 c6 c7 c8 c9
  case invokevirtual =>
    obtain ⟨rfl, k, hk, ⟨A, v, c, x, rest, c1, c2, c2', c3, rfl, c5, c6, c7, n1, n2, n3, c7', c8⟩ | ⟨j, rest, rfl, rfl, c3, c4, c5⟩ | ⟨j, i, rest, rfl, rfl, c3, c4, c5, c6, c7⟩ | ⟨x, nn, y, rest, rfl, rfl, c3, c4, c5, c5', c6⟩⟩ := h
    · exact sim_virtual hMet C hcode hk c1 c2 c2' c3 c5 c6 c7 n1 n2 n3 c7' c8
    · exact sim_strlen C hcode hk c3 c4 c5
    · exact sim_charAt C hcode hk c3 c4 c5 c6 c7
    · exact sim_clone C hcode hk c3 c4 c5 c5' c6
  case invokespecial =>
    obtain ⟨rfl, k, hk, ⟨c, x, y, rest, rfl, rfl, c3, c4⟩ | ⟨A, c, x, rest, c1, c2, c2', c3, rfl, c6, c7, n1, n2, n3, c9, c10⟩⟩ := h
    · exact sim_objInit C hcode hk c3 c4
    · exact sim_ctor hMet C hcode hk c1 c2 c2' c3 c6 c7 n1 n2 n3 c9 c10
  case ireturn => exact hret _ (Or.inl rfl) hcode h
  case lreturn => exact hret _ (Or.inr (Or.inl rfl)) hcode h
  case areturn => exact hret _ (Or.inr (Or.inr (Or.inl rfl))) hcode h
  case return_ => exact hret _ (Or.inr (Or.inr (Or.inr rfl))) hcode h
end Sim11
theorem sX_forget {p : Program} {l : Launch} {e : Env} {R : Room} {s : State} {m : MethodId} {args : Array Value} {below : List Frame} {meth : Method} {c : Code} {D : va_G} {sa : Nat → Nat} {b : Nat} {ρ0 : Nat → Nat} {G0 : sG} {ex kk : Nat} {Qf : State → Prop} {pc : Nat} {L S : List sV} {M : sM} {G : sG} {n mm i : Nat} (h : sX p l e R s m args below meth c D sa b ρ0 G0 ex kk Qf pc (L.set i vN) S M G n mm) : sX p l e R s m args below meth c D sa b ρ0 G0 ex kk Qf pc L S M G n mm := by
  intro hn hm H locs ρ ls hR hL hl hlen hoL hoS hE
  refine h hn hm H locs ρ ls hR hL ⟨by simpa using hl.1, hl.2.1, fun j v hv h2 => ?_⟩ (hlen.set i (Or.inl (by simp only [vN]; omega))) (sMemS sOK_N hoL) hoS hE
  rw [List.getElem?_set] at hv
  by_cases e : i = j
  · subst e
    rw [if_pos rfl] at hv
    split at hv
    · cases hv; exact absurd rfl h2
    · cases hv
  · rw [if_neg e] at hv
    exact hl.2.2 j v hv h2
theorem sEnt1_args (sa ρ : Nat → Nat) : ∀ (A : List sV) (o i : Nat) (v : sV), (sEnt1 A)[i]? = some v → v.1 ≠ 2 → (o + i, sEnc sa ρ v) ∈ lv_args o (A.map (sEnc sa ρ))
  | [], _, i, v, h, _ => by simp [sEnt1] at h
  | w :: A, o, i, v, h, h2 => by
    rw [List.map_cons, lv_args, sEnc_cat]
    unfold sEnt1 at h
    by_cases hw : w.1 = 1
    · rw [if_pos hw] at h
      have hc : sCat w = 2 := by unfold sCat; rw [if_pos hw]
      rw [if_pos hc]
      match i, h with
      | 0, h => cases h; exact List.mem_cons_self
      | 1, h => cases h; exact absurd rfl h2
      | i + 2, h =>
        have := sEnt1_args sa ρ A (o + 2) i v (by simpa using h) h2
        rw [show o + (i + 2) = o + 2 + i by omega]
        exact List.mem_cons_of_mem _ this
    · rw [if_neg hw] at h
      have hc : ¬ sCat w = 2 := by unfold sCat; rw [if_neg hw]; decide
      rw [if_neg hc]
      match i, h with
      | 0, h => cases h; exact List.mem_cons_self
      | i + 1, h =>
        have := sEnt1_args sa ρ A (o + 1) i v (by simpa using h) h2
        rw [show o + (i + 1) = o + 1 + i by omega]
        exact List.mem_cons_of_mem _ this
theorem sEnt1_sl (sa ρ : Nat → Nat) : ∀ A : List sV, (lg_sl (A.map (sEnc sa ρ))).length = (sEnt1 A).length
  | [] => rfl
  | w :: A => by
    have ih := sEnt1_sl sa ρ A
    unfold lg_sl at ih ⊢
    rw [List.map_cons, List.flatMap_cons, List.length_append, ih, sEnc_cat]
    rw [show sEnt1 (w :: A) = if w.1 = 1 then w :: vN :: sEnt1 A else w :: sEnt1 A from rfl]
    unfold sCat
    by_cases hw : w.1 = 1
    · rw [if_pos hw, if_pos hw, if_pos rfl]; simp; omega
    · rw [if_neg hw, if_neg hw, if_neg (by decide)]; simp; omega
theorem sEnt1_mem : ∀ (A : List sV) (v : sV), v ∈ sEnt1 A → v ∈ A ∨ v = vN
  | [], v, h => absurd h List.not_mem_nil
  | w :: A, v, h => by
    unfold sEnt1 at h
    split at h
    · rcases List.mem_cons.mp h with rfl | h
      · exact Or.inl List.mem_cons_self
      · rcases List.mem_cons.mp h with rfl | h
        · exact Or.inr rfl
        · exact (sEnt1_mem A v h).imp (List.mem_cons_of_mem _) id
    · rcases List.mem_cons.mp h with rfl | h
      · exact Or.inl List.mem_cons_self
      · exact (sEnt1_mem A v h).imp (List.mem_cons_of_mem _) id
/-- what holds of the locals at a method's entry -/
theorem sEntry {sa ρ : Nat → Nat} {A : List sV} {G : sG} {k : Nat} (hl : (sEnt1 A).length ≤ sMaxL k) (hA : ∀ v ∈ A, sOK G v) :
    sLoc sa ρ (sEnt (sMaxL k) A) ((lg_sl (A.map (sEnc sa ρ)) ++ List.replicate (sMaxL k - (lg_sl (A.map (sEnc sa ρ))).length) Slot.unset).toArray) ∧ sHd k (sEx A) (sEnt (sMaxL k) A) ∧ ∀ v ∈ sEnt (sMaxL k) A, sOK G v := by
  have hlen : (sEnt (sMaxL k) A).length = sMaxL k := by unfold sEnt; rw [List.length_append, List.length_replicate]; omega
  refine ⟨?_, ⟨hlen, fun c a y hc hh => ?_⟩, fun v hv => ?_⟩
  · refine sLoc.of (lv_entry (A.map (sEnc sa ρ)) (n := sMaxL k) (by rw [sEnt1_sl]; exact hl)) hlen (fun i v hv h2 => ?_)
    unfold sEnt at hv
    by_cases hi : i < (sEnt1 A).length
    · rw [List.getElem?_append_left hi] at hv
      have := sEnt1_args sa ρ A 0 i v hv h2
      rwa [Nat.zero_add] at this
    · rw [List.getElem?_append_right (by omega)] at hv
      have := List.mem_of_getElem? hv
      rw [(List.mem_replicate.mp this).2] at h2
      exact absurd rfl h2
  · cases A with
    | nil =>
      have hm : vT c a y ∈ List.replicate (sMaxL k - (sEnt1 []).length) vN := by
        unfold sEnt at hh
        rw [List.head?_eq_getElem?] at hh
        exact List.mem_of_getElem? hh
      have := (List.mem_replicate.mp hm).2
      have := congrArg Prod.fst this
      simp only [vT, vN] at this
      omega
    | cons w A =>
      have hw : w = vT c a y := by
        unfold sEnt sEnt1 at hh
        split at hh <;> simpa using hh
      rw [hw, sEx_cons, if_pos (by simp only [vT]; omega)]
  · unfold sEnt at hv
    rcases List.mem_append.mp hv with hv | hv
    · rcases sEnt1_mem A v hv with h | h
      · exact hA v h
      · rw [h]; exact sOK_N
    · rw [(List.mem_replicate.mp hv).2]; exact sOK_N
set_option maxHeartbeats 4000000 in
theorem sMet_all (l : Launch) (D : va_G) (sa : Nat → Nat) (b : Nat) : ∀ d, sMetD l D sa b d
  | 0 => fun _ _ _ _ _ _ h => h.elim
  | d + 1 => fun k A M G Q hk hC ρ hA hA2 y bs nL rt st hm => by
    obtain ⟨hlen, hW⟩ := hC
    obtain ⟨e1, e2, e3, e4⟩ := sBy_eq hm
    refine Met.ofW (cc := bs) (maxL := nL) (ret := rt) hm.2.2.2.2.2.2.1 rfl ?_
    intro p e s m args below meth c s₁ B hml hv
    obtain ⟨rfl, hK, hR⟩ := hv
    have hown : s.vm.findClass y.cls = some m.cls := findClass_of_methodNamed B.named
    have hname : meth.name = y.name := (name_of_methodNamed B.named B.method).1
    have C : sCx p (headSpec [Cond.code y bs nL rt] (sRm (d + 1) k)).room s m meth c D sa k d := ⟨B.exec, by rw [e1]; exact B.bytes, by rw [e2]; exact hml, ⟨y.cls, hm.2.2.2.2.2.2.2.2.1, hown⟩, hK, Nat.le_refl _, Nat.le_refl _, fun hi => by rw [hname]; exact e4.mp hi, Nat.le_refl _, Nat.le_refl _⟩
    have hX := hW (sX p l e (headSpec [Cond.code y bs nL rt] (sRm (d + 1) k)).room s m ((A.map (sEnc sa ρ)).toArray) below meth c D sa b ρ G (sEx A) k (MQ below (sQc D sa b ρ G (sEx A) Q) ((A.map (sEnc sa ρ)).toArray) s (sKo k).2.2.2.1 (sKo k).2.2.2.2 (fun q => b ≤ q)))
      ⟨fun pc L S M G n m i len hcode hs => sim_all (sMet_all l D sa b d) C (fun i hi => fun hcode hs => sim_ret hm B.notSynchronized B.returns C hcode hi hs) hcode hs, fun pc L S M G n m i hs => sX_forget hs⟩
    obtain ⟨hl, hh, ho⟩ := sEntry (sa := sa) (ρ := ρ) hlen hA
    have := hX (Nat.zero_le _) (Nat.zero_le _) s.heap [] ρ _ hR (fun q hq => absurd hq List.not_mem_nil) hl hh ho (fun v hv => absurd hv List.not_mem_nil) ⟨fun _ _ => rfl, fun _ _ _ _ => rfl, fun _ h => h⟩
    rw [lg_entry_eq, ← e2]
    exact this
