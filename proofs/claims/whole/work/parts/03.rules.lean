/-! What the small machine's step asks grows with what comes behind it; its least fixed point; calls by depth. -/
def sMono (call : sCall) : Prop := ∀ k A M G (Q Q' : Option sV → sM → sG → Prop), (∀ r M G, Q r M G → Q' r M G) → call k A M G Q → call k A M G Q'
set_option maxHeartbeats 4000000 in
theorem sStep_mono {kk : Nat} {call : sCall} (hc : sMono call) {ret ret' : Option sV → sM → sG → Nat → Nat → Prop} (hr : ∀ r M G n m, ret r M G n m → ret' r M G n m) {K K' : sKont} (hK : ∀ pc L S M G n m, K pc L S M G n m → K' pc L S M G n m) (i : Instr) {len pc : Nat} {L S : List sV} {M : sM} {G : sG} {n m : Nat}
    (h : sStep kk call ret K i len pc L S M G n m) : sStep kk call ret' K' i len pc L S M G n m := by
  cases i <;> first | exact h | skip
  case iconst => obtain ⟨a, b, c⟩ := h; exact ⟨a, b, hK _ _ _ _ _ _ _ c⟩
  case bipush => obtain ⟨a, b, d, c⟩ := h; exact ⟨a, b, d, hK _ _ _ _ _ _ _ c⟩
  case sipush => obtain ⟨a, b, d, c⟩ := h; exact ⟨a, b, d, hK _ _ _ _ _ _ _ c⟩
  case ldc =>
    obtain ⟨a, ⟨v, b, d, c⟩ | ⟨j, b, c⟩⟩ := h
    · exact ⟨a, Or.inl ⟨v, b, d, hK _ _ _ _ _ _ _ c⟩⟩
    · exact ⟨a, Or.inr ⟨j, b, hK _ _ _ _ _ _ _ c⟩⟩
  case ldc_w => obtain ⟨a, v, b, d, c⟩ := h; exact ⟨a, v, b, d, hK _ _ _ _ _ _ _ c⟩
  case ldc2_w => obtain ⟨a, v, b, d, c⟩ := h; exact ⟨a, v, b, d, hK _ _ _ _ _ _ _ c⟩
  case lconst => obtain ⟨a, c⟩ := h; exact ⟨a, hK _ _ _ _ _ _ _ c⟩
  case aconst_null => obtain ⟨a, v, b, c⟩ := h; exact ⟨a, v, b, hK _ _ _ _ _ _ _ c⟩
  case iload => obtain ⟨a, v, b, c⟩ := h; exact ⟨a, v, b, hK _ _ _ _ _ _ _ c⟩
  case iload_n => obtain ⟨a, v, b, c⟩ := h; exact ⟨a, v, b, hK _ _ _ _ _ _ _ c⟩
  case lload => obtain ⟨a, v, b, c⟩ := h; exact ⟨a, v, b, hK _ _ _ _ _ _ _ c⟩
  case lload_n => obtain ⟨a, v, b, c⟩ := h; exact ⟨a, v, b, hK _ _ _ _ _ _ _ c⟩
  case aload => obtain ⟨a, v, b, d, c⟩ := h; exact ⟨a, v, b, d, hK _ _ _ _ _ _ _ c⟩
  case aload_n => obtain ⟨a, v, b, d, c⟩ := h; exact ⟨a, v, b, d, hK _ _ _ _ _ _ _ c⟩
  case istore => obtain ⟨a, v, S', b, d, e, c⟩ := h; exact ⟨a, v, S', b, d, e, hK _ _ _ _ _ _ _ c⟩
  case istore_n => obtain ⟨a, v, S', b, d, e, c⟩ := h; exact ⟨a, v, S', b, d, e, hK _ _ _ _ _ _ _ c⟩
  case lstore => obtain ⟨a, v, S', b, d, e, c⟩ := h; exact ⟨a, v, S', b, d, e, hK _ _ _ _ _ _ _ c⟩
  case lstore_n => obtain ⟨a, v, S', b, d, e, c⟩ := h; exact ⟨a, v, S', b, d, e, hK _ _ _ _ _ _ _ c⟩
  case astore => obtain ⟨a, v, S', b, d, e, f, c⟩ := h; exact ⟨a, v, S', b, d, e, f, hK _ _ _ _ _ _ _ c⟩
  case astore_n => obtain ⟨a, v, S', b, d, e, f, c⟩ := h; exact ⟨a, v, S', b, d, e, f, hK _ _ _ _ _ _ _ c⟩
  case iinc => obtain ⟨a, v, b, d, c⟩ := h; exact ⟨a, v, b, d, hK _ _ _ _ _ _ _ c⟩
  case dup => obtain ⟨a, v, S', b, d, c⟩ := h; exact ⟨a, v, S', b, d, hK _ _ _ _ _ _ _ c⟩
  case dup2 => obtain ⟨a, u, v, S', b, d, e, c⟩ := h; exact ⟨a, u, v, S', b, d, e, hK _ _ _ _ _ _ _ c⟩
  case pop => obtain ⟨a, v, S', b, d, c⟩ := h; exact ⟨a, v, S', b, d, hK _ _ _ _ _ _ _ c⟩
  case iadd => obtain ⟨a, x, y, S', b, c⟩ := h; exact ⟨a, x, y, S', b, hK _ _ _ _ _ _ _ c⟩
  case isub => obtain ⟨a, x, y, S', b, c⟩ := h; exact ⟨a, x, y, S', b, hK _ _ _ _ _ _ _ c⟩
  case imul => obtain ⟨a, x, y, S', b, c⟩ := h; exact ⟨a, x, y, S', b, hK _ _ _ _ _ _ _ c⟩
  case idiv => obtain ⟨a, x, y, S', b, d, c⟩ := h; exact ⟨a, x, y, S', b, d, hK _ _ _ _ _ _ _ c⟩
  case irem => obtain ⟨a, x, y, S', b, d, c⟩ := h; exact ⟨a, x, y, S', b, d, hK _ _ _ _ _ _ _ c⟩
  case ineg => obtain ⟨a, x, S', b, c⟩ := h; exact ⟨a, x, S', b, hK _ _ _ _ _ _ _ c⟩
  case ishl => obtain ⟨a, x, y, S', b, c⟩ := h; exact ⟨a, x, y, S', b, hK _ _ _ _ _ _ _ c⟩
  case ishr => obtain ⟨a, x, y, S', b, c⟩ := h; exact ⟨a, x, y, S', b, hK _ _ _ _ _ _ _ c⟩
  case iushr => obtain ⟨a, x, y, S', b, c⟩ := h; exact ⟨a, x, y, S', b, hK _ _ _ _ _ _ _ c⟩
  case iand => obtain ⟨a, x, y, S', b, c⟩ := h; exact ⟨a, x, y, S', b, hK _ _ _ _ _ _ _ c⟩
  case ior => obtain ⟨a, x, y, S', b, c⟩ := h; exact ⟨a, x, y, S', b, hK _ _ _ _ _ _ _ c⟩
  case ixor => obtain ⟨a, x, y, S', b, c⟩ := h; exact ⟨a, x, y, S', b, hK _ _ _ _ _ _ _ c⟩
  case ladd => obtain ⟨a, x, y, S', b, c⟩ := h; exact ⟨a, x, y, S', b, hK _ _ _ _ _ _ _ c⟩
  case lsub => obtain ⟨a, x, y, S', b, c⟩ := h; exact ⟨a, x, y, S', b, hK _ _ _ _ _ _ _ c⟩
  case lmul => obtain ⟨a, x, y, S', b, c⟩ := h; exact ⟨a, x, y, S', b, hK _ _ _ _ _ _ _ c⟩
  case ldiv => obtain ⟨a, x, y, S', b, d, c⟩ := h; exact ⟨a, x, y, S', b, d, hK _ _ _ _ _ _ _ c⟩
  case lrem => obtain ⟨a, x, y, S', b, d, c⟩ := h; exact ⟨a, x, y, S', b, d, hK _ _ _ _ _ _ _ c⟩
  case land => obtain ⟨a, x, y, S', b, c⟩ := h; exact ⟨a, x, y, S', b, hK _ _ _ _ _ _ _ c⟩
  case lor => obtain ⟨a, x, y, S', b, c⟩ := h; exact ⟨a, x, y, S', b, hK _ _ _ _ _ _ _ c⟩
  case lshl => obtain ⟨a, x, y, S', b, c⟩ := h; exact ⟨a, x, y, S', b, hK _ _ _ _ _ _ _ c⟩
  case lcmp => obtain ⟨a, x, y, S', b, c⟩ := h; exact ⟨a, x, y, S', b, hK _ _ _ _ _ _ _ c⟩
  case i2l => obtain ⟨a, x, S', b, c⟩ := h; exact ⟨a, x, S', b, hK _ _ _ _ _ _ _ c⟩
  case l2i => obtain ⟨a, x, S', b, c⟩ := h; exact ⟨a, x, S', b, hK _ _ _ _ _ _ _ c⟩
  case i2b => obtain ⟨a, x, S', b, c⟩ := h; exact ⟨a, x, S', b, hK _ _ _ _ _ _ _ c⟩
  case ifCond => obtain ⟨a, x, S', t, b, d, c1, c2⟩ := h; exact ⟨a, x, S', t, b, d, fun q => hK _ _ _ _ _ _ _ (c1 q), fun q => hK _ _ _ _ _ _ _ (c2 q)⟩
  case if_icmp => obtain ⟨a, x, y, S', t, b, d, c1, c2⟩ := h; exact ⟨a, x, y, S', t, b, d, fun q => hK _ _ _ _ _ _ _ (c1 q), fun q => hK _ _ _ _ _ _ _ (c2 q)⟩
  case ifnull => obtain ⟨a, x, y, S', t, b, d, c1, c2⟩ := h; exact ⟨a, x, y, S', t, b, d, fun q => hK _ _ _ _ _ _ _ (c1 q), fun q => hK _ _ _ _ _ _ _ (c2 q)⟩
  case ifnonnull => obtain ⟨a, x, y, S', t, b, d, c1, c2⟩ := h; exact ⟨a, x, y, S', t, b, d, fun q => hK _ _ _ _ _ _ _ (c1 q), fun q => hK _ _ _ _ _ _ _ (c2 q)⟩
  case goto => obtain ⟨a, t, b, c⟩ := h; exact ⟨a, t, b, hK _ _ _ _ _ _ _ c⟩
  case tableswitch =>
    obtain ⟨x, S', a, b, c⟩ := h
    refine ⟨x, S', a, fun q => ?_, fun q1 q2 => ?_⟩
    · obtain ⟨t, e, f⟩ := b q; exact ⟨t, e, hK _ _ _ _ _ _ _ f⟩
    · obtain ⟨o, t, e, f, g⟩ := c q1 q2; exact ⟨o, t, e, f, hK _ _ _ _ _ _ _ g⟩
  case getfield =>
    obtain ⟨a, c, k, x, v, S', e, f, ⟨g1, g2, g3⟩ | ⟨g1, g2, g3⟩⟩ := h
    · exact ⟨a, c, k, x, v, S', e, f, Or.inl ⟨g1, g2, hK _ _ _ _ _ _ _ g3⟩⟩
    · exact ⟨a, c, k, x, v, S', e, f, Or.inr ⟨g1, g2, hK _ _ _ _ _ _ _ g3⟩⟩
  case putfield =>
    obtain ⟨a, c, k, x, v, u, S', e, f, ⟨z, g1, g2, g3, g4⟩ | ⟨g1, g2, g2', g3, g4, g5, L', g6, g7, g8⟩⟩ := h
    · exact ⟨a, c, k, x, v, u, S', e, f, Or.inl ⟨z, g1, g2, g3, hK _ _ _ _ _ _ _ g4⟩⟩
    · exact ⟨a, c, k, x, v, u, S', e, f, Or.inr ⟨g1, g2, g2', g3, g4, g5, L', g6, g7, hK _ _ _ _ _ _ _ g8⟩⟩
  case iaload => obtain ⟨a, x, y, z, S', b, d, e, c⟩ := h; exact ⟨a, x, y, z, S', b, d, e, hK _ _ _ _ _ _ _ c⟩
  case iastore => obtain ⟨a, x, y, z, w, S', b, d, e, c⟩ := h; exact ⟨a, x, y, z, w, S', b, d, e, hK _ _ _ _ _ _ _ c⟩
  case laload => obtain ⟨a, x, y, z, S', b, d, e, c⟩ := h; exact ⟨a, x, y, z, S', b, d, e, hK _ _ _ _ _ _ _ c⟩
  case lastore => obtain ⟨a, x, y, z, w, S', b, d, e, c⟩ := h; exact ⟨a, x, y, z, w, S', b, d, e, hK _ _ _ _ _ _ _ c⟩
  case baload => obtain ⟨a, x, y, z, S', b, d, e, c⟩ := h; exact ⟨a, x, y, z, S', b, d, e, hK _ _ _ _ _ _ _ c⟩
  case bastore =>
    obtain ⟨a, x, y, z, w, S', d, e, ⟨b, c⟩ | ⟨b, f, c⟩⟩ := h
    · exact ⟨a, x, y, z, w, S', d, e, Or.inl ⟨b, hK _ _ _ _ _ _ _ c⟩⟩
    · exact ⟨a, x, y, z, w, S', d, e, Or.inr ⟨b, f, hK _ _ _ _ _ _ _ c⟩⟩
  case aaload => obtain ⟨a, x, y, z, w, S', b, d, e, c⟩ := h; exact ⟨a, x, y, z, w, S', b, d, e, hK _ _ _ _ _ _ _ c⟩
  case aastore => obtain ⟨a, x, y, z, w, u, v, S', b, d, e, f, g, c⟩ := h; exact ⟨a, x, y, z, w, u, v, S', b, d, e, f, g, hK _ _ _ _ _ _ _ c⟩
  case arraylength => obtain ⟨a, x, y, z, S', b, d, f, c⟩ := h; exact ⟨a, x, y, z, S', b, d, f, hK _ _ _ _ _ _ _ c⟩
  case new => obtain ⟨a, x, y, b, d, e, f, c⟩ := h; exact ⟨a, x, y, b, d, e, f, hK _ _ _ _ _ _ _ c⟩
  case newarray => obtain ⟨a, x, y, S', b, d, e, f, g, i, j, c⟩ := h; exact ⟨a, x, y, S', b, d, e, f, g, i, j, hK _ _ _ _ _ _ _ c⟩
  case anewarray => obtain ⟨a, x, y, z, S', b, b', d, e, f, g, i, j, c⟩ := h; exact ⟨a, x, y, z, S', b, b', d, e, f, g, i, j, hK _ _ _ _ _ _ _ c⟩
  case checkcast => obtain ⟨a, b, x, y, S', d, c⟩ := h; exact ⟨a, b, x, y, S', d, hK _ _ _ _ _ _ _ c⟩
  case invokestatic =>
    obtain ⟨a, k, b, ⟨A, rest, c1, c2, c3, c4, c5, n1, n2, n3, c5', c6⟩ | ⟨u, v, rest, c1, c2, ⟨c3, c4⟩ | ⟨c3, c4⟩⟩ | ⟨z, dp, a1, n1, sp, a0, n0, rest, c1, c2, c3, c4, c5, c6, c7, c8, c9⟩⟩ := h
    · exact ⟨a, k, b, Or.inl ⟨A, rest, c1, c2, c3, c4, c5, n1, n2, n3, c5', hc _ _ _ _ _ _ (fun _ _ _ q => hK _ _ _ _ _ _ _ q) c6⟩⟩
    · exact ⟨a, k, b, Or.inr (Or.inl ⟨u, v, rest, c1, c2, Or.inl ⟨c3, hK _ _ _ _ _ _ _ c4⟩⟩)⟩
    · exact ⟨a, k, b, Or.inr (Or.inl ⟨u, v, rest, c1, c2, Or.inr ⟨c3, hK _ _ _ _ _ _ _ c4⟩⟩)⟩
    · exact ⟨a, k, b, Or.inr (Or.inr ⟨z, dp, a1, n1, sp, a0, n0, rest, c1, c2, c3, c4, c5, c6, c7, c8, hK _ _ _ _ _ _ _ c9⟩)⟩
  case invokevirtual =>
    obtain ⟨a, k, b, ⟨A, v, c, x, rest, c1, c2, c2', c3, c4, c5, c6, c7, n1, n2, n3, c7', c8⟩ | ⟨j, rest, c1, c2, c3, c4, c5⟩ | ⟨j, i, rest, c1, c2, c3, c4, c5, c6, c7⟩ | ⟨x, nn, y, rest, c1, c2, c3, c4, c5, c5', c6⟩⟩ := h
    · exact ⟨a, k, b, Or.inl ⟨A, v, c, x, rest, c1, c2, c2', c3, c4, c5, c6, c7, n1, n2, n3, c7', hc _ _ _ _ _ _ (fun _ _ _ q => hK _ _ _ _ _ _ _ q) c8⟩⟩
    · exact ⟨a, k, b, Or.inr (Or.inl ⟨j, rest, c1, c2, c3, c4, hK _ _ _ _ _ _ _ c5⟩)⟩
    · exact ⟨a, k, b, Or.inr (Or.inr (Or.inl ⟨j, i, rest, c1, c2, c3, c4, c5, c6, hK _ _ _ _ _ _ _ c7⟩))⟩
    · exact ⟨a, k, b, Or.inr (Or.inr (Or.inr ⟨x, nn, y, rest, c1, c2, c3, c4, c5, c5', hK _ _ _ _ _ _ _ c6⟩))⟩
  case invokespecial =>
    obtain ⟨a, k, b, ⟨c, x, y, rest, c1, c2, c3, c4⟩ | ⟨A, c, x, rest, c1, c2, c3, c4, c5, c6, c7, c8, c9, n3, c9', c10⟩⟩ := h
    · exact ⟨a, k, b, Or.inl ⟨c, x, y, rest, c1, c2, c3, hK _ _ _ _ _ _ _ c4⟩⟩
    · exact ⟨a, k, b, Or.inr ⟨A, c, x, rest, c1, c2, c3, c4, c5, c6, c7, c8, c9, n3, c9', hc _ _ _ _ _ _ (fun _ _ _ q => ⟨q.1, q.2.1, hK _ _ _ _ _ _ _ q.2.2⟩) c10⟩⟩
  case ireturn => obtain ⟨a, x, b, d, c⟩ := h; exact ⟨a, x, b, d, hr _ _ _ _ _ c⟩
  case lreturn => obtain ⟨a, x, b, d, c⟩ := h; exact ⟨a, x, b, d, hr _ _ _ _ _ c⟩
  case areturn => obtain ⟨a, x, y, b, d, e, f, c⟩ := h; exact ⟨a, x, y, b, d, e, f, hr _ _ _ _ _ c⟩
  case return_ => obtain ⟨a, b, d, c⟩ := h; exact ⟨a, b, d, hr _ _ _ _ _ c⟩
/-- what a method's end must bring: no more new cells and slots than the table says, and Q -/
def sEnd (k : Nat) (Q : Option sV → sM → sG → Prop) (r : Option sV) (M : sM) (G : sG) (n m : Nat) : Prop := n ≤ (sKo k).2.2.2.1 ∧ m ≤ (sKo k).2.2.2.2 ∧ Q r M G
/-- what an execution may be: a step, or forgetting what a local holds -/
def sPre (call : sCall) (k : Nat) (Q : Option sV → sM → sG → Prop) (X : sKont) : Prop := (∀ pc L S M G n m i len, sCode k pc = some (i, len) → sStep k call (sEnd k Q) X i len pc L S M G n m → X pc L S M G n m) ∧ ∀ pc L S M G n m i, X pc (L.set i vN) S M G n m → X pc L S M G n m
/-- method k, at this place, comes to its end with Q -/
def sW (call : sCall) (k : Nat) (Q : Option sV → sM → sG → Prop) : sKont := fun pc L S M G n m => ∀ X : sKont, sPre call k Q X → X pc L S M G n m
def sC : Nat → sCall
  | 0 => fun _ _ _ _ _ => False
  | d + 1 => fun k A M G Q => (sEnt1 A).length ≤ sMaxL k ∧ sW (sC d) k Q 0 (sEnt (sMaxL k) A) [] M G 0 0
theorem sW_step {call : sCall} (hc : sMono call) {k : Nat} {Q : Option sV → sM → sG → Prop} {pc : Nat} {L S : List sV} {M : sM} {G : sG} {n m : Nat} {i : Instr} {len : Nat} (hcode : sCode k pc = some (i, len))
    (h : sStep k call (sEnd k Q) (sW call k Q) i len pc L S M G n m) : sW call k Q pc L S M G n m := by
  intro X hX
  exact hX.1 _ _ _ _ _ _ _ _ _ hcode (sStep_mono hc (fun _ _ _ _ _ q => q) (fun _ _ _ _ _ _ _ q => q X hX) i h)
theorem sW_forget {call : sCall} {k : Nat} {Q : Option sV → sM → sG → Prop} {pc : Nat} {L S : List sV} {M : sM} {G : sG} {n m : Nat} (i : Nat) (h : sW call k Q pc (L.set i vN) S M G n m) : sW call k Q pc L S M G n m := fun X hX => hX.2 _ _ _ _ _ _ _ i (h X hX)
theorem sW_mono {call : sCall} (hc : sMono call) {k : Nat} {Q Q' : Option sV → sM → sG → Prop} (hQ : ∀ r M G, Q r M G → Q' r M G) {pc : Nat} {L S : List sV} {M : sM} {G : sG} {n m : Nat} (h : sW call k Q pc L S M G n m) : sW call k Q' pc L S M G n m := by
  intro X hX
  refine h X ⟨?_, hX.2⟩
  intro pc L S M G n m i len hcode hs
  exact hX.1 _ _ _ _ _ _ _ _ _ hcode (sStep_mono hc (fun _ _ _ _ _ q => ⟨q.1, q.2.1, hQ _ _ _ q.2.2⟩) (fun _ _ _ _ _ _ _ q => q) i hs)
theorem sC_mono : ∀ d, sMono (sC d)
  | 0 => fun _ _ _ _ _ _ _ h => h
  | d + 1 => fun _ _ _ _ _ _ hQ h => ⟨h.1, sW_mono (sC_mono d) hQ h.2⟩
