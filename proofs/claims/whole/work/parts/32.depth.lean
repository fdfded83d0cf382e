/-! DEPTH: what holds at a depth holds deeper. -/
set_option maxHeartbeats 4000000 in
theorem sStep_mono2 {kk : Nat} {call call' : sCall} (hc : ∀ k A M G (Q Q' : Option sV → sM → sG → Prop), (∀ r M G, Q r M G → Q' r M G) → call k A M G Q → call' k A M G Q') {ret ret' : Option sV → sM → sG → Nat → Nat → Prop} (hr : ∀ r M G n m, ret r M G n m → ret' r M G n m) {K K' : sKont} (hK : ∀ pc L S M G n m, K pc L S M G n m → K' pc L S M G n m) (i : Instr) {len pc : Nat} {L S : List sV} {M : sM} {G : sG} {n m : Nat}
    (h : sStep kk call ret K i len pc L S M G n m) : sStep kk call' ret' K' i len pc L S M G n m := by
  cases i <;> first | exact h | skip
  case iconst => obtain ⟨a, b, c⟩ := h; exact ⟨a, b, hK _ _ _ _ _ _ _ c⟩
  case bipush => obtain ⟨a, b, d, c⟩ := h; exact ⟨a, b, d, hK _ _ _ _ _ _ _ c⟩
  case sipush => obtain ⟨a, b, d, c⟩ := h; exact ⟨a, b, d, hK _ _ _ _ _ _ _ c⟩
  case ldc =>
    obtain ⟨a, ⟨v, b, d, c⟩ | ⟨j, b, c⟩⟩ := h
    · exact ⟨a, Or.inl ⟨v, b, d, hK _ _ _ _ _ _ _ c⟩⟩
    · exact ⟨a, Or.inr ⟨j, b, hK _ _ _ _ _ _ _ c⟩⟩
  case ldc_w => obtain ⟨a, v, b, d, c⟩ := h; exact ⟨a, v, b, d, hK _ _ _ _ _ _ _ c⟩
  case ldc2_w => obtain ⟨a, v, b, d, c⟩ := h; exact ⟨a, v, b, d, hK _ _ _ _ _ _ _ c⟩
  case lconst => obtain ⟨a, c⟩ := h; exact ⟨a, hK _ _ _ _ _ _ _ c⟩
  case aconst_null => obtain ⟨a, v, b, c⟩ := h; exact ⟨a, v, b, hK _ _ _ _ _ _ _ c⟩
  case iload => obtain ⟨a, v, b, c⟩ := h; exact ⟨a, v, b, hK _ _ _ _ _ _ _ c⟩
  case iload_n => obtain ⟨a, v, b, c⟩ := h; exact ⟨a, v, b, hK _ _ _ _ _ _ _ c⟩
  case lload => obtain ⟨a, v, b, c⟩ := h; exact ⟨a, v, b, hK _ _ _ _ _ _ _ c⟩
  case lload_n => obtain ⟨a, v, b, c⟩ := h; exact ⟨a, v, b, hK _ _ _ _ _ _ _ c⟩
  case aload => obtain ⟨a, v, b, d, c⟩ := h; exact ⟨a, v, b, d, hK _ _ _ _ _ _ _ c⟩
  case aload_n => obtain ⟨a, v, b, d, c⟩ := h; exact ⟨a, v, b, d, hK _ _ _ _ _ _ _ c⟩
  case istore => obtain ⟨a, v, S', b, d, e, c⟩ := h; exact ⟨a, v, S', b, d, e, hK _ _ _ _ _ _ _ c⟩
  case istore_n => obtain ⟨a, v, S', b, d, e, c⟩ := h; exact ⟨a, v, S', b, d, e, hK _ _ _ _ _ _ _ c⟩
  case lstore => obtain ⟨a, v, S', b, d, e, c⟩ := h; exact ⟨a, v, S', b, d, e, hK _ _ _ _ _ _ _ c⟩
  case lstore_n => obtain ⟨a, v, S', b, d, e, c⟩ := h; exact ⟨a, v, S', b, d, e, hK _ _ _ _ _ _ _ c⟩
  case astore => obtain ⟨a, v, S', b, d, e, f, c⟩ := h; exact ⟨a, v, S', b, d, e, f, hK _ _ _ _ _ _ _ c⟩
  case astore_n => obtain ⟨a, v, S', b, d, e, f, c⟩ := h; exact ⟨a, v, S', b, d, e, f, hK _ _ _ _ _ _ _ c⟩
  case iinc => obtain ⟨a, v, b, d, c⟩ := h; exact ⟨a, v, b, d, hK _ _ _ _ _ _ _ c⟩
  case dup => obtain ⟨a, v, S', b, d, c⟩ := h; exact ⟨a, v, S', b, d, hK _ _ _ _ _ _ _ c⟩
  case dup2 => obtain ⟨a, u, v, S', b, d, e, c⟩ := h; exact ⟨a, u, v, S', b, d, e, hK _ _ _ _ _ _ _ c⟩
  case pop => obtain ⟨a, v, S', b, d, c⟩ := h; exact ⟨a, v, S', b, d, hK _ _ _ _ _ _ _ c⟩
  case iadd => obtain ⟨a, x, y, S', b, c⟩ := h; exact ⟨a, x, y, S', b, hK _ _ _ _ _ _ _ c⟩
  case isub => obtain ⟨a, x, y, S', b, c⟩ := h; exact ⟨a, x, y, S', b, hK _ _ _ _ _ _ _ c⟩
  case imul => obtain ⟨a, x, y, S', b, c⟩ := h; exact ⟨a, x, y, S', b, hK _ _ _ _ _ _ _ c⟩
  case idiv => obtain ⟨a, x, y, S', b, d, c⟩ := h; exact ⟨a, x, y, S', b, d, hK _ _ _ _ _ _ _ c⟩
  case irem => obtain ⟨a, x, y, S', b, d, c⟩ := h; exact ⟨a, x, y, S', b, d, hK _ _ _ _ _ _ _ c⟩
  case ineg => obtain ⟨a, x, S', b, c⟩ := h; exact ⟨a, x, S', b, hK _ _ _ _ _ _ _ c⟩
  case ishl => obtain ⟨a, x, y, S', b, c⟩ := h; exact ⟨a, x, y, S', b, hK _ _ _ _ _ _ _ c⟩
  case ishr => obtain ⟨a, x, y, S', b, c⟩ := h; exact ⟨a, x, y, S', b, hK _ _ _ _ _ _ _ c⟩
  case iushr => obtain ⟨a, x, y, S', b, c⟩ := h; exact ⟨a, x, y, S', b, hK _ _ _ _ _ _ _ c⟩
  case iand => obtain ⟨a, x, y, S', b, c⟩ := h; exact ⟨a, x, y, S', b, hK _ _ _ _ _ _ _ c⟩
  case ior => obtain ⟨a, x, y, S', b, c⟩ := h; exact ⟨a, x, y, S', b, hK _ _ _ _ _ _ _ c⟩
  case ixor => obtain ⟨a, x, y, S', b, c⟩ := h; exact ⟨a, x, y, S', b, hK _ _ _ _ _ _ _ c⟩
  case ladd => obtain ⟨a, x, y, S', b, c⟩ := h; exact ⟨a, x, y, S', b, hK _ _ _ _ _ _ _ c⟩
  case lsub => obtain ⟨a, x, y, S', b, c⟩ := h; exact ⟨a, x, y, S', b, hK _ _ _ _ _ _ _ c⟩
  case lmul => obtain ⟨a, x, y, S', b, c⟩ := h; exact ⟨a, x, y, S', b, hK _ _ _ _ _ _ _ c⟩
  case ldiv => obtain ⟨a, x, y, S', b, d, c⟩ := h; exact ⟨a, x, y, S', b, d, hK _ _ _ _ _ _ _ c⟩
  case lrem => obtain ⟨a, x, y, S', b, d, c⟩ := h; exact ⟨a, x, y, S', b, d, hK _ _ _ _ _ _ _ c⟩
  case land => obtain ⟨a, x, y, S', b, c⟩ := h; exact ⟨a, x, y, S', b, hK _ _ _ _ _ _ _ c⟩
  case lor => obtain ⟨a, x, y, S', b, c⟩ := h; exact ⟨a, x, y, S', b, hK _ _ _ _ _ _ _ c⟩
  case lshl => obtain ⟨a, x, y, S', b, c⟩ := h; exact ⟨a, x, y, S', b, hK _ _ _ _ _ _ _ c⟩
  case lcmp => obtain ⟨a, x, y, S', b, c⟩ := h; exact ⟨a, x, y, S', b, hK _ _ _ _ _ _ _ c⟩
  case i2l => obtain ⟨a, x, S', b, c⟩ := h; exact ⟨a, x, S', b, hK _ _ _ _ _ _ _ c⟩
  case l2i => obtain ⟨a, x, S', b, c⟩ := h; exact ⟨a, x, S', b, hK _ _ _ _ _ _ _ c⟩
  case i2b => obtain ⟨a, x, S', b, c⟩ := h; exact ⟨a, x, S', b, hK _ _ _ _ _ _ _ c⟩
  case ifCond => obtain ⟨a, x, S', t, b, d, c1, c2⟩ := h; exact ⟨a, x, S', t, b, d, fun q => hK _ _ _ _ _ _ _ (c1 q), fun q => hK _ _ _ _ _ _ _ (c2 q)⟩
  case if_icmp => obtain ⟨a, x, y, S', t, b, d, c1, c2⟩ := h; exact ⟨a, x, y, S', t, b, d, fun q => hK _ _ _ _ _ _ _ (c1 q), fun q => hK _ _ _ _ _ _ _ (c2 q)⟩
  case ifnull => obtain ⟨a, x, y, S', t, b, d, c1, c2⟩ := h; exact ⟨a, x, y, S', t, b, d, fun q => hK _ _ _ _ _ _ _ (c1 q), fun q => hK _ _ _ _ _ _ _ (c2 q)⟩
  case ifnonnull => obtain ⟨a, x, y, S', t, b, d, c1, c2⟩ := h; exact ⟨a, x, y, S', t, b, d, fun q => hK _ _ _ _ _ _ _ (c1 q), fun q => hK _ _ _ _ _ _ _ (c2 q)⟩
  case goto => obtain ⟨a, t, b, c⟩ := h; exact ⟨a, t, b, hK _ _ _ _ _ _ _ c⟩
  case tableswitch =>
    obtain ⟨x, S', a, b, c⟩ := h
    refine ⟨x, S', a, fun q => ?_, fun q1 q2 => ?_⟩
    · obtain ⟨t, e, f⟩ := b q; exact ⟨t, e, hK _ _ _ _ _ _ _ f⟩
    · obtain ⟨o, t, e, f, g⟩ := c q1 q2; exact ⟨o, t, e, f, hK _ _ _ _ _ _ _ g⟩
  case getfield =>
    obtain ⟨a, c, k, x, v, S', e, f, ⟨g1, g2, g3⟩ | ⟨g1, g2, g3⟩⟩ := h
    · exact ⟨a, c, k, x, v, S', e, f, Or.inl ⟨g1, g2, hK _ _ _ _ _ _ _ g3⟩⟩
    · exact ⟨a, c, k, x, v, S', e, f, Or.inr ⟨g1, g2, hK _ _ _ _ _ _ _ g3⟩⟩
  case putfield =>
    obtain ⟨a, c, k, x, v, u, S', e, f, ⟨z, g1, g2, g3, g4⟩ | ⟨g1, g2, g2', g3, g4, g5, L', g6, g7, g8⟩⟩ := h
    · exact ⟨a, c, k, x, v, u, S', e, f, Or.inl ⟨z, g1, g2, g3, hK _ _ _ _ _ _ _ g4⟩⟩
    · exact ⟨a, c, k, x, v, u, S', e, f, Or.inr ⟨g1, g2, g2', g3, g4, g5, L', g6, g7, hK _ _ _ _ _ _ _ g8⟩⟩
  case iaload => obtain ⟨a, x, y, z, S', b, d, e, c⟩ := h; exact ⟨a, x, y, z, S', b, d, e, hK _ _ _ _ _ _ _ c⟩
  case iastore => obtain ⟨a, x, y, z, w, S', b, d, e, c⟩ := h; exact ⟨a, x, y, z, w, S', b, d, e, hK _ _ _ _ _ _ _ c⟩
  case laload => obtain ⟨a, x, y, z, S', b, d, e, c⟩ := h; exact ⟨a, x, y, z, S', b, d, e, hK _ _ _ _ _ _ _ c⟩
  case lastore => obtain ⟨a, x, y, z, w, S', b, d, e, c⟩ := h; exact ⟨a, x, y, z, w, S', b, d, e, hK _ _ _ _ _ _ _ c⟩
  case baload => obtain ⟨a, x, y, z, S', b, d, e, c⟩ := h; exact ⟨a, x, y, z, S', b, d, e, hK _ _ _ _ _ _ _ c⟩
  case bastore =>
    obtain ⟨a, x, y, z, w, S', d, e, ⟨b, c⟩ | ⟨b, f, c⟩⟩ := h
    · exact ⟨a, x, y, z, w, S', d, e, Or.inl ⟨b, hK _ _ _ _ _ _ _ c⟩⟩
    · exact ⟨a, x, y, z, w, S', d, e, Or.inr ⟨b, f, hK _ _ _ _ _ _ _ c⟩⟩
  case aaload => obtain ⟨a, x, y, z, w, S', b, d, e, c⟩ := h; exact ⟨a, x, y, z, w, S', b, d, e, hK _ _ _ _ _ _ _ c⟩
  case aastore => obtain ⟨a, x, y, z, w, u, v, S', b, d, e, f, g, c⟩ := h; exact ⟨a, x, y, z, w, u, v, S', b, d, e, f, g, hK _ _ _ _ _ _ _ c⟩
  case arraylength => obtain ⟨a, x, y, z, S', b, d, f, c⟩ := h; exact ⟨a, x, y, z, S', b, d, f, hK _ _ _ _ _ _ _ c⟩
  case new => obtain ⟨a, x, y, b, d, e, f, c⟩ := h; exact ⟨a, x, y, b, d, e, f, hK _ _ _ _ _ _ _ c⟩
  case newarray => obtain ⟨a, x, y, S', b, d, e, f, g, i, j, c⟩ := h; exact ⟨a, x, y, S', b, d, e, f, g, i, j, hK _ _ _ _ _ _ _ c⟩
  case anewarray => obtain ⟨a, x, y, z, S', b, b', d, e, f, g, i, j, c⟩ := h; exact ⟨a, x, y, z, S', b, b', d, e, f, g, i, j, hK _ _ _ _ _ _ _ c⟩
  case checkcast => obtain ⟨a, b, x, y, S', d, c⟩ := h; exact ⟨a, b, x, y, S', d, hK _ _ _ _ _ _ _ c⟩
  case invokestatic =>
    obtain ⟨a, k, b, ⟨A, rest, c1, c2, c3, c4, c5, n1, n2, n3, c5', c6⟩ | ⟨u, v, rest, c1, c2, ⟨c3, c4⟩ | ⟨c3, c4⟩⟩ | ⟨z, dp, a1, n1, sp, a0, n0, rest, c1, c2, c3, c4, c5, c6, c7, c8, c9⟩⟩ := h
    · exact ⟨a, k, b, Or.inl ⟨A, rest, c1, c2, c3, c4, c5, n1, n2, n3, c5', hc _ _ _ _ _ _ (fun _ _ _ q => hK _ _ _ _ _ _ _ q) c6⟩⟩
    · exact ⟨a, k, b, Or.inr (Or.inl ⟨u, v, rest, c1, c2, Or.inl ⟨c3, hK _ _ _ _ _ _ _ c4⟩⟩)⟩
    · exact ⟨a, k, b, Or.inr (Or.inl ⟨u, v, rest, c1, c2, Or.inr ⟨c3, hK _ _ _ _ _ _ _ c4⟩⟩)⟩
    · exact ⟨a, k, b, Or.inr (Or.inr ⟨z, dp, a1, n1, sp, a0, n0, rest, c1, c2, c3, c4, c5, c6, c7, c8, hK _ _ _ _ _ _ _ c9⟩)⟩
  case invokevirtual =>
    obtain ⟨a, k, b, ⟨A, v, c, x, rest, c1, c2, c2', c3, c4, c5, c6, c7, n1, n2, n3, c7', c8⟩ | ⟨j, rest, c1, c2, c3, c4, c5⟩ | ⟨j, i, rest, c1, c2, c3, c4, c5, c6, c7⟩ | ⟨x, nn, y, rest, c1, c2, c3, c4, c5, c5', c6⟩⟩ := h
    · exact ⟨a, k, b, Or.inl ⟨A, v, c, x, rest, c1, c2, c2', c3, c4, c5, c6, c7, n1, n2, n3, c7', hc _ _ _ _ _ _ (fun _ _ _ q => hK _ _ _ _ _ _ _ q) c8⟩⟩
    · exact ⟨a, k, b, Or.inr (Or.inl ⟨j, rest, c1, c2, c3, c4, hK _ _ _ _ _ _ _ c5⟩)⟩
    · exact ⟨a, k, b, Or.inr (Or.inr (Or.inl ⟨j, i, rest, c1, c2, c3, c4, c5, c6, hK _ _ _ _ _ _ _ c7⟩))⟩
    · exact ⟨a, k, b, Or.inr (Or.inr (Or.inr ⟨x, nn, y, rest, c1, c2, c3, c4, c5, c5', hK _ _ _ _ _ _ _ c6⟩))⟩
  case invokespecial =>
    obtain ⟨a, k, b, ⟨c, x, y, rest, c1, c2, c3, c4⟩ | ⟨A, c, x, rest, c1, c2, c3, c4, c5, c6, c7, c8, c9, n3, c9', c10⟩⟩ := h
    · exact ⟨a, k, b, Or.inl ⟨c, x, y, rest, c1, c2, c3, hK _ _ _ _ _ _ _ c4⟩⟩
    · exact ⟨a, k, b, Or.inr ⟨A, c, x, rest, c1, c2, c3, c4, c5, c6, c7, c8, c9, n3, c9', hc _ _ _ _ _ _ (fun _ _ _ q => ⟨q.1, q.2.1, hK _ _ _ _ _ _ _ q.2.2⟩) c10⟩⟩
  case ireturn => obtain ⟨a, x, b, d, c⟩ := h; exact ⟨a, x, b, d, hr _ _ _ _ _ c⟩
  case lreturn => obtain ⟨a, x, b, d, c⟩ := h; exact ⟨a, x, b, d, hr _ _ _ _ _ c⟩
  case areturn => obtain ⟨a, x, y, b, d, e, f, c⟩ := h; exact ⟨a, x, y, b, d, e, f, hr _ _ _ _ _ c⟩
  case return_ => obtain ⟨a, b, d, c⟩ := h; exact ⟨a, b, d, hr _ _ _ _ _ c⟩
theorem sW_up {call call' : sCall} (hc : ∀ k A M G (Q Q' : Option sV → sM → sG → Prop), (∀ r M G, Q r M G → Q' r M G) → call k A M G Q → call' k A M G Q') {k : Nat} {Q : Option sV → sM → sG → Prop} {pc : Nat} {L S : List sV} {M : sM} {G : sG} {n m : Nat} (h : sW call k Q pc L S M G n m) : sW call' k Q pc L S M G n m := by
  intro X hX
  refine h X ⟨?_, hX.2⟩
  intro pc L S M G n m i len hcode hs
  exact hX.1 _ _ _ _ _ _ _ _ _ hcode (sStep_mono2 hc (fun _ _ _ _ _ q => q) (fun _ _ _ _ _ _ _ q => q) i hs)
theorem sC_up : ∀ d k A M G (Q Q' : Option sV → sM → sG → Prop), (∀ r M G, Q r M G → Q' r M G) → sC d k A M G Q → sC (d + 1) k A M G Q'
  | 0 => fun _ _ _ _ _ _ _ h => h.elim
  | d + 1 => fun _ _ _ _ _ _ hQ h => ⟨h.1, sW_mono (sC_mono (d + 1)) hQ (sW_up (sC_up d) h.2)⟩
theorem sC_le {d d' k : Nat} {A : List sV} {M : sM} {G : sG} {Q : Option sV → sM → sG → Prop} (hd : d ≤ d') (h : sC d k A M G Q) : sC d' k A M G Q := by
  obtain ⟨n, rfl⟩ := Nat.le.dest hd
  induction n with
  | zero => exact h
  | succ n ih => exact sC_up (d + n) k A M G Q Q (fun _ _ _ q => q) (ih (Nat.le_add_right _ _))
/-- a state that is told by a number, run through upwards -/
theorem sUpTo {W : Nat → Prop} (N : Nat) (hN : W N) (hs : ∀ i, i < N → W (i + 1) → W i) : W 0 := by
  have key : ∀ n i, i + n = N → W i := by
    intro n
    induction n with
    | zero => intro i h; have e : i = N := by omega
              rw [e]; exact hN
    | succ n ih => intro i h; exact hs i (by omega) (ih (i + 1) (by omega))
  exact key N 0 (by omega)
theorem sUpFrom {W : Nat → Prop} (a N : Nat) (ha : a ≤ N) (hN : W N) (hs : ∀ i, a ≤ i → i < N → W (i + 1) → W i) : W a := by
  have key : ∀ n i, a ≤ i → i + n = N → W i := by
    intro n
    induction n with
    | zero => intro i _ h; have e : i = N := by omega
              rw [e]; exact hN
    | succ n ih => intro i h0 h; exact hs i h0 (by omega) (ih (i + 1) (by omega) (by omega))
  exact key (N - a) a (Nat.le_refl _) (by omega)
