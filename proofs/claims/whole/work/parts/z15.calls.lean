/-! Calls, ends, and the simulation by depth. -/
def sEx : List sV → Nat
  | [] => 0
  | v :: _ => if 80 ≤ v.1 ∧ v.1 < 100 then v.2.1 else 0
def sPc (D : va_G) (sa : Nat → Nat) (b : Nat) (ρ : Nat → Nat) (A : List sV) (M : sM) (G : sG) : Array Value → State → Prop := fun v U => v = (A.map (sEnc sa ρ)).toArray ∧ sKn D sa U ∧ sHR D sa b ρ M G U U.heap
def sQc (D : va_G) (sa : Nat → Nat) (b : Nat) (ρ : Nat → Nat) (G : sG) (ex : Nat) (Q : Option sV → sM → sG → Prop) : Array Value → State → Outcome → State → Prop := fun _ _ o t => ∃ r M' G' ρ', o = .returned (r.map (sEnc sa ρ')) ∧ Q r M' G' ∧ sHR D sa b ρ' M' G' t t.heap ∧ sExt ρ G ex ρ' G' ∧ ∀ v, r = some v → sOK G' v
abbrev sRm (d k : Nat) : Room := { frames := d + 4, cells := (sKo k).2.2.2.1, slots := (sKo k).2.2.2.2, locals := 64 * (d + 4) }
/-- what a call at depth d brings, as the machine has it -/
def sMetD (l : Launch) (D : va_G) (sa : Nat → Nat) (b d : Nat) : Prop := ∀ k A M G Q, k < 279 → sC d k A M G Q → ∀ ρ, (∀ v ∈ A, sOK G v) → (∀ v ∈ A, v.1 ≠ 2) → ∀ y bs nL rt st, sMeth k y bs nL rt st → Met l y [Cond.code y bs nL rt] (sRm d k) (sPc D sa b ρ A M G) (sQc D sa b ρ G (sEx A) Q) (sKo k).2.2.2.1 (sKo k).2.2.2.2 (fun q => b ≤ q)
theorem sPc_blind {D : va_G} {sa : Nat → Nat} {b : Nat} {ρ : Nat → Nat} {A : List sV} {M : sM} {G : sG} : FrameBlind (sPc D sa b ρ A M G) := fun a U g mk h => ⟨h.1, h.2.1.warm (U := U.calling g mk a) (State.WarmedH.refl U), h.2.2.moved (U' := U.calling g mk a) (Vm.Alike.refl U.vm)⟩
theorem sBy_eq {k : Nat} {y : MethodName} {bs : ByteArray} {nL : Nat} {rt : Option FieldType} {st : Bool} (h : sMeth k y bs nL rt st) : sBy k = bs ∧ sMaxL k = nL ∧ sStat k = st ∧ (sIni k = true ↔ y.name = "<init>") := by
  have := h.1
  unfold sBy sMaxL sStat sIni
  rw [this]
  simp
section Sim9
variable {p : Program} {l : Launch} {e : Env} {R : Room} {s : State} {m : MethodId} {args : Array Value} {below : List Frame} {meth : Method} {c : Code} {D : va_G} {sa : Nat → Nat} {b : Nat} {ρ0 : Nat → Nat} {G0 : sG} {ex kk : Nat} {Qf : State → Prop}
variable {call : sCall} {ret : Option sV → sM → sG → Nat → Nat → Prop} {len pc : Nat} {L S : List sV} {M : sM} {G : sG} {n mm d : Nat}
theorem sOK_n8 {v : sV} (h : sOK G v) (h3 : 3 < v.1) (hf : v.1 < 60 ∨ 80 ≤ v.1) (hz : ¬ (40 ≤ v.1 ∧ v.1 < 53 ∧ v.2.1 = 0)) : (G v.2.1).1 ≠ 8 := by
  intro z
  have key : ∀ q : Nat × Nat × Nat, G v.2.1 = q → q.1 = 8 := fun q e => by rw [← e]; exact z
  unfold sOK at h
  rw [if_neg (by omega), if_neg (by omega), if_neg (by omega), if_neg (by omega)] at h
  by_cases c4 : v.1 < 9
  · rw [if_pos c4] at h
    have := key _ h.2
    simp only at this
    split at this <;> omega
  rw [if_neg c4] at h
  by_cases c5 : v.1 < 20
  · rw [if_pos c5] at h; exact h
  rw [if_neg c5] at h
  by_cases c6 : v.1 < 33
  · rw [if_pos c6] at h; exact absurd (key _ h.2) (by simp)
  rw [if_neg c6] at h
  by_cases c7 : v.1 < 40
  · rw [if_pos c7] at h; exact h
  rw [if_neg c7] at h
  by_cases c8 : v.1 < 53
  · rw [if_pos c8] at h
    rcases h with h | h
    · omega
    · exact absurd (key _ h) (by simp)
  rw [if_neg c8] at h
  by_cases c9 : v.1 < 60
  · rw [if_pos c9] at h; exact h
  rw [if_neg c9, if_neg (by omega), if_neg (by omega)] at h
  by_cases c12 : v.1 < 93
  · rw [if_pos c12] at h; exact absurd (key _ h.2.2) (by simp)
  rw [if_neg c12] at h
  by_cases c13 : v.1 < 100
  · rw [if_pos c13] at h; exact h
  rw [if_neg c13] at h
  exact absurd (key _ h.2.2) (by simp)
/-- a value of the caller's is still of its kind behind a call -/
theorem sOK_call {G1 G' : sG} {ρ ρ' : Nat → Nat} {ex' : Nat} {v : sV} (g0 : G 0 = (0, 0, 0)) (hG1 : ∀ x, x ≠ ex' → G1 x = G x) (hex : G ex' = (0, 0, 0) ∨ (G ex').1 = 8) (hE' : sExt ρ G1 ex' ρ' G') (h : sOK G v) (hf : v.1 < 60 ∨ 80 ≤ v.1) : sOK G' v := by
  by_cases h3 : 3 < v.1
  · by_cases hz : 40 ≤ v.1 ∧ v.1 < 53 ∧ v.2.1 = 0
    · refine sOK_to h (fun hh => ?_)
      rw [hz.2.2] at hh
      exact absurd g0 hh
    · have h8 := sOK_n8 h h3 hf hz
      refine sOK_to h (fun hh => ?_)
      have hne : v.2.1 ≠ ex' := fun z => by
        rw [z] at h8 hh
        rcases hex with y | y
        · exact hh y
        · exact h8 y
      have e1 := hG1 _ hne
      rw [← e1]
      exact hE'.2.1 _ (by rw [e1]; exact hh) hne (by rw [e1]; exact h8)
  · exact sOK_lo h (by omega)
/-- a call has run: what was there is there, the answer lies on the stack -/
theorem sim_back {H : Heap} {locs : List Loc} {ρ : Nat → Nat} {ls : Array Slot} {st vals : List Value} {mc ms ex' : Nat} {G1 : sG} {a' : Array Value} {Qk : Option sV → sM → sG → Prop} (hR : sHR D sa b ρ M G s H) (hL : ∀ q ∈ locs, b ≤ q.base) (hl : sLoc sa ρ L ls) (hlen : sHd kk ex L) (hoL : ∀ v ∈ L, sOK G v) (hE : sExt ρ0 G0 ex ρ G)
    (hn : n + mc ≤ R.cells) (hm : mm + ms ≤ R.slots) (hnL : sNoF L = true) (hG1 : ∀ x, x ≠ ex' → G1 x = G x) (hex : (ex' = 0 ∧ G1 = G) ∨ ((G ex').1 = 8 ∧ G1 ex' ≠ (0, 0, 0)))
    (hrun : va_Run p l e R s m args below meth c H locs n mm mc ms (F0 m pc ls st) vals (sQc D sa b ρ G1 ex' Qk a') (fun q => b ≤ q))
    (hk : ∀ r M' G' ρ', Qk r M' G' → sExt ρ G1 ex' ρ' G' → (∀ x, G x ≠ (0, 0, 0) → ρ' x = ρ x) → (∀ v, sOK G v → (v.1 < 60 ∨ 80 ≤ v.1) → sOK G' v) → (∀ v, r = some v → sOK G' v) → ∃ S', S'.map (sEnc sa ρ') = (r.map (sEnc sa ρ')).toList ++ vals ∧ (∀ v ∈ S', sOK G' v) ∧ sX p l e R s m args below meth c D sa b ρ0 G0 ex kk Qf (pc + 3) L S' M' G' (n + mc) (mm + ms)) : W p l e R s m args below meth c H locs n mm Qf (F0 m pc ls st) := by
  intro T hT X
  obtain ⟨v, st₀, t, T', L', h0, X', hL', e1, e2, ⟨r, M', G', ρ', hv, hq, hR', hE', hok⟩, go⟩ := hrun T hT X
  cases hv
  have g0 := hR.1
  have hex0 : G ex' = (0, 0, 0) ∨ (G ex').1 = 8 := by
    rcases hex with ⟨z, -⟩ | z
    · left; rw [z]; exact g0
    · exact Or.inr z.1
  have hnz : ∀ x, G x ≠ (0, 0, 0) → G1 x ≠ (0, 0, 0) := fun x hx => by
    by_cases ee : x = ex'
    · rcases hex with ⟨z, z2⟩ | z
      · rw [z2]; exact hx
      · rw [ee]; exact z.2
    · rw [hG1 x ee]; exact hx
  have hρ : ∀ x, G x ≠ (0, 0, 0) → ρ' x = ρ x := fun x hx => hE'.1 x (hnz x hx)
  have hto : ∀ v, sOK G v → (v.1 < 60 ∨ 80 ≤ v.1) → sOK G' v := fun v hv hf => sOK_call g0 hG1 hex0 hE' hv hf
  obtain ⟨S', hS', hoS', kx⟩ := hk r M' G' ρ' hq hE' hρ hto hok
  have hal : t.vm.Alike s.vm := by rw [← e2]; exact X'.warmed.alike.symm
  have hnoL : ∀ v ∈ L, v.1 < 60 ∨ 80 ≤ v.1 := fun v hv => by
    have := List.all_eq_true.mp hnL v hv
    simpa using this
  have hE2 : sExt ρ0 G0 ex ρ' G' := by
    refine ⟨fun x hx => by rw [hρ x (hE.2.2 x hx)]; exact hE.1 x hx, fun x hx hxe h8 => ?_, fun x hx => hE'.2.2 x (hnz x (hE.2.2 x hx))⟩
    have g1 := hE.2.1 x hx hxe h8
    have gx := hE.2.2 x hx
    have hne : x ≠ ex' := fun z => by
      rcases hex0 with y | y
      · exact gx (by rw [z]; exact y)
      · rw [← z, g1] at y; exact h8 y
    rw [hE'.2.1 x (hnz x gx) hne (by rw [hG1 x hne, g1]; exact h8), hG1 x hne, g1]
  have := kx hn hm T'.heap (locs ++ L') ρ' ls (by rw [e1]; exact hR'.moved hal) (fun q hq => by
    rcases List.mem_append.mp hq with hq | hq
    · exact hL q hq
    · exact hL' q hq) (hl.to hoL hρ) hlen (fun v hv => hto v (hoL v hv) (hnoL v hv)) hoS' hE2
  rw [hS'] at this
  obtain ⟨t2, a1, b1⟩ := this T' rfl X'
  exact ⟨t2, go t2 a1, b1⟩
/-- the words and the room of a call -/
theorem sim_cw {k x : Nat} {O : String} {y : MethodName} {bs : ByteArray} {nL : Nat} {rt : Option FieldType} {st : Bool} (hK : sKn D sa s) (hm : sMeth k y bs nL rt st) (hfr : d + 4 + 1 ≤ R.frames) (hlo : 64 * (d + 4 + 1) ≤ R.locals) : ((sRm d k).cells = (sKo k).2.2.2.1 ∧ (sRm d k).slots = (sKo k).2.2.2.2 ∧ (sRm d k).frames + 1 ≤ R.frames ∧ 8 + (nL + 11) + (sRm d k).locals ≤ R.locals ∧ (∀ w ∈ [Cond.code y bs nL rt], ∀ (a' : Array Value) (U : State), s.WarmedH U.vm → w.before a' U = true) ∧ Cond.code y bs nL rt ∈ [Cond.code y bs nL rt]) ∧
  (Cond.code y bs nL rt).before args s = true ∧ (Cond.initialized y.cls).before args s = true ∧ (y.cls ≠ "java/lang/invoke/MethodHandle" ∧ y.cls ≠ "java/lang/invoke/VarHandle") ∧ (∀ sig, parseMethodDescriptor y.desc = some sig → (sKo k).2.1 = sig.parameters.length) := by
  obtain ⟨h1, h2, h3, h4, h5, h6, h7, h8, h9, h10, h11, h12, h13, h14⟩ := hm
  refine ⟨⟨rfl, rfl, hfr, Nat.le_trans (show 8 + (nL + 11) + 64 * (d + 4) ≤ 64 * (d + 4 + 1) by rw [Nat.mul_add 64 (d + 4) 1]; exact Nat.le_trans (Nat.add_le_add_right (show 8 + (nL + 11) ≤ 64 from Nat.le_trans (Nat.add_le_add_left (Nat.add_le_add_right h8 11) 8) (Nat.le_of_ble_eq_true rfl)) _) (Nat.le_of_eq (Nat.add_comm _ _))) hlo, fun w hw a' U hW => ?_, List.mem_singleton.mpr rfl⟩, hK.word h2 rfl rfl _, hK.word h6 rfl rfl _, ⟨h12, h13⟩, fun sig hs => ?_⟩
  · rw [List.mem_singleton.mp hw]
    exact (hK.warm hW).word h2 rfl rfl a'
  · rw [hs] at h10
    simpa using h10.symm
end Sim9
