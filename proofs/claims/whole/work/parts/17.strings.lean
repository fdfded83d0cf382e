/-! The texts: length and charAt. -/
section Sim12
variable {p : Program} {l : Launch} {e : Env} {R : Room} {s : State} {m : MethodId} {args : Array Value} {below : List Frame} {meth : Method} {c : Code} {D : va_G} {sa : Nat → Nat} {b : Nat} {ρ0 : Nat → Nat} {G0 : sG} {ex kk : Nat} {Qf : State → Prop}
variable {ret : Option sV → sM → sG → Nat → Nat → Prop} {len pc : Nat} {L S : List sV} {M : sM} {G : sG} {n mm d : Nat}
theorem sim_strlen {x j : Nat} {rest : List sV} (C : sCx p R s m meth c D sa kk d) (hcode : sCode kk pc = some (.invokevirtual x, 3)) (hk : sMR (sKo kk).1 x = some 1004) (hj : j < 21) (hr : sCats rest ≤ 8)
    (k : sX p l e R s m args below meth c D sa b ρ0 G0 ex kk Qf (pc + 3) L (vI (sLen j) :: rest) M G n mm) : sX p l e R s m args below meth c D sa b ρ0 G0 ex kk Qf pc L (vS j :: rest) M G n mm := by
  sorry
theorem sim_charAt {x j : Nat} {i : Int} {rest : List sV} (C : sCx p R s m meth c D sa kk d) (hcode : sCode kk pc = some (.invokevirtual x, 3)) (hk : sMR (sKo kk).1 x = some 1005) (hj : j < 21) (h0 : 0 ≤ i) (h1 : i < sLen j) (hr : sCats rest ≤ 8)
    (k : sX p l e R s m args below meth c D sa b ρ0 G0 ex kk Qf (pc + 3) L (vI (sChr j i.toNat) :: rest) M G n mm) : sX p l e R s m args below meth c D sa b ρ0 G0 ex kk Qf pc L (vI i :: vS j :: rest) M G n mm := by
  sorry
end Sim12
