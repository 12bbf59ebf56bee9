/-! base, continued: places of arrays of references -/
section KD
variable {p : Program} {l : Launch} {e : Env} {R : Room} {s : State} {m : MethodId} {args : Array Value} {below : List Frame} {meth : Method} {c : Code} {H : Heap} {locs : List Loc} {cells slots : Nat} {Q : State → Prop}
variable {cc : ByteArray} {nL : Nat} {ret : Option FieldType} {own : String} {D : va_G} {dA : Nat → ClassId} {w0 w : va_W} {pc : Nat} {ls : Array Slot} {rest : List Value} {a : Nat}
theorem k_aald (C : CX p s m args meth c cc nL ret own D dA) (h : St D w0 s w H locs) (q0 t0 : Nat) {cA : ClassId} {C1 : String} {n : Nat} {f : Nat → Option Nat} (ha : w[q0]? = some (a, .inl (cA, n, .inr (.inr (.inr (.inr f)))))) (ht : (AY dA)[t0]? = some (cA, .object C1)) {i : Int32} (hin : vp_in i n) {b : Nat} (hv : f i.toNatClampNeg = some b) (hdg : decode cc pc = .ok (.aaload, 1))
    (kk : W p l e R s m args below meth c H locs cells slots Q (F0 m (pc + 1) ls (.ref b :: rest))) : W p l e R s m args below meth c H locs cells slots Q (F0 m pc ls (.int i :: .ref a :: rest)) := by
  refine va_aldq C.1 C.2.1 C.2.2.2.2.2.2.2.1 h.1 q0 t0 ha ht hin hdg ?_
  rw [hv]
  exact kk
end KD
