/-! the law's static calls of methods that catch -/
theorem wL_ini : Cond.initialized RL ∈ wA := List.mem_filter.mpr ⟨by decide +kernel, rfl⟩
theorem wL_sthing : Cond.static yL_thing ∈ wA := List.mem_filter.mpr ⟨by decide +kernel, rfl⟩
theorem wL_sdrift : Cond.static yL_drift ∈ wA := List.mem_filter.mpr ⟨by decide +kernel, rfl⟩
theorem wL_cthing : Cond.codeWith yL_thing cL_thing 5 (some .int) [(0, 10, 13, 13)] ∈ wA := List.mem_filter.mpr ⟨by decide +kernel, rfl⟩
theorem wL_cdrift : Cond.codeWith yL_drift cL_drift 6 (some .int) [(0, 12, 15, 13)] ∈ wA := List.mem_filter.mpr ⟨by decide +kernel, rfl⟩
theorem gA_cW {y : MethodName} {b : ByteArray} {n : Nat} {r : Option FieldType} {hh : List (Nat × Nat × Nat × Nat)} (h : Cond.codeWith y b n r hh ∈ wA) : GoodIn wA (Cond.codeWith y b n r hh :: wA) := fun w hw => by
  have h0 : w ∈ wA := (List.mem_cons.mp hw).elim (fun e => e ▸ h) id
  exact ⟨h0, good_of_word (List.mem_filter.mp h0).2⟩
theorem gA_SW {own : String} {i : Nat} {y : MethodName} {b : ByteArray} {n : Nat} {r : Option FieldType} {hh : List (Nat × Nat × Nat × Nat)} (h1 : Cond.methodLink own i y ∈ wA) (h2 : Cond.static y ∈ wA) (h4 : Cond.initialized y.cls ∈ wA) (h5 : Cond.codeWith y b n r hh ∈ wA) : GoodIn wA (va_wsS own i y (Cond.codeWith y b n r hh :: wA)) := gA_1 h1 (gA_1 h2 (gA_1 h4 (gA_cW h5)))
theorem ofO_0 {o : Option Int32} {g : Nat → Int64} {r : Int32} (q0 : orO o = 0) (hv : ∀ v, o = some v → r = v) : lg_cmp (ofO o g (0 : Int32).toNatClampNeg) r.toInt64 = 0 := by
  cases o with
  | none => exact absurd q0 (by decide)
  | some v =>
    rw [hv v rfl]
    exact lg_cmp_rr _
section KS
variable {p : Program} {l : Launch} {e : Env} {R : Room} {s : State} {m : MethodId} {args : Array Value} {below : List Frame} {meth : Method} {c : Code} {H : Heap} {locs : List Loc} {cells slots : Nat} {Q : State → Prop}
variable {cc : ByteArray} {nL : Nat} {ret : Option FieldType} {own : String} {D : va_G} {dA : Nat → ClassId} {w0 w w1 : va_W} {pc : Nat} {ls : Array Slot} {rest : List Value}
theorem k_lcallS (C : CX p s m args meth c cc nL ret own D dA) (h : St D w0 s w H locs) (hxw : XW (va_A w0 s.heap.size) s s.heap) {y : MethodName} {bytes : ByteArray} {maxL fr lo index n : Nat} {rt : Option FieldType} {hh : List (Nat × Nat × Nat × Nat)} {As : List Value} {r : Int32} (isC isR pm : List Nat) {wc wc1 wr : va_W} (hC : isC.map (fun i => w[i]?) = wc.map some) (hRr : isR.map (fun i => w[i]?) = wr.map some) (hnc : va_nd isC = true) (hnd : va_nd isR = true) (hdis : ∀ i ∈ isR, i ∉ isC) (hpm : pm.map (fun i => (wr ++ wc1)[i]?) = w1.map some) (hnp : va_nd pm = true) (hM : MLi l D dA y (Cond.codeWith y bytes maxL rt hh :: wA) fr lo As wc wc1 r) (h1 : Cond.methodLink own index y ∈ wA) (h2 : Cond.static y ∈ wA) (h4 : Cond.initialized y.cls ∈ wA) (h5 : Cond.codeWith y bytes maxL rt hh ∈ wA) (hd : y.cls ≠ "java/lang/invoke/MethodHandle" ∧ y.cls ≠ "java/lang/invoke/VarHandle" ∧ (parseMethodDescriptor y.desc).map (fun d => d.parameters.length) = some n) (hR : fr + 1 ≤ R.frames ∧ 8 + (maxL + 11) + lo ≤ R.locals) (hcs : cells + 1 ≤ R.cells ∧ slots + 6 ≤ R.slots) (hn : As.length = n) (hsz : ls.size = nL) (hrm : (rest.map fun v => v.category).sum ≤ 8) (hdg : decode cc pc = .ok (.invokestatic index, 3)) {st0 : List Value} (hst : st0 = As.reverse ++ rest)
    (kk : ∀ (H1 : Heap) (locs1 : List Loc), St D w0 s w1 H1 locs1 → W p l e R s m args below meth c H1 locs1 (cells + 1) (slots + 6) Q (F0 m (pc + 3) ls (.int r :: rest))) : W p l e R s m args below meth c H locs cells slots Q (F0 m pc ls st0) := by
  obtain ⟨hP, hD, hS⟩ := h
  have hA : ∀ q : Nat, s.heap.size ≤ q → va_A w0 s.heap.size q := fun q z => Or.inr z
  have hPc := hP.sub (ws' := wc) isC (fm_some hC)
  have hFc := va_free (wc := wc) hD hS hA isC hC
  have hDc : va_D (fun _ => True) wc := (hD.sub isC hnc hC).weaken (fun _ _ _ _ => trivial)
  have hpre : ∀ U : State, U.heap = H → s.WarmedH U.vm → PwX D dA wc H.size As As.toArray U := fun U hU hW => ⟨rfl, ⟨by rw [hU], by rw [hU]; exact hPc, va_K.moved hW.alike C.2.2.2.2.2.2.2.1, hDc, NW.warm hW C.2.2.2.2.2.2.2.2⟩, by rw [hU]; exact XW.moved hW.alike (XW.narrow (XW.kept hxw hS.2.1) hFc)⟩
  refine va_calli (vx_runSW (As := As) (rest := rest) ⟨C.1, C.2.1, C.2.2.1, C.2.2.2.1, C.2.2.2.2.1⟩ (hM H.size) (vx_cwSW n C.2.2.2.2.1 (gA_SW h1 h2 h4 h5) rfl rfl rfl hd hR) ⟨PwX.blind, hpre⟩ rfl hn hsz hst (lv_room hrm) hdg hcs) hS (fun q _ z => hFc q z) hFc (fun r1 _ t H1 locs1 ht hvm hw2 hB hz1 hk1 hS1 => ?_)
  obtain ⟨hP1, hD1⟩ := hB
  rw [ht] at hP1
  obtain ⟨hP2, hD2⟩ := va_join hP hD isC isR hC hRr hnd hdis hk1 hFc hP1 hD1
  subst hw2
  exact kk H1 locs1 ⟨hP2.sub pm (fm_some hpm), hD2.sub pm hnp hpm, hS1⟩
end KS
