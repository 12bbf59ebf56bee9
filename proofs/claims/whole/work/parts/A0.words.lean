/-! the enum Word and its texts, as they lie outside the world -/
abbrev ZA : Type := (Nat → Nat) × (Nat → Nat) × (Nat → Nat) × Nat
def wnm : List String := ["LAND_LINE", "THING_LINE", "APART_LINE", "PLACE_LINE", "FIRST_LINE", "PAPER_LINE", "NARROW_LINE", "THERE_PART", "GROUND_PART", "VOICE_PART", "DEAD_PART", "LOUD_PART", "SHARP_PART", "BEAR_PART", "WORTH_PART"]
def wln : List Nat := [4, 5, 5, 5, 5, 5, 6, 5, 6, 5, 4, 4, 5, 4, 5]
def wby : List (List Int32) := [[108, 97, 110, 100], [116, 104, 105, 110, 103], [97, 112, 97, 114, 116], [112, 108, 97, 99, 101], [102, 105, 114, 115, 116], [112, 97, 112, 101, 114], [110, 97, 114, 114, 111, 119], [116, 104, 101, 114, 101], [103, 114, 111, 117, 110, 100], [118, 111, 105, 99, 101], [100, 101, 97, 100], [108, 111, 117, 100], [115, 104, 97, 114, 112], [98, 101, 97, 114], [119, 111, 114, 116, 104]]
def wwh : List Int32 := [(-1), (-1), (-1), (-1), (-1), (-1), (-1), (-1), (-1), (-1), (-1), 4, 5, 6, 7]
def wle : List Int32 := [0, 0, 0, 0, 0, 0, 0, 0, 0, 0, 0, 1, 1, 0, 0]
def wgr : List Int32 := [0, 0, 0, 0, 0, 0, 0, 0, 0, 0, 0, 999, 99, 9999, 9999]
def wFl : List (String × String × String × List Int32) := [(RX10, "what", "I", wwh), (RX10, "least", "I", wle), (RX10, "greatest", "I", wgr)]
def SW (z : ZA) (A : Nat → Prop) (U : State) (H : Heap) : Prop := va_En RX10 "LRingPlaces$Word;" wnm wFl z.1 A U H ∧ va_Ef 15 RX10 "text" "Ljava/lang/String;" (fun k => .ref (z.2.1 k)) z.1 A U H ∧ vk_S 15 wln wby z.2.1 z.2.2.1 A U H ∧ va_T (.object RX10) z.2.2.2 15 (fun k => .ref (z.1 k)) A U H ∧ va_Z RX10 "ALL" "[LRingPlaces$Word;" (.ref z.2.2.2) A U H ∧ va_Z "java/lang/String" "COMPACT_STRINGS" "Z" (.int 1) A U H ∧ ∃ r : Option Nat, va_Z "jdk/internal/util/Preconditions" "SIOOBE_FORMATTER" "Ljava/util/function/BiFunction;" (va_rf r) A U H
theorem SW.moved {z : ZA} {A : Nat → Prop} {u U : State} {H : Heap} (hvm : u.vm.Alike U.vm) (h : SW z A u H) : SW z A U H := by
  obtain ⟨h1, h2, h3, h4, h5, h6, r, h7⟩ := h
  exact ⟨va_En.moved hvm h1, va_Ef.moved hvm h2, vk_S.moved hvm h3, va_T.moved hvm h4, va_Z.moved hvm h5, va_Z.moved hvm h6, r, va_Z.moved hvm h7⟩
theorem SW.kept {z : ZA} {A : Nat → Prop} {U : State} {H H1 : Heap} (h : SW z A U H) (hq : ∀ a : Nat, a < H.size → ¬ A a → H1[a]? = H[a]?) : SW z A U H1 := by
  obtain ⟨h1, h2, h3, h4, h5, h6, r, h7⟩ := h
  exact ⟨h1.kept hq, h2.kept hq, h3.kept hq, h4.kept hq, h5.kept hq, h6.kept hq, r, h7.kept hq⟩
theorem SW.narrow {z : ZA} {A B : Nat → Prop} {U : State} {H : Heap} (h : SW z A U H) (hAB : ∀ q, B q → A q) : SW z B U H := by
  obtain ⟨h1, h2, h3, h4, h5, h6, r, h7⟩ := h
  exact ⟨h1.narrow hAB, h2.narrow hAB, h3.narrow hAB, h4.narrow hAB, h5.narrow hAB, h6.narrow hAB, r, h7.narrow hAB⟩
/-- a word by its number; none: -1 -/
def we (z : ZA) (x : Int32) : Option Nat := if x = -1 then none else some (z.1 x.toNatClampNeg)
def PwS (D : va_G) (dA : Nat → ClassId) (z : ZA) (w : va_W) (sz : Nat) (av : List Value) : Array Value → State → Prop :=
  va_Pc av (fun U => (U.heap.size = sz ∧ va_P D vwCl w U.heap ∧ va_K D vwCl (AY dA) U ∧ va_D (fun _ => True) w ∧ NW U) ∧ SW z (va_A w sz) U U.heap)
theorem PwS.blind {D : va_G} {dA : Nat → ClassId} {z : ZA} {w : va_W} {sz : Nat} {av : List Value} : FrameBlind (PwS D dA z w sz av) := by
  intro a U g mk q
  obtain ⟨q0, ⟨q1, qP, qK, qD, qN⟩, qS⟩ := q
  exact ⟨q0, ⟨q1, qP, va_K.moved (u := U) (U := U.calling g mk a) (Vm.Alike.refl U.vm) qK, qD, NW.same (u := U) rfl qN⟩, SW.moved (u := U) (U := U.calling g mk a) (Vm.Alike.refl U.vm) qS⟩
def MiS (l : Launch) (D : va_G) (dA : Nat → ClassId) (z : ZA) (y : MethodName) (ws : List Cond) (fr lo : Nat) (av : List Value) (w w1 : va_W) (r : Int32) : Prop :=
  ∀ sz, Met l y ws (rmm fr lo) (PwS D dA z w sz av) (Qi D w w1 r sz) 0 0 (va_A w sz)
def MvS (l : Launch) (D : va_G) (dA : Nat → ClassId) (z : ZA) (y : MethodName) (ws : List Cond) (fr lo : Nat) (av : List Value) (w w1 : va_W) : Prop :=
  ∀ sz, Met l y ws (rmm fr lo) (PwS D dA z w sz av) (Qv D w w1 sz) 0 0 (va_A w sz)
abbrev Qw (D : va_G) (z : ZA) (w w1 : va_W) (r : Int32) (sz : Nat) : Array Value → State → Outcome → State → Prop := va_Qq (fun (x : Option Nat) (_ : Unit) => x = we z r) (Bw D w w1 sz) (va_A w sz)
def MqS (l : Launch) (D : va_G) (dA : Nat → ClassId) (z : ZA) (y : MethodName) (ws : List Cond) (fr lo : Nat) (av : List Value) (w w1 : va_W) (r : Int32) : Prop :=
  ∀ sz, Met l y ws (rmm fr lo) (PwS D dA z w sz av) (Qw D z w w1 r sz) 0 0 (va_A w sz)
section KZ
variable {p : Program} {l : Launch} {e : Env} {R : Room} {s : State} {m : MethodId} {args : Array Value} {below : List Frame} {meth : Method} {c : Code} {H : Heap} {locs : List Loc} {cells slots : Nat} {Q : State → Prop}
variable {cc : ByteArray} {nL : Nat} {ret : Option FieldType} {own : String} {D : va_G} {dA : Nat → ClassId} {w0 w w1 : va_W} {pc : Nat} {ls : Array Slot} {rest : List Value} {a : Nat} {z : ZA}
theorem M_ofS {y : MethodName} {fr lo sz : Nat} {av : List Value} {Qc : Array Value → State → Outcome → State → Prop} (hy : plainName y.cls = true) (hc : y.cls = own) (hlen : (lg_sl av).length ≤ nL)
    (body : ∀ (p : Program) (e : Env) (s : State) (m : MethodId) (below : List Frame) (meth : Method) (c : Code) (ls : Array Slot), s.heap.size = sz → CX p s m av.toArray meth c cc nL ret own D dA → St D w s w s.heap [] → SW z (va_A w s.heap.size) s s.heap → lv_has ls nL (lv_args 0 av) → W p l e (rmm fr lo) s m av.toArray below meth c s.heap [] 0 0 (MQ below Qc av.toArray s 0 0 (va_A w sz)) (F0 m 0 ls [])) :
    Met l y (Cond.code y cc nL ret :: wA) (rmm fr lo) (PwS D dA z w sz av) Qc 0 0 (va_A w sz) := by
  refine Met.ofW (cc := cc) (maxL := nL) (ret := ret) hy rfl ?_
  intro p e s m args below meth c s₁ B hml hv
  obtain ⟨rfl, ⟨hsz, hP, hK, hD0, hN⟩, hZ⟩ := hv
  have hl := lv_entry av (n := nL) hlen
  rw [lg_entry_eq]
  generalize (lg_sl av ++ List.replicate (nL - (lg_sl av).length) Slot.unset).toArray = ls at hl ⊢
  have hown : s.vm.findClass own = some m.cls := by rw [← hc]; exact findClass_of_methodNamed B.named
  exact body p e s m below meth c ls hsz ⟨B.exec, B.bytes, hml, hown, fun w hw => atoms_spec (ws := Cond.code y cc nL ret :: wA) B.pre w (List.mem_cons_of_mem _ hw), B.returns, B.notSynchronized, hK, hN⟩ ⟨hP, by have h := hD0.self (sz := s.heap.size); exact h, va_S.rf⟩ (by rw [hsz]; exact hZ) hl
theorem M_ofFS {y : MethodName} {fr lo sz : Nat} {av : List Value} {Qc : Array Value → State → Outcome → State → Prop} (hy : plainFor y = true) (hc : y.cls = own) (hlen : (lg_sl av).length ≤ nL)
    (body : ∀ (p : Program) (e : Env) (s : State) (m : MethodId) (below : List Frame) (meth : Method) (c : Code) (ls : Array Slot), s.heap.size = sz → CX p s m av.toArray meth c cc nL ret own D dA → St D w s w s.heap [] → SW z (va_A w s.heap.size) s s.heap → lv_has ls nL (lv_args 0 av) → W p l e (rmm fr lo) s m av.toArray below meth c s.heap [] 0 0 (MQ below Qc av.toArray s 0 0 (va_A w sz)) (F0 m 0 ls [])) :
    Met l y (Cond.code y cc nL ret :: wA) (rmm fr lo) (PwS D dA z w sz av) Qc 0 0 (va_A w sz) := by
  refine va_MetF (cc := cc) (maxL := nL) (ret := ret) hy rfl ?_
  intro p e s m args below meth c s₁ B hml hv
  obtain ⟨rfl, ⟨hsz, hP, hK, hD0, hN⟩, hZ⟩ := hv
  have hl := lv_entry av (n := nL) hlen
  rw [lg_entry_eq]
  generalize (lg_sl av ++ List.replicate (nL - (lg_sl av).length) Slot.unset).toArray = ls at hl ⊢
  have hown : s.vm.findClass own = some m.cls := by rw [← hc]; exact findClass_of_methodNamed B.named
  exact body p e s m below meth c ls hsz ⟨B.exec, B.bytes, hml, hown, fun w hw => atoms_spec (ws := Cond.code y cc nL ret :: wA) B.pre w (List.mem_cons_of_mem _ hw), B.returns, B.notSynchronized, hK, hN⟩ ⟨hP, by have h := hD0.self (sz := s.heap.size); exact h, va_S.rf⟩ (by rw [hsz]; exact hZ) hl
theorem k_zcallVi (C : CX p s m args meth c cc nL ret own D dA) (h : St D w0 s w H locs) (hz : SW z (va_A w0 s.heap.size) s s.heap) {y : MethodName} {bytes : ByteArray} {maxL fr lo index n : Nat} {rt : Option FieldType} {b : Nat} {C1 : String} {As : List Value} {r : Int32} (isC isR pm : List Nat) {wc wc1 wr : va_W} (hC : isC.map (fun i => w[i]?) = wc.map some) (hRr : isR.map (fun i => w[i]?) = wr.map some) (hnc : va_nd isC = true) (hnd : va_nd isR = true) (hdis : ∀ i ∈ isR, i ∉ isC) (hpm : pm.map (fun i => (wr ++ wc1)[i]?) = w1.map some) (hnp : va_nd pm = true) (hM : MiS l D dA z y (Cond.code y bytes maxL rt :: wA) fr lo (.ref b :: As) wc wc1 r) (h1 : Cond.methodLink own index y ∈ wA) (h2 : Cond.instanceMethod y ∈ wA) (h3 : Cond.selects C1 y y ∈ wA) (h4 : Cond.initialized C1 ∈ wA) (h5 : Cond.code y bytes maxL rt ∈ wA) (hcl : y.cls = C1) (hd : y.cls ≠ "java/lang/invoke/MethodHandle" ∧ y.cls ≠ "java/lang/invoke/VarHandle" ∧ (parseMethodDescriptor y.desc).map (fun d => d.parameters.length) = some n) (hR : fr + 1 ≤ R.frames ∧ 8 + (maxL + 11) + lo ≤ R.locals) (hcs : cells ≤ R.cells ∧ slots ≤ R.slots) (hn : As.length = n) (q0 : Nat) {ci N : Nat} {T : u_T} {fs : List Value} (hq : wc[q0]? = some (b, .inr (ci, fs))) (hvc : vwCl[ci]? = some (C1, T, N)) (hsz : ls.size = nL) (hrm : (rest.map fun v => v.category).sum ≤ 8) (hdg : decode cc pc = .ok (.invokevirtual index, 3)) {st0 : List Value} (hst : st0 = As.reverse ++ .ref b :: rest)
    (kk : ∀ (H1 : Heap) (locs1 : List Loc), St D w0 s w1 H1 locs1 → W p l e R s m args below meth c H1 locs1 cells slots Q (F0 m (pc + 3) ls (.int r :: rest))) : W p l e R s m args below meth c H locs cells slots Q (F0 m pc ls st0) := by
  obtain ⟨hP, hD, hS⟩ := h
  have hA : ∀ q : Nat, s.heap.size ≤ q → va_A w0 s.heap.size q := fun q z => Or.inr z
  have hPc := hP.sub (ws' := wc) isC (fm_some hC)
  have hFc := va_free (wc := wc) hD hS hA isC hC
  have hDc : va_D (fun _ => True) wc := (hD.sub isC hnc hC).weaken (fun _ _ _ _ => trivial)
  have hpre : ∀ U : State, U.heap = H → s.WarmedH U.vm → PwS D dA z wc H.size (.ref b :: As) (Value.ref b :: As).toArray U := fun U hU hW => ⟨rfl, ⟨by rw [hU], by rw [hU]; exact hPc, va_K.moved hW.alike C.2.2.2.2.2.2.2.1, hDc, NW.warm hW C.2.2.2.2.2.2.2.2⟩, by rw [hU]; exact SW.moved hW.alike (SW.narrow (SW.kept hz hS.2.1) hFc)⟩
  refine va_calli (va_runV (As := As) (rest := rest) ⟨C.1, C.2.1, C.2.2.1, C.2.2.2.1, C.2.2.2.2.1⟩ (hM H.size) (cwV n C.2.2.2.2.1 (gA_V h1 h2 h3 h4 h5) rfl rfl rfl ⟨hcl, hd⟩ hR) ⟨PwS.blind, va_recv C.2.2.2.2.2.2.2.1 hPc hvc hq, hpre⟩ rfl hn hsz hst (lv_room hrm) hdg hcs) hS (fun q _ z => hFc q z) hFc (fun r1 _ t H1 locs1 ht hvm hw2 hB hz1 hk1 hS1 => ?_)
  obtain ⟨hP1, hD1⟩ := hB
  rw [ht] at hP1
  obtain ⟨hP2, hD2⟩ := va_join hP hD isC isR hC hRr hnd hdis hk1 hFc hP1 hD1
  subst hw2
  exact kk H1 locs1 ⟨hP2.sub pm (fm_some hpm), hD2.sub pm hnp hpm, hS1⟩
theorem k_zcallVv (C : CX p s m args meth c cc nL ret own D dA) (h : St D w0 s w H locs) (hz : SW z (va_A w0 s.heap.size) s s.heap) {y : MethodName} {bytes : ByteArray} {maxL fr lo index n : Nat} {rt : Option FieldType} {b : Nat} {C1 : String} {As : List Value} (isC isR pm : List Nat) {wc wc1 wr : va_W} (hC : isC.map (fun i => w[i]?) = wc.map some) (hRr : isR.map (fun i => w[i]?) = wr.map some) (hnc : va_nd isC = true) (hnd : va_nd isR = true) (hdis : ∀ i ∈ isR, i ∉ isC) (hpm : pm.map (fun i => (wr ++ wc1)[i]?) = w1.map some) (hnp : va_nd pm = true) (hM : MvS l D dA z y (Cond.code y bytes maxL rt :: wA) fr lo (.ref b :: As) wc wc1) (h1 : Cond.methodLink own index y ∈ wA) (h2 : Cond.instanceMethod y ∈ wA) (h3 : Cond.selects C1 y y ∈ wA) (h4 : Cond.initialized C1 ∈ wA) (h5 : Cond.code y bytes maxL rt ∈ wA) (hcl : y.cls = C1) (hd : y.cls ≠ "java/lang/invoke/MethodHandle" ∧ y.cls ≠ "java/lang/invoke/VarHandle" ∧ (parseMethodDescriptor y.desc).map (fun d => d.parameters.length) = some n) (hR : fr + 1 ≤ R.frames ∧ 8 + (maxL + 11) + lo ≤ R.locals) (hcs : cells ≤ R.cells ∧ slots ≤ R.slots) (hn : As.length = n) (q0 : Nat) {ci N : Nat} {T : u_T} {fs : List Value} (hq : wc[q0]? = some (b, .inr (ci, fs))) (hvc : vwCl[ci]? = some (C1, T, N)) (hsz : ls.size = nL) (hrm : (rest.map fun v => v.category).sum ≤ 8) (hdg : decode cc pc = .ok (.invokevirtual index, 3)) {st0 : List Value} (hst : st0 = As.reverse ++ .ref b :: rest)
    (kk : ∀ (H1 : Heap) (locs1 : List Loc), St D w0 s w1 H1 locs1 → W p l e R s m args below meth c H1 locs1 cells slots Q (F0 m (pc + 3) ls (rest))) : W p l e R s m args below meth c H locs cells slots Q (F0 m pc ls st0) := by
  obtain ⟨hP, hD, hS⟩ := h
  have hA : ∀ q : Nat, s.heap.size ≤ q → va_A w0 s.heap.size q := fun q z => Or.inr z
  have hPc := hP.sub (ws' := wc) isC (fm_some hC)
  have hFc := va_free (wc := wc) hD hS hA isC hC
  have hDc : va_D (fun _ => True) wc := (hD.sub isC hnc hC).weaken (fun _ _ _ _ => trivial)
  have hpre : ∀ U : State, U.heap = H → s.WarmedH U.vm → PwS D dA z wc H.size (.ref b :: As) (Value.ref b :: As).toArray U := fun U hU hW => ⟨rfl, ⟨by rw [hU], by rw [hU]; exact hPc, va_K.moved hW.alike C.2.2.2.2.2.2.2.1, hDc, NW.warm hW C.2.2.2.2.2.2.2.2⟩, by rw [hU]; exact SW.moved hW.alike (SW.narrow (SW.kept hz hS.2.1) hFc)⟩
  refine va_callv (va_runV (As := As) (rest := rest) ⟨C.1, C.2.1, C.2.2.1, C.2.2.2.1, C.2.2.2.2.1⟩ (hM H.size) (cwV n C.2.2.2.2.1 (gA_V h1 h2 h3 h4 h5) rfl rfl rfl ⟨hcl, hd⟩ hR) ⟨PwS.blind, va_recv C.2.2.2.2.2.2.2.1 hPc hvc hq, hpre⟩ rfl hn hsz hst (lv_room hrm) hdg hcs) hS (fun q _ z => hFc q z) hFc (fun _ t H1 locs1 ht hvm hw2 hB hz1 hk1 hS1 => ?_)
  obtain ⟨hP1, hD1⟩ := hB
  rw [ht] at hP1
  obtain ⟨hP2, hD2⟩ := va_join hP hD isC isR hC hRr hnd hdis hk1 hFc hP1 hD1
  
  exact kk H1 locs1 ⟨hP2.sub pm (fm_some hpm), hD2.sub pm hnp hpm, hS1⟩
theorem k_zcallKi (C : CX p s m args meth c cc nL ret own D dA) (h : St D w0 s w H locs) (hz : SW z (va_A w0 s.heap.size) s s.heap) {y : MethodName} {bytes : ByteArray} {maxL fr lo index n : Nat} {rt : Option FieldType} {b : Nat} {C1 : String} {As : List Value} {r : Int32} (isC isR pm : List Nat) {wc wc1 wr : va_W} (hC : isC.map (fun i => w[i]?) = wc.map some) (hRr : isR.map (fun i => w[i]?) = wr.map some) (hnc : va_nd isC = true) (hnd : va_nd isR = true) (hdis : ∀ i ∈ isR, i ∉ isC) (hpm : pm.map (fun i => (wr ++ wc1)[i]?) = w1.map some) (hnp : va_nd pm = true) (hM : MiS l D dA z y (Cond.code y bytes maxL rt :: wA) fr lo (.ref b :: As) wc wc1 r) (h1 : Cond.methodLink own index y ∈ wA) (h2 : Cond.instanceMethod y ∈ wA) (h3 : Cond.selects C1 y y ∈ wA) (h4 : Cond.initialized C1 ∈ wA) (h5 : Cond.code y bytes maxL rt ∈ wA) (hcl : y.cls = C1) (hd : y.cls ≠ "java/lang/invoke/MethodHandle" ∧ y.cls ≠ "java/lang/invoke/VarHandle" ∧ (parseMethodDescriptor y.desc).map (fun d => d.parameters.length) = some n) (hR : fr + 1 ≤ R.frames ∧ 8 + (maxL + 11) + lo ≤ R.locals) (hcs : cells ≤ R.cells ∧ slots ≤ R.slots) (hn : As.length = n) (hrv : ∃ cell : Cell, H[b]? = some cell ∧ cell.vm.isStatics = false ∧ s.vm.findClass C1 = some cell.cls) (hsz : ls.size = nL) (hrm : (rest.map fun v => v.category).sum ≤ 8) (hdg : decode cc pc = .ok (.invokevirtual index, 3)) {st0 : List Value} (hst : st0 = As.reverse ++ .ref b :: rest)
    (kk : ∀ (H1 : Heap) (locs1 : List Loc), St D w0 s w1 H1 locs1 → W p l e R s m args below meth c H1 locs1 cells slots Q (F0 m (pc + 3) ls (.int r :: rest))) : W p l e R s m args below meth c H locs cells slots Q (F0 m pc ls st0) := by
  obtain ⟨hP, hD, hS⟩ := h
  have hA : ∀ q : Nat, s.heap.size ≤ q → va_A w0 s.heap.size q := fun q z => Or.inr z
  have hPc := hP.sub (ws' := wc) isC (fm_some hC)
  have hFc := va_free (wc := wc) hD hS hA isC hC
  have hDc : va_D (fun _ => True) wc := (hD.sub isC hnc hC).weaken (fun _ _ _ _ => trivial)
  have hpre : ∀ U : State, U.heap = H → s.WarmedH U.vm → PwS D dA z wc H.size (.ref b :: As) (Value.ref b :: As).toArray U := fun U hU hW => ⟨rfl, ⟨by rw [hU], by rw [hU]; exact hPc, va_K.moved hW.alike C.2.2.2.2.2.2.2.1, hDc, NW.warm hW C.2.2.2.2.2.2.2.2⟩, by rw [hU]; exact SW.moved hW.alike (SW.narrow (SW.kept hz hS.2.1) hFc)⟩
  refine va_calli (va_runV (As := As) (rest := rest) ⟨C.1, C.2.1, C.2.2.1, C.2.2.2.1, C.2.2.2.2.1⟩ (hM H.size) (cwV n C.2.2.2.2.1 (gA_V h1 h2 h3 h4 h5) rfl rfl rfl ⟨hcl, hd⟩ hR) ⟨PwS.blind, hrv, hpre⟩ rfl hn hsz hst (lv_room hrm) hdg hcs) hS (fun q _ z => hFc q z) hFc (fun r1 _ t H1 locs1 ht hvm hw2 hB hz1 hk1 hS1 => ?_)
  obtain ⟨hP1, hD1⟩ := hB
  rw [ht] at hP1
  obtain ⟨hP2, hD2⟩ := va_join hP hD isC isR hC hRr hnd hdis hk1 hFc hP1 hD1
  subst hw2
  exact kk H1 locs1 ⟨hP2.sub pm (fm_some hpm), hD2.sub pm hnp hpm, hS1⟩
theorem k_zcallSi (C : CX p s m args meth c cc nL ret own D dA) (h : St D w0 s w H locs) (hz : SW z (va_A w0 s.heap.size) s s.heap) {y : MethodName} {bytes : ByteArray} {maxL fr lo index n : Nat} {rt : Option FieldType} {As : List Value} {r : Int32} (isC isR pm : List Nat) {wc wc1 wr : va_W} (hC : isC.map (fun i => w[i]?) = wc.map some) (hRr : isR.map (fun i => w[i]?) = wr.map some) (hnc : va_nd isC = true) (hnd : va_nd isR = true) (hdis : ∀ i ∈ isR, i ∉ isC) (hpm : pm.map (fun i => (wr ++ wc1)[i]?) = w1.map some) (hnp : va_nd pm = true) (hM : MiS l D dA z y (Cond.code y bytes maxL rt :: wA) fr lo As wc wc1 r) (h1 : Cond.methodLink own index y ∈ wA) (h2 : Cond.static y ∈ wA) (h4 : Cond.initialized y.cls ∈ wA) (h5 : Cond.code y bytes maxL rt ∈ wA) (hd : y.cls ≠ "java/lang/invoke/MethodHandle" ∧ y.cls ≠ "java/lang/invoke/VarHandle" ∧ (parseMethodDescriptor y.desc).map (fun d => d.parameters.length) = some n) (hR : fr + 1 ≤ R.frames ∧ 8 + (maxL + 11) + lo ≤ R.locals) (hcs : cells ≤ R.cells ∧ slots ≤ R.slots) (hn : As.length = n) (hsz : ls.size = nL) (hrm : (rest.map fun v => v.category).sum ≤ 8) (hdg : decode cc pc = .ok (.invokestatic index, 3)) {st0 : List Value} (hst : st0 = As.reverse ++ rest)
    (kk : ∀ (H1 : Heap) (locs1 : List Loc), St D w0 s w1 H1 locs1 → W p l e R s m args below meth c H1 locs1 cells slots Q (F0 m (pc + 3) ls (.int r :: rest))) : W p l e R s m args below meth c H locs cells slots Q (F0 m pc ls st0) := by
  obtain ⟨hP, hD, hS⟩ := h
  have hA : ∀ q : Nat, s.heap.size ≤ q → va_A w0 s.heap.size q := fun q z => Or.inr z
  have hPc := hP.sub (ws' := wc) isC (fm_some hC)
  have hFc := va_free (wc := wc) hD hS hA isC hC
  have hDc : va_D (fun _ => True) wc := (hD.sub isC hnc hC).weaken (fun _ _ _ _ => trivial)
  have hpre : ∀ U : State, U.heap = H → s.WarmedH U.vm → PwS D dA z wc H.size As As.toArray U := fun U hU hW => ⟨rfl, ⟨by rw [hU], by rw [hU]; exact hPc, va_K.moved hW.alike C.2.2.2.2.2.2.2.1, hDc, NW.warm hW C.2.2.2.2.2.2.2.2⟩, by rw [hU]; exact SW.moved hW.alike (SW.narrow (SW.kept hz hS.2.1) hFc)⟩
  refine va_calli (va_runS (As := As) (rest := rest) ⟨C.1, C.2.1, C.2.2.1, C.2.2.2.1, C.2.2.2.2.1⟩ (hM H.size) (va_cwS n C.2.2.2.2.1 (gA_S h1 h2 h4 h5) rfl rfl rfl hd hR) ⟨PwS.blind, hpre⟩ rfl hn hsz hst (lv_room hrm) hdg hcs) hS (fun q _ z => hFc q z) hFc (fun r1 _ t H1 locs1 ht hvm hw2 hB hz1 hk1 hS1 => ?_)
  obtain ⟨hP1, hD1⟩ := hB
  rw [ht] at hP1
  obtain ⟨hP2, hD2⟩ := va_join hP hD isC isR hC hRr hnd hdis hk1 hFc hP1 hD1
  subst hw2
  exact kk H1 locs1 ⟨hP2.sub pm (fm_some hpm), hD2.sub pm hnp hpm, hS1⟩
theorem k_zcallSv (C : CX p s m args meth c cc nL ret own D dA) (h : St D w0 s w H locs) (hz : SW z (va_A w0 s.heap.size) s s.heap) {y : MethodName} {bytes : ByteArray} {maxL fr lo index n : Nat} {rt : Option FieldType} {As : List Value} (isC isR pm : List Nat) {wc wc1 wr : va_W} (hC : isC.map (fun i => w[i]?) = wc.map some) (hRr : isR.map (fun i => w[i]?) = wr.map some) (hnc : va_nd isC = true) (hnd : va_nd isR = true) (hdis : ∀ i ∈ isR, i ∉ isC) (hpm : pm.map (fun i => (wr ++ wc1)[i]?) = w1.map some) (hnp : va_nd pm = true) (hM : MvS l D dA z y (Cond.code y bytes maxL rt :: wA) fr lo As wc wc1) (h1 : Cond.methodLink own index y ∈ wA) (h2 : Cond.static y ∈ wA) (h4 : Cond.initialized y.cls ∈ wA) (h5 : Cond.code y bytes maxL rt ∈ wA) (hd : y.cls ≠ "java/lang/invoke/MethodHandle" ∧ y.cls ≠ "java/lang/invoke/VarHandle" ∧ (parseMethodDescriptor y.desc).map (fun d => d.parameters.length) = some n) (hR : fr + 1 ≤ R.frames ∧ 8 + (maxL + 11) + lo ≤ R.locals) (hcs : cells ≤ R.cells ∧ slots ≤ R.slots) (hn : As.length = n) (hsz : ls.size = nL) (hrm : (rest.map fun v => v.category).sum ≤ 8) (hdg : decode cc pc = .ok (.invokestatic index, 3)) {st0 : List Value} (hst : st0 = As.reverse ++ rest)
    (kk : ∀ (H1 : Heap) (locs1 : List Loc), St D w0 s w1 H1 locs1 → W p l e R s m args below meth c H1 locs1 cells slots Q (F0 m (pc + 3) ls (rest))) : W p l e R s m args below meth c H locs cells slots Q (F0 m pc ls st0) := by
  obtain ⟨hP, hD, hS⟩ := h
  have hA : ∀ q : Nat, s.heap.size ≤ q → va_A w0 s.heap.size q := fun q z => Or.inr z
  have hPc := hP.sub (ws' := wc) isC (fm_some hC)
  have hFc := va_free (wc := wc) hD hS hA isC hC
  have hDc : va_D (fun _ => True) wc := (hD.sub isC hnc hC).weaken (fun _ _ _ _ => trivial)
  have hpre : ∀ U : State, U.heap = H → s.WarmedH U.vm → PwS D dA z wc H.size As As.toArray U := fun U hU hW => ⟨rfl, ⟨by rw [hU], by rw [hU]; exact hPc, va_K.moved hW.alike C.2.2.2.2.2.2.2.1, hDc, NW.warm hW C.2.2.2.2.2.2.2.2⟩, by rw [hU]; exact SW.moved hW.alike (SW.narrow (SW.kept hz hS.2.1) hFc)⟩
  refine va_callv (va_runS (As := As) (rest := rest) ⟨C.1, C.2.1, C.2.2.1, C.2.2.2.1, C.2.2.2.2.1⟩ (hM H.size) (va_cwS n C.2.2.2.2.1 (gA_S h1 h2 h4 h5) rfl rfl rfl hd hR) ⟨PwS.blind, hpre⟩ rfl hn hsz hst (lv_room hrm) hdg hcs) hS (fun q _ z => hFc q z) hFc (fun _ t H1 locs1 ht hvm hw2 hB hz1 hk1 hS1 => ?_)
  obtain ⟨hP1, hD1⟩ := hB
  rw [ht] at hP1
  obtain ⟨hP2, hD2⟩ := va_join hP hD isC isR hC hRr hnd hdis hk1 hFc hP1 hD1
  
  exact kk H1 locs1 ⟨hP2.sub pm (fm_some hpm), hD2.sub pm hnp hpm, hS1⟩
theorem k_zcallSq (C : CX p s m args meth c cc nL ret own D dA) (h : St D w0 s w H locs) (hz : SW z (va_A w0 s.heap.size) s s.heap) {y : MethodName} {bytes : ByteArray} {maxL fr lo index n : Nat} {rt : Option FieldType} {As : List Value} {r : Int32} (isC isR pm : List Nat) {wc wc1 wr : va_W} (hC : isC.map (fun i => w[i]?) = wc.map some) (hRr : isR.map (fun i => w[i]?) = wr.map some) (hnc : va_nd isC = true) (hnd : va_nd isR = true) (hdis : ∀ i ∈ isR, i ∉ isC) (hpm : pm.map (fun i => (wr ++ wc1)[i]?) = w1.map some) (hnp : va_nd pm = true) (hM : MqS l D dA z y (Cond.code y bytes maxL rt :: wA) fr lo As wc wc1 r) (h1 : Cond.methodLink own index y ∈ wA) (h2 : Cond.static y ∈ wA) (h4 : Cond.initialized y.cls ∈ wA) (h5 : Cond.code y bytes maxL rt ∈ wA) (hd : y.cls ≠ "java/lang/invoke/MethodHandle" ∧ y.cls ≠ "java/lang/invoke/VarHandle" ∧ (parseMethodDescriptor y.desc).map (fun d => d.parameters.length) = some n) (hR : fr + 1 ≤ R.frames ∧ 8 + (maxL + 11) + lo ≤ R.locals) (hcs : cells ≤ R.cells ∧ slots ≤ R.slots) (hn : As.length = n) (hsz : ls.size = nL) (hrm : (rest.map fun v => v.category).sum ≤ 8) (hdg : decode cc pc = .ok (.invokestatic index, 3)) {st0 : List Value} (hst : st0 = As.reverse ++ rest)
    (kk : ∀ (H1 : Heap) (locs1 : List Loc), St D w0 s w1 H1 locs1 → W p l e R s m args below meth c H1 locs1 cells slots Q (F0 m (pc + 3) ls (va_rf (we z r) :: rest))) : W p l e R s m args below meth c H locs cells slots Q (F0 m pc ls st0) := by
  obtain ⟨hP, hD, hS⟩ := h
  have hA : ∀ q : Nat, s.heap.size ≤ q → va_A w0 s.heap.size q := fun q z => Or.inr z
  have hPc := hP.sub (ws' := wc) isC (fm_some hC)
  have hFc := va_free (wc := wc) hD hS hA isC hC
  have hDc : va_D (fun _ => True) wc := (hD.sub isC hnc hC).weaken (fun _ _ _ _ => trivial)
  have hpre : ∀ U : State, U.heap = H → s.WarmedH U.vm → PwS D dA z wc H.size As As.toArray U := fun U hU hW => ⟨rfl, ⟨by rw [hU], by rw [hU]; exact hPc, va_K.moved hW.alike C.2.2.2.2.2.2.2.1, hDc, NW.warm hW C.2.2.2.2.2.2.2.2⟩, by rw [hU]; exact SW.moved hW.alike (SW.narrow (SW.kept hz hS.2.1) hFc)⟩
  refine va_callq (va_runS (As := As) (rest := rest) ⟨C.1, C.2.1, C.2.2.1, C.2.2.2.1, C.2.2.2.2.1⟩ (hM H.size) (va_cwS n C.2.2.2.2.1 (gA_S h1 h2 h4 h5) rfl rfl rfl hd hR) ⟨PwS.blind, hpre⟩ rfl hn hsz hst (lv_room hrm) hdg hcs) hS (fun q _ z => hFc q z) hFc (fun r1 _ t H1 locs1 ht hvm hw2 hB hz1 hk1 hS1 => ?_)
  obtain ⟨hP1, hD1⟩ := hB
  rw [ht] at hP1
  obtain ⟨hP2, hD2⟩ := va_join hP hD isC isR hC hRr hnd hdis hk1 hFc hP1 hD1
  subst hw2
  exact kk H1 locs1 ⟨hP2.sub pm (fm_some hpm), hD2.sub pm hnp hpm, hS1⟩
theorem k_nret {r : Int32} {ty : FieldType} (C : CX p s m args meth c cc nL (some ty) own D dA) (h : St D w0 s w1 H locs) (hn : narrow ty (.int r) = .int r) (hdg : decode cc pc = .ok (.ireturn, 1)) : W p l e R s m args below meth c H locs cells slots (MQ below (Qi D w0 w1 r s.heap.size) args s cells slots (va_A w0 s.heap.size)) (F0 m pc ls [.int r]) :=
  W.zret C.1 C.2.1 C.2.2.2.2.2.1 hn (fun t ht _ => ⟨⟨r, (), rfl, rfl, by rw [ht]; exact h.1, h.2.1⟩, h.2.2.F ht⟩) h.2.2.2.2 hdg C.2.2.2.2.2.2.1
theorem k_qret {r : Int32} {n : String} (C : CX p s m args meth c cc nL (some (.object n)) own D dA) (h : St D w0 s w1 H locs) (hdg : decode cc pc = .ok (.areturn, 1)) {v : Value} (hv : v = va_rf (we z r)) : W p l e R s m args below meth c H locs cells slots (MQ below (Qw D z w0 w1 r s.heap.size) args s cells slots (va_A w0 s.heap.size)) (F0 m pc ls [v]) := by
  subst hv
  refine W.aret C.1 C.2.1 C.2.2.2.2.2.1 (Or.inl ⟨n, rfl⟩) ?_ (fun t ht _ => ⟨⟨we z r, (), rfl, rfl, by rw [ht]; exact h.1, h.2.1⟩, h.2.2.F ht⟩) h.2.2.2.2 hdg C.2.2.2.2.2.2.1
  cases we z r with
  | none => exact Or.inl rfl
  | some q => exact Or.inr ⟨q, rfl⟩
end KZ
