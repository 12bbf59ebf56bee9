/-! the law's own two methods that catch -/
theorem wL_13 : Cond.classLink RL 13 NSE ∈ wA := List.mem_filter.mpr ⟨by decide +kernel, rfl⟩
def ofO (o : Option Int32) (g : Nat → Int64) : Nat → Int64 := match o with
  | some v => vp_updL g 0 v.toInt64
  | none => g
def orO (o : Option Int32) : Int32 := match o with
  | some _ => 0
  | none => 1
def MLi (l : Launch) (D : va_G) (dA : Nat → ClassId) (y : MethodName) (ws : List Cond) (fr lo : Nat) (av : List Value) (w w1 : va_W) (r : Int32) : Prop :=
  ∀ sz, Met l y ws (rmx fr lo) (PwX D dA w sz av) (Qi D w w1 r sz) 1 6 (va_A w sz)
section KL
variable {p : Program} {l : Launch} {e : Env} {R : Room} {s : State} {m : MethodId} {args : Array Value} {below : List Frame} {meth : Method} {c : Code} {H : Heap} {locs : List Loc} {cells slots : Nat} {Q : State → Prop}
variable {cc : ByteArray} {nL : Nat} {ret : Option FieldType} {own : String} {D : va_G} {dA : Nat → ClassId} {w0 w w1 : va_W} {pc : Nat} {ls : Array Slot} {rest : List Value} {a : Nat}
theorem M_ofL {y : MethodName} {fr lo sz : Nat} {av : List Value} {hh : List (Nat × Nat × Nat × Nat)} {Qc : Array Value → State → Outcome → State → Prop} (hy : plainName y.cls = true) (hc : y.cls = own) (hlen : (lg_sl av).length ≤ nL)
    (body : ∀ (p : Program) (e : Env) (s : State) (m : MethodId) (below : List Frame) (meth : Method) (c : Code) (ls : Array Slot), s.heap.size = sz → CX p s m av.toArray meth c cc nL ret own D dA → St D w s w s.heap [] → XW (va_A w s.heap.size) s s.heap → c.exceptionTable.toList = tableOf hh → lv_has ls nL (lv_args 0 av) → W p l e (rmx fr lo) s m av.toArray below meth c s.heap [] 0 0 (MQ below Qc av.toArray s 1 6 (va_A w sz)) (F0 m 0 ls [])) :
    Met l y (Cond.codeWith y cc nL ret hh :: wA) (rmx fr lo) (PwX D dA w sz av) Qc 1 6 (va_A w sz) := by
  refine va_MetW (cc := cc) (maxL := nL) (ret := ret) hy rfl ?_
  intro p e s m args below meth c s₁ B hml hv
  obtain ⟨rfl, ⟨hsz, hP, hK, hD0, hN⟩, hX⟩ := hv
  have hl := lv_entry av (n := nL) hlen
  rw [lg_entry_eq]
  generalize (lg_sl av ++ List.replicate (nL - (lg_sl av).length) Slot.unset).toArray = ls at hl ⊢
  have hown : s.vm.findClass own = some m.cls := by rw [← hc]; exact findClass_of_methodNamed B.named
  have htb := vx_table (x := y) B (atoms_spec (ws := Cond.codeWith y cc nL ret hh :: wA) B.pre _ List.mem_cons_self)
  exact body p e s m below meth c ls hsz ⟨B.exec, B.bytes, hml, hown, fun w hw => atoms_spec (ws := Cond.codeWith y cc nL ret hh :: wA) B.pre w (List.mem_cons_of_mem _ hw), B.returns, B.notSynchronized, hK, hN⟩ ⟨hP, by have h := hD0.self (sz := s.heap.size); exact h, va_S.rf⟩ (by rw [hsz]; exact hX) htb hl
theorem k_xcallVi (C : CX p s m args meth c cc nL ret own D dA) (h : St D w0 s w H locs) (hxw : XW (va_A w0 s.heap.size) s s.heap) {y : MethodName} {bytes : ByteArray} {maxL fr lo index n : Nat} {rt : Option FieldType} {b : Nat} {C1 : String} {As : List Value} {o : Option Int32} (isC isR pm : List Nat) {wc wr : va_W} (hC : isC.map (fun i => w[i]?) = wc.map some) (hRr : isR.map (fun i => w[i]?) = wr.map some) (hnc : va_nd isC = true) (hnd : va_nd isR = true) (hdis : ∀ i ∈ isR, i ∉ isC) (hpm : pm.map (fun i => (wr ++ wc)[i]?) = w1.map some) (hnp : va_nd pm = true) (hM : Mx l D dA y (Cond.code y bytes maxL rt :: wA) fr lo (.ref b :: As) wc o) (h1 : Cond.methodLink own index y ∈ wA) (h2 : Cond.instanceMethod y ∈ wA) (h3 : Cond.selects C1 y y ∈ wA) (h4 : Cond.initialized C1 ∈ wA) (h5 : Cond.code y bytes maxL rt ∈ wA) (hcl : y.cls = C1) (hd : y.cls ≠ "java/lang/invoke/MethodHandle" ∧ y.cls ≠ "java/lang/invoke/VarHandle" ∧ (parseMethodDescriptor y.desc).map (fun d => d.parameters.length) = some n) (hR : fr + 1 ≤ R.frames ∧ 8 + (maxL + 11) + lo ≤ R.locals) (hcs : cells + 1 ≤ R.cells ∧ slots + 6 ≤ R.slots) (hn : As.length = n) (q0 : Nat) {ci N : Nat} {T : u_T} {fs : List Value} (hq : wc[q0]? = some (b, .inr (ci, fs))) (hvc : vwCl[ci]? = some (C1, T, N)) (hsz : ls.size = nL) (hrm : (rest.map fun v => v.category).sum ≤ 8) (hdg : decode cc pc = .ok (.invokevirtual index, 3)) {st0 : List Value} (hst : st0 = As.reverse ++ .ref b :: rest)
    (kx : ∀ (H1 : Heap) (locs1 : List Loc) (q : Addr) (ce : Cell), o = none → St D w0 s w1 H1 locs1 → H1[q]? = some ce → ce.vm = .none → s.vm.findClass NSE = some ce.cls → vx_W p l e R s m args below meth c H1 locs1 (cells + 1) (slots + 6) Q (F0 m pc ls rest) q)
    (kk : ∀ (H1 : Heap) (locs1 : List Loc) (r : Int32), o = some r → St D w0 s w1 H1 locs1 → W p l e R s m args below meth c H1 locs1 (cells + 1) (slots + 6) Q (F0 m (pc + 3) ls (.int r :: rest))) : W p l e R s m args below meth c H locs cells slots Q (F0 m pc ls st0) := by
  obtain ⟨hP, hD, hS⟩ := h
  have hA : ∀ q : Nat, s.heap.size ≤ q → va_A w0 s.heap.size q := fun q z => Or.inr z
  have hPc := hP.sub (ws' := wc) isC (fm_some hC)
  have hFc := va_free (wc := wc) hD hS hA isC hC
  have hDc : va_D (fun _ => True) wc := (hD.sub isC hnc hC).weaken (fun _ _ _ _ => trivial)
  have hpre : ∀ U : State, U.heap = H → s.WarmedH U.vm → PwX D dA wc H.size (.ref b :: As) (Value.ref b :: As).toArray U := fun U hU hW => ⟨rfl, ⟨by rw [hU], by rw [hU]; exact hPc, va_K.moved hW.alike C.2.2.2.2.2.2.2.1, hDc, NW.warm hW C.2.2.2.2.2.2.2.2⟩, by rw [hU]; exact XW.moved hW.alike (XW.narrow (XW.kept hxw hS.2.1) hFc)⟩
  refine vx_calli (vx_runV (As := As) (rest := rest) ⟨C.1, C.2.1, C.2.2.1, C.2.2.2.1, C.2.2.2.2.1⟩ (hM H.size) (cwV n C.2.2.2.2.1 (gA_V h1 h2 h3 h4 h5) rfl rfl rfl ⟨hcl, hd⟩ hR) ⟨PwX.blind, va_recv C.2.2.2.2.2.2.2.1 hPc hvc hq, hpre⟩ rfl hn hsz hst (lv_room hrm) hdg hcs) hS (fun q _ z => hFc q z) hFc (fun q _ z => hFc q z) (fun E ce q9 _ t H1 locs1 ht hvm ho hB hz1 hk1 hS1 hce hcv hcl9 => ?_) (fun r1 _ t H1 locs1 ht hvm hw2 hB hz1 hk1 hS1 => ?_)
  · obtain ⟨hE, hP1, hD1⟩ := hB
    subst hE
    rw [ht] at hP1
    obtain ⟨hP2, hD2⟩ := va_join hP hD isC isR hC hRr hnd hdis hk1 hFc hP1 hD1
    exact kx H1 locs1 q9 ce ho ⟨hP2.sub pm (fm_some hpm), hD2.sub pm hnp hpm, hS1⟩ hce hcv hcl9
  · obtain ⟨hP1, hD1⟩ := hB
    rw [ht] at hP1
    obtain ⟨hP2, hD2⟩ := va_join hP hD isC isR hC hRr hnd hdis hk1 hFc hP1 hD1
    exact kk H1 locs1 r1 hw2 ⟨hP2.sub pm (fm_some hpm), hD2.sub pm hnp hpm, hS1⟩
theorem k_lxret {r : Int32} (C : CX p s m args meth c cc nL (some .int) own D dA) (h : St D w0 s w1 H locs) {r0 : Int32} (hr : r = r0) {w2 : va_W} (hw2 : w1 = w2) (hdg : decode cc pc = .ok (.ireturn, 1)) : W p l e R s m args below meth c H locs cells slots (MQ below (Qi D w0 w2 r0 s.heap.size) args s cells slots (va_A w0 s.heap.size)) (F0 m pc ls [.int r]) := by
  subst hr
  subst hw2
  exact k_iret C h hdg
end KL
set_option maxHeartbeats 4000000 in
theorem qL_thing (l : Launch) (D : va_G) (dA : Nat → ClassId) (ht ho : Nat) (fs : List Value) (e1 e2 : Nat × va_E) (g : Nat → Int64) (x1 x2 : Int32) (o : Option Int32) (hM : Mx l D dA yX11_thing (Cond.code yX11_thing cX11_thing 3 (some .int) :: wA) 6 81 [.ref ht, .int x1, .int x2] [(ht, .inr (11, fs)), e1, e2] o) :
    MLi l D dA yL_thing (Cond.codeWith yL_thing cL_thing 5 (some .int) [(0, 10, 13, 13)] :: wA) 7 103 [.ref ht, .int x1, .int x2, .ref ho] [(ht, .inr (11, fs)), e1, e2, (ho, .inl (dA 1, 1, .inr (.inl g)))] [(ht, .inr (11, fs)), e1, e2, (ho, .inl (dA 1, 1, .inr (.inl (ofO o g))))] (orO o) := by
  intro sz
  refine M_ofL (cc := cL_thing) (nL := 5) (ret := some .int) (own := RL) (by decide +kernel) rfl (Nat.le_of_ble_eq_true rfl) ?_
  intro p e s m below meth c ls hsz C hw hxw htb hl
  subst hsz
  have hl : lv_has ls 5 [(0, .ref ht), (1, .int x1), (2, .int x2), (3, .ref ho)] := hl
  have hx := C.1
  have hb := C.2.1
  refine lv_aload_n hx hb dL_thing_0 rfl (lv_at hl 3 rfl) ?_
  refine lv_iconst (v := (0 : Int32)) hx hb dL_thing_1 (by decide) ?_
  refine lv_aload_n hx hb dL_thing_2 rfl (lv_at hl 0 rfl) ?_
  refine lv_iload_n hx hb dL_thing_3 rfl (lv_at hl 1 rfl) ?_
  refine lv_iload_n hx hb dL_thing_4 rfl (lv_at hl 2 rfl) ?_
  refine k_xcallVi C hw hxw (n := 2) (As := [.int x1, .int x2]) (w1 := [(ht, .inr (11, fs)), e1, e2, (ho, .inl (dA 1, 1, .inr (.inl g)))]) (wr := [(ho, .inl (dA 1, 1, .inr (.inl g)))]) [0, 1, 2] [3] [1, 2, 3, 0] rfl rfl (by decide) (by decide) (by decide) rfl (by decide) hM wlL_7 wmX11_thing wvX11_thing wnX11 wcX11_thing rfl (by decide +kernel) (by decide) (by decide) rfl 0 rfl rfl hl.1 (Nat.le_of_ble_eq_true rfl) dL_thing_5 rfl (fun H locs q ce ho1 hw hce hcv hcl => ?_) (fun H locs r ho1 hw => ?_)
  · subst ho1
    refine ec_catch (name := NSE) C.2.2.2.1 ⟨0, 10, 13, 13⟩ htb (by decide) (by decide) (C.2.2.2.2.1 _ wL_13) (va_Nw.use rfl hxw.1.1) hce hcv hcl ?_
    refine lv_astore hx hb dL_thing_13 hl (by decide) rfl (fun ls hl => ?_)
    refine lv_iconst (v := (1 : Int32)) hx hb dL_thing_15 (by decide) ?_
    exact k_lxret C hw rfl rfl dL_thing_16
  · subst ho1
    refine lv_i2l hx hb dL_thing_8 rfl ?_
    refine k_last C hw 3 rfl (by unfold vp_in; decide) dL_thing_9 (vp_updL g 0 r.toInt64) rfl _ rfl (fun H locs hw => ?_)
    refine lv_goto (tgt := 17) hx hb dL_thing_10 (by decide) ?_
    refine lv_iconst (v := (0 : Int32)) hx hb dL_thing_17 (by decide) ?_
    exact k_lxret C hw rfl rfl dL_thing_18
set_option maxHeartbeats 4000000 in
theorem qL_drift (l : Launch) (D : va_G) (dA : Nat → ClassId) (ht ho : Nat) (fs : List Value) (e1 e2 : Nat × va_E) (g : Nat → Int64) (x1 x2 x3 : Int32) (o : Option Int32) (hM : Mx l D dA yX11_drift (Cond.code yX11_drift cX11_drift 4 (some .int) :: wA) 6 81 [.ref ht, .int x1, .int x2, .int x3] [(ht, .inr (11, fs)), e1, e2] o) :
    MLi l D dA yL_drift (Cond.codeWith yL_drift cL_drift 6 (some .int) [(0, 12, 15, 13)] :: wA) 7 104 [.ref ht, .int x1, .int x2, .int x3, .ref ho] [(ht, .inr (11, fs)), e1, e2, (ho, .inl (dA 1, 1, .inr (.inl g)))] [(ht, .inr (11, fs)), e1, e2, (ho, .inl (dA 1, 1, .inr (.inl (ofO o g))))] (orO o) := by
  intro sz
  refine M_ofL (cc := cL_drift) (nL := 6) (ret := some .int) (own := RL) (by decide +kernel) rfl (Nat.le_of_ble_eq_true rfl) ?_
  intro p e s m below meth c ls hsz C hw hxw htb hl
  subst hsz
  have hl : lv_has ls 6 [(0, .ref ht), (1, .int x1), (2, .int x2), (3, .int x3), (4, .ref ho)] := hl
  have hx := C.1
  have hb := C.2.1
  refine lv_aload hx hb dL_drift_0 (lv_at hl 4 rfl) ?_
  refine lv_iconst (v := (0 : Int32)) hx hb dL_drift_2 (by decide) ?_
  refine lv_aload_n hx hb dL_drift_3 rfl (lv_at hl 0 rfl) ?_
  refine lv_iload_n hx hb dL_drift_4 rfl (lv_at hl 1 rfl) ?_
  refine lv_iload_n hx hb dL_drift_5 rfl (lv_at hl 2 rfl) ?_
  refine lv_iload_n hx hb dL_drift_6 rfl (lv_at hl 3 rfl) ?_
  refine k_xcallVi C hw hxw (n := 3) (As := [.int x1, .int x2, .int x3]) (w1 := [(ht, .inr (11, fs)), e1, e2, (ho, .inl (dA 1, 1, .inr (.inl g)))]) (wr := [(ho, .inl (dA 1, 1, .inr (.inl g)))]) [0, 1, 2] [3] [1, 2, 3, 0] rfl rfl (by decide) (by decide) (by decide) rfl (by decide) hM wlL_15 wmX11_drift wvX11_drift wnX11 wcX11_drift rfl (by decide +kernel) (by decide) (by decide) rfl 0 rfl rfl hl.1 (Nat.le_of_ble_eq_true rfl) dL_drift_7 rfl (fun H locs q ce ho1 hw hce hcv hcl => ?_) (fun H locs r ho1 hw => ?_)
  · subst ho1
    refine ec_catch (name := NSE) C.2.2.2.1 ⟨0, 12, 15, 13⟩ htb (by decide) (by decide) (C.2.2.2.2.1 _ wL_13) (va_Nw.use rfl hxw.1.1) hce hcv hcl ?_
    refine lv_astore hx hb dL_drift_15 hl (by decide) rfl (fun ls hl => ?_)
    refine lv_iconst (v := (1 : Int32)) hx hb dL_drift_17 (by decide) ?_
    exact k_lxret C hw rfl rfl dL_drift_18
  · subst ho1
    refine lv_i2l hx hb dL_drift_10 rfl ?_
    refine k_last C hw 3 rfl (by unfold vp_in; decide) dL_drift_11 (vp_updL g 0 r.toInt64) rfl _ rfl (fun H locs hw => ?_)
    refine lv_goto (tgt := 19) hx hb dL_drift_12 (by decide) ?_
    refine lv_iconst (v := (0 : Int32)) hx hb dL_drift_19 (by decide) ?_
    exact k_lxret C hw rfl rfl dL_drift_20
