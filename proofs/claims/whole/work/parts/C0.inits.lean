/-! constructors that make rows of references: their classes are known -/
def AOK (U : State) : Prop := va_AO "RingPlaces$Word" U ∧ va_AO "RingPlaces$Ring" U ∧ va_AO "RingPlaces$Standing" U
theorem AOK.moved {u U : State} (hvm : u.vm.Alike U.vm) (h : AOK u) : AOK U := ⟨h.1.moved hvm, h.2.1.moved hvm, h.2.2.moved hvm⟩
def PwO (D : va_G) (dA : Nat → ClassId) (w : va_W) (sz : Nat) (av : List Value) : Array Value → State → Prop :=
  va_Pc av (fun U => (U.heap.size = sz ∧ va_P D vwCl w U.heap ∧ va_K D vwCl (AY dA) U ∧ va_D (fun _ => True) w ∧ NW U) ∧ AOK U)
theorem PwO.blind {D : va_G} {dA : Nat → ClassId} {w : va_W} {sz : Nat} {av : List Value} : FrameBlind (PwO D dA w sz av) := by
  intro a U g mk q
  obtain ⟨q0, ⟨q1, qP, qK, qD, qN⟩, qS⟩ := q
  exact ⟨q0, ⟨q1, qP, va_K.moved (u := U) (U := U.calling g mk a) (Vm.Alike.refl U.vm) qK, qD, NW.same (u := U) rfl qN⟩, AOK.moved (u := U) (U := U.calling g mk a) (Vm.Alike.refl U.vm) qS⟩
def McO (l : Launch) (D : va_G) (dA : Nat → ClassId) (y : MethodName) (ws : List Cond) (fr lo mc ms : Nat) (av : List Value) (w : va_W) (w1 : (Nat → Nat) → va_W) : Prop :=
  ∀ sz, Met l y ws (rma fr lo mc ms) (PwO D dA w sz av) (va_Qv (fun (_ : Nat → Nat) => True) (fun u t => va_P D vwCl (w1 u) t.heap ∧ va_D (va_A w sz) (w1 u)) (va_A w sz)) mc ms (va_A w sz)
theorem up_0 {a : Nat} : va_up (fun _ => none) (0 : Int32).toNatClampNeg (some a) = fun i => ([some a] : List (Option Nat)).getD i none := by
  funext i
  show (if i = 0 then some a else none) = _
  cases i with
  | zero => rfl
  | succ i => rfl
theorem up_1 {a b : Nat} : va_up (fun i => ([some a] : List (Option Nat)).getD i none) (1 : Int32).toNatClampNeg (some b) = fun i => ([some a, some b] : List (Option Nat)).getD i none := by
  funext i
  show (if i = 1 then some b else ([some a] : List (Option Nat)).getD i none) = _
  cases i with
  | zero => rfl
  | succ i =>
    cases i with
    | zero => rfl
    | succ i => rfl
section KO
variable {p : Program} {l : Launch} {e : Env} {R : Room} {s : State} {m : MethodId} {args : Array Value} {below : List Frame} {meth : Method} {c : Code} {H : Heap} {locs : List Loc} {cells slots : Nat} {Q : State → Prop}
variable {cc : ByteArray} {nL : Nat} {ret : Option FieldType} {own : String} {D : va_G} {dA : Nat → ClassId} {w0 w : va_W} {pc : Nat} {ls : Array Slot} {rest : List Value} {a : Nat}
theorem M_ofIO {y : MethodName} {fr lo mc ms sz : Nat} {av : List Value} {Qc : Array Value → State → Outcome → State → Prop} (hy : plainName y.cls = true) (hc : y.cls = own) (hlen : (lg_sl av).length ≤ nL) (hyn : y.name = "<init>")
    (body : ∀ (p : Program) (e : Env) (s : State) (m : MethodId) (below : List Frame) (meth : Method) (c : Code) (ls : Array Slot), s.heap.size = sz → CX p s m av.toArray meth c cc nL ret own D dA → meth.name = "<init>" → St D w s w s.heap [] → AOK s → lv_has ls nL (lv_args 0 av) → W p l e (rma fr lo mc ms) s m av.toArray below meth c s.heap [] 0 0 (MQ below Qc av.toArray s mc ms (va_A w sz)) (F0 m 0 ls [])) :
    Met l y (Cond.code y cc nL ret :: wA) (rma fr lo mc ms) (PwO D dA w sz av) Qc mc ms (va_A w sz) := by
  refine Met.ofW (cc := cc) (maxL := nL) (ret := ret) hy rfl ?_
  intro p e s m args below meth c s₁ B hml hv
  obtain ⟨rfl, ⟨hsz, hP, hK, hD0, hN⟩, hO⟩ := hv
  have hl := lv_entry av (n := nL) hlen
  rw [lg_entry_eq]
  generalize (lg_sl av ++ List.replicate (nL - (lg_sl av).length) Slot.unset).toArray = ls at hl ⊢
  have hown : s.vm.findClass own = some m.cls := by rw [← hc]; exact findClass_of_methodNamed B.named
  have hin : meth.name = "<init>" := (name_of_methodNamed B.named B.method).1.trans hyn
  exact body p e s m below meth c ls hsz ⟨B.exec, B.bytes, hml, hown, fun w hw => atoms_spec (ws := Cond.code y cc nL ret :: wA) B.pre w (List.mem_cons_of_mem _ hw), B.returns, B.notSynchronized, hK, hN⟩ hin ⟨hP, by have h := hD0.self (sz := s.heap.size); exact h, va_S.rf⟩ hO hl
theorem k_ocallI (C : CX p s m args meth c cc nL ret own D dA) (h : St D w0 s w H locs) (hao : AOK s) {y : MethodName} {bytes : ByteArray} {maxL fr lo mc ms index n b : Nat} {As : List Value} (isC isR pm : List Nat) {wc wr : va_W} {wc1 w1 : (Nat → Nat) → va_W} (hC : isC.map (fun i => w[i]?) = wc.map some) (hRr : isR.map (fun i => w[i]?) = wr.map some) (hnc : va_nd isC = true) (hnc : va_nd isC = true) (hnd : va_nd isR = true) (hdis : ∀ i ∈ isR, i ∉ isC) (hpm : ∀ u, pm.map (fun i => (wr ++ wc1 u)[i]?) = (w1 u).map some) (hnp : va_nd pm = true) (hM : McO l D dA y (Cond.code y bytes maxL none :: wA) fr lo mc ms (.ref b :: As) wc wc1) (hlk : Cond.methodLink own index y ∈ wA) (h2 : Cond.instanceMethod y ∈ wA) (h4 : Cond.initialized y.cls ∈ wA) (h5 : Cond.code y bytes maxL none ∈ wA) (hyn : y.name = "<init>") (hd : y.cls ≠ "java/lang/invoke/MethodHandle" ∧ y.cls ≠ "java/lang/invoke/VarHandle" ∧ (parseMethodDescriptor y.desc).map (fun d => d.parameters.length) = some n) (hR : fr + 1 ≤ R.frames ∧ 8 + (maxL + 11) + lo ≤ R.locals) (hcs : cells + mc ≤ R.cells ∧ slots + ms ≤ R.slots) (hn : As.length = n) (hsz : ls.size = nL) (hrm : (rest.map fun v => v.category).sum ≤ 8) (hdg : decode cc pc = .ok (.invokespecial index, 3)) {st0 : List Value} (hst : st0 = As.reverse ++ .ref b :: rest)
    (kk : ∀ (u : Nat → Nat) (H1 : Heap) (locs1 : List Loc), St D w0 s (w1 u) H1 locs1 → W p l e R s m args below meth c H1 locs1 (cells + mc) (slots + ms) Q (F0 m (pc + 3) ls rest)) : W p l e R s m args below meth c H locs cells slots Q (F0 m pc ls st0) := by
  obtain ⟨hP, hD, hS⟩ := h
  have hA : ∀ q : Nat, s.heap.size ≤ q → va_A w0 s.heap.size q := fun q z => Or.inr z
  have hPc := hP.sub (ws' := wc) isC (fm_some hC)
  have hFc := va_free (wc := wc) hD hS hA isC hC
  have hDc : va_D (fun _ => True) wc := (hD.sub isC hnc hC).weaken (fun _ _ _ _ => trivial)
  have hpre : ∀ U : State, U.heap = H → s.WarmedH U.vm → PwO D dA wc H.size (.ref b :: As) (Value.ref b :: As).toArray U := fun U hU hW => ⟨rfl, ⟨by rw [hU], by rw [hU]; exact hPc, va_K.moved hW.alike C.2.2.2.2.2.2.2.1, hDc, NW.warm hW C.2.2.2.2.2.2.2.2⟩, AOK.moved hW.alike hao⟩
  refine va_callv (va_runI (As := As) (rest := rest) ⟨C.1, C.2.1, C.2.2.1, C.2.2.2.1, C.2.2.2.2.1⟩ (hM H.size) (cwI n C.2.2.2.2.1 (gA_c h5) rfl rfl rfl (C.2.2.2.2.1 _ h4) (C.2.2.2.2.1 _ hlk) (C.2.2.2.2.1 _ h2) hyn hd hR) ⟨PwO.blind, hpre⟩ rfl hn hsz hst (lv_room hrm) hdg hcs) hS (fun q _ z => hFc q z) hFc (fun u t H1 locs1 ht hvm hw2 hB hz1 hk1 hS1 => ?_)
  obtain ⟨hP1, hD1⟩ := hB
  rw [ht] at hP1
  obtain ⟨hP2, hD2⟩ := va_join hP hD isC isR hC hRr hnd hdis hk1 hFc hP1 hD1
  exact kk u H1 locs1 ⟨hP2.sub pm (fm_some (hpm u)), hD2.sub pm hnp (hpm u), hS1⟩
theorem k_newq (C : CX p s m args meth c cc nL ret own D dA) (h : St D w0 s w H locs) {C1 : String} {index : Nat} (t0 : Nat) (ht : (AY dA)[t0]? = some (dA t0, .object C1)) (hcl : Cond.classLink own index C1 ∈ wA) (hao : va_AO C1 s) {n : Int32} (N : Nat) (hn : ¬ n < 0) (hN : n.toNatClampNeg = N) (hbytes : N * 4 ≤ 536870912) (hcells : cells + 1 ≤ R.cells) (hslots : slots + N ≤ R.slots) (hdg : decode cc pc = .ok (.anewarray index, 3))
    (kk : ∀ (q : Nat) (H1 : Heap), St D w0 s (w ++ [(q, .inl (dA t0, N, .inr (.inr (.inr (.inr (fun _ => none))))))]) H1 locs → W p l e R s m args below meth c H1 locs (cells + 1) (slots + N) Q (F0 m (pc + 3) ls (.ref q :: rest))) : W p l e R s m args below meth c H locs cells slots Q (F0 m pc ls (.int n :: rest)) := by
  refine va_newq C.1 C.2.1 C.2.2.2.1 (C.2.2.2.2.1 _ hcl) hao C.2.2.2.2.2.2.2.1 h.1 h.2.1 h.2.2 (fun q z => Or.inr z) hn hN hbytes hcells hslots hdg (fun q cA H1 hK1 a1 a2 a3 => ?_)
  obtain ⟨_, _, _, _, _, e1⟩ := (hK1.2 7 _ rfl).2
  obtain ⟨_, _, _, _, _, e2⟩ := (C.2.2.2.2.2.2.2.1.2 t0 _ ht).2
  have e3 : cA = dA t0 := Option.some.inj (e1.symm.trans e2)
  subst e3
  exact kk q H1 ⟨a1, a2, a3⟩
theorem k_aastq (C : CX p s m args meth c cc nL ret own D dA) (h : St D w0 s w H locs) (q0 t0 qk ci : Nat) {r : vw_C} {n v : Nat} {vs : List Value} {f y : Nat → Option Nat} (ha : w[q0]? = some (a, .inl (dA t0, n, .inr (.inr (.inr (.inr f)))))) (ht : (AY dA)[t0]? = some (dA t0, .object r.1)) (hv : w[qk]? = some (v, .inr (ci, vs))) (hc : vwCl[ci]? = some r) {i : Int32} (hin : vp_in i n) (hdg : decode cc pc = .ok (.aastore, 1)) (hy : va_up f i.toNatClampNeg (some v) = y) (w1 : va_W) (hw1 : w.set q0 (a, .inl (dA t0, n, .inr (.inr (.inr (.inr y))))) = w1)
    (kk : ∀ (H1 : Heap) (locs1 : List Loc), St D w0 s w1 H1 locs1 → W p l e R s m args below meth c H1 locs1 cells slots Q (F0 m (pc + 1) ls rest)) : W p l e R s m args below meth c H locs cells slots Q (F0 m pc ls (.ref v :: .int i :: .ref a :: rest)) := by
  subst hw1
  subst hy
  exact va_astq C.1 C.2.1 C.2.2.2.2.2.2.2.1 h.1 h.2.1 h.2.2 q0 t0 qk ci ha ht hv hc hin hdg (fun H1 locs1 a1 a2 a3 => kk H1 locs1 ⟨a1, a2, a3⟩)
end KO
/-! RingPlaces$Tokens.<init>([B)V -/
set_option maxHeartbeats 4000000 in
set_option maxRecDepth 100000 in
theorem qX9_init (l : Launch) (D : va_G) (dA : Nat → ClassId) (h0 : Nat) (h1 : Nat) : McO l D dA yX9_init (Cond.code yX9_init cX9_init 2 none :: wA) 1 20 4 4804 [.ref h0, .ref h1] [(h0, .inr (9, [.null, .null, .null, .null, .int 0, .null, .int 0, .int 0]))] (fun u => [(h0, .inr (9, [.ref (u 0), .ref (u 1), .ref (u 2), .ref (u 3), .int (0 : Int32), .ref h1, .int (0 : Int32), .int (0 : Int32)])), ((u 0), .inl (dA 0, 1201, .inl (fun _ => 0))), ((u 1), .inl (dA 0, 1201, .inl (fun _ => 0))), ((u 2), .inl (dA 0, 1201, .inl (fun _ => 0))), ((u 3), .inl (dA 4, 1201, .inr (.inr (.inr (.inr (fun _ => none))))))]) := by
  intro sz
  refine M_ofIO (cc := cX9_init) (nL := 2) (ret := none) (own := RX9) (by decide) rfl (Nat.le_of_ble_eq_true rfl) rfl ?_
  intro p e s m below meth c ls hsz C hin hw hao hl
  subst hsz
  have hl : lv_has ls 2 [(0, .ref h0), (1, .ref h1)] := hl
  have hx := C.1
  have hb := C.2.1
  have hml := C.2.2.1
  have hown := C.2.2.2.1
  have hts := C.2.2.2.2.1
  refine lv_aload_n hx hb dX9_init_0 rfl (lv_at hl 0 rfl) ?_
  refine W.objInit hx hb hown (hts _ wlX9_3) (hts _ wxoi) (hts _ wxoc) rfl (by rw [hml]; exact hl.1) rfl dX9_init_1 (Nat.le_of_ble_eq_true rfl) (Nat.le_of_ble_eq_true rfl) ?_
  refine W.eq (g2 := F0 m 4 ls []) rfl ?_
  refine lv_aload_n hx hb dX9_init_4 rfl (lv_at hl 0 rfl) ?_
  refine lv_sipush (v := (1201 : Int32)) hx hb dX9_init_5 (by decide) ?_
  refine k_newI C hw wxaI 1201 (by decide) (by decide) (by decide) (Nat.le_of_ble_eq_true rfl) (Nat.le_of_ble_eq_true rfl) dX9_init_8 (fun q0 H hw => ?_)
  refine W.widen (k := 1) (n := 1201) (Nat.le_of_ble_eq_true rfl) (Nat.le_of_ble_eq_true rfl) ?_
  have hw : St D [(h0, .inr (9, [.null, .null, .null, .null, .int 0, .null, .int 0, .int 0]))] s [(h0, .inr (9, [.null, .null, .null, .null, .int 0, .null, .int 0, .int 0])), (q0, .inl (dA 0, 1201, .inl (fun _ => 0)))] H _ := hw
  refine k_putF C hin hw 0 rfl rfl wiX9 tyX9 tyX9_ok nmX9 0 (by decide) wfX9_11 rfl rfl rfl rfl (Nat.le_of_ble_eq_true rfl) dX9_init_10 [(h0, .inr (9, [.ref q0, .null, .null, .null, .int 0, .null, .int 0, .int 0])), (q0, .inl (dA 0, 1201, .inl (fun _ => 0)))] rfl (fun H locs hw => ?_)
  refine lv_aload_n hx hb dX9_init_13 rfl (lv_at hl 0 rfl) ?_
  refine lv_sipush (v := (1201 : Int32)) hx hb dX9_init_14 (by decide) ?_
  refine k_newI C hw wxaI 1201 (by decide) (by decide) (by decide) (Nat.le_of_ble_eq_true rfl) (Nat.le_of_ble_eq_true rfl) dX9_init_17 (fun q1 H hw => ?_)
  refine W.widen (k := 2) (n := 2402) (Nat.le_of_ble_eq_true rfl) (Nat.le_of_ble_eq_true rfl) ?_
  have hw : St D [(h0, .inr (9, [.null, .null, .null, .null, .int 0, .null, .int 0, .int 0]))] s [(h0, .inr (9, [.ref q0, .null, .null, .null, .int 0, .null, .int 0, .int 0])), (q0, .inl (dA 0, 1201, .inl (fun _ => 0))), (q1, .inl (dA 0, 1201, .inl (fun _ => 0)))] H _ := hw
  refine k_putF C hin hw 0 rfl rfl wiX9 tyX9 tyX9_ok nmX9 1 (by decide) wfX9_15 rfl rfl rfl rfl (Nat.le_of_ble_eq_true rfl) dX9_init_19 [(h0, .inr (9, [.ref q0, .ref q1, .null, .null, .int 0, .null, .int 0, .int 0])), (q0, .inl (dA 0, 1201, .inl (fun _ => 0))), (q1, .inl (dA 0, 1201, .inl (fun _ => 0)))] rfl (fun H locs hw => ?_)
  refine lv_aload_n hx hb dX9_init_22 rfl (lv_at hl 0 rfl) ?_
  refine lv_sipush (v := (1201 : Int32)) hx hb dX9_init_23 (by decide) ?_
  refine k_newI C hw wxaI 1201 (by decide) (by decide) (by decide) (Nat.le_of_ble_eq_true rfl) (Nat.le_of_ble_eq_true rfl) dX9_init_26 (fun q2 H hw => ?_)
  refine W.widen (k := 3) (n := 3603) (Nat.le_of_ble_eq_true rfl) (Nat.le_of_ble_eq_true rfl) ?_
  have hw : St D [(h0, .inr (9, [.null, .null, .null, .null, .int 0, .null, .int 0, .int 0]))] s [(h0, .inr (9, [.ref q0, .ref q1, .null, .null, .int 0, .null, .int 0, .int 0])), (q0, .inl (dA 0, 1201, .inl (fun _ => 0))), (q1, .inl (dA 0, 1201, .inl (fun _ => 0))), (q2, .inl (dA 0, 1201, .inl (fun _ => 0)))] H _ := hw
  refine k_putF C hin hw 0 rfl rfl wiX9 tyX9 tyX9_ok nmX9 2 (by decide) wfX9_18 rfl rfl rfl rfl (Nat.le_of_ble_eq_true rfl) dX9_init_28 [(h0, .inr (9, [.ref q0, .ref q1, .ref q2, .null, .int 0, .null, .int 0, .int 0])), (q0, .inl (dA 0, 1201, .inl (fun _ => 0))), (q1, .inl (dA 0, 1201, .inl (fun _ => 0))), (q2, .inl (dA 0, 1201, .inl (fun _ => 0)))] rfl (fun H locs hw => ?_)
  refine lv_aload_n hx hb dX9_init_31 rfl (lv_at hl 0 rfl) ?_
  refine lv_sipush (v := (1201 : Int32)) hx hb dX9_init_32 (by decide) ?_
  refine k_newq C hw 4 rfl wclX9_21 hao.1 1201 (by decide) (by decide) (by decide) (Nat.le_of_ble_eq_true rfl) (Nat.le_of_ble_eq_true rfl) dX9_init_35 (fun q3 H hw => ?_)
  refine W.widen (k := 4) (n := 4804) (Nat.le_of_ble_eq_true rfl) (Nat.le_of_ble_eq_true rfl) ?_
  have hw : St D [(h0, .inr (9, [.null, .null, .null, .null, .int 0, .null, .int 0, .int 0]))] s [(h0, .inr (9, [.ref q0, .ref q1, .ref q2, .null, .int 0, .null, .int 0, .int 0])), (q0, .inl (dA 0, 1201, .inl (fun _ => 0))), (q1, .inl (dA 0, 1201, .inl (fun _ => 0))), (q2, .inl (dA 0, 1201, .inl (fun _ => 0))), (q3, .inl (dA 4, 1201, .inr (.inr (.inr (.inr (fun _ => none))))))] H _ := hw
  refine k_putF C hin hw 0 rfl rfl wiX9 tyX9 tyX9_ok nmX9 3 (by decide) wfX9_23 rfl rfl rfl rfl (Nat.le_of_ble_eq_true rfl) dX9_init_38 [(h0, .inr (9, [.ref q0, .ref q1, .ref q2, .ref q3, .int 0, .null, .int 0, .int 0])), (q0, .inl (dA 0, 1201, .inl (fun _ => 0))), (q1, .inl (dA 0, 1201, .inl (fun _ => 0))), (q2, .inl (dA 0, 1201, .inl (fun _ => 0))), (q3, .inl (dA 4, 1201, .inr (.inr (.inr (.inr (fun _ => none))))))] rfl (fun H locs hw => ?_)
  refine lv_aload_n hx hb dX9_init_41 rfl (lv_at hl 0 rfl) ?_
  refine lv_iconst (v := (0 : Int32)) hx hb dX9_init_42 (by decide) ?_
  refine k_put C hw 0 rfl rfl wiX9 tyX9 tyX9_ok nmX9 4 (by decide) wfX9_27 rfl rfl rfl (Nat.le_of_ble_eq_true rfl) dX9_init_43 [(h0, .inr (9, [.ref q0, .ref q1, .ref q2, .ref q3, .int (0 : Int32), .null, .int 0, .int 0])), (q0, .inl (dA 0, 1201, .inl (fun _ => 0))), (q1, .inl (dA 0, 1201, .inl (fun _ => 0))), (q2, .inl (dA 0, 1201, .inl (fun _ => 0))), (q3, .inl (dA 4, 1201, .inr (.inr (.inr (.inr (fun _ => none))))))] rfl (fun H locs hw => ?_)
  refine lv_aload_n hx hb dX9_init_46 rfl (lv_at hl 0 rfl) ?_
  refine lv_iconst (v := (0 : Int32)) hx hb dX9_init_47 (by decide) ?_
  refine k_put C hw 0 rfl rfl wiX9 tyX9 tyX9_ok nmX9 6 (by decide) wfX9_31 rfl rfl rfl (Nat.le_of_ble_eq_true rfl) dX9_init_48 [(h0, .inr (9, [.ref q0, .ref q1, .ref q2, .ref q3, .int (0 : Int32), .null, .int (0 : Int32), .int 0])), (q0, .inl (dA 0, 1201, .inl (fun _ => 0))), (q1, .inl (dA 0, 1201, .inl (fun _ => 0))), (q2, .inl (dA 0, 1201, .inl (fun _ => 0))), (q3, .inl (dA 4, 1201, .inr (.inr (.inr (.inr (fun _ => none))))))] rfl (fun H locs hw => ?_)
  refine lv_aload_n hx hb dX9_init_51 rfl (lv_at hl 0 rfl) ?_
  refine lv_iconst (v := (0 : Int32)) hx hb dX9_init_52 (by decide) ?_
  refine k_put C hw 0 rfl rfl wiX9 tyX9 tyX9_ok nmX9 7 (by decide) wfX9_34 rfl rfl rfl (Nat.le_of_ble_eq_true rfl) dX9_init_53 [(h0, .inr (9, [.ref q0, .ref q1, .ref q2, .ref q3, .int (0 : Int32), .null, .int (0 : Int32), .int (0 : Int32)])), (q0, .inl (dA 0, 1201, .inl (fun _ => 0))), (q1, .inl (dA 0, 1201, .inl (fun _ => 0))), (q2, .inl (dA 0, 1201, .inl (fun _ => 0))), (q3, .inl (dA 4, 1201, .inr (.inr (.inr (.inr (fun _ => none))))))] rfl (fun H locs hw => ?_)
  refine lv_aload_n hx hb dX9_init_56 rfl (lv_at hl 0 rfl) ?_
  refine lv_aload_n hx hb dX9_init_57 rfl (lv_at hl 1 rfl) ?_
  refine k_putF C hin hw 0 rfl rfl wiX9 tyX9 tyX9_ok nmX9 5 (by decide) wfX9_37 rfl rfl rfl rfl (Nat.le_of_ble_eq_true rfl) dX9_init_58 [(h0, .inr (9, [.ref q0, .ref q1, .ref q2, .ref q3, .int (0 : Int32), .ref h1, .int (0 : Int32), .int (0 : Int32)])), (q0, .inl (dA 0, 1201, .inl (fun _ => 0))), (q1, .inl (dA 0, 1201, .inl (fun _ => 0))), (q2, .inl (dA 0, 1201, .inl (fun _ => 0))), (q3, .inl (dA 4, 1201, .inr (.inr (.inr (.inr (fun _ => none))))))] rfl (fun H locs hw => ?_)
  exact k_vretA (fun i => ([q0, q1, q2, q3] : List Nat).getD i 0) C hw (Nat.le_of_ble_eq_true rfl) (Nat.le_of_ble_eq_true rfl) dX9_init_61

/-! RingPlaces$Reader.<init>([B)V -/
set_option maxHeartbeats 4000000 in
set_option maxRecDepth 100000 in
theorem qX4_init (l : Launch) (D : va_G) (dA : Nat → ClassId) (h0 : Nat) (h1 : Nat) : McO l D dA yX4_init (Cond.code yX4_init cX4_init 2 none :: wA) 2 41 11 5090 [.ref h0, .ref h1] [(h0, .inr (4, [.null, .int 0, .int 0, .null, .int 0, .null, .null, .int 0, .int 0, .int 0, .int 0]))] (fun u => [(h0, .inr (4, [.ref (u 0), .int (0 : Int32), .int (0 : Int32), .ref (u 6), .int (0 : Int32), .ref (u 4), .ref (u 5), .int (0 : Int32), .int (0 : Int32), .int (0 : Int32), .int (0 : Int32)])), ((u 0), .inr (5, [.ref (u 1), .ref (u 2), .int (0 : Int32), .int (0 : Int32), .int (0 : Int32), .int (20 : Int32), .int (0 : Int32), .ref (u 3)])), ((u 1), .inl (dA 1, 16, .inr (.inl (fun _ => 0)))), ((u 2), .inl (dA 0, 6, .inl (fun _ => 0))), ((u 3), .inl (dA 0, 224, .inl (fun _ => 0))), ((u 4), .inl (dA 0, 8, .inl (fun _ => 0))), ((u 5), .inl (dA 0, 16, .inl (fun _ => 0))), ((u 6), .inr (9, [.ref (u 7), .ref (u 8), .ref (u 9), .ref (u 10), .int (0 : Int32), .ref h1, .int (0 : Int32), .int (0 : Int32)])), ((u 7), .inl (dA 0, 1201, .inl (fun _ => 0))), ((u 8), .inl (dA 0, 1201, .inl (fun _ => 0))), ((u 9), .inl (dA 0, 1201, .inl (fun _ => 0))), ((u 10), .inl (dA 4, 1201, .inr (.inr (.inr (.inr (fun _ => none))))))]) := by
  intro sz
  refine M_ofIO (cc := cX4_init) (nL := 2) (ret := none) (own := RX4) (by decide) rfl (Nat.le_of_ble_eq_true rfl) rfl ?_
  intro p e s m below meth c ls hsz C hin hw hao hl
  subst hsz
  have hl : lv_has ls 2 [(0, .ref h0), (1, .ref h1)] := hl
  have hx := C.1
  have hb := C.2.1
  have hml := C.2.2.1
  have hown := C.2.2.2.1
  have hts := C.2.2.2.2.1
  refine lv_aload_n hx hb dX4_init_0 rfl (lv_at hl 0 rfl) ?_
  refine W.objInit hx hb hown (hts _ wlX4_3) (hts _ wxoi) (hts _ wxoc) rfl (by rw [hml]; exact hl.1) rfl dX4_init_1 (Nat.le_of_ble_eq_true rfl) (Nat.le_of_ble_eq_true rfl) ?_
  refine W.eq (g2 := F0 m 4 ls []) rfl ?_
  refine lv_aload_n hx hb dX4_init_4 rfl (lv_at hl 0 rfl) ?_
  refine k_new C hw wiX5 tyX5 tyX5_ok wclX4_9 wibX5 wnX5 (ci := 5) rfl [.null, .null, .int 0, .int 0, .int 0, .int 0, .int 0, .null] (fun j hj => by rcases (show j = 0 ∨ j = 1 ∨ j = 2 ∨ j = 3 ∨ j = 4 ∨ j = 5 ∨ j = 6 ∨ j = 7 by omega) with rfl | rfl | rfl | rfl | rfl | rfl | rfl | rfl <;> rfl) (Nat.le_of_ble_eq_true rfl) (Nat.le_of_ble_eq_true rfl) dX4_init_5 (fun q0 H hw => ?_)
  refine W.widen (k := 1) (n := 8) (Nat.le_of_ble_eq_true rfl) (Nat.le_of_ble_eq_true rfl) ?_
  have hw : St D [(h0, .inr (4, [.null, .int 0, .int 0, .null, .int 0, .null, .null, .int 0, .int 0, .int 0, .int 0]))] s [(h0, .inr (4, [.null, .int 0, .int 0, .null, .int 0, .null, .null, .int 0, .int 0, .int 0, .int 0])), (q0, .inr (5, [.null, .null, .int 0, .int 0, .int 0, .int 0, .int 0, .null]))] H _ := hw
  refine lv_dup hx hb dX4_init_8 rfl ?_
  refine k_callIN C hw (n := 0) (As := []) (wr := [(h0, .inr (4, [.null, .int 0, .int 0, .null, .int 0, .null, .null, .int 0, .int 0, .int 0, .int 0]))]) (w1 := fun u0 => [(h0, .inr (4, [.null, .int 0, .int 0, .null, .int 0, .null, .null, .int 0, .int 0, .int 0, .int 0])), (q0, .inr (5, [.ref (u0 0), .ref (u0 1), .int (0 : Int32), .int (0 : Int32), .int (0 : Int32), .int (20 : Int32), .int (0 : Int32), .ref (u0 2)])), ((u0 0), .inl (dA 1, 16, .inr (.inl (fun _ => 0)))), ((u0 1), .inl (dA 0, 6, .inl (fun _ => 0))), ((u0 2), .inl (dA 0, 224, .inl (fun _ => 0)))]) [1] [0] [0, 1, 2, 3, 4] rfl rfl (by decide) (by decide) (by decide) (by decide) (fun _ => rfl) (by decide) (qX5_init l D dA q0) (host := "RingPlaces") (by decide +kernel) wmX5_init wnX5 wcX5_init rfl (by decide +kernel) ⟨Nat.le_of_ble_eq_true rfl, Nat.le_of_ble_eq_true rfl⟩ ⟨Nat.le_of_ble_eq_true rfl, Nat.le_of_ble_eq_true rfl⟩ rfl hl.1 (Nat.le_of_ble_eq_true rfl) dX4_init_9 rfl (fun u0 H locs hw => ?_)
  refine W.widen (k := 4) (n := 254) (Nat.le_of_ble_eq_true rfl) (Nat.le_of_ble_eq_true rfl) ?_
  refine k_putF C hin hw 0 rfl rfl wiX4 tyX4 tyX4_ok nmX4 0 (by decide) wfX4_12 rfl rfl rfl rfl (Nat.le_of_ble_eq_true rfl) dX4_init_12 [(h0, .inr (4, [.ref q0, .int 0, .int 0, .null, .int 0, .null, .null, .int 0, .int 0, .int 0, .int 0])), (q0, .inr (5, [.ref (u0 0), .ref (u0 1), .int (0 : Int32), .int (0 : Int32), .int (0 : Int32), .int (20 : Int32), .int (0 : Int32), .ref (u0 2)])), ((u0 0), .inl (dA 1, 16, .inr (.inl (fun _ => 0)))), ((u0 1), .inl (dA 0, 6, .inl (fun _ => 0))), ((u0 2), .inl (dA 0, 224, .inl (fun _ => 0)))] rfl (fun H locs hw => ?_)
  refine lv_aload_n hx hb dX4_init_15 rfl (lv_at hl 0 rfl) ?_
  refine lv_iconst (v := (0 : Int32)) hx hb dX4_init_16 (by decide) ?_
  refine k_put C hw 0 rfl rfl wiX4 tyX4 tyX4_ok nmX4 1 (by decide) wfX4_18 rfl rfl rfl (Nat.le_of_ble_eq_true rfl) dX4_init_17 [(h0, .inr (4, [.ref q0, .int (0 : Int32), .int 0, .null, .int 0, .null, .null, .int 0, .int 0, .int 0, .int 0])), (q0, .inr (5, [.ref (u0 0), .ref (u0 1), .int (0 : Int32), .int (0 : Int32), .int (0 : Int32), .int (20 : Int32), .int (0 : Int32), .ref (u0 2)])), ((u0 0), .inl (dA 1, 16, .inr (.inl (fun _ => 0)))), ((u0 1), .inl (dA 0, 6, .inl (fun _ => 0))), ((u0 2), .inl (dA 0, 224, .inl (fun _ => 0)))] rfl (fun H locs hw => ?_)
  refine lv_aload_n hx hb dX4_init_20 rfl (lv_at hl 0 rfl) ?_
  refine lv_iconst (v := (0 : Int32)) hx hb dX4_init_21 (by decide) ?_
  refine k_put C hw 0 rfl rfl wiX4 tyX4 tyX4_ok nmX4 2 (by decide) wfX4_22 rfl rfl rfl (Nat.le_of_ble_eq_true rfl) dX4_init_22 [(h0, .inr (4, [.ref q0, .int (0 : Int32), .int (0 : Int32), .null, .int 0, .null, .null, .int 0, .int 0, .int 0, .int 0])), (q0, .inr (5, [.ref (u0 0), .ref (u0 1), .int (0 : Int32), .int (0 : Int32), .int (0 : Int32), .int (20 : Int32), .int (0 : Int32), .ref (u0 2)])), ((u0 0), .inl (dA 1, 16, .inr (.inl (fun _ => 0)))), ((u0 1), .inl (dA 0, 6, .inl (fun _ => 0))), ((u0 2), .inl (dA 0, 224, .inl (fun _ => 0)))] rfl (fun H locs hw => ?_)
  refine lv_aload_n hx hb dX4_init_25 rfl (lv_at hl 0 rfl) ?_
  refine lv_iconst (v := (0 : Int32)) hx hb dX4_init_26 (by decide) ?_
  refine k_put C hw 0 rfl rfl wiX4 tyX4 tyX4_ok nmX4 4 (by decide) wfX4_25 rfl rfl rfl (Nat.le_of_ble_eq_true rfl) dX4_init_27 [(h0, .inr (4, [.ref q0, .int (0 : Int32), .int (0 : Int32), .null, .int (0 : Int32), .null, .null, .int 0, .int 0, .int 0, .int 0])), (q0, .inr (5, [.ref (u0 0), .ref (u0 1), .int (0 : Int32), .int (0 : Int32), .int (0 : Int32), .int (20 : Int32), .int (0 : Int32), .ref (u0 2)])), ((u0 0), .inl (dA 1, 16, .inr (.inl (fun _ => 0)))), ((u0 1), .inl (dA 0, 6, .inl (fun _ => 0))), ((u0 2), .inl (dA 0, 224, .inl (fun _ => 0)))] rfl (fun H locs hw => ?_)
  refine lv_aload_n hx hb dX4_init_30 rfl (lv_at hl 0 rfl) ?_
  refine lv_bipush (v := (8 : Int32)) hx hb dX4_init_31 (by decide) ?_
  refine k_newI C hw wxaI 8 (by decide) (by decide) (by decide) (Nat.le_of_ble_eq_true rfl) (Nat.le_of_ble_eq_true rfl) dX4_init_33 (fun q4 H hw => ?_)
  refine W.widen (k := 5) (n := 262) (Nat.le_of_ble_eq_true rfl) (Nat.le_of_ble_eq_true rfl) ?_
  have hw : St D [(h0, .inr (4, [.null, .int 0, .int 0, .null, .int 0, .null, .null, .int 0, .int 0, .int 0, .int 0]))] s [(h0, .inr (4, [.ref q0, .int (0 : Int32), .int (0 : Int32), .null, .int (0 : Int32), .null, .null, .int 0, .int 0, .int 0, .int 0])), (q0, .inr (5, [.ref (u0 0), .ref (u0 1), .int (0 : Int32), .int (0 : Int32), .int (0 : Int32), .int (20 : Int32), .int (0 : Int32), .ref (u0 2)])), ((u0 0), .inl (dA 1, 16, .inr (.inl (fun _ => 0)))), ((u0 1), .inl (dA 0, 6, .inl (fun _ => 0))), ((u0 2), .inl (dA 0, 224, .inl (fun _ => 0))), (q4, .inl (dA 0, 8, .inl (fun _ => 0)))] H _ := hw
  refine k_putF C hin hw 0 rfl rfl wiX4 tyX4 tyX4_ok nmX4 5 (by decide) wfX4_28 rfl rfl rfl rfl (Nat.le_of_ble_eq_true rfl) dX4_init_35 [(h0, .inr (4, [.ref q0, .int (0 : Int32), .int (0 : Int32), .null, .int (0 : Int32), .ref q4, .null, .int 0, .int 0, .int 0, .int 0])), (q0, .inr (5, [.ref (u0 0), .ref (u0 1), .int (0 : Int32), .int (0 : Int32), .int (0 : Int32), .int (20 : Int32), .int (0 : Int32), .ref (u0 2)])), ((u0 0), .inl (dA 1, 16, .inr (.inl (fun _ => 0)))), ((u0 1), .inl (dA 0, 6, .inl (fun _ => 0))), ((u0 2), .inl (dA 0, 224, .inl (fun _ => 0))), (q4, .inl (dA 0, 8, .inl (fun _ => 0)))] rfl (fun H locs hw => ?_)
  refine lv_aload_n hx hb dX4_init_38 rfl (lv_at hl 0 rfl) ?_
  refine lv_bipush (v := (16 : Int32)) hx hb dX4_init_39 (by decide) ?_
  refine k_newI C hw wxaI 16 (by decide) (by decide) (by decide) (Nat.le_of_ble_eq_true rfl) (Nat.le_of_ble_eq_true rfl) dX4_init_41 (fun q5 H hw => ?_)
  refine W.widen (k := 6) (n := 278) (Nat.le_of_ble_eq_true rfl) (Nat.le_of_ble_eq_true rfl) ?_
  have hw : St D [(h0, .inr (4, [.null, .int 0, .int 0, .null, .int 0, .null, .null, .int 0, .int 0, .int 0, .int 0]))] s [(h0, .inr (4, [.ref q0, .int (0 : Int32), .int (0 : Int32), .null, .int (0 : Int32), .ref q4, .null, .int 0, .int 0, .int 0, .int 0])), (q0, .inr (5, [.ref (u0 0), .ref (u0 1), .int (0 : Int32), .int (0 : Int32), .int (0 : Int32), .int (20 : Int32), .int (0 : Int32), .ref (u0 2)])), ((u0 0), .inl (dA 1, 16, .inr (.inl (fun _ => 0)))), ((u0 1), .inl (dA 0, 6, .inl (fun _ => 0))), ((u0 2), .inl (dA 0, 224, .inl (fun _ => 0))), (q4, .inl (dA 0, 8, .inl (fun _ => 0))), (q5, .inl (dA 0, 16, .inl (fun _ => 0)))] H _ := hw
  refine k_putF C hin hw 0 rfl rfl wiX4 tyX4 tyX4_ok nmX4 6 (by decide) wfX4_32 rfl rfl rfl rfl (Nat.le_of_ble_eq_true rfl) dX4_init_43 [(h0, .inr (4, [.ref q0, .int (0 : Int32), .int (0 : Int32), .null, .int (0 : Int32), .ref q4, .ref q5, .int 0, .int 0, .int 0, .int 0])), (q0, .inr (5, [.ref (u0 0), .ref (u0 1), .int (0 : Int32), .int (0 : Int32), .int (0 : Int32), .int (20 : Int32), .int (0 : Int32), .ref (u0 2)])), ((u0 0), .inl (dA 1, 16, .inr (.inl (fun _ => 0)))), ((u0 1), .inl (dA 0, 6, .inl (fun _ => 0))), ((u0 2), .inl (dA 0, 224, .inl (fun _ => 0))), (q4, .inl (dA 0, 8, .inl (fun _ => 0))), (q5, .inl (dA 0, 16, .inl (fun _ => 0)))] rfl (fun H locs hw => ?_)
  refine lv_aload_n hx hb dX4_init_46 rfl (lv_at hl 0 rfl) ?_
  refine lv_iconst (v := (0 : Int32)) hx hb dX4_init_47 (by decide) ?_
  refine k_put C hw 0 rfl rfl wiX4 tyX4 tyX4_ok nmX4 7 (by decide) wfX4_35 rfl (by decide) (by decide) (Nat.le_of_ble_eq_true rfl) dX4_init_48 [(h0, .inr (4, [.ref q0, .int (0 : Int32), .int (0 : Int32), .null, .int (0 : Int32), .ref q4, .ref q5, .int (0 : Int32), .int 0, .int 0, .int 0])), (q0, .inr (5, [.ref (u0 0), .ref (u0 1), .int (0 : Int32), .int (0 : Int32), .int (0 : Int32), .int (20 : Int32), .int (0 : Int32), .ref (u0 2)])), ((u0 0), .inl (dA 1, 16, .inr (.inl (fun _ => 0)))), ((u0 1), .inl (dA 0, 6, .inl (fun _ => 0))), ((u0 2), .inl (dA 0, 224, .inl (fun _ => 0))), (q4, .inl (dA 0, 8, .inl (fun _ => 0))), (q5, .inl (dA 0, 16, .inl (fun _ => 0)))] rfl (fun H locs hw => ?_)
  refine lv_aload_n hx hb dX4_init_51 rfl (lv_at hl 0 rfl) ?_
  refine lv_iconst (v := (0 : Int32)) hx hb dX4_init_52 (by decide) ?_
  refine k_put C hw 0 rfl rfl wiX4 tyX4 tyX4_ok nmX4 8 (by decide) wfX4_39 rfl (by decide) (by decide) (Nat.le_of_ble_eq_true rfl) dX4_init_53 [(h0, .inr (4, [.ref q0, .int (0 : Int32), .int (0 : Int32), .null, .int (0 : Int32), .ref q4, .ref q5, .int (0 : Int32), .int (0 : Int32), .int 0, .int 0])), (q0, .inr (5, [.ref (u0 0), .ref (u0 1), .int (0 : Int32), .int (0 : Int32), .int (0 : Int32), .int (20 : Int32), .int (0 : Int32), .ref (u0 2)])), ((u0 0), .inl (dA 1, 16, .inr (.inl (fun _ => 0)))), ((u0 1), .inl (dA 0, 6, .inl (fun _ => 0))), ((u0 2), .inl (dA 0, 224, .inl (fun _ => 0))), (q4, .inl (dA 0, 8, .inl (fun _ => 0))), (q5, .inl (dA 0, 16, .inl (fun _ => 0)))] rfl (fun H locs hw => ?_)
  refine lv_aload_n hx hb dX4_init_56 rfl (lv_at hl 0 rfl) ?_
  refine lv_iconst (v := (0 : Int32)) hx hb dX4_init_57 (by decide) ?_
  refine k_put C hw 0 rfl rfl wiX4 tyX4 tyX4_ok nmX4 9 (by decide) wfX4_42 rfl rfl rfl (Nat.le_of_ble_eq_true rfl) dX4_init_58 [(h0, .inr (4, [.ref q0, .int (0 : Int32), .int (0 : Int32), .null, .int (0 : Int32), .ref q4, .ref q5, .int (0 : Int32), .int (0 : Int32), .int (0 : Int32), .int 0])), (q0, .inr (5, [.ref (u0 0), .ref (u0 1), .int (0 : Int32), .int (0 : Int32), .int (0 : Int32), .int (20 : Int32), .int (0 : Int32), .ref (u0 2)])), ((u0 0), .inl (dA 1, 16, .inr (.inl (fun _ => 0)))), ((u0 1), .inl (dA 0, 6, .inl (fun _ => 0))), ((u0 2), .inl (dA 0, 224, .inl (fun _ => 0))), (q4, .inl (dA 0, 8, .inl (fun _ => 0))), (q5, .inl (dA 0, 16, .inl (fun _ => 0)))] rfl (fun H locs hw => ?_)
  refine lv_aload_n hx hb dX4_init_61 rfl (lv_at hl 0 rfl) ?_
  refine lv_iconst (v := (0 : Int32)) hx hb dX4_init_62 (by decide) ?_
  refine k_put C hw 0 rfl rfl wiX4 tyX4 tyX4_ok nmX4 10 (by decide) wfX4_45 rfl rfl rfl (Nat.le_of_ble_eq_true rfl) dX4_init_63 [(h0, .inr (4, [.ref q0, .int (0 : Int32), .int (0 : Int32), .null, .int (0 : Int32), .ref q4, .ref q5, .int (0 : Int32), .int (0 : Int32), .int (0 : Int32), .int (0 : Int32)])), (q0, .inr (5, [.ref (u0 0), .ref (u0 1), .int (0 : Int32), .int (0 : Int32), .int (0 : Int32), .int (20 : Int32), .int (0 : Int32), .ref (u0 2)])), ((u0 0), .inl (dA 1, 16, .inr (.inl (fun _ => 0)))), ((u0 1), .inl (dA 0, 6, .inl (fun _ => 0))), ((u0 2), .inl (dA 0, 224, .inl (fun _ => 0))), (q4, .inl (dA 0, 8, .inl (fun _ => 0))), (q5, .inl (dA 0, 16, .inl (fun _ => 0)))] rfl (fun H locs hw => ?_)
  refine lv_aload_n hx hb dX4_init_66 rfl (lv_at hl 0 rfl) ?_
  refine k_new C hw wiX9 tyX9 tyX9_ok wclX4_48 wibX9 wnX9 (ci := 9) rfl [.null, .null, .null, .null, .int 0, .null, .int 0, .int 0] (fun j hj => by rcases (show j = 0 ∨ j = 1 ∨ j = 2 ∨ j = 3 ∨ j = 4 ∨ j = 5 ∨ j = 6 ∨ j = 7 by omega) with rfl | rfl | rfl | rfl | rfl | rfl | rfl | rfl <;> rfl) (Nat.le_of_ble_eq_true rfl) (Nat.le_of_ble_eq_true rfl) dX4_init_67 (fun q6 H hw => ?_)
  refine W.widen (k := 7) (n := 286) (Nat.le_of_ble_eq_true rfl) (Nat.le_of_ble_eq_true rfl) ?_
  have hw : St D [(h0, .inr (4, [.null, .int 0, .int 0, .null, .int 0, .null, .null, .int 0, .int 0, .int 0, .int 0]))] s [(h0, .inr (4, [.ref q0, .int (0 : Int32), .int (0 : Int32), .null, .int (0 : Int32), .ref q4, .ref q5, .int (0 : Int32), .int (0 : Int32), .int (0 : Int32), .int (0 : Int32)])), (q0, .inr (5, [.ref (u0 0), .ref (u0 1), .int (0 : Int32), .int (0 : Int32), .int (0 : Int32), .int (20 : Int32), .int (0 : Int32), .ref (u0 2)])), ((u0 0), .inl (dA 1, 16, .inr (.inl (fun _ => 0)))), ((u0 1), .inl (dA 0, 6, .inl (fun _ => 0))), ((u0 2), .inl (dA 0, 224, .inl (fun _ => 0))), (q4, .inl (dA 0, 8, .inl (fun _ => 0))), (q5, .inl (dA 0, 16, .inl (fun _ => 0))), (q6, .inr (9, [.null, .null, .null, .null, .int 0, .null, .int 0, .int 0]))] H _ := hw
  refine lv_dup hx hb dX4_init_70 rfl ?_
  refine lv_aload_n hx hb dX4_init_71 rfl (lv_at hl 1 rfl) ?_
  refine k_ocallI C hw hao (n := 1) (As := [.ref h1]) (wr := [(h0, .inr (4, [.ref q0, .int (0 : Int32), .int (0 : Int32), .null, .int (0 : Int32), .ref q4, .ref q5, .int (0 : Int32), .int (0 : Int32), .int (0 : Int32), .int (0 : Int32)])), (q0, .inr (5, [.ref (u0 0), .ref (u0 1), .int (0 : Int32), .int (0 : Int32), .int (0 : Int32), .int (20 : Int32), .int (0 : Int32), .ref (u0 2)])), ((u0 0), .inl (dA 1, 16, .inr (.inl (fun _ => 0)))), ((u0 1), .inl (dA 0, 6, .inl (fun _ => 0))), ((u0 2), .inl (dA 0, 224, .inl (fun _ => 0))), (q4, .inl (dA 0, 8, .inl (fun _ => 0))), (q5, .inl (dA 0, 16, .inl (fun _ => 0)))]) (w1 := fun u1 => [(h0, .inr (4, [.ref q0, .int (0 : Int32), .int (0 : Int32), .null, .int (0 : Int32), .ref q4, .ref q5, .int (0 : Int32), .int (0 : Int32), .int (0 : Int32), .int (0 : Int32)])), (q0, .inr (5, [.ref (u0 0), .ref (u0 1), .int (0 : Int32), .int (0 : Int32), .int (0 : Int32), .int (20 : Int32), .int (0 : Int32), .ref (u0 2)])), ((u0 0), .inl (dA 1, 16, .inr (.inl (fun _ => 0)))), ((u0 1), .inl (dA 0, 6, .inl (fun _ => 0))), ((u0 2), .inl (dA 0, 224, .inl (fun _ => 0))), (q4, .inl (dA 0, 8, .inl (fun _ => 0))), (q5, .inl (dA 0, 16, .inl (fun _ => 0))), (q6, .inr (9, [.ref (u1 0), .ref (u1 1), .ref (u1 2), .ref (u1 3), .int (0 : Int32), .ref h1, .int (0 : Int32), .int (0 : Int32)])), ((u1 0), .inl (dA 0, 1201, .inl (fun _ => 0))), ((u1 1), .inl (dA 0, 1201, .inl (fun _ => 0))), ((u1 2), .inl (dA 0, 1201, .inl (fun _ => 0))), ((u1 3), .inl (dA 4, 1201, .inr (.inr (.inr (.inr (fun _ => none))))))]) [7] [0, 1, 2, 3, 4, 5, 6] [0, 1, 2, 3, 4, 5, 6, 7, 8, 9, 10, 11] rfl rfl (by decide) (by decide) (by decide) (by decide) (fun _ => rfl) (by decide) (qX9_init l D dA q6 h1) wlX4_50 wmX9_init wnX9 wcX9_init rfl (by decide +kernel) ⟨Nat.le_of_ble_eq_true rfl, Nat.le_of_ble_eq_true rfl⟩ ⟨Nat.le_of_ble_eq_true rfl, Nat.le_of_ble_eq_true rfl⟩ rfl hl.1 (Nat.le_of_ble_eq_true rfl) dX4_init_72 rfl (fun u1 H locs hw => ?_)
  refine W.widen (k := 11) (n := 5090) (Nat.le_of_ble_eq_true rfl) (Nat.le_of_ble_eq_true rfl) ?_
  refine k_putF C hin hw 0 rfl rfl wiX4 tyX4 tyX4_ok nmX4 3 (by decide) wfX4_53 rfl rfl rfl rfl (Nat.le_of_ble_eq_true rfl) dX4_init_75 [(h0, .inr (4, [.ref q0, .int (0 : Int32), .int (0 : Int32), .ref q6, .int (0 : Int32), .ref q4, .ref q5, .int (0 : Int32), .int (0 : Int32), .int (0 : Int32), .int (0 : Int32)])), (q0, .inr (5, [.ref (u0 0), .ref (u0 1), .int (0 : Int32), .int (0 : Int32), .int (0 : Int32), .int (20 : Int32), .int (0 : Int32), .ref (u0 2)])), ((u0 0), .inl (dA 1, 16, .inr (.inl (fun _ => 0)))), ((u0 1), .inl (dA 0, 6, .inl (fun _ => 0))), ((u0 2), .inl (dA 0, 224, .inl (fun _ => 0))), (q4, .inl (dA 0, 8, .inl (fun _ => 0))), (q5, .inl (dA 0, 16, .inl (fun _ => 0))), (q6, .inr (9, [.ref (u1 0), .ref (u1 1), .ref (u1 2), .ref (u1 3), .int (0 : Int32), .ref h1, .int (0 : Int32), .int (0 : Int32)])), ((u1 0), .inl (dA 0, 1201, .inl (fun _ => 0))), ((u1 1), .inl (dA 0, 1201, .inl (fun _ => 0))), ((u1 2), .inl (dA 0, 1201, .inl (fun _ => 0))), ((u1 3), .inl (dA 4, 1201, .inr (.inr (.inr (.inr (fun _ => none))))))] rfl (fun H locs hw => ?_)
  exact k_vretA (fun i => ([q0, (u0 0), (u0 1), (u0 2), q4, q5, q6, (u1 0), (u1 1), (u1 2), (u1 3)] : List Nat).getD i 0) C hw (Nat.le_of_ble_eq_true rfl) (Nat.le_of_ble_eq_true rfl) dX4_init_78
