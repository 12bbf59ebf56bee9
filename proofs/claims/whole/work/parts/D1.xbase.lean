/-! methods that throw: their contract, the throw, the return -/
abbrev NSE : String := "java/util/NoSuchElementException"
abbrev nsw : List Cond := vx_at0 RX11 137 NSE ["java/lang/RuntimeException", "java/lang/Exception"]
theorem nsw_tbl : ∀ w ∈ nsw.filter goodWord, w ∈ lw_tbl := by decide +kernel
theorem nsw_in : ∀ w ∈ nsw.filter goodWord, w ∈ wA := fun w hw => List.mem_filter.mpr ⟨nsw_tbl w hw, (List.mem_filter.mp hw).2⟩
abbrev nsB : List Cond := [Cond.castable NSE NSE, Cond.declares (Bundle.init0 "java/lang/RuntimeException"), Cond.declares (Bundle.init0 "java/lang/Exception"), Cond.declares (Bundle.init0 Bundle.tN)]
theorem nsw_un : ∀ w ∈ nsw.filter (fun w => !goodWord w), w ∈ nsB := by decide +kernel
theorem nse_link : Cond.classLink RX11 135 NSE ∈ wA := List.mem_filter.mpr ⟨by decide +kernel, rfl⟩
theorem nse_init : Cond.initialized NSE ∈ wA := List.mem_filter.mpr ⟨by decide +kernel, rfl⟩
theorem nsw_ot : ∀ w ∈ Cond.classLink RX11 135 NSE :: Cond.initialized NSE :: nsw, vx_ot w = true := by decide +kernel
def XW (A : Nat → Prop) (U : State) (H : Heap) : Prop := (va_Nw (.castable NSE NSE) U ∧ va_Nw (.declares (Bundle.init0 "java/lang/RuntimeException")) U ∧ va_Nw (.declares (Bundle.init0 "java/lang/Exception")) U ∧ va_Nw (.declares (Bundle.init0 Bundle.tN)) U) ∧ vx_Zq Bundle.tN "UNASSIGNED_STACK" Bundle.steD A U H ∧ vx_Zq Bundle.tN "SUPPRESSED_SENTINEL" Bundle.listD A U H
theorem XW.moved {A : Nat → Prop} {u U : State} {H : Heap} (hvm : u.vm.Alike U.vm) (h : XW A u H) : XW A U H :=
  ⟨⟨va_tabs rfl (rfl : (u.setVm U.vm).vm = U.vm) (by rw [Cond.castable_setVm hvm]; exact h.1.1), va_tabs rfl (rfl : (u.setVm U.vm).vm = U.vm) (by rw [Cond.declares_setVm hvm]; exact h.1.2.1), va_tabs rfl (rfl : (u.setVm U.vm).vm = U.vm) (by rw [Cond.declares_setVm hvm]; exact h.1.2.2.1), va_tabs rfl (rfl : (u.setVm U.vm).vm = U.vm) (by rw [Cond.declares_setVm hvm]; exact h.1.2.2.2)⟩, vx_Zq.moved hvm h.2.1, vx_Zq.moved hvm h.2.2⟩
theorem XW.kept {A : Nat → Prop} {U : State} {H H1 : Heap} (h : XW A U H) (hq : ∀ a : Nat, a < H.size → ¬ A a → H1[a]? = H[a]?) : XW A U H1 := ⟨h.1, h.2.1.kept hq, h.2.2.kept hq⟩
theorem XW.narrow {A B : Nat → Prop} {U : State} {H : Heap} (h : XW A U H) (hAB : ∀ q, B q → A q) : XW B U H := ⟨h.1, h.2.1.narrow hAB, h.2.2.narrow hAB⟩
abbrev rmx (fr lo : Nat) : Room := { frames := fr, cells := 1, slots := 6, locals := lo }
def PwX (D : va_G) (dA : Nat → ClassId) (w : va_W) (sz : Nat) (av : List Value) : Array Value → State → Prop :=
  va_Pc av (fun U => (U.heap.size = sz ∧ va_P D vwCl w U.heap ∧ va_K D vwCl (AY dA) U ∧ va_D (fun _ => True) w ∧ NW U) ∧ XW (va_A w sz) U U.heap)
theorem PwX.blind {D : va_G} {dA : Nat → ClassId} {w : va_W} {sz : Nat} {av : List Value} : FrameBlind (PwX D dA w sz av) := by
  intro a U g mk q
  obtain ⟨q0, ⟨q1, qP, qK, qD, qN⟩, qX⟩ := q
  exact ⟨q0, ⟨q1, qP, va_K.moved (u := U) (U := U.calling g mk a) (Vm.Alike.refl U.vm) qK, qD, NW.same (u := U) rfl qN⟩, XW.moved (u := U) (U := U.calling g mk a) (Vm.Alike.refl U.vm) qX⟩
def BxX (D : va_G) (w : va_W) (sz : Nat) : String → Unit → State → Prop := fun E _ t => E = NSE ∧ va_P D vwCl w t.heap ∧ va_D (va_A w sz) w
def Mx (l : Launch) (D : va_G) (dA : Nat → ClassId) (y : MethodName) (ws : List Cond) (fr lo : Nat) (av : List Value) (w : va_W) (o : Option Int32) : Prop :=
  ∀ sz, vx_Met l y ws (rmx fr lo) (PwX D dA w sz av) (va_Qi (fun (x : Int32) (_ : Unit) => o = some x) (Bw D w w sz) (va_A w sz)) (vx_X (fun (_ : Unit) => o = none) (BxX D w sz) (va_A w sz)) 1 6 (va_A w sz)
section KX
variable {p : Program} {l : Launch} {e : Env} {R : Room} {s : State} {m : MethodId} {args : Array Value} {below : List Frame} {meth : Method} {c : Code} {H : Heap} {locs : List Loc} {cells slots : Nat} {Q : State → Prop}
variable {cc : ByteArray} {nL : Nat} {ret : Option FieldType} {own : String} {D : va_G} {dA : Nat → ClassId} {w0 w w1 : va_W} {pc : Nat} {ls : Array Slot} {rest : List Value} {a : Nat}
theorem k_widen {g : JFrame} {k n : Nat} (h1 : cells ≤ k) (h2 : slots ≤ n) (kk : W p l e R s m args below meth c H locs k n Q g) : W p l e R s m args below meth c H locs cells slots Q g := fun T hT X => kk T hT (stand_widen X h1 h2)
theorem M_ofX {y : MethodName} {fr lo sz : Nat} {av : List Value} {Qc : Array Value → State → Outcome → State → Prop} {XC : String → State → State → Prop} (hy : plainName y.cls = true) (hc : y.cls = own) (hlen : (lg_sl av).length ≤ nL)
    (body : ∀ (p : Program) (e : Env) (s : State) (m : MethodId) (below : List Frame) (meth : Method) (c : Code) (ls : Array Slot), s.heap.size = sz → CX p s m av.toArray meth c cc nL ret own D dA → St D w s w s.heap [] → XW (va_A w s.heap.size) s s.heap → (∀ x ∈ c.exceptionTable.toList, False) → lv_has ls nL (lv_args 0 av) → W p l e (rmx fr lo) s m av.toArray below meth c s.heap [] 0 0 (vx_MQ below Qc XC av.toArray s 1 6 (va_A w sz)) (F0 m 0 ls [])) :
    vx_Met l y (Cond.code y cc nL ret :: wA) (rmx fr lo) (PwX D dA w sz av) Qc XC 1 6 (va_A w sz) := by
  refine vx_ofW (cc := cc) (maxL := nL) (ret := ret) hy rfl ?_
  intro p e s m args below meth c s₁ B hml htb hv
  obtain ⟨rfl, ⟨hsz, hP, hK, hD0, hN⟩, hX⟩ := hv
  have hl := lv_entry av (n := nL) hlen
  rw [lg_entry_eq]
  generalize (lg_sl av ++ List.replicate (nL - (lg_sl av).length) Slot.unset).toArray = ls at hl ⊢
  have hown : s.vm.findClass own = some m.cls := by rw [← hc]; exact findClass_of_methodNamed B.named
  exact body p e s m below meth c ls hsz ⟨B.exec, B.bytes, hml, hown, fun w hw => atoms_spec (ws := Cond.code y cc nL ret :: wA) B.pre w (List.mem_cons_of_mem _ hw), B.returns, B.notSynchronized, hK, hN⟩ ⟨hP, by have h := hD0.self (sz := s.heap.size); exact h, va_S.rf⟩ (by rw [hsz]; exact hX) htb hl
theorem k_xret {r : Int32} {o : Option Int32} {XC : String → State → State → Prop} (C : CX p s m args meth c cc nL (some .int) own D dA) (h : St D w0 s w1 H locs) (ho : o = some r) (hdg : decode cc pc = .ok (.ireturn, 1)) : W p l e R s m args below meth c H locs 0 0 (vx_MQ below (va_Qi (fun (x : Int32) (_ : Unit) => o = some x) (Bw D w0 w1 s.heap.size) (va_A w0 s.heap.size)) XC args s 1 6 (va_A w0 s.heap.size)) (F0 m pc ls [.int r]) :=
  vx_ret (k_widen (Nat.zero_le 1) (Nat.zero_le 6) (W.iret C.1 C.2.1 C.2.2.2.2.2.1 (fun t ht _ => ⟨⟨r, (), rfl, ho, by rw [ht]; exact h.1, h.2.1⟩, h.2.2.F ht⟩) h.2.2.2.2 hdg C.2.2.2.2.2.2.1))
theorem k_throw {o : Option Int32} {Qc : Array Value → State → Outcome → State → Prop} (hst : l.stackTraces = false) (C : CX p s m args meth c cc nL ret RX11 D dA) (h : St D w0 s w0 H locs) (hxw : XW (va_A w0 s.heap.size) s s.heap) (htb : ∀ x ∈ c.exceptionTable.toList, False) (ho : o = none) (hsz : ls.size = nL)
    (d0 : decode cc pc = .ok (.new 135, 3)) (d3 : decode cc (pc + 3) = .ok (.dup, 1)) (d4 : decode cc (pc + 4) = .ok (.invokespecial 137, 3)) (d7 : decode cc (pc + 7) = .ok (.athrow, 1)) {fr lo : Nat} (hfr : 5 < fr) (hlo : 81 ≤ lo) :
    W p l e (rmx fr lo) s m args below meth c H locs 0 0 (vx_MQ below Qc (vx_X (fun (_ : Unit) => o = none) (BxX D w0 s.heap.size) (va_A w0 s.heap.size)) args s 1 6 (va_A w0 s.heap.size)) (F0 m pc ls []) := by
  obtain ⟨hP, hD, hS⟩ := h
  refine vx_throw0 (names := ["java/lang/RuntimeException", "java/lang/Exception"]) (A := va_A w0 s.heap.size) C.1 C.2.1 hst C.2.2.2.1 (by decide +kernel) (by decide +kernel) (C.2.2.2.2.1 _ nse_link) (C.2.2.2.2.1 _ nse_init)
    (vx_hat (fun w hw => C.2.2.2.2.1 w (nsw_in w hw)) nsw_un (vx_c (va_Nw.use rfl hxw.1.1) (vx_c (va_Nw.use rfl hxw.1.2.1) (vx_c (va_Nw.use rfl hxw.1.2.2.1) (vx_c (va_Nw.use rfl hxw.1.2.2.2) vx_n))))) nsw_ot hxw.2.1 hxw.2.2 hS (hsz.trans C.2.2.1.symm) d0 d3 d4 d7 (fun x hx => (htb x hx).elim) hfr ?_ (Nat.le_refl 1) (Nat.le_refl 6) C.2.2.2.2.2.2.1 ?_ hS.2.2 (Nat.le_refl 1) (Nat.le_refl 6)
  · show 0 + (13 * (2 + 1) + 42) ≤ lo
    omega
  · intro t hvm hz hk
    refine ⟨(), ho, ⟨rfl, hP.kept (fun k q hq => hk _ (hP k q hq).lt), hD⟩, Nat.le_trans hS.1 hz, fun q h1 h2 => ?_⟩
    rw [hk q (Nat.lt_of_lt_of_le h1 hS.1)]
    exact hS.2.1 q h1 h2
end KX
