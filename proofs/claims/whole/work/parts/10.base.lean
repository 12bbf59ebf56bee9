/-! base: the world's word lists, contracts that make no cells, rows over a context CX and a state St -/
abbrev AY (a : Nat → ClassId) : List (ClassId × FieldType) := [(a 0, .int), (a 1, .long), (a 2, .byte), (a 3, .boolean), (a 4, .object "RingPlaces$Word"), (a 5, .object "RingPlaces$Ring"), (a 6, .object "RingPlaces$Standing")]
def nwl : List Cond := [.methodLinkNest RX8 73 yX11_gapBetween "RingPlaces", .methodLinkNest RX8 76 yX11_reachAt "RingPlaces", .methodLinkNest RX0 71 yX11_gapBetween "RingPlaces", .methodLinkNest RX0 74 yX11_reachAt "RingPlaces", .methodLinkNest RX3 63 yX11_gapBetween "RingPlaces", .methodLinkNest RX4 11 yX5_init "RingPlaces", .methodLinkNest RX11 52 yX5_init "RingPlaces"]
def NW (U : State) : Prop := ∀ w ∈ nwl, va_Nw w U
theorem NW.warm {s U : State} (hW : s.WarmedH U.vm) (h : NW s) : NW U := by
  intro w hw
  have h1 := h w hw
  simp only [nwl, List.mem_cons, List.not_mem_nil, or_false] at hw
  rcases hw with rfl | rfl | rfl | rfl | rfl | rfl | rfl <;> exact va_Nw.warmM hW h1
theorem NW.same {u U : State} (hv : u.vm = U.vm) (h : NW u) : NW U := by
  intro w hw
  have h1 := h w hw
  simp only [nwl, List.mem_cons, List.not_mem_nil, or_false] at hw
  rcases hw with rfl | rfl | rfl | rfl | rfl | rfl | rfl <;> exact va_Nw.same rfl hv h1
-- pure words
def bnd {α β : Type} (x : α) (k : α → β) : β := k x
def gdi {α : Type} (i : Int32) (n : Nat) (x : Option α) : Option α := if i < 0 ∨ n ≤ i.toNatClampNeg then none else x
def gdz {α : Type} (y : Int32) (x : Option α) : Option α := if y = 0 then none else x
def gdb {α : Type} (y : Int32) (x : Option α) : Option α := if y = 0 ∨ y = 1 then x else none
def gcp (sp dp n : Int32) (n0 n1 : Nat) : Prop := ¬ sp < 0 ∧ ¬ dp < 0 ∧ ¬ n < 0 ∧ sp.toNatClampNeg + n.toNatClampNeg ≤ n0 ∧ dp.toNatClampNeg + n.toNatClampNeg ≤ n1
def gdc {α : Type} (sp dp n : Int32) (n0 n1 : Nat) (x : Option α) : Option α := if ¬ sp < 0 ∧ ¬ dp < 0 ∧ ¬ n < 0 ∧ sp.toNatClampNeg + n.toNatClampNeg ≤ n0 ∧ dp.toNatClampNeg + n.toNatClampNeg ≤ n1 then x else none
theorem gdc_r {α : Type} {sp dp n : Int32} {n0 n1 : Nat} {x : Option α} {o : α} (h : gdc sp dp n n0 n1 x = some o) : gcp sp dp n n0 n1 ∧ x = some o := by
  unfold gdc at h
  split at h
  · exact ⟨by assumption, h⟩
  · cases h
def gdp {α : Type} (c : Bool) (x : Option α) : Option α := if c = true then x else none
def itr {σ ρ : Type} (body : σ → Option (σ ⊕ ρ)) : Nat → σ → Option ρ
  | 0, _ => none
  | n + 1, s => match body s with
    | none => none
    | some (.inl s') => itr body n s'
    | some (.inr r) => some r
theorem bnd_r {α β : Type} {x y : α} {k : α → Option β} {o : β} (h : y = x) (hf : bnd x k = some o) : k y = some o := by subst h; exact hf
theorem gdi_r {α : Type} {i : Int32} {n : Nat} {x : Option α} {o : α} (h : gdi i n x = some o) : vp_in i n ∧ x = some o := by
  unfold gdi at h
  split at h
  · cases h
  · exact ⟨by assumption, h⟩
theorem gdz_r {α : Type} {y : Int32} {x : Option α} {o : α} (h : gdz y x = some o) : ¬ y = 0 ∧ x = some o := by
  unfold gdz at h
  split at h
  · cases h
  · exact ⟨by assumption, h⟩
theorem gdb_r {α : Type} {y : Int32} {x : Option α} {o : α} (h : gdb y x = some o) : (y = 0 ∨ y = 1) ∧ x = some o := by
  unfold gdb at h
  split at h
  · exact ⟨by assumption, h⟩
  · cases h
theorem gdp_r {α : Type} {c : Bool} {x : Option α} {o : α} (h : gdp c x = some o) : c = true ∧ x = some o := by
  unfold gdp at h
  split at h
  · exact ⟨by assumption, h⟩
  · cases h
theorem ite_t {α : Type} {c : Prop} {d : Decidable c} {a b : Option α} {o : α} (hc : c) (h : @ite _ c d a b = some o) : a = some o := by rw [if_pos hc] at h; exact h
theorem ite_f {α : Type} {c : Prop} {d : Decidable c} {a b : Option α} {o : α} (hc : ¬ c) (h : @ite _ c d a b = some o) : b = some o := by rw [if_neg hc] at h; exact h
theorem bind_r {α β : Type} {x : Option α} {k : α → Option β} {o : β} (h : x.bind k = some o) : ∃ a, x = some a ∧ k a = some o := by
  cases x with
  | none => cases h
  | some a => exact ⟨a, rfl, h⟩
theorem some_r {α : Type} {x o : α} (h : some x = some o) : o = x := (Option.some.inj h).symm
theorem itr_W {σ ρ : Type} {body : σ → Option (σ ⊕ ρ)} {P : σ → Prop} {K : ρ → Prop} (hb : ∀ s r, body s = some r → Sum.elim P K r → P s) : ∀ n s r, itr body n s = some r → K r → P s := by
  intro n
  induction n with
  | zero => intro s r h; cases h
  | succ n ih =>
    intro s r h hK
    unfold itr at h
    cases hbs : body s with
    | none => rw [hbs] at h; cases h
    | some x =>
      rw [hbs] at h
      cases x with
      | inl s' => exact hb s _ hbs (ih s' r h hK)
      | inr r' =>
        have e : r' = r := Option.some.inj h
        subst e
        exact hb s _ hbs hK
theorem fm_some {α β : Type} {f : α → Option β} : ∀ {l : List α} {w : List β}, l.map f = w.map some → l.filterMap f = w := by
  intro l
  induction l with
  | nil => intro w h; cases w with
    | nil => rfl
    | cons a t => cases h
  | cons x l ih => intro w h; cases w with
    | nil => cases h
    | cons a t =>
      have h1 : f x = some a := (List.cons.inj h).1
      have h2 : l.map f = t.map some := (List.cons.inj h).2
      rw [List.filterMap_cons, h1, ih h2]
theorem bz_n {x : Int32} (h : x = 0 ∨ x = 1) : narrow .boolean (.int x) = .int x := by rcases h with rfl | rfl <;> decide +kernel
theorem bz_f {x : Int32} (h : x = 0 ∨ x = 1) : fits .boolean (.int x) = true := by rcases h with rfl | rfl <;> decide +kernel
def CX (p : Program) (s : State) (m : MethodId) (args : Array Value) (meth : Method) (c : Code) (cc : ByteArray) (nL : Nat) (ret : Option FieldType) (own : String) (D : va_G) (dA : Nat → ClassId) : Prop :=
  p.tables.exec = Jvm.exec ∧ c.code = cc ∧ c.maxLocals = nL ∧ s.vm.findClass own = some m.cls ∧ (∀ w ∈ wA, w.before args s = true) ∧ meth.sig.returnType = ret ∧ meth.locks = false ∧ va_K D vwCl (AY dA) s ∧ NW s
def St (D : va_G) (w0 : va_W) (s : State) (w : va_W) (H : Heap) (locs : List Loc) : Prop :=
  va_P D vwCl w H ∧ va_D (va_A w0 s.heap.size) w ∧ va_S (va_A w0 s.heap.size) s.heap H locs
abbrev rmm (fr lo : Nat) : Room := { frames := fr, cells := 0, slots := 0, locals := lo }
def Pw (D : va_G) (dA : Nat → ClassId) (w : va_W) (sz : Nat) (av : List Value) : Array Value → State → Prop :=
  va_Pc av (fun U => U.heap.size = sz ∧ va_P D vwCl w U.heap ∧ va_K D vwCl (AY dA) U ∧ va_D (fun _ => True) w ∧ NW U)
def Bw (D : va_G) (w w1 : va_W) (sz : Nat) : Unit → State → Prop := fun _ t => va_P D vwCl w1 t.heap ∧ va_D (va_A w sz) w1
theorem Pw.blind {D : va_G} {dA : Nat → ClassId} {w : va_W} {sz : Nat} {av : List Value} : FrameBlind (Pw D dA w sz av) := by
  intro a U g mk q
  obtain ⟨q0, q1, qP, qK, qD, qN⟩ := q
  exact ⟨q0, q1, qP, va_K.moved (u := U) (U := U.calling g mk a) (Vm.Alike.refl U.vm) qK, qD, NW.same (u := U) rfl qN⟩
abbrev Qi (D : va_G) (w w1 : va_W) (r : Int32) (sz : Nat) : Array Value → State → Outcome → State → Prop := va_Qi (fun (x : Int32) (_ : Unit) => x = r) (Bw D w w1 sz) (va_A w sz)
def Mi (l : Launch) (D : va_G) (dA : Nat → ClassId) (y : MethodName) (ws : List Cond) (fr lo : Nat) (av : List Value) (w w1 : va_W) (r : Int32) : Prop :=
  ∀ sz, Met l y ws (rmm fr lo) (Pw D dA w sz av) (Qi D w w1 r sz) 0 0 (va_A w sz)
abbrev Ql (D : va_G) (w w1 : va_W) (r : Int64) (sz : Nat) : Array Value → State → Outcome → State → Prop := va_Ql (fun (x : Int64) (_ : Unit) => x = r) (Bw D w w1 sz) (va_A w sz)
def Ml (l : Launch) (D : va_G) (dA : Nat → ClassId) (y : MethodName) (ws : List Cond) (fr lo : Nat) (av : List Value) (w w1 : va_W) (r : Int64) : Prop :=
  ∀ sz, Met l y ws (rmm fr lo) (Pw D dA w sz av) (Ql D w w1 r sz) 0 0 (va_A w sz)
theorem gA_c {y : MethodName} {b : ByteArray} {n : Nat} {r : Option FieldType} (h : Cond.code y b n r ∈ wA) : GoodIn wA (Cond.code y b n r :: wA) := fun w hw => by
  have h0 : w ∈ wA := (List.mem_cons.mp hw).elim (fun e => e ▸ h) id
  exact ⟨h0, good_of_word (List.mem_filter.mp h0).2⟩
theorem gA_1 {w : Cond} {ws : List Cond} (h : w ∈ wA) (hs : GoodIn wA ws) : GoodIn wA (w :: ws) := fun x hx => by
  rcases List.mem_cons.mp hx with rfl | h1
  · exact ⟨h, good_of_word (List.mem_filter.mp h).2⟩
  · exact hs x h1
theorem gA_V {own C : String} {i : Nat} {y : MethodName} {b : ByteArray} {n : Nat} {r : Option FieldType} (h1 : Cond.methodLink own i y ∈ wA) (h2 : Cond.instanceMethod y ∈ wA) (h3 : Cond.selects C y y ∈ wA) (h4 : Cond.initialized C ∈ wA) (h5 : Cond.code y b n r ∈ wA) : GoodIn wA (wsV own i C y (Cond.code y b n r :: wA)) := gA_1 h1 (gA_1 h2 (gA_1 h3 (gA_1 h4 (gA_c h5))))
theorem gA_S {own : String} {i : Nat} {y : MethodName} {b : ByteArray} {n : Nat} {r : Option FieldType} (h1 : Cond.methodLink own i y ∈ wA) (h2 : Cond.static y ∈ wA) (h4 : Cond.initialized y.cls ∈ wA) (h5 : Cond.code y b n r ∈ wA) : GoodIn wA (va_wsS own i y (Cond.code y b n r :: wA)) := gA_1 h1 (gA_1 h2 (gA_1 h4 (gA_c h5)))
abbrev Qv (D : va_G) (w w1 : va_W) (sz : Nat) : Array Value → State → Outcome → State → Prop := va_Qv (fun (_ : Unit) => True) (Bw D w w1 sz) (va_A w sz)
def Mv (l : Launch) (D : va_G) (dA : Nat → ClassId) (y : MethodName) (ws : List Cond) (fr lo : Nat) (av : List Value) (w w1 : va_W) : Prop :=
  ∀ sz, Met l y ws (rmm fr lo) (Pw D dA w sz av) (Qv D w w1 sz) 0 0 (va_A w sz)
section KB
variable {p : Program} {l : Launch} {e : Env} {R : Room} {s : State} {m : MethodId} {args : Array Value} {below : List Frame} {meth : Method} {c : Code} {H : Heap} {locs : List Loc} {cells slots : Nat} {Q : State → Prop}
variable {cc : ByteArray} {nL : Nat} {ret : Option FieldType} {own : String} {D : va_G} {dA : Nat → ClassId} {w0 w w1 : va_W} {pc : Nat} {ls : Array Slot} {rest : List Value} {a : Nat}
theorem M_of {y : MethodName} {fr lo sz : Nat} {av : List Value} {Qc : Array Value → State → Outcome → State → Prop} (hy : plainName y.cls = true) (hc : y.cls = own) (hlen : (lg_sl av).length ≤ nL)
    (body : ∀ (p : Program) (e : Env) (s : State) (m : MethodId) (below : List Frame) (meth : Method) (c : Code) (ls : Array Slot), s.heap.size = sz → CX p s m av.toArray meth c cc nL ret own D dA → St D w s w s.heap [] → lv_has ls nL (lv_args 0 av) → W p l e (rmm fr lo) s m av.toArray below meth c s.heap [] 0 0 (MQ below Qc av.toArray s 0 0 (va_A w sz)) (F0 m 0 ls [])) :
    Met l y (Cond.code y cc nL ret :: wA) (rmm fr lo) (Pw D dA w sz av) Qc 0 0 (va_A w sz) := by
  refine Met.ofW (cc := cc) (maxL := nL) (ret := ret) hy rfl ?_
  intro p e s m args below meth c s₁ B hml hv
  obtain ⟨rfl, hsz, hP, hK, hD0, hN⟩ := hv
  have hl := lv_entry av (n := nL) hlen
  rw [lg_entry_eq]
  generalize (lg_sl av ++ List.replicate (nL - (lg_sl av).length) Slot.unset).toArray = ls at hl ⊢
  have hown : s.vm.findClass own = some m.cls := by rw [← hc]; exact findClass_of_methodNamed B.named
  exact body p e s m below meth c ls hsz ⟨B.exec, B.bytes, hml, hown, fun w hw => atoms_spec (ws := Cond.code y cc nL ret :: wA) B.pre w (List.mem_cons_of_mem _ hw), B.returns, B.notSynchronized, hK, hN⟩ ⟨hP, by have h := hD0.self (sz := s.heap.size); exact h, va_S.rf⟩ hl
theorem M_ofF {y : MethodName} {fr lo sz : Nat} {av : List Value} {Qc : Array Value → State → Outcome → State → Prop} (hy : plainFor y = true) (hc : y.cls = own) (hlen : (lg_sl av).length ≤ nL)
    (body : ∀ (p : Program) (e : Env) (s : State) (m : MethodId) (below : List Frame) (meth : Method) (c : Code) (ls : Array Slot), s.heap.size = sz → CX p s m av.toArray meth c cc nL ret own D dA → St D w s w s.heap [] → lv_has ls nL (lv_args 0 av) → W p l e (rmm fr lo) s m av.toArray below meth c s.heap [] 0 0 (MQ below Qc av.toArray s 0 0 (va_A w sz)) (F0 m 0 ls [])) :
    Met l y (Cond.code y cc nL ret :: wA) (rmm fr lo) (Pw D dA w sz av) Qc 0 0 (va_A w sz) := by
  refine va_MetF (cc := cc) (maxL := nL) (ret := ret) hy rfl ?_
  intro p e s m args below meth c s₁ B hml hv
  obtain ⟨rfl, hsz, hP, hK, hD0, hN⟩ := hv
  have hl := lv_entry av (n := nL) hlen
  rw [lg_entry_eq]
  generalize (lg_sl av ++ List.replicate (nL - (lg_sl av).length) Slot.unset).toArray = ls at hl ⊢
  have hown : s.vm.findClass own = some m.cls := by rw [← hc]; exact findClass_of_methodNamed B.named
  exact body p e s m below meth c ls hsz ⟨B.exec, B.bytes, hml, hown, fun w hw => atoms_spec (ws := Cond.code y cc nL ret :: wA) B.pre w (List.mem_cons_of_mem _ hw), B.returns, B.notSynchronized, hK, hN⟩ ⟨hP, by have h := hD0.self (sz := s.heap.size); exact h, va_S.rf⟩ hl
theorem k_get (C : CX p s m args meth c cc nL ret own D dA) (h : St D w0 s w H locs) {C1 : String} {T : u_T} {N ci index : Nat} (q0 : Nat) {fs : List Value} (he : w[q0]? = some (a, .inr (ci, fs))) (hc : vwCl[ci]? = some (C1, T, N)) (hin : ∀ x ∈ u_ws C1 T N, x ∈ wA) (k : Nat) (hk : k < N) (hl : Cond.fieldLink own index (T k).1 (T k).2.1 (T k).2.2.1 ∈ wA) {v : Value} (hv : fs[k]? = some v) (hdg : decode cc pc = .ok (.getfield index, 3))
    (kk : W p l e R s m args below meth c H locs cells slots Q (F0 m (pc + 3) ls (v :: rest))) : W p l e R s m args below meth c H locs cells slots Q (F0 m pc ls (.ref a :: rest)) :=
  va_get C.1 C.2.1 C.2.2.2.2.1 hin C.2.2.2.1 C.2.2.2.2.2.2.2.1 h.1 q0 he hc k hk (C.2.2.2.2.1 _ hl) (fun _ z => z) hv hdg kk
theorem k_put (C : CX p s m args meth c cc nL ret own D dA) (h : St D w0 s w H locs) {C1 : String} {T : u_T} {N ci index : Nat} (q0 : Nat) {fs : List Value} (he : w[q0]? = some (a, .inr (ci, fs))) (hc : vwCl[ci]? = some (C1, T, N)) (hin : ∀ x ∈ u_ws C1 T N, x ∈ wA) (ty0 : Nat → FieldType) (hty : ∀ k, k < N → parseFieldDescriptor (T k).2.2.1 = some (ty0 k)) (hnm : ∀ a, a < N → ∀ b, b < N → a ≠ b → (T a).2.1 ≠ (T b).2.1) (k : Nat) (hk : k < N) (hl : Cond.fieldLink own index (T k).1 (T k).2.1 (T k).2.2.1 ∈ wA) (hfin : (T k).2.2.2 = false) {v : Value} (hn : narrow (ty0 k) v = v) (hfit : fits (ty0 k) v = true) (hlt : k < fs.length) (hdg : decode cc pc = .ok (.putfield index, 3)) (w1 : va_W) (hw1 : w.set q0 (a, .inr (ci, fs.set k v)) = w1)
    (kk : ∀ (H1 : Heap) (locs1 : List Loc), St D w0 s w1 H1 locs1 → W p l e R s m args below meth c H1 locs1 cells slots Q (F0 m (pc + 3) ls rest)) : W p l e R s m args below meth c H locs cells slots Q (F0 m pc ls (v :: .ref a :: rest)) := by
  subst hw1
  exact va_put C.1 C.2.1 C.2.2.2.2.1 hin ty0 hty hnm C.2.2.2.1 C.2.2.2.2.2.2.2.1 h.1 h.2.1 h.2.2 q0 he hc k hk (C.2.2.2.2.1 _ hl) (fun _ z => z) hfin (hty k hk) hn hfit hlt hdg (fun H1 locs1 a1 a2 a3 => kk H1 locs1 ⟨a1, a2, a3⟩)
theorem k_iald (C : CX p s m args meth c cc nL ret own D dA) (h : St D w0 s w H locs) (q0 : Nat) {n : Nat} {f : Nat → Int32} (ha : w[q0]? = some (a, .inl (dA 0, n, .inl f))) {i : Int32} (hin : vp_in i n) (hdg : decode cc pc = .ok (.iaload, 1))
    (kk : W p l e R s m args below meth c H locs cells slots Q (F0 m (pc + 1) ls (.int (f i.toNatClampNeg) :: rest))) : W p l e R s m args below meth c H locs cells slots Q (F0 m pc ls (.int i :: .ref a :: rest)) :=
  va_iald C.1 C.2.1 C.2.2.2.2.2.2.2.1 h.1 q0 0 ha rfl hin hdg kk
theorem k_lald (C : CX p s m args meth c cc nL ret own D dA) (h : St D w0 s w H locs) (q0 : Nat) {n : Nat} {f : Nat → Int64} (ha : w[q0]? = some (a, .inl (dA 1, n, .inr (.inl f)))) {i : Int32} (hin : vp_in i n) (hdg : decode cc pc = .ok (.laload, 1))
    (kk : W p l e R s m args below meth c H locs cells slots Q (F0 m (pc + 1) ls (.long (f i.toNatClampNeg) :: rest))) : W p l e R s m args below meth c H locs cells slots Q (F0 m pc ls (.int i :: .ref a :: rest)) :=
  va_lald C.1 C.2.1 C.2.2.2.2.2.2.2.1 h.1 q0 1 ha rfl hin hdg kk
theorem k_bald (C : CX p s m args meth c cc nL ret own D dA) (h : St D w0 s w H locs) (q0 : Nat) {n : Nat} {f : Nat → Int32} (ha : w[q0]? = some (a, .inl (dA 2, n, .inl f))) {i : Int32} (hin : vp_in i n) (hdg : decode cc pc = .ok (.baload, 1))
    (kk : W p l e R s m args below meth c H locs cells slots Q (F0 m (pc + 1) ls (.int (f i.toNatClampNeg) :: rest))) : W p l e R s m args below meth c H locs cells slots Q (F0 m pc ls (.int i :: .ref a :: rest)) :=
  va_bald C.1 C.2.1 C.2.2.2.2.2.2.2.1 h.1 q0 2 ha rfl hin hdg kk
theorem k_zald (C : CX p s m args meth c cc nL ret own D dA) (h : St D w0 s w H locs) (q0 : Nat) {n : Nat} {f : Nat → Int32} (ha : w[q0]? = some (a, .inl (dA 3, n, .inl f))) {i : Int32} (hin : vp_in i n) (hdg : decode cc pc = .ok (.baload, 1))
    (kk : W p l e R s m args below meth c H locs cells slots Q (F0 m (pc + 1) ls (.int (f i.toNatClampNeg) :: rest))) : W p l e R s m args below meth c H locs cells slots Q (F0 m pc ls (.int i :: .ref a :: rest)) :=
  va_zald C.1 C.2.1 C.2.2.2.2.2.2.2.1 h.1 q0 3 ha rfl hin hdg kk
theorem k_iast (C : CX p s m args meth c cc nL ret own D dA) (h : St D w0 s w H locs) (q0 : Nat) {n : Nat} {f : Nat → Int32} (ha : w[q0]? = some (a, .inl (dA 0, n, .inl (f)))) {i : Int32} {x : Int32} (hin : vp_in i n) (hdg : decode cc pc = .ok (.iastore, 1)) (g : Nat → Int32) (hg : g = upd f i.toNatClampNeg x) (w1 : va_W) (hw1 : w.set q0 (a, .inl (dA 0, n, .inl (g))) = w1)
    (kk : ∀ (H1 : Heap) (locs1 : List Loc), St D w0 s w1 H1 locs1 → W p l e R s m args below meth c H1 locs1 cells slots Q (F0 m (pc + 1) ls rest)) : W p l e R s m args below meth c H locs cells slots Q (F0 m pc ls (.int x :: .int i :: .ref a :: rest)) := by
  subst hw1
  subst hg
  exact va_iast C.1 C.2.1 C.2.2.2.2.2.2.2.1 h.1 h.2.1 h.2.2 q0 0 ha rfl hin hdg (fun H1 locs1 a1 a2 a3 => kk H1 locs1 ⟨a1, a2, a3⟩)
theorem k_last (C : CX p s m args meth c cc nL ret own D dA) (h : St D w0 s w H locs) (q0 : Nat) {n : Nat} {f : Nat → Int64} (ha : w[q0]? = some (a, .inl (dA 1, n, .inr (.inl (f))))) {i : Int32} {x : Int64} (hin : vp_in i n) (hdg : decode cc pc = .ok (.lastore, 1)) (g : Nat → Int64) (hg : g = vp_updL f i.toNatClampNeg x) (w1 : va_W) (hw1 : w.set q0 (a, .inl (dA 1, n, .inr (.inl (g)))) = w1)
    (kk : ∀ (H1 : Heap) (locs1 : List Loc), St D w0 s w1 H1 locs1 → W p l e R s m args below meth c H1 locs1 cells slots Q (F0 m (pc + 1) ls rest)) : W p l e R s m args below meth c H locs cells slots Q (F0 m pc ls (.long x :: .int i :: .ref a :: rest)) := by
  subst hw1
  subst hg
  exact va_last C.1 C.2.1 C.2.2.2.2.2.2.2.1 h.1 h.2.1 h.2.2 q0 1 ha rfl hin hdg (fun H1 locs1 a1 a2 a3 => kk H1 locs1 ⟨a1, a2, a3⟩)
theorem k_bast (C : CX p s m args meth c cc nL ret own D dA) (h : St D w0 s w H locs) (q0 : Nat) {n : Nat} {f : Nat → Int32} (ha : w[q0]? = some (a, .inl (dA 2, n, .inl f))) {i : Int32} {x : Int32} (hin : vp_in i n) (hdg : decode cc pc = .ok (.bastore, 1)) (g : Nat → Int32) (hg : g = upd f i.toNatClampNeg (vp_nar .byte x)) (w1 : va_W) (hw1 : w.set q0 (a, .inl (dA 2, n, .inl g)) = w1)
    (kk : ∀ (H1 : Heap) (locs1 : List Loc), St D w0 s w1 H1 locs1 → W p l e R s m args below meth c H1 locs1 cells slots Q (F0 m (pc + 1) ls rest)) : W p l e R s m args below meth c H locs cells slots Q (F0 m pc ls (.int x :: .int i :: .ref a :: rest)) := by
  subst hw1
  subst hg
  exact va_bast C.1 C.2.1 C.2.2.2.2.2.2.2.1 h.1 h.2.1 h.2.2 q0 2 ha rfl hin hdg (fun H1 locs1 a1 a2 a3 => kk H1 locs1 ⟨a1, a2, a3⟩)
theorem k_zast (C : CX p s m args meth c cc nL ret own D dA) (h : St D w0 s w H locs) (q0 : Nat) {n : Nat} {f : Nat → Int32} (ha : w[q0]? = some (a, .inl (dA 3, n, .inl f))) {i : Int32} {x : Int32} (hin : vp_in i n) (hdg : decode cc pc = .ok (.bastore, 1)) (g : Nat → Int32) (hg : g = upd f i.toNatClampNeg (vp_nar .boolean x)) (w1 : va_W) (hw1 : w.set q0 (a, .inl (dA 3, n, .inl g)) = w1)
    (kk : ∀ (H1 : Heap) (locs1 : List Loc), St D w0 s w1 H1 locs1 → W p l e R s m args below meth c H1 locs1 cells slots Q (F0 m (pc + 1) ls rest)) : W p l e R s m args below meth c H locs cells slots Q (F0 m pc ls (.int x :: .int i :: .ref a :: rest)) := by
  subst hw1
  subst hg
  exact va_zast C.1 C.2.1 C.2.2.2.2.2.2.2.1 h.1 h.2.1 h.2.2 q0 3 ha rfl hin hdg (fun H1 locs1 a1 a2 a3 => kk H1 locs1 ⟨a1, a2, a3⟩)
theorem k_copyi (C : CX p s m args meth c cc nL ret own D dA) (h : St D w0 s w H locs) {index : Nat} (hlink : Cond.methodLink own index arraycopyName ∈ wA) (hnat : Cond.native arraycopyName ∈ wA) (hstat : Cond.static arraycopyName ∈ wA) (hini : Cond.initialized "java/lang/System" ∈ wA) (hsz : ls.size = nL) (q0 q1 : Nat) {a0 n0 n1 : Nat} {f f1 : Nat → Int32} (ha0 : w[q0]? = some (a0, .inl (dA 0, n0, .inl (f)))) (ha1 : w[q1]? = some (a, .inl (dA 0, n1, .inl (f1)))) {sp dp n : Int32} (hg : gcp sp dp n n0 n1) (hframes : 1 ≤ R.frames) (hlocals : (rest.map fun v => v.category).sum + (nativeFrameWords "java/lang/System" "arraycopy" 5 + 11) ≤ R.locals) (hdg : decode cc pc = .ok (.invokestatic index, 3)) (g : Nat → Int32) (hgg : g = va_cpy f f1 sp.toNatClampNeg dp.toNatClampNeg n.toNatClampNeg) (w1 : va_W) (hw1 : w.set q1 (a, .inl (dA 0, n1, .inl (g))) = w1)
    (kk : ∀ (H1 : Heap) (locs1 : List Loc), St D w0 s w1 H1 locs1 → W p l e R s m args below meth c H1 locs1 cells slots Q (F0 m (pc + 3) ls rest)) : W p l e R s m args below meth c H locs cells slots Q (F0 m pc ls (.int n :: .int dp :: .ref a :: .int sp :: .ref a0 :: rest)) := by
  subst hw1
  subst hgg
  exact va_copyi C.1 C.2.1 (C.2.2.1.trans hsz.symm) C.2.2.2.1 (C.2.2.2.2.1 _ hlink) (C.2.2.2.2.1 _ hnat) (C.2.2.2.2.1 _ hstat) (C.2.2.2.2.1 _ hini) C.2.2.2.2.2.2.2.1 h.1 h.2.1 h.2.2 q0 q1 0 0 ha0 ha1 rfl rfl rfl hg.1 hg.2.1 hg.2.2.1 hg.2.2.2.1 hg.2.2.2.2 (fun _ _ => rfl) hframes hlocals hdg (fun H1 locs1 a1 a2 a3 => kk H1 locs1 ⟨a1, a2, a3⟩)
theorem k_copyl (C : CX p s m args meth c cc nL ret own D dA) (h : St D w0 s w H locs) {index : Nat} (hlink : Cond.methodLink own index arraycopyName ∈ wA) (hnat : Cond.native arraycopyName ∈ wA) (hstat : Cond.static arraycopyName ∈ wA) (hini : Cond.initialized "java/lang/System" ∈ wA) (hsz : ls.size = nL) (q0 q1 : Nat) {a0 n0 n1 : Nat} {f f1 : Nat → Int64} (ha0 : w[q0]? = some (a0, .inl (dA 1, n0, .inr (.inl (f))))) (ha1 : w[q1]? = some (a, .inl (dA 1, n1, .inr (.inl (f1))))) {sp dp n : Int32} (hg : gcp sp dp n n0 n1) (hframes : 1 ≤ R.frames) (hlocals : (rest.map fun v => v.category).sum + (nativeFrameWords "java/lang/System" "arraycopy" 5 + 11) ≤ R.locals) (hdg : decode cc pc = .ok (.invokestatic index, 3)) (g : Nat → Int64) (hgg : g = va_cpy f f1 sp.toNatClampNeg dp.toNatClampNeg n.toNatClampNeg) (w1 : va_W) (hw1 : w.set q1 (a, .inl (dA 1, n1, .inr (.inl (g)))) = w1)
    (kk : ∀ (H1 : Heap) (locs1 : List Loc), St D w0 s w1 H1 locs1 → W p l e R s m args below meth c H1 locs1 cells slots Q (F0 m (pc + 3) ls rest)) : W p l e R s m args below meth c H locs cells slots Q (F0 m pc ls (.int n :: .int dp :: .ref a :: .int sp :: .ref a0 :: rest)) := by
  subst hw1
  subst hgg
  exact va_copyl C.1 C.2.1 (C.2.2.1.trans hsz.symm) C.2.2.2.1 (C.2.2.2.2.1 _ hlink) (C.2.2.2.2.1 _ hnat) (C.2.2.2.2.1 _ hstat) (C.2.2.2.2.1 _ hini) C.2.2.2.2.2.2.2.1 h.1 h.2.1 h.2.2 q0 q1 1 1 ha0 ha1 rfl rfl rfl hg.1 hg.2.1 hg.2.2.1 hg.2.2.2.1 hg.2.2.2.2 (fun _ _ => rfl) hframes hlocals hdg (fun H1 locs1 a1 a2 a3 => kk H1 locs1 ⟨a1, a2, a3⟩)
theorem k_alen (C : CX p s m args meth c cc nL ret own D dA) (h : St D w0 s w H locs) (q0 t0 : Nat) {x : vp_A} {ty : FieldType} {cA : ClassId} (ha : w[q0]? = some (a, .inl (cA, x))) (ht : (AY dA)[t0]? = some (cA, ty)) {v : Int32} (hv : Int32.ofNat x.1 = v) (hdg : decode cc pc = .ok (.arraylength, 1))
    (kk : W p l e R s m args below meth c H locs cells slots Q (F0 m (pc + 1) ls (.int v :: rest))) : W p l e R s m args below meth c H locs cells slots Q (F0 m pc ls (.ref a :: rest)) :=
  va_alen C.1 C.2.1 C.2.2.2.2.2.2.2.1 h.1 q0 t0 ha ht hv hdg kk
theorem k_iret {r : Int32} (C : CX p s m args meth c cc nL (some .int) own D dA) (h : St D w0 s w1 H locs) (hdg : decode cc pc = .ok (.ireturn, 1)) : W p l e R s m args below meth c H locs cells slots (MQ below (Qi D w0 w1 r s.heap.size) args s cells slots (va_A w0 s.heap.size)) (F0 m pc ls [.int r]) :=
  W.iret C.1 C.2.1 C.2.2.2.2.2.1 (fun t ht _ => ⟨⟨r, (), rfl, rfl, by rw [ht]; exact h.1, h.2.1⟩, h.2.2.F ht⟩) h.2.2.2.2 hdg C.2.2.2.2.2.2.1
theorem k_zret {r : Int32} (C : CX p s m args meth c cc nL (some .boolean) own D dA) (h : St D w0 s w1 H locs) (hz : r = 0 ∨ r = 1) (hdg : decode cc pc = .ok (.ireturn, 1)) : W p l e R s m args below meth c H locs cells slots (MQ below (Qi D w0 w1 r s.heap.size) args s cells slots (va_A w0 s.heap.size)) (F0 m pc ls [.int r]) :=
  W.zret C.1 C.2.1 C.2.2.2.2.2.1 (bz_n hz) (fun t ht _ => ⟨⟨r, (), rfl, rfl, by rw [ht]; exact h.1, h.2.1⟩, h.2.2.F ht⟩) h.2.2.2.2 hdg C.2.2.2.2.2.2.1
theorem k_lret {r : Int64} (C : CX p s m args meth c cc nL (some .long) own D dA) (h : St D w0 s w1 H locs) (hdg : decode cc pc = .ok (.lreturn, 1)) : W p l e R s m args below meth c H locs cells slots (MQ below (Ql D w0 w1 r s.heap.size) args s cells slots (va_A w0 s.heap.size)) (F0 m pc ls [.long r]) :=
  W.lret C.1 C.2.1 C.2.2.2.2.2.1 (fun t ht _ => ⟨⟨r, (), rfl, rfl, by rw [ht]; exact h.1, h.2.1⟩, h.2.2.F ht⟩) h.2.2.2.2 hdg C.2.2.2.2.2.2.1
theorem k_vret (C : CX p s m args meth c cc nL none own D dA) (h : St D w0 s w1 H locs) (hdg : decode cc pc = .ok (.return_, 1)) : W p l e R s m args below meth c H locs cells slots (MQ below (Qv D w0 w1 s.heap.size) args s cells slots (va_A w0 s.heap.size)) (F0 m pc ls []) :=
  W.vret C.1 C.2.1 C.2.2.2.2.2.1 (fun t ht _ => ⟨⟨(), rfl, trivial, by rw [ht]; exact h.1, h.2.1⟩, h.2.2.F ht⟩) h.2.2.2.2 hdg C.2.2.2.2.2.2.1
theorem k_callVi (C : CX p s m args meth c cc nL ret own D dA) (h : St D w0 s w H locs) {y : MethodName} {bytes : ByteArray} {maxL fr lo index n : Nat} {rt : Option FieldType} {b : Nat} {C1 : String} {As : List Value} {r : Int32} (isC isR pm : List Nat) {wc wc1 wr : va_W} (hC : isC.map (fun i => w[i]?) = wc.map some) (hRr : isR.map (fun i => w[i]?) = wr.map some) (hnc : va_nd isC = true) (hnd : va_nd isR = true) (hdis : ∀ i ∈ isR, i ∉ isC) (hpm : pm.map (fun i => (wr ++ wc1)[i]?) = w1.map some) (hnp : va_nd pm = true) (hM : Mi l D dA y (Cond.code y bytes maxL rt :: wA) fr lo (.ref b :: As) wc wc1 r) (h1 : Cond.methodLink own index y ∈ wA) (h2 : Cond.instanceMethod y ∈ wA) (h3 : Cond.selects C1 y y ∈ wA) (h4 : Cond.initialized C1 ∈ wA) (h5 : Cond.code y bytes maxL rt ∈ wA) (hcl : y.cls = C1) (hd : y.cls ≠ "java/lang/invoke/MethodHandle" ∧ y.cls ≠ "java/lang/invoke/VarHandle" ∧ (parseMethodDescriptor y.desc).map (fun d => d.parameters.length) = some n) (hR : fr + 1 ≤ R.frames ∧ 8 + (maxL + 11) + lo ≤ R.locals) (hcs : cells ≤ R.cells ∧ slots ≤ R.slots) (hn : As.length = n) (q0 : Nat) {ci N : Nat} {T : u_T} {fs : List Value} (hq : wc[q0]? = some (b, .inr (ci, fs))) (hvc : vwCl[ci]? = some (C1, T, N)) (hsz : ls.size = nL) (hrm : (rest.map fun v => v.category).sum ≤ 8) (hdg : decode cc pc = .ok (.invokevirtual index, 3)) {st0 : List Value} (hst : st0 = As.reverse ++ .ref b :: rest)
    (kk : ∀ (H1 : Heap) (locs1 : List Loc), St D w0 s w1 H1 locs1 → W p l e R s m args below meth c H1 locs1 cells slots Q (F0 m (pc + 3) ls (.int r :: rest))) : W p l e R s m args below meth c H locs cells slots Q (F0 m pc ls st0) := by
  obtain ⟨hP, hD, hS⟩ := h
  have hA : ∀ q : Nat, s.heap.size ≤ q → va_A w0 s.heap.size q := fun q z => Or.inr z
  have hPc := hP.sub (ws' := wc) isC (fm_some hC)
  have hFc := va_free (wc := wc) hD hS hA isC hC
  have hDc : va_D (fun _ => True) wc := (hD.sub isC hnc hC).weaken (fun _ _ _ _ => trivial)
  have hpre : ∀ U : State, U.heap = H → s.WarmedH U.vm → Pw D dA wc H.size (.ref b :: As) (Value.ref b :: As).toArray U := fun U hU hW => ⟨rfl, by rw [hU], by rw [hU]; exact hPc, va_K.moved hW.alike C.2.2.2.2.2.2.2.1, hDc, NW.warm hW C.2.2.2.2.2.2.2.2⟩
  refine va_calli (va_runV (As := As) (rest := rest) ⟨C.1, C.2.1, C.2.2.1, C.2.2.2.1, C.2.2.2.2.1⟩ (hM H.size) (cwV n C.2.2.2.2.1 (gA_V h1 h2 h3 h4 h5) rfl rfl rfl ⟨hcl, hd⟩ hR) ⟨Pw.blind, va_recv C.2.2.2.2.2.2.2.1 hPc hvc hq, hpre⟩ rfl hn hsz hst (lv_room hrm) hdg hcs) hS (fun q _ z => hFc q z) hFc (fun r1 _ t H1 locs1 ht hvm hw2 hB hz1 hk1 hS1 => ?_)
  obtain ⟨hP1, hD1⟩ := hB
  rw [ht] at hP1
  obtain ⟨hP2, hD2⟩ := va_join hP hD isC isR hC hRr hnd hdis hk1 hFc hP1 hD1
  subst hw2
  exact kk H1 locs1 ⟨hP2.sub pm (fm_some hpm), hD2.sub pm hnp hpm, hS1⟩
theorem k_callVl (C : CX p s m args meth c cc nL ret own D dA) (h : St D w0 s w H locs) {y : MethodName} {bytes : ByteArray} {maxL fr lo index n : Nat} {rt : Option FieldType} {b : Nat} {C1 : String} {As : List Value} {r : Int64} (isC isR pm : List Nat) {wc wc1 wr : va_W} (hC : isC.map (fun i => w[i]?) = wc.map some) (hRr : isR.map (fun i => w[i]?) = wr.map some) (hnc : va_nd isC = true) (hnd : va_nd isR = true) (hdis : ∀ i ∈ isR, i ∉ isC) (hpm : pm.map (fun i => (wr ++ wc1)[i]?) = w1.map some) (hnp : va_nd pm = true) (hM : Ml l D dA y (Cond.code y bytes maxL rt :: wA) fr lo (.ref b :: As) wc wc1 r) (h1 : Cond.methodLink own index y ∈ wA) (h2 : Cond.instanceMethod y ∈ wA) (h3 : Cond.selects C1 y y ∈ wA) (h4 : Cond.initialized C1 ∈ wA) (h5 : Cond.code y bytes maxL rt ∈ wA) (hcl : y.cls = C1) (hd : y.cls ≠ "java/lang/invoke/MethodHandle" ∧ y.cls ≠ "java/lang/invoke/VarHandle" ∧ (parseMethodDescriptor y.desc).map (fun d => d.parameters.length) = some n) (hR : fr + 1 ≤ R.frames ∧ 8 + (maxL + 11) + lo ≤ R.locals) (hcs : cells ≤ R.cells ∧ slots ≤ R.slots) (hn : As.length = n) (q0 : Nat) {ci N : Nat} {T : u_T} {fs : List Value} (hq : wc[q0]? = some (b, .inr (ci, fs))) (hvc : vwCl[ci]? = some (C1, T, N)) (hsz : ls.size = nL) (hrm : (rest.map fun v => v.category).sum ≤ 8) (hdg : decode cc pc = .ok (.invokevirtual index, 3)) {st0 : List Value} (hst : st0 = As.reverse ++ .ref b :: rest)
    (kk : ∀ (H1 : Heap) (locs1 : List Loc), St D w0 s w1 H1 locs1 → W p l e R s m args below meth c H1 locs1 cells slots Q (F0 m (pc + 3) ls (.long r :: rest))) : W p l e R s m args below meth c H locs cells slots Q (F0 m pc ls st0) := by
  obtain ⟨hP, hD, hS⟩ := h
  have hA : ∀ q : Nat, s.heap.size ≤ q → va_A w0 s.heap.size q := fun q z => Or.inr z
  have hPc := hP.sub (ws' := wc) isC (fm_some hC)
  have hFc := va_free (wc := wc) hD hS hA isC hC
  have hDc : va_D (fun _ => True) wc := (hD.sub isC hnc hC).weaken (fun _ _ _ _ => trivial)
  have hpre : ∀ U : State, U.heap = H → s.WarmedH U.vm → Pw D dA wc H.size (.ref b :: As) (Value.ref b :: As).toArray U := fun U hU hW => ⟨rfl, by rw [hU], by rw [hU]; exact hPc, va_K.moved hW.alike C.2.2.2.2.2.2.2.1, hDc, NW.warm hW C.2.2.2.2.2.2.2.2⟩
  refine va_calll (va_runV (As := As) (rest := rest) ⟨C.1, C.2.1, C.2.2.1, C.2.2.2.1, C.2.2.2.2.1⟩ (hM H.size) (cwV n C.2.2.2.2.1 (gA_V h1 h2 h3 h4 h5) rfl rfl rfl ⟨hcl, hd⟩ hR) ⟨Pw.blind, va_recv C.2.2.2.2.2.2.2.1 hPc hvc hq, hpre⟩ rfl hn hsz hst (lv_room hrm) hdg hcs) hS (fun q _ z => hFc q z) hFc (fun r1 _ t H1 locs1 ht hvm hw2 hB hz1 hk1 hS1 => ?_)
  obtain ⟨hP1, hD1⟩ := hB
  rw [ht] at hP1
  obtain ⟨hP2, hD2⟩ := va_join hP hD isC isR hC hRr hnd hdis hk1 hFc hP1 hD1
  subst hw2
  exact kk H1 locs1 ⟨hP2.sub pm (fm_some hpm), hD2.sub pm hnp hpm, hS1⟩
theorem k_callVv (C : CX p s m args meth c cc nL ret own D dA) (h : St D w0 s w H locs) {y : MethodName} {bytes : ByteArray} {maxL fr lo index n : Nat} {rt : Option FieldType} {b : Nat} {C1 : String} {As : List Value} (isC isR pm : List Nat) {wc wc1 wr : va_W} (hC : isC.map (fun i => w[i]?) = wc.map some) (hRr : isR.map (fun i => w[i]?) = wr.map some) (hnc : va_nd isC = true) (hnd : va_nd isR = true) (hdis : ∀ i ∈ isR, i ∉ isC) (hpm : pm.map (fun i => (wr ++ wc1)[i]?) = w1.map some) (hnp : va_nd pm = true) (hM : Mv l D dA y (Cond.code y bytes maxL rt :: wA) fr lo (.ref b :: As) wc wc1) (h1 : Cond.methodLink own index y ∈ wA) (h2 : Cond.instanceMethod y ∈ wA) (h3 : Cond.selects C1 y y ∈ wA) (h4 : Cond.initialized C1 ∈ wA) (h5 : Cond.code y bytes maxL rt ∈ wA) (hcl : y.cls = C1) (hd : y.cls ≠ "java/lang/invoke/MethodHandle" ∧ y.cls ≠ "java/lang/invoke/VarHandle" ∧ (parseMethodDescriptor y.desc).map (fun d => d.parameters.length) = some n) (hR : fr + 1 ≤ R.frames ∧ 8 + (maxL + 11) + lo ≤ R.locals) (hcs : cells ≤ R.cells ∧ slots ≤ R.slots) (hn : As.length = n) (q0 : Nat) {ci N : Nat} {T : u_T} {fs : List Value} (hq : wc[q0]? = some (b, .inr (ci, fs))) (hvc : vwCl[ci]? = some (C1, T, N)) (hsz : ls.size = nL) (hrm : (rest.map fun v => v.category).sum ≤ 8) (hdg : decode cc pc = .ok (.invokevirtual index, 3)) {st0 : List Value} (hst : st0 = As.reverse ++ .ref b :: rest)
    (kk : ∀ (H1 : Heap) (locs1 : List Loc), St D w0 s w1 H1 locs1 → W p l e R s m args below meth c H1 locs1 cells slots Q (F0 m (pc + 3) ls (rest))) : W p l e R s m args below meth c H locs cells slots Q (F0 m pc ls st0) := by
  obtain ⟨hP, hD, hS⟩ := h
  have hA : ∀ q : Nat, s.heap.size ≤ q → va_A w0 s.heap.size q := fun q z => Or.inr z
  have hPc := hP.sub (ws' := wc) isC (fm_some hC)
  have hFc := va_free (wc := wc) hD hS hA isC hC
  have hDc : va_D (fun _ => True) wc := (hD.sub isC hnc hC).weaken (fun _ _ _ _ => trivial)
  have hpre : ∀ U : State, U.heap = H → s.WarmedH U.vm → Pw D dA wc H.size (.ref b :: As) (Value.ref b :: As).toArray U := fun U hU hW => ⟨rfl, by rw [hU], by rw [hU]; exact hPc, va_K.moved hW.alike C.2.2.2.2.2.2.2.1, hDc, NW.warm hW C.2.2.2.2.2.2.2.2⟩
  refine va_callv (va_runV (As := As) (rest := rest) ⟨C.1, C.2.1, C.2.2.1, C.2.2.2.1, C.2.2.2.2.1⟩ (hM H.size) (cwV n C.2.2.2.2.1 (gA_V h1 h2 h3 h4 h5) rfl rfl rfl ⟨hcl, hd⟩ hR) ⟨Pw.blind, va_recv C.2.2.2.2.2.2.2.1 hPc hvc hq, hpre⟩ rfl hn hsz hst (lv_room hrm) hdg hcs) hS (fun q _ z => hFc q z) hFc (fun _ t H1 locs1 ht hvm hw2 hB hz1 hk1 hS1 => ?_)
  obtain ⟨hP1, hD1⟩ := hB
  rw [ht] at hP1
  obtain ⟨hP2, hD2⟩ := va_join hP hD isC isR hC hRr hnd hdis hk1 hFc hP1 hD1
  
  exact kk H1 locs1 ⟨hP2.sub pm (fm_some hpm), hD2.sub pm hnp hpm, hS1⟩
theorem k_callSi (C : CX p s m args meth c cc nL ret own D dA) (h : St D w0 s w H locs) {y : MethodName} {bytes : ByteArray} {maxL fr lo index n : Nat} {rt : Option FieldType} {As : List Value} {r : Int32} (isC isR pm : List Nat) {wc wc1 wr : va_W} (hC : isC.map (fun i => w[i]?) = wc.map some) (hRr : isR.map (fun i => w[i]?) = wr.map some) (hnc : va_nd isC = true) (hnd : va_nd isR = true) (hdis : ∀ i ∈ isR, i ∉ isC) (hpm : pm.map (fun i => (wr ++ wc1)[i]?) = w1.map some) (hnp : va_nd pm = true) (hM : Mi l D dA y (Cond.code y bytes maxL rt :: wA) fr lo As wc wc1 r) (h1 : Cond.methodLink own index y ∈ wA) (h2 : Cond.static y ∈ wA) (h4 : Cond.initialized y.cls ∈ wA) (h5 : Cond.code y bytes maxL rt ∈ wA) (hd : y.cls ≠ "java/lang/invoke/MethodHandle" ∧ y.cls ≠ "java/lang/invoke/VarHandle" ∧ (parseMethodDescriptor y.desc).map (fun d => d.parameters.length) = some n) (hR : fr + 1 ≤ R.frames ∧ 8 + (maxL + 11) + lo ≤ R.locals) (hcs : cells ≤ R.cells ∧ slots ≤ R.slots) (hn : As.length = n) (hsz : ls.size = nL) (hrm : (rest.map fun v => v.category).sum ≤ 8) (hdg : decode cc pc = .ok (.invokestatic index, 3)) {st0 : List Value} (hst : st0 = As.reverse ++ rest)
    (kk : ∀ (H1 : Heap) (locs1 : List Loc), St D w0 s w1 H1 locs1 → W p l e R s m args below meth c H1 locs1 cells slots Q (F0 m (pc + 3) ls (.int r :: rest))) : W p l e R s m args below meth c H locs cells slots Q (F0 m pc ls st0) := by
  obtain ⟨hP, hD, hS⟩ := h
  have hA : ∀ q : Nat, s.heap.size ≤ q → va_A w0 s.heap.size q := fun q z => Or.inr z
  have hPc := hP.sub (ws' := wc) isC (fm_some hC)
  have hFc := va_free (wc := wc) hD hS hA isC hC
  have hDc : va_D (fun _ => True) wc := (hD.sub isC hnc hC).weaken (fun _ _ _ _ => trivial)
  have hpre : ∀ U : State, U.heap = H → s.WarmedH U.vm → Pw D dA wc H.size As As.toArray U := fun U hU hW => ⟨rfl, by rw [hU], by rw [hU]; exact hPc, va_K.moved hW.alike C.2.2.2.2.2.2.2.1, hDc, NW.warm hW C.2.2.2.2.2.2.2.2⟩
  refine va_calli (va_runS (As := As) (rest := rest) ⟨C.1, C.2.1, C.2.2.1, C.2.2.2.1, C.2.2.2.2.1⟩ (hM H.size) (va_cwS n C.2.2.2.2.1 (gA_S h1 h2 h4 h5) rfl rfl rfl hd hR) ⟨Pw.blind, hpre⟩ rfl hn hsz hst (lv_room hrm) hdg hcs) hS (fun q _ z => hFc q z) hFc (fun r1 _ t H1 locs1 ht hvm hw2 hB hz1 hk1 hS1 => ?_)
  obtain ⟨hP1, hD1⟩ := hB
  rw [ht] at hP1
  obtain ⟨hP2, hD2⟩ := va_join hP hD isC isR hC hRr hnd hdis hk1 hFc hP1 hD1
  subst hw2
  exact kk H1 locs1 ⟨hP2.sub pm (fm_some hpm), hD2.sub pm hnp hpm, hS1⟩
theorem k_callSl (C : CX p s m args meth c cc nL ret own D dA) (h : St D w0 s w H locs) {y : MethodName} {bytes : ByteArray} {maxL fr lo index n : Nat} {rt : Option FieldType} {As : List Value} {r : Int64} (isC isR pm : List Nat) {wc wc1 wr : va_W} (hC : isC.map (fun i => w[i]?) = wc.map some) (hRr : isR.map (fun i => w[i]?) = wr.map some) (hnc : va_nd isC = true) (hnd : va_nd isR = true) (hdis : ∀ i ∈ isR, i ∉ isC) (hpm : pm.map (fun i => (wr ++ wc1)[i]?) = w1.map some) (hnp : va_nd pm = true) (hM : Ml l D dA y (Cond.code y bytes maxL rt :: wA) fr lo As wc wc1 r) (h1 : Cond.methodLink own index y ∈ wA) (h2 : Cond.static y ∈ wA) (h4 : Cond.initialized y.cls ∈ wA) (h5 : Cond.code y bytes maxL rt ∈ wA) (hd : y.cls ≠ "java/lang/invoke/MethodHandle" ∧ y.cls ≠ "java/lang/invoke/VarHandle" ∧ (parseMethodDescriptor y.desc).map (fun d => d.parameters.length) = some n) (hR : fr + 1 ≤ R.frames ∧ 8 + (maxL + 11) + lo ≤ R.locals) (hcs : cells ≤ R.cells ∧ slots ≤ R.slots) (hn : As.length = n) (hsz : ls.size = nL) (hrm : (rest.map fun v => v.category).sum ≤ 8) (hdg : decode cc pc = .ok (.invokestatic index, 3)) {st0 : List Value} (hst : st0 = As.reverse ++ rest)
    (kk : ∀ (H1 : Heap) (locs1 : List Loc), St D w0 s w1 H1 locs1 → W p l e R s m args below meth c H1 locs1 cells slots Q (F0 m (pc + 3) ls (.long r :: rest))) : W p l e R s m args below meth c H locs cells slots Q (F0 m pc ls st0) := by
  obtain ⟨hP, hD, hS⟩ := h
  have hA : ∀ q : Nat, s.heap.size ≤ q → va_A w0 s.heap.size q := fun q z => Or.inr z
  have hPc := hP.sub (ws' := wc) isC (fm_some hC)
  have hFc := va_free (wc := wc) hD hS hA isC hC
  have hDc : va_D (fun _ => True) wc := (hD.sub isC hnc hC).weaken (fun _ _ _ _ => trivial)
  have hpre : ∀ U : State, U.heap = H → s.WarmedH U.vm → Pw D dA wc H.size As As.toArray U := fun U hU hW => ⟨rfl, by rw [hU], by rw [hU]; exact hPc, va_K.moved hW.alike C.2.2.2.2.2.2.2.1, hDc, NW.warm hW C.2.2.2.2.2.2.2.2⟩
  refine va_calll (va_runS (As := As) (rest := rest) ⟨C.1, C.2.1, C.2.2.1, C.2.2.2.1, C.2.2.2.2.1⟩ (hM H.size) (va_cwS n C.2.2.2.2.1 (gA_S h1 h2 h4 h5) rfl rfl rfl hd hR) ⟨Pw.blind, hpre⟩ rfl hn hsz hst (lv_room hrm) hdg hcs) hS (fun q _ z => hFc q z) hFc (fun r1 _ t H1 locs1 ht hvm hw2 hB hz1 hk1 hS1 => ?_)
  obtain ⟨hP1, hD1⟩ := hB
  rw [ht] at hP1
  obtain ⟨hP2, hD2⟩ := va_join hP hD isC isR hC hRr hnd hdis hk1 hFc hP1 hD1
  subst hw2
  exact kk H1 locs1 ⟨hP2.sub pm (fm_some hpm), hD2.sub pm hnp hpm, hS1⟩
theorem k_callSv (C : CX p s m args meth c cc nL ret own D dA) (h : St D w0 s w H locs) {y : MethodName} {bytes : ByteArray} {maxL fr lo index n : Nat} {rt : Option FieldType} {As : List Value} (isC isR pm : List Nat) {wc wc1 wr : va_W} (hC : isC.map (fun i => w[i]?) = wc.map some) (hRr : isR.map (fun i => w[i]?) = wr.map some) (hnc : va_nd isC = true) (hnd : va_nd isR = true) (hdis : ∀ i ∈ isR, i ∉ isC) (hpm : pm.map (fun i => (wr ++ wc1)[i]?) = w1.map some) (hnp : va_nd pm = true) (hM : Mv l D dA y (Cond.code y bytes maxL rt :: wA) fr lo As wc wc1) (h1 : Cond.methodLink own index y ∈ wA) (h2 : Cond.static y ∈ wA) (h4 : Cond.initialized y.cls ∈ wA) (h5 : Cond.code y bytes maxL rt ∈ wA) (hd : y.cls ≠ "java/lang/invoke/MethodHandle" ∧ y.cls ≠ "java/lang/invoke/VarHandle" ∧ (parseMethodDescriptor y.desc).map (fun d => d.parameters.length) = some n) (hR : fr + 1 ≤ R.frames ∧ 8 + (maxL + 11) + lo ≤ R.locals) (hcs : cells ≤ R.cells ∧ slots ≤ R.slots) (hn : As.length = n) (hsz : ls.size = nL) (hrm : (rest.map fun v => v.category).sum ≤ 8) (hdg : decode cc pc = .ok (.invokestatic index, 3)) {st0 : List Value} (hst : st0 = As.reverse ++ rest)
    (kk : ∀ (H1 : Heap) (locs1 : List Loc), St D w0 s w1 H1 locs1 → W p l e R s m args below meth c H1 locs1 cells slots Q (F0 m (pc + 3) ls (rest))) : W p l e R s m args below meth c H locs cells slots Q (F0 m pc ls st0) := by
  obtain ⟨hP, hD, hS⟩ := h
  have hA : ∀ q : Nat, s.heap.size ≤ q → va_A w0 s.heap.size q := fun q z => Or.inr z
  have hPc := hP.sub (ws' := wc) isC (fm_some hC)
  have hFc := va_free (wc := wc) hD hS hA isC hC
  have hDc : va_D (fun _ => True) wc := (hD.sub isC hnc hC).weaken (fun _ _ _ _ => trivial)
  have hpre : ∀ U : State, U.heap = H → s.WarmedH U.vm → Pw D dA wc H.size As As.toArray U := fun U hU hW => ⟨rfl, by rw [hU], by rw [hU]; exact hPc, va_K.moved hW.alike C.2.2.2.2.2.2.2.1, hDc, NW.warm hW C.2.2.2.2.2.2.2.2⟩
  refine va_callv (va_runS (As := As) (rest := rest) ⟨C.1, C.2.1, C.2.2.1, C.2.2.2.1, C.2.2.2.2.1⟩ (hM H.size) (va_cwS n C.2.2.2.2.1 (gA_S h1 h2 h4 h5) rfl rfl rfl hd hR) ⟨Pw.blind, hpre⟩ rfl hn hsz hst (lv_room hrm) hdg hcs) hS (fun q _ z => hFc q z) hFc (fun _ t H1 locs1 ht hvm hw2 hB hz1 hk1 hS1 => ?_)
  obtain ⟨hP1, hD1⟩ := hB
  rw [ht] at hP1
  obtain ⟨hP2, hD2⟩ := va_join hP hD isC isR hC hRr hnd hdis hk1 hFc hP1 hD1
  
  exact kk H1 locs1 ⟨hP2.sub pm (fm_some hpm), hD2.sub pm hnp hpm, hS1⟩
theorem k_callNi (C : CX p s m args meth c cc nL ret own D dA) (h : St D w0 s w H locs) {y : MethodName} {bytes : ByteArray} {maxL fr lo index n : Nat} {rt : Option FieldType} {host : String} {As : List Value} {r : Int32} (isC isR pm : List Nat) {wc wc1 wr : va_W} (hC : isC.map (fun i => w[i]?) = wc.map some) (hRr : isR.map (fun i => w[i]?) = wr.map some) (hnc : va_nd isC = true) (hnd : va_nd isR = true) (hdis : ∀ i ∈ isR, i ∉ isC) (hpm : pm.map (fun i => (wr ++ wc1)[i]?) = w1.map some) (hnp : va_nd pm = true) (hM : Mi l D dA y (Cond.code y bytes maxL rt :: wA) fr lo As wc wc1 r) (hN : Cond.methodLinkNest own index y host ∈ nwl) (hst2 : Cond.static y ∈ wA) (hini : Cond.initialized y.cls ∈ wA) (h5 : Cond.code y bytes maxL rt ∈ wA) (hd : y.cls ≠ "java/lang/invoke/MethodHandle" ∧ y.cls ≠ "java/lang/invoke/VarHandle" ∧ (parseMethodDescriptor y.desc).map (fun d => d.parameters.length) = some n) (hR : fr + 1 ≤ R.frames ∧ 8 + (maxL + 11) + lo ≤ R.locals) (hcs : cells ≤ R.cells ∧ slots ≤ R.slots) (hn : As.length = n) (hsz : ls.size = nL) (hrm : (rest.map fun v => v.category).sum ≤ 8) (hdg : decode cc pc = .ok (.invokestatic index, 3)) {st0 : List Value} (hst : st0 = As.reverse ++ rest)
    (kk : ∀ (H1 : Heap) (locs1 : List Loc), St D w0 s w1 H1 locs1 → W p l e R s m args below meth c H1 locs1 cells slots Q (F0 m (pc + 3) ls (.int r :: rest))) : W p l e R s m args below meth c H locs cells slots Q (F0 m pc ls st0) := by
  obtain ⟨hP, hD, hS⟩ := h
  have hA : ∀ q : Nat, s.heap.size ≤ q → va_A w0 s.heap.size q := fun q z => Or.inr z
  have hPc := hP.sub (ws' := wc) isC (fm_some hC)
  have hFc := va_free (wc := wc) hD hS hA isC hC
  have hDc : va_D (fun _ => True) wc := (hD.sub isC hnc hC).weaken (fun _ _ _ _ => trivial)
  have hpre : ∀ U : State, U.heap = H → s.WarmedH U.vm → Pw D dA wc H.size As As.toArray U := fun U hU hW => ⟨rfl, by rw [hU], by rw [hU]; exact hPc, va_K.moved hW.alike C.2.2.2.2.2.2.2.1, hDc, NW.warm hW C.2.2.2.2.2.2.2.2⟩
  refine va_calli (va_runSN (As := As) (rest := rest) ⟨C.1, C.2.1, C.2.2.1, C.2.2.2.1, C.2.2.2.2.1⟩ (hM H.size) ⟨va_cnB n C.2.2.2.2.1 (gA_c h5) rfl rfl rfl (C.2.2.2.2.2.2.2.2 _ hN) (C.2.2.2.2.1 _ hini) hd hR, C.2.2.2.2.1 _ hst2, trivial⟩ ⟨Pw.blind, hpre⟩ rfl hn hsz hst (lv_room hrm) hdg hcs) hS (fun q _ z => hFc q z) hFc (fun r1 _ t H1 locs1 ht hvm hw2 hB hz1 hk1 hS1 => ?_)
  obtain ⟨hP1, hD1⟩ := hB
  rw [ht] at hP1
  obtain ⟨hP2, hD2⟩ := va_join hP hD isC isR hC hRr hnd hdis hk1 hFc hP1 hD1
  subst hw2
  exact kk H1 locs1 ⟨hP2.sub pm (fm_some hpm), hD2.sub pm hnp hpm, hS1⟩
theorem k_callNl (C : CX p s m args meth c cc nL ret own D dA) (h : St D w0 s w H locs) {y : MethodName} {bytes : ByteArray} {maxL fr lo index n : Nat} {rt : Option FieldType} {host : String} {As : List Value} {r : Int64} (isC isR pm : List Nat) {wc wc1 wr : va_W} (hC : isC.map (fun i => w[i]?) = wc.map some) (hRr : isR.map (fun i => w[i]?) = wr.map some) (hnc : va_nd isC = true) (hnd : va_nd isR = true) (hdis : ∀ i ∈ isR, i ∉ isC) (hpm : pm.map (fun i => (wr ++ wc1)[i]?) = w1.map some) (hnp : va_nd pm = true) (hM : Ml l D dA y (Cond.code y bytes maxL rt :: wA) fr lo As wc wc1 r) (hN : Cond.methodLinkNest own index y host ∈ nwl) (hst2 : Cond.static y ∈ wA) (hini : Cond.initialized y.cls ∈ wA) (h5 : Cond.code y bytes maxL rt ∈ wA) (hd : y.cls ≠ "java/lang/invoke/MethodHandle" ∧ y.cls ≠ "java/lang/invoke/VarHandle" ∧ (parseMethodDescriptor y.desc).map (fun d => d.parameters.length) = some n) (hR : fr + 1 ≤ R.frames ∧ 8 + (maxL + 11) + lo ≤ R.locals) (hcs : cells ≤ R.cells ∧ slots ≤ R.slots) (hn : As.length = n) (hsz : ls.size = nL) (hrm : (rest.map fun v => v.category).sum ≤ 8) (hdg : decode cc pc = .ok (.invokestatic index, 3)) {st0 : List Value} (hst : st0 = As.reverse ++ rest)
    (kk : ∀ (H1 : Heap) (locs1 : List Loc), St D w0 s w1 H1 locs1 → W p l e R s m args below meth c H1 locs1 cells slots Q (F0 m (pc + 3) ls (.long r :: rest))) : W p l e R s m args below meth c H locs cells slots Q (F0 m pc ls st0) := by
  obtain ⟨hP, hD, hS⟩ := h
  have hA : ∀ q : Nat, s.heap.size ≤ q → va_A w0 s.heap.size q := fun q z => Or.inr z
  have hPc := hP.sub (ws' := wc) isC (fm_some hC)
  have hFc := va_free (wc := wc) hD hS hA isC hC
  have hDc : va_D (fun _ => True) wc := (hD.sub isC hnc hC).weaken (fun _ _ _ _ => trivial)
  have hpre : ∀ U : State, U.heap = H → s.WarmedH U.vm → Pw D dA wc H.size As As.toArray U := fun U hU hW => ⟨rfl, by rw [hU], by rw [hU]; exact hPc, va_K.moved hW.alike C.2.2.2.2.2.2.2.1, hDc, NW.warm hW C.2.2.2.2.2.2.2.2⟩
  refine va_calll (va_runSN (As := As) (rest := rest) ⟨C.1, C.2.1, C.2.2.1, C.2.2.2.1, C.2.2.2.2.1⟩ (hM H.size) ⟨va_cnB n C.2.2.2.2.1 (gA_c h5) rfl rfl rfl (C.2.2.2.2.2.2.2.2 _ hN) (C.2.2.2.2.1 _ hini) hd hR, C.2.2.2.2.1 _ hst2, trivial⟩ ⟨Pw.blind, hpre⟩ rfl hn hsz hst (lv_room hrm) hdg hcs) hS (fun q _ z => hFc q z) hFc (fun r1 _ t H1 locs1 ht hvm hw2 hB hz1 hk1 hS1 => ?_)
  obtain ⟨hP1, hD1⟩ := hB
  rw [ht] at hP1
  obtain ⟨hP2, hD2⟩ := va_join hP hD isC isR hC hRr hnd hdis hk1 hFc hP1 hD1
  subst hw2
  exact kk H1 locs1 ⟨hP2.sub pm (fm_some hpm), hD2.sub pm hnp hpm, hS1⟩
theorem k_callNv (C : CX p s m args meth c cc nL ret own D dA) (h : St D w0 s w H locs) {y : MethodName} {bytes : ByteArray} {maxL fr lo index n : Nat} {rt : Option FieldType} {host : String} {As : List Value} (isC isR pm : List Nat) {wc wc1 wr : va_W} (hC : isC.map (fun i => w[i]?) = wc.map some) (hRr : isR.map (fun i => w[i]?) = wr.map some) (hnc : va_nd isC = true) (hnd : va_nd isR = true) (hdis : ∀ i ∈ isR, i ∉ isC) (hpm : pm.map (fun i => (wr ++ wc1)[i]?) = w1.map some) (hnp : va_nd pm = true) (hM : Mv l D dA y (Cond.code y bytes maxL rt :: wA) fr lo As wc wc1) (hN : Cond.methodLinkNest own index y host ∈ nwl) (hst2 : Cond.static y ∈ wA) (hini : Cond.initialized y.cls ∈ wA) (h5 : Cond.code y bytes maxL rt ∈ wA) (hd : y.cls ≠ "java/lang/invoke/MethodHandle" ∧ y.cls ≠ "java/lang/invoke/VarHandle" ∧ (parseMethodDescriptor y.desc).map (fun d => d.parameters.length) = some n) (hR : fr + 1 ≤ R.frames ∧ 8 + (maxL + 11) + lo ≤ R.locals) (hcs : cells ≤ R.cells ∧ slots ≤ R.slots) (hn : As.length = n) (hsz : ls.size = nL) (hrm : (rest.map fun v => v.category).sum ≤ 8) (hdg : decode cc pc = .ok (.invokestatic index, 3)) {st0 : List Value} (hst : st0 = As.reverse ++ rest)
    (kk : ∀ (H1 : Heap) (locs1 : List Loc), St D w0 s w1 H1 locs1 → W p l e R s m args below meth c H1 locs1 cells slots Q (F0 m (pc + 3) ls (rest))) : W p l e R s m args below meth c H locs cells slots Q (F0 m pc ls st0) := by
  obtain ⟨hP, hD, hS⟩ := h
  have hA : ∀ q : Nat, s.heap.size ≤ q → va_A w0 s.heap.size q := fun q z => Or.inr z
  have hPc := hP.sub (ws' := wc) isC (fm_some hC)
  have hFc := va_free (wc := wc) hD hS hA isC hC
  have hDc : va_D (fun _ => True) wc := (hD.sub isC hnc hC).weaken (fun _ _ _ _ => trivial)
  have hpre : ∀ U : State, U.heap = H → s.WarmedH U.vm → Pw D dA wc H.size As As.toArray U := fun U hU hW => ⟨rfl, by rw [hU], by rw [hU]; exact hPc, va_K.moved hW.alike C.2.2.2.2.2.2.2.1, hDc, NW.warm hW C.2.2.2.2.2.2.2.2⟩
  refine va_callv (va_runSN (As := As) (rest := rest) ⟨C.1, C.2.1, C.2.2.1, C.2.2.2.1, C.2.2.2.2.1⟩ (hM H.size) ⟨va_cnB n C.2.2.2.2.1 (gA_c h5) rfl rfl rfl (C.2.2.2.2.2.2.2.2 _ hN) (C.2.2.2.2.1 _ hini) hd hR, C.2.2.2.2.1 _ hst2, trivial⟩ ⟨Pw.blind, hpre⟩ rfl hn hsz hst (lv_room hrm) hdg hcs) hS (fun q _ z => hFc q z) hFc (fun _ t H1 locs1 ht hvm hw2 hB hz1 hk1 hS1 => ?_)
  obtain ⟨hP1, hD1⟩ := hB
  rw [ht] at hP1
  obtain ⟨hP2, hD2⟩ := va_join hP hD isC isR hC hRr hnd hdis hk1 hFc hP1 hD1
  
  exact kk H1 locs1 ⟨hP2.sub pm (fm_some hpm), hD2.sub pm hnp hpm, hS1⟩
end KB
-- constructors: cells are made
def fl (k : Nat) (v : Int32) : Nat → Int32 := fun j => if j < k then v else 0
theorem fl_0 (v : Int32) : fl 0 v = fun _ => 0 := by funext j; simp [fl]
theorem fl_s (k : Nat) (v : Int32) : fl (k + 1) v = upd (fl k v) k v := by
  funext j
  unfold fl upd
  by_cases h : j = k
  · subst h; simp
  · by_cases h2 : j < k
    · simp [h, h2, Nat.lt_succ_of_lt h2]
    · have h3 : ¬ j < k + 1 := by omega
      simp [h, h2, h3]
abbrev rma (fr lo mc ms : Nat) : Room := { frames := fr, cells := mc, slots := ms, locals := lo }
def Mc (l : Launch) (D : va_G) (dA : Nat → ClassId) (y : MethodName) (ws : List Cond) (fr lo mc ms : Nat) (av : List Value) (w : va_W) (w1 : (Nat → Nat) → va_W) : Prop :=
  ∀ sz, Met l y ws (rma fr lo mc ms) (Pw D dA w sz av) (va_Qv (fun (_ : Nat → Nat) => True) (fun u t => va_P D vwCl (w1 u) t.heap ∧ va_D (va_A w sz) (w1 u)) (va_A w sz)) mc ms (va_A w sz)
section KC
variable {p : Program} {l : Launch} {e : Env} {R : Room} {s : State} {m : MethodId} {args : Array Value} {below : List Frame} {meth : Method} {c : Code} {H : Heap} {locs : List Loc} {cells slots : Nat} {Q : State → Prop}
variable {cc : ByteArray} {nL : Nat} {ret : Option FieldType} {own : String} {D : va_G} {dA : Nat → ClassId} {w0 w : va_W} {pc : Nat} {ls : Array Slot} {rest : List Value} {a : Nat}
theorem M_ofI {y : MethodName} {fr lo mc ms sz : Nat} {av : List Value} {Qc : Array Value → State → Outcome → State → Prop} (hy : plainName y.cls = true) (hc : y.cls = own) (hlen : (lg_sl av).length ≤ nL) (hyn : y.name = "<init>")
    (body : ∀ (p : Program) (e : Env) (s : State) (m : MethodId) (below : List Frame) (meth : Method) (c : Code) (ls : Array Slot), s.heap.size = sz → CX p s m av.toArray meth c cc nL ret own D dA → meth.name = "<init>" → St D w s w s.heap [] → lv_has ls nL (lv_args 0 av) → W p l e (rma fr lo mc ms) s m av.toArray below meth c s.heap [] 0 0 (MQ below Qc av.toArray s mc ms (va_A w sz)) (F0 m 0 ls [])) :
    Met l y (Cond.code y cc nL ret :: wA) (rma fr lo mc ms) (Pw D dA w sz av) Qc mc ms (va_A w sz) := by
  refine Met.ofW (cc := cc) (maxL := nL) (ret := ret) hy rfl ?_
  intro p e s m args below meth c s₁ B hml hv
  obtain ⟨rfl, hsz, hP, hK, hD0, hN⟩ := hv
  have hl := lv_entry av (n := nL) hlen
  rw [lg_entry_eq]
  generalize (lg_sl av ++ List.replicate (nL - (lg_sl av).length) Slot.unset).toArray = ls at hl ⊢
  have hown : s.vm.findClass own = some m.cls := by rw [← hc]; exact findClass_of_methodNamed B.named
  have hin : meth.name = "<init>" := (name_of_methodNamed B.named B.method).1.trans hyn
  exact body p e s m below meth c ls hsz ⟨B.exec, B.bytes, hml, hown, fun w hw => atoms_spec (ws := Cond.code y cc nL ret :: wA) B.pre w (List.mem_cons_of_mem _ hw), B.returns, B.notSynchronized, hK, hN⟩ hin ⟨hP, by have h := hD0.self (sz := s.heap.size); exact h, va_S.rf⟩ hl
theorem k_putF (C : CX p s m args meth c cc nL ret own D dA) (hin2 : meth.name = "<init>") (h : St D w0 s w H locs) {C1 : String} {T : u_T} {N ci index : Nat} (q0 : Nat) {fs : List Value} (he : w[q0]? = some (a, .inr (ci, fs))) (hc : vwCl[ci]? = some (C1, T, N)) (hin : ∀ x ∈ u_ws C1 T N, x ∈ wA) (ty0 : Nat → FieldType) (hty : ∀ k, k < N → parseFieldDescriptor (T k).2.2.1 = some (ty0 k)) (hnm : ∀ a, a < N → ∀ b, b < N → a ≠ b → (T a).2.1 ≠ (T b).2.1) (k : Nat) (hk : k < N) (hl : Cond.fieldLink own index (T k).1 (T k).2.1 (T k).2.2.1 ∈ wA) (hfin : (T k).2.2.2 = true) (hdecl : (T k).1 = own) {v : Value} (hn : narrow (ty0 k) v = v) (hfit : fits (ty0 k) v = true) (hlt : k < fs.length) (hdg : decode cc pc = .ok (.putfield index, 3)) (w1 : va_W) (hw1 : w.set q0 (a, .inr (ci, fs.set k v)) = w1)
    (kk : ∀ (H1 : Heap) (locs1 : List Loc), St D w0 s w1 H1 locs1 → W p l e R s m args below meth c H1 locs1 cells slots Q (F0 m (pc + 3) ls rest)) : W p l e R s m args below meth c H locs cells slots Q (F0 m pc ls (v :: .ref a :: rest)) := by
  subst hw1
  exact va_putF C.1 C.2.1 C.2.2.2.2.1 hin ty0 hty hnm C.2.2.2.1 C.2.2.2.2.2.2.2.1 h.1 h.2.1 h.2.2 q0 he hc k hk (C.2.2.2.2.1 _ hl) (fun _ z => z) hfin hin2 hdecl (hty k hk) hn hfit hlt hdg (fun H1 locs1 a1 a2 a3 => kk H1 locs1 ⟨a1, a2, a3⟩)
theorem k_new (C : CX p s m args meth c cc nL ret own D dA) (h : St D w0 s w H locs) {C1 : String} {T : u_T} {N ci index : Nat} (hin : ∀ x ∈ u_ws C1 T N, x ∈ wA) (ty : Nat → FieldType) (hty : ∀ k, k < N → parseFieldDescriptor (T k).2.2.1 = some (ty k)) (hcl : Cond.classLink own index C1 ∈ wA) (hinst : Cond.instantiable C1 N ∈ wA) (hini : Cond.initialized C1 ∈ wA) (hc : vwCl[ci]? = some (C1, T, N)) (fs : List Value) (hfs : ∀ j, j < N → defaultValue (ty j) = vp_V fs j) (hcells : cells + 1 ≤ R.cells) (hslots : slots + N ≤ R.slots) (hdg : decode cc pc = .ok (.new index, 3))
    (kk : ∀ (q : Nat) (H1 : Heap), St D w0 s (w ++ [(q, .inr (ci, fs))]) H1 locs → W p l e R s m args below meth c H1 locs (cells + 1) (slots + N) Q (F0 m (pc + 3) ls (.ref q :: rest))) : W p l e R s m args below meth c H locs cells slots Q (F0 m pc ls rest) :=
  va_new C.1 C.2.1 C.2.2.2.2.1 hin ty hty C.2.2.2.1 (C.2.2.2.2.1 _ hcl) (C.2.2.2.2.1 _ hinst) (C.2.2.2.2.1 _ hini) C.2.2.2.2.2.2.2.1 h.1 h.2.1 h.2.2 (fun q z => Or.inr z) hc hfs hcells hslots hdg (fun q H1 a1 a2 a3 => kk q H1 ⟨a1, a2, a3⟩)
theorem k_newI (C : CX p s m args meth c cc nL ret own D dA) (h : St D w0 s w H locs) (harr : Cond.arrayClass .int ∈ wA) {n : Int32} (N : Nat) (hn : ¬ n < 0) (hN : n.toNatClampNeg = N) (hbytes : N * componentBytes .int ≤ 536870912) (hcells : cells + 1 ≤ R.cells) (hslots : slots + N ≤ R.slots) (hdg : decode cc pc = .ok (.newarray .int, 2))
    (kk : ∀ (q : Nat) (H1 : Heap), St D w0 s (w ++ [(q, .inl (dA 0, N, .inl (fun _ => 0)))]) H1 locs → W p l e R s m args below meth c H1 locs (cells + 1) (slots + N) Q (F0 m (pc + 2) ls (.ref q :: rest))) : W p l e R s m args below meth c H locs cells slots Q (F0 m pc ls (.int n :: rest)) := by
  refine va_newa (atype := .int) (ty := .int) (a0 := (N, .inl (fun _ => 0))) C.1 C.2.1 (C.2.2.2.2.1 _ harr) rfl C.2.2.2.2.2.2.2.1 h.1 h.2.1 h.2.2 (fun q z => Or.inr z) (fun _ => rfl) hn hN hbytes hcells hslots hdg (fun q cA H1 hK1 a1 a2 a3 => ?_)
  have e1 : s.vm.findClass ("[" ++ (FieldType.int).toString) = some cA := (hK1.2 7 _ rfl).2
  have e2 : s.vm.findClass ("[" ++ (FieldType.int).toString) = some (dA 0) := (C.2.2.2.2.2.2.2.1.2 0 _ rfl).2
  have e3 : cA = dA 0 := Option.some.inj (e1.symm.trans e2)
  subst e3
  exact kk q H1 ⟨a1, a2, a3⟩
theorem k_newJ (C : CX p s m args meth c cc nL ret own D dA) (h : St D w0 s w H locs) (harr : Cond.arrayClass .long ∈ wA) {n : Int32} (N : Nat) (hn : ¬ n < 0) (hN : n.toNatClampNeg = N) (hbytes : N * componentBytes .long ≤ 536870912) (hcells : cells + 1 ≤ R.cells) (hslots : slots + N ≤ R.slots) (hdg : decode cc pc = .ok (.newarray .long, 2))
    (kk : ∀ (q : Nat) (H1 : Heap), St D w0 s (w ++ [(q, .inl (dA 1, N, .inr (.inl (fun _ => 0))))]) H1 locs → W p l e R s m args below meth c H1 locs (cells + 1) (slots + N) Q (F0 m (pc + 2) ls (.ref q :: rest))) : W p l e R s m args below meth c H locs cells slots Q (F0 m pc ls (.int n :: rest)) := by
  refine va_newa (atype := .long) (ty := .long) (a0 := (N, .inr (.inl (fun _ => 0)))) C.1 C.2.1 (C.2.2.2.2.1 _ harr) rfl C.2.2.2.2.2.2.2.1 h.1 h.2.1 h.2.2 (fun q z => Or.inr z) (fun _ => rfl) hn hN hbytes hcells hslots hdg (fun q cA H1 hK1 a1 a2 a3 => ?_)
  have e1 : s.vm.findClass ("[" ++ (FieldType.long).toString) = some cA := (hK1.2 7 _ rfl).2
  have e2 : s.vm.findClass ("[" ++ (FieldType.long).toString) = some (dA 1) := (C.2.2.2.2.2.2.2.1.2 1 _ rfl).2
  have e3 : cA = dA 1 := Option.some.inj (e1.symm.trans e2)
  subst e3
  exact kk q H1 ⟨a1, a2, a3⟩
theorem k_newB (C : CX p s m args meth c cc nL ret own D dA) (h : St D w0 s w H locs) (harr : Cond.arrayClass .byte ∈ wA) {n : Int32} (N : Nat) (hn : ¬ n < 0) (hN : n.toNatClampNeg = N) (hbytes : N * componentBytes .byte ≤ 536870912) (hcells : cells + 1 ≤ R.cells) (hslots : slots + N ≤ R.slots) (hdg : decode cc pc = .ok (.newarray .byte, 2))
    (kk : ∀ (q : Nat) (H1 : Heap), St D w0 s (w ++ [(q, .inl (dA 2, N, .inl (fun _ => 0)))]) H1 locs → W p l e R s m args below meth c H1 locs (cells + 1) (slots + N) Q (F0 m (pc + 2) ls (.ref q :: rest))) : W p l e R s m args below meth c H locs cells slots Q (F0 m pc ls (.int n :: rest)) := by
  refine va_newa (atype := .byte) (ty := .byte) (a0 := (N, .inl (fun _ => 0))) C.1 C.2.1 (C.2.2.2.2.1 _ harr) rfl C.2.2.2.2.2.2.2.1 h.1 h.2.1 h.2.2 (fun q z => Or.inr z) (fun _ => rfl) hn hN hbytes hcells hslots hdg (fun q cA H1 hK1 a1 a2 a3 => ?_)
  have e1 : s.vm.findClass ("[" ++ (FieldType.byte).toString) = some cA := (hK1.2 7 _ rfl).2
  have e2 : s.vm.findClass ("[" ++ (FieldType.byte).toString) = some (dA 2) := (C.2.2.2.2.2.2.2.1.2 2 _ rfl).2
  have e3 : cA = dA 2 := Option.some.inj (e1.symm.trans e2)
  subst e3
  exact kk q H1 ⟨a1, a2, a3⟩
theorem k_newZ (C : CX p s m args meth c cc nL ret own D dA) (h : St D w0 s w H locs) (harr : Cond.arrayClass .boolean ∈ wA) {n : Int32} (N : Nat) (hn : ¬ n < 0) (hN : n.toNatClampNeg = N) (hbytes : N * componentBytes .boolean ≤ 536870912) (hcells : cells + 1 ≤ R.cells) (hslots : slots + N ≤ R.slots) (hdg : decode cc pc = .ok (.newarray .boolean, 2))
    (kk : ∀ (q : Nat) (H1 : Heap), St D w0 s (w ++ [(q, .inl (dA 3, N, .inl (fun _ => 0)))]) H1 locs → W p l e R s m args below meth c H1 locs (cells + 1) (slots + N) Q (F0 m (pc + 2) ls (.ref q :: rest))) : W p l e R s m args below meth c H locs cells slots Q (F0 m pc ls (.int n :: rest)) := by
  refine va_newa (atype := .boolean) (ty := .boolean) (a0 := (N, .inl (fun _ => 0))) C.1 C.2.1 (C.2.2.2.2.1 _ harr) rfl C.2.2.2.2.2.2.2.1 h.1 h.2.1 h.2.2 (fun q z => Or.inr z) (fun _ => rfl) hn hN hbytes hcells hslots hdg (fun q cA H1 hK1 a1 a2 a3 => ?_)
  have e1 : s.vm.findClass ("[" ++ (FieldType.boolean).toString) = some cA := (hK1.2 7 _ rfl).2
  have e2 : s.vm.findClass ("[" ++ (FieldType.boolean).toString) = some (dA 3) := (C.2.2.2.2.2.2.2.1.2 3 _ rfl).2
  have e3 : cA = dA 3 := Option.some.inj (e1.symm.trans e2)
  subst e3
  exact kk q H1 ⟨a1, a2, a3⟩
theorem k_callI (C : CX p s m args meth c cc nL ret own D dA) (h : St D w0 s w H locs) {y : MethodName} {bytes : ByteArray} {maxL fr lo mc ms index n b : Nat} {As : List Value} (isC isR pm : List Nat) {wc wr : va_W} {wc1 w1 : (Nat → Nat) → va_W} (hC : isC.map (fun i => w[i]?) = wc.map some) (hRr : isR.map (fun i => w[i]?) = wr.map some) (hnc : va_nd isC = true) (hnc : va_nd isC = true) (hnd : va_nd isR = true) (hdis : ∀ i ∈ isR, i ∉ isC) (hpm : ∀ u, pm.map (fun i => (wr ++ wc1 u)[i]?) = (w1 u).map some) (hnp : va_nd pm = true) (hM : Mc l D dA y (Cond.code y bytes maxL none :: wA) fr lo mc ms (.ref b :: As) wc wc1) (hlk : Cond.methodLink own index y ∈ wA) (h2 : Cond.instanceMethod y ∈ wA) (h4 : Cond.initialized y.cls ∈ wA) (h5 : Cond.code y bytes maxL none ∈ wA) (hyn : y.name = "<init>") (hd : y.cls ≠ "java/lang/invoke/MethodHandle" ∧ y.cls ≠ "java/lang/invoke/VarHandle" ∧ (parseMethodDescriptor y.desc).map (fun d => d.parameters.length) = some n) (hR : fr + 1 ≤ R.frames ∧ 8 + (maxL + 11) + lo ≤ R.locals) (hcs : cells + mc ≤ R.cells ∧ slots + ms ≤ R.slots) (hn : As.length = n) (hsz : ls.size = nL) (hrm : (rest.map fun v => v.category).sum ≤ 8) (hdg : decode cc pc = .ok (.invokespecial index, 3)) {st0 : List Value} (hst : st0 = As.reverse ++ .ref b :: rest)
    (kk : ∀ (u : Nat → Nat) (H1 : Heap) (locs1 : List Loc), St D w0 s (w1 u) H1 locs1 → W p l e R s m args below meth c H1 locs1 (cells + mc) (slots + ms) Q (F0 m (pc + 3) ls rest)) : W p l e R s m args below meth c H locs cells slots Q (F0 m pc ls st0) := by
  obtain ⟨hP, hD, hS⟩ := h
  have hA : ∀ q : Nat, s.heap.size ≤ q → va_A w0 s.heap.size q := fun q z => Or.inr z
  have hPc := hP.sub (ws' := wc) isC (fm_some hC)
  have hFc := va_free (wc := wc) hD hS hA isC hC
  have hDc : va_D (fun _ => True) wc := (hD.sub isC hnc hC).weaken (fun _ _ _ _ => trivial)
  have hpre : ∀ U : State, U.heap = H → s.WarmedH U.vm → Pw D dA wc H.size (.ref b :: As) (Value.ref b :: As).toArray U := fun U hU hW => ⟨rfl, by rw [hU], by rw [hU]; exact hPc, va_K.moved hW.alike C.2.2.2.2.2.2.2.1, hDc, NW.warm hW C.2.2.2.2.2.2.2.2⟩
  refine va_callv (va_runI (As := As) (rest := rest) ⟨C.1, C.2.1, C.2.2.1, C.2.2.2.1, C.2.2.2.2.1⟩ (hM H.size) (cwI n C.2.2.2.2.1 (gA_c h5) rfl rfl rfl (C.2.2.2.2.1 _ h4) (C.2.2.2.2.1 _ hlk) (C.2.2.2.2.1 _ h2) hyn hd hR) ⟨Pw.blind, hpre⟩ rfl hn hsz hst (lv_room hrm) hdg hcs) hS (fun q _ z => hFc q z) hFc (fun u t H1 locs1 ht hvm hw2 hB hz1 hk1 hS1 => ?_)
  obtain ⟨hP1, hD1⟩ := hB
  rw [ht] at hP1
  obtain ⟨hP2, hD2⟩ := va_join hP hD isC isR hC hRr hnd hdis hk1 hFc hP1 hD1
  exact kk u H1 locs1 ⟨hP2.sub pm (fm_some (hpm u)), hD2.sub pm hnp (hpm u), hS1⟩
theorem k_callIN (C : CX p s m args meth c cc nL ret own D dA) (h : St D w0 s w H locs) {y : MethodName} {bytes : ByteArray} {maxL fr lo mc ms index n b : Nat} {host : String} {As : List Value} (isC isR pm : List Nat) {wc wr : va_W} {wc1 w1 : (Nat → Nat) → va_W} (hC : isC.map (fun i => w[i]?) = wc.map some) (hRr : isR.map (fun i => w[i]?) = wr.map some) (hnc : va_nd isC = true) (hnc : va_nd isC = true) (hnd : va_nd isR = true) (hdis : ∀ i ∈ isR, i ∉ isC) (hpm : ∀ u, pm.map (fun i => (wr ++ wc1 u)[i]?) = (w1 u).map some) (hnp : va_nd pm = true) (hM : Mc l D dA y (Cond.code y bytes maxL none :: wA) fr lo mc ms (.ref b :: As) wc wc1) (hlk : Cond.methodLinkNest own index y host ∈ nwl) (h2 : Cond.instanceMethod y ∈ wA) (h4 : Cond.initialized y.cls ∈ wA) (h5 : Cond.code y bytes maxL none ∈ wA) (hyn : y.name = "<init>") (hd : y.cls ≠ "java/lang/invoke/MethodHandle" ∧ y.cls ≠ "java/lang/invoke/VarHandle" ∧ (parseMethodDescriptor y.desc).map (fun d => d.parameters.length) = some n) (hR : fr + 1 ≤ R.frames ∧ 8 + (maxL + 11) + lo ≤ R.locals) (hcs : cells + mc ≤ R.cells ∧ slots + ms ≤ R.slots) (hn : As.length = n) (hsz : ls.size = nL) (hrm : (rest.map fun v => v.category).sum ≤ 8) (hdg : decode cc pc = .ok (.invokespecial index, 3)) {st0 : List Value} (hst : st0 = As.reverse ++ .ref b :: rest)
    (kk : ∀ (u : Nat → Nat) (H1 : Heap) (locs1 : List Loc), St D w0 s (w1 u) H1 locs1 → W p l e R s m args below meth c H1 locs1 (cells + mc) (slots + ms) Q (F0 m (pc + 3) ls rest)) : W p l e R s m args below meth c H locs cells slots Q (F0 m pc ls st0) := by
  obtain ⟨hP, hD, hS⟩ := h
  have hA : ∀ q : Nat, s.heap.size ≤ q → va_A w0 s.heap.size q := fun q z => Or.inr z
  have hPc := hP.sub (ws' := wc) isC (fm_some hC)
  have hFc := va_free (wc := wc) hD hS hA isC hC
  have hDc : va_D (fun _ => True) wc := (hD.sub isC hnc hC).weaken (fun _ _ _ _ => trivial)
  have hpre : ∀ U : State, U.heap = H → s.WarmedH U.vm → Pw D dA wc H.size (.ref b :: As) (Value.ref b :: As).toArray U := fun U hU hW => ⟨rfl, by rw [hU], by rw [hU]; exact hPc, va_K.moved hW.alike C.2.2.2.2.2.2.2.1, hDc, NW.warm hW C.2.2.2.2.2.2.2.2⟩
  refine va_callv (va_runIN (As := As) (rest := rest) ⟨C.1, C.2.1, C.2.2.1, C.2.2.2.1, C.2.2.2.2.1⟩ (hM H.size) ⟨va_cnB n C.2.2.2.2.1 (gA_c h5) rfl rfl rfl (C.2.2.2.2.2.2.2.2 _ hlk) (C.2.2.2.2.1 _ h4) hd hR, hyn, C.2.2.2.2.1 _ h2⟩ ⟨Pw.blind, hpre⟩ rfl hn hsz hst (lv_room hrm) hdg hcs) hS (fun q _ z => hFc q z) hFc (fun u t H1 locs1 ht hvm hw2 hB hz1 hk1 hS1 => ?_)
  obtain ⟨hP1, hD1⟩ := hB
  rw [ht] at hP1
  obtain ⟨hP2, hD2⟩ := va_join hP hD isC isR hC hRr hnd hdis hk1 hFc hP1 hD1
  exact kk u H1 locs1 ⟨hP2.sub pm (fm_some (hpm u)), hD2.sub pm hnp (hpm u), hS1⟩
theorem k_vretA {w1 : (Nat → Nat) → va_W} (u : Nat → Nat) {mc ms : Nat} (C : CX p s m args meth c cc nL none own D dA) (h : St D w0 s (w1 u) H locs) (hc : cells ≤ mc) (hs : slots ≤ ms) (hdg : decode cc pc = .ok (.return_, 1)) : W p l e R s m args below meth c H locs cells slots (MQ below (va_Qv (fun (_ : Nat → Nat) => True) (fun u t => va_P D vwCl (w1 u) t.heap ∧ va_D (va_A w0 s.heap.size) (w1 u)) (va_A w0 s.heap.size)) args s mc ms (va_A w0 s.heap.size)) (F0 m pc ls []) := by
  refine W.widen (k := mc) (n := ms) hc hs ?_
  exact W.vret C.1 C.2.1 C.2.2.2.2.2.1 (fun t ht _ => ⟨⟨u, rfl, trivial, by rw [ht]; exact h.1, h.2.1⟩, h.2.2.F ht⟩) h.2.2.2.2 hdg C.2.2.2.2.2.2.1
end KC
