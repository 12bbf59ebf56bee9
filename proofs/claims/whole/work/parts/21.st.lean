/-! RingPlaces.gapBetween(II)I -/
abbrev wX11_gapBetween (dA : Nat → ClassId)   : va_W := []
def fX11_gapBetween_j14 (N : Nat)  (u0 : Int32) : Option (Int32) := (if ((3600 : Int32) - u0) < u0 then some ((3600 : Int32) - u0) else some u0)
def fX11_gapBetween (N : Nat)  (x0_ : Int32) (x1_ : Int32) : Option (Int32) := (if x1_ ≤ x0_ then fX11_gapBetween_j14 N (x0_ - x1_) else fX11_gapBetween_j14 N (x1_ - x0_))
set_option maxHeartbeats 4000000 in
set_option maxRecDepth 100000 in
theorem tX11_gapBetween_j14 {p : Program} {l : Launch} {e : Env} {R : Room} {s : State} {m : MethodId} {args : Array Value} {below : List Frame} {meth : Method} {c : Code} {D : va_G} {dA : Nat → ClassId} {w0 : va_W} {Q : State → Prop} {H : Heap} {locs : List Loc} {ls : Array Slot} {cells slots : Nat} (C : CX p s m args meth c cX11_gapBetween 3 (some .int) RX11 D dA)  (hR : 0 ≤ R.frames ∧ 0 ≤ R.locals ∧ cells ≤ R.cells ∧ slots ≤ R.slots)   (u0 : Int32) (N : Nat) (res : (Int32)) (hf : fX11_gapBetween_j14 N u0 = some res) (hK : (∀ (H : Heap) (locs : List Loc) (pc : Nat) (ls : Array Slot), decode cX11_gapBetween pc = .ok (.ireturn, 1) → St D w0 s (wX11_gapBetween dA ) H locs → W p l e R s m args below meth c H locs cells slots Q (F0 m pc ls [.int res]))) (hl : lv_has ls 3 []) (hw : St D w0 s (wX11_gapBetween dA ) H locs) : W p l e R s m args below meth c H locs cells slots Q (F0 m 14 ls [.int u0]) := by
  have hx := C.1
  have hb := C.2.1
  have hml := C.2.2.1
  have hown := C.2.2.2.1
  have hts := C.2.2.2.2.1
  unfold fX11_gapBetween_j14 at hf
  refine lv_istore_n (lv' := [(2, .int u0)]) hx hb dX11_gapBetween_14 rfl hl (by decide) rfl (fun ls hl => ?_)
  refine lv_iload_n hx hb dX11_gapBetween_15 rfl (lv_at hl 0 rfl) ?_
  refine lv_sipush (v := (3600 : Int32)) hx hb dX11_gapBetween_16 (by decide) ?_
  refine lv_iload_n hx hb dX11_gapBetween_19 rfl (lv_at hl 0 rfl) ?_
  refine lv_isub hx hb dX11_gapBetween_20 ?_
  refine lv_icmp_gt (tgt := 28) hx hb dX11_gapBetween_21 (by decide) (fun c2 => ?_) (fun c2 => ?_)
  · have hf := ite_t c2 hf
    refine lv_sipush (v := (3600 : Int32)) hx hb dX11_gapBetween_28 (by decide) ?_
    refine lv_iload_n hx hb dX11_gapBetween_31 rfl (lv_at hl 0 rfl) ?_
    refine lv_isub hx hb dX11_gapBetween_32 ?_
    obtain rfl := some_r hf
    exact hK _ _ _ _ dX11_gapBetween_33 hw
  · have hf := ite_f c2 hf
    refine lv_iload_n hx hb dX11_gapBetween_24 rfl (lv_at hl 0 rfl) ?_
    refine lv_goto (tgt := 33) hx hb dX11_gapBetween_25 (by decide) ?_
    obtain rfl := some_r hf
    exact hK _ _ _ _ dX11_gapBetween_33 hw
set_option maxHeartbeats 4000000 in
set_option maxRecDepth 100000 in
theorem qX11_gapBetween (l : Launch) (D : va_G) (dA : Nat → ClassId)   (x0_ : Int32) (x1_ : Int32) (N : Nat) (o : Int32) (hf : fX11_gapBetween N x0_ x1_ = some o) : Mi l D dA yX11_gapBetween (Cond.code yX11_gapBetween cX11_gapBetween 3 (some .int) :: wA) 0 0 [.int x0_, .int x1_] (wX11_gapBetween dA ) (wX11_gapBetween dA ) o := by
  intro sz
  refine M_of (cc := cX11_gapBetween) (nL := 3) (ret := (some .int)) (own := RX11) (by decide +kernel) rfl (Nat.le_of_ble_eq_true rfl) ?_
  intro p e s m below meth c ls hsz C hw hl
  subst hsz
  have hR : 0 ≤ (rmm 0 0).frames ∧ 0 ≤ (rmm 0 0).locals ∧ 0 ≤ (rmm 0 0).cells ∧ 0 ≤ (rmm 0 0).slots := ⟨Nat.le_refl _, Nat.le_refl _, Nat.le_refl _, Nat.le_refl _⟩
  have hl : lv_has ls 3 [(0, .int x0_), (1, .int x1_)] := hl
  have hx := C.1
  have hb := C.2.1
  have hml := C.2.2.1
  have hown := C.2.2.2.1
  have hts := C.2.2.2.2.1
  have hK : ∀ (H : Heap) (locs : List Loc) (pc : Nat) (ls : Array Slot), decode cX11_gapBetween pc = .ok (.ireturn, 1) → St D (wX11_gapBetween dA ) s (wX11_gapBetween dA ) H locs → W p l e (rmm 0 0) s m [.int x0_, .int x1_].toArray below meth c H locs 0 0 (MQ below (Qi D (wX11_gapBetween dA ) (wX11_gapBetween dA ) o s.heap.size) [.int x0_, .int x1_].toArray s 0 0 (va_A (wX11_gapBetween dA ) s.heap.size)) (F0 m pc ls [.int o]) := fun H locs pc ls hd hw => k_iret C hw hd
  unfold fX11_gapBetween at hf
  refine lv_iload_n hx hb dX11_gapBetween_0 rfl (lv_at hl 0 rfl) ?_
  refine lv_iload_n hx hb dX11_gapBetween_1 rfl (lv_at hl 1 rfl) ?_
  refine lv_icmp_ge (tgt := 11) hx hb dX11_gapBetween_2 (by decide) (fun c1 => ?_) (fun c1 => ?_)
  · have hf := ite_t c1 hf
    refine lv_iload_n hx hb dX11_gapBetween_11 rfl (lv_at hl 0 rfl) ?_
    refine lv_iload_n hx hb dX11_gapBetween_12 rfl (lv_at hl 1 rfl) ?_
    refine lv_isub hx hb dX11_gapBetween_13 ?_
    exact tX11_gapBetween_j14 C  hR (x0_ - x1_) N _ hf hK (lv_sub hl [] rfl) hw
  · have hf := ite_f c1 hf
    refine lv_iload_n hx hb dX11_gapBetween_5 rfl (lv_at hl 1 rfl) ?_
    refine lv_iload_n hx hb dX11_gapBetween_6 rfl (lv_at hl 0 rfl) ?_
    refine lv_isub hx hb dX11_gapBetween_7 ?_
    refine lv_goto (tgt := 14) hx hb dX11_gapBetween_8 (by decide) ?_
    exact tX11_gapBetween_j14 C  hR (x1_ - x0_) N _ hf hK (lv_sub hl [] rfl) hw

/-! RingPlaces.isDay(I)Z -/
abbrev wX11_isDay (dA : Nat → ClassId)   : va_W := []
def fX11_isDay  (x0_ : Int32) : Option (Int32) := (if x0_ < 0 then some (0 : Int32) else (if (1000 : Int32) ≤ x0_ then some (0 : Int32) else some (1 : Int32)))
set_option maxHeartbeats 4000000 in
set_option maxRecDepth 100000 in
theorem qX11_isDay (l : Launch) (D : va_G) (dA : Nat → ClassId)   (x0_ : Int32) (o : Int32) (hf : fX11_isDay x0_ = some o) : Mi l D dA yX11_isDay (Cond.code yX11_isDay cX11_isDay 1 (some .boolean) :: wA) 0 0 [.int x0_] (wX11_isDay dA ) (wX11_isDay dA ) o := by
  intro sz
  refine M_of (cc := cX11_isDay) (nL := 1) (ret := (some .boolean)) (own := RX11) (by decide +kernel) rfl (Nat.le_of_ble_eq_true rfl) ?_
  intro p e s m below meth c ls hsz C hw hl
  subst hsz
  have hR : 0 ≤ (rmm 0 0).frames ∧ 0 ≤ (rmm 0 0).locals ∧ 0 ≤ (rmm 0 0).cells ∧ 0 ≤ (rmm 0 0).slots := ⟨Nat.le_refl _, Nat.le_refl _, Nat.le_refl _, Nat.le_refl _⟩
  have hl : lv_has ls 1 [(0, .int x0_)] := hl
  have hx := C.1
  have hb := C.2.1
  have hml := C.2.2.1
  have hown := C.2.2.2.1
  have hts := C.2.2.2.2.1
  have hK : ∀ (H : Heap) (locs : List Loc) (pc : Nat) (ls : Array Slot), (o = 0 ∨ o = 1) → decode cX11_isDay pc = .ok (.ireturn, 1) → St D (wX11_isDay dA ) s (wX11_isDay dA ) H locs → W p l e (rmm 0 0) s m [.int x0_].toArray below meth c H locs 0 0 (MQ below (Qi D (wX11_isDay dA ) (wX11_isDay dA ) o s.heap.size) [.int x0_].toArray s 0 0 (va_A (wX11_isDay dA ) s.heap.size)) (F0 m pc ls [.int o]) := fun H locs pc ls hz hd hw => k_zret C hw hz hd
  unfold fX11_isDay at hf
  refine lv_iload_n hx hb dX11_isDay_0 rfl (lv_at hl 0 rfl) ?_
  refine lv_if_lt (tgt := 15) hx hb dX11_isDay_1 (by decide) (fun c1 => ?_) (fun c1 => ?_)
  · have hf := ite_t c1 hf
    refine lv_iconst (v := (0 : Int32)) hx hb dX11_isDay_15 (by decide) ?_
    obtain rfl := some_r hf
    exact hK _ _ _ _ (Or.inl rfl) dX11_isDay_16 hw
  · have hf := ite_f c1 hf
    refine lv_iload_n hx hb dX11_isDay_4 rfl (lv_at hl 0 rfl) ?_
    refine lv_sipush (v := (1000 : Int32)) hx hb dX11_isDay_5 (by decide) ?_
    refine lv_icmp_ge (tgt := 15) hx hb dX11_isDay_8 (by decide) (fun c2 => ?_) (fun c2 => ?_)
    · have hf := ite_t c2 hf
      refine lv_iconst (v := (0 : Int32)) hx hb dX11_isDay_15 (by decide) ?_
      obtain rfl := some_r hf
      exact hK _ _ _ _ (Or.inl rfl) dX11_isDay_16 hw
    · have hf := ite_f c2 hf
      refine lv_iconst (v := (1 : Int32)) hx hb dX11_isDay_11 (by decide) ?_
      refine lv_goto (tgt := 16) hx hb dX11_isDay_12 (by decide) ?_
      obtain rfl := some_r hf
      exact hK _ _ _ _ (Or.inr rfl) dX11_isDay_16 hw

/-! RingPlaces.isDegree(I)Z -/
abbrev wX11_isDegree (dA : Nat → ClassId)   : va_W := []
def fX11_isDegree  (x0_ : Int32) : Option (Int32) := (if x0_ < 0 then some (0 : Int32) else (if (3600 : Int32) ≤ x0_ then some (0 : Int32) else some (1 : Int32)))
set_option maxHeartbeats 4000000 in
set_option maxRecDepth 100000 in
theorem qX11_isDegree (l : Launch) (D : va_G) (dA : Nat → ClassId)   (x0_ : Int32) (o : Int32) (hf : fX11_isDegree x0_ = some o) : Mi l D dA yX11_isDegree (Cond.code yX11_isDegree cX11_isDegree 1 (some .boolean) :: wA) 0 0 [.int x0_] (wX11_isDegree dA ) (wX11_isDegree dA ) o := by
  intro sz
  refine M_of (cc := cX11_isDegree) (nL := 1) (ret := (some .boolean)) (own := RX11) (by decide +kernel) rfl (Nat.le_of_ble_eq_true rfl) ?_
  intro p e s m below meth c ls hsz C hw hl
  subst hsz
  have hR : 0 ≤ (rmm 0 0).frames ∧ 0 ≤ (rmm 0 0).locals ∧ 0 ≤ (rmm 0 0).cells ∧ 0 ≤ (rmm 0 0).slots := ⟨Nat.le_refl _, Nat.le_refl _, Nat.le_refl _, Nat.le_refl _⟩
  have hl : lv_has ls 1 [(0, .int x0_)] := hl
  have hx := C.1
  have hb := C.2.1
  have hml := C.2.2.1
  have hown := C.2.2.2.1
  have hts := C.2.2.2.2.1
  have hK : ∀ (H : Heap) (locs : List Loc) (pc : Nat) (ls : Array Slot), (o = 0 ∨ o = 1) → decode cX11_isDegree pc = .ok (.ireturn, 1) → St D (wX11_isDegree dA ) s (wX11_isDegree dA ) H locs → W p l e (rmm 0 0) s m [.int x0_].toArray below meth c H locs 0 0 (MQ below (Qi D (wX11_isDegree dA ) (wX11_isDegree dA ) o s.heap.size) [.int x0_].toArray s 0 0 (va_A (wX11_isDegree dA ) s.heap.size)) (F0 m pc ls [.int o]) := fun H locs pc ls hz hd hw => k_zret C hw hz hd
  unfold fX11_isDegree at hf
  refine lv_iload_n hx hb dX11_isDegree_0 rfl (lv_at hl 0 rfl) ?_
  refine lv_if_lt (tgt := 15) hx hb dX11_isDegree_1 (by decide) (fun c1 => ?_) (fun c1 => ?_)
  · have hf := ite_t c1 hf
    refine lv_iconst (v := (0 : Int32)) hx hb dX11_isDegree_15 (by decide) ?_
    obtain rfl := some_r hf
    exact hK _ _ _ _ (Or.inl rfl) dX11_isDegree_16 hw
  · have hf := ite_f c1 hf
    refine lv_iload_n hx hb dX11_isDegree_4 rfl (lv_at hl 0 rfl) ?_
    refine lv_sipush (v := (3600 : Int32)) hx hb dX11_isDegree_5 (by decide) ?_
    refine lv_icmp_ge (tgt := 15) hx hb dX11_isDegree_8 (by decide) (fun c2 => ?_) (fun c2 => ?_)
    · have hf := ite_t c2 hf
      refine lv_iconst (v := (0 : Int32)) hx hb dX11_isDegree_15 (by decide) ?_
      obtain rfl := some_r hf
      exact hK _ _ _ _ (Or.inl rfl) dX11_isDegree_16 hw
    · have hf := ite_f c2 hf
      refine lv_iconst (v := (1 : Int32)) hx hb dX11_isDegree_11 (by decide) ?_
      refine lv_goto (tgt := 16) hx hb dX11_isDegree_12 (by decide) ?_
      obtain rfl := some_r hf
      exact hK _ _ _ _ (Or.inr rfl) dX11_isDegree_16 hw

/-! RingPlaces.isVoice(I)Z -/
abbrev wX11_isVoice (dA : Nat → ClassId)   : va_W := []
def fX11_isVoice  (x0_ : Int32) : Option (Int32) := (if x0_ < 0 then some (0 : Int32) else (if (4 : Int32) ≤ x0_ then some (0 : Int32) else some (1 : Int32)))
set_option maxHeartbeats 4000000 in
set_option maxRecDepth 100000 in
theorem qX11_isVoice (l : Launch) (D : va_G) (dA : Nat → ClassId)   (x0_ : Int32) (o : Int32) (hf : fX11_isVoice x0_ = some o) : Mi l D dA yX11_isVoice (Cond.code yX11_isVoice cX11_isVoice 1 (some .boolean) :: wA) 0 0 [.int x0_] (wX11_isVoice dA ) (wX11_isVoice dA ) o := by
  intro sz
  refine M_of (cc := cX11_isVoice) (nL := 1) (ret := (some .boolean)) (own := RX11) (by decide +kernel) rfl (Nat.le_of_ble_eq_true rfl) ?_
  intro p e s m below meth c ls hsz C hw hl
  subst hsz
  have hR : 0 ≤ (rmm 0 0).frames ∧ 0 ≤ (rmm 0 0).locals ∧ 0 ≤ (rmm 0 0).cells ∧ 0 ≤ (rmm 0 0).slots := ⟨Nat.le_refl _, Nat.le_refl _, Nat.le_refl _, Nat.le_refl _⟩
  have hl : lv_has ls 1 [(0, .int x0_)] := hl
  have hx := C.1
  have hb := C.2.1
  have hml := C.2.2.1
  have hown := C.2.2.2.1
  have hts := C.2.2.2.2.1
  have hK : ∀ (H : Heap) (locs : List Loc) (pc : Nat) (ls : Array Slot), (o = 0 ∨ o = 1) → decode cX11_isVoice pc = .ok (.ireturn, 1) → St D (wX11_isVoice dA ) s (wX11_isVoice dA ) H locs → W p l e (rmm 0 0) s m [.int x0_].toArray below meth c H locs 0 0 (MQ below (Qi D (wX11_isVoice dA ) (wX11_isVoice dA ) o s.heap.size) [.int x0_].toArray s 0 0 (va_A (wX11_isVoice dA ) s.heap.size)) (F0 m pc ls [.int o]) := fun H locs pc ls hz hd hw => k_zret C hw hz hd
  unfold fX11_isVoice at hf
  refine lv_iload_n hx hb dX11_isVoice_0 rfl (lv_at hl 0 rfl) ?_
  refine lv_if_lt (tgt := 13) hx hb dX11_isVoice_1 (by decide) (fun c1 => ?_) (fun c1 => ?_)
  · have hf := ite_t c1 hf
    refine lv_iconst (v := (0 : Int32)) hx hb dX11_isVoice_13 (by decide) ?_
    obtain rfl := some_r hf
    exact hK _ _ _ _ (Or.inl rfl) dX11_isVoice_14 hw
  · have hf := ite_f c1 hf
    refine lv_iload_n hx hb dX11_isVoice_4 rfl (lv_at hl 0 rfl) ?_
    refine lv_iconst (v := (4 : Int32)) hx hb dX11_isVoice_5 (by decide) ?_
    refine lv_icmp_ge (tgt := 13) hx hb dX11_isVoice_6 (by decide) (fun c2 => ?_) (fun c2 => ?_)
    · have hf := ite_t c2 hf
      refine lv_iconst (v := (0 : Int32)) hx hb dX11_isVoice_13 (by decide) ?_
      obtain rfl := some_r hf
      exact hK _ _ _ _ (Or.inl rfl) dX11_isVoice_14 hw
    · have hf := ite_f c2 hf
      refine lv_iconst (v := (1 : Int32)) hx hb dX11_isVoice_9 (by decide) ?_
      refine lv_goto (tgt := 14) hx hb dX11_isVoice_10 (by decide) ?_
      obtain rfl := some_r hf
      exact hK _ _ _ _ (Or.inr rfl) dX11_isVoice_14 hw

/-! RingPlaces.reachAt(III)I -/
abbrev wX11_reachAt (dA : Nat → ClassId)   : va_W := []
def fX11_reachAt  (x0_ : Int32) (x1_ : Int32) (x2_ : Int32) : Option (Int32) := bnd ((10 : Int32) + (x1_ * x2_)) fun x1 => (if x1 ≤ 0 then some (0 : Int32) else gdz x1 (some ((x0_ * (1000 : Int32)) / x1)))
set_option maxHeartbeats 4000000 in
set_option maxRecDepth 100000 in
theorem qX11_reachAt (l : Launch) (D : va_G) (dA : Nat → ClassId)   (x0_ : Int32) (x1_ : Int32) (x2_ : Int32) (o : Int32) (hf : fX11_reachAt x0_ x1_ x2_ = some o) : Mi l D dA yX11_reachAt (Cond.code yX11_reachAt cX11_reachAt 4 (some .int) :: wA) 0 0 [.int x0_, .int x1_, .int x2_] (wX11_reachAt dA ) (wX11_reachAt dA ) o := by
  intro sz
  refine M_of (cc := cX11_reachAt) (nL := 4) (ret := (some .int)) (own := RX11) (by decide +kernel) rfl (Nat.le_of_ble_eq_true rfl) ?_
  intro p e s m below meth c ls hsz C hw hl
  subst hsz
  have hR : 0 ≤ (rmm 0 0).frames ∧ 0 ≤ (rmm 0 0).locals ∧ 0 ≤ (rmm 0 0).cells ∧ 0 ≤ (rmm 0 0).slots := ⟨Nat.le_refl _, Nat.le_refl _, Nat.le_refl _, Nat.le_refl _⟩
  have hl : lv_has ls 4 [(0, .int x0_), (1, .int x1_), (2, .int x2_)] := hl
  have hx := C.1
  have hb := C.2.1
  have hml := C.2.2.1
  have hown := C.2.2.2.1
  have hts := C.2.2.2.2.1
  have hK : ∀ (H : Heap) (locs : List Loc) (pc : Nat) (ls : Array Slot), decode cX11_reachAt pc = .ok (.ireturn, 1) → St D (wX11_reachAt dA ) s (wX11_reachAt dA ) H locs → W p l e (rmm 0 0) s m [.int x0_, .int x1_, .int x2_].toArray below meth c H locs 0 0 (MQ below (Qi D (wX11_reachAt dA ) (wX11_reachAt dA ) o s.heap.size) [.int x0_, .int x1_, .int x2_].toArray s 0 0 (va_A (wX11_reachAt dA ) s.heap.size)) (F0 m pc ls [.int o]) := fun H locs pc ls hd hw => k_iret C hw hd
  unfold fX11_reachAt at hf
  refine lv_bipush (v := (10 : Int32)) hx hb dX11_reachAt_0 (by decide) ?_
  refine lv_iload_n hx hb dX11_reachAt_2 rfl (lv_at hl 1 rfl) ?_
  refine lv_iload_n hx hb dX11_reachAt_3 rfl (lv_at hl 2 rfl) ?_
  refine lv_imul hx hb dX11_reachAt_4 ?_
  refine lv_iadd hx hb dX11_reachAt_5 ?_
  refine lv_topi (fun x1 ex1 => ?_)
  have hf := bnd_r ex1 hf
  refine lv_istore_n (lv' := [(3, .int x1), (0, .int x0_), (1, .int x1_), (2, .int x2_)]) hx hb dX11_reachAt_6 rfl hl (by decide) rfl (fun ls hl => ?_)
  refine lv_iload_n hx hb dX11_reachAt_7 rfl (lv_at hl 0 rfl) ?_
  refine lv_if_le (tgt := 21) hx hb dX11_reachAt_8 (by decide) (fun c2 => ?_) (fun c2 => ?_)
  · have hf := ite_t c2 hf
    refine lv_iconst (v := (0 : Int32)) hx hb dX11_reachAt_21 (by decide) ?_
    obtain rfl := some_r hf
    exact hK _ _ _ _ dX11_reachAt_22 hw
  · have hf := ite_f c2 hf
    refine lv_iload_n hx hb dX11_reachAt_11 rfl (lv_at hl 1 rfl) ?_
    refine lv_sipush (v := (1000 : Int32)) hx hb dX11_reachAt_12 (by decide) ?_
    refine lv_imul hx hb dX11_reachAt_15 ?_
    refine lv_iload_n hx hb dX11_reachAt_16 rfl (lv_at hl 0 rfl) ?_
    obtain ⟨g3, hf⟩ := gdz_r hf
    refine lv_idiv hx hb dX11_reachAt_17 g3 ?_
    refine lv_goto (tgt := 22) hx hb dX11_reachAt_18 (by decide) ?_
    obtain rfl := some_r hf
    exact hK _ _ _ _ dX11_reachAt_22 hw
