/-! RingPlacesModel.thrown()I -/
abbrev wX12_thrown (dA : Nat → ClassId) (ht ht_tape ht_now ht_read ht_kept ht_ground ht_readGround ht_keptGround ht_name ht_isKept ht_louds ht_sharps ht_row ht_along ht_needs ht_best ht_order ht_shortRow ht_was ht_saved ht_next ht_fitted ht_beam ht_heardAhead ht_sharesMost ht_sharesMoved ht_nextMost ht_nextMoved : Nat) (t_thrown : Int32) (t_taped : Int32) (t_size : Int32) (t_to : Int32) (t_from : Int32) (t_kind : Int32) (t_number : Int32) (t_fault : Int32) (t_spot : Int32) (t_word : Int64) (t_told : Int32) (t_isBegun : Int32) (t_had : Int32) (t_rowMany : Int32) (t_least : Int32) (t_shortMany : Int32) (t_mostWorth : Int32) (t_fitMany : Int32) (t_narrowCost : Int32) : va_W := [(ht, .inr (12, [.int t_thrown, .ref ht_tape, .int t_taped, .int t_size, .int t_to, .int t_from, .int t_kind, .int t_number, .int t_fault, .int t_spot, .long t_word, .int t_told, .ref ht_now, .ref ht_read, .ref ht_kept, .ref ht_ground, .ref ht_readGround, .ref ht_keptGround, .ref ht_name, .ref ht_isKept, .int t_isBegun, .int t_had, .ref ht_louds, .ref ht_sharps, .ref ht_row, .ref ht_along, .ref ht_needs, .ref ht_best, .int t_rowMany, .ref ht_order, .ref ht_shortRow, .int t_least, .int t_shortMany, .ref ht_was, .ref ht_saved, .int t_mostWorth, .ref ht_next, .ref ht_fitted, .int t_fitMany, .int t_narrowCost, .ref ht_beam, .ref ht_heardAhead, .ref ht_sharesMost, .ref ht_sharesMoved, .ref ht_nextMost, .ref ht_nextMoved]))]
def fX12_thrown (t_thrown : Int32)  : Option (Int32) := some t_thrown
set_option maxHeartbeats 4000000 in
set_option maxRecDepth 100000 in
theorem qX12_thrown (l : Launch) (D : va_G) (dA : Nat → ClassId) (ht ht_tape ht_now ht_read ht_kept ht_ground ht_readGround ht_keptGround ht_name ht_isKept ht_louds ht_sharps ht_row ht_along ht_needs ht_best ht_order ht_shortRow ht_was ht_saved ht_next ht_fitted ht_beam ht_heardAhead ht_sharesMost ht_sharesMoved ht_nextMost ht_nextMoved : Nat) (t_thrown : Int32) (t_taped : Int32) (t_size : Int32) (t_to : Int32) (t_from : Int32) (t_kind : Int32) (t_number : Int32) (t_fault : Int32) (t_spot : Int32) (t_word : Int64) (t_told : Int32) (t_isBegun : Int32) (t_had : Int32) (t_rowMany : Int32) (t_least : Int32) (t_shortMany : Int32) (t_mostWorth : Int32) (t_fitMany : Int32) (t_narrowCost : Int32)  (o : Int32) (hf : fX12_thrown t_thrown = some o) : Mi l D dA yX12_thrown (Cond.code yX12_thrown cX12_thrown 1 (some .int) :: wA) 0 0 [.ref ht] (wX12_thrown dA ht ht_tape ht_now ht_read ht_kept ht_ground ht_readGround ht_keptGround ht_name ht_isKept ht_louds ht_sharps ht_row ht_along ht_needs ht_best ht_order ht_shortRow ht_was ht_saved ht_next ht_fitted ht_beam ht_heardAhead ht_sharesMost ht_sharesMoved ht_nextMost ht_nextMoved t_thrown t_taped t_size t_to t_from t_kind t_number t_fault t_spot t_word t_told t_isBegun t_had t_rowMany t_least t_shortMany t_mostWorth t_fitMany t_narrowCost) (wX12_thrown dA ht ht_tape ht_now ht_read ht_kept ht_ground ht_readGround ht_keptGround ht_name ht_isKept ht_louds ht_sharps ht_row ht_along ht_needs ht_best ht_order ht_shortRow ht_was ht_saved ht_next ht_fitted ht_beam ht_heardAhead ht_sharesMost ht_sharesMoved ht_nextMost ht_nextMoved t_thrown t_taped t_size t_to t_from t_kind t_number t_fault t_spot t_word t_told t_isBegun t_had t_rowMany t_least t_shortMany t_mostWorth t_fitMany t_narrowCost) o := by
  intro sz
  refine M_of (cc := cX12_thrown) (nL := 1) (ret := (some .int)) (own := RX12) (by decide +kernel) rfl (Nat.le_of_ble_eq_true rfl) ?_
  intro p e s m below meth c ls hsz C hw hl
  subst hsz
  have hR : 0 ≤ (rmm 0 0).frames ∧ 0 ≤ (rmm 0 0).locals ∧ 0 ≤ (rmm 0 0).cells ∧ 0 ≤ (rmm 0 0).slots := ⟨Nat.le_refl _, Nat.le_refl _, Nat.le_refl _, Nat.le_refl _⟩
  have hl : lv_has ls 1 [(0, .ref ht)] := hl
  have hx := C.1
  have hb := C.2.1
  have hml := C.2.2.1
  have hown := C.2.2.2.1
  have hts := C.2.2.2.2.1
  have hK : ∀ (H : Heap) (locs : List Loc) (pc : Nat) (ls : Array Slot), decode cX12_thrown pc = .ok (.ireturn, 1) → St D (wX12_thrown dA ht ht_tape ht_now ht_read ht_kept ht_ground ht_readGround ht_keptGround ht_name ht_isKept ht_louds ht_sharps ht_row ht_along ht_needs ht_best ht_order ht_shortRow ht_was ht_saved ht_next ht_fitted ht_beam ht_heardAhead ht_sharesMost ht_sharesMoved ht_nextMost ht_nextMoved t_thrown t_taped t_size t_to t_from t_kind t_number t_fault t_spot t_word t_told t_isBegun t_had t_rowMany t_least t_shortMany t_mostWorth t_fitMany t_narrowCost) s (wX12_thrown dA ht ht_tape ht_now ht_read ht_kept ht_ground ht_readGround ht_keptGround ht_name ht_isKept ht_louds ht_sharps ht_row ht_along ht_needs ht_best ht_order ht_shortRow ht_was ht_saved ht_next ht_fitted ht_beam ht_heardAhead ht_sharesMost ht_sharesMoved ht_nextMost ht_nextMoved t_thrown t_taped t_size t_to t_from t_kind t_number t_fault t_spot t_word t_told t_isBegun t_had t_rowMany t_least t_shortMany t_mostWorth t_fitMany t_narrowCost) H locs → W p l e (rmm 0 0) s m [.ref ht].toArray below meth c H locs 0 0 (MQ below (Qi D (wX12_thrown dA ht ht_tape ht_now ht_read ht_kept ht_ground ht_readGround ht_keptGround ht_name ht_isKept ht_louds ht_sharps ht_row ht_along ht_needs ht_best ht_order ht_shortRow ht_was ht_saved ht_next ht_fitted ht_beam ht_heardAhead ht_sharesMost ht_sharesMoved ht_nextMost ht_nextMoved t_thrown t_taped t_size t_to t_from t_kind t_number t_fault t_spot t_word t_told t_isBegun t_had t_rowMany t_least t_shortMany t_mostWorth t_fitMany t_narrowCost) (wX12_thrown dA ht ht_tape ht_now ht_read ht_kept ht_ground ht_readGround ht_keptGround ht_name ht_isKept ht_louds ht_sharps ht_row ht_along ht_needs ht_best ht_order ht_shortRow ht_was ht_saved ht_next ht_fitted ht_beam ht_heardAhead ht_sharesMost ht_sharesMoved ht_nextMost ht_nextMoved t_thrown t_taped t_size t_to t_from t_kind t_number t_fault t_spot t_word t_told t_isBegun t_had t_rowMany t_least t_shortMany t_mostWorth t_fitMany t_narrowCost) o s.heap.size) [.ref ht].toArray s 0 0 (va_A (wX12_thrown dA ht ht_tape ht_now ht_read ht_kept ht_ground ht_readGround ht_keptGround ht_name ht_isKept ht_louds ht_sharps ht_row ht_along ht_needs ht_best ht_order ht_shortRow ht_was ht_saved ht_next ht_fitted ht_beam ht_heardAhead ht_sharesMost ht_sharesMoved ht_nextMost ht_nextMoved t_thrown t_taped t_size t_to t_from t_kind t_number t_fault t_spot t_word t_told t_isBegun t_had t_rowMany t_least t_shortMany t_mostWorth t_fitMany t_narrowCost) s.heap.size)) (F0 m pc ls [.int o]) := fun H locs pc ls hd hw => k_iret C hw hd
  unfold fX12_thrown at hf
  refine lv_aload_n hx hb dX12_thrown_0 rfl (lv_at hl 0 rfl) ?_
  refine k_get C hw 0 rfl rfl wiX12 0 (by decide) wfX12_97 rfl dX12_thrown_1 ?_
  obtain rfl := some_r hf
  exact hK _ _ _ _ dX12_thrown_4 hw

/-! RingPlacesModel.refuse()I -/
abbrev wX12_refuse (dA : Nat → ClassId) (ht ht_tape ht_now ht_read ht_kept ht_ground ht_readGround ht_keptGround ht_name ht_isKept ht_louds ht_sharps ht_row ht_along ht_needs ht_best ht_order ht_shortRow ht_was ht_saved ht_next ht_fitted ht_beam ht_heardAhead ht_sharesMost ht_sharesMoved ht_nextMost ht_nextMoved : Nat) (t_thrown : Int32) (t_taped : Int32) (t_size : Int32) (t_to : Int32) (t_from : Int32) (t_kind : Int32) (t_number : Int32) (t_fault : Int32) (t_spot : Int32) (t_word : Int64) (t_told : Int32) (t_isBegun : Int32) (t_had : Int32) (t_rowMany : Int32) (t_least : Int32) (t_shortMany : Int32) (t_mostWorth : Int32) (t_fitMany : Int32) (t_narrowCost : Int32) : va_W := [(ht, .inr (12, [.int t_thrown, .ref ht_tape, .int t_taped, .int t_size, .int t_to, .int t_from, .int t_kind, .int t_number, .int t_fault, .int t_spot, .long t_word, .int t_told, .ref ht_now, .ref ht_read, .ref ht_kept, .ref ht_ground, .ref ht_readGround, .ref ht_keptGround, .ref ht_name, .ref ht_isKept, .int t_isBegun, .int t_had, .ref ht_louds, .ref ht_sharps, .ref ht_row, .ref ht_along, .ref ht_needs, .ref ht_best, .int t_rowMany, .ref ht_order, .ref ht_shortRow, .int t_least, .int t_shortMany, .ref ht_was, .ref ht_saved, .int t_mostWorth, .ref ht_next, .ref ht_fitted, .int t_fitMany, .int t_narrowCost, .ref ht_beam, .ref ht_heardAhead, .ref ht_sharesMost, .ref ht_sharesMoved, .ref ht_nextMost, .ref ht_nextMoved]))]
def fX12_refuse (t_thrown : Int32)  : Option (Int32 × Int32) := some ((1 : Int32), (0 : Int32))
set_option maxHeartbeats 4000000 in
set_option maxRecDepth 100000 in
theorem qX12_refuse (l : Launch) (D : va_G) (dA : Nat → ClassId) (ht ht_tape ht_now ht_read ht_kept ht_ground ht_readGround ht_keptGround ht_name ht_isKept ht_louds ht_sharps ht_row ht_along ht_needs ht_best ht_order ht_shortRow ht_was ht_saved ht_next ht_fitted ht_beam ht_heardAhead ht_sharesMost ht_sharesMoved ht_nextMost ht_nextMoved : Nat) (t_thrown : Int32) (t_taped : Int32) (t_size : Int32) (t_to : Int32) (t_from : Int32) (t_kind : Int32) (t_number : Int32) (t_fault : Int32) (t_spot : Int32) (t_word : Int64) (t_told : Int32) (t_isBegun : Int32) (t_had : Int32) (t_rowMany : Int32) (t_least : Int32) (t_shortMany : Int32) (t_mostWorth : Int32) (t_fitMany : Int32) (t_narrowCost : Int32)  (o : Int32 × Int32) (hf : fX12_refuse t_thrown = some o) : Mi l D dA yX12_refuse (Cond.code yX12_refuse cX12_refuse 1 (some .int) :: wA) 0 0 [.ref ht] (wX12_refuse dA ht ht_tape ht_now ht_read ht_kept ht_ground ht_readGround ht_keptGround ht_name ht_isKept ht_louds ht_sharps ht_row ht_along ht_needs ht_best ht_order ht_shortRow ht_was ht_saved ht_next ht_fitted ht_beam ht_heardAhead ht_sharesMost ht_sharesMoved ht_nextMost ht_nextMoved t_thrown t_taped t_size t_to t_from t_kind t_number t_fault t_spot t_word t_told t_isBegun t_had t_rowMany t_least t_shortMany t_mostWorth t_fitMany t_narrowCost) (wX12_refuse dA ht ht_tape ht_now ht_read ht_kept ht_ground ht_readGround ht_keptGround ht_name ht_isKept ht_louds ht_sharps ht_row ht_along ht_needs ht_best ht_order ht_shortRow ht_was ht_saved ht_next ht_fitted ht_beam ht_heardAhead ht_sharesMost ht_sharesMoved ht_nextMost ht_nextMoved o.1 t_taped t_size t_to t_from t_kind t_number t_fault t_spot t_word t_told t_isBegun t_had t_rowMany t_least t_shortMany t_mostWorth t_fitMany t_narrowCost) o.2 := by
  intro sz
  refine M_of (cc := cX12_refuse) (nL := 1) (ret := (some .int)) (own := RX12) (by decide +kernel) rfl (Nat.le_of_ble_eq_true rfl) ?_
  intro p e s m below meth c ls hsz C hw hl
  subst hsz
  have hR : 0 ≤ (rmm 0 0).frames ∧ 0 ≤ (rmm 0 0).locals ∧ 0 ≤ (rmm 0 0).cells ∧ 0 ≤ (rmm 0 0).slots := ⟨Nat.le_refl _, Nat.le_refl _, Nat.le_refl _, Nat.le_refl _⟩
  have hl : lv_has ls 1 [(0, .ref ht)] := hl
  have hx := C.1
  have hb := C.2.1
  have hml := C.2.2.1
  have hown := C.2.2.2.1
  have hts := C.2.2.2.2.1
  have hK : ∀ (H : Heap) (locs : List Loc) (pc : Nat) (ls : Array Slot), decode cX12_refuse pc = .ok (.ireturn, 1) → St D (wX12_refuse dA ht ht_tape ht_now ht_read ht_kept ht_ground ht_readGround ht_keptGround ht_name ht_isKept ht_louds ht_sharps ht_row ht_along ht_needs ht_best ht_order ht_shortRow ht_was ht_saved ht_next ht_fitted ht_beam ht_heardAhead ht_sharesMost ht_sharesMoved ht_nextMost ht_nextMoved t_thrown t_taped t_size t_to t_from t_kind t_number t_fault t_spot t_word t_told t_isBegun t_had t_rowMany t_least t_shortMany t_mostWorth t_fitMany t_narrowCost) s (wX12_refuse dA ht ht_tape ht_now ht_read ht_kept ht_ground ht_readGround ht_keptGround ht_name ht_isKept ht_louds ht_sharps ht_row ht_along ht_needs ht_best ht_order ht_shortRow ht_was ht_saved ht_next ht_fitted ht_beam ht_heardAhead ht_sharesMost ht_sharesMoved ht_nextMost ht_nextMoved o.1 t_taped t_size t_to t_from t_kind t_number t_fault t_spot t_word t_told t_isBegun t_had t_rowMany t_least t_shortMany t_mostWorth t_fitMany t_narrowCost) H locs → W p l e (rmm 0 0) s m [.ref ht].toArray below meth c H locs 0 0 (MQ below (Qi D (wX12_refuse dA ht ht_tape ht_now ht_read ht_kept ht_ground ht_readGround ht_keptGround ht_name ht_isKept ht_louds ht_sharps ht_row ht_along ht_needs ht_best ht_order ht_shortRow ht_was ht_saved ht_next ht_fitted ht_beam ht_heardAhead ht_sharesMost ht_sharesMoved ht_nextMost ht_nextMoved t_thrown t_taped t_size t_to t_from t_kind t_number t_fault t_spot t_word t_told t_isBegun t_had t_rowMany t_least t_shortMany t_mostWorth t_fitMany t_narrowCost) (wX12_refuse dA ht ht_tape ht_now ht_read ht_kept ht_ground ht_readGround ht_keptGround ht_name ht_isKept ht_louds ht_sharps ht_row ht_along ht_needs ht_best ht_order ht_shortRow ht_was ht_saved ht_next ht_fitted ht_beam ht_heardAhead ht_sharesMost ht_sharesMoved ht_nextMost ht_nextMoved o.1 t_taped t_size t_to t_from t_kind t_number t_fault t_spot t_word t_told t_isBegun t_had t_rowMany t_least t_shortMany t_mostWorth t_fitMany t_narrowCost) o.2 s.heap.size) [.ref ht].toArray s 0 0 (va_A (wX12_refuse dA ht ht_tape ht_now ht_read ht_kept ht_ground ht_readGround ht_keptGround ht_name ht_isKept ht_louds ht_sharps ht_row ht_along ht_needs ht_best ht_order ht_shortRow ht_was ht_saved ht_next ht_fitted ht_beam ht_heardAhead ht_sharesMost ht_sharesMoved ht_nextMost ht_nextMoved t_thrown t_taped t_size t_to t_from t_kind t_number t_fault t_spot t_word t_told t_isBegun t_had t_rowMany t_least t_shortMany t_mostWorth t_fitMany t_narrowCost) s.heap.size)) (F0 m pc ls [.int o.2]) := fun H locs pc ls hd hw => k_iret C hw hd
  unfold fX12_refuse at hf
  refine lv_aload_n hx hb dX12_refuse_0 rfl (lv_at hl 0 rfl) ?_
  refine lv_iconst (v := (1 : Int32)) hx hb dX12_refuse_1 (by decide) ?_
  refine k_put C hw 0 rfl rfl wiX12 tyX12 tyX12_ok nmX12 0 (by decide) wfX12_97 rfl rfl rfl (Nat.le_of_ble_eq_true rfl) dX12_refuse_2 (wX12_refuse dA ht ht_tape ht_now ht_read ht_kept ht_ground ht_readGround ht_keptGround ht_name ht_isKept ht_louds ht_sharps ht_row ht_along ht_needs ht_best ht_order ht_shortRow ht_was ht_saved ht_next ht_fitted ht_beam ht_heardAhead ht_sharesMost ht_sharesMoved ht_nextMost ht_nextMoved (1 : Int32) t_taped t_size t_to t_from t_kind t_number t_fault t_spot t_word t_told t_isBegun t_had t_rowMany t_least t_shortMany t_mostWorth t_fitMany t_narrowCost) rfl (fun H locs hw => ?_)
  refine lv_iconst (v := (0 : Int32)) hx hb dX12_refuse_5 (by decide) ?_
  obtain rfl := some_r hf
  exact hK _ _ _ _ dX12_refuse_6 hw

/-! RingPlacesModel.come(I)V -/
abbrev wX12_come (dA : Nat → ClassId) (ht ht_tape ht_now ht_read ht_kept ht_ground ht_readGround ht_keptGround ht_name ht_isKept ht_louds ht_sharps ht_row ht_along ht_needs ht_best ht_order ht_shortRow ht_was ht_saved ht_next ht_fitted ht_beam ht_heardAhead ht_sharesMost ht_sharesMoved ht_nextMost ht_nextMoved : Nat) (t_thrown : Int32) (t_taped : Int32) (t_size : Int32) (t_to : Int32) (t_from : Int32) (t_kind : Int32) (t_number : Int32) (t_fault : Int32) (t_spot : Int32) (t_word : Int64) (t_told : Int32) (t_isBegun : Int32) (t_had : Int32) (t_rowMany : Int32) (t_least : Int32) (t_shortMany : Int32) (t_mostWorth : Int32) (t_fitMany : Int32) (t_narrowCost : Int32) (t_tape : (Nat → Int32)) : va_W := [(ht, .inr (12, [.int t_thrown, .ref ht_tape, .int t_taped, .int t_size, .int t_to, .int t_from, .int t_kind, .int t_number, .int t_fault, .int t_spot, .long t_word, .int t_told, .ref ht_now, .ref ht_read, .ref ht_kept, .ref ht_ground, .ref ht_readGround, .ref ht_keptGround, .ref ht_name, .ref ht_isKept, .int t_isBegun, .int t_had, .ref ht_louds, .ref ht_sharps, .ref ht_row, .ref ht_along, .ref ht_needs, .ref ht_best, .int t_rowMany, .ref ht_order, .ref ht_shortRow, .int t_least, .int t_shortMany, .ref ht_was, .ref ht_saved, .int t_mostWorth, .ref ht_next, .ref ht_fitted, .int t_fitMany, .int t_narrowCost, .ref ht_beam, .ref ht_heardAhead, .ref ht_sharesMost, .ref ht_sharesMoved, .ref ht_nextMost, .ref ht_nextMoved])), (ht_tape, .inl (dA 0, 1240, .inl t_tape))]
def fX12_come_l3b (N : Nat) (v1 : Int32) (t_taped : Int32) (t_tape : (Nat → Int32)) (v2 : Int32) : Option ((Int32 × (Nat → Int32) × Int32) ⊕ (Int32 × (Nat → Int32))) := (if v2 < 0 then some (.inr (t_taped, t_tape)) else gdi t_taped 1240 (bnd (upd t_tape t_taped.toNatClampNeg (((v1.toUInt32 >>> (v2.toUInt32 &&& Int32.toUInt32 31)).toInt32) &&& (255 : Int32))) fun y3 => bnd (t_taped + (1 : Int32)) fun x4 => bnd (v2 + (-8 : Int32)) fun x5 => some (.inl (x4, y3, x5))))
def fX12_come (N : Nat) (t_taped : Int32) (t_tape : (Nat → Int32)) (x1_ : Int32) : Option (Int32 × (Nat → Int32)) := (itr (fun z => fX12_come_l3b N x1_ z.1 z.2.1 z.2.2) N (t_taped, t_tape, (24 : Int32))).bind fun q6 => some (q6.1, q6.2)
set_option maxHeartbeats 4000000 in
set_option maxRecDepth 100000 in
theorem tX12_come_l3b {p : Program} {l : Launch} {e : Env} {R : Room} {s : State} {m : MethodId} {args : Array Value} {below : List Frame} {meth : Method} {c : Code} {D : va_G} {dA : Nat → ClassId} {w0 : va_W} {Q : State → Prop} {H : Heap} {locs : List Loc} {ls : Array Slot} {cells slots : Nat} (C : CX p s m args meth c cX12_come 3 none RX12 D dA) (ht ht_tape ht_now ht_read ht_kept ht_ground ht_readGround ht_keptGround ht_name ht_isKept ht_louds ht_sharps ht_row ht_along ht_needs ht_best ht_order ht_shortRow ht_was ht_saved ht_next ht_fitted ht_beam ht_heardAhead ht_sharesMost ht_sharesMoved ht_nextMost ht_nextMoved : Nat) (hR : 0 ≤ R.frames ∧ 0 ≤ R.locals ∧ cells ≤ R.cells ∧ slots ≤ R.slots)  (t_thrown : Int32) (t_taped : Int32) (t_size : Int32) (t_to : Int32) (t_from : Int32) (t_kind : Int32) (t_number : Int32) (t_fault : Int32) (t_spot : Int32) (t_word : Int64) (t_told : Int32) (t_isBegun : Int32) (t_had : Int32) (t_rowMany : Int32) (t_least : Int32) (t_shortMany : Int32) (t_mostWorth : Int32) (t_fitMany : Int32) (t_narrowCost : Int32) (t_tape : (Nat → Int32)) (v1 : Int32) (v2 : Int32) (N : Nat) (res : ((Int32 × (Nat → Int32) × Int32) ⊕ (Int32 × (Nat → Int32)))) (hf : fX12_come_l3b N v1 t_taped t_tape v2 = some res) (hK : Sum.elim (fun z => (∀ (H : Heap) (locs : List Loc) (ls : Array Slot), lv_has ls 3 [(0, .ref ht), (1, .int v1), (2, .int z.2.2)] → St D w0 s (wX12_come dA ht ht_tape ht_now ht_read ht_kept ht_ground ht_readGround ht_keptGround ht_name ht_isKept ht_louds ht_sharps ht_row ht_along ht_needs ht_best ht_order ht_shortRow ht_was ht_saved ht_next ht_fitted ht_beam ht_heardAhead ht_sharesMost ht_sharesMoved ht_nextMost ht_nextMoved t_thrown z.1 t_size t_to t_from t_kind t_number t_fault t_spot t_word t_told t_isBegun t_had t_rowMany t_least t_shortMany t_mostWorth t_fitMany t_narrowCost z.2.1) H locs → W p l e R s m args below meth c H locs cells slots Q (F0 m 3 ls []))) (fun r => (∀ (H : Heap) (locs : List Loc) (ls : Array Slot), lv_has ls 3 [] → St D w0 s (wX12_come dA ht ht_tape ht_now ht_read ht_kept ht_ground ht_readGround ht_keptGround ht_name ht_isKept ht_louds ht_sharps ht_row ht_along ht_needs ht_best ht_order ht_shortRow ht_was ht_saved ht_next ht_fitted ht_beam ht_heardAhead ht_sharesMost ht_sharesMoved ht_nextMost ht_nextMoved t_thrown r.1 t_size t_to t_from t_kind t_number t_fault t_spot t_word t_told t_isBegun t_had t_rowMany t_least t_shortMany t_mostWorth t_fitMany t_narrowCost r.2) H locs → W p l e R s m args below meth c H locs cells slots Q (F0 m 39 ls []))) res) (hl : lv_has ls 3 [(0, .ref ht), (1, .int v1), (2, .int v2)]) (hw : St D w0 s (wX12_come dA ht ht_tape ht_now ht_read ht_kept ht_ground ht_readGround ht_keptGround ht_name ht_isKept ht_louds ht_sharps ht_row ht_along ht_needs ht_best ht_order ht_shortRow ht_was ht_saved ht_next ht_fitted ht_beam ht_heardAhead ht_sharesMost ht_sharesMoved ht_nextMost ht_nextMoved t_thrown t_taped t_size t_to t_from t_kind t_number t_fault t_spot t_word t_told t_isBegun t_had t_rowMany t_least t_shortMany t_mostWorth t_fitMany t_narrowCost t_tape) H locs) : W p l e R s m args below meth c H locs cells slots Q (F0 m 3 ls []) := by
  have hx := C.1
  have hb := C.2.1
  have hml := C.2.2.1
  have hown := C.2.2.2.1
  have hts := C.2.2.2.2.1
  unfold fX12_come_l3b at hf
  refine lv_iload_n hx hb dX12_come_3 rfl (lv_at hl 2 rfl) ?_
  refine lv_if_lt (tgt := 39) hx hb dX12_come_4 (by decide) (fun c1 => ?_) (fun c1 => ?_)
  · have hf := ite_t c1 hf
    obtain rfl := some_r hf
    exact hK _ _ _ (lv_sub hl [] rfl) hw
  · have hf := ite_f c1 hf
    refine lv_aload_n hx hb dX12_come_7 rfl (lv_at hl 0 rfl) ?_
    refine k_get C hw 0 rfl rfl wiX12 1 (by decide) wfX12_7 rfl dX12_come_8 ?_
    refine lv_aload_n hx hb dX12_come_11 rfl (lv_at hl 0 rfl) ?_
    refine k_get C hw 0 rfl rfl wiX12 2 (by decide) wfX12_100 rfl dX12_come_12 ?_
    refine lv_iload_n hx hb dX12_come_15 rfl (lv_at hl 1 rfl) ?_
    refine lv_iload_n hx hb dX12_come_16 rfl (lv_at hl 2 rfl) ?_
    refine lv_iushr hx hb dX12_come_17 rfl ?_
    refine lv_sipush (v := (255 : Int32)) hx hb dX12_come_18 (by decide) ?_
    refine lv_iand hx hb dX12_come_21 ?_
    obtain ⟨g2, hf⟩ := gdi_r hf
    obtain ⟨y3, ey3⟩ : ∃ z : Nat → Int32, z = upd t_tape t_taped.toNatClampNeg (((v1.toUInt32 >>> (v2.toUInt32 &&& Int32.toUInt32 31)).toInt32) &&& (255 : Int32)) := ⟨_, rfl⟩
    have hf := bnd_r ey3 hf
    refine k_iast C hw 1 rfl g2 dX12_come_22 y3 ey3 (wX12_come dA ht ht_tape ht_now ht_read ht_kept ht_ground ht_readGround ht_keptGround ht_name ht_isKept ht_louds ht_sharps ht_row ht_along ht_needs ht_best ht_order ht_shortRow ht_was ht_saved ht_next ht_fitted ht_beam ht_heardAhead ht_sharesMost ht_sharesMoved ht_nextMost ht_nextMoved t_thrown t_taped t_size t_to t_from t_kind t_number t_fault t_spot t_word t_told t_isBegun t_had t_rowMany t_least t_shortMany t_mostWorth t_fitMany t_narrowCost y3) rfl (fun H locs hw => ?_)
    refine lv_aload_n hx hb dX12_come_23 rfl (lv_at hl 0 rfl) ?_
    refine lv_dup hx hb dX12_come_24 rfl ?_
    refine k_get C hw 0 rfl rfl wiX12 2 (by decide) wfX12_100 rfl dX12_come_25 ?_
    refine lv_iconst (v := (1 : Int32)) hx hb dX12_come_28 (by decide) ?_
    refine lv_iadd hx hb dX12_come_29 ?_
    refine lv_topi (fun x4 ex4 => ?_)
    have hf := bnd_r ex4 hf
    refine k_put C hw 0 rfl rfl wiX12 tyX12 tyX12_ok nmX12 2 (by decide) wfX12_100 rfl rfl rfl (Nat.le_of_ble_eq_true rfl) dX12_come_30 (wX12_come dA ht ht_tape ht_now ht_read ht_kept ht_ground ht_readGround ht_keptGround ht_name ht_isKept ht_louds ht_sharps ht_row ht_along ht_needs ht_best ht_order ht_shortRow ht_was ht_saved ht_next ht_fitted ht_beam ht_heardAhead ht_sharesMost ht_sharesMoved ht_nextMost ht_nextMoved t_thrown x4 t_size t_to t_from t_kind t_number t_fault t_spot t_word t_told t_isBegun t_had t_rowMany t_least t_shortMany t_mostWorth t_fitMany t_narrowCost y3) rfl (fun H locs hw => ?_)
    obtain ⟨x5, ex5⟩ : ∃ y : Int32, y = v2 + (-8 : Int32) := ⟨_, rfl⟩
    have hf := bnd_r ex5 hf
    refine lv_iinc (v := x5) (lv' := [(2, .int x5), (0, .ref ht), (1, .int v1)]) hx hb dX12_come_33 hl (k := 2) rfl (by rw [ex5]; rfl) (by decide) rfl (fun ls hl => ?_)
    refine lv_goto (tgt := 3) hx hb dX12_come_36 (by decide) ?_
    obtain rfl := some_r hf
    exact hK _ _ _ (lv_sub hl [1, 2, 0] rfl) hw
set_option maxHeartbeats 4000000 in
theorem tX12_come_l3 {p : Program} {l : Launch} {e : Env} {R : Room} {s : State} {m : MethodId} {args : Array Value} {below : List Frame} {meth : Method} {c : Code} {D : va_G} {dA : Nat → ClassId} {w0 : va_W} {Q : State → Prop} {H : Heap} {locs : List Loc} {ls : Array Slot} {cells slots : Nat} (C : CX p s m args meth c cX12_come 3 none RX12 D dA) (ht ht_tape ht_now ht_read ht_kept ht_ground ht_readGround ht_keptGround ht_name ht_isKept ht_louds ht_sharps ht_row ht_along ht_needs ht_best ht_order ht_shortRow ht_was ht_saved ht_next ht_fitted ht_beam ht_heardAhead ht_sharesMost ht_sharesMoved ht_nextMost ht_nextMoved : Nat) (hR : 0 ≤ R.frames ∧ 0 ≤ R.locals ∧ cells ≤ R.cells ∧ slots ≤ R.slots)  (t_thrown : Int32) (t_taped : Int32) (t_size : Int32) (t_to : Int32) (t_from : Int32) (t_kind : Int32) (t_number : Int32) (t_fault : Int32) (t_spot : Int32) (t_word : Int64) (t_told : Int32) (t_isBegun : Int32) (t_had : Int32) (t_rowMany : Int32) (t_least : Int32) (t_shortMany : Int32) (t_mostWorth : Int32) (t_fitMany : Int32) (t_narrowCost : Int32) (t_tape : (Nat → Int32)) (v1 : Int32) (v2 : Int32) (N n : Nat) (res : (Int32 × (Nat → Int32))) (hf : itr (fun z => fX12_come_l3b N v1 z.1 z.2.1 z.2.2) n (t_taped, t_tape, v2) = some res) (hK : (∀ (H : Heap) (locs : List Loc) (ls : Array Slot), lv_has ls 3 [] → St D w0 s (wX12_come dA ht ht_tape ht_now ht_read ht_kept ht_ground ht_readGround ht_keptGround ht_name ht_isKept ht_louds ht_sharps ht_row ht_along ht_needs ht_best ht_order ht_shortRow ht_was ht_saved ht_next ht_fitted ht_beam ht_heardAhead ht_sharesMost ht_sharesMoved ht_nextMost ht_nextMoved t_thrown res.1 t_size t_to t_from t_kind t_number t_fault t_spot t_word t_told t_isBegun t_had t_rowMany t_least t_shortMany t_mostWorth t_fitMany t_narrowCost res.2) H locs → W p l e R s m args below meth c H locs cells slots Q (F0 m 39 ls []))) (hl : lv_has ls 3 [(0, .ref ht), (1, .int v1), (2, .int v2)]) (hw : St D w0 s (wX12_come dA ht ht_tape ht_now ht_read ht_kept ht_ground ht_readGround ht_keptGround ht_name ht_isKept ht_louds ht_sharps ht_row ht_along ht_needs ht_best ht_order ht_shortRow ht_was ht_saved ht_next ht_fitted ht_beam ht_heardAhead ht_sharesMost ht_sharesMoved ht_nextMost ht_nextMoved t_thrown t_taped t_size t_to t_from t_kind t_number t_fault t_spot t_word t_told t_isBegun t_had t_rowMany t_least t_shortMany t_mostWorth t_fitMany t_narrowCost t_tape) H locs) : W p l e R s m args below meth c H locs cells slots Q (F0 m 3 ls []) :=
  itr_W (P := fun (z : (Int32 × (Nat → Int32) × Int32)) => (∀ (H : Heap) (locs : List Loc) (ls : Array Slot), lv_has ls 3 [(0, .ref ht), (1, .int v1), (2, .int z.2.2)] → St D w0 s (wX12_come dA ht ht_tape ht_now ht_read ht_kept ht_ground ht_readGround ht_keptGround ht_name ht_isKept ht_louds ht_sharps ht_row ht_along ht_needs ht_best ht_order ht_shortRow ht_was ht_saved ht_next ht_fitted ht_beam ht_heardAhead ht_sharesMost ht_sharesMoved ht_nextMost ht_nextMoved t_thrown z.1 t_size t_to t_from t_kind t_number t_fault t_spot t_word t_told t_isBegun t_had t_rowMany t_least t_shortMany t_mostWorth t_fitMany t_narrowCost z.2.1) H locs → W p l e R s m args below meth c H locs cells slots Q (F0 m 3 ls []))) (K := fun res => (∀ (H : Heap) (locs : List Loc) (ls : Array Slot), lv_has ls 3 [] → St D w0 s (wX12_come dA ht ht_tape ht_now ht_read ht_kept ht_ground ht_readGround ht_keptGround ht_name ht_isKept ht_louds ht_sharps ht_row ht_along ht_needs ht_best ht_order ht_shortRow ht_was ht_saved ht_next ht_fitted ht_beam ht_heardAhead ht_sharesMost ht_sharesMoved ht_nextMost ht_nextMoved t_thrown res.1 t_size t_to t_from t_kind t_number t_fault t_spot t_word t_told t_isBegun t_had t_rowMany t_least t_shortMany t_mostWorth t_fitMany t_narrowCost res.2) H locs → W p l e R s m args below meth c H locs cells slots Q (F0 m 39 ls []))) (fun z r hf hK H locs ls hl hw => tX12_come_l3b C ht ht_tape ht_now ht_read ht_kept ht_ground ht_readGround ht_keptGround ht_name ht_isKept ht_louds ht_sharps ht_row ht_along ht_needs ht_best ht_order ht_shortRow ht_was ht_saved ht_next ht_fitted ht_beam ht_heardAhead ht_sharesMost ht_sharesMoved ht_nextMost ht_nextMoved hR t_thrown z.1 t_size t_to t_from t_kind t_number t_fault t_spot t_word t_told t_isBegun t_had t_rowMany t_least t_shortMany t_mostWorth t_fitMany t_narrowCost z.2.1 v1 z.2.2 N r hf (by cases r with
    | inl r => exact hK
    | inr r => exact hK) hl hw) n _ res hf hK H locs ls hl hw
set_option maxHeartbeats 4000000 in
set_option maxRecDepth 100000 in
theorem qX12_come (l : Launch) (D : va_G) (dA : Nat → ClassId) (ht ht_tape ht_now ht_read ht_kept ht_ground ht_readGround ht_keptGround ht_name ht_isKept ht_louds ht_sharps ht_row ht_along ht_needs ht_best ht_order ht_shortRow ht_was ht_saved ht_next ht_fitted ht_beam ht_heardAhead ht_sharesMost ht_sharesMoved ht_nextMost ht_nextMoved : Nat) (t_thrown : Int32) (t_taped : Int32) (t_size : Int32) (t_to : Int32) (t_from : Int32) (t_kind : Int32) (t_number : Int32) (t_fault : Int32) (t_spot : Int32) (t_word : Int64) (t_told : Int32) (t_isBegun : Int32) (t_had : Int32) (t_rowMany : Int32) (t_least : Int32) (t_shortMany : Int32) (t_mostWorth : Int32) (t_fitMany : Int32) (t_narrowCost : Int32) (t_tape : (Nat → Int32)) (x1_ : Int32) (N : Nat) (o : Int32 × (Nat → Int32)) (hf : fX12_come N t_taped t_tape x1_ = some o) : Mv l D dA yX12_come (Cond.code yX12_come cX12_come 3 none :: wA) 0 0 [.ref ht, .int x1_] (wX12_come dA ht ht_tape ht_now ht_read ht_kept ht_ground ht_readGround ht_keptGround ht_name ht_isKept ht_louds ht_sharps ht_row ht_along ht_needs ht_best ht_order ht_shortRow ht_was ht_saved ht_next ht_fitted ht_beam ht_heardAhead ht_sharesMost ht_sharesMoved ht_nextMost ht_nextMoved t_thrown t_taped t_size t_to t_from t_kind t_number t_fault t_spot t_word t_told t_isBegun t_had t_rowMany t_least t_shortMany t_mostWorth t_fitMany t_narrowCost t_tape) (wX12_come dA ht ht_tape ht_now ht_read ht_kept ht_ground ht_readGround ht_keptGround ht_name ht_isKept ht_louds ht_sharps ht_row ht_along ht_needs ht_best ht_order ht_shortRow ht_was ht_saved ht_next ht_fitted ht_beam ht_heardAhead ht_sharesMost ht_sharesMoved ht_nextMost ht_nextMoved t_thrown o.1 t_size t_to t_from t_kind t_number t_fault t_spot t_word t_told t_isBegun t_had t_rowMany t_least t_shortMany t_mostWorth t_fitMany t_narrowCost o.2) := by
  intro sz
  refine M_of (cc := cX12_come) (nL := 3) (ret := none) (own := RX12) (by decide +kernel) rfl (Nat.le_of_ble_eq_true rfl) ?_
  intro p e s m below meth c ls hsz C hw hl
  subst hsz
  have hR : 0 ≤ (rmm 0 0).frames ∧ 0 ≤ (rmm 0 0).locals ∧ 0 ≤ (rmm 0 0).cells ∧ 0 ≤ (rmm 0 0).slots := ⟨Nat.le_refl _, Nat.le_refl _, Nat.le_refl _, Nat.le_refl _⟩
  have hl : lv_has ls 3 [(0, .ref ht), (1, .int x1_)] := hl
  have hx := C.1
  have hb := C.2.1
  have hml := C.2.2.1
  have hown := C.2.2.2.1
  have hts := C.2.2.2.2.1
  have hK : ∀ (H : Heap) (locs : List Loc) (pc : Nat) (ls : Array Slot), decode cX12_come pc = .ok (.return_, 1) → St D (wX12_come dA ht ht_tape ht_now ht_read ht_kept ht_ground ht_readGround ht_keptGround ht_name ht_isKept ht_louds ht_sharps ht_row ht_along ht_needs ht_best ht_order ht_shortRow ht_was ht_saved ht_next ht_fitted ht_beam ht_heardAhead ht_sharesMost ht_sharesMoved ht_nextMost ht_nextMoved t_thrown t_taped t_size t_to t_from t_kind t_number t_fault t_spot t_word t_told t_isBegun t_had t_rowMany t_least t_shortMany t_mostWorth t_fitMany t_narrowCost t_tape) s (wX12_come dA ht ht_tape ht_now ht_read ht_kept ht_ground ht_readGround ht_keptGround ht_name ht_isKept ht_louds ht_sharps ht_row ht_along ht_needs ht_best ht_order ht_shortRow ht_was ht_saved ht_next ht_fitted ht_beam ht_heardAhead ht_sharesMost ht_sharesMoved ht_nextMost ht_nextMoved t_thrown o.1 t_size t_to t_from t_kind t_number t_fault t_spot t_word t_told t_isBegun t_had t_rowMany t_least t_shortMany t_mostWorth t_fitMany t_narrowCost o.2) H locs → W p l e (rmm 0 0) s m [.ref ht, .int x1_].toArray below meth c H locs 0 0 (MQ below (Qv D (wX12_come dA ht ht_tape ht_now ht_read ht_kept ht_ground ht_readGround ht_keptGround ht_name ht_isKept ht_louds ht_sharps ht_row ht_along ht_needs ht_best ht_order ht_shortRow ht_was ht_saved ht_next ht_fitted ht_beam ht_heardAhead ht_sharesMost ht_sharesMoved ht_nextMost ht_nextMoved t_thrown t_taped t_size t_to t_from t_kind t_number t_fault t_spot t_word t_told t_isBegun t_had t_rowMany t_least t_shortMany t_mostWorth t_fitMany t_narrowCost t_tape) (wX12_come dA ht ht_tape ht_now ht_read ht_kept ht_ground ht_readGround ht_keptGround ht_name ht_isKept ht_louds ht_sharps ht_row ht_along ht_needs ht_best ht_order ht_shortRow ht_was ht_saved ht_next ht_fitted ht_beam ht_heardAhead ht_sharesMost ht_sharesMoved ht_nextMost ht_nextMoved t_thrown o.1 t_size t_to t_from t_kind t_number t_fault t_spot t_word t_told t_isBegun t_had t_rowMany t_least t_shortMany t_mostWorth t_fitMany t_narrowCost o.2) s.heap.size) [.ref ht, .int x1_].toArray s 0 0 (va_A (wX12_come dA ht ht_tape ht_now ht_read ht_kept ht_ground ht_readGround ht_keptGround ht_name ht_isKept ht_louds ht_sharps ht_row ht_along ht_needs ht_best ht_order ht_shortRow ht_was ht_saved ht_next ht_fitted ht_beam ht_heardAhead ht_sharesMost ht_sharesMoved ht_nextMost ht_nextMoved t_thrown t_taped t_size t_to t_from t_kind t_number t_fault t_spot t_word t_told t_isBegun t_had t_rowMany t_least t_shortMany t_mostWorth t_fitMany t_narrowCost t_tape) s.heap.size)) (F0 m pc ls []) := fun H locs pc ls hd hw => k_vret C hw hd
  unfold fX12_come at hf
  refine lv_bipush (v := (24 : Int32)) hx hb dX12_come_0 (by decide) ?_
  refine lv_istore_n (lv' := [(2, .int (24 : Int32)), (0, .ref ht), (1, .int x1_)]) hx hb dX12_come_2 rfl hl (by decide) rfl (fun ls hl => ?_)
  obtain ⟨q6, hq6, hf⟩ := bind_r hf
  refine tX12_come_l3 C ht ht_tape ht_now ht_read ht_kept ht_ground ht_readGround ht_keptGround ht_name ht_isKept ht_louds ht_sharps ht_row ht_along ht_needs ht_best ht_order ht_shortRow ht_was ht_saved ht_next ht_fitted ht_beam ht_heardAhead ht_sharesMost ht_sharesMoved ht_nextMost ht_nextMoved hR t_thrown t_taped t_size t_to t_from t_kind t_number t_fault t_spot t_word t_told t_isBegun t_had t_rowMany t_least t_shortMany t_mostWorth t_fitMany t_narrowCost t_tape x1_ (24 : Int32) N _ _ hq6 ?_ (lv_sub hl [1, 2, 0] rfl) hw
  intro H locs ls hl hw
  obtain rfl := some_r hf
  exact hK _ _ _ _ dX12_come_39 hw

/-! RingPlacesModel.feed(IIIII)I -/
abbrev wX12_feed (dA : Nat → ClassId) (ht ht_tape ht_now ht_read ht_kept ht_ground ht_readGround ht_keptGround ht_name ht_isKept ht_louds ht_sharps ht_row ht_along ht_needs ht_best ht_order ht_shortRow ht_was ht_saved ht_next ht_fitted ht_beam ht_heardAhead ht_sharesMost ht_sharesMoved ht_nextMost ht_nextMoved : Nat) (t_thrown : Int32) (t_taped : Int32) (t_size : Int32) (t_to : Int32) (t_from : Int32) (t_kind : Int32) (t_number : Int32) (t_fault : Int32) (t_spot : Int32) (t_word : Int64) (t_told : Int32) (t_isBegun : Int32) (t_had : Int32) (t_rowMany : Int32) (t_least : Int32) (t_shortMany : Int32) (t_mostWorth : Int32) (t_fitMany : Int32) (t_narrowCost : Int32) (t_tape : (Nat → Int32)) : va_W := [(ht, .inr (12, [.int t_thrown, .ref ht_tape, .int t_taped, .int t_size, .int t_to, .int t_from, .int t_kind, .int t_number, .int t_fault, .int t_spot, .long t_word, .int t_told, .ref ht_now, .ref ht_read, .ref ht_kept, .ref ht_ground, .ref ht_readGround, .ref ht_keptGround, .ref ht_name, .ref ht_isKept, .int t_isBegun, .int t_had, .ref ht_louds, .ref ht_sharps, .ref ht_row, .ref ht_along, .ref ht_needs, .ref ht_best, .int t_rowMany, .ref ht_order, .ref ht_shortRow, .int t_least, .int t_shortMany, .ref ht_was, .ref ht_saved, .int t_mostWorth, .ref ht_next, .ref ht_fitted, .int t_fitMany, .int t_narrowCost, .ref ht_beam, .ref ht_heardAhead, .ref ht_sharesMost, .ref ht_sharesMoved, .ref ht_nextMost, .ref ht_nextMoved])), (ht_tape, .inl (dA 0, 1240, .inl t_tape))]
def fX12_feed (N : Nat) (t_thrown : Int32) (t_taped : Int32) (t_tape : (Nat → Int32)) (x1_ : Int32) (x2_ : Int32) (x3_ : Int32) (x4_ : Int32) (x5_ : Int32) : Option (Int32 × Int32 × (Nat → Int32) × Int32) := (if (t_taped + (20 : Int32)) ≤ (1240 : Int32) then (fX12_come N t_taped t_tape x1_).bind fun o2 => (fX12_come N o2.1 o2.2 x2_).bind fun o3 => (fX12_come N o3.1 o3.2 x3_).bind fun o4 => (fX12_come N o4.1 o4.2 x4_).bind fun o5 => (fX12_come N o5.1 o5.2 x5_).bind fun o6 => some ((0 : Int32), o6.1, o6.2, o6.1) else some ((0 : Int32), t_taped, t_tape, (-1 : Int32)))
set_option maxHeartbeats 4000000 in
set_option maxRecDepth 100000 in
theorem qX12_feed (l : Launch) (D : va_G) (dA : Nat → ClassId) (ht ht_tape ht_now ht_read ht_kept ht_ground ht_readGround ht_keptGround ht_name ht_isKept ht_louds ht_sharps ht_row ht_along ht_needs ht_best ht_order ht_shortRow ht_was ht_saved ht_next ht_fitted ht_beam ht_heardAhead ht_sharesMost ht_sharesMoved ht_nextMost ht_nextMoved : Nat) (t_thrown : Int32) (t_taped : Int32) (t_size : Int32) (t_to : Int32) (t_from : Int32) (t_kind : Int32) (t_number : Int32) (t_fault : Int32) (t_spot : Int32) (t_word : Int64) (t_told : Int32) (t_isBegun : Int32) (t_had : Int32) (t_rowMany : Int32) (t_least : Int32) (t_shortMany : Int32) (t_mostWorth : Int32) (t_fitMany : Int32) (t_narrowCost : Int32) (t_tape : (Nat → Int32)) (x1_ : Int32) (x2_ : Int32) (x3_ : Int32) (x4_ : Int32) (x5_ : Int32) (N : Nat) (o : Int32 × Int32 × (Nat → Int32) × Int32) (hf : fX12_feed N t_thrown t_taped t_tape x1_ x2_ x3_ x4_ x5_ = some o) : Mi l D dA yX12_feed (Cond.code yX12_feed cX12_feed 6 (some .int) :: wA) 1 22 [.ref ht, .int x1_, .int x2_, .int x3_, .int x4_, .int x5_] (wX12_feed dA ht ht_tape ht_now ht_read ht_kept ht_ground ht_readGround ht_keptGround ht_name ht_isKept ht_louds ht_sharps ht_row ht_along ht_needs ht_best ht_order ht_shortRow ht_was ht_saved ht_next ht_fitted ht_beam ht_heardAhead ht_sharesMost ht_sharesMoved ht_nextMost ht_nextMoved t_thrown t_taped t_size t_to t_from t_kind t_number t_fault t_spot t_word t_told t_isBegun t_had t_rowMany t_least t_shortMany t_mostWorth t_fitMany t_narrowCost t_tape) (wX12_feed dA ht ht_tape ht_now ht_read ht_kept ht_ground ht_readGround ht_keptGround ht_name ht_isKept ht_louds ht_sharps ht_row ht_along ht_needs ht_best ht_order ht_shortRow ht_was ht_saved ht_next ht_fitted ht_beam ht_heardAhead ht_sharesMost ht_sharesMoved ht_nextMost ht_nextMoved o.1 o.2.1 t_size t_to t_from t_kind t_number t_fault t_spot t_word t_told t_isBegun t_had t_rowMany t_least t_shortMany t_mostWorth t_fitMany t_narrowCost o.2.2.1) o.2.2.2 := by
  intro sz
  refine M_of (cc := cX12_feed) (nL := 6) (ret := (some .int)) (own := RX12) (by decide +kernel) rfl (Nat.le_of_ble_eq_true rfl) ?_
  intro p e s m below meth c ls hsz C hw hl
  subst hsz
  have hR : 1 ≤ (rmm 1 22).frames ∧ 22 ≤ (rmm 1 22).locals ∧ 0 ≤ (rmm 1 22).cells ∧ 0 ≤ (rmm 1 22).slots := ⟨Nat.le_refl _, Nat.le_refl _, Nat.le_refl _, Nat.le_refl _⟩
  have hl : lv_has ls 6 [(0, .ref ht), (1, .int x1_), (2, .int x2_), (3, .int x3_), (4, .int x4_), (5, .int x5_)] := hl
  have hx := C.1
  have hb := C.2.1
  have hml := C.2.2.1
  have hown := C.2.2.2.1
  have hts := C.2.2.2.2.1
  have hK : ∀ (H : Heap) (locs : List Loc) (pc : Nat) (ls : Array Slot), decode cX12_feed pc = .ok (.ireturn, 1) → St D (wX12_feed dA ht ht_tape ht_now ht_read ht_kept ht_ground ht_readGround ht_keptGround ht_name ht_isKept ht_louds ht_sharps ht_row ht_along ht_needs ht_best ht_order ht_shortRow ht_was ht_saved ht_next ht_fitted ht_beam ht_heardAhead ht_sharesMost ht_sharesMoved ht_nextMost ht_nextMoved t_thrown t_taped t_size t_to t_from t_kind t_number t_fault t_spot t_word t_told t_isBegun t_had t_rowMany t_least t_shortMany t_mostWorth t_fitMany t_narrowCost t_tape) s (wX12_feed dA ht ht_tape ht_now ht_read ht_kept ht_ground ht_readGround ht_keptGround ht_name ht_isKept ht_louds ht_sharps ht_row ht_along ht_needs ht_best ht_order ht_shortRow ht_was ht_saved ht_next ht_fitted ht_beam ht_heardAhead ht_sharesMost ht_sharesMoved ht_nextMost ht_nextMoved o.1 o.2.1 t_size t_to t_from t_kind t_number t_fault t_spot t_word t_told t_isBegun t_had t_rowMany t_least t_shortMany t_mostWorth t_fitMany t_narrowCost o.2.2.1) H locs → W p l e (rmm 1 22) s m [.ref ht, .int x1_, .int x2_, .int x3_, .int x4_, .int x5_].toArray below meth c H locs 0 0 (MQ below (Qi D (wX12_feed dA ht ht_tape ht_now ht_read ht_kept ht_ground ht_readGround ht_keptGround ht_name ht_isKept ht_louds ht_sharps ht_row ht_along ht_needs ht_best ht_order ht_shortRow ht_was ht_saved ht_next ht_fitted ht_beam ht_heardAhead ht_sharesMost ht_sharesMoved ht_nextMost ht_nextMoved t_thrown t_taped t_size t_to t_from t_kind t_number t_fault t_spot t_word t_told t_isBegun t_had t_rowMany t_least t_shortMany t_mostWorth t_fitMany t_narrowCost t_tape) (wX12_feed dA ht ht_tape ht_now ht_read ht_kept ht_ground ht_readGround ht_keptGround ht_name ht_isKept ht_louds ht_sharps ht_row ht_along ht_needs ht_best ht_order ht_shortRow ht_was ht_saved ht_next ht_fitted ht_beam ht_heardAhead ht_sharesMost ht_sharesMoved ht_nextMost ht_nextMoved o.1 o.2.1 t_size t_to t_from t_kind t_number t_fault t_spot t_word t_told t_isBegun t_had t_rowMany t_least t_shortMany t_mostWorth t_fitMany t_narrowCost o.2.2.1) o.2.2.2 s.heap.size) [.ref ht, .int x1_, .int x2_, .int x3_, .int x4_, .int x5_].toArray s 0 0 (va_A (wX12_feed dA ht ht_tape ht_now ht_read ht_kept ht_ground ht_readGround ht_keptGround ht_name ht_isKept ht_louds ht_sharps ht_row ht_along ht_needs ht_best ht_order ht_shortRow ht_was ht_saved ht_next ht_fitted ht_beam ht_heardAhead ht_sharesMost ht_sharesMoved ht_nextMost ht_nextMoved t_thrown t_taped t_size t_to t_from t_kind t_number t_fault t_spot t_word t_told t_isBegun t_had t_rowMany t_least t_shortMany t_mostWorth t_fitMany t_narrowCost t_tape) s.heap.size)) (F0 m pc ls [.int o.2.2.2]) := fun H locs pc ls hd hw => k_iret C hw hd
  unfold fX12_feed at hf
  refine lv_aload_n hx hb dX12_feed_0 rfl (lv_at hl 0 rfl) ?_
  refine lv_iconst (v := (0 : Int32)) hx hb dX12_feed_1 (by decide) ?_
  refine k_put C hw 0 rfl rfl wiX12 tyX12 tyX12_ok nmX12 0 (by decide) wfX12_97 rfl rfl rfl (Nat.le_of_ble_eq_true rfl) dX12_feed_2 (wX12_feed dA ht ht_tape ht_now ht_read ht_kept ht_ground ht_readGround ht_keptGround ht_name ht_isKept ht_louds ht_sharps ht_row ht_along ht_needs ht_best ht_order ht_shortRow ht_was ht_saved ht_next ht_fitted ht_beam ht_heardAhead ht_sharesMost ht_sharesMoved ht_nextMost ht_nextMoved (0 : Int32) t_taped t_size t_to t_from t_kind t_number t_fault t_spot t_word t_told t_isBegun t_had t_rowMany t_least t_shortMany t_mostWorth t_fitMany t_narrowCost t_tape) rfl (fun H locs hw => ?_)
  refine lv_aload_n hx hb dX12_feed_5 rfl (lv_at hl 0 rfl) ?_
  refine k_get C hw 0 rfl rfl wiX12 2 (by decide) wfX12_100 rfl dX12_feed_6 ?_
  refine lv_bipush (v := (20 : Int32)) hx hb dX12_feed_9 (by decide) ?_
  refine lv_iadd hx hb dX12_feed_11 ?_
  refine lv_sipush (v := (1240 : Int32)) hx hb dX12_feed_12 (by decide) ?_
  refine lv_icmp_le (tgt := 20) hx hb dX12_feed_15 (by decide) (fun c1 => ?_) (fun c1 => ?_)
  · have hf := ite_t c1 hf
    refine lv_aload_n hx hb dX12_feed_20 rfl (lv_at hl 0 rfl) ?_
    refine lv_iload_n hx hb dX12_feed_21 rfl (lv_at hl 1 rfl) ?_
    obtain ⟨o2, ho2, hf⟩ := bind_r hf
    refine k_callVv C hw (n := 1) (As := [.int x1_]) (w1 := (wX12_feed dA ht ht_tape ht_now ht_read ht_kept ht_ground ht_readGround ht_keptGround ht_name ht_isKept ht_louds ht_sharps ht_row ht_along ht_needs ht_best ht_order ht_shortRow ht_was ht_saved ht_next ht_fitted ht_beam ht_heardAhead ht_sharesMost ht_sharesMoved ht_nextMost ht_nextMoved (0 : Int32) o2.1 t_size t_to t_from t_kind t_number t_fault t_spot t_word t_told t_isBegun t_had t_rowMany t_least t_shortMany t_mostWorth t_fitMany t_narrowCost o2.2)) (wr := []) [0, 1] [] [0, 1] rfl rfl (by decide) (by decide) (by decide) rfl (by decide) (qX12_come l D dA ht ht_tape ht_now ht_read ht_kept ht_ground ht_readGround ht_keptGround ht_name ht_isKept ht_louds ht_sharps ht_row ht_along ht_needs ht_best ht_order ht_shortRow ht_was ht_saved ht_next ht_fitted ht_beam ht_heardAhead ht_sharesMost ht_sharesMoved ht_nextMost ht_nextMoved (0 : Int32) t_taped t_size t_to t_from t_kind t_number t_fault t_spot t_word t_told t_isBegun t_had t_rowMany t_least t_shortMany t_mostWorth t_fitMany t_narrowCost t_tape x1_ N _ ho2) wlX12_103 wmX12_come wvX12_come wnX12 wcX12_come rfl (by decide +kernel) ⟨Nat.le_trans (by decide) hR.1, Nat.le_trans (by decide) hR.2.1⟩ hR.2.2 rfl 0 rfl rfl hl.1 (Nat.le_of_ble_eq_true rfl) dX12_feed_22 rfl (fun H locs hw => ?_)
    refine lv_aload_n hx hb dX12_feed_25 rfl (lv_at hl 0 rfl) ?_
    refine lv_iload_n hx hb dX12_feed_26 rfl (lv_at hl 2 rfl) ?_
    obtain ⟨o3, ho3, hf⟩ := bind_r hf
    refine k_callVv C hw (n := 1) (As := [.int x2_]) (w1 := (wX12_feed dA ht ht_tape ht_now ht_read ht_kept ht_ground ht_readGround ht_keptGround ht_name ht_isKept ht_louds ht_sharps ht_row ht_along ht_needs ht_best ht_order ht_shortRow ht_was ht_saved ht_next ht_fitted ht_beam ht_heardAhead ht_sharesMost ht_sharesMoved ht_nextMost ht_nextMoved (0 : Int32) o3.1 t_size t_to t_from t_kind t_number t_fault t_spot t_word t_told t_isBegun t_had t_rowMany t_least t_shortMany t_mostWorth t_fitMany t_narrowCost o3.2)) (wr := []) [0, 1] [] [0, 1] rfl rfl (by decide) (by decide) (by decide) rfl (by decide) (qX12_come l D dA ht ht_tape ht_now ht_read ht_kept ht_ground ht_readGround ht_keptGround ht_name ht_isKept ht_louds ht_sharps ht_row ht_along ht_needs ht_best ht_order ht_shortRow ht_was ht_saved ht_next ht_fitted ht_beam ht_heardAhead ht_sharesMost ht_sharesMoved ht_nextMost ht_nextMoved (0 : Int32) o2.1 t_size t_to t_from t_kind t_number t_fault t_spot t_word t_told t_isBegun t_had t_rowMany t_least t_shortMany t_mostWorth t_fitMany t_narrowCost o2.2 x2_ N _ ho3) wlX12_103 wmX12_come wvX12_come wnX12 wcX12_come rfl (by decide +kernel) ⟨Nat.le_trans (by decide) hR.1, Nat.le_trans (by decide) hR.2.1⟩ hR.2.2 rfl 0 rfl rfl hl.1 (Nat.le_of_ble_eq_true rfl) dX12_feed_27 rfl (fun H locs hw => ?_)
    refine lv_aload_n hx hb dX12_feed_30 rfl (lv_at hl 0 rfl) ?_
    refine lv_iload_n hx hb dX12_feed_31 rfl (lv_at hl 3 rfl) ?_
    obtain ⟨o4, ho4, hf⟩ := bind_r hf
    refine k_callVv C hw (n := 1) (As := [.int x3_]) (w1 := (wX12_feed dA ht ht_tape ht_now ht_read ht_kept ht_ground ht_readGround ht_keptGround ht_name ht_isKept ht_louds ht_sharps ht_row ht_along ht_needs ht_best ht_order ht_shortRow ht_was ht_saved ht_next ht_fitted ht_beam ht_heardAhead ht_sharesMost ht_sharesMoved ht_nextMost ht_nextMoved (0 : Int32) o4.1 t_size t_to t_from t_kind t_number t_fault t_spot t_word t_told t_isBegun t_had t_rowMany t_least t_shortMany t_mostWorth t_fitMany t_narrowCost o4.2)) (wr := []) [0, 1] [] [0, 1] rfl rfl (by decide) (by decide) (by decide) rfl (by decide) (qX12_come l D dA ht ht_tape ht_now ht_read ht_kept ht_ground ht_readGround ht_keptGround ht_name ht_isKept ht_louds ht_sharps ht_row ht_along ht_needs ht_best ht_order ht_shortRow ht_was ht_saved ht_next ht_fitted ht_beam ht_heardAhead ht_sharesMost ht_sharesMoved ht_nextMost ht_nextMoved (0 : Int32) o3.1 t_size t_to t_from t_kind t_number t_fault t_spot t_word t_told t_isBegun t_had t_rowMany t_least t_shortMany t_mostWorth t_fitMany t_narrowCost o3.2 x3_ N _ ho4) wlX12_103 wmX12_come wvX12_come wnX12 wcX12_come rfl (by decide +kernel) ⟨Nat.le_trans (by decide) hR.1, Nat.le_trans (by decide) hR.2.1⟩ hR.2.2 rfl 0 rfl rfl hl.1 (Nat.le_of_ble_eq_true rfl) dX12_feed_32 rfl (fun H locs hw => ?_)
    refine lv_aload_n hx hb dX12_feed_35 rfl (lv_at hl 0 rfl) ?_
    refine lv_iload hx hb dX12_feed_36 (lv_at hl 4 rfl) ?_
    obtain ⟨o5, ho5, hf⟩ := bind_r hf
    refine k_callVv C hw (n := 1) (As := [.int x4_]) (w1 := (wX12_feed dA ht ht_tape ht_now ht_read ht_kept ht_ground ht_readGround ht_keptGround ht_name ht_isKept ht_louds ht_sharps ht_row ht_along ht_needs ht_best ht_order ht_shortRow ht_was ht_saved ht_next ht_fitted ht_beam ht_heardAhead ht_sharesMost ht_sharesMoved ht_nextMost ht_nextMoved (0 : Int32) o5.1 t_size t_to t_from t_kind t_number t_fault t_spot t_word t_told t_isBegun t_had t_rowMany t_least t_shortMany t_mostWorth t_fitMany t_narrowCost o5.2)) (wr := []) [0, 1] [] [0, 1] rfl rfl (by decide) (by decide) (by decide) rfl (by decide) (qX12_come l D dA ht ht_tape ht_now ht_read ht_kept ht_ground ht_readGround ht_keptGround ht_name ht_isKept ht_louds ht_sharps ht_row ht_along ht_needs ht_best ht_order ht_shortRow ht_was ht_saved ht_next ht_fitted ht_beam ht_heardAhead ht_sharesMost ht_sharesMoved ht_nextMost ht_nextMoved (0 : Int32) o4.1 t_size t_to t_from t_kind t_number t_fault t_spot t_word t_told t_isBegun t_had t_rowMany t_least t_shortMany t_mostWorth t_fitMany t_narrowCost o4.2 x4_ N _ ho5) wlX12_103 wmX12_come wvX12_come wnX12 wcX12_come rfl (by decide +kernel) ⟨Nat.le_trans (by decide) hR.1, Nat.le_trans (by decide) hR.2.1⟩ hR.2.2 rfl 0 rfl rfl hl.1 (Nat.le_of_ble_eq_true rfl) dX12_feed_38 rfl (fun H locs hw => ?_)
    refine lv_aload_n hx hb dX12_feed_41 rfl (lv_at hl 0 rfl) ?_
    refine lv_iload hx hb dX12_feed_42 (lv_at hl 5 rfl) ?_
    obtain ⟨o6, ho6, hf⟩ := bind_r hf
    refine k_callVv C hw (n := 1) (As := [.int x5_]) (w1 := (wX12_feed dA ht ht_tape ht_now ht_read ht_kept ht_ground ht_readGround ht_keptGround ht_name ht_isKept ht_louds ht_sharps ht_row ht_along ht_needs ht_best ht_order ht_shortRow ht_was ht_saved ht_next ht_fitted ht_beam ht_heardAhead ht_sharesMost ht_sharesMoved ht_nextMost ht_nextMoved (0 : Int32) o6.1 t_size t_to t_from t_kind t_number t_fault t_spot t_word t_told t_isBegun t_had t_rowMany t_least t_shortMany t_mostWorth t_fitMany t_narrowCost o6.2)) (wr := []) [0, 1] [] [0, 1] rfl rfl (by decide) (by decide) (by decide) rfl (by decide) (qX12_come l D dA ht ht_tape ht_now ht_read ht_kept ht_ground ht_readGround ht_keptGround ht_name ht_isKept ht_louds ht_sharps ht_row ht_along ht_needs ht_best ht_order ht_shortRow ht_was ht_saved ht_next ht_fitted ht_beam ht_heardAhead ht_sharesMost ht_sharesMoved ht_nextMost ht_nextMoved (0 : Int32) o5.1 t_size t_to t_from t_kind t_number t_fault t_spot t_word t_told t_isBegun t_had t_rowMany t_least t_shortMany t_mostWorth t_fitMany t_narrowCost o5.2 x5_ N _ ho6) wlX12_103 wmX12_come wvX12_come wnX12 wcX12_come rfl (by decide +kernel) ⟨Nat.le_trans (by decide) hR.1, Nat.le_trans (by decide) hR.2.1⟩ hR.2.2 rfl 0 rfl rfl hl.1 (Nat.le_of_ble_eq_true rfl) dX12_feed_44 rfl (fun H locs hw => ?_)
    refine lv_aload_n hx hb dX12_feed_47 rfl (lv_at hl 0 rfl) ?_
    refine k_get C hw 0 rfl rfl wiX12 2 (by decide) wfX12_100 rfl dX12_feed_48 ?_
    obtain rfl := some_r hf
    exact hK _ _ _ _ dX12_feed_51 hw
  · have hf := ite_f c1 hf
    refine lv_iconst (v := (-1 : Int32)) hx hb dX12_feed_18 (by decide) ?_
    obtain rfl := some_r hf
    exact hK _ _ _ _ dX12_feed_19 hw

/-! RingPlacesModel.end(I)Z -/
abbrev wX12_end (dA : Nat → ClassId) (ht ht_tape ht_now ht_read ht_kept ht_ground ht_readGround ht_keptGround ht_name ht_isKept ht_louds ht_sharps ht_row ht_along ht_needs ht_best ht_order ht_shortRow ht_was ht_saved ht_next ht_fitted ht_beam ht_heardAhead ht_sharesMost ht_sharesMoved ht_nextMost ht_nextMoved : Nat) (t_thrown : Int32) (t_taped : Int32) (t_size : Int32) (t_to : Int32) (t_from : Int32) (t_kind : Int32) (t_number : Int32) (t_fault : Int32) (t_spot : Int32) (t_word : Int64) (t_told : Int32) (t_isBegun : Int32) (t_had : Int32) (t_rowMany : Int32) (t_least : Int32) (t_shortMany : Int32) (t_mostWorth : Int32) (t_fitMany : Int32) (t_narrowCost : Int32) : va_W := [(ht, .inr (12, [.int t_thrown, .ref ht_tape, .int t_taped, .int t_size, .int t_to, .int t_from, .int t_kind, .int t_number, .int t_fault, .int t_spot, .long t_word, .int t_told, .ref ht_now, .ref ht_read, .ref ht_kept, .ref ht_ground, .ref ht_readGround, .ref ht_keptGround, .ref ht_name, .ref ht_isKept, .int t_isBegun, .int t_had, .ref ht_louds, .ref ht_sharps, .ref ht_row, .ref ht_along, .ref ht_needs, .ref ht_best, .int t_rowMany, .ref ht_order, .ref ht_shortRow, .int t_least, .int t_shortMany, .ref ht_was, .ref ht_saved, .int t_mostWorth, .ref ht_next, .ref ht_fitted, .int t_fitMany, .int t_narrowCost, .ref ht_beam, .ref ht_heardAhead, .ref ht_sharesMost, .ref ht_sharesMoved, .ref ht_nextMost, .ref ht_nextMoved]))]
def fX12_end (t_thrown : Int32) (t_taped : Int32) (x1_ : Int32) : Option (Int32 × Int32 × Int32) := (if x1_ < 0 then some ((0 : Int32), t_taped, (0 : Int32)) else (if x1_ ≤ t_taped then some ((0 : Int32), x1_, (1 : Int32)) else some ((0 : Int32), t_taped, (0 : Int32))))
set_option maxHeartbeats 4000000 in
set_option maxRecDepth 100000 in
theorem qX12_end (l : Launch) (D : va_G) (dA : Nat → ClassId) (ht ht_tape ht_now ht_read ht_kept ht_ground ht_readGround ht_keptGround ht_name ht_isKept ht_louds ht_sharps ht_row ht_along ht_needs ht_best ht_order ht_shortRow ht_was ht_saved ht_next ht_fitted ht_beam ht_heardAhead ht_sharesMost ht_sharesMoved ht_nextMost ht_nextMoved : Nat) (t_thrown : Int32) (t_taped : Int32) (t_size : Int32) (t_to : Int32) (t_from : Int32) (t_kind : Int32) (t_number : Int32) (t_fault : Int32) (t_spot : Int32) (t_word : Int64) (t_told : Int32) (t_isBegun : Int32) (t_had : Int32) (t_rowMany : Int32) (t_least : Int32) (t_shortMany : Int32) (t_mostWorth : Int32) (t_fitMany : Int32) (t_narrowCost : Int32) (x1_ : Int32) (o : Int32 × Int32 × Int32) (hf : fX12_end t_thrown t_taped x1_ = some o) : Mi l D dA yX12_end (Cond.code yX12_end cX12_end 2 (some .boolean) :: wA) 0 0 [.ref ht, .int x1_] (wX12_end dA ht ht_tape ht_now ht_read ht_kept ht_ground ht_readGround ht_keptGround ht_name ht_isKept ht_louds ht_sharps ht_row ht_along ht_needs ht_best ht_order ht_shortRow ht_was ht_saved ht_next ht_fitted ht_beam ht_heardAhead ht_sharesMost ht_sharesMoved ht_nextMost ht_nextMoved t_thrown t_taped t_size t_to t_from t_kind t_number t_fault t_spot t_word t_told t_isBegun t_had t_rowMany t_least t_shortMany t_mostWorth t_fitMany t_narrowCost) (wX12_end dA ht ht_tape ht_now ht_read ht_kept ht_ground ht_readGround ht_keptGround ht_name ht_isKept ht_louds ht_sharps ht_row ht_along ht_needs ht_best ht_order ht_shortRow ht_was ht_saved ht_next ht_fitted ht_beam ht_heardAhead ht_sharesMost ht_sharesMoved ht_nextMost ht_nextMoved o.1 o.2.1 t_size t_to t_from t_kind t_number t_fault t_spot t_word t_told t_isBegun t_had t_rowMany t_least t_shortMany t_mostWorth t_fitMany t_narrowCost) o.2.2 := by
  intro sz
  refine M_of (cc := cX12_end) (nL := 2) (ret := (some .boolean)) (own := RX12) (by decide +kernel) rfl (Nat.le_of_ble_eq_true rfl) ?_
  intro p e s m below meth c ls hsz C hw hl
  subst hsz
  have hR : 0 ≤ (rmm 0 0).frames ∧ 0 ≤ (rmm 0 0).locals ∧ 0 ≤ (rmm 0 0).cells ∧ 0 ≤ (rmm 0 0).slots := ⟨Nat.le_refl _, Nat.le_refl _, Nat.le_refl _, Nat.le_refl _⟩
  have hl : lv_has ls 2 [(0, .ref ht), (1, .int x1_)] := hl
  have hx := C.1
  have hb := C.2.1
  have hml := C.2.2.1
  have hown := C.2.2.2.1
  have hts := C.2.2.2.2.1
  have hK : ∀ (H : Heap) (locs : List Loc) (pc : Nat) (ls : Array Slot), (o.2.2 = 0 ∨ o.2.2 = 1) → decode cX12_end pc = .ok (.ireturn, 1) → St D (wX12_end dA ht ht_tape ht_now ht_read ht_kept ht_ground ht_readGround ht_keptGround ht_name ht_isKept ht_louds ht_sharps ht_row ht_along ht_needs ht_best ht_order ht_shortRow ht_was ht_saved ht_next ht_fitted ht_beam ht_heardAhead ht_sharesMost ht_sharesMoved ht_nextMost ht_nextMoved t_thrown t_taped t_size t_to t_from t_kind t_number t_fault t_spot t_word t_told t_isBegun t_had t_rowMany t_least t_shortMany t_mostWorth t_fitMany t_narrowCost) s (wX12_end dA ht ht_tape ht_now ht_read ht_kept ht_ground ht_readGround ht_keptGround ht_name ht_isKept ht_louds ht_sharps ht_row ht_along ht_needs ht_best ht_order ht_shortRow ht_was ht_saved ht_next ht_fitted ht_beam ht_heardAhead ht_sharesMost ht_sharesMoved ht_nextMost ht_nextMoved o.1 o.2.1 t_size t_to t_from t_kind t_number t_fault t_spot t_word t_told t_isBegun t_had t_rowMany t_least t_shortMany t_mostWorth t_fitMany t_narrowCost) H locs → W p l e (rmm 0 0) s m [.ref ht, .int x1_].toArray below meth c H locs 0 0 (MQ below (Qi D (wX12_end dA ht ht_tape ht_now ht_read ht_kept ht_ground ht_readGround ht_keptGround ht_name ht_isKept ht_louds ht_sharps ht_row ht_along ht_needs ht_best ht_order ht_shortRow ht_was ht_saved ht_next ht_fitted ht_beam ht_heardAhead ht_sharesMost ht_sharesMoved ht_nextMost ht_nextMoved t_thrown t_taped t_size t_to t_from t_kind t_number t_fault t_spot t_word t_told t_isBegun t_had t_rowMany t_least t_shortMany t_mostWorth t_fitMany t_narrowCost) (wX12_end dA ht ht_tape ht_now ht_read ht_kept ht_ground ht_readGround ht_keptGround ht_name ht_isKept ht_louds ht_sharps ht_row ht_along ht_needs ht_best ht_order ht_shortRow ht_was ht_saved ht_next ht_fitted ht_beam ht_heardAhead ht_sharesMost ht_sharesMoved ht_nextMost ht_nextMoved o.1 o.2.1 t_size t_to t_from t_kind t_number t_fault t_spot t_word t_told t_isBegun t_had t_rowMany t_least t_shortMany t_mostWorth t_fitMany t_narrowCost) o.2.2 s.heap.size) [.ref ht, .int x1_].toArray s 0 0 (va_A (wX12_end dA ht ht_tape ht_now ht_read ht_kept ht_ground ht_readGround ht_keptGround ht_name ht_isKept ht_louds ht_sharps ht_row ht_along ht_needs ht_best ht_order ht_shortRow ht_was ht_saved ht_next ht_fitted ht_beam ht_heardAhead ht_sharesMost ht_sharesMoved ht_nextMost ht_nextMoved t_thrown t_taped t_size t_to t_from t_kind t_number t_fault t_spot t_word t_told t_isBegun t_had t_rowMany t_least t_shortMany t_mostWorth t_fitMany t_narrowCost) s.heap.size)) (F0 m pc ls [.int o.2.2]) := fun H locs pc ls hz hd hw => k_zret C hw hz hd
  unfold fX12_end at hf
  refine lv_aload_n hx hb dX12_end_0 rfl (lv_at hl 0 rfl) ?_
  refine lv_iconst (v := (0 : Int32)) hx hb dX12_end_1 (by decide) ?_
  refine k_put C hw 0 rfl rfl wiX12 tyX12 tyX12_ok nmX12 0 (by decide) wfX12_97 rfl rfl rfl (Nat.le_of_ble_eq_true rfl) dX12_end_2 (wX12_end dA ht ht_tape ht_now ht_read ht_kept ht_ground ht_readGround ht_keptGround ht_name ht_isKept ht_louds ht_sharps ht_row ht_along ht_needs ht_best ht_order ht_shortRow ht_was ht_saved ht_next ht_fitted ht_beam ht_heardAhead ht_sharesMost ht_sharesMoved ht_nextMost ht_nextMoved (0 : Int32) t_taped t_size t_to t_from t_kind t_number t_fault t_spot t_word t_told t_isBegun t_had t_rowMany t_least t_shortMany t_mostWorth t_fitMany t_narrowCost) rfl (fun H locs hw => ?_)
  refine lv_iload_n hx hb dX12_end_5 rfl (lv_at hl 1 rfl) ?_
  refine lv_if_lt (tgt := 17) hx hb dX12_end_6 (by decide) (fun c1 => ?_) (fun c1 => ?_)
  · have hf := ite_t c1 hf
    refine lv_iconst (v := (0 : Int32)) hx hb dX12_end_17 (by decide) ?_
    obtain rfl := some_r hf
    exact hK _ _ _ _ (Or.inl rfl) dX12_end_18 hw
  · have hf := ite_f c1 hf
    refine lv_iload_n hx hb dX12_end_9 rfl (lv_at hl 1 rfl) ?_
    refine lv_aload_n hx hb dX12_end_10 rfl (lv_at hl 0 rfl) ?_
    refine k_get C hw 0 rfl rfl wiX12 2 (by decide) wfX12_100 rfl dX12_end_11 ?_
    refine lv_icmp_le (tgt := 19) hx hb dX12_end_14 (by decide) (fun c2 => ?_) (fun c2 => ?_)
    · have hf := ite_t c2 hf
      refine lv_aload_n hx hb dX12_end_19 rfl (lv_at hl 0 rfl) ?_
      refine lv_iload_n hx hb dX12_end_20 rfl (lv_at hl 1 rfl) ?_
      refine k_put C hw 0 rfl rfl wiX12 tyX12 tyX12_ok nmX12 2 (by decide) wfX12_100 rfl rfl rfl (Nat.le_of_ble_eq_true rfl) dX12_end_21 (wX12_end dA ht ht_tape ht_now ht_read ht_kept ht_ground ht_readGround ht_keptGround ht_name ht_isKept ht_louds ht_sharps ht_row ht_along ht_needs ht_best ht_order ht_shortRow ht_was ht_saved ht_next ht_fitted ht_beam ht_heardAhead ht_sharesMost ht_sharesMoved ht_nextMost ht_nextMoved (0 : Int32) x1_ t_size t_to t_from t_kind t_number t_fault t_spot t_word t_told t_isBegun t_had t_rowMany t_least t_shortMany t_mostWorth t_fitMany t_narrowCost) rfl (fun H locs hw => ?_)
      refine lv_iconst (v := (1 : Int32)) hx hb dX12_end_24 (by decide) ?_
      obtain rfl := some_r hf
      exact hK _ _ _ _ (Or.inr rfl) dX12_end_25 hw
    · have hf := ite_f c2 hf
      refine lv_iconst (v := (0 : Int32)) hx hb dX12_end_17 (by decide) ?_
      obtain rfl := some_r hf
      exact hK _ _ _ _ (Or.inl rfl) dX12_end_18 hw

/-! RingPlacesModel.take()I -/
abbrev wX12_take (dA : Nat → ClassId) (ht ht_tape ht_now ht_read ht_kept ht_ground ht_readGround ht_keptGround ht_name ht_isKept ht_louds ht_sharps ht_row ht_along ht_needs ht_best ht_order ht_shortRow ht_was ht_saved ht_next ht_fitted ht_beam ht_heardAhead ht_sharesMost ht_sharesMoved ht_nextMost ht_nextMoved : Nat) (t_thrown : Int32) (t_taped : Int32) (t_size : Int32) (t_to : Int32) (t_from : Int32) (t_kind : Int32) (t_number : Int32) (t_fault : Int32) (t_spot : Int32) (t_word : Int64) (t_told : Int32) (t_isBegun : Int32) (t_had : Int32) (t_rowMany : Int32) (t_least : Int32) (t_shortMany : Int32) (t_mostWorth : Int32) (t_fitMany : Int32) (t_narrowCost : Int32) : va_W := [(ht, .inr (12, [.int t_thrown, .ref ht_tape, .int t_taped, .int t_size, .int t_to, .int t_from, .int t_kind, .int t_number, .int t_fault, .int t_spot, .long t_word, .int t_told, .ref ht_now, .ref ht_read, .ref ht_kept, .ref ht_ground, .ref ht_readGround, .ref ht_keptGround, .ref ht_name, .ref ht_isKept, .int t_isBegun, .int t_had, .ref ht_louds, .ref ht_sharps, .ref ht_row, .ref ht_along, .ref ht_needs, .ref ht_best, .int t_rowMany, .ref ht_order, .ref ht_shortRow, .int t_least, .int t_shortMany, .ref ht_was, .ref ht_saved, .int t_mostWorth, .ref ht_next, .ref ht_fitted, .int t_fitMany, .int t_narrowCost, .ref ht_beam, .ref ht_heardAhead, .ref ht_sharesMost, .ref ht_sharesMoved, .ref ht_nextMost, .ref ht_nextMoved]))]
def fX12_take (t_taped : Int32)  : Option (Int32 × Int32) := some ((0 : Int32), t_taped)
set_option maxHeartbeats 4000000 in
set_option maxRecDepth 100000 in
theorem qX12_take (l : Launch) (D : va_G) (dA : Nat → ClassId) (ht ht_tape ht_now ht_read ht_kept ht_ground ht_readGround ht_keptGround ht_name ht_isKept ht_louds ht_sharps ht_row ht_along ht_needs ht_best ht_order ht_shortRow ht_was ht_saved ht_next ht_fitted ht_beam ht_heardAhead ht_sharesMost ht_sharesMoved ht_nextMost ht_nextMoved : Nat) (t_thrown : Int32) (t_taped : Int32) (t_size : Int32) (t_to : Int32) (t_from : Int32) (t_kind : Int32) (t_number : Int32) (t_fault : Int32) (t_spot : Int32) (t_word : Int64) (t_told : Int32) (t_isBegun : Int32) (t_had : Int32) (t_rowMany : Int32) (t_least : Int32) (t_shortMany : Int32) (t_mostWorth : Int32) (t_fitMany : Int32) (t_narrowCost : Int32)  (o : Int32 × Int32) (hf : fX12_take t_taped = some o) : Mi l D dA yX12_take (Cond.code yX12_take cX12_take 2 (some .int) :: wA) 0 0 [.ref ht] (wX12_take dA ht ht_tape ht_now ht_read ht_kept ht_ground ht_readGround ht_keptGround ht_name ht_isKept ht_louds ht_sharps ht_row ht_along ht_needs ht_best ht_order ht_shortRow ht_was ht_saved ht_next ht_fitted ht_beam ht_heardAhead ht_sharesMost ht_sharesMoved ht_nextMost ht_nextMoved t_thrown t_taped t_size t_to t_from t_kind t_number t_fault t_spot t_word t_told t_isBegun t_had t_rowMany t_least t_shortMany t_mostWorth t_fitMany t_narrowCost) (wX12_take dA ht ht_tape ht_now ht_read ht_kept ht_ground ht_readGround ht_keptGround ht_name ht_isKept ht_louds ht_sharps ht_row ht_along ht_needs ht_best ht_order ht_shortRow ht_was ht_saved ht_next ht_fitted ht_beam ht_heardAhead ht_sharesMost ht_sharesMoved ht_nextMost ht_nextMoved t_thrown o.1 t_size t_to t_from t_kind t_number t_fault t_spot t_word t_told t_isBegun t_had t_rowMany t_least t_shortMany t_mostWorth t_fitMany t_narrowCost) o.2 := by
  intro sz
  refine M_of (cc := cX12_take) (nL := 2) (ret := (some .int)) (own := RX12) (by decide +kernel) rfl (Nat.le_of_ble_eq_true rfl) ?_
  intro p e s m below meth c ls hsz C hw hl
  subst hsz
  have hR : 0 ≤ (rmm 0 0).frames ∧ 0 ≤ (rmm 0 0).locals ∧ 0 ≤ (rmm 0 0).cells ∧ 0 ≤ (rmm 0 0).slots := ⟨Nat.le_refl _, Nat.le_refl _, Nat.le_refl _, Nat.le_refl _⟩
  have hl : lv_has ls 2 [(0, .ref ht)] := hl
  have hx := C.1
  have hb := C.2.1
  have hml := C.2.2.1
  have hown := C.2.2.2.1
  have hts := C.2.2.2.2.1
  have hK : ∀ (H : Heap) (locs : List Loc) (pc : Nat) (ls : Array Slot), decode cX12_take pc = .ok (.ireturn, 1) → St D (wX12_take dA ht ht_tape ht_now ht_read ht_kept ht_ground ht_readGround ht_keptGround ht_name ht_isKept ht_louds ht_sharps ht_row ht_along ht_needs ht_best ht_order ht_shortRow ht_was ht_saved ht_next ht_fitted ht_beam ht_heardAhead ht_sharesMost ht_sharesMoved ht_nextMost ht_nextMoved t_thrown t_taped t_size t_to t_from t_kind t_number t_fault t_spot t_word t_told t_isBegun t_had t_rowMany t_least t_shortMany t_mostWorth t_fitMany t_narrowCost) s (wX12_take dA ht ht_tape ht_now ht_read ht_kept ht_ground ht_readGround ht_keptGround ht_name ht_isKept ht_louds ht_sharps ht_row ht_along ht_needs ht_best ht_order ht_shortRow ht_was ht_saved ht_next ht_fitted ht_beam ht_heardAhead ht_sharesMost ht_sharesMoved ht_nextMost ht_nextMoved t_thrown o.1 t_size t_to t_from t_kind t_number t_fault t_spot t_word t_told t_isBegun t_had t_rowMany t_least t_shortMany t_mostWorth t_fitMany t_narrowCost) H locs → W p l e (rmm 0 0) s m [.ref ht].toArray below meth c H locs 0 0 (MQ below (Qi D (wX12_take dA ht ht_tape ht_now ht_read ht_kept ht_ground ht_readGround ht_keptGround ht_name ht_isKept ht_louds ht_sharps ht_row ht_along ht_needs ht_best ht_order ht_shortRow ht_was ht_saved ht_next ht_fitted ht_beam ht_heardAhead ht_sharesMost ht_sharesMoved ht_nextMost ht_nextMoved t_thrown t_taped t_size t_to t_from t_kind t_number t_fault t_spot t_word t_told t_isBegun t_had t_rowMany t_least t_shortMany t_mostWorth t_fitMany t_narrowCost) (wX12_take dA ht ht_tape ht_now ht_read ht_kept ht_ground ht_readGround ht_keptGround ht_name ht_isKept ht_louds ht_sharps ht_row ht_along ht_needs ht_best ht_order ht_shortRow ht_was ht_saved ht_next ht_fitted ht_beam ht_heardAhead ht_sharesMost ht_sharesMoved ht_nextMost ht_nextMoved t_thrown o.1 t_size t_to t_from t_kind t_number t_fault t_spot t_word t_told t_isBegun t_had t_rowMany t_least t_shortMany t_mostWorth t_fitMany t_narrowCost) o.2 s.heap.size) [.ref ht].toArray s 0 0 (va_A (wX12_take dA ht ht_tape ht_now ht_read ht_kept ht_ground ht_readGround ht_keptGround ht_name ht_isKept ht_louds ht_sharps ht_row ht_along ht_needs ht_best ht_order ht_shortRow ht_was ht_saved ht_next ht_fitted ht_beam ht_heardAhead ht_sharesMost ht_sharesMoved ht_nextMost ht_nextMoved t_thrown t_taped t_size t_to t_from t_kind t_number t_fault t_spot t_word t_told t_isBegun t_had t_rowMany t_least t_shortMany t_mostWorth t_fitMany t_narrowCost) s.heap.size)) (F0 m pc ls [.int o.2]) := fun H locs pc ls hd hw => k_iret C hw hd
  unfold fX12_take at hf
  refine lv_aload_n hx hb dX12_take_0 rfl (lv_at hl 0 rfl) ?_
  refine k_get C hw 0 rfl rfl wiX12 2 (by decide) wfX12_100 rfl dX12_take_1 ?_
  refine lv_istore_n (lv' := [(1, .int t_taped), (0, .ref ht)]) hx hb dX12_take_4 rfl hl (by decide) rfl (fun ls hl => ?_)
  refine lv_aload_n hx hb dX12_take_5 rfl (lv_at hl 1 rfl) ?_
  refine lv_iconst (v := (0 : Int32)) hx hb dX12_take_6 (by decide) ?_
  refine k_put C hw 0 rfl rfl wiX12 tyX12 tyX12_ok nmX12 2 (by decide) wfX12_100 rfl rfl rfl (Nat.le_of_ble_eq_true rfl) dX12_take_7 (wX12_take dA ht ht_tape ht_now ht_read ht_kept ht_ground ht_readGround ht_keptGround ht_name ht_isKept ht_louds ht_sharps ht_row ht_along ht_needs ht_best ht_order ht_shortRow ht_was ht_saved ht_next ht_fitted ht_beam ht_heardAhead ht_sharesMost ht_sharesMoved ht_nextMost ht_nextMoved t_thrown (0 : Int32) t_size t_to t_from t_kind t_number t_fault t_spot t_word t_told t_isBegun t_had t_rowMany t_least t_shortMany t_mostWorth t_fitMany t_narrowCost) rfl (fun H locs hw => ?_)
  refine lv_iload_n hx hb dX12_take_10 rfl (lv_at hl 0 rfl) ?_
  obtain rfl := some_r hf
  exact hK _ _ _ _ dX12_take_11 hw

/-! RingPlacesModel.isIn(III)Z -/
abbrev wX12_isIn (dA : Nat → ClassId)   : va_W := []
def fX12_isIn  (x0_ : Int32) (x1_ : Int32) (x2_ : Int32) : Option (Int32) := (if x0_ < x1_ then some (0 : Int32) else (if x2_ < x0_ then some (0 : Int32) else some (1 : Int32)))
set_option maxHeartbeats 4000000 in
set_option maxRecDepth 100000 in
theorem qX12_isIn (l : Launch) (D : va_G) (dA : Nat → ClassId)   (x0_ : Int32) (x1_ : Int32) (x2_ : Int32) (o : Int32) (hf : fX12_isIn x0_ x1_ x2_ = some o) : Mi l D dA yX12_isIn (Cond.code yX12_isIn cX12_isIn 3 (some .boolean) :: wA) 0 0 [.int x0_, .int x1_, .int x2_] (wX12_isIn dA ) (wX12_isIn dA ) o := by
  intro sz
  refine M_of (cc := cX12_isIn) (nL := 3) (ret := (some .boolean)) (own := RX12) (by decide +kernel) rfl (Nat.le_of_ble_eq_true rfl) ?_
  intro p e s m below meth c ls hsz C hw hl
  subst hsz
  have hR : 0 ≤ (rmm 0 0).frames ∧ 0 ≤ (rmm 0 0).locals ∧ 0 ≤ (rmm 0 0).cells ∧ 0 ≤ (rmm 0 0).slots := ⟨Nat.le_refl _, Nat.le_refl _, Nat.le_refl _, Nat.le_refl _⟩
  have hl : lv_has ls 3 [(0, .int x0_), (1, .int x1_), (2, .int x2_)] := hl
  have hx := C.1
  have hb := C.2.1
  have hml := C.2.2.1
  have hown := C.2.2.2.1
  have hts := C.2.2.2.2.1
  have hK : ∀ (H : Heap) (locs : List Loc) (pc : Nat) (ls : Array Slot), (o = 0 ∨ o = 1) → decode cX12_isIn pc = .ok (.ireturn, 1) → St D (wX12_isIn dA ) s (wX12_isIn dA ) H locs → W p l e (rmm 0 0) s m [.int x0_, .int x1_, .int x2_].toArray below meth c H locs 0 0 (MQ below (Qi D (wX12_isIn dA ) (wX12_isIn dA ) o s.heap.size) [.int x0_, .int x1_, .int x2_].toArray s 0 0 (va_A (wX12_isIn dA ) s.heap.size)) (F0 m pc ls [.int o]) := fun H locs pc ls hz hd hw => k_zret C hw hz hd
  unfold fX12_isIn at hf
  refine lv_iload_n hx hb dX12_isIn_0 rfl (lv_at hl 0 rfl) ?_
  refine lv_iload_n hx hb dX12_isIn_1 rfl (lv_at hl 1 rfl) ?_
  refine lv_icmp_lt (tgt := 14) hx hb dX12_isIn_2 (by decide) (fun c1 => ?_) (fun c1 => ?_)
  · have hf := ite_t c1 hf
    refine lv_iconst (v := (0 : Int32)) hx hb dX12_isIn_14 (by decide) ?_
    obtain rfl := some_r hf
    exact hK _ _ _ _ (Or.inl rfl) dX12_isIn_15 hw
  · have hf := ite_f c1 hf
    refine lv_iload_n hx hb dX12_isIn_5 rfl (lv_at hl 0 rfl) ?_
    refine lv_iload_n hx hb dX12_isIn_6 rfl (lv_at hl 2 rfl) ?_
    refine lv_icmp_gt (tgt := 14) hx hb dX12_isIn_7 (by decide) (fun c2 => ?_) (fun c2 => ?_)
    · have hf := ite_t c2 hf
      refine lv_iconst (v := (0 : Int32)) hx hb dX12_isIn_14 (by decide) ?_
      obtain rfl := some_r hf
      exact hK _ _ _ _ (Or.inl rfl) dX12_isIn_15 hw
    · have hf := ite_f c2 hf
      refine lv_iconst (v := (1 : Int32)) hx hb dX12_isIn_10 (by decide) ?_
      refine lv_goto (tgt := 15) hx hb dX12_isIn_11 (by decide) ?_
      obtain rfl := some_r hf
      exact hK _ _ _ _ (Or.inr rfl) dX12_isIn_15 hw

/-! RingPlacesModel.has(II)Z -/
abbrev wX12_has (dA : Nat → ClassId)   : va_W := []
def fX12_has  (x0_ : Int32) (x1_ : Int32) : Option (Int32) := (if ((x0_ >>> (x1_ &&& 31)) &&& (1 : Int32)) = (1 : Int32) then some (1 : Int32) else some (0 : Int32))
set_option maxHeartbeats 4000000 in
set_option maxRecDepth 100000 in
theorem qX12_has (l : Launch) (D : va_G) (dA : Nat → ClassId)   (x0_ : Int32) (x1_ : Int32) (o : Int32) (hf : fX12_has x0_ x1_ = some o) : Mi l D dA yX12_has (Cond.code yX12_has cX12_has 2 (some .boolean) :: wA) 0 0 [.int x0_, .int x1_] (wX12_has dA ) (wX12_has dA ) o := by
  intro sz
  refine M_of (cc := cX12_has) (nL := 2) (ret := (some .boolean)) (own := RX12) (by decide +kernel) rfl (Nat.le_of_ble_eq_true rfl) ?_
  intro p e s m below meth c ls hsz C hw hl
  subst hsz
  have hR : 0 ≤ (rmm 0 0).frames ∧ 0 ≤ (rmm 0 0).locals ∧ 0 ≤ (rmm 0 0).cells ∧ 0 ≤ (rmm 0 0).slots := ⟨Nat.le_refl _, Nat.le_refl _, Nat.le_refl _, Nat.le_refl _⟩
  have hl : lv_has ls 2 [(0, .int x0_), (1, .int x1_)] := hl
  have hx := C.1
  have hb := C.2.1
  have hml := C.2.2.1
  have hown := C.2.2.2.1
  have hts := C.2.2.2.2.1
  have hK : ∀ (H : Heap) (locs : List Loc) (pc : Nat) (ls : Array Slot), (o = 0 ∨ o = 1) → decode cX12_has pc = .ok (.ireturn, 1) → St D (wX12_has dA ) s (wX12_has dA ) H locs → W p l e (rmm 0 0) s m [.int x0_, .int x1_].toArray below meth c H locs 0 0 (MQ below (Qi D (wX12_has dA ) (wX12_has dA ) o s.heap.size) [.int x0_, .int x1_].toArray s 0 0 (va_A (wX12_has dA ) s.heap.size)) (F0 m pc ls [.int o]) := fun H locs pc ls hz hd hw => k_zret C hw hz hd
  unfold fX12_has at hf
  refine lv_iload_n hx hb dX12_has_0 rfl (lv_at hl 0 rfl) ?_
  refine lv_iload_n hx hb dX12_has_1 rfl (lv_at hl 1 rfl) ?_
  refine lv_ishr hx hb dX12_has_2 ?_
  refine lv_iconst (v := (1 : Int32)) hx hb dX12_has_3 (by decide) ?_
  refine lv_iand hx hb dX12_has_4 ?_
  refine lv_iconst (v := (1 : Int32)) hx hb dX12_has_5 (by decide) ?_
  refine lv_icmp_ne (tgt := 13) hx hb dX12_has_6 (by decide) (fun c1 => ?_) (fun c1 => ?_)
  · have hf := ite_f c1 hf
    refine lv_iconst (v := (0 : Int32)) hx hb dX12_has_13 (by decide) ?_
    obtain rfl := some_r hf
    exact hK _ _ _ _ (Or.inl rfl) dX12_has_14 hw
  · have hf := ite_t c1 hf
    refine lv_iconst (v := (1 : Int32)) hx hb dX12_has_9 (by decide) ?_
    refine lv_goto (tgt := 14) hx hb dX12_has_10 (by decide) ?_
    obtain rfl := some_r hf
    exact hK _ _ _ _ (Or.inr rfl) dX12_has_14 hw

/-! RingPlacesModel.bits(I)I -/
abbrev wX12_bits (dA : Nat → ClassId)   : va_W := []
def fX12_bits_l4b (N : Nat) (v1 : Int32) (v2 : Int32) : Option ((Int32 × Int32) ⊕ (Int32)) := (if v2 = 0 then some (.inr v1) else bnd (v1 + (1 : Int32)) fun x2 => bnd (v2 &&& (v2 - (1 : Int32))) fun x3 => some (.inl (x2, x3)))
def fX12_bits (N : Nat)  (x0_ : Int32) : Option (Int32) := (itr (fun z => fX12_bits_l4b N  z.1 z.2) N ((0 : Int32), x0_)).bind fun q4 => some q4
set_option maxHeartbeats 4000000 in
set_option maxRecDepth 100000 in
theorem tX12_bits_l4b {p : Program} {l : Launch} {e : Env} {R : Room} {s : State} {m : MethodId} {args : Array Value} {below : List Frame} {meth : Method} {c : Code} {D : va_G} {dA : Nat → ClassId} {w0 : va_W} {Q : State → Prop} {H : Heap} {locs : List Loc} {ls : Array Slot} {cells slots : Nat} (C : CX p s m args meth c cX12_bits 3 (some .int) RX12 D dA)  (hR : 0 ≤ R.frames ∧ 0 ≤ R.locals ∧ cells ≤ R.cells ∧ slots ≤ R.slots)   (v1 : Int32) (v2 : Int32) (N : Nat) (res : ((Int32 × Int32) ⊕ (Int32))) (hf : fX12_bits_l4b N v1 v2 = some res) (hK : Sum.elim (fun z => (∀ (H : Heap) (locs : List Loc) (ls : Array Slot), lv_has ls 3 [(1, .int z.1), (2, .int z.2)] → St D w0 s (wX12_bits dA ) H locs → W p l e R s m args below meth c H locs cells slots Q (F0 m 4 ls []))) (fun r => (∀ (H : Heap) (locs : List Loc) (ls : Array Slot), lv_has ls 3 [(1, .int r)] → St D w0 s (wX12_bits dA ) H locs → W p l e R s m args below meth c H locs cells slots Q (F0 m 20 ls []))) res) (hl : lv_has ls 3 [(1, .int v1), (2, .int v2)]) (hw : St D w0 s (wX12_bits dA ) H locs) : W p l e R s m args below meth c H locs cells slots Q (F0 m 4 ls []) := by
  have hx := C.1
  have hb := C.2.1
  have hml := C.2.2.1
  have hown := C.2.2.2.1
  have hts := C.2.2.2.2.1
  unfold fX12_bits_l4b at hf
  refine lv_iload_n hx hb dX12_bits_4 rfl (lv_at hl 1 rfl) ?_
  refine lv_if_eq (tgt := 20) hx hb dX12_bits_5 (by decide) (fun c1 => ?_) (fun c1 => ?_)
  · have hf := ite_t c1 hf
    obtain rfl := some_r hf
    exact hK _ _ _ (lv_sub hl [0] rfl) hw
  · have hf := ite_f c1 hf
    obtain ⟨x2, ex2⟩ : ∃ y : Int32, y = v1 + (1 : Int32) := ⟨_, rfl⟩
    have hf := bnd_r ex2 hf
    refine lv_iinc (v := x2) (lv' := [(1, .int x2), (2, .int v2)]) hx hb dX12_bits_8 hl (k := 0) rfl (by rw [ex2]; rfl) (by decide) rfl (fun ls hl => ?_)
    refine lv_iload_n hx hb dX12_bits_11 rfl (lv_at hl 1 rfl) ?_
    refine lv_iload_n hx hb dX12_bits_12 rfl (lv_at hl 1 rfl) ?_
    refine lv_iconst (v := (1 : Int32)) hx hb dX12_bits_13 (by decide) ?_
    refine lv_isub hx hb dX12_bits_14 ?_
    refine lv_iand hx hb dX12_bits_15 ?_
    refine lv_topi (fun x3 ex3 => ?_)
    have hf := bnd_r ex3 hf
    refine lv_istore_n (lv' := [(2, .int x3), (1, .int x2)]) hx hb dX12_bits_16 rfl hl (by decide) rfl (fun ls hl => ?_)
    refine lv_goto (tgt := 4) hx hb dX12_bits_17 (by decide) ?_
    obtain rfl := some_r hf
    exact hK _ _ _ (lv_sub hl [1, 0] rfl) hw
set_option maxHeartbeats 4000000 in
theorem tX12_bits_l4 {p : Program} {l : Launch} {e : Env} {R : Room} {s : State} {m : MethodId} {args : Array Value} {below : List Frame} {meth : Method} {c : Code} {D : va_G} {dA : Nat → ClassId} {w0 : va_W} {Q : State → Prop} {H : Heap} {locs : List Loc} {ls : Array Slot} {cells slots : Nat} (C : CX p s m args meth c cX12_bits 3 (some .int) RX12 D dA)  (hR : 0 ≤ R.frames ∧ 0 ≤ R.locals ∧ cells ≤ R.cells ∧ slots ≤ R.slots)   (v1 : Int32) (v2 : Int32) (N n : Nat) (res : (Int32)) (hf : itr (fun z => fX12_bits_l4b N  z.1 z.2) n (v1, v2) = some res) (hK : (∀ (H : Heap) (locs : List Loc) (ls : Array Slot), lv_has ls 3 [(1, .int res)] → St D w0 s (wX12_bits dA ) H locs → W p l e R s m args below meth c H locs cells slots Q (F0 m 20 ls []))) (hl : lv_has ls 3 [(1, .int v1), (2, .int v2)]) (hw : St D w0 s (wX12_bits dA ) H locs) : W p l e R s m args below meth c H locs cells slots Q (F0 m 4 ls []) :=
  itr_W (P := fun (z : (Int32 × Int32)) => (∀ (H : Heap) (locs : List Loc) (ls : Array Slot), lv_has ls 3 [(1, .int z.1), (2, .int z.2)] → St D w0 s (wX12_bits dA ) H locs → W p l e R s m args below meth c H locs cells slots Q (F0 m 4 ls []))) (K := fun res => (∀ (H : Heap) (locs : List Loc) (ls : Array Slot), lv_has ls 3 [(1, .int res)] → St D w0 s (wX12_bits dA ) H locs → W p l e R s m args below meth c H locs cells slots Q (F0 m 20 ls []))) (fun z r hf hK H locs ls hl hw => tX12_bits_l4b C  hR z.1 z.2 N r hf (by cases r with
    | inl r => exact hK
    | inr r => exact hK) hl hw) n _ res hf hK H locs ls hl hw
set_option maxHeartbeats 4000000 in
set_option maxRecDepth 100000 in
theorem qX12_bits (l : Launch) (D : va_G) (dA : Nat → ClassId)   (x0_ : Int32) (N : Nat) (o : Int32) (hf : fX12_bits N x0_ = some o) : Mi l D dA yX12_bits (Cond.code yX12_bits cX12_bits 3 (some .int) :: wA) 0 0 [.int x0_] (wX12_bits dA ) (wX12_bits dA ) o := by
  intro sz
  refine M_of (cc := cX12_bits) (nL := 3) (ret := (some .int)) (own := RX12) (by decide +kernel) rfl (Nat.le_of_ble_eq_true rfl) ?_
  intro p e s m below meth c ls hsz C hw hl
  subst hsz
  have hR : 0 ≤ (rmm 0 0).frames ∧ 0 ≤ (rmm 0 0).locals ∧ 0 ≤ (rmm 0 0).cells ∧ 0 ≤ (rmm 0 0).slots := ⟨Nat.le_refl _, Nat.le_refl _, Nat.le_refl _, Nat.le_refl _⟩
  have hl : lv_has ls 3 [(0, .int x0_)] := hl
  have hx := C.1
  have hb := C.2.1
  have hml := C.2.2.1
  have hown := C.2.2.2.1
  have hts := C.2.2.2.2.1
  have hK : ∀ (H : Heap) (locs : List Loc) (pc : Nat) (ls : Array Slot), decode cX12_bits pc = .ok (.ireturn, 1) → St D (wX12_bits dA ) s (wX12_bits dA ) H locs → W p l e (rmm 0 0) s m [.int x0_].toArray below meth c H locs 0 0 (MQ below (Qi D (wX12_bits dA ) (wX12_bits dA ) o s.heap.size) [.int x0_].toArray s 0 0 (va_A (wX12_bits dA ) s.heap.size)) (F0 m pc ls [.int o]) := fun H locs pc ls hd hw => k_iret C hw hd
  unfold fX12_bits at hf
  refine lv_iconst (v := (0 : Int32)) hx hb dX12_bits_0 (by decide) ?_
  refine lv_istore_n (lv' := [(1, .int (0 : Int32)), (0, .int x0_)]) hx hb dX12_bits_1 rfl hl (by decide) rfl (fun ls hl => ?_)
  refine lv_iload_n hx hb dX12_bits_2 rfl (lv_at hl 1 rfl) ?_
  refine lv_istore_n (lv' := [(2, .int x0_), (1, .int (0 : Int32)), (0, .int x0_)]) hx hb dX12_bits_3 rfl hl (by decide) rfl (fun ls hl => ?_)
  obtain ⟨q4, hq4, hf⟩ := bind_r hf
  refine tX12_bits_l4 C  hR (0 : Int32) x0_ N _ _ hq4 ?_ (lv_sub hl [1, 0] rfl) hw
  intro H locs ls hl hw
  refine lv_iload_n hx hb dX12_bits_20 rfl (lv_at hl 0 rfl) ?_
  obtain rfl := some_r hf
  exact hK _ _ _ _ dX12_bits_21 hw

/-! RingPlacesModel.byteAt(I)I -/
abbrev wX12_byteAt (dA : Nat → ClassId) (ht ht_tape ht_now ht_read ht_kept ht_ground ht_readGround ht_keptGround ht_name ht_isKept ht_louds ht_sharps ht_row ht_along ht_needs ht_best ht_order ht_shortRow ht_was ht_saved ht_next ht_fitted ht_beam ht_heardAhead ht_sharesMost ht_sharesMoved ht_nextMost ht_nextMoved : Nat) (t_thrown : Int32) (t_taped : Int32) (t_size : Int32) (t_to : Int32) (t_from : Int32) (t_kind : Int32) (t_number : Int32) (t_fault : Int32) (t_spot : Int32) (t_word : Int64) (t_told : Int32) (t_isBegun : Int32) (t_had : Int32) (t_rowMany : Int32) (t_least : Int32) (t_shortMany : Int32) (t_mostWorth : Int32) (t_fitMany : Int32) (t_narrowCost : Int32) (t_tape : (Nat → Int32)) : va_W := [(ht, .inr (12, [.int t_thrown, .ref ht_tape, .int t_taped, .int t_size, .int t_to, .int t_from, .int t_kind, .int t_number, .int t_fault, .int t_spot, .long t_word, .int t_told, .ref ht_now, .ref ht_read, .ref ht_kept, .ref ht_ground, .ref ht_readGround, .ref ht_keptGround, .ref ht_name, .ref ht_isKept, .int t_isBegun, .int t_had, .ref ht_louds, .ref ht_sharps, .ref ht_row, .ref ht_along, .ref ht_needs, .ref ht_best, .int t_rowMany, .ref ht_order, .ref ht_shortRow, .int t_least, .int t_shortMany, .ref ht_was, .ref ht_saved, .int t_mostWorth, .ref ht_next, .ref ht_fitted, .int t_fitMany, .int t_narrowCost, .ref ht_beam, .ref ht_heardAhead, .ref ht_sharesMost, .ref ht_sharesMoved, .ref ht_nextMost, .ref ht_nextMoved])), (ht_tape, .inl (dA 0, 1240, .inl t_tape))]
def fX12_byteAt (t_size : Int32) (t_tape : (Nat → Int32)) (x1_ : Int32) : Option (Int32) := (if t_size ≤ x1_ then some (0 : Int32) else gdi x1_ 1240 (some (t_tape x1_.toNatClampNeg)))
set_option maxHeartbeats 4000000 in
set_option maxRecDepth 100000 in
theorem qX12_byteAt (l : Launch) (D : va_G) (dA : Nat → ClassId) (ht ht_tape ht_now ht_read ht_kept ht_ground ht_readGround ht_keptGround ht_name ht_isKept ht_louds ht_sharps ht_row ht_along ht_needs ht_best ht_order ht_shortRow ht_was ht_saved ht_next ht_fitted ht_beam ht_heardAhead ht_sharesMost ht_sharesMoved ht_nextMost ht_nextMoved : Nat) (t_thrown : Int32) (t_taped : Int32) (t_size : Int32) (t_to : Int32) (t_from : Int32) (t_kind : Int32) (t_number : Int32) (t_fault : Int32) (t_spot : Int32) (t_word : Int64) (t_told : Int32) (t_isBegun : Int32) (t_had : Int32) (t_rowMany : Int32) (t_least : Int32) (t_shortMany : Int32) (t_mostWorth : Int32) (t_fitMany : Int32) (t_narrowCost : Int32) (t_tape : (Nat → Int32)) (x1_ : Int32) (o : Int32) (hf : fX12_byteAt t_size t_tape x1_ = some o) : Mi l D dA yX12_byteAt (Cond.code yX12_byteAt cX12_byteAt 2 (some .int) :: wA) 0 0 [.ref ht, .int x1_] (wX12_byteAt dA ht ht_tape ht_now ht_read ht_kept ht_ground ht_readGround ht_keptGround ht_name ht_isKept ht_louds ht_sharps ht_row ht_along ht_needs ht_best ht_order ht_shortRow ht_was ht_saved ht_next ht_fitted ht_beam ht_heardAhead ht_sharesMost ht_sharesMoved ht_nextMost ht_nextMoved t_thrown t_taped t_size t_to t_from t_kind t_number t_fault t_spot t_word t_told t_isBegun t_had t_rowMany t_least t_shortMany t_mostWorth t_fitMany t_narrowCost t_tape) (wX12_byteAt dA ht ht_tape ht_now ht_read ht_kept ht_ground ht_readGround ht_keptGround ht_name ht_isKept ht_louds ht_sharps ht_row ht_along ht_needs ht_best ht_order ht_shortRow ht_was ht_saved ht_next ht_fitted ht_beam ht_heardAhead ht_sharesMost ht_sharesMoved ht_nextMost ht_nextMoved t_thrown t_taped t_size t_to t_from t_kind t_number t_fault t_spot t_word t_told t_isBegun t_had t_rowMany t_least t_shortMany t_mostWorth t_fitMany t_narrowCost t_tape) o := by
  intro sz
  refine M_of (cc := cX12_byteAt) (nL := 2) (ret := (some .int)) (own := RX12) (by decide +kernel) rfl (Nat.le_of_ble_eq_true rfl) ?_
  intro p e s m below meth c ls hsz C hw hl
  subst hsz
  have hR : 0 ≤ (rmm 0 0).frames ∧ 0 ≤ (rmm 0 0).locals ∧ 0 ≤ (rmm 0 0).cells ∧ 0 ≤ (rmm 0 0).slots := ⟨Nat.le_refl _, Nat.le_refl _, Nat.le_refl _, Nat.le_refl _⟩
  have hl : lv_has ls 2 [(0, .ref ht), (1, .int x1_)] := hl
  have hx := C.1
  have hb := C.2.1
  have hml := C.2.2.1
  have hown := C.2.2.2.1
  have hts := C.2.2.2.2.1
  have hK : ∀ (H : Heap) (locs : List Loc) (pc : Nat) (ls : Array Slot), decode cX12_byteAt pc = .ok (.ireturn, 1) → St D (wX12_byteAt dA ht ht_tape ht_now ht_read ht_kept ht_ground ht_readGround ht_keptGround ht_name ht_isKept ht_louds ht_sharps ht_row ht_along ht_needs ht_best ht_order ht_shortRow ht_was ht_saved ht_next ht_fitted ht_beam ht_heardAhead ht_sharesMost ht_sharesMoved ht_nextMost ht_nextMoved t_thrown t_taped t_size t_to t_from t_kind t_number t_fault t_spot t_word t_told t_isBegun t_had t_rowMany t_least t_shortMany t_mostWorth t_fitMany t_narrowCost t_tape) s (wX12_byteAt dA ht ht_tape ht_now ht_read ht_kept ht_ground ht_readGround ht_keptGround ht_name ht_isKept ht_louds ht_sharps ht_row ht_along ht_needs ht_best ht_order ht_shortRow ht_was ht_saved ht_next ht_fitted ht_beam ht_heardAhead ht_sharesMost ht_sharesMoved ht_nextMost ht_nextMoved t_thrown t_taped t_size t_to t_from t_kind t_number t_fault t_spot t_word t_told t_isBegun t_had t_rowMany t_least t_shortMany t_mostWorth t_fitMany t_narrowCost t_tape) H locs → W p l e (rmm 0 0) s m [.ref ht, .int x1_].toArray below meth c H locs 0 0 (MQ below (Qi D (wX12_byteAt dA ht ht_tape ht_now ht_read ht_kept ht_ground ht_readGround ht_keptGround ht_name ht_isKept ht_louds ht_sharps ht_row ht_along ht_needs ht_best ht_order ht_shortRow ht_was ht_saved ht_next ht_fitted ht_beam ht_heardAhead ht_sharesMost ht_sharesMoved ht_nextMost ht_nextMoved t_thrown t_taped t_size t_to t_from t_kind t_number t_fault t_spot t_word t_told t_isBegun t_had t_rowMany t_least t_shortMany t_mostWorth t_fitMany t_narrowCost t_tape) (wX12_byteAt dA ht ht_tape ht_now ht_read ht_kept ht_ground ht_readGround ht_keptGround ht_name ht_isKept ht_louds ht_sharps ht_row ht_along ht_needs ht_best ht_order ht_shortRow ht_was ht_saved ht_next ht_fitted ht_beam ht_heardAhead ht_sharesMost ht_sharesMoved ht_nextMost ht_nextMoved t_thrown t_taped t_size t_to t_from t_kind t_number t_fault t_spot t_word t_told t_isBegun t_had t_rowMany t_least t_shortMany t_mostWorth t_fitMany t_narrowCost t_tape) o s.heap.size) [.ref ht, .int x1_].toArray s 0 0 (va_A (wX12_byteAt dA ht ht_tape ht_now ht_read ht_kept ht_ground ht_readGround ht_keptGround ht_name ht_isKept ht_louds ht_sharps ht_row ht_along ht_needs ht_best ht_order ht_shortRow ht_was ht_saved ht_next ht_fitted ht_beam ht_heardAhead ht_sharesMost ht_sharesMoved ht_nextMost ht_nextMoved t_thrown t_taped t_size t_to t_from t_kind t_number t_fault t_spot t_word t_told t_isBegun t_had t_rowMany t_least t_shortMany t_mostWorth t_fitMany t_narrowCost t_tape) s.heap.size)) (F0 m pc ls [.int o]) := fun H locs pc ls hd hw => k_iret C hw hd
  unfold fX12_byteAt at hf
  refine lv_iload_n hx hb dX12_byteAt_0 rfl (lv_at hl 1 rfl) ?_
  refine lv_aload_n hx hb dX12_byteAt_1 rfl (lv_at hl 0 rfl) ?_
  refine k_get C hw 0 rfl rfl wiX12 3 (by decide) wfX12_107 rfl dX12_byteAt_2 ?_
  refine lv_icmp_ge (tgt := 17) hx hb dX12_byteAt_5 (by decide) (fun c1 => ?_) (fun c1 => ?_)
  · have hf := ite_t c1 hf
    refine lv_iconst (v := (0 : Int32)) hx hb dX12_byteAt_17 (by decide) ?_
    obtain rfl := some_r hf
    exact hK _ _ _ _ dX12_byteAt_18 hw
  · have hf := ite_f c1 hf
    refine lv_aload_n hx hb dX12_byteAt_8 rfl (lv_at hl 0 rfl) ?_
    refine k_get C hw 0 rfl rfl wiX12 1 (by decide) wfX12_7 rfl dX12_byteAt_9 ?_
    refine lv_iload_n hx hb dX12_byteAt_12 rfl (lv_at hl 1 rfl) ?_
    obtain ⟨g2, hf⟩ := gdi_r hf
    refine k_iald C hw 1 rfl g2 dX12_byteAt_13 ?_
    refine lv_goto (tgt := 18) hx hb dX12_byteAt_14 (by decide) ?_
    obtain rfl := some_r hf
    exact hK _ _ _ _ dX12_byteAt_18 hw

/-! RingPlacesModel.isDigit(I)Z -/
abbrev wX12_isDigit (dA : Nat → ClassId)   : va_W := []
def fX12_isDigit  (x0_ : Int32) : Option (Int32) := (if x0_ < (48 : Int32) then some (0 : Int32) else (if (57 : Int32) < x0_ then some (0 : Int32) else some (1 : Int32)))
set_option maxHeartbeats 4000000 in
set_option maxRecDepth 100000 in
theorem qX12_isDigit (l : Launch) (D : va_G) (dA : Nat → ClassId)   (x0_ : Int32) (o : Int32) (hf : fX12_isDigit x0_ = some o) : Mi l D dA yX12_isDigit (Cond.code yX12_isDigit cX12_isDigit 1 (some .boolean) :: wA) 0 0 [.int x0_] (wX12_isDigit dA ) (wX12_isDigit dA ) o := by
  intro sz
  refine M_of (cc := cX12_isDigit) (nL := 1) (ret := (some .boolean)) (own := RX12) (by decide +kernel) rfl (Nat.le_of_ble_eq_true rfl) ?_
  intro p e s m below meth c ls hsz C hw hl
  subst hsz
  have hR : 0 ≤ (rmm 0 0).frames ∧ 0 ≤ (rmm 0 0).locals ∧ 0 ≤ (rmm 0 0).cells ∧ 0 ≤ (rmm 0 0).slots := ⟨Nat.le_refl _, Nat.le_refl _, Nat.le_refl _, Nat.le_refl _⟩
  have hl : lv_has ls 1 [(0, .int x0_)] := hl
  have hx := C.1
  have hb := C.2.1
  have hml := C.2.2.1
  have hown := C.2.2.2.1
  have hts := C.2.2.2.2.1
  have hK : ∀ (H : Heap) (locs : List Loc) (pc : Nat) (ls : Array Slot), (o = 0 ∨ o = 1) → decode cX12_isDigit pc = .ok (.ireturn, 1) → St D (wX12_isDigit dA ) s (wX12_isDigit dA ) H locs → W p l e (rmm 0 0) s m [.int x0_].toArray below meth c H locs 0 0 (MQ below (Qi D (wX12_isDigit dA ) (wX12_isDigit dA ) o s.heap.size) [.int x0_].toArray s 0 0 (va_A (wX12_isDigit dA ) s.heap.size)) (F0 m pc ls [.int o]) := fun H locs pc ls hz hd hw => k_zret C hw hz hd
  unfold fX12_isDigit at hf
  refine lv_iload_n hx hb dX12_isDigit_0 rfl (lv_at hl 0 rfl) ?_
  refine lv_bipush (v := (48 : Int32)) hx hb dX12_isDigit_1 (by decide) ?_
  refine lv_icmp_lt (tgt := 16) hx hb dX12_isDigit_3 (by decide) (fun c1 => ?_) (fun c1 => ?_)
  · have hf := ite_t c1 hf
    refine lv_iconst (v := (0 : Int32)) hx hb dX12_isDigit_16 (by decide) ?_
    obtain rfl := some_r hf
    exact hK _ _ _ _ (Or.inl rfl) dX12_isDigit_17 hw
  · have hf := ite_f c1 hf
    refine lv_iload_n hx hb dX12_isDigit_6 rfl (lv_at hl 0 rfl) ?_
    refine lv_bipush (v := (57 : Int32)) hx hb dX12_isDigit_7 (by decide) ?_
    refine lv_icmp_gt (tgt := 16) hx hb dX12_isDigit_9 (by decide) (fun c2 => ?_) (fun c2 => ?_)
    · have hf := ite_t c2 hf
      refine lv_iconst (v := (0 : Int32)) hx hb dX12_isDigit_16 (by decide) ?_
      obtain rfl := some_r hf
      exact hK _ _ _ _ (Or.inl rfl) dX12_isDigit_17 hw
    · have hf := ite_f c2 hf
      refine lv_iconst (v := (1 : Int32)) hx hb dX12_isDigit_12 (by decide) ?_
      refine lv_goto (tgt := 17) hx hb dX12_isDigit_13 (by decide) ?_
      obtain rfl := some_r hf
      exact hK _ _ _ _ (Or.inr rfl) dX12_isDigit_17 hw

/-! RingPlacesModel.isLetter(I)Z -/
abbrev wX12_isLetter (dA : Nat → ClassId)   : va_W := []
def fX12_isLetter  (x0_ : Int32) : Option (Int32) := (if x0_ < (97 : Int32) then some (0 : Int32) else (if (122 : Int32) < x0_ then some (0 : Int32) else some (1 : Int32)))
set_option maxHeartbeats 4000000 in
set_option maxRecDepth 100000 in
theorem qX12_isLetter (l : Launch) (D : va_G) (dA : Nat → ClassId)   (x0_ : Int32) (o : Int32) (hf : fX12_isLetter x0_ = some o) : Mi l D dA yX12_isLetter (Cond.code yX12_isLetter cX12_isLetter 1 (some .boolean) :: wA) 0 0 [.int x0_] (wX12_isLetter dA ) (wX12_isLetter dA ) o := by
  intro sz
  refine M_of (cc := cX12_isLetter) (nL := 1) (ret := (some .boolean)) (own := RX12) (by decide +kernel) rfl (Nat.le_of_ble_eq_true rfl) ?_
  intro p e s m below meth c ls hsz C hw hl
  subst hsz
  have hR : 0 ≤ (rmm 0 0).frames ∧ 0 ≤ (rmm 0 0).locals ∧ 0 ≤ (rmm 0 0).cells ∧ 0 ≤ (rmm 0 0).slots := ⟨Nat.le_refl _, Nat.le_refl _, Nat.le_refl _, Nat.le_refl _⟩
  have hl : lv_has ls 1 [(0, .int x0_)] := hl
  have hx := C.1
  have hb := C.2.1
  have hml := C.2.2.1
  have hown := C.2.2.2.1
  have hts := C.2.2.2.2.1
  have hK : ∀ (H : Heap) (locs : List Loc) (pc : Nat) (ls : Array Slot), (o = 0 ∨ o = 1) → decode cX12_isLetter pc = .ok (.ireturn, 1) → St D (wX12_isLetter dA ) s (wX12_isLetter dA ) H locs → W p l e (rmm 0 0) s m [.int x0_].toArray below meth c H locs 0 0 (MQ below (Qi D (wX12_isLetter dA ) (wX12_isLetter dA ) o s.heap.size) [.int x0_].toArray s 0 0 (va_A (wX12_isLetter dA ) s.heap.size)) (F0 m pc ls [.int o]) := fun H locs pc ls hz hd hw => k_zret C hw hz hd
  unfold fX12_isLetter at hf
  refine lv_iload_n hx hb dX12_isLetter_0 rfl (lv_at hl 0 rfl) ?_
  refine lv_bipush (v := (97 : Int32)) hx hb dX12_isLetter_1 (by decide) ?_
  refine lv_icmp_lt (tgt := 16) hx hb dX12_isLetter_3 (by decide) (fun c1 => ?_) (fun c1 => ?_)
  · have hf := ite_t c1 hf
    refine lv_iconst (v := (0 : Int32)) hx hb dX12_isLetter_16 (by decide) ?_
    obtain rfl := some_r hf
    exact hK _ _ _ _ (Or.inl rfl) dX12_isLetter_17 hw
  · have hf := ite_f c1 hf
    refine lv_iload_n hx hb dX12_isLetter_6 rfl (lv_at hl 0 rfl) ?_
    refine lv_bipush (v := (122 : Int32)) hx hb dX12_isLetter_7 (by decide) ?_
    refine lv_icmp_gt (tgt := 16) hx hb dX12_isLetter_9 (by decide) (fun c2 => ?_) (fun c2 => ?_)
    · have hf := ite_t c2 hf
      refine lv_iconst (v := (0 : Int32)) hx hb dX12_isLetter_16 (by decide) ?_
      obtain rfl := some_r hf
      exact hK _ _ _ _ (Or.inl rfl) dX12_isLetter_17 hw
    · have hf := ite_f c2 hf
      refine lv_iconst (v := (1 : Int32)) hx hb dX12_isLetter_12 (by decide) ?_
      refine lv_goto (tgt := 17) hx hb dX12_isLetter_13 (by decide) ?_
      obtain rfl := some_r hf
      exact hK _ _ _ _ (Or.inr rfl) dX12_isLetter_17 hw
