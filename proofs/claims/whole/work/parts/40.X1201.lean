/-! RingPlacesModel.go()V -/
abbrev wX12_go (dA : Nat → ClassId) (ht ht_tape ht_now ht_read ht_kept ht_ground ht_readGround ht_keptGround ht_name ht_isKept ht_louds ht_sharps ht_row ht_along ht_needs ht_best ht_order ht_shortRow ht_was ht_saved ht_next ht_fitted ht_beam ht_heardAhead ht_sharesMost ht_sharesMoved ht_nextMost ht_nextMoved : Nat) (t_thrown : Int32) (t_taped : Int32) (t_size : Int32) (t_to : Int32) (t_from : Int32) (t_kind : Int32) (t_number : Int32) (t_fault : Int32) (t_spot : Int32) (t_word : Int64) (t_told : Int32) (t_isBegun : Int32) (t_had : Int32) (t_rowMany : Int32) (t_least : Int32) (t_shortMany : Int32) (t_mostWorth : Int32) (t_fitMany : Int32) (t_narrowCost : Int32) (t_tape : (Nat → Int32)) : va_W := [(ht, .inr (12, [.int t_thrown, .ref ht_tape, .int t_taped, .int t_size, .int t_to, .int t_from, .int t_kind, .int t_number, .int t_fault, .int t_spot, .long t_word, .int t_told, .ref ht_now, .ref ht_read, .ref ht_kept, .ref ht_ground, .ref ht_readGround, .ref ht_keptGround, .ref ht_name, .ref ht_isKept, .int t_isBegun, .int t_had, .ref ht_louds, .ref ht_sharps, .ref ht_row, .ref ht_along, .ref ht_needs, .ref ht_best, .int t_rowMany, .ref ht_order, .ref ht_shortRow, .int t_least, .int t_shortMany, .ref ht_was, .ref ht_saved, .int t_mostWorth, .ref ht_next, .ref ht_fitted, .int t_fitMany, .int t_narrowCost, .ref ht_beam, .ref ht_heardAhead, .ref ht_sharesMost, .ref ht_sharesMoved, .ref ht_nextMost, .ref ht_nextMoved])), (ht_tape, .inl (dA 0, 1240, .inl t_tape))]
def fX12_go_l0b (N : Nat) (t_size : Int32) (t_from : Int32) (t_kind : Int32) (t_number : Int32) (t_word : Int64) (t_tape : (Nat → Int32)) (t_to : Int32) : Option ((Int32) ⊕ (Int32)) := (if t_size ≤ t_to then some (.inr t_to) else gdi t_to 1240 ((if (t_tape t_to.toNatClampNeg) = (32 : Int32) then bnd (t_to + (1 : Int32)) fun x4 => some (.inl x4) else gdi t_to 1240 ((if (t_tape t_to.toNatClampNeg) = (10 : Int32) then bnd (t_to + (1 : Int32)) fun x7 => some (.inl x7) else some (.inr t_to))))))
def fX12_go_j269 (N : Nat) (t_size : Int32) (t_to : Int32) (t_from : Int32) (t_kind : Int32) (t_number : Int32) (t_word : Int64) (t_tape : (Nat → Int32)) (v2 : Int32) (v3 : Int32) (v4 : Int32) : Option ((Int32 × Int32 × Int64 × Int32) ⊕ (Int32 × Int32 × Int64 × Int32)) := (if (4 : Int32) ≤ (t_to - t_from) then bnd (t_to + (1 : Int32)) fun x24 => some (.inl (x24, t_number, t_word, v3)) else bnd ((((10 : Int32) * t_number) + v4) - (48 : Int32)) fun x25 => bnd (t_to + (1 : Int32)) fun x26 => some (.inl (x26, x25, t_word, v3)))
def fX12_go_j234 (N : Nat) (t_size : Int32) (t_to : Int32) (t_from : Int32) (t_kind : Int32) (t_number : Int32) (t_word : Int64) (t_tape : (Nat → Int32)) (v2 : Int32) (v4 : Int32) (u0 : Int32) : Option ((Int32 × Int32 × Int64 × Int32) ⊕ (Int32 × Int32 × Int64 × Int32)) := (if (6 : Int32) ≤ (t_to - t_from) then fX12_go_j269 N t_size t_to t_from t_kind t_number t_word t_tape v2 u0 v4 else bnd ((((27 : Int64) * t_word) + (v4.toInt64)) - (96 : Int64)) fun x27 => fX12_go_j269 N t_size t_to t_from t_kind t_number x27 t_tape v2 u0 v4)
def fX12_go_j233 (N : Nat) (t_size : Int32) (t_to : Int32) (t_from : Int32) (t_kind : Int32) (t_number : Int32) (t_word : Int64) (t_tape : (Nat → Int32)) (v2 : Int32) (v4 : Int32) : Option ((Int32 × Int32 × Int64 × Int32) ⊕ (Int32 × Int32 × Int64 × Int32)) := fX12_go_j234 N t_size t_to t_from t_kind t_number t_word t_tape v2 v4 (0 : Int32)
def fX12_go_j205 (N : Nat) (t_size : Int32) (t_to : Int32) (t_from : Int32) (t_kind : Int32) (t_number : Int32) (t_word : Int64) (t_tape : (Nat → Int32)) (v2 : Int32) (v3 : Int32) : Option ((Int32 × Int32 × Int64 × Int32) ⊕ (Int32 × Int32 × Int64 × Int32)) := gdi t_to 1240 (bnd (t_tape t_to.toNatClampNeg) fun x20 => (if v3 = 0 then fX12_go_j233 N t_size t_to t_from t_kind t_number t_word t_tape v2 x20 else (fX12_isLetter  x20).bind fun o28 => (if o28 = v2 then fX12_go_j234 N t_size t_to t_from t_kind t_number t_word t_tape v2 x20 (1 : Int32) else fX12_go_j233 N t_size t_to t_from t_kind t_number t_word t_tape v2 x20)))
def fX12_go_l177b (N : Nat) (t_size : Int32) (t_from : Int32) (t_kind : Int32) (t_tape : (Nat → Int32)) (v2 : Int32) (t_to : Int32) (t_number : Int32) (t_word : Int64) (v3 : Int32) : Option ((Int32 × Int32 × Int64 × Int32) ⊕ (Int32 × Int32 × Int64 × Int32)) := (fX12_byteAt t_size t_tape t_to).bind fun o16 => (fX12_isLetter  o16).bind fun o17 => (if o17 = 0 then (fX12_byteAt t_size t_tape t_to).bind fun o30 => (fX12_isDigit  o30).bind fun o31 => (if o31 = 0 then some (.inr (t_to, t_number, t_word, v3)) else fX12_go_j205 N t_size t_to t_from t_kind t_number t_word t_tape v2 v3) else fX12_go_j205 N t_size t_to t_from t_kind t_number t_word t_tape v2 v3)
def fX12_go_j336 (N : Nat) (t_size : Int32) (t_to : Int32) (t_from : Int32) (t_kind : Int32) (t_number : Int32) (t_word : Int64) (t_tape : (Nat → Int32)) (v2 : Int32) (u1 : Int32) (u2 : Int32) : Option (Int32 × Int32 × Int32 × Int32 × Int64) := (if u1 ≤ u2 then (if v2 = 0 then some (t_to, t_from, (3 : Int32), t_number, t_word) else some (t_to, t_from, (2 : Int32), t_number, t_word)) else some (t_to, t_from, (1 : Int32), t_number, t_word))
def fX12_go_j160 (N : Nat) (t_size : Int32) (t_to : Int32) (t_from : Int32) (t_kind : Int32) (t_number : Int32) (t_word : Int64) (t_tape : (Nat → Int32)) (v1 : Int32) : Option (Int32 × Int32 × Int32 × Int32 × Int64) := (fX12_isLetter  v1).bind fun o15 => (itr (fun z => fX12_go_l177b N t_size t_from t_kind t_tape o15 z.1 z.2.1 z.2.2.1 z.2.2.2) N (t_to, (0 : Int32), (0 : Int64), (1 : Int32))).bind fun q33 => (if q33.2.2.2 = 0 then some (q33.1, t_from, (1 : Int32), q33.2.1, q33.2.2.1) else (if o15 = 0 then fX12_go_j336 N t_size q33.1 t_from t_kind q33.2.1 q33.2.2.1 t_tape o15 (q33.1 - t_from) (4 : Int32) else fX12_go_j336 N t_size q33.1 t_from t_kind q33.2.1 q33.2.2.1 t_tape o15 (q33.1 - t_from) (6 : Int32)))
def fX12_go_j146 (N : Nat) (t_size : Int32) (t_to : Int32) (t_from : Int32) (t_kind : Int32) (t_number : Int32) (t_word : Int64) (t_tape : (Nat → Int32)) (u1 : Int32) : Option (Int32 × Int32 × Int32 × Int32 × Int64) := bnd (t_to + (1 : Int32)) fun x41 => some (x41, t_from, u1, t_number, t_word)
def fX12_go_j93 (N : Nat) (t_size : Int32) (t_to : Int32) (t_from : Int32) (t_kind : Int32) (t_number : Int32) (t_word : Int64) (t_tape : (Nat → Int32))  : Option (Int32 × Int32 × Int32 × Int32 × Int64) := (if t_to < t_size then gdi t_to 1240 (bnd (t_tape t_to.toNatClampNeg) fun x12 => (fX12_isLetter  x12).bind fun o13 => (if o13 = 0 then (fX12_isDigit  x12).bind fun o38 => (if o38 = 0 then (if x12 = (59 : Int32) then fX12_go_j146 N t_size t_to t_from t_kind t_number t_word t_tape (4 : Int32) else fX12_go_j146 N t_size t_to t_from t_kind t_number t_word t_tape (1 : Int32)) else fX12_go_j160 N t_size t_to t_from t_kind t_number t_word t_tape x12) else fX12_go_j160 N t_size t_to t_from t_kind t_number t_word t_tape x12)) else some (t_to, t_from, (0 : Int32), t_number, t_word))
def fX12_go (N : Nat) (t_size : Int32) (t_to : Int32) (t_from : Int32) (t_kind : Int32) (t_number : Int32) (t_word : Int64) (t_tape : (Nat → Int32))  : Option (Int32 × Int32 × Int32 × Int32 × Int64) := (itr (fun z => fX12_go_l0b N t_size t_from t_kind t_number t_word t_tape z) N t_to).bind fun q8 => (if t_size ≤ (1200 : Int32) then fX12_go_j93 N t_size q8 q8 t_kind t_number t_word t_tape else (if q8 < (1200 : Int32) then fX12_go_j93 N t_size q8 q8 t_kind t_number t_word t_tape else some (q8, (1200 : Int32), (1 : Int32), t_number, t_word)))
set_option maxHeartbeats 4000000 in
set_option maxRecDepth 100000 in
theorem tX12_go_l0b {p : Program} {l : Launch} {e : Env} {R : Room} {s : State} {m : MethodId} {args : Array Value} {below : List Frame} {meth : Method} {c : Code} {D : va_G} {dA : Nat → ClassId} {w0 : va_W} {Q : State → Prop} {H : Heap} {locs : List Loc} {ls : Array Slot} {cells slots : Nat} (C : CX p s m args meth c cX12_go 5 none RX12 D dA) (ht ht_tape ht_now ht_read ht_kept ht_ground ht_readGround ht_keptGround ht_name ht_isKept ht_louds ht_sharps ht_row ht_along ht_needs ht_best ht_order ht_shortRow ht_was ht_saved ht_next ht_fitted ht_beam ht_heardAhead ht_sharesMost ht_sharesMoved ht_nextMost ht_nextMoved : Nat) (hR : 1 ≤ R.frames ∧ 21 ≤ R.locals ∧ cells ≤ R.cells ∧ slots ≤ R.slots)  (t_thrown : Int32) (t_taped : Int32) (t_size : Int32) (t_to : Int32) (t_from : Int32) (t_kind : Int32) (t_number : Int32) (t_fault : Int32) (t_spot : Int32) (t_word : Int64) (t_told : Int32) (t_isBegun : Int32) (t_had : Int32) (t_rowMany : Int32) (t_least : Int32) (t_shortMany : Int32) (t_mostWorth : Int32) (t_fitMany : Int32) (t_narrowCost : Int32) (t_tape : (Nat → Int32))  (N : Nat) (res : ((Int32) ⊕ (Int32))) (hf : fX12_go_l0b N t_size t_from t_kind t_number t_word t_tape t_to = some res) (hK : Sum.elim (fun z => (∀ (H : Heap) (locs : List Loc) (ls : Array Slot), lv_has ls 5 [(0, .ref ht)] → St D w0 s (wX12_go dA ht ht_tape ht_now ht_read ht_kept ht_ground ht_readGround ht_keptGround ht_name ht_isKept ht_louds ht_sharps ht_row ht_along ht_needs ht_best ht_order ht_shortRow ht_was ht_saved ht_next ht_fitted ht_beam ht_heardAhead ht_sharesMost ht_sharesMoved ht_nextMost ht_nextMoved t_thrown t_taped t_size z t_from t_kind t_number t_fault t_spot t_word t_told t_isBegun t_had t_rowMany t_least t_shortMany t_mostWorth t_fitMany t_narrowCost t_tape) H locs → W p l e R s m args below meth c H locs cells slots Q (F0 m 0 ls []))) (fun r => (∀ (H : Heap) (locs : List Loc) (ls : Array Slot), lv_has ls 5 [(0, .ref ht)] → St D w0 s (wX12_go dA ht ht_tape ht_now ht_read ht_kept ht_ground ht_readGround ht_keptGround ht_name ht_isKept ht_louds ht_sharps ht_row ht_along ht_needs ht_best ht_order ht_shortRow ht_was ht_saved ht_next ht_fitted ht_beam ht_heardAhead ht_sharesMost ht_sharesMoved ht_nextMost ht_nextMoved t_thrown t_taped t_size r t_from t_kind t_number t_fault t_spot t_word t_told t_isBegun t_had t_rowMany t_least t_shortMany t_mostWorth t_fitMany t_narrowCost t_tape) H locs → W p l e R s m args below meth c H locs cells slots Q (F0 m 52 ls []))) res) (hl : lv_has ls 5 [(0, .ref ht)]) (hw : St D w0 s (wX12_go dA ht ht_tape ht_now ht_read ht_kept ht_ground ht_readGround ht_keptGround ht_name ht_isKept ht_louds ht_sharps ht_row ht_along ht_needs ht_best ht_order ht_shortRow ht_was ht_saved ht_next ht_fitted ht_beam ht_heardAhead ht_sharesMost ht_sharesMoved ht_nextMost ht_nextMoved t_thrown t_taped t_size t_to t_from t_kind t_number t_fault t_spot t_word t_told t_isBegun t_had t_rowMany t_least t_shortMany t_mostWorth t_fitMany t_narrowCost t_tape) H locs) : W p l e R s m args below meth c H locs cells slots Q (F0 m 0 ls []) := by
  have hx := C.1
  have hb := C.2.1
  have hml := C.2.2.1
  have hown := C.2.2.2.1
  have hts := C.2.2.2.2.1
  unfold fX12_go_l0b at hf
  refine lv_aload_n hx hb dX12_go_0 rfl (lv_at hl 0 rfl) ?_
  refine k_get C hw 0 rfl rfl wiX12 4 (by decide) wfX12_110 rfl dX12_go_1 ?_
  refine lv_aload_n hx hb dX12_go_4 rfl (lv_at hl 0 rfl) ?_
  refine k_get C hw 0 rfl rfl wiX12 3 (by decide) wfX12_107 rfl dX12_go_5 ?_
  refine lv_icmp_ge (tgt := 52) hx hb dX12_go_8 (by decide) (fun c1 => ?_) (fun c1 => ?_)
  · have hf := ite_t c1 hf
    obtain rfl := some_r hf
    exact hK _ _ _ (lv_sub hl [0] rfl) hw
  · have hf := ite_f c1 hf
    refine lv_aload_n hx hb dX12_go_11 rfl (lv_at hl 0 rfl) ?_
    refine k_get C hw 0 rfl rfl wiX12 1 (by decide) wfX12_7 rfl dX12_go_12 ?_
    refine lv_aload_n hx hb dX12_go_15 rfl (lv_at hl 0 rfl) ?_
    refine k_get C hw 0 rfl rfl wiX12 4 (by decide) wfX12_110 rfl dX12_go_16 ?_
    obtain ⟨g2, hf⟩ := gdi_r hf
    refine k_iald C hw 1 rfl g2 dX12_go_19 ?_
    refine lv_bipush (v := (32 : Int32)) hx hb dX12_go_20 (by decide) ?_
    refine lv_icmp_eq (tgt := 39) hx hb dX12_go_22 (by decide) (fun c3 => ?_) (fun c3 => ?_)
    · have hf := ite_t c3 hf
      refine lv_aload_n hx hb dX12_go_39 rfl (lv_at hl 0 rfl) ?_
      refine lv_dup hx hb dX12_go_40 rfl ?_
      refine k_get C hw 0 rfl rfl wiX12 4 (by decide) wfX12_110 rfl dX12_go_41 ?_
      refine lv_iconst (v := (1 : Int32)) hx hb dX12_go_44 (by decide) ?_
      refine lv_iadd hx hb dX12_go_45 ?_
      refine lv_topi (fun x4 ex4 => ?_)
      have hf := bnd_r ex4 hf
      refine k_put C hw 0 rfl rfl wiX12 tyX12 tyX12_ok nmX12 4 (by decide) wfX12_110 rfl rfl rfl (Nat.le_of_ble_eq_true rfl) dX12_go_46 (wX12_go dA ht ht_tape ht_now ht_read ht_kept ht_ground ht_readGround ht_keptGround ht_name ht_isKept ht_louds ht_sharps ht_row ht_along ht_needs ht_best ht_order ht_shortRow ht_was ht_saved ht_next ht_fitted ht_beam ht_heardAhead ht_sharesMost ht_sharesMoved ht_nextMost ht_nextMoved t_thrown t_taped t_size x4 t_from t_kind t_number t_fault t_spot t_word t_told t_isBegun t_had t_rowMany t_least t_shortMany t_mostWorth t_fitMany t_narrowCost t_tape) rfl (fun H locs hw => ?_)
      refine lv_goto (tgt := 0) hx hb dX12_go_49 (by decide) ?_
      obtain rfl := some_r hf
      exact hK _ _ _ (lv_sub hl [0] rfl) hw
    · have hf := ite_f c3 hf
      refine lv_aload_n hx hb dX12_go_25 rfl (lv_at hl 0 rfl) ?_
      refine k_get C hw 0 rfl rfl wiX12 1 (by decide) wfX12_7 rfl dX12_go_26 ?_
      refine lv_aload_n hx hb dX12_go_29 rfl (lv_at hl 0 rfl) ?_
      refine k_get C hw 0 rfl rfl wiX12 4 (by decide) wfX12_110 rfl dX12_go_30 ?_
      obtain ⟨g5, hf⟩ := gdi_r hf
      refine k_iald C hw 1 rfl g5 dX12_go_33 ?_
      refine lv_bipush (v := (10 : Int32)) hx hb dX12_go_34 (by decide) ?_
      refine lv_icmp_ne (tgt := 52) hx hb dX12_go_36 (by decide) (fun c6 => ?_) (fun c6 => ?_)
      · have hf := ite_f c6 hf
        obtain rfl := some_r hf
        exact hK _ _ _ (lv_sub hl [0] rfl) hw
      · have hf := ite_t c6 hf
        refine lv_aload_n hx hb dX12_go_39 rfl (lv_at hl 0 rfl) ?_
        refine lv_dup hx hb dX12_go_40 rfl ?_
        refine k_get C hw 0 rfl rfl wiX12 4 (by decide) wfX12_110 rfl dX12_go_41 ?_
        refine lv_iconst (v := (1 : Int32)) hx hb dX12_go_44 (by decide) ?_
        refine lv_iadd hx hb dX12_go_45 ?_
        refine lv_topi (fun x7 ex7 => ?_)
        have hf := bnd_r ex7 hf
        refine k_put C hw 0 rfl rfl wiX12 tyX12 tyX12_ok nmX12 4 (by decide) wfX12_110 rfl rfl rfl (Nat.le_of_ble_eq_true rfl) dX12_go_46 (wX12_go dA ht ht_tape ht_now ht_read ht_kept ht_ground ht_readGround ht_keptGround ht_name ht_isKept ht_louds ht_sharps ht_row ht_along ht_needs ht_best ht_order ht_shortRow ht_was ht_saved ht_next ht_fitted ht_beam ht_heardAhead ht_sharesMost ht_sharesMoved ht_nextMost ht_nextMoved t_thrown t_taped t_size x7 t_from t_kind t_number t_fault t_spot t_word t_told t_isBegun t_had t_rowMany t_least t_shortMany t_mostWorth t_fitMany t_narrowCost t_tape) rfl (fun H locs hw => ?_)
        refine lv_goto (tgt := 0) hx hb dX12_go_49 (by decide) ?_
        obtain rfl := some_r hf
        exact hK _ _ _ (lv_sub hl [0] rfl) hw
set_option maxHeartbeats 4000000 in
theorem tX12_go_l0 {p : Program} {l : Launch} {e : Env} {R : Room} {s : State} {m : MethodId} {args : Array Value} {below : List Frame} {meth : Method} {c : Code} {D : va_G} {dA : Nat → ClassId} {w0 : va_W} {Q : State → Prop} {H : Heap} {locs : List Loc} {ls : Array Slot} {cells slots : Nat} (C : CX p s m args meth c cX12_go 5 none RX12 D dA) (ht ht_tape ht_now ht_read ht_kept ht_ground ht_readGround ht_keptGround ht_name ht_isKept ht_louds ht_sharps ht_row ht_along ht_needs ht_best ht_order ht_shortRow ht_was ht_saved ht_next ht_fitted ht_beam ht_heardAhead ht_sharesMost ht_sharesMoved ht_nextMost ht_nextMoved : Nat) (hR : 1 ≤ R.frames ∧ 21 ≤ R.locals ∧ cells ≤ R.cells ∧ slots ≤ R.slots)  (t_thrown : Int32) (t_taped : Int32) (t_size : Int32) (t_to : Int32) (t_from : Int32) (t_kind : Int32) (t_number : Int32) (t_fault : Int32) (t_spot : Int32) (t_word : Int64) (t_told : Int32) (t_isBegun : Int32) (t_had : Int32) (t_rowMany : Int32) (t_least : Int32) (t_shortMany : Int32) (t_mostWorth : Int32) (t_fitMany : Int32) (t_narrowCost : Int32) (t_tape : (Nat → Int32))  (N n : Nat) (res : (Int32)) (hf : itr (fun z => fX12_go_l0b N t_size t_from t_kind t_number t_word t_tape z) n t_to = some res) (hK : (∀ (H : Heap) (locs : List Loc) (ls : Array Slot), lv_has ls 5 [(0, .ref ht)] → St D w0 s (wX12_go dA ht ht_tape ht_now ht_read ht_kept ht_ground ht_readGround ht_keptGround ht_name ht_isKept ht_louds ht_sharps ht_row ht_along ht_needs ht_best ht_order ht_shortRow ht_was ht_saved ht_next ht_fitted ht_beam ht_heardAhead ht_sharesMost ht_sharesMoved ht_nextMost ht_nextMoved t_thrown t_taped t_size res t_from t_kind t_number t_fault t_spot t_word t_told t_isBegun t_had t_rowMany t_least t_shortMany t_mostWorth t_fitMany t_narrowCost t_tape) H locs → W p l e R s m args below meth c H locs cells slots Q (F0 m 52 ls []))) (hl : lv_has ls 5 [(0, .ref ht)]) (hw : St D w0 s (wX12_go dA ht ht_tape ht_now ht_read ht_kept ht_ground ht_readGround ht_keptGround ht_name ht_isKept ht_louds ht_sharps ht_row ht_along ht_needs ht_best ht_order ht_shortRow ht_was ht_saved ht_next ht_fitted ht_beam ht_heardAhead ht_sharesMost ht_sharesMoved ht_nextMost ht_nextMoved t_thrown t_taped t_size t_to t_from t_kind t_number t_fault t_spot t_word t_told t_isBegun t_had t_rowMany t_least t_shortMany t_mostWorth t_fitMany t_narrowCost t_tape) H locs) : W p l e R s m args below meth c H locs cells slots Q (F0 m 0 ls []) :=
  itr_W (P := fun (z : (Int32)) => (∀ (H : Heap) (locs : List Loc) (ls : Array Slot), lv_has ls 5 [(0, .ref ht)] → St D w0 s (wX12_go dA ht ht_tape ht_now ht_read ht_kept ht_ground ht_readGround ht_keptGround ht_name ht_isKept ht_louds ht_sharps ht_row ht_along ht_needs ht_best ht_order ht_shortRow ht_was ht_saved ht_next ht_fitted ht_beam ht_heardAhead ht_sharesMost ht_sharesMoved ht_nextMost ht_nextMoved t_thrown t_taped t_size z t_from t_kind t_number t_fault t_spot t_word t_told t_isBegun t_had t_rowMany t_least t_shortMany t_mostWorth t_fitMany t_narrowCost t_tape) H locs → W p l e R s m args below meth c H locs cells slots Q (F0 m 0 ls []))) (K := fun res => (∀ (H : Heap) (locs : List Loc) (ls : Array Slot), lv_has ls 5 [(0, .ref ht)] → St D w0 s (wX12_go dA ht ht_tape ht_now ht_read ht_kept ht_ground ht_readGround ht_keptGround ht_name ht_isKept ht_louds ht_sharps ht_row ht_along ht_needs ht_best ht_order ht_shortRow ht_was ht_saved ht_next ht_fitted ht_beam ht_heardAhead ht_sharesMost ht_sharesMoved ht_nextMost ht_nextMoved t_thrown t_taped t_size res t_from t_kind t_number t_fault t_spot t_word t_told t_isBegun t_had t_rowMany t_least t_shortMany t_mostWorth t_fitMany t_narrowCost t_tape) H locs → W p l e R s m args below meth c H locs cells slots Q (F0 m 52 ls []))) (fun z r hf hK H locs ls hl hw => tX12_go_l0b C ht ht_tape ht_now ht_read ht_kept ht_ground ht_readGround ht_keptGround ht_name ht_isKept ht_louds ht_sharps ht_row ht_along ht_needs ht_best ht_order ht_shortRow ht_was ht_saved ht_next ht_fitted ht_beam ht_heardAhead ht_sharesMost ht_sharesMoved ht_nextMost ht_nextMoved hR t_thrown t_taped t_size z t_from t_kind t_number t_fault t_spot t_word t_told t_isBegun t_had t_rowMany t_least t_shortMany t_mostWorth t_fitMany t_narrowCost t_tape N r hf (by cases r with
    | inl r => exact hK
    | inr r => exact hK) hl hw) n _ res hf hK H locs ls hl hw
set_option maxHeartbeats 4000000 in
set_option maxRecDepth 100000 in
theorem tX12_go_j269 {p : Program} {l : Launch} {e : Env} {R : Room} {s : State} {m : MethodId} {args : Array Value} {below : List Frame} {meth : Method} {c : Code} {D : va_G} {dA : Nat → ClassId} {w0 : va_W} {Q : State → Prop} {H : Heap} {locs : List Loc} {ls : Array Slot} {cells slots : Nat} (C : CX p s m args meth c cX12_go 5 none RX12 D dA) (ht ht_tape ht_now ht_read ht_kept ht_ground ht_readGround ht_keptGround ht_name ht_isKept ht_louds ht_sharps ht_row ht_along ht_needs ht_best ht_order ht_shortRow ht_was ht_saved ht_next ht_fitted ht_beam ht_heardAhead ht_sharesMost ht_sharesMoved ht_nextMost ht_nextMoved : Nat) (hR : 1 ≤ R.frames ∧ 21 ≤ R.locals ∧ cells ≤ R.cells ∧ slots ≤ R.slots)  (t_thrown : Int32) (t_taped : Int32) (t_size : Int32) (t_to : Int32) (t_from : Int32) (t_kind : Int32) (t_number : Int32) (t_fault : Int32) (t_spot : Int32) (t_word : Int64) (t_told : Int32) (t_isBegun : Int32) (t_had : Int32) (t_rowMany : Int32) (t_least : Int32) (t_shortMany : Int32) (t_mostWorth : Int32) (t_fitMany : Int32) (t_narrowCost : Int32) (t_tape : (Nat → Int32)) (v2 : Int32) (v3 : Int32) (v4 : Int32) (N : Nat) (res : ((Int32 × Int32 × Int64 × Int32) ⊕ (Int32 × Int32 × Int64 × Int32))) (hf : fX12_go_j269 N t_size t_to t_from t_kind t_number t_word t_tape v2 v3 v4 = some res) (hK : Sum.elim (fun z => (∀ (H : Heap) (locs : List Loc) (ls : Array Slot), lv_has ls 5 [(0, .ref ht), (2, .int v2), (3, .int z.2.2.2)] → St D w0 s (wX12_go dA ht ht_tape ht_now ht_read ht_kept ht_ground ht_readGround ht_keptGround ht_name ht_isKept ht_louds ht_sharps ht_row ht_along ht_needs ht_best ht_order ht_shortRow ht_was ht_saved ht_next ht_fitted ht_beam ht_heardAhead ht_sharesMost ht_sharesMoved ht_nextMost ht_nextMoved t_thrown t_taped t_size z.1 t_from t_kind z.2.1 t_fault t_spot z.2.2.1 t_told t_isBegun t_had t_rowMany t_least t_shortMany t_mostWorth t_fitMany t_narrowCost t_tape) H locs → W p l e R s m args below meth c H locs cells slots Q (F0 m 177 ls []))) (fun r => (∀ (H : Heap) (locs : List Loc) (ls : Array Slot), lv_has ls 5 [(0, .ref ht), (2, .int v2), (3, .int r.2.2.2)] → St D w0 s (wX12_go dA ht ht_tape ht_now ht_read ht_kept ht_ground ht_readGround ht_keptGround ht_name ht_isKept ht_louds ht_sharps ht_row ht_along ht_needs ht_best ht_order ht_shortRow ht_was ht_saved ht_next ht_fitted ht_beam ht_heardAhead ht_sharesMost ht_sharesMoved ht_nextMost ht_nextMoved t_thrown t_taped t_size r.1 t_from t_kind r.2.1 t_fault t_spot r.2.2.1 t_told t_isBegun t_had t_rowMany t_least t_shortMany t_mostWorth t_fitMany t_narrowCost t_tape) H locs → W p l e R s m args below meth c H locs cells slots Q (F0 m 312 ls []))) res) (hl : lv_has ls 5 [(0, .ref ht), (2, .int v2), (3, .int v3), (4, .int v4)]) (hw : St D w0 s (wX12_go dA ht ht_tape ht_now ht_read ht_kept ht_ground ht_readGround ht_keptGround ht_name ht_isKept ht_louds ht_sharps ht_row ht_along ht_needs ht_best ht_order ht_shortRow ht_was ht_saved ht_next ht_fitted ht_beam ht_heardAhead ht_sharesMost ht_sharesMoved ht_nextMost ht_nextMoved t_thrown t_taped t_size t_to t_from t_kind t_number t_fault t_spot t_word t_told t_isBegun t_had t_rowMany t_least t_shortMany t_mostWorth t_fitMany t_narrowCost t_tape) H locs) : W p l e R s m args below meth c H locs cells slots Q (F0 m 269 ls []) := by
  have hx := C.1
  have hb := C.2.1
  have hml := C.2.2.1
  have hown := C.2.2.2.1
  have hts := C.2.2.2.2.1
  unfold fX12_go_j269 at hf
  refine lv_aload_n hx hb dX12_go_269 rfl (lv_at hl 0 rfl) ?_
  refine k_get C hw 0 rfl rfl wiX12 4 (by decide) wfX12_110 rfl dX12_go_270 ?_
  refine lv_aload_n hx hb dX12_go_273 rfl (lv_at hl 0 rfl) ?_
  refine k_get C hw 0 rfl rfl wiX12 5 (by decide) wfX12_113 rfl dX12_go_274 ?_
  refine lv_isub hx hb dX12_go_277 ?_
  refine lv_iconst (v := (4 : Int32)) hx hb dX12_go_278 (by decide) ?_
  refine lv_icmp_ge (tgt := 299) hx hb dX12_go_279 (by decide) (fun c23 => ?_) (fun c23 => ?_)
  · have hf := ite_t c23 hf
    refine lv_aload_n hx hb dX12_go_299 rfl (lv_at hl 0 rfl) ?_
    refine lv_dup hx hb dX12_go_300 rfl ?_
    refine k_get C hw 0 rfl rfl wiX12 4 (by decide) wfX12_110 rfl dX12_go_301 ?_
    refine lv_iconst (v := (1 : Int32)) hx hb dX12_go_304 (by decide) ?_
    refine lv_iadd hx hb dX12_go_305 ?_
    refine lv_topi (fun x24 ex24 => ?_)
    have hf := bnd_r ex24 hf
    refine k_put C hw 0 rfl rfl wiX12 tyX12 tyX12_ok nmX12 4 (by decide) wfX12_110 rfl rfl rfl (Nat.le_of_ble_eq_true rfl) dX12_go_306 (wX12_go dA ht ht_tape ht_now ht_read ht_kept ht_ground ht_readGround ht_keptGround ht_name ht_isKept ht_louds ht_sharps ht_row ht_along ht_needs ht_best ht_order ht_shortRow ht_was ht_saved ht_next ht_fitted ht_beam ht_heardAhead ht_sharesMost ht_sharesMoved ht_nextMost ht_nextMoved t_thrown t_taped t_size x24 t_from t_kind t_number t_fault t_spot t_word t_told t_isBegun t_had t_rowMany t_least t_shortMany t_mostWorth t_fitMany t_narrowCost t_tape) rfl (fun H locs hw => ?_)
    refine lv_goto (tgt := 177) hx hb dX12_go_309 (by decide) ?_
    obtain rfl := some_r hf
    exact hK _ _ _ (lv_sub hl [0, 1, 2] rfl) hw
  · have hf := ite_f c23 hf
    refine lv_aload_n hx hb dX12_go_282 rfl (lv_at hl 0 rfl) ?_
    refine lv_bipush (v := (10 : Int32)) hx hb dX12_go_283 (by decide) ?_
    refine lv_aload_n hx hb dX12_go_285 rfl (lv_at hl 0 rfl) ?_
    refine k_get C hw 0 rfl rfl wiX12 7 (by decide) wfX12_130 rfl dX12_go_286 ?_
    refine lv_imul hx hb dX12_go_289 ?_
    refine lv_iload hx hb dX12_go_290 (lv_at hl 3 rfl) ?_
    refine lv_iadd hx hb dX12_go_292 ?_
    refine lv_bipush (v := (48 : Int32)) hx hb dX12_go_293 (by decide) ?_
    refine lv_isub hx hb dX12_go_295 ?_
    refine lv_topi (fun x25 ex25 => ?_)
    have hf := bnd_r ex25 hf
    refine k_put C hw 0 rfl rfl wiX12 tyX12 tyX12_ok nmX12 7 (by decide) wfX12_130 rfl rfl rfl (Nat.le_of_ble_eq_true rfl) dX12_go_296 (wX12_go dA ht ht_tape ht_now ht_read ht_kept ht_ground ht_readGround ht_keptGround ht_name ht_isKept ht_louds ht_sharps ht_row ht_along ht_needs ht_best ht_order ht_shortRow ht_was ht_saved ht_next ht_fitted ht_beam ht_heardAhead ht_sharesMost ht_sharesMoved ht_nextMost ht_nextMoved t_thrown t_taped t_size t_to t_from t_kind x25 t_fault t_spot t_word t_told t_isBegun t_had t_rowMany t_least t_shortMany t_mostWorth t_fitMany t_narrowCost t_tape) rfl (fun H locs hw => ?_)
    refine lv_aload_n hx hb dX12_go_299 rfl (lv_at hl 0 rfl) ?_
    refine lv_dup hx hb dX12_go_300 rfl ?_
    refine k_get C hw 0 rfl rfl wiX12 4 (by decide) wfX12_110 rfl dX12_go_301 ?_
    refine lv_iconst (v := (1 : Int32)) hx hb dX12_go_304 (by decide) ?_
    refine lv_iadd hx hb dX12_go_305 ?_
    refine lv_topi (fun x26 ex26 => ?_)
    have hf := bnd_r ex26 hf
    refine k_put C hw 0 rfl rfl wiX12 tyX12 tyX12_ok nmX12 4 (by decide) wfX12_110 rfl rfl rfl (Nat.le_of_ble_eq_true rfl) dX12_go_306 (wX12_go dA ht ht_tape ht_now ht_read ht_kept ht_ground ht_readGround ht_keptGround ht_name ht_isKept ht_louds ht_sharps ht_row ht_along ht_needs ht_best ht_order ht_shortRow ht_was ht_saved ht_next ht_fitted ht_beam ht_heardAhead ht_sharesMost ht_sharesMoved ht_nextMost ht_nextMoved t_thrown t_taped t_size x26 t_from t_kind x25 t_fault t_spot t_word t_told t_isBegun t_had t_rowMany t_least t_shortMany t_mostWorth t_fitMany t_narrowCost t_tape) rfl (fun H locs hw => ?_)
    refine lv_goto (tgt := 177) hx hb dX12_go_309 (by decide) ?_
    obtain rfl := some_r hf
    exact hK _ _ _ (lv_sub hl [0, 1, 2] rfl) hw
set_option maxHeartbeats 4000000 in
set_option maxRecDepth 100000 in
theorem tX12_go_j234 {p : Program} {l : Launch} {e : Env} {R : Room} {s : State} {m : MethodId} {args : Array Value} {below : List Frame} {meth : Method} {c : Code} {D : va_G} {dA : Nat → ClassId} {w0 : va_W} {Q : State → Prop} {H : Heap} {locs : List Loc} {ls : Array Slot} {cells slots : Nat} (C : CX p s m args meth c cX12_go 5 none RX12 D dA) (ht ht_tape ht_now ht_read ht_kept ht_ground ht_readGround ht_keptGround ht_name ht_isKept ht_louds ht_sharps ht_row ht_along ht_needs ht_best ht_order ht_shortRow ht_was ht_saved ht_next ht_fitted ht_beam ht_heardAhead ht_sharesMost ht_sharesMoved ht_nextMost ht_nextMoved : Nat) (hR : 1 ≤ R.frames ∧ 21 ≤ R.locals ∧ cells ≤ R.cells ∧ slots ≤ R.slots)  (t_thrown : Int32) (t_taped : Int32) (t_size : Int32) (t_to : Int32) (t_from : Int32) (t_kind : Int32) (t_number : Int32) (t_fault : Int32) (t_spot : Int32) (t_word : Int64) (t_told : Int32) (t_isBegun : Int32) (t_had : Int32) (t_rowMany : Int32) (t_least : Int32) (t_shortMany : Int32) (t_mostWorth : Int32) (t_fitMany : Int32) (t_narrowCost : Int32) (t_tape : (Nat → Int32)) (v2 : Int32) (v4 : Int32) (u0 : Int32) (N : Nat) (res : ((Int32 × Int32 × Int64 × Int32) ⊕ (Int32 × Int32 × Int64 × Int32))) (hf : fX12_go_j234 N t_size t_to t_from t_kind t_number t_word t_tape v2 v4 u0 = some res) (hK : Sum.elim (fun z => (∀ (H : Heap) (locs : List Loc) (ls : Array Slot), lv_has ls 5 [(0, .ref ht), (2, .int v2), (3, .int z.2.2.2)] → St D w0 s (wX12_go dA ht ht_tape ht_now ht_read ht_kept ht_ground ht_readGround ht_keptGround ht_name ht_isKept ht_louds ht_sharps ht_row ht_along ht_needs ht_best ht_order ht_shortRow ht_was ht_saved ht_next ht_fitted ht_beam ht_heardAhead ht_sharesMost ht_sharesMoved ht_nextMost ht_nextMoved t_thrown t_taped t_size z.1 t_from t_kind z.2.1 t_fault t_spot z.2.2.1 t_told t_isBegun t_had t_rowMany t_least t_shortMany t_mostWorth t_fitMany t_narrowCost t_tape) H locs → W p l e R s m args below meth c H locs cells slots Q (F0 m 177 ls []))) (fun r => (∀ (H : Heap) (locs : List Loc) (ls : Array Slot), lv_has ls 5 [(0, .ref ht), (2, .int v2), (3, .int r.2.2.2)] → St D w0 s (wX12_go dA ht ht_tape ht_now ht_read ht_kept ht_ground ht_readGround ht_keptGround ht_name ht_isKept ht_louds ht_sharps ht_row ht_along ht_needs ht_best ht_order ht_shortRow ht_was ht_saved ht_next ht_fitted ht_beam ht_heardAhead ht_sharesMost ht_sharesMoved ht_nextMost ht_nextMoved t_thrown t_taped t_size r.1 t_from t_kind r.2.1 t_fault t_spot r.2.2.1 t_told t_isBegun t_had t_rowMany t_least t_shortMany t_mostWorth t_fitMany t_narrowCost t_tape) H locs → W p l e R s m args below meth c H locs cells slots Q (F0 m 312 ls []))) res) (hl : lv_has ls 5 [(0, .ref ht), (2, .int v2), (4, .int v4)]) (hw : St D w0 s (wX12_go dA ht ht_tape ht_now ht_read ht_kept ht_ground ht_readGround ht_keptGround ht_name ht_isKept ht_louds ht_sharps ht_row ht_along ht_needs ht_best ht_order ht_shortRow ht_was ht_saved ht_next ht_fitted ht_beam ht_heardAhead ht_sharesMost ht_sharesMoved ht_nextMost ht_nextMoved t_thrown t_taped t_size t_to t_from t_kind t_number t_fault t_spot t_word t_told t_isBegun t_had t_rowMany t_least t_shortMany t_mostWorth t_fitMany t_narrowCost t_tape) H locs) : W p l e R s m args below meth c H locs cells slots Q (F0 m 234 ls [.int u0]) := by
  have hx := C.1
  have hb := C.2.1
  have hml := C.2.2.1
  have hown := C.2.2.2.1
  have hts := C.2.2.2.2.1
  unfold fX12_go_j234 at hf
  refine lv_istore_n (lv' := [(3, .int u0), (0, .ref ht), (2, .int v2), (4, .int v4)]) hx hb dX12_go_234 rfl hl (by decide) rfl (fun ls hl => ?_)
  refine lv_aload_n hx hb dX12_go_235 rfl (lv_at hl 1 rfl) ?_
  refine k_get C hw 0 rfl rfl wiX12 4 (by decide) wfX12_110 rfl dX12_go_236 ?_
  refine lv_aload_n hx hb dX12_go_239 rfl (lv_at hl 1 rfl) ?_
  refine k_get C hw 0 rfl rfl wiX12 5 (by decide) wfX12_113 rfl dX12_go_240 ?_
  refine lv_isub hx hb dX12_go_243 ?_
  refine lv_bipush (v := (6 : Int32)) hx hb dX12_go_244 (by decide) ?_
  refine lv_icmp_ge (tgt := 269) hx hb dX12_go_246 (by decide) (fun c22 => ?_) (fun c22 => ?_)
  · have hf := ite_t c22 hf
    exact tX12_go_j269 C ht ht_tape ht_now ht_read ht_kept ht_ground ht_readGround ht_keptGround ht_name ht_isKept ht_louds ht_sharps ht_row ht_along ht_needs ht_best ht_order ht_shortRow ht_was ht_saved ht_next ht_fitted ht_beam ht_heardAhead ht_sharesMost ht_sharesMoved ht_nextMost ht_nextMoved hR t_thrown t_taped t_size t_to t_from t_kind t_number t_fault t_spot t_word t_told t_isBegun t_had t_rowMany t_least t_shortMany t_mostWorth t_fitMany t_narrowCost t_tape v2 u0 v4 N _ hf hK (lv_sub hl [1, 2, 0, 3] rfl) hw
  · have hf := ite_f c22 hf
    refine lv_aload_n hx hb dX12_go_249 rfl (lv_at hl 1 rfl) ?_
    refine lv_ldc2 hx hb hown (hts _ wkX12_137) dX12_go_250 ?_
    refine lv_aload_n hx hb dX12_go_253 rfl (lv_at hl 1 rfl) ?_
    refine k_get C hw 0 rfl rfl wiX12 10 (by decide) wfX12_126 rfl dX12_go_254 ?_
    refine lv_lmul hx hb dX12_go_257 ?_
    refine lv_iload hx hb dX12_go_258 (lv_at hl 3 rfl) ?_
    refine lv_i2l hx hb dX12_go_260 rfl ?_
    refine lv_ladd hx hb dX12_go_261 ?_
    refine lv_ldc2 hx hb hown (hts _ wkX12_139) dX12_go_262 ?_
    refine lv_lsub hx hb dX12_go_265 ?_
    refine lv_topl (fun x27 ex27 => ?_)
    have hf := bnd_r ex27 hf
    refine k_put C hw 0 rfl rfl wiX12 tyX12 tyX12_ok nmX12 10 (by decide) wfX12_126 rfl rfl rfl (Nat.le_of_ble_eq_true rfl) dX12_go_266 (wX12_go dA ht ht_tape ht_now ht_read ht_kept ht_ground ht_readGround ht_keptGround ht_name ht_isKept ht_louds ht_sharps ht_row ht_along ht_needs ht_best ht_order ht_shortRow ht_was ht_saved ht_next ht_fitted ht_beam ht_heardAhead ht_sharesMost ht_sharesMoved ht_nextMost ht_nextMoved t_thrown t_taped t_size t_to t_from t_kind t_number t_fault t_spot x27 t_told t_isBegun t_had t_rowMany t_least t_shortMany t_mostWorth t_fitMany t_narrowCost t_tape) rfl (fun H locs hw => ?_)
    exact tX12_go_j269 C ht ht_tape ht_now ht_read ht_kept ht_ground ht_readGround ht_keptGround ht_name ht_isKept ht_louds ht_sharps ht_row ht_along ht_needs ht_best ht_order ht_shortRow ht_was ht_saved ht_next ht_fitted ht_beam ht_heardAhead ht_sharesMost ht_sharesMoved ht_nextMost ht_nextMoved hR t_thrown t_taped t_size t_to t_from t_kind t_number t_fault t_spot x27 t_told t_isBegun t_had t_rowMany t_least t_shortMany t_mostWorth t_fitMany t_narrowCost t_tape v2 u0 v4 N _ hf hK (lv_sub hl [1, 2, 0, 3] rfl) hw
set_option maxHeartbeats 4000000 in
set_option maxRecDepth 100000 in
theorem tX12_go_j233 {p : Program} {l : Launch} {e : Env} {R : Room} {s : State} {m : MethodId} {args : Array Value} {below : List Frame} {meth : Method} {c : Code} {D : va_G} {dA : Nat → ClassId} {w0 : va_W} {Q : State → Prop} {H : Heap} {locs : List Loc} {ls : Array Slot} {cells slots : Nat} (C : CX p s m args meth c cX12_go 5 none RX12 D dA) (ht ht_tape ht_now ht_read ht_kept ht_ground ht_readGround ht_keptGround ht_name ht_isKept ht_louds ht_sharps ht_row ht_along ht_needs ht_best ht_order ht_shortRow ht_was ht_saved ht_next ht_fitted ht_beam ht_heardAhead ht_sharesMost ht_sharesMoved ht_nextMost ht_nextMoved : Nat) (hR : 1 ≤ R.frames ∧ 21 ≤ R.locals ∧ cells ≤ R.cells ∧ slots ≤ R.slots)  (t_thrown : Int32) (t_taped : Int32) (t_size : Int32) (t_to : Int32) (t_from : Int32) (t_kind : Int32) (t_number : Int32) (t_fault : Int32) (t_spot : Int32) (t_word : Int64) (t_told : Int32) (t_isBegun : Int32) (t_had : Int32) (t_rowMany : Int32) (t_least : Int32) (t_shortMany : Int32) (t_mostWorth : Int32) (t_fitMany : Int32) (t_narrowCost : Int32) (t_tape : (Nat → Int32)) (v2 : Int32) (v4 : Int32) (N : Nat) (res : ((Int32 × Int32 × Int64 × Int32) ⊕ (Int32 × Int32 × Int64 × Int32))) (hf : fX12_go_j233 N t_size t_to t_from t_kind t_number t_word t_tape v2 v4 = some res) (hK : Sum.elim (fun z => (∀ (H : Heap) (locs : List Loc) (ls : Array Slot), lv_has ls 5 [(0, .ref ht), (2, .int v2), (3, .int z.2.2.2)] → St D w0 s (wX12_go dA ht ht_tape ht_now ht_read ht_kept ht_ground ht_readGround ht_keptGround ht_name ht_isKept ht_louds ht_sharps ht_row ht_along ht_needs ht_best ht_order ht_shortRow ht_was ht_saved ht_next ht_fitted ht_beam ht_heardAhead ht_sharesMost ht_sharesMoved ht_nextMost ht_nextMoved t_thrown t_taped t_size z.1 t_from t_kind z.2.1 t_fault t_spot z.2.2.1 t_told t_isBegun t_had t_rowMany t_least t_shortMany t_mostWorth t_fitMany t_narrowCost t_tape) H locs → W p l e R s m args below meth c H locs cells slots Q (F0 m 177 ls []))) (fun r => (∀ (H : Heap) (locs : List Loc) (ls : Array Slot), lv_has ls 5 [(0, .ref ht), (2, .int v2), (3, .int r.2.2.2)] → St D w0 s (wX12_go dA ht ht_tape ht_now ht_read ht_kept ht_ground ht_readGround ht_keptGround ht_name ht_isKept ht_louds ht_sharps ht_row ht_along ht_needs ht_best ht_order ht_shortRow ht_was ht_saved ht_next ht_fitted ht_beam ht_heardAhead ht_sharesMost ht_sharesMoved ht_nextMost ht_nextMoved t_thrown t_taped t_size r.1 t_from t_kind r.2.1 t_fault t_spot r.2.2.1 t_told t_isBegun t_had t_rowMany t_least t_shortMany t_mostWorth t_fitMany t_narrowCost t_tape) H locs → W p l e R s m args below meth c H locs cells slots Q (F0 m 312 ls []))) res) (hl : lv_has ls 5 [(0, .ref ht), (2, .int v2), (4, .int v4)]) (hw : St D w0 s (wX12_go dA ht ht_tape ht_now ht_read ht_kept ht_ground ht_readGround ht_keptGround ht_name ht_isKept ht_louds ht_sharps ht_row ht_along ht_needs ht_best ht_order ht_shortRow ht_was ht_saved ht_next ht_fitted ht_beam ht_heardAhead ht_sharesMost ht_sharesMoved ht_nextMost ht_nextMoved t_thrown t_taped t_size t_to t_from t_kind t_number t_fault t_spot t_word t_told t_isBegun t_had t_rowMany t_least t_shortMany t_mostWorth t_fitMany t_narrowCost t_tape) H locs) : W p l e R s m args below meth c H locs cells slots Q (F0 m 233 ls []) := by
  have hx := C.1
  have hb := C.2.1
  have hml := C.2.2.1
  have hown := C.2.2.2.1
  have hts := C.2.2.2.2.1
  unfold fX12_go_j233 at hf
  refine lv_iconst (v := (0 : Int32)) hx hb dX12_go_233 (by decide) ?_
  exact tX12_go_j234 C ht ht_tape ht_now ht_read ht_kept ht_ground ht_readGround ht_keptGround ht_name ht_isKept ht_louds ht_sharps ht_row ht_along ht_needs ht_best ht_order ht_shortRow ht_was ht_saved ht_next ht_fitted ht_beam ht_heardAhead ht_sharesMost ht_sharesMoved ht_nextMost ht_nextMoved hR t_thrown t_taped t_size t_to t_from t_kind t_number t_fault t_spot t_word t_told t_isBegun t_had t_rowMany t_least t_shortMany t_mostWorth t_fitMany t_narrowCost t_tape v2 v4 (0 : Int32) N _ hf hK (lv_sub hl [0, 1, 2] rfl) hw
set_option maxHeartbeats 4000000 in
set_option maxRecDepth 100000 in
theorem tX12_go_j205 {p : Program} {l : Launch} {e : Env} {R : Room} {s : State} {m : MethodId} {args : Array Value} {below : List Frame} {meth : Method} {c : Code} {D : va_G} {dA : Nat → ClassId} {w0 : va_W} {Q : State → Prop} {H : Heap} {locs : List Loc} {ls : Array Slot} {cells slots : Nat} (C : CX p s m args meth c cX12_go 5 none RX12 D dA) (ht ht_tape ht_now ht_read ht_kept ht_ground ht_readGround ht_keptGround ht_name ht_isKept ht_louds ht_sharps ht_row ht_along ht_needs ht_best ht_order ht_shortRow ht_was ht_saved ht_next ht_fitted ht_beam ht_heardAhead ht_sharesMost ht_sharesMoved ht_nextMost ht_nextMoved : Nat) (hR : 1 ≤ R.frames ∧ 21 ≤ R.locals ∧ cells ≤ R.cells ∧ slots ≤ R.slots)  (t_thrown : Int32) (t_taped : Int32) (t_size : Int32) (t_to : Int32) (t_from : Int32) (t_kind : Int32) (t_number : Int32) (t_fault : Int32) (t_spot : Int32) (t_word : Int64) (t_told : Int32) (t_isBegun : Int32) (t_had : Int32) (t_rowMany : Int32) (t_least : Int32) (t_shortMany : Int32) (t_mostWorth : Int32) (t_fitMany : Int32) (t_narrowCost : Int32) (t_tape : (Nat → Int32)) (v2 : Int32) (v3 : Int32) (N : Nat) (res : ((Int32 × Int32 × Int64 × Int32) ⊕ (Int32 × Int32 × Int64 × Int32))) (hf : fX12_go_j205 N t_size t_to t_from t_kind t_number t_word t_tape v2 v3 = some res) (hK : Sum.elim (fun z => (∀ (H : Heap) (locs : List Loc) (ls : Array Slot), lv_has ls 5 [(0, .ref ht), (2, .int v2), (3, .int z.2.2.2)] → St D w0 s (wX12_go dA ht ht_tape ht_now ht_read ht_kept ht_ground ht_readGround ht_keptGround ht_name ht_isKept ht_louds ht_sharps ht_row ht_along ht_needs ht_best ht_order ht_shortRow ht_was ht_saved ht_next ht_fitted ht_beam ht_heardAhead ht_sharesMost ht_sharesMoved ht_nextMost ht_nextMoved t_thrown t_taped t_size z.1 t_from t_kind z.2.1 t_fault t_spot z.2.2.1 t_told t_isBegun t_had t_rowMany t_least t_shortMany t_mostWorth t_fitMany t_narrowCost t_tape) H locs → W p l e R s m args below meth c H locs cells slots Q (F0 m 177 ls []))) (fun r => (∀ (H : Heap) (locs : List Loc) (ls : Array Slot), lv_has ls 5 [(0, .ref ht), (2, .int v2), (3, .int r.2.2.2)] → St D w0 s (wX12_go dA ht ht_tape ht_now ht_read ht_kept ht_ground ht_readGround ht_keptGround ht_name ht_isKept ht_louds ht_sharps ht_row ht_along ht_needs ht_best ht_order ht_shortRow ht_was ht_saved ht_next ht_fitted ht_beam ht_heardAhead ht_sharesMost ht_sharesMoved ht_nextMost ht_nextMoved t_thrown t_taped t_size r.1 t_from t_kind r.2.1 t_fault t_spot r.2.2.1 t_told t_isBegun t_had t_rowMany t_least t_shortMany t_mostWorth t_fitMany t_narrowCost t_tape) H locs → W p l e R s m args below meth c H locs cells slots Q (F0 m 312 ls []))) res) (hl : lv_has ls 5 [(0, .ref ht), (2, .int v2), (3, .int v3)]) (hw : St D w0 s (wX12_go dA ht ht_tape ht_now ht_read ht_kept ht_ground ht_readGround ht_keptGround ht_name ht_isKept ht_louds ht_sharps ht_row ht_along ht_needs ht_best ht_order ht_shortRow ht_was ht_saved ht_next ht_fitted ht_beam ht_heardAhead ht_sharesMost ht_sharesMoved ht_nextMost ht_nextMoved t_thrown t_taped t_size t_to t_from t_kind t_number t_fault t_spot t_word t_told t_isBegun t_had t_rowMany t_least t_shortMany t_mostWorth t_fitMany t_narrowCost t_tape) H locs) : W p l e R s m args below meth c H locs cells slots Q (F0 m 205 ls []) := by
  have hx := C.1
  have hb := C.2.1
  have hml := C.2.2.1
  have hown := C.2.2.2.1
  have hts := C.2.2.2.2.1
  unfold fX12_go_j205 at hf
  refine lv_aload_n hx hb dX12_go_205 rfl (lv_at hl 0 rfl) ?_
  refine k_get C hw 0 rfl rfl wiX12 1 (by decide) wfX12_7 rfl dX12_go_206 ?_
  refine lv_aload_n hx hb dX12_go_209 rfl (lv_at hl 0 rfl) ?_
  refine k_get C hw 0 rfl rfl wiX12 4 (by decide) wfX12_110 rfl dX12_go_210 ?_
  obtain ⟨g19, hf⟩ := gdi_r hf
  refine k_iald C hw 1 rfl g19 dX12_go_213 ?_
  refine lv_topi (fun x20 ex20 => ?_)
  have hf := bnd_r ex20 hf
  refine lv_istore (lv' := [(4, .int x20), (0, .ref ht), (2, .int v2), (3, .int v3)]) hx hb dX12_go_214 hl (by decide) rfl (fun ls hl => ?_)
  refine lv_iload_n hx hb dX12_go_216 rfl (lv_at hl 3 rfl) ?_
  refine lv_if_eq (tgt := 233) hx hb dX12_go_217 (by decide) (fun c21 => ?_) (fun c21 => ?_)
  · have hf := ite_t c21 hf
    exact tX12_go_j233 C ht ht_tape ht_now ht_read ht_kept ht_ground ht_readGround ht_keptGround ht_name ht_isKept ht_louds ht_sharps ht_row ht_along ht_needs ht_best ht_order ht_shortRow ht_was ht_saved ht_next ht_fitted ht_beam ht_heardAhead ht_sharesMost ht_sharesMoved ht_nextMost ht_nextMoved hR t_thrown t_taped t_size t_to t_from t_kind t_number t_fault t_spot t_word t_told t_isBegun t_had t_rowMany t_least t_shortMany t_mostWorth t_fitMany t_narrowCost t_tape v2 x20 N _ hf hK (lv_sub hl [1, 2, 0] rfl) hw
  · have hf := ite_f c21 hf
    refine lv_iload hx hb dX12_go_220 (lv_at hl 0 rfl) ?_
    obtain ⟨o28, ho28, hf⟩ := bind_r hf
    refine k_callSi C hw (n := 1) (As := [.int x20]) (w1 := (wX12_go dA ht ht_tape ht_now ht_read ht_kept ht_ground ht_readGround ht_keptGround ht_name ht_isKept ht_louds ht_sharps ht_row ht_along ht_needs ht_best ht_order ht_shortRow ht_was ht_saved ht_next ht_fitted ht_beam ht_heardAhead ht_sharesMost ht_sharesMoved ht_nextMost ht_nextMoved t_thrown t_taped t_size t_to t_from t_kind t_number t_fault t_spot t_word t_told t_isBegun t_had t_rowMany t_least t_shortMany t_mostWorth t_fitMany t_narrowCost t_tape)) (wr := [(ht, .inr (12, [.int t_thrown, .ref ht_tape, .int t_taped, .int t_size, .int t_to, .int t_from, .int t_kind, .int t_number, .int t_fault, .int t_spot, .long t_word, .int t_told, .ref ht_now, .ref ht_read, .ref ht_kept, .ref ht_ground, .ref ht_readGround, .ref ht_keptGround, .ref ht_name, .ref ht_isKept, .int t_isBegun, .int t_had, .ref ht_louds, .ref ht_sharps, .ref ht_row, .ref ht_along, .ref ht_needs, .ref ht_best, .int t_rowMany, .ref ht_order, .ref ht_shortRow, .int t_least, .int t_shortMany, .ref ht_was, .ref ht_saved, .int t_mostWorth, .ref ht_next, .ref ht_fitted, .int t_fitMany, .int t_narrowCost, .ref ht_beam, .ref ht_heardAhead, .ref ht_sharesMost, .ref ht_sharesMoved, .ref ht_nextMost, .ref ht_nextMoved])), (ht_tape, .inl (dA 0, 1240, .inl t_tape))]) [] [0, 1] [0, 1] rfl rfl (by decide) (by decide) (by decide) rfl (by decide) (qX12_isLetter l D dA  x20 _ ho28) wlX12_119 wsX12_isLetter_t wnX12 wcX12_isLetter (by decide +kernel) ⟨Nat.le_trans (by decide) hR.1, Nat.le_trans (by decide) hR.2.1⟩ hR.2.2 rfl hl.1 (Nat.le_of_ble_eq_true rfl) dX12_go_222 rfl (fun H locs hw => ?_)
    refine lv_iload_n hx hb dX12_go_225 rfl (lv_at hl 2 rfl) ?_
    refine lv_icmp_ne (tgt := 233) hx hb dX12_go_226 (by decide) (fun c29 => ?_) (fun c29 => ?_)
    · have hf := ite_f c29 hf
      exact tX12_go_j233 C ht ht_tape ht_now ht_read ht_kept ht_ground ht_readGround ht_keptGround ht_name ht_isKept ht_louds ht_sharps ht_row ht_along ht_needs ht_best ht_order ht_shortRow ht_was ht_saved ht_next ht_fitted ht_beam ht_heardAhead ht_sharesMost ht_sharesMoved ht_nextMost ht_nextMoved hR t_thrown t_taped t_size t_to t_from t_kind t_number t_fault t_spot t_word t_told t_isBegun t_had t_rowMany t_least t_shortMany t_mostWorth t_fitMany t_narrowCost t_tape v2 x20 N _ hf hK (lv_sub hl [1, 2, 0] rfl) hw
    · have hf := ite_t c29 hf
      refine lv_iconst (v := (1 : Int32)) hx hb dX12_go_229 (by decide) ?_
      refine lv_goto (tgt := 234) hx hb dX12_go_230 (by decide) ?_
      exact tX12_go_j234 C ht ht_tape ht_now ht_read ht_kept ht_ground ht_readGround ht_keptGround ht_name ht_isKept ht_louds ht_sharps ht_row ht_along ht_needs ht_best ht_order ht_shortRow ht_was ht_saved ht_next ht_fitted ht_beam ht_heardAhead ht_sharesMost ht_sharesMoved ht_nextMost ht_nextMoved hR t_thrown t_taped t_size t_to t_from t_kind t_number t_fault t_spot t_word t_told t_isBegun t_had t_rowMany t_least t_shortMany t_mostWorth t_fitMany t_narrowCost t_tape v2 x20 (1 : Int32) N _ hf hK (lv_sub hl [1, 2, 0] rfl) hw
set_option maxHeartbeats 4000000 in
set_option maxRecDepth 100000 in
theorem tX12_go_l177b {p : Program} {l : Launch} {e : Env} {R : Room} {s : State} {m : MethodId} {args : Array Value} {below : List Frame} {meth : Method} {c : Code} {D : va_G} {dA : Nat → ClassId} {w0 : va_W} {Q : State → Prop} {H : Heap} {locs : List Loc} {ls : Array Slot} {cells slots : Nat} (C : CX p s m args meth c cX12_go 5 none RX12 D dA) (ht ht_tape ht_now ht_read ht_kept ht_ground ht_readGround ht_keptGround ht_name ht_isKept ht_louds ht_sharps ht_row ht_along ht_needs ht_best ht_order ht_shortRow ht_was ht_saved ht_next ht_fitted ht_beam ht_heardAhead ht_sharesMost ht_sharesMoved ht_nextMost ht_nextMoved : Nat) (hR : 1 ≤ R.frames ∧ 21 ≤ R.locals ∧ cells ≤ R.cells ∧ slots ≤ R.slots)  (t_thrown : Int32) (t_taped : Int32) (t_size : Int32) (t_to : Int32) (t_from : Int32) (t_kind : Int32) (t_number : Int32) (t_fault : Int32) (t_spot : Int32) (t_word : Int64) (t_told : Int32) (t_isBegun : Int32) (t_had : Int32) (t_rowMany : Int32) (t_least : Int32) (t_shortMany : Int32) (t_mostWorth : Int32) (t_fitMany : Int32) (t_narrowCost : Int32) (t_tape : (Nat → Int32)) (v2 : Int32) (v3 : Int32) (N : Nat) (res : ((Int32 × Int32 × Int64 × Int32) ⊕ (Int32 × Int32 × Int64 × Int32))) (hf : fX12_go_l177b N t_size t_from t_kind t_tape v2 t_to t_number t_word v3 = some res) (hK : Sum.elim (fun z => (∀ (H : Heap) (locs : List Loc) (ls : Array Slot), lv_has ls 5 [(0, .ref ht), (2, .int v2), (3, .int z.2.2.2)] → St D w0 s (wX12_go dA ht ht_tape ht_now ht_read ht_kept ht_ground ht_readGround ht_keptGround ht_name ht_isKept ht_louds ht_sharps ht_row ht_along ht_needs ht_best ht_order ht_shortRow ht_was ht_saved ht_next ht_fitted ht_beam ht_heardAhead ht_sharesMost ht_sharesMoved ht_nextMost ht_nextMoved t_thrown t_taped t_size z.1 t_from t_kind z.2.1 t_fault t_spot z.2.2.1 t_told t_isBegun t_had t_rowMany t_least t_shortMany t_mostWorth t_fitMany t_narrowCost t_tape) H locs → W p l e R s m args below meth c H locs cells slots Q (F0 m 177 ls []))) (fun r => (∀ (H : Heap) (locs : List Loc) (ls : Array Slot), lv_has ls 5 [(0, .ref ht), (2, .int v2), (3, .int r.2.2.2)] → St D w0 s (wX12_go dA ht ht_tape ht_now ht_read ht_kept ht_ground ht_readGround ht_keptGround ht_name ht_isKept ht_louds ht_sharps ht_row ht_along ht_needs ht_best ht_order ht_shortRow ht_was ht_saved ht_next ht_fitted ht_beam ht_heardAhead ht_sharesMost ht_sharesMoved ht_nextMost ht_nextMoved t_thrown t_taped t_size r.1 t_from t_kind r.2.1 t_fault t_spot r.2.2.1 t_told t_isBegun t_had t_rowMany t_least t_shortMany t_mostWorth t_fitMany t_narrowCost t_tape) H locs → W p l e R s m args below meth c H locs cells slots Q (F0 m 312 ls []))) res) (hl : lv_has ls 5 [(0, .ref ht), (2, .int v2), (3, .int v3)]) (hw : St D w0 s (wX12_go dA ht ht_tape ht_now ht_read ht_kept ht_ground ht_readGround ht_keptGround ht_name ht_isKept ht_louds ht_sharps ht_row ht_along ht_needs ht_best ht_order ht_shortRow ht_was ht_saved ht_next ht_fitted ht_beam ht_heardAhead ht_sharesMost ht_sharesMoved ht_nextMost ht_nextMoved t_thrown t_taped t_size t_to t_from t_kind t_number t_fault t_spot t_word t_told t_isBegun t_had t_rowMany t_least t_shortMany t_mostWorth t_fitMany t_narrowCost t_tape) H locs) : W p l e R s m args below meth c H locs cells slots Q (F0 m 177 ls []) := by
  have hx := C.1
  have hb := C.2.1
  have hml := C.2.2.1
  have hown := C.2.2.2.1
  have hts := C.2.2.2.2.1
  unfold fX12_go_l177b at hf
  refine lv_aload_n hx hb dX12_go_177 rfl (lv_at hl 0 rfl) ?_
  refine lv_aload_n hx hb dX12_go_178 rfl (lv_at hl 0 rfl) ?_
  refine k_get C hw 0 rfl rfl wiX12 4 (by decide) wfX12_110 rfl dX12_go_179 ?_
  obtain ⟨o16, ho16, hf⟩ := bind_r hf
  refine k_callVi C hw (n := 1) (As := [.int t_to]) (w1 := (wX12_go dA ht ht_tape ht_now ht_read ht_kept ht_ground ht_readGround ht_keptGround ht_name ht_isKept ht_louds ht_sharps ht_row ht_along ht_needs ht_best ht_order ht_shortRow ht_was ht_saved ht_next ht_fitted ht_beam ht_heardAhead ht_sharesMost ht_sharesMoved ht_nextMost ht_nextMoved t_thrown t_taped t_size t_to t_from t_kind t_number t_fault t_spot t_word t_told t_isBegun t_had t_rowMany t_least t_shortMany t_mostWorth t_fitMany t_narrowCost t_tape)) (wr := []) [0, 1] [] [0, 1] rfl rfl (by decide) (by decide) (by decide) rfl (by decide) (qX12_byteAt l D dA ht ht_tape ht_now ht_read ht_kept ht_ground ht_readGround ht_keptGround ht_name ht_isKept ht_louds ht_sharps ht_row ht_along ht_needs ht_best ht_order ht_shortRow ht_was ht_saved ht_next ht_fitted ht_beam ht_heardAhead ht_sharesMost ht_sharesMoved ht_nextMost ht_nextMoved t_thrown t_taped t_size t_to t_from t_kind t_number t_fault t_spot t_word t_told t_isBegun t_had t_rowMany t_least t_shortMany t_mostWorth t_fitMany t_narrowCost t_tape t_to _ ho16) wlX12_133 wmX12_byteAt wvX12_byteAt wnX12 wcX12_byteAt rfl (by decide +kernel) ⟨Nat.le_trans (by decide) hR.1, Nat.le_trans (by decide) hR.2.1⟩ hR.2.2 rfl 0 rfl rfl hl.1 (Nat.le_of_ble_eq_true rfl) dX12_go_182 rfl (fun H locs hw => ?_)
  obtain ⟨o17, ho17, hf⟩ := bind_r hf
  refine k_callSi C hw (n := 1) (As := [.int o16]) (w1 := (wX12_go dA ht ht_tape ht_now ht_read ht_kept ht_ground ht_readGround ht_keptGround ht_name ht_isKept ht_louds ht_sharps ht_row ht_along ht_needs ht_best ht_order ht_shortRow ht_was ht_saved ht_next ht_fitted ht_beam ht_heardAhead ht_sharesMost ht_sharesMoved ht_nextMost ht_nextMoved t_thrown t_taped t_size t_to t_from t_kind t_number t_fault t_spot t_word t_told t_isBegun t_had t_rowMany t_least t_shortMany t_mostWorth t_fitMany t_narrowCost t_tape)) (wr := [(ht, .inr (12, [.int t_thrown, .ref ht_tape, .int t_taped, .int t_size, .int t_to, .int t_from, .int t_kind, .int t_number, .int t_fault, .int t_spot, .long t_word, .int t_told, .ref ht_now, .ref ht_read, .ref ht_kept, .ref ht_ground, .ref ht_readGround, .ref ht_keptGround, .ref ht_name, .ref ht_isKept, .int t_isBegun, .int t_had, .ref ht_louds, .ref ht_sharps, .ref ht_row, .ref ht_along, .ref ht_needs, .ref ht_best, .int t_rowMany, .ref ht_order, .ref ht_shortRow, .int t_least, .int t_shortMany, .ref ht_was, .ref ht_saved, .int t_mostWorth, .ref ht_next, .ref ht_fitted, .int t_fitMany, .int t_narrowCost, .ref ht_beam, .ref ht_heardAhead, .ref ht_sharesMost, .ref ht_sharesMoved, .ref ht_nextMost, .ref ht_nextMoved])), (ht_tape, .inl (dA 0, 1240, .inl t_tape))]) [] [0, 1] [0, 1] rfl rfl (by decide) (by decide) (by decide) rfl (by decide) (qX12_isLetter l D dA  o16 _ ho17) wlX12_119 wsX12_isLetter_t wnX12 wcX12_isLetter (by decide +kernel) ⟨Nat.le_trans (by decide) hR.1, Nat.le_trans (by decide) hR.2.1⟩ hR.2.2 rfl hl.1 (Nat.le_of_ble_eq_true rfl) dX12_go_185 rfl (fun H locs hw => ?_)
  refine lv_if_ne (tgt := 205) hx hb dX12_go_188 (by decide) (fun c18 => ?_) (fun c18 => ?_)
  · have hf := ite_f c18 hf
    exact tX12_go_j205 C ht ht_tape ht_now ht_read ht_kept ht_ground ht_readGround ht_keptGround ht_name ht_isKept ht_louds ht_sharps ht_row ht_along ht_needs ht_best ht_order ht_shortRow ht_was ht_saved ht_next ht_fitted ht_beam ht_heardAhead ht_sharesMost ht_sharesMoved ht_nextMost ht_nextMoved hR t_thrown t_taped t_size t_to t_from t_kind t_number t_fault t_spot t_word t_told t_isBegun t_had t_rowMany t_least t_shortMany t_mostWorth t_fitMany t_narrowCost t_tape v2 v3 N _ hf hK (lv_sub hl [0, 1, 2] rfl) hw
  · have hf := ite_t c18 hf
    refine lv_aload_n hx hb dX12_go_191 rfl (lv_at hl 0 rfl) ?_
    refine lv_aload_n hx hb dX12_go_192 rfl (lv_at hl 0 rfl) ?_
    refine k_get C hw 0 rfl rfl wiX12 4 (by decide) wfX12_110 rfl dX12_go_193 ?_
    obtain ⟨o30, ho30, hf⟩ := bind_r hf
    refine k_callVi C hw (n := 1) (As := [.int t_to]) (w1 := (wX12_go dA ht ht_tape ht_now ht_read ht_kept ht_ground ht_readGround ht_keptGround ht_name ht_isKept ht_louds ht_sharps ht_row ht_along ht_needs ht_best ht_order ht_shortRow ht_was ht_saved ht_next ht_fitted ht_beam ht_heardAhead ht_sharesMost ht_sharesMoved ht_nextMost ht_nextMoved t_thrown t_taped t_size t_to t_from t_kind t_number t_fault t_spot t_word t_told t_isBegun t_had t_rowMany t_least t_shortMany t_mostWorth t_fitMany t_narrowCost t_tape)) (wr := []) [0, 1] [] [0, 1] rfl rfl (by decide) (by decide) (by decide) rfl (by decide) (qX12_byteAt l D dA ht ht_tape ht_now ht_read ht_kept ht_ground ht_readGround ht_keptGround ht_name ht_isKept ht_louds ht_sharps ht_row ht_along ht_needs ht_best ht_order ht_shortRow ht_was ht_saved ht_next ht_fitted ht_beam ht_heardAhead ht_sharesMost ht_sharesMoved ht_nextMost ht_nextMoved t_thrown t_taped t_size t_to t_from t_kind t_number t_fault t_spot t_word t_told t_isBegun t_had t_rowMany t_least t_shortMany t_mostWorth t_fitMany t_narrowCost t_tape t_to _ ho30) wlX12_133 wmX12_byteAt wvX12_byteAt wnX12 wcX12_byteAt rfl (by decide +kernel) ⟨Nat.le_trans (by decide) hR.1, Nat.le_trans (by decide) hR.2.1⟩ hR.2.2 rfl 0 rfl rfl hl.1 (Nat.le_of_ble_eq_true rfl) dX12_go_196 rfl (fun H locs hw => ?_)
    obtain ⟨o31, ho31, hf⟩ := bind_r hf
    refine k_callSi C hw (n := 1) (As := [.int o30]) (w1 := (wX12_go dA ht ht_tape ht_now ht_read ht_kept ht_ground ht_readGround ht_keptGround ht_name ht_isKept ht_louds ht_sharps ht_row ht_along ht_needs ht_best ht_order ht_shortRow ht_was ht_saved ht_next ht_fitted ht_beam ht_heardAhead ht_sharesMost ht_sharesMoved ht_nextMost ht_nextMoved t_thrown t_taped t_size t_to t_from t_kind t_number t_fault t_spot t_word t_told t_isBegun t_had t_rowMany t_least t_shortMany t_mostWorth t_fitMany t_narrowCost t_tape)) (wr := [(ht, .inr (12, [.int t_thrown, .ref ht_tape, .int t_taped, .int t_size, .int t_to, .int t_from, .int t_kind, .int t_number, .int t_fault, .int t_spot, .long t_word, .int t_told, .ref ht_now, .ref ht_read, .ref ht_kept, .ref ht_ground, .ref ht_readGround, .ref ht_keptGround, .ref ht_name, .ref ht_isKept, .int t_isBegun, .int t_had, .ref ht_louds, .ref ht_sharps, .ref ht_row, .ref ht_along, .ref ht_needs, .ref ht_best, .int t_rowMany, .ref ht_order, .ref ht_shortRow, .int t_least, .int t_shortMany, .ref ht_was, .ref ht_saved, .int t_mostWorth, .ref ht_next, .ref ht_fitted, .int t_fitMany, .int t_narrowCost, .ref ht_beam, .ref ht_heardAhead, .ref ht_sharesMost, .ref ht_sharesMoved, .ref ht_nextMost, .ref ht_nextMoved])), (ht_tape, .inl (dA 0, 1240, .inl t_tape))]) [] [0, 1] [0, 1] rfl rfl (by decide) (by decide) (by decide) rfl (by decide) (qX12_isDigit l D dA  o30 _ ho31) wlX12_123 wsX12_isDigit_t wnX12 wcX12_isDigit (by decide +kernel) ⟨Nat.le_trans (by decide) hR.1, Nat.le_trans (by decide) hR.2.1⟩ hR.2.2 rfl hl.1 (Nat.le_of_ble_eq_true rfl) dX12_go_199 rfl (fun H locs hw => ?_)
    refine lv_if_eq (tgt := 312) hx hb dX12_go_202 (by decide) (fun c32 => ?_) (fun c32 => ?_)
    · have hf := ite_t c32 hf
      obtain rfl := some_r hf
      exact hK _ _ _ (lv_sub hl [0, 1, 2] rfl) hw
    · have hf := ite_f c32 hf
      exact tX12_go_j205 C ht ht_tape ht_now ht_read ht_kept ht_ground ht_readGround ht_keptGround ht_name ht_isKept ht_louds ht_sharps ht_row ht_along ht_needs ht_best ht_order ht_shortRow ht_was ht_saved ht_next ht_fitted ht_beam ht_heardAhead ht_sharesMost ht_sharesMoved ht_nextMost ht_nextMoved hR t_thrown t_taped t_size t_to t_from t_kind t_number t_fault t_spot t_word t_told t_isBegun t_had t_rowMany t_least t_shortMany t_mostWorth t_fitMany t_narrowCost t_tape v2 v3 N _ hf hK (lv_sub hl [0, 1, 2] rfl) hw
set_option maxHeartbeats 4000000 in
theorem tX12_go_l177 {p : Program} {l : Launch} {e : Env} {R : Room} {s : State} {m : MethodId} {args : Array Value} {below : List Frame} {meth : Method} {c : Code} {D : va_G} {dA : Nat → ClassId} {w0 : va_W} {Q : State → Prop} {H : Heap} {locs : List Loc} {ls : Array Slot} {cells slots : Nat} (C : CX p s m args meth c cX12_go 5 none RX12 D dA) (ht ht_tape ht_now ht_read ht_kept ht_ground ht_readGround ht_keptGround ht_name ht_isKept ht_louds ht_sharps ht_row ht_along ht_needs ht_best ht_order ht_shortRow ht_was ht_saved ht_next ht_fitted ht_beam ht_heardAhead ht_sharesMost ht_sharesMoved ht_nextMost ht_nextMoved : Nat) (hR : 1 ≤ R.frames ∧ 21 ≤ R.locals ∧ cells ≤ R.cells ∧ slots ≤ R.slots)  (t_thrown : Int32) (t_taped : Int32) (t_size : Int32) (t_to : Int32) (t_from : Int32) (t_kind : Int32) (t_number : Int32) (t_fault : Int32) (t_spot : Int32) (t_word : Int64) (t_told : Int32) (t_isBegun : Int32) (t_had : Int32) (t_rowMany : Int32) (t_least : Int32) (t_shortMany : Int32) (t_mostWorth : Int32) (t_fitMany : Int32) (t_narrowCost : Int32) (t_tape : (Nat → Int32)) (v2 : Int32) (v3 : Int32) (N n : Nat) (res : (Int32 × Int32 × Int64 × Int32)) (hf : itr (fun z => fX12_go_l177b N t_size t_from t_kind t_tape v2 z.1 z.2.1 z.2.2.1 z.2.2.2) n (t_to, t_number, t_word, v3) = some res) (hK : (∀ (H : Heap) (locs : List Loc) (ls : Array Slot), lv_has ls 5 [(0, .ref ht), (2, .int v2), (3, .int res.2.2.2)] → St D w0 s (wX12_go dA ht ht_tape ht_now ht_read ht_kept ht_ground ht_readGround ht_keptGround ht_name ht_isKept ht_louds ht_sharps ht_row ht_along ht_needs ht_best ht_order ht_shortRow ht_was ht_saved ht_next ht_fitted ht_beam ht_heardAhead ht_sharesMost ht_sharesMoved ht_nextMost ht_nextMoved t_thrown t_taped t_size res.1 t_from t_kind res.2.1 t_fault t_spot res.2.2.1 t_told t_isBegun t_had t_rowMany t_least t_shortMany t_mostWorth t_fitMany t_narrowCost t_tape) H locs → W p l e R s m args below meth c H locs cells slots Q (F0 m 312 ls []))) (hl : lv_has ls 5 [(0, .ref ht), (2, .int v2), (3, .int v3)]) (hw : St D w0 s (wX12_go dA ht ht_tape ht_now ht_read ht_kept ht_ground ht_readGround ht_keptGround ht_name ht_isKept ht_louds ht_sharps ht_row ht_along ht_needs ht_best ht_order ht_shortRow ht_was ht_saved ht_next ht_fitted ht_beam ht_heardAhead ht_sharesMost ht_sharesMoved ht_nextMost ht_nextMoved t_thrown t_taped t_size t_to t_from t_kind t_number t_fault t_spot t_word t_told t_isBegun t_had t_rowMany t_least t_shortMany t_mostWorth t_fitMany t_narrowCost t_tape) H locs) : W p l e R s m args below meth c H locs cells slots Q (F0 m 177 ls []) :=
  itr_W (P := fun (z : (Int32 × Int32 × Int64 × Int32)) => (∀ (H : Heap) (locs : List Loc) (ls : Array Slot), lv_has ls 5 [(0, .ref ht), (2, .int v2), (3, .int z.2.2.2)] → St D w0 s (wX12_go dA ht ht_tape ht_now ht_read ht_kept ht_ground ht_readGround ht_keptGround ht_name ht_isKept ht_louds ht_sharps ht_row ht_along ht_needs ht_best ht_order ht_shortRow ht_was ht_saved ht_next ht_fitted ht_beam ht_heardAhead ht_sharesMost ht_sharesMoved ht_nextMost ht_nextMoved t_thrown t_taped t_size z.1 t_from t_kind z.2.1 t_fault t_spot z.2.2.1 t_told t_isBegun t_had t_rowMany t_least t_shortMany t_mostWorth t_fitMany t_narrowCost t_tape) H locs → W p l e R s m args below meth c H locs cells slots Q (F0 m 177 ls []))) (K := fun res => (∀ (H : Heap) (locs : List Loc) (ls : Array Slot), lv_has ls 5 [(0, .ref ht), (2, .int v2), (3, .int res.2.2.2)] → St D w0 s (wX12_go dA ht ht_tape ht_now ht_read ht_kept ht_ground ht_readGround ht_keptGround ht_name ht_isKept ht_louds ht_sharps ht_row ht_along ht_needs ht_best ht_order ht_shortRow ht_was ht_saved ht_next ht_fitted ht_beam ht_heardAhead ht_sharesMost ht_sharesMoved ht_nextMost ht_nextMoved t_thrown t_taped t_size res.1 t_from t_kind res.2.1 t_fault t_spot res.2.2.1 t_told t_isBegun t_had t_rowMany t_least t_shortMany t_mostWorth t_fitMany t_narrowCost t_tape) H locs → W p l e R s m args below meth c H locs cells slots Q (F0 m 312 ls []))) (fun z r hf hK H locs ls hl hw => tX12_go_l177b C ht ht_tape ht_now ht_read ht_kept ht_ground ht_readGround ht_keptGround ht_name ht_isKept ht_louds ht_sharps ht_row ht_along ht_needs ht_best ht_order ht_shortRow ht_was ht_saved ht_next ht_fitted ht_beam ht_heardAhead ht_sharesMost ht_sharesMoved ht_nextMost ht_nextMoved hR t_thrown t_taped t_size z.1 t_from t_kind z.2.1 t_fault t_spot z.2.2.1 t_told t_isBegun t_had t_rowMany t_least t_shortMany t_mostWorth t_fitMany t_narrowCost t_tape v2 z.2.2.2 N r hf (by cases r with
    | inl r => exact hK
    | inr r => exact hK) hl hw) n _ res hf hK H locs ls hl hw
set_option maxHeartbeats 4000000 in
set_option maxRecDepth 100000 in
theorem tX12_go_j336 {p : Program} {l : Launch} {e : Env} {R : Room} {s : State} {m : MethodId} {args : Array Value} {below : List Frame} {meth : Method} {c : Code} {D : va_G} {dA : Nat → ClassId} {w0 : va_W} {Q : State → Prop} {H : Heap} {locs : List Loc} {ls : Array Slot} {cells slots : Nat} (C : CX p s m args meth c cX12_go 5 none RX12 D dA) (ht ht_tape ht_now ht_read ht_kept ht_ground ht_readGround ht_keptGround ht_name ht_isKept ht_louds ht_sharps ht_row ht_along ht_needs ht_best ht_order ht_shortRow ht_was ht_saved ht_next ht_fitted ht_beam ht_heardAhead ht_sharesMost ht_sharesMoved ht_nextMost ht_nextMoved : Nat) (hR : 1 ≤ R.frames ∧ 21 ≤ R.locals ∧ cells ≤ R.cells ∧ slots ≤ R.slots)  (t_thrown : Int32) (t_taped : Int32) (t_size : Int32) (t_to : Int32) (t_from : Int32) (t_kind : Int32) (t_number : Int32) (t_fault : Int32) (t_spot : Int32) (t_word : Int64) (t_told : Int32) (t_isBegun : Int32) (t_had : Int32) (t_rowMany : Int32) (t_least : Int32) (t_shortMany : Int32) (t_mostWorth : Int32) (t_fitMany : Int32) (t_narrowCost : Int32) (t_tape : (Nat → Int32)) (v2 : Int32) (u1 : Int32) (u2 : Int32) (N : Nat) (res : (Int32 × Int32 × Int32 × Int32 × Int64)) (hf : fX12_go_j336 N t_size t_to t_from t_kind t_number t_word t_tape v2 u1 u2 = some res) (hK : (∀ (H : Heap) (locs : List Loc) (pc : Nat) (ls : Array Slot), decode cX12_go pc = .ok (.return_, 1) → St D w0 s (wX12_go dA ht ht_tape ht_now ht_read ht_kept ht_ground ht_readGround ht_keptGround ht_name ht_isKept ht_louds ht_sharps ht_row ht_along ht_needs ht_best ht_order ht_shortRow ht_was ht_saved ht_next ht_fitted ht_beam ht_heardAhead ht_sharesMost ht_sharesMoved ht_nextMost ht_nextMoved t_thrown t_taped t_size res.1 res.2.1 res.2.2.1 res.2.2.2.1 t_fault t_spot res.2.2.2.2 t_told t_isBegun t_had t_rowMany t_least t_shortMany t_mostWorth t_fitMany t_narrowCost t_tape) H locs → W p l e R s m args below meth c H locs cells slots Q (F0 m pc ls []))) (hl : lv_has ls 5 [(2, .int v2)]) (hw : St D w0 s (wX12_go dA ht ht_tape ht_now ht_read ht_kept ht_ground ht_readGround ht_keptGround ht_name ht_isKept ht_louds ht_sharps ht_row ht_along ht_needs ht_best ht_order ht_shortRow ht_was ht_saved ht_next ht_fitted ht_beam ht_heardAhead ht_sharesMost ht_sharesMoved ht_nextMost ht_nextMoved t_thrown t_taped t_size t_to t_from t_kind t_number t_fault t_spot t_word t_told t_isBegun t_had t_rowMany t_least t_shortMany t_mostWorth t_fitMany t_narrowCost t_tape) H locs) : W p l e R s m args below meth c H locs cells slots Q (F0 m 336 ls [.int u2, .int u1, .ref ht]) := by
  have hx := C.1
  have hb := C.2.1
  have hml := C.2.2.1
  have hown := C.2.2.2.1
  have hts := C.2.2.2.2.1
  unfold fX12_go_j336 at hf
  refine lv_icmp_le (tgt := 343) hx hb dX12_go_336 (by decide) (fun c36 => ?_) (fun c36 => ?_)
  · have hf := ite_t c36 hf
    refine lv_iload_n hx hb dX12_go_343 rfl (lv_at hl 0 rfl) ?_
    refine lv_if_eq (tgt := 351) hx hb dX12_go_344 (by decide) (fun c37 => ?_) (fun c37 => ?_)
    · have hf := ite_t c37 hf
      refine lv_iconst (v := (3 : Int32)) hx hb dX12_go_351 (by decide) ?_
      refine k_put C hw 0 rfl rfl wiX12 tyX12 tyX12_ok nmX12 6 (by decide) wfX12_116 rfl rfl rfl (Nat.le_of_ble_eq_true rfl) dX12_go_352 (wX12_go dA ht ht_tape ht_now ht_read ht_kept ht_ground ht_readGround ht_keptGround ht_name ht_isKept ht_louds ht_sharps ht_row ht_along ht_needs ht_best ht_order ht_shortRow ht_was ht_saved ht_next ht_fitted ht_beam ht_heardAhead ht_sharesMost ht_sharesMoved ht_nextMost ht_nextMoved t_thrown t_taped t_size t_to t_from (3 : Int32) t_number t_fault t_spot t_word t_told t_isBegun t_had t_rowMany t_least t_shortMany t_mostWorth t_fitMany t_narrowCost t_tape) rfl (fun H locs hw => ?_)
      obtain rfl := some_r hf
      exact hK _ _ _ _ dX12_go_355 hw
    · have hf := ite_f c37 hf
      refine lv_iconst (v := (2 : Int32)) hx hb dX12_go_347 (by decide) ?_
      refine lv_goto (tgt := 352) hx hb dX12_go_348 (by decide) ?_
      refine k_put C hw 0 rfl rfl wiX12 tyX12 tyX12_ok nmX12 6 (by decide) wfX12_116 rfl rfl rfl (Nat.le_of_ble_eq_true rfl) dX12_go_352 (wX12_go dA ht ht_tape ht_now ht_read ht_kept ht_ground ht_readGround ht_keptGround ht_name ht_isKept ht_louds ht_sharps ht_row ht_along ht_needs ht_best ht_order ht_shortRow ht_was ht_saved ht_next ht_fitted ht_beam ht_heardAhead ht_sharesMost ht_sharesMoved ht_nextMost ht_nextMoved t_thrown t_taped t_size t_to t_from (2 : Int32) t_number t_fault t_spot t_word t_told t_isBegun t_had t_rowMany t_least t_shortMany t_mostWorth t_fitMany t_narrowCost t_tape) rfl (fun H locs hw => ?_)
      obtain rfl := some_r hf
      exact hK _ _ _ _ dX12_go_355 hw
  · have hf := ite_f c36 hf
    refine lv_iconst (v := (1 : Int32)) hx hb dX12_go_339 (by decide) ?_
    refine lv_goto (tgt := 352) hx hb dX12_go_340 (by decide) ?_
    refine k_put C hw 0 rfl rfl wiX12 tyX12 tyX12_ok nmX12 6 (by decide) wfX12_116 rfl rfl rfl (Nat.le_of_ble_eq_true rfl) dX12_go_352 (wX12_go dA ht ht_tape ht_now ht_read ht_kept ht_ground ht_readGround ht_keptGround ht_name ht_isKept ht_louds ht_sharps ht_row ht_along ht_needs ht_best ht_order ht_shortRow ht_was ht_saved ht_next ht_fitted ht_beam ht_heardAhead ht_sharesMost ht_sharesMoved ht_nextMost ht_nextMoved t_thrown t_taped t_size t_to t_from (1 : Int32) t_number t_fault t_spot t_word t_told t_isBegun t_had t_rowMany t_least t_shortMany t_mostWorth t_fitMany t_narrowCost t_tape) rfl (fun H locs hw => ?_)
    obtain rfl := some_r hf
    exact hK _ _ _ _ dX12_go_355 hw
set_option maxHeartbeats 4000000 in
set_option maxRecDepth 100000 in
theorem tX12_go_j160 {p : Program} {l : Launch} {e : Env} {R : Room} {s : State} {m : MethodId} {args : Array Value} {below : List Frame} {meth : Method} {c : Code} {D : va_G} {dA : Nat → ClassId} {w0 : va_W} {Q : State → Prop} {H : Heap} {locs : List Loc} {ls : Array Slot} {cells slots : Nat} (C : CX p s m args meth c cX12_go 5 none RX12 D dA) (ht ht_tape ht_now ht_read ht_kept ht_ground ht_readGround ht_keptGround ht_name ht_isKept ht_louds ht_sharps ht_row ht_along ht_needs ht_best ht_order ht_shortRow ht_was ht_saved ht_next ht_fitted ht_beam ht_heardAhead ht_sharesMost ht_sharesMoved ht_nextMost ht_nextMoved : Nat) (hR : 1 ≤ R.frames ∧ 21 ≤ R.locals ∧ cells ≤ R.cells ∧ slots ≤ R.slots)  (t_thrown : Int32) (t_taped : Int32) (t_size : Int32) (t_to : Int32) (t_from : Int32) (t_kind : Int32) (t_number : Int32) (t_fault : Int32) (t_spot : Int32) (t_word : Int64) (t_told : Int32) (t_isBegun : Int32) (t_had : Int32) (t_rowMany : Int32) (t_least : Int32) (t_shortMany : Int32) (t_mostWorth : Int32) (t_fitMany : Int32) (t_narrowCost : Int32) (t_tape : (Nat → Int32)) (v1 : Int32) (N : Nat) (res : (Int32 × Int32 × Int32 × Int32 × Int64)) (hf : fX12_go_j160 N t_size t_to t_from t_kind t_number t_word t_tape v1 = some res) (hK : (∀ (H : Heap) (locs : List Loc) (pc : Nat) (ls : Array Slot), decode cX12_go pc = .ok (.return_, 1) → St D w0 s (wX12_go dA ht ht_tape ht_now ht_read ht_kept ht_ground ht_readGround ht_keptGround ht_name ht_isKept ht_louds ht_sharps ht_row ht_along ht_needs ht_best ht_order ht_shortRow ht_was ht_saved ht_next ht_fitted ht_beam ht_heardAhead ht_sharesMost ht_sharesMoved ht_nextMost ht_nextMoved t_thrown t_taped t_size res.1 res.2.1 res.2.2.1 res.2.2.2.1 t_fault t_spot res.2.2.2.2 t_told t_isBegun t_had t_rowMany t_least t_shortMany t_mostWorth t_fitMany t_narrowCost t_tape) H locs → W p l e R s m args below meth c H locs cells slots Q (F0 m pc ls []))) (hl : lv_has ls 5 [(0, .ref ht), (1, .int v1)]) (hw : St D w0 s (wX12_go dA ht ht_tape ht_now ht_read ht_kept ht_ground ht_readGround ht_keptGround ht_name ht_isKept ht_louds ht_sharps ht_row ht_along ht_needs ht_best ht_order ht_shortRow ht_was ht_saved ht_next ht_fitted ht_beam ht_heardAhead ht_sharesMost ht_sharesMoved ht_nextMost ht_nextMoved t_thrown t_taped t_size t_to t_from t_kind t_number t_fault t_spot t_word t_told t_isBegun t_had t_rowMany t_least t_shortMany t_mostWorth t_fitMany t_narrowCost t_tape) H locs) : W p l e R s m args below meth c H locs cells slots Q (F0 m 160 ls []) := by
  have hx := C.1
  have hb := C.2.1
  have hml := C.2.2.1
  have hown := C.2.2.2.1
  have hts := C.2.2.2.2.1
  unfold fX12_go_j160 at hf
  refine lv_iload_n hx hb dX12_go_160 rfl (lv_at hl 1 rfl) ?_
  obtain ⟨o15, ho15, hf⟩ := bind_r hf
  refine k_callSi C hw (n := 1) (As := [.int v1]) (w1 := (wX12_go dA ht ht_tape ht_now ht_read ht_kept ht_ground ht_readGround ht_keptGround ht_name ht_isKept ht_louds ht_sharps ht_row ht_along ht_needs ht_best ht_order ht_shortRow ht_was ht_saved ht_next ht_fitted ht_beam ht_heardAhead ht_sharesMost ht_sharesMoved ht_nextMost ht_nextMoved t_thrown t_taped t_size t_to t_from t_kind t_number t_fault t_spot t_word t_told t_isBegun t_had t_rowMany t_least t_shortMany t_mostWorth t_fitMany t_narrowCost t_tape)) (wr := [(ht, .inr (12, [.int t_thrown, .ref ht_tape, .int t_taped, .int t_size, .int t_to, .int t_from, .int t_kind, .int t_number, .int t_fault, .int t_spot, .long t_word, .int t_told, .ref ht_now, .ref ht_read, .ref ht_kept, .ref ht_ground, .ref ht_readGround, .ref ht_keptGround, .ref ht_name, .ref ht_isKept, .int t_isBegun, .int t_had, .ref ht_louds, .ref ht_sharps, .ref ht_row, .ref ht_along, .ref ht_needs, .ref ht_best, .int t_rowMany, .ref ht_order, .ref ht_shortRow, .int t_least, .int t_shortMany, .ref ht_was, .ref ht_saved, .int t_mostWorth, .ref ht_next, .ref ht_fitted, .int t_fitMany, .int t_narrowCost, .ref ht_beam, .ref ht_heardAhead, .ref ht_sharesMost, .ref ht_sharesMoved, .ref ht_nextMost, .ref ht_nextMoved])), (ht_tape, .inl (dA 0, 1240, .inl t_tape))]) [] [0, 1] [0, 1] rfl rfl (by decide) (by decide) (by decide) rfl (by decide) (qX12_isLetter l D dA  v1 _ ho15) wlX12_119 wsX12_isLetter_t wnX12 wcX12_isLetter (by decide +kernel) ⟨Nat.le_trans (by decide) hR.1, Nat.le_trans (by decide) hR.2.1⟩ hR.2.2 rfl hl.1 (Nat.le_of_ble_eq_true rfl) dX12_go_161 rfl (fun H locs hw => ?_)
  refine lv_istore_n (lv' := [(2, .int o15), (0, .ref ht), (1, .int v1)]) hx hb dX12_go_164 rfl hl (by decide) rfl (fun ls hl => ?_)
  refine lv_iconst (v := (1 : Int32)) hx hb dX12_go_165 (by decide) ?_
  refine lv_istore_n (lv' := [(3, .int (1 : Int32)), (2, .int o15), (0, .ref ht), (1, .int v1)]) hx hb dX12_go_166 rfl hl (by decide) rfl (fun ls hl => ?_)
  refine lv_aload_n hx hb dX12_go_167 rfl (lv_at hl 2 rfl) ?_
  refine lv_lconst (v := (0 : Int64)) hx hb dX12_go_168 (by decide) ?_
  refine k_put C hw 0 rfl rfl wiX12 tyX12 tyX12_ok nmX12 10 (by decide) wfX12_126 rfl rfl rfl (Nat.le_of_ble_eq_true rfl) dX12_go_169 (wX12_go dA ht ht_tape ht_now ht_read ht_kept ht_ground ht_readGround ht_keptGround ht_name ht_isKept ht_louds ht_sharps ht_row ht_along ht_needs ht_best ht_order ht_shortRow ht_was ht_saved ht_next ht_fitted ht_beam ht_heardAhead ht_sharesMost ht_sharesMoved ht_nextMost ht_nextMoved t_thrown t_taped t_size t_to t_from t_kind t_number t_fault t_spot (0 : Int64) t_told t_isBegun t_had t_rowMany t_least t_shortMany t_mostWorth t_fitMany t_narrowCost t_tape) rfl (fun H locs hw => ?_)
  refine lv_aload_n hx hb dX12_go_172 rfl (lv_at hl 2 rfl) ?_
  refine lv_iconst (v := (0 : Int32)) hx hb dX12_go_173 (by decide) ?_
  refine k_put C hw 0 rfl rfl wiX12 tyX12 tyX12_ok nmX12 7 (by decide) wfX12_130 rfl rfl rfl (Nat.le_of_ble_eq_true rfl) dX12_go_174 (wX12_go dA ht ht_tape ht_now ht_read ht_kept ht_ground ht_readGround ht_keptGround ht_name ht_isKept ht_louds ht_sharps ht_row ht_along ht_needs ht_best ht_order ht_shortRow ht_was ht_saved ht_next ht_fitted ht_beam ht_heardAhead ht_sharesMost ht_sharesMoved ht_nextMost ht_nextMoved t_thrown t_taped t_size t_to t_from t_kind (0 : Int32) t_fault t_spot (0 : Int64) t_told t_isBegun t_had t_rowMany t_least t_shortMany t_mostWorth t_fitMany t_narrowCost t_tape) rfl (fun H locs hw => ?_)
  obtain ⟨q33, hq33, hf⟩ := bind_r hf
  refine tX12_go_l177 C ht ht_tape ht_now ht_read ht_kept ht_ground ht_readGround ht_keptGround ht_name ht_isKept ht_louds ht_sharps ht_row ht_along ht_needs ht_best ht_order ht_shortRow ht_was ht_saved ht_next ht_fitted ht_beam ht_heardAhead ht_sharesMost ht_sharesMoved ht_nextMost ht_nextMoved hR t_thrown t_taped t_size t_to t_from t_kind (0 : Int32) t_fault t_spot (0 : Int64) t_told t_isBegun t_had t_rowMany t_least t_shortMany t_mostWorth t_fitMany t_narrowCost t_tape o15 (1 : Int32) N _ _ hq33 ?_ (lv_sub hl [2, 1, 0] rfl) hw
  intro H locs ls hl hw
  refine lv_aload_n hx hb dX12_go_312 rfl (lv_at hl 0 rfl) ?_
  refine lv_iload_n hx hb dX12_go_313 rfl (lv_at hl 2 rfl) ?_
  refine lv_if_eq (tgt := 339) hx hb dX12_go_314 (by decide) (fun c34 => ?_) (fun c34 => ?_)
  · have hf := ite_t c34 hf
    refine lv_iconst (v := (1 : Int32)) hx hb dX12_go_339 (by decide) ?_
    refine lv_goto (tgt := 352) hx hb dX12_go_340 (by decide) ?_
    refine k_put C hw 0 rfl rfl wiX12 tyX12 tyX12_ok nmX12 6 (by decide) wfX12_116 rfl rfl rfl (Nat.le_of_ble_eq_true rfl) dX12_go_352 (wX12_go dA ht ht_tape ht_now ht_read ht_kept ht_ground ht_readGround ht_keptGround ht_name ht_isKept ht_louds ht_sharps ht_row ht_along ht_needs ht_best ht_order ht_shortRow ht_was ht_saved ht_next ht_fitted ht_beam ht_heardAhead ht_sharesMost ht_sharesMoved ht_nextMost ht_nextMoved t_thrown t_taped t_size q33.1 t_from (1 : Int32) q33.2.1 t_fault t_spot q33.2.2.1 t_told t_isBegun t_had t_rowMany t_least t_shortMany t_mostWorth t_fitMany t_narrowCost t_tape) rfl (fun H locs hw => ?_)
    obtain rfl := some_r hf
    exact hK _ _ _ _ dX12_go_355 hw
  · have hf := ite_f c34 hf
    refine lv_aload_n hx hb dX12_go_317 rfl (lv_at hl 0 rfl) ?_
    refine k_get C hw 0 rfl rfl wiX12 4 (by decide) wfX12_110 rfl dX12_go_318 ?_
    refine lv_aload_n hx hb dX12_go_321 rfl (lv_at hl 0 rfl) ?_
    refine k_get C hw 0 rfl rfl wiX12 5 (by decide) wfX12_113 rfl dX12_go_322 ?_
    refine lv_isub hx hb dX12_go_325 ?_
    refine lv_iload_n hx hb dX12_go_326 rfl (lv_at hl 1 rfl) ?_
    refine lv_if_eq (tgt := 335) hx hb dX12_go_327 (by decide) (fun c35 => ?_) (fun c35 => ?_)
    · have hf := ite_t c35 hf
      refine lv_iconst (v := (4 : Int32)) hx hb dX12_go_335 (by decide) ?_
      exact tX12_go_j336 C ht ht_tape ht_now ht_read ht_kept ht_ground ht_readGround ht_keptGround ht_name ht_isKept ht_louds ht_sharps ht_row ht_along ht_needs ht_best ht_order ht_shortRow ht_was ht_saved ht_next ht_fitted ht_beam ht_heardAhead ht_sharesMost ht_sharesMoved ht_nextMost ht_nextMoved hR t_thrown t_taped t_size q33.1 t_from t_kind q33.2.1 t_fault t_spot q33.2.2.1 t_told t_isBegun t_had t_rowMany t_least t_shortMany t_mostWorth t_fitMany t_narrowCost t_tape o15 (q33.1 - t_from) (4 : Int32) N _ hf hK (lv_sub hl [1] rfl) hw
    · have hf := ite_f c35 hf
      refine lv_bipush (v := (6 : Int32)) hx hb dX12_go_330 (by decide) ?_
      refine lv_goto (tgt := 336) hx hb dX12_go_332 (by decide) ?_
      exact tX12_go_j336 C ht ht_tape ht_now ht_read ht_kept ht_ground ht_readGround ht_keptGround ht_name ht_isKept ht_louds ht_sharps ht_row ht_along ht_needs ht_best ht_order ht_shortRow ht_was ht_saved ht_next ht_fitted ht_beam ht_heardAhead ht_sharesMost ht_sharesMoved ht_nextMost ht_nextMoved hR t_thrown t_taped t_size q33.1 t_from t_kind q33.2.1 t_fault t_spot q33.2.2.1 t_told t_isBegun t_had t_rowMany t_least t_shortMany t_mostWorth t_fitMany t_narrowCost t_tape o15 (q33.1 - t_from) (6 : Int32) N _ hf hK (lv_sub hl [1] rfl) hw
set_option maxHeartbeats 4000000 in
set_option maxRecDepth 100000 in
theorem tX12_go_j146 {p : Program} {l : Launch} {e : Env} {R : Room} {s : State} {m : MethodId} {args : Array Value} {below : List Frame} {meth : Method} {c : Code} {D : va_G} {dA : Nat → ClassId} {w0 : va_W} {Q : State → Prop} {H : Heap} {locs : List Loc} {ls : Array Slot} {cells slots : Nat} (C : CX p s m args meth c cX12_go 5 none RX12 D dA) (ht ht_tape ht_now ht_read ht_kept ht_ground ht_readGround ht_keptGround ht_name ht_isKept ht_louds ht_sharps ht_row ht_along ht_needs ht_best ht_order ht_shortRow ht_was ht_saved ht_next ht_fitted ht_beam ht_heardAhead ht_sharesMost ht_sharesMoved ht_nextMost ht_nextMoved : Nat) (hR : 1 ≤ R.frames ∧ 21 ≤ R.locals ∧ cells ≤ R.cells ∧ slots ≤ R.slots)  (t_thrown : Int32) (t_taped : Int32) (t_size : Int32) (t_to : Int32) (t_from : Int32) (t_kind : Int32) (t_number : Int32) (t_fault : Int32) (t_spot : Int32) (t_word : Int64) (t_told : Int32) (t_isBegun : Int32) (t_had : Int32) (t_rowMany : Int32) (t_least : Int32) (t_shortMany : Int32) (t_mostWorth : Int32) (t_fitMany : Int32) (t_narrowCost : Int32) (t_tape : (Nat → Int32)) (u1 : Int32) (N : Nat) (res : (Int32 × Int32 × Int32 × Int32 × Int64)) (hf : fX12_go_j146 N t_size t_to t_from t_kind t_number t_word t_tape u1 = some res) (hK : (∀ (H : Heap) (locs : List Loc) (pc : Nat) (ls : Array Slot), decode cX12_go pc = .ok (.return_, 1) → St D w0 s (wX12_go dA ht ht_tape ht_now ht_read ht_kept ht_ground ht_readGround ht_keptGround ht_name ht_isKept ht_louds ht_sharps ht_row ht_along ht_needs ht_best ht_order ht_shortRow ht_was ht_saved ht_next ht_fitted ht_beam ht_heardAhead ht_sharesMost ht_sharesMoved ht_nextMost ht_nextMoved t_thrown t_taped t_size res.1 res.2.1 res.2.2.1 res.2.2.2.1 t_fault t_spot res.2.2.2.2 t_told t_isBegun t_had t_rowMany t_least t_shortMany t_mostWorth t_fitMany t_narrowCost t_tape) H locs → W p l e R s m args below meth c H locs cells slots Q (F0 m pc ls []))) (hl : lv_has ls 5 [(0, .ref ht)]) (hw : St D w0 s (wX12_go dA ht ht_tape ht_now ht_read ht_kept ht_ground ht_readGround ht_keptGround ht_name ht_isKept ht_louds ht_sharps ht_row ht_along ht_needs ht_best ht_order ht_shortRow ht_was ht_saved ht_next ht_fitted ht_beam ht_heardAhead ht_sharesMost ht_sharesMoved ht_nextMost ht_nextMoved t_thrown t_taped t_size t_to t_from t_kind t_number t_fault t_spot t_word t_told t_isBegun t_had t_rowMany t_least t_shortMany t_mostWorth t_fitMany t_narrowCost t_tape) H locs) : W p l e R s m args below meth c H locs cells slots Q (F0 m 146 ls [.int u1, .ref ht]) := by
  have hx := C.1
  have hb := C.2.1
  have hml := C.2.2.1
  have hown := C.2.2.2.1
  have hts := C.2.2.2.2.1
  unfold fX12_go_j146 at hf
  refine k_put C hw 0 rfl rfl wiX12 tyX12 tyX12_ok nmX12 6 (by decide) wfX12_116 rfl rfl rfl (Nat.le_of_ble_eq_true rfl) dX12_go_146 (wX12_go dA ht ht_tape ht_now ht_read ht_kept ht_ground ht_readGround ht_keptGround ht_name ht_isKept ht_louds ht_sharps ht_row ht_along ht_needs ht_best ht_order ht_shortRow ht_was ht_saved ht_next ht_fitted ht_beam ht_heardAhead ht_sharesMost ht_sharesMoved ht_nextMost ht_nextMoved t_thrown t_taped t_size t_to t_from u1 t_number t_fault t_spot t_word t_told t_isBegun t_had t_rowMany t_least t_shortMany t_mostWorth t_fitMany t_narrowCost t_tape) rfl (fun H locs hw => ?_)
  refine lv_aload_n hx hb dX12_go_149 rfl (lv_at hl 0 rfl) ?_
  refine lv_dup hx hb dX12_go_150 rfl ?_
  refine k_get C hw 0 rfl rfl wiX12 4 (by decide) wfX12_110 rfl dX12_go_151 ?_
  refine lv_iconst (v := (1 : Int32)) hx hb dX12_go_154 (by decide) ?_
  refine lv_iadd hx hb dX12_go_155 ?_
  refine lv_topi (fun x41 ex41 => ?_)
  have hf := bnd_r ex41 hf
  refine k_put C hw 0 rfl rfl wiX12 tyX12 tyX12_ok nmX12 4 (by decide) wfX12_110 rfl rfl rfl (Nat.le_of_ble_eq_true rfl) dX12_go_156 (wX12_go dA ht ht_tape ht_now ht_read ht_kept ht_ground ht_readGround ht_keptGround ht_name ht_isKept ht_louds ht_sharps ht_row ht_along ht_needs ht_best ht_order ht_shortRow ht_was ht_saved ht_next ht_fitted ht_beam ht_heardAhead ht_sharesMost ht_sharesMoved ht_nextMost ht_nextMoved t_thrown t_taped t_size x41 t_from u1 t_number t_fault t_spot t_word t_told t_isBegun t_had t_rowMany t_least t_shortMany t_mostWorth t_fitMany t_narrowCost t_tape) rfl (fun H locs hw => ?_)
  obtain rfl := some_r hf
  exact hK _ _ _ _ dX12_go_159 hw
set_option maxHeartbeats 4000000 in
set_option maxRecDepth 100000 in
theorem tX12_go_j93 {p : Program} {l : Launch} {e : Env} {R : Room} {s : State} {m : MethodId} {args : Array Value} {below : List Frame} {meth : Method} {c : Code} {D : va_G} {dA : Nat → ClassId} {w0 : va_W} {Q : State → Prop} {H : Heap} {locs : List Loc} {ls : Array Slot} {cells slots : Nat} (C : CX p s m args meth c cX12_go 5 none RX12 D dA) (ht ht_tape ht_now ht_read ht_kept ht_ground ht_readGround ht_keptGround ht_name ht_isKept ht_louds ht_sharps ht_row ht_along ht_needs ht_best ht_order ht_shortRow ht_was ht_saved ht_next ht_fitted ht_beam ht_heardAhead ht_sharesMost ht_sharesMoved ht_nextMost ht_nextMoved : Nat) (hR : 1 ≤ R.frames ∧ 21 ≤ R.locals ∧ cells ≤ R.cells ∧ slots ≤ R.slots)  (t_thrown : Int32) (t_taped : Int32) (t_size : Int32) (t_to : Int32) (t_from : Int32) (t_kind : Int32) (t_number : Int32) (t_fault : Int32) (t_spot : Int32) (t_word : Int64) (t_told : Int32) (t_isBegun : Int32) (t_had : Int32) (t_rowMany : Int32) (t_least : Int32) (t_shortMany : Int32) (t_mostWorth : Int32) (t_fitMany : Int32) (t_narrowCost : Int32) (t_tape : (Nat → Int32))  (N : Nat) (res : (Int32 × Int32 × Int32 × Int32 × Int64)) (hf : fX12_go_j93 N t_size t_to t_from t_kind t_number t_word t_tape = some res) (hK : (∀ (H : Heap) (locs : List Loc) (pc : Nat) (ls : Array Slot), decode cX12_go pc = .ok (.return_, 1) → St D w0 s (wX12_go dA ht ht_tape ht_now ht_read ht_kept ht_ground ht_readGround ht_keptGround ht_name ht_isKept ht_louds ht_sharps ht_row ht_along ht_needs ht_best ht_order ht_shortRow ht_was ht_saved ht_next ht_fitted ht_beam ht_heardAhead ht_sharesMost ht_sharesMoved ht_nextMost ht_nextMoved t_thrown t_taped t_size res.1 res.2.1 res.2.2.1 res.2.2.2.1 t_fault t_spot res.2.2.2.2 t_told t_isBegun t_had t_rowMany t_least t_shortMany t_mostWorth t_fitMany t_narrowCost t_tape) H locs → W p l e R s m args below meth c H locs cells slots Q (F0 m pc ls []))) (hl : lv_has ls 5 [(0, .ref ht)]) (hw : St D w0 s (wX12_go dA ht ht_tape ht_now ht_read ht_kept ht_ground ht_readGround ht_keptGround ht_name ht_isKept ht_louds ht_sharps ht_row ht_along ht_needs ht_best ht_order ht_shortRow ht_was ht_saved ht_next ht_fitted ht_beam ht_heardAhead ht_sharesMost ht_sharesMoved ht_nextMost ht_nextMoved t_thrown t_taped t_size t_to t_from t_kind t_number t_fault t_spot t_word t_told t_isBegun t_had t_rowMany t_least t_shortMany t_mostWorth t_fitMany t_narrowCost t_tape) H locs) : W p l e R s m args below meth c H locs cells slots Q (F0 m 93 ls []) := by
  have hx := C.1
  have hb := C.2.1
  have hml := C.2.2.1
  have hown := C.2.2.2.1
  have hts := C.2.2.2.2.1
  unfold fX12_go_j93 at hf
  refine lv_aload_n hx hb dX12_go_93 rfl (lv_at hl 0 rfl) ?_
  refine k_get C hw 0 rfl rfl wiX12 4 (by decide) wfX12_110 rfl dX12_go_94 ?_
  refine lv_aload_n hx hb dX12_go_97 rfl (lv_at hl 0 rfl) ?_
  refine k_get C hw 0 rfl rfl wiX12 3 (by decide) wfX12_107 rfl dX12_go_98 ?_
  refine lv_icmp_lt (tgt := 110) hx hb dX12_go_101 (by decide) (fun c10 => ?_) (fun c10 => ?_)
  · have hf := ite_t c10 hf
    refine lv_aload_n hx hb dX12_go_110 rfl (lv_at hl 0 rfl) ?_
    refine k_get C hw 0 rfl rfl wiX12 1 (by decide) wfX12_7 rfl dX12_go_111 ?_
    refine lv_aload_n hx hb dX12_go_114 rfl (lv_at hl 0 rfl) ?_
    refine k_get C hw 0 rfl rfl wiX12 4 (by decide) wfX12_110 rfl dX12_go_115 ?_
    obtain ⟨g11, hf⟩ := gdi_r hf
    refine k_iald C hw 1 rfl g11 dX12_go_118 ?_
    refine lv_topi (fun x12 ex12 => ?_)
    have hf := bnd_r ex12 hf
    refine lv_istore_n (lv' := [(1, .int x12), (0, .ref ht)]) hx hb dX12_go_119 rfl hl (by decide) rfl (fun ls hl => ?_)
    refine lv_iload_n hx hb dX12_go_120 rfl (lv_at hl 0 rfl) ?_
    obtain ⟨o13, ho13, hf⟩ := bind_r hf
    refine k_callSi C hw (n := 1) (As := [.int x12]) (w1 := (wX12_go dA ht ht_tape ht_now ht_read ht_kept ht_ground ht_readGround ht_keptGround ht_name ht_isKept ht_louds ht_sharps ht_row ht_along ht_needs ht_best ht_order ht_shortRow ht_was ht_saved ht_next ht_fitted ht_beam ht_heardAhead ht_sharesMost ht_sharesMoved ht_nextMost ht_nextMoved t_thrown t_taped t_size t_to t_from t_kind t_number t_fault t_spot t_word t_told t_isBegun t_had t_rowMany t_least t_shortMany t_mostWorth t_fitMany t_narrowCost t_tape)) (wr := [(ht, .inr (12, [.int t_thrown, .ref ht_tape, .int t_taped, .int t_size, .int t_to, .int t_from, .int t_kind, .int t_number, .int t_fault, .int t_spot, .long t_word, .int t_told, .ref ht_now, .ref ht_read, .ref ht_kept, .ref ht_ground, .ref ht_readGround, .ref ht_keptGround, .ref ht_name, .ref ht_isKept, .int t_isBegun, .int t_had, .ref ht_louds, .ref ht_sharps, .ref ht_row, .ref ht_along, .ref ht_needs, .ref ht_best, .int t_rowMany, .ref ht_order, .ref ht_shortRow, .int t_least, .int t_shortMany, .ref ht_was, .ref ht_saved, .int t_mostWorth, .ref ht_next, .ref ht_fitted, .int t_fitMany, .int t_narrowCost, .ref ht_beam, .ref ht_heardAhead, .ref ht_sharesMost, .ref ht_sharesMoved, .ref ht_nextMost, .ref ht_nextMoved])), (ht_tape, .inl (dA 0, 1240, .inl t_tape))]) [] [0, 1] [0, 1] rfl rfl (by decide) (by decide) (by decide) rfl (by decide) (qX12_isLetter l D dA  x12 _ ho13) wlX12_119 wsX12_isLetter_t wnX12 wcX12_isLetter (by decide +kernel) ⟨Nat.le_trans (by decide) hR.1, Nat.le_trans (by decide) hR.2.1⟩ hR.2.2 rfl hl.1 (Nat.le_of_ble_eq_true rfl) dX12_go_121 rfl (fun H locs hw => ?_)
    refine lv_if_ne (tgt := 160) hx hb dX12_go_124 (by decide) (fun c14 => ?_) (fun c14 => ?_)
    · have hf := ite_f c14 hf
      exact tX12_go_j160 C ht ht_tape ht_now ht_read ht_kept ht_ground ht_readGround ht_keptGround ht_name ht_isKept ht_louds ht_sharps ht_row ht_along ht_needs ht_best ht_order ht_shortRow ht_was ht_saved ht_next ht_fitted ht_beam ht_heardAhead ht_sharesMost ht_sharesMoved ht_nextMost ht_nextMoved hR t_thrown t_taped t_size t_to t_from t_kind t_number t_fault t_spot t_word t_told t_isBegun t_had t_rowMany t_least t_shortMany t_mostWorth t_fitMany t_narrowCost t_tape x12 N _ hf hK (lv_sub hl [1, 0] rfl) hw
    · have hf := ite_t c14 hf
      refine lv_iload_n hx hb dX12_go_127 rfl (lv_at hl 0 rfl) ?_
      obtain ⟨o38, ho38, hf⟩ := bind_r hf
      refine k_callSi C hw (n := 1) (As := [.int x12]) (w1 := (wX12_go dA ht ht_tape ht_now ht_read ht_kept ht_ground ht_readGround ht_keptGround ht_name ht_isKept ht_louds ht_sharps ht_row ht_along ht_needs ht_best ht_order ht_shortRow ht_was ht_saved ht_next ht_fitted ht_beam ht_heardAhead ht_sharesMost ht_sharesMoved ht_nextMost ht_nextMoved t_thrown t_taped t_size t_to t_from t_kind t_number t_fault t_spot t_word t_told t_isBegun t_had t_rowMany t_least t_shortMany t_mostWorth t_fitMany t_narrowCost t_tape)) (wr := [(ht, .inr (12, [.int t_thrown, .ref ht_tape, .int t_taped, .int t_size, .int t_to, .int t_from, .int t_kind, .int t_number, .int t_fault, .int t_spot, .long t_word, .int t_told, .ref ht_now, .ref ht_read, .ref ht_kept, .ref ht_ground, .ref ht_readGround, .ref ht_keptGround, .ref ht_name, .ref ht_isKept, .int t_isBegun, .int t_had, .ref ht_louds, .ref ht_sharps, .ref ht_row, .ref ht_along, .ref ht_needs, .ref ht_best, .int t_rowMany, .ref ht_order, .ref ht_shortRow, .int t_least, .int t_shortMany, .ref ht_was, .ref ht_saved, .int t_mostWorth, .ref ht_next, .ref ht_fitted, .int t_fitMany, .int t_narrowCost, .ref ht_beam, .ref ht_heardAhead, .ref ht_sharesMost, .ref ht_sharesMoved, .ref ht_nextMost, .ref ht_nextMoved])), (ht_tape, .inl (dA 0, 1240, .inl t_tape))]) [] [0, 1] [0, 1] rfl rfl (by decide) (by decide) (by decide) rfl (by decide) (qX12_isDigit l D dA  x12 _ ho38) wlX12_123 wsX12_isDigit_t wnX12 wcX12_isDigit (by decide +kernel) ⟨Nat.le_trans (by decide) hR.1, Nat.le_trans (by decide) hR.2.1⟩ hR.2.2 rfl hl.1 (Nat.le_of_ble_eq_true rfl) dX12_go_128 rfl (fun H locs hw => ?_)
      refine lv_if_ne (tgt := 160) hx hb dX12_go_131 (by decide) (fun c39 => ?_) (fun c39 => ?_)
      · have hf := ite_f c39 hf
        exact tX12_go_j160 C ht ht_tape ht_now ht_read ht_kept ht_ground ht_readGround ht_keptGround ht_name ht_isKept ht_louds ht_sharps ht_row ht_along ht_needs ht_best ht_order ht_shortRow ht_was ht_saved ht_next ht_fitted ht_beam ht_heardAhead ht_sharesMost ht_sharesMoved ht_nextMost ht_nextMoved hR t_thrown t_taped t_size t_to t_from t_kind t_number t_fault t_spot t_word t_told t_isBegun t_had t_rowMany t_least t_shortMany t_mostWorth t_fitMany t_narrowCost t_tape x12 N _ hf hK (lv_sub hl [1, 0] rfl) hw
      · have hf := ite_t c39 hf
        refine lv_aload_n hx hb dX12_go_134 rfl (lv_at hl 1 rfl) ?_
        refine lv_iload_n hx hb dX12_go_135 rfl (lv_at hl 0 rfl) ?_
        refine lv_bipush (v := (59 : Int32)) hx hb dX12_go_136 (by decide) ?_
        refine lv_icmp_ne (tgt := 145) hx hb dX12_go_138 (by decide) (fun c40 => ?_) (fun c40 => ?_)
        · have hf := ite_f c40 hf
          refine lv_iconst (v := (1 : Int32)) hx hb dX12_go_145 (by decide) ?_
          exact tX12_go_j146 C ht ht_tape ht_now ht_read ht_kept ht_ground ht_readGround ht_keptGround ht_name ht_isKept ht_louds ht_sharps ht_row ht_along ht_needs ht_best ht_order ht_shortRow ht_was ht_saved ht_next ht_fitted ht_beam ht_heardAhead ht_sharesMost ht_sharesMoved ht_nextMost ht_nextMoved hR t_thrown t_taped t_size t_to t_from t_kind t_number t_fault t_spot t_word t_told t_isBegun t_had t_rowMany t_least t_shortMany t_mostWorth t_fitMany t_narrowCost t_tape (1 : Int32) N _ hf hK (lv_sub hl [1] rfl) hw
        · have hf := ite_t c40 hf
          refine lv_iconst (v := (4 : Int32)) hx hb dX12_go_141 (by decide) ?_
          refine lv_goto (tgt := 146) hx hb dX12_go_142 (by decide) ?_
          exact tX12_go_j146 C ht ht_tape ht_now ht_read ht_kept ht_ground ht_readGround ht_keptGround ht_name ht_isKept ht_louds ht_sharps ht_row ht_along ht_needs ht_best ht_order ht_shortRow ht_was ht_saved ht_next ht_fitted ht_beam ht_heardAhead ht_sharesMost ht_sharesMoved ht_nextMost ht_nextMoved hR t_thrown t_taped t_size t_to t_from t_kind t_number t_fault t_spot t_word t_told t_isBegun t_had t_rowMany t_least t_shortMany t_mostWorth t_fitMany t_narrowCost t_tape (4 : Int32) N _ hf hK (lv_sub hl [1] rfl) hw
  · have hf := ite_f c10 hf
    refine lv_aload_n hx hb dX12_go_104 rfl (lv_at hl 0 rfl) ?_
    refine lv_iconst (v := (0 : Int32)) hx hb dX12_go_105 (by decide) ?_
    refine k_put C hw 0 rfl rfl wiX12 tyX12 tyX12_ok nmX12 6 (by decide) wfX12_116 rfl rfl rfl (Nat.le_of_ble_eq_true rfl) dX12_go_106 (wX12_go dA ht ht_tape ht_now ht_read ht_kept ht_ground ht_readGround ht_keptGround ht_name ht_isKept ht_louds ht_sharps ht_row ht_along ht_needs ht_best ht_order ht_shortRow ht_was ht_saved ht_next ht_fitted ht_beam ht_heardAhead ht_sharesMost ht_sharesMoved ht_nextMost ht_nextMoved t_thrown t_taped t_size t_to t_from (0 : Int32) t_number t_fault t_spot t_word t_told t_isBegun t_had t_rowMany t_least t_shortMany t_mostWorth t_fitMany t_narrowCost t_tape) rfl (fun H locs hw => ?_)
    obtain rfl := some_r hf
    exact hK _ _ _ _ dX12_go_109 hw
set_option maxHeartbeats 4000000 in
set_option maxRecDepth 100000 in
theorem qX12_go (l : Launch) (D : va_G) (dA : Nat → ClassId) (ht ht_tape ht_now ht_read ht_kept ht_ground ht_readGround ht_keptGround ht_name ht_isKept ht_louds ht_sharps ht_row ht_along ht_needs ht_best ht_order ht_shortRow ht_was ht_saved ht_next ht_fitted ht_beam ht_heardAhead ht_sharesMost ht_sharesMoved ht_nextMost ht_nextMoved : Nat) (t_thrown : Int32) (t_taped : Int32) (t_size : Int32) (t_to : Int32) (t_from : Int32) (t_kind : Int32) (t_number : Int32) (t_fault : Int32) (t_spot : Int32) (t_word : Int64) (t_told : Int32) (t_isBegun : Int32) (t_had : Int32) (t_rowMany : Int32) (t_least : Int32) (t_shortMany : Int32) (t_mostWorth : Int32) (t_fitMany : Int32) (t_narrowCost : Int32) (t_tape : (Nat → Int32))  (N : Nat) (o : Int32 × Int32 × Int32 × Int32 × Int64) (hf : fX12_go N t_size t_to t_from t_kind t_number t_word t_tape = some o) : Mv l D dA yX12_go (Cond.code yX12_go cX12_go 5 none :: wA) 1 21 [.ref ht] (wX12_go dA ht ht_tape ht_now ht_read ht_kept ht_ground ht_readGround ht_keptGround ht_name ht_isKept ht_louds ht_sharps ht_row ht_along ht_needs ht_best ht_order ht_shortRow ht_was ht_saved ht_next ht_fitted ht_beam ht_heardAhead ht_sharesMost ht_sharesMoved ht_nextMost ht_nextMoved t_thrown t_taped t_size t_to t_from t_kind t_number t_fault t_spot t_word t_told t_isBegun t_had t_rowMany t_least t_shortMany t_mostWorth t_fitMany t_narrowCost t_tape) (wX12_go dA ht ht_tape ht_now ht_read ht_kept ht_ground ht_readGround ht_keptGround ht_name ht_isKept ht_louds ht_sharps ht_row ht_along ht_needs ht_best ht_order ht_shortRow ht_was ht_saved ht_next ht_fitted ht_beam ht_heardAhead ht_sharesMost ht_sharesMoved ht_nextMost ht_nextMoved t_thrown t_taped t_size o.1 o.2.1 o.2.2.1 o.2.2.2.1 t_fault t_spot o.2.2.2.2 t_told t_isBegun t_had t_rowMany t_least t_shortMany t_mostWorth t_fitMany t_narrowCost t_tape) := by
  intro sz
  refine M_of (cc := cX12_go) (nL := 5) (ret := none) (own := RX12) (by decide +kernel) rfl (Nat.le_of_ble_eq_true rfl) ?_
  intro p e s m below meth c ls hsz C hw hl
  subst hsz
  have hR : 1 ≤ (rmm 1 21).frames ∧ 21 ≤ (rmm 1 21).locals ∧ 0 ≤ (rmm 1 21).cells ∧ 0 ≤ (rmm 1 21).slots := ⟨Nat.le_refl _, Nat.le_refl _, Nat.le_refl _, Nat.le_refl _⟩
  have hl : lv_has ls 5 [(0, .ref ht)] := hl
  have hx := C.1
  have hb := C.2.1
  have hml := C.2.2.1
  have hown := C.2.2.2.1
  have hts := C.2.2.2.2.1
  have hK : ∀ (H : Heap) (locs : List Loc) (pc : Nat) (ls : Array Slot), decode cX12_go pc = .ok (.return_, 1) → St D (wX12_go dA ht ht_tape ht_now ht_read ht_kept ht_ground ht_readGround ht_keptGround ht_name ht_isKept ht_louds ht_sharps ht_row ht_along ht_needs ht_best ht_order ht_shortRow ht_was ht_saved ht_next ht_fitted ht_beam ht_heardAhead ht_sharesMost ht_sharesMoved ht_nextMost ht_nextMoved t_thrown t_taped t_size t_to t_from t_kind t_number t_fault t_spot t_word t_told t_isBegun t_had t_rowMany t_least t_shortMany t_mostWorth t_fitMany t_narrowCost t_tape) s (wX12_go dA ht ht_tape ht_now ht_read ht_kept ht_ground ht_readGround ht_keptGround ht_name ht_isKept ht_louds ht_sharps ht_row ht_along ht_needs ht_best ht_order ht_shortRow ht_was ht_saved ht_next ht_fitted ht_beam ht_heardAhead ht_sharesMost ht_sharesMoved ht_nextMost ht_nextMoved t_thrown t_taped t_size o.1 o.2.1 o.2.2.1 o.2.2.2.1 t_fault t_spot o.2.2.2.2 t_told t_isBegun t_had t_rowMany t_least t_shortMany t_mostWorth t_fitMany t_narrowCost t_tape) H locs → W p l e (rmm 1 21) s m [.ref ht].toArray below meth c H locs 0 0 (MQ below (Qv D (wX12_go dA ht ht_tape ht_now ht_read ht_kept ht_ground ht_readGround ht_keptGround ht_name ht_isKept ht_louds ht_sharps ht_row ht_along ht_needs ht_best ht_order ht_shortRow ht_was ht_saved ht_next ht_fitted ht_beam ht_heardAhead ht_sharesMost ht_sharesMoved ht_nextMost ht_nextMoved t_thrown t_taped t_size t_to t_from t_kind t_number t_fault t_spot t_word t_told t_isBegun t_had t_rowMany t_least t_shortMany t_mostWorth t_fitMany t_narrowCost t_tape) (wX12_go dA ht ht_tape ht_now ht_read ht_kept ht_ground ht_readGround ht_keptGround ht_name ht_isKept ht_louds ht_sharps ht_row ht_along ht_needs ht_best ht_order ht_shortRow ht_was ht_saved ht_next ht_fitted ht_beam ht_heardAhead ht_sharesMost ht_sharesMoved ht_nextMost ht_nextMoved t_thrown t_taped t_size o.1 o.2.1 o.2.2.1 o.2.2.2.1 t_fault t_spot o.2.2.2.2 t_told t_isBegun t_had t_rowMany t_least t_shortMany t_mostWorth t_fitMany t_narrowCost t_tape) s.heap.size) [.ref ht].toArray s 0 0 (va_A (wX12_go dA ht ht_tape ht_now ht_read ht_kept ht_ground ht_readGround ht_keptGround ht_name ht_isKept ht_louds ht_sharps ht_row ht_along ht_needs ht_best ht_order ht_shortRow ht_was ht_saved ht_next ht_fitted ht_beam ht_heardAhead ht_sharesMost ht_sharesMoved ht_nextMost ht_nextMoved t_thrown t_taped t_size t_to t_from t_kind t_number t_fault t_spot t_word t_told t_isBegun t_had t_rowMany t_least t_shortMany t_mostWorth t_fitMany t_narrowCost t_tape) s.heap.size)) (F0 m pc ls []) := fun H locs pc ls hd hw => k_vret C hw hd
  unfold fX12_go at hf
  obtain ⟨q8, hq8, hf⟩ := bind_r hf
  refine tX12_go_l0 C ht ht_tape ht_now ht_read ht_kept ht_ground ht_readGround ht_keptGround ht_name ht_isKept ht_louds ht_sharps ht_row ht_along ht_needs ht_best ht_order ht_shortRow ht_was ht_saved ht_next ht_fitted ht_beam ht_heardAhead ht_sharesMost ht_sharesMoved ht_nextMost ht_nextMoved hR t_thrown t_taped t_size t_to t_from t_kind t_number t_fault t_spot t_word t_told t_isBegun t_had t_rowMany t_least t_shortMany t_mostWorth t_fitMany t_narrowCost t_tape N _ _ hq8 ?_ (lv_sub hl [0] rfl) hw
  intro H locs ls hl hw
  refine lv_aload_n hx hb dX12_go_52 rfl (lv_at hl 0 rfl) ?_
  refine lv_aload_n hx hb dX12_go_53 rfl (lv_at hl 0 rfl) ?_
  refine k_get C hw 0 rfl rfl wiX12 4 (by decide) wfX12_110 rfl dX12_go_54 ?_
  refine k_put C hw 0 rfl rfl wiX12 tyX12 tyX12_ok nmX12 5 (by decide) wfX12_113 rfl rfl rfl (Nat.le_of_ble_eq_true rfl) dX12_go_57 (wX12_go dA ht ht_tape ht_now ht_read ht_kept ht_ground ht_readGround ht_keptGround ht_name ht_isKept ht_louds ht_sharps ht_row ht_along ht_needs ht_best ht_order ht_shortRow ht_was ht_saved ht_next ht_fitted ht_beam ht_heardAhead ht_sharesMost ht_sharesMoved ht_nextMost ht_nextMoved t_thrown t_taped t_size q8 q8 t_kind t_number t_fault t_spot t_word t_told t_isBegun t_had t_rowMany t_least t_shortMany t_mostWorth t_fitMany t_narrowCost t_tape) rfl (fun H locs hw => ?_)
  refine lv_aload_n hx hb dX12_go_60 rfl (lv_at hl 0 rfl) ?_
  refine k_get C hw 0 rfl rfl wiX12 3 (by decide) wfX12_107 rfl dX12_go_61 ?_
  refine lv_sipush (v := (1200 : Int32)) hx hb dX12_go_64 (by decide) ?_
  refine lv_icmp_le (tgt := 93) hx hb dX12_go_67 (by decide) (fun c9 => ?_) (fun c9 => ?_)
  · have hf := ite_t c9 hf
    exact tX12_go_j93 C ht ht_tape ht_now ht_read ht_kept ht_ground ht_readGround ht_keptGround ht_name ht_isKept ht_louds ht_sharps ht_row ht_along ht_needs ht_best ht_order ht_shortRow ht_was ht_saved ht_next ht_fitted ht_beam ht_heardAhead ht_sharesMost ht_sharesMoved ht_nextMost ht_nextMoved hR t_thrown t_taped t_size q8 q8 t_kind t_number t_fault t_spot t_word t_told t_isBegun t_had t_rowMany t_least t_shortMany t_mostWorth t_fitMany t_narrowCost t_tape N _ hf hK (lv_sub hl [0] rfl) hw
  · have hf := ite_f c9 hf
    refine lv_aload_n hx hb dX12_go_70 rfl (lv_at hl 0 rfl) ?_
    refine k_get C hw 0 rfl rfl wiX12 5 (by decide) wfX12_113 rfl dX12_go_71 ?_
    refine lv_sipush (v := (1200 : Int32)) hx hb dX12_go_74 (by decide) ?_
    refine lv_icmp_lt (tgt := 93) hx hb dX12_go_77 (by decide) (fun c42 => ?_) (fun c42 => ?_)
    · have hf := ite_t c42 hf
      exact tX12_go_j93 C ht ht_tape ht_now ht_read ht_kept ht_ground ht_readGround ht_keptGround ht_name ht_isKept ht_louds ht_sharps ht_row ht_along ht_needs ht_best ht_order ht_shortRow ht_was ht_saved ht_next ht_fitted ht_beam ht_heardAhead ht_sharesMost ht_sharesMoved ht_nextMost ht_nextMoved hR t_thrown t_taped t_size q8 q8 t_kind t_number t_fault t_spot t_word t_told t_isBegun t_had t_rowMany t_least t_shortMany t_mostWorth t_fitMany t_narrowCost t_tape N _ hf hK (lv_sub hl [0] rfl) hw
    · have hf := ite_f c42 hf
      refine lv_aload_n hx hb dX12_go_80 rfl (lv_at hl 0 rfl) ?_
      refine lv_sipush (v := (1200 : Int32)) hx hb dX12_go_81 (by decide) ?_
      refine k_put C hw 0 rfl rfl wiX12 tyX12 tyX12_ok nmX12 5 (by decide) wfX12_113 rfl rfl rfl (Nat.le_of_ble_eq_true rfl) dX12_go_84 (wX12_go dA ht ht_tape ht_now ht_read ht_kept ht_ground ht_readGround ht_keptGround ht_name ht_isKept ht_louds ht_sharps ht_row ht_along ht_needs ht_best ht_order ht_shortRow ht_was ht_saved ht_next ht_fitted ht_beam ht_heardAhead ht_sharesMost ht_sharesMoved ht_nextMost ht_nextMoved t_thrown t_taped t_size q8 (1200 : Int32) t_kind t_number t_fault t_spot t_word t_told t_isBegun t_had t_rowMany t_least t_shortMany t_mostWorth t_fitMany t_narrowCost t_tape) rfl (fun H locs hw => ?_)
      refine lv_aload_n hx hb dX12_go_87 rfl (lv_at hl 0 rfl) ?_
      refine lv_iconst (v := (1 : Int32)) hx hb dX12_go_88 (by decide) ?_
      refine k_put C hw 0 rfl rfl wiX12 tyX12 tyX12_ok nmX12 6 (by decide) wfX12_116 rfl rfl rfl (Nat.le_of_ble_eq_true rfl) dX12_go_89 (wX12_go dA ht ht_tape ht_now ht_read ht_kept ht_ground ht_readGround ht_keptGround ht_name ht_isKept ht_louds ht_sharps ht_row ht_along ht_needs ht_best ht_order ht_shortRow ht_was ht_saved ht_next ht_fitted ht_beam ht_heardAhead ht_sharesMost ht_sharesMoved ht_nextMost ht_nextMoved t_thrown t_taped t_size q8 (1200 : Int32) (1 : Int32) t_number t_fault t_spot t_word t_told t_isBegun t_had t_rowMany t_least t_shortMany t_mostWorth t_fitMany t_narrowCost t_tape) rfl (fun H locs hw => ?_)
      obtain rfl := some_r hf
      exact hK _ _ _ _ dX12_go_92 hw

/-! RingPlacesModel.spelt(IIII)J -/
abbrev wX12_spelt (dA : Nat → ClassId)   : va_W := []
def fX12_spelt  (x0_ : Int32) (x1_ : Int32) (x2_ : Int32) (x3_ : Int32) : Option (Int64) := some ((((27 : Int64) * ((((27 : Int64) * ((((27 : Int64) * ((x0_.toInt64) - (96 : Int64))) + (x1_.toInt64)) - (96 : Int64))) + (x2_.toInt64)) - (96 : Int64))) + (x3_.toInt64)) - (96 : Int64))
set_option maxHeartbeats 4000000 in
set_option maxRecDepth 100000 in
theorem qX12_spelt (l : Launch) (D : va_G) (dA : Nat → ClassId)   (x0_ : Int32) (x1_ : Int32) (x2_ : Int32) (x3_ : Int32) (o : Int64) (hf : fX12_spelt x0_ x1_ x2_ x3_ = some o) : Ml l D dA yX12_spelt (Cond.code yX12_spelt cX12_spelt 4 (some .long) :: wA) 0 0 [.int x0_, .int x1_, .int x2_, .int x3_] (wX12_spelt dA ) (wX12_spelt dA ) o := by
  intro sz
  refine M_of (cc := cX12_spelt) (nL := 4) (ret := (some .long)) (own := RX12) (by decide +kernel) rfl (Nat.le_of_ble_eq_true rfl) ?_
  intro p e s m below meth c ls hsz C hw hl
  subst hsz
  have hR : 0 ≤ (rmm 0 0).frames ∧ 0 ≤ (rmm 0 0).locals ∧ 0 ≤ (rmm 0 0).cells ∧ 0 ≤ (rmm 0 0).slots := ⟨Nat.le_refl _, Nat.le_refl _, Nat.le_refl _, Nat.le_refl _⟩
  have hl : lv_has ls 4 [(0, .int x0_), (1, .int x1_), (2, .int x2_), (3, .int x3_)] := hl
  have hx := C.1
  have hb := C.2.1
  have hml := C.2.2.1
  have hown := C.2.2.2.1
  have hts := C.2.2.2.2.1
  have hK : ∀ (H : Heap) (locs : List Loc) (pc : Nat) (ls : Array Slot), decode cX12_spelt pc = .ok (.lreturn, 1) → St D (wX12_spelt dA ) s (wX12_spelt dA ) H locs → W p l e (rmm 0 0) s m [.int x0_, .int x1_, .int x2_, .int x3_].toArray below meth c H locs 0 0 (MQ below (Ql D (wX12_spelt dA ) (wX12_spelt dA ) o s.heap.size) [.int x0_, .int x1_, .int x2_, .int x3_].toArray s 0 0 (va_A (wX12_spelt dA ) s.heap.size)) (F0 m pc ls [.long o]) := fun H locs pc ls hd hw => k_lret C hw hd
  unfold fX12_spelt at hf
  refine lv_ldc2 hx hb hown (hts _ wkX12_137) dX12_spelt_0 ?_
  refine lv_ldc2 hx hb hown (hts _ wkX12_137) dX12_spelt_3 ?_
  refine lv_ldc2 hx hb hown (hts _ wkX12_137) dX12_spelt_6 ?_
  refine lv_iload_n hx hb dX12_spelt_9 rfl (lv_at hl 0 rfl) ?_
  refine lv_i2l hx hb dX12_spelt_10 rfl ?_
  refine lv_ldc2 hx hb hown (hts _ wkX12_139) dX12_spelt_11 ?_
  refine lv_lsub hx hb dX12_spelt_14 ?_
  refine lv_lmul hx hb dX12_spelt_15 ?_
  refine lv_iload_n hx hb dX12_spelt_16 rfl (lv_at hl 1 rfl) ?_
  refine lv_i2l hx hb dX12_spelt_17 rfl ?_
  refine lv_ladd hx hb dX12_spelt_18 ?_
  refine lv_ldc2 hx hb hown (hts _ wkX12_139) dX12_spelt_19 ?_
  refine lv_lsub hx hb dX12_spelt_22 ?_
  refine lv_lmul hx hb dX12_spelt_23 ?_
  refine lv_iload_n hx hb dX12_spelt_24 rfl (lv_at hl 2 rfl) ?_
  refine lv_i2l hx hb dX12_spelt_25 rfl ?_
  refine lv_ladd hx hb dX12_spelt_26 ?_
  refine lv_ldc2 hx hb hown (hts _ wkX12_139) dX12_spelt_27 ?_
  refine lv_lsub hx hb dX12_spelt_30 ?_
  refine lv_lmul hx hb dX12_spelt_31 ?_
  refine lv_iload_n hx hb dX12_spelt_32 rfl (lv_at hl 3 rfl) ?_
  refine lv_i2l hx hb dX12_spelt_33 rfl ?_
  refine lv_ladd hx hb dX12_spelt_34 ?_
  refine lv_ldc2 hx hb hown (hts _ wkX12_139) dX12_spelt_35 ?_
  refine lv_lsub hx hb dX12_spelt_38 ?_
  obtain rfl := some_r hf
  exact hK _ _ _ _ dX12_spelt_39 hw

/-! RingPlacesModel.on(JII)J -/
abbrev wX12_on (dA : Nat → ClassId)   : va_W := []
def fX12_on  (x0_ : Int64) (x2_ : Int32) (x3_ : Int32) : Option (Int64) := bnd ((((27 : Int64) * x0_) + (x2_.toInt64)) - (96 : Int64)) fun x1 => (if x3_ ≤ 0 then some x1 else some ((((27 : Int64) * x1) + (x3_.toInt64)) - (96 : Int64)))
set_option maxHeartbeats 4000000 in
set_option maxRecDepth 100000 in
theorem qX12_on (l : Launch) (D : va_G) (dA : Nat → ClassId)   (x0_ : Int64) (x2_ : Int32) (x3_ : Int32) (o : Int64) (hf : fX12_on x0_ x2_ x3_ = some o) : Ml l D dA yX12_on (Cond.code yX12_on cX12_on 6 (some .long) :: wA) 0 0 [.long x0_, .int x2_, .int x3_] (wX12_on dA ) (wX12_on dA ) o := by
  intro sz
  refine M_of (cc := cX12_on) (nL := 6) (ret := (some .long)) (own := RX12) (by decide +kernel) rfl (Nat.le_of_ble_eq_true rfl) ?_
  intro p e s m below meth c ls hsz C hw hl
  subst hsz
  have hR : 0 ≤ (rmm 0 0).frames ∧ 0 ≤ (rmm 0 0).locals ∧ 0 ≤ (rmm 0 0).cells ∧ 0 ≤ (rmm 0 0).slots := ⟨Nat.le_refl _, Nat.le_refl _, Nat.le_refl _, Nat.le_refl _⟩
  have hl : lv_has ls 6 [(0, .long x0_), (2, .int x2_), (3, .int x3_)] := hl
  have hx := C.1
  have hb := C.2.1
  have hml := C.2.2.1
  have hown := C.2.2.2.1
  have hts := C.2.2.2.2.1
  have hK : ∀ (H : Heap) (locs : List Loc) (pc : Nat) (ls : Array Slot), decode cX12_on pc = .ok (.lreturn, 1) → St D (wX12_on dA ) s (wX12_on dA ) H locs → W p l e (rmm 0 0) s m [.long x0_, .int x2_, .int x3_].toArray below meth c H locs 0 0 (MQ below (Ql D (wX12_on dA ) (wX12_on dA ) o s.heap.size) [.long x0_, .int x2_, .int x3_].toArray s 0 0 (va_A (wX12_on dA ) s.heap.size)) (F0 m pc ls [.long o]) := fun H locs pc ls hd hw => k_lret C hw hd
  unfold fX12_on at hf
  refine lv_ldc2 hx hb hown (hts _ wkX12_137) dX12_on_0 ?_
  refine lv_lload_n hx hb dX12_on_3 rfl (lv_at hl 0 rfl) ?_
  refine lv_lmul hx hb dX12_on_4 ?_
  refine lv_iload_n hx hb dX12_on_5 rfl (lv_at hl 1 rfl) ?_
  refine lv_i2l hx hb dX12_on_6 rfl ?_
  refine lv_ladd hx hb dX12_on_7 ?_
  refine lv_ldc2 hx hb hown (hts _ wkX12_139) dX12_on_8 ?_
  refine lv_lsub hx hb dX12_on_11 ?_
  refine lv_topl (fun x1 ex1 => ?_)
  have hf := bnd_r ex1 hf
  refine lv_lstore (lv' := [(4, .long x1), (0, .long x0_), (2, .int x2_), (3, .int x3_)]) hx hb dX12_on_12 hl (by decide) rfl (fun ls hl => ?_)
  refine lv_iload_n hx hb dX12_on_14 rfl (lv_at hl 3 rfl) ?_
  refine lv_if_le (tgt := 34) hx hb dX12_on_15 (by decide) (fun c2 => ?_) (fun c2 => ?_)
  · have hf := ite_t c2 hf
    refine lv_lload hx hb dX12_on_34 (lv_at hl 0 rfl) ?_
    obtain rfl := some_r hf
    exact hK _ _ _ _ dX12_on_36 hw
  · have hf := ite_f c2 hf
    refine lv_ldc2 hx hb hown (hts _ wkX12_137) dX12_on_18 ?_
    refine lv_lload hx hb dX12_on_21 (lv_at hl 0 rfl) ?_
    refine lv_lmul hx hb dX12_on_23 ?_
    refine lv_iload_n hx hb dX12_on_24 rfl (lv_at hl 3 rfl) ?_
    refine lv_i2l hx hb dX12_on_25 rfl ?_
    refine lv_ladd hx hb dX12_on_26 ?_
    refine lv_ldc2 hx hb hown (hts _ wkX12_139) dX12_on_27 ?_
    refine lv_lsub hx hb dX12_on_30 ?_
    refine lv_goto (tgt := 36) hx hb dX12_on_31 (by decide) ?_
    obtain rfl := some_r hf
    exact hK _ _ _ _ dX12_on_36 hw
