/-! RingPlacesModel.readPart(III)Z -/
abbrev wX12_readPart (dA : Nat → ClassId) (ht ht_tape ht_now ht_read ht_kept ht_ground ht_readGround ht_keptGround ht_name ht_isKept ht_louds ht_sharps ht_row ht_along ht_needs ht_best ht_order ht_shortRow ht_was ht_saved ht_next ht_fitted ht_beam ht_heardAhead ht_sharesMost ht_sharesMoved ht_nextMost ht_nextMoved : Nat) (t_thrown : Int32) (t_taped : Int32) (t_size : Int32) (t_to : Int32) (t_from : Int32) (t_kind : Int32) (t_number : Int32) (t_fault : Int32) (t_spot : Int32) (t_word : Int64) (t_told : Int32) (t_isBegun : Int32) (t_had : Int32) (t_rowMany : Int32) (t_least : Int32) (t_shortMany : Int32) (t_mostWorth : Int32) (t_fitMany : Int32) (t_narrowCost : Int32) (t_tape : (Nat → Int32)) (t_readGround : (Nat → Int64)) (t_read : (Nat → Int32)) : va_W := [(ht, .inr (12, [.int t_thrown, .ref ht_tape, .int t_taped, .int t_size, .int t_to, .int t_from, .int t_kind, .int t_number, .int t_fault, .int t_spot, .long t_word, .int t_told, .ref ht_now, .ref ht_read, .ref ht_kept, .ref ht_ground, .ref ht_readGround, .ref ht_keptGround, .ref ht_name, .ref ht_isKept, .int t_isBegun, .int t_had, .ref ht_louds, .ref ht_sharps, .ref ht_row, .ref ht_along, .ref ht_needs, .ref ht_best, .int t_rowMany, .ref ht_order, .ref ht_shortRow, .int t_least, .int t_shortMany, .ref ht_was, .ref ht_saved, .int t_mostWorth, .ref ht_next, .ref ht_fitted, .int t_fitMany, .int t_narrowCost, .ref ht_beam, .ref ht_heardAhead, .ref ht_sharesMost, .ref ht_sharesMoved, .ref ht_nextMost, .ref ht_nextMoved])), (ht_tape, .inl (dA 0, 1240, .inl t_tape)), (ht_readGround, .inl (dA 1, 16, .inr (.inl t_readGround))), (ht_read, .inl (dA 0, 340, .inl t_read))]
def fX12_readPart_j219 (N : Nat) (t_size : Int32) (t_to : Int32) (t_from : Int32) (t_kind : Int32) (t_number : Int32) (t_fault : Int32) (t_spot : Int32) (t_word : Int64) (t_told : Int32) (t_tape : (Nat → Int32)) (t_readGround : (Nat → Int64)) (t_read : (Nat → Int32)) (v1 : Int32) (v3 : Int32) : Option (Int32 × Int32 × Int32 × Int32 × Int32 × Int32 × Int64 × Int32 × (Nat → Int64) × (Nat → Int32) × Int32) := (if v3 = (9 : Int32) then gdi (v1 + (4 : Int32)) 340 (bnd (upd t_read (v1 + (4 : Int32)).toNatClampNeg t_told) fun y18 => some (t_to, t_from, t_kind, t_number, t_fault, t_spot, t_word, t_told, t_readGround, y18, (1 : Int32))) else (if v3 = (10 : Int32) then gdi (v1 + (5 : Int32)) 340 (bnd (upd t_read (v1 + (5 : Int32)).toNatClampNeg t_told) fun y16 => some (t_to, t_from, t_kind, t_number, t_fault, t_spot, t_word, t_told, t_readGround, y16, (1 : Int32))) else (if v3 = (11 : Int32) then gdi (v1 + (6 : Int32)) 340 (bnd (upd t_read (v1 + (6 : Int32)).toNatClampNeg t_told) fun y14 => some (t_to, t_from, t_kind, t_number, t_fault, t_spot, t_word, t_told, t_readGround, y14, (1 : Int32))) else gdi (v1 + (7 : Int32)) 340 (bnd (upd t_read (v1 + (7 : Int32)).toNatClampNeg t_told) fun y12 => some (t_to, t_from, t_kind, t_number, t_fault, t_spot, t_word, t_told, t_readGround, y12, (1 : Int32))))))
def fX12_readPart_l41b (N : Nat) (t_size : Int32) (t_to : Int32) (t_from : Int32) (t_kind : Int32) (t_number : Int32) (t_fault : Int32) (t_spot : Int32) (t_word : Int64) (t_told : Int32) (t_tape : (Nat → Int32)) (t_read : (Nat → Int32)) (v2 : Int32) (t_readGround : (Nat → Int64)) (v5 : Int32) : Option (((Nat → Int64) × Int32) ⊕ ((Nat → Int64))) := (if t_told < v5 then some (.inr t_readGround) else gdi v2 16 (gdi v2 16 (bnd (vp_updL t_readGround v2.toNatClampNeg ((t_readGround v2.toNatClampNeg) ||| ((1 : Int64) <<< (v5.toInt64 &&& 63)))) fun y43 => bnd (v5 + (1 : Int32)) fun x44 => some (.inl (y43, x44)))))
def fX12_readPart (N : Nat) (t_size : Int32) (t_to : Int32) (t_from : Int32) (t_kind : Int32) (t_number : Int32) (t_fault : Int32) (t_spot : Int32) (t_word : Int64) (t_told : Int32) (t_tape : (Nat → Int32)) (t_readGround : (Nat → Int64)) (t_read : (Nat → Int32)) (x1_ : Int32) (x2_ : Int32) (x3_ : Int32) : Option (Int32 × Int32 × Int32 × Int32 × Int32 × Int32 × Int64 × Int32 × (Nat → Int64) × (Nat → Int32) × Int32) := (if x3_ = (7 : Int32) then (fX12_readNumber N t_size t_to t_from t_kind t_number t_fault t_spot t_word t_told t_tape (0 : Int32) (39 : Int32)).bind fun o36 => (if o36.2.2.2.2.2.2.2.2 = 0 then some (o36.1, o36.2.1, o36.2.2.1, o36.2.2.2.1, o36.2.2.2.2.1, o36.2.2.2.2.2.1, o36.2.2.2.2.2.2.1, o36.2.2.2.2.2.2.2.1, t_readGround, t_read, (0 : Int32)) else (fX12_readNumber N t_size o36.1 o36.2.1 o36.2.2.1 o36.2.2.2.1 o36.2.2.2.2.1 o36.2.2.2.2.2.1 o36.2.2.2.2.2.2.1 o36.2.2.2.2.2.2.2.1 t_tape o36.2.2.2.2.2.2.2.1 (39 : Int32)).bind fun o38 => (if o38.2.2.2.2.2.2.2.2 = 0 then some (o38.1, o38.2.1, o38.2.2.1, o38.2.2.2.1, o38.2.2.2.2.1, o38.2.2.2.2.2.1, o38.2.2.2.2.2.2.1, o38.2.2.2.2.2.2.2.1, t_readGround, t_read, (0 : Int32)) else (itr (fun z => fX12_readPart_l41b N t_size o38.1 o38.2.1 o38.2.2.1 o38.2.2.2.1 o38.2.2.2.2.1 o38.2.2.2.2.2.1 o38.2.2.2.2.2.2.1 o38.2.2.2.2.2.2.2.1 t_tape t_read x2_ z.1 z.2) N (t_readGround, o36.2.2.2.2.2.2.2.1)).bind fun q45 => some (o38.1, o38.2.1, o38.2.2.1, o38.2.2.2.1, o38.2.2.2.2.1, o38.2.2.2.2.2.1, o38.2.2.2.2.2.2.1, o38.2.2.2.2.2.2.2.1, q45, t_read, (1 : Int32)))) else (if x3_ = (8 : Int32) then (fX12_readNumber N t_size t_to t_from t_kind t_number t_fault t_spot t_word t_told t_tape (0 : Int32) (3 : Int32)).bind fun o31 => (if o31.2.2.2.2.2.2.2.2 = 0 then some (o31.1, o31.2.1, o31.2.2.1, o31.2.2.2.1, o31.2.2.2.2.1, o31.2.2.2.2.2.1, o31.2.2.2.2.2.2.1, o31.2.2.2.2.2.2.2.1, t_readGround, t_read, (0 : Int32)) else gdi (x1_ + (3 : Int32)) 340 (gdi (x1_ + (3 : Int32)) 340 (bnd (upd t_read (x1_ + (3 : Int32)).toNatClampNeg ((t_read (x1_ + (3 : Int32)).toNatClampNeg) ||| ((1 : Int32) <<< (o31.2.2.2.2.2.2.2.1 &&& 31)))) fun y35 => some (o31.1, o31.2.1, o31.2.2.1, o31.2.2.2.1, o31.2.2.2.2.1, o31.2.2.2.2.2.1, o31.2.2.2.2.2.2.1, o31.2.2.2.2.2.2.2.1, t_readGround, y35, (1 : Int32))))) else (if x3_ = (13 : Int32) then (fX12_readNumber N t_size t_to t_from t_kind t_number t_fault t_spot t_word t_told t_tape (0 : Int32) (300 : Int32)).bind fun o23 => (if o23.2.2.2.2.2.2.2.2 = 0 then some (o23.1, o23.2.1, o23.2.2.1, o23.2.2.2.1, o23.2.2.2.2.1, o23.2.2.2.2.2.1, o23.2.2.2.2.2.2.1, o23.2.2.2.2.2.2.2.1, t_readGround, t_read, (0 : Int32)) else gdi (x1_ + (8 : Int32)) 340 (bnd (upd t_read (x1_ + (8 : Int32)).toNatClampNeg o23.2.2.2.2.2.2.2.1) fun y26 => (fX12_readNumber N t_size o23.1 o23.2.1 o23.2.2.1 o23.2.2.2.1 o23.2.2.2.2.1 o23.2.2.2.2.2.1 o23.2.2.2.2.2.2.1 o23.2.2.2.2.2.2.2.1 t_tape (4 : Int32) (999 : Int32)).bind fun o27 => (if o27.2.2.2.2.2.2.2.2 = 0 then some (o27.1, o27.2.1, o27.2.2.1, o27.2.2.2.1, o27.2.2.2.2.1, o27.2.2.2.2.2.1, o27.2.2.2.2.2.2.1, o27.2.2.2.2.2.2.2.1, t_readGround, y26, (0 : Int32)) else gdi (x1_ + (9 : Int32)) 340 (bnd (upd y26 (x1_ + (9 : Int32)).toNatClampNeg o27.2.2.2.2.2.2.2.1) fun y30 => some (o27.1, o27.2.1, o27.2.2.1, o27.2.2.2.1, o27.2.2.2.2.1, o27.2.2.2.2.2.1, o27.2.2.2.2.2.2.1, o27.2.2.2.2.2.2.2.1, t_readGround, y30, (1 : Int32)))))) else (if x3_ = (9 : Int32) then (fX12_readNumber N t_size t_to t_from t_kind t_number t_fault t_spot t_word t_told t_tape (1 : Int32) (999 : Int32)).bind fun o21 => (if o21.2.2.2.2.2.2.2.2 = 0 then some (o21.1, o21.2.1, o21.2.2.1, o21.2.2.2.1, o21.2.2.2.2.1, o21.2.2.2.2.2.1, o21.2.2.2.2.2.2.1, o21.2.2.2.2.2.2.2.1, t_readGround, t_read, (0 : Int32)) else fX12_readPart_j219 N t_size o21.1 o21.2.1 o21.2.2.1 o21.2.2.2.1 o21.2.2.2.2.1 o21.2.2.2.2.2.1 o21.2.2.2.2.2.2.1 o21.2.2.2.2.2.2.2.1 t_tape t_readGround t_read x1_ x3_) else (if x3_ = (10 : Int32) then (fX12_readNumber N t_size t_to t_from t_kind t_number t_fault t_spot t_word t_told t_tape (1 : Int32) (99 : Int32)).bind fun o19 => (if o19.2.2.2.2.2.2.2.2 = 0 then some (o19.1, o19.2.1, o19.2.2.1, o19.2.2.2.1, o19.2.2.2.2.1, o19.2.2.2.2.2.1, o19.2.2.2.2.2.2.1, o19.2.2.2.2.2.2.2.1, t_readGround, t_read, (0 : Int32)) else fX12_readPart_j219 N t_size o19.1 o19.2.1 o19.2.2.1 o19.2.2.2.1 o19.2.2.2.2.1 o19.2.2.2.2.2.1 o19.2.2.2.2.2.2.1 o19.2.2.2.2.2.2.2.1 t_tape t_readGround t_read x1_ x3_) else (fX12_readNumber N t_size t_to t_from t_kind t_number t_fault t_spot t_word t_told t_tape (0 : Int32) (9999 : Int32)).bind fun o6 => (if o6.2.2.2.2.2.2.2.2 = 0 then some (o6.1, o6.2.1, o6.2.2.1, o6.2.2.2.1, o6.2.2.2.2.1, o6.2.2.2.2.2.1, o6.2.2.2.2.2.2.1, o6.2.2.2.2.2.2.2.1, t_readGround, t_read, (0 : Int32)) else fX12_readPart_j219 N t_size o6.1 o6.2.1 o6.2.2.1 o6.2.2.2.1 o6.2.2.2.2.1 o6.2.2.2.2.2.1 o6.2.2.2.2.2.2.1 o6.2.2.2.2.2.2.2.1 t_tape t_readGround t_read x1_ x3_))))))
set_option maxHeartbeats 4000000 in
set_option maxRecDepth 100000 in
theorem tX12_readPart_j219 {p : Program} {l : Launch} {e : Env} {R : Room} {s : State} {m : MethodId} {args : Array Value} {below : List Frame} {meth : Method} {c : Code} {D : va_G} {dA : Nat → ClassId} {w0 : va_W} {Q : State → Prop} {H : Heap} {locs : List Loc} {ls : Array Slot} {cells slots : Nat} (C : CX p s m args meth c cX12_readPart 6 (some .boolean) RX12 D dA) (ht ht_tape ht_now ht_read ht_kept ht_ground ht_readGround ht_keptGround ht_name ht_isKept ht_louds ht_sharps ht_row ht_along ht_needs ht_best ht_order ht_shortRow ht_was ht_saved ht_next ht_fitted ht_beam ht_heardAhead ht_sharesMost ht_sharesMoved ht_nextMost ht_nextMoved : Nat) (hR : 3 ≤ R.frames ∧ 67 ≤ R.locals ∧ cells ≤ R.cells ∧ slots ≤ R.slots)  (t_thrown : Int32) (t_taped : Int32) (t_size : Int32) (t_to : Int32) (t_from : Int32) (t_kind : Int32) (t_number : Int32) (t_fault : Int32) (t_spot : Int32) (t_word : Int64) (t_told : Int32) (t_isBegun : Int32) (t_had : Int32) (t_rowMany : Int32) (t_least : Int32) (t_shortMany : Int32) (t_mostWorth : Int32) (t_fitMany : Int32) (t_narrowCost : Int32) (t_tape : (Nat → Int32)) (t_readGround : (Nat → Int64)) (t_read : (Nat → Int32)) (v1 : Int32) (v3 : Int32) (N : Nat) (res : (Int32 × Int32 × Int32 × Int32 × Int32 × Int32 × Int64 × Int32 × (Nat → Int64) × (Nat → Int32) × Int32)) (hf : fX12_readPart_j219 N t_size t_to t_from t_kind t_number t_fault t_spot t_word t_told t_tape t_readGround t_read v1 v3 = some res) (hK : (∀ (H : Heap) (locs : List Loc) (pc : Nat) (ls : Array Slot), (res.2.2.2.2.2.2.2.2.2.2 = 0 ∨ res.2.2.2.2.2.2.2.2.2.2 = 1) → decode cX12_readPart pc = .ok (.ireturn, 1) → St D w0 s (wX12_readPart dA ht ht_tape ht_now ht_read ht_kept ht_ground ht_readGround ht_keptGround ht_name ht_isKept ht_louds ht_sharps ht_row ht_along ht_needs ht_best ht_order ht_shortRow ht_was ht_saved ht_next ht_fitted ht_beam ht_heardAhead ht_sharesMost ht_sharesMoved ht_nextMost ht_nextMoved t_thrown t_taped t_size res.1 res.2.1 res.2.2.1 res.2.2.2.1 res.2.2.2.2.1 res.2.2.2.2.2.1 res.2.2.2.2.2.2.1 res.2.2.2.2.2.2.2.1 t_isBegun t_had t_rowMany t_least t_shortMany t_mostWorth t_fitMany t_narrowCost t_tape res.2.2.2.2.2.2.2.2.1 res.2.2.2.2.2.2.2.2.2.1) H locs → W p l e R s m args below meth c H locs cells slots Q (F0 m pc ls [.int res.2.2.2.2.2.2.2.2.2.2]))) (hl : lv_has ls 6 [(0, .ref ht), (1, .int v1), (3, .int v3)]) (hw : St D w0 s (wX12_readPart dA ht ht_tape ht_now ht_read ht_kept ht_ground ht_readGround ht_keptGround ht_name ht_isKept ht_louds ht_sharps ht_row ht_along ht_needs ht_best ht_order ht_shortRow ht_was ht_saved ht_next ht_fitted ht_beam ht_heardAhead ht_sharesMost ht_sharesMoved ht_nextMost ht_nextMoved t_thrown t_taped t_size t_to t_from t_kind t_number t_fault t_spot t_word t_told t_isBegun t_had t_rowMany t_least t_shortMany t_mostWorth t_fitMany t_narrowCost t_tape t_readGround t_read) H locs) : W p l e R s m args below meth c H locs cells slots Q (F0 m 219 ls []) := by
  have hx := C.1
  have hb := C.2.1
  have hml := C.2.2.1
  have hown := C.2.2.2.1
  have hts := C.2.2.2.2.1
  unfold fX12_readPart_j219 at hf
  refine lv_aload_n hx hb dX12_readPart_219 rfl (lv_at hl 0 rfl) ?_
  refine k_get C hw 0 rfl rfl wiX12 13 (by decide) wfX12_16 rfl dX12_readPart_220 ?_
  refine lv_iload_n hx hb dX12_readPart_223 rfl (lv_at hl 1 rfl) ?_
  refine lv_iload_n hx hb dX12_readPart_224 rfl (lv_at hl 2 rfl) ?_
  refine lv_bipush (v := (9 : Int32)) hx hb dX12_readPart_225 (by decide) ?_
  refine lv_icmp_ne (tgt := 234) hx hb dX12_readPart_227 (by decide) (fun c8 => ?_) (fun c8 => ?_)
  · have hf := ite_f c8 hf
    refine lv_iload_n hx hb dX12_readPart_234 rfl (lv_at hl 2 rfl) ?_
    refine lv_bipush (v := (10 : Int32)) hx hb dX12_readPart_235 (by decide) ?_
    refine lv_icmp_ne (tgt := 244) hx hb dX12_readPart_237 (by decide) (fun c9 => ?_) (fun c9 => ?_)
    · have hf := ite_f c9 hf
      refine lv_iload_n hx hb dX12_readPart_244 rfl (lv_at hl 2 rfl) ?_
      refine lv_bipush (v := (11 : Int32)) hx hb dX12_readPart_245 (by decide) ?_
      refine lv_icmp_ne (tgt := 255) hx hb dX12_readPart_247 (by decide) (fun c10 => ?_) (fun c10 => ?_)
      · have hf := ite_f c10 hf
        refine lv_bipush (v := (7 : Int32)) hx hb dX12_readPart_255 (by decide) ?_
        refine lv_iadd hx hb dX12_readPart_257 ?_
        refine lv_aload_n hx hb dX12_readPart_258 rfl (lv_at hl 0 rfl) ?_
        refine k_get C hw 0 rfl rfl wiX12 11 (by decide) wfX12_166 rfl dX12_readPart_259 ?_
        obtain ⟨g11, hf⟩ := gdi_r hf
        obtain ⟨y12, ey12⟩ : ∃ z : Nat → Int32, z = upd t_read (v1 + (7 : Int32)).toNatClampNeg t_told := ⟨_, rfl⟩
        have hf := bnd_r ey12 hf
        refine k_iast C hw 3 rfl g11 dX12_readPart_262 y12 ey12 (wX12_readPart dA ht ht_tape ht_now ht_read ht_kept ht_ground ht_readGround ht_keptGround ht_name ht_isKept ht_louds ht_sharps ht_row ht_along ht_needs ht_best ht_order ht_shortRow ht_was ht_saved ht_next ht_fitted ht_beam ht_heardAhead ht_sharesMost ht_sharesMoved ht_nextMost ht_nextMoved t_thrown t_taped t_size t_to t_from t_kind t_number t_fault t_spot t_word t_told t_isBegun t_had t_rowMany t_least t_shortMany t_mostWorth t_fitMany t_narrowCost t_tape t_readGround y12) rfl (fun H locs hw => ?_)
        refine lv_iconst (v := (1 : Int32)) hx hb dX12_readPart_263 (by decide) ?_
        obtain rfl := some_r hf
        exact hK _ _ _ _ (Or.inr rfl) dX12_readPart_264 hw
      · have hf := ite_t c10 hf
        refine lv_bipush (v := (6 : Int32)) hx hb dX12_readPart_250 (by decide) ?_
        refine lv_goto (tgt := 257) hx hb dX12_readPart_252 (by decide) ?_
        refine lv_iadd hx hb dX12_readPart_257 ?_
        refine lv_aload_n hx hb dX12_readPart_258 rfl (lv_at hl 0 rfl) ?_
        refine k_get C hw 0 rfl rfl wiX12 11 (by decide) wfX12_166 rfl dX12_readPart_259 ?_
        obtain ⟨g13, hf⟩ := gdi_r hf
        obtain ⟨y14, ey14⟩ : ∃ z : Nat → Int32, z = upd t_read (v1 + (6 : Int32)).toNatClampNeg t_told := ⟨_, rfl⟩
        have hf := bnd_r ey14 hf
        refine k_iast C hw 3 rfl g13 dX12_readPart_262 y14 ey14 (wX12_readPart dA ht ht_tape ht_now ht_read ht_kept ht_ground ht_readGround ht_keptGround ht_name ht_isKept ht_louds ht_sharps ht_row ht_along ht_needs ht_best ht_order ht_shortRow ht_was ht_saved ht_next ht_fitted ht_beam ht_heardAhead ht_sharesMost ht_sharesMoved ht_nextMost ht_nextMoved t_thrown t_taped t_size t_to t_from t_kind t_number t_fault t_spot t_word t_told t_isBegun t_had t_rowMany t_least t_shortMany t_mostWorth t_fitMany t_narrowCost t_tape t_readGround y14) rfl (fun H locs hw => ?_)
        refine lv_iconst (v := (1 : Int32)) hx hb dX12_readPart_263 (by decide) ?_
        obtain rfl := some_r hf
        exact hK _ _ _ _ (Or.inr rfl) dX12_readPart_264 hw
    · have hf := ite_t c9 hf
      refine lv_iconst (v := (5 : Int32)) hx hb dX12_readPart_240 (by decide) ?_
      refine lv_goto (tgt := 257) hx hb dX12_readPart_241 (by decide) ?_
      refine lv_iadd hx hb dX12_readPart_257 ?_
      refine lv_aload_n hx hb dX12_readPart_258 rfl (lv_at hl 0 rfl) ?_
      refine k_get C hw 0 rfl rfl wiX12 11 (by decide) wfX12_166 rfl dX12_readPart_259 ?_
      obtain ⟨g15, hf⟩ := gdi_r hf
      obtain ⟨y16, ey16⟩ : ∃ z : Nat → Int32, z = upd t_read (v1 + (5 : Int32)).toNatClampNeg t_told := ⟨_, rfl⟩
      have hf := bnd_r ey16 hf
      refine k_iast C hw 3 rfl g15 dX12_readPart_262 y16 ey16 (wX12_readPart dA ht ht_tape ht_now ht_read ht_kept ht_ground ht_readGround ht_keptGround ht_name ht_isKept ht_louds ht_sharps ht_row ht_along ht_needs ht_best ht_order ht_shortRow ht_was ht_saved ht_next ht_fitted ht_beam ht_heardAhead ht_sharesMost ht_sharesMoved ht_nextMost ht_nextMoved t_thrown t_taped t_size t_to t_from t_kind t_number t_fault t_spot t_word t_told t_isBegun t_had t_rowMany t_least t_shortMany t_mostWorth t_fitMany t_narrowCost t_tape t_readGround y16) rfl (fun H locs hw => ?_)
      refine lv_iconst (v := (1 : Int32)) hx hb dX12_readPart_263 (by decide) ?_
      obtain rfl := some_r hf
      exact hK _ _ _ _ (Or.inr rfl) dX12_readPart_264 hw
  · have hf := ite_t c8 hf
    refine lv_iconst (v := (4 : Int32)) hx hb dX12_readPart_230 (by decide) ?_
    refine lv_goto (tgt := 257) hx hb dX12_readPart_231 (by decide) ?_
    refine lv_iadd hx hb dX12_readPart_257 ?_
    refine lv_aload_n hx hb dX12_readPart_258 rfl (lv_at hl 0 rfl) ?_
    refine k_get C hw 0 rfl rfl wiX12 11 (by decide) wfX12_166 rfl dX12_readPart_259 ?_
    obtain ⟨g17, hf⟩ := gdi_r hf
    obtain ⟨y18, ey18⟩ : ∃ z : Nat → Int32, z = upd t_read (v1 + (4 : Int32)).toNatClampNeg t_told := ⟨_, rfl⟩
    have hf := bnd_r ey18 hf
    refine k_iast C hw 3 rfl g17 dX12_readPart_262 y18 ey18 (wX12_readPart dA ht ht_tape ht_now ht_read ht_kept ht_ground ht_readGround ht_keptGround ht_name ht_isKept ht_louds ht_sharps ht_row ht_along ht_needs ht_best ht_order ht_shortRow ht_was ht_saved ht_next ht_fitted ht_beam ht_heardAhead ht_sharesMost ht_sharesMoved ht_nextMost ht_nextMoved t_thrown t_taped t_size t_to t_from t_kind t_number t_fault t_spot t_word t_told t_isBegun t_had t_rowMany t_least t_shortMany t_mostWorth t_fitMany t_narrowCost t_tape t_readGround y18) rfl (fun H locs hw => ?_)
    refine lv_iconst (v := (1 : Int32)) hx hb dX12_readPart_263 (by decide) ?_
    obtain rfl := some_r hf
    exact hK _ _ _ _ (Or.inr rfl) dX12_readPart_264 hw
set_option maxHeartbeats 4000000 in
set_option maxRecDepth 100000 in
theorem tX12_readPart_l41b {p : Program} {l : Launch} {e : Env} {R : Room} {s : State} {m : MethodId} {args : Array Value} {below : List Frame} {meth : Method} {c : Code} {D : va_G} {dA : Nat → ClassId} {w0 : va_W} {Q : State → Prop} {H : Heap} {locs : List Loc} {ls : Array Slot} {cells slots : Nat} (C : CX p s m args meth c cX12_readPart 6 (some .boolean) RX12 D dA) (ht ht_tape ht_now ht_read ht_kept ht_ground ht_readGround ht_keptGround ht_name ht_isKept ht_louds ht_sharps ht_row ht_along ht_needs ht_best ht_order ht_shortRow ht_was ht_saved ht_next ht_fitted ht_beam ht_heardAhead ht_sharesMost ht_sharesMoved ht_nextMost ht_nextMoved : Nat) (hR : 3 ≤ R.frames ∧ 67 ≤ R.locals ∧ cells ≤ R.cells ∧ slots ≤ R.slots)  (t_thrown : Int32) (t_taped : Int32) (t_size : Int32) (t_to : Int32) (t_from : Int32) (t_kind : Int32) (t_number : Int32) (t_fault : Int32) (t_spot : Int32) (t_word : Int64) (t_told : Int32) (t_isBegun : Int32) (t_had : Int32) (t_rowMany : Int32) (t_least : Int32) (t_shortMany : Int32) (t_mostWorth : Int32) (t_fitMany : Int32) (t_narrowCost : Int32) (t_tape : (Nat → Int32)) (t_readGround : (Nat → Int64)) (t_read : (Nat → Int32)) (v2 : Int32) (v5 : Int32) (N : Nat) (res : (((Nat → Int64) × Int32) ⊕ ((Nat → Int64)))) (hf : fX12_readPart_l41b N t_size t_to t_from t_kind t_number t_fault t_spot t_word t_told t_tape t_read v2 t_readGround v5 = some res) (hK : Sum.elim (fun z => (∀ (H : Heap) (locs : List Loc) (ls : Array Slot), lv_has ls 6 [(0, .ref ht), (2, .int v2), (5, .int z.2)] → St D w0 s (wX12_readPart dA ht ht_tape ht_now ht_read ht_kept ht_ground ht_readGround ht_keptGround ht_name ht_isKept ht_louds ht_sharps ht_row ht_along ht_needs ht_best ht_order ht_shortRow ht_was ht_saved ht_next ht_fitted ht_beam ht_heardAhead ht_sharesMost ht_sharesMoved ht_nextMost ht_nextMoved t_thrown t_taped t_size t_to t_from t_kind t_number t_fault t_spot t_word t_told t_isBegun t_had t_rowMany t_least t_shortMany t_mostWorth t_fitMany t_narrowCost t_tape z.1 t_read) H locs → W p l e R s m args below meth c H locs cells slots Q (F0 m 41 ls []))) (fun r => (∀ (H : Heap) (locs : List Loc) (ls : Array Slot), lv_has ls 6 [] → St D w0 s (wX12_readPart dA ht ht_tape ht_now ht_read ht_kept ht_ground ht_readGround ht_keptGround ht_name ht_isKept ht_louds ht_sharps ht_row ht_along ht_needs ht_best ht_order ht_shortRow ht_was ht_saved ht_next ht_fitted ht_beam ht_heardAhead ht_sharesMost ht_sharesMoved ht_nextMost ht_nextMoved t_thrown t_taped t_size t_to t_from t_kind t_number t_fault t_spot t_word t_told t_isBegun t_had t_rowMany t_least t_shortMany t_mostWorth t_fitMany t_narrowCost t_tape r t_read) H locs → W p l e R s m args below meth c H locs cells slots Q (F0 m 69 ls []))) res) (hl : lv_has ls 6 [(0, .ref ht), (2, .int v2), (5, .int v5)]) (hw : St D w0 s (wX12_readPart dA ht ht_tape ht_now ht_read ht_kept ht_ground ht_readGround ht_keptGround ht_name ht_isKept ht_louds ht_sharps ht_row ht_along ht_needs ht_best ht_order ht_shortRow ht_was ht_saved ht_next ht_fitted ht_beam ht_heardAhead ht_sharesMost ht_sharesMoved ht_nextMost ht_nextMoved t_thrown t_taped t_size t_to t_from t_kind t_number t_fault t_spot t_word t_told t_isBegun t_had t_rowMany t_least t_shortMany t_mostWorth t_fitMany t_narrowCost t_tape t_readGround t_read) H locs) : W p l e R s m args below meth c H locs cells slots Q (F0 m 41 ls []) := by
  have hx := C.1
  have hb := C.2.1
  have hml := C.2.2.1
  have hown := C.2.2.2.1
  have hts := C.2.2.2.2.1
  unfold fX12_readPart_l41b at hf
  refine lv_iload hx hb dX12_readPart_41 (lv_at hl 2 rfl) ?_
  refine lv_aload_n hx hb dX12_readPart_43 rfl (lv_at hl 0 rfl) ?_
  refine k_get C hw 0 rfl rfl wiX12 11 (by decide) wfX12_166 rfl dX12_readPart_44 ?_
  refine lv_icmp_gt (tgt := 69) hx hb dX12_readPart_47 (by decide) (fun c40 => ?_) (fun c40 => ?_)
  · have hf := ite_t c40 hf
    obtain rfl := some_r hf
    exact hK _ _ _ (lv_sub hl [] rfl) hw
  · have hf := ite_f c40 hf
    refine lv_aload_n hx hb dX12_readPart_50 rfl (lv_at hl 0 rfl) ?_
    refine k_get C hw 0 rfl rfl wiX12 16 (by decide) wfX12_26 rfl dX12_readPart_51 ?_
    refine lv_iload_n hx hb dX12_readPart_54 rfl (lv_at hl 1 rfl) ?_
    refine lv_dup2_11 hx hb dX12_readPart_55 rfl rfl ?_
    obtain ⟨g41, hf⟩ := gdi_r hf
    refine k_lald C hw 2 rfl g41 dX12_readPart_56 ?_
    refine lv_lconst (v := (1 : Int64)) hx hb dX12_readPart_57 (by decide) ?_
    refine lv_iload hx hb dX12_readPart_58 (lv_at hl 2 rfl) ?_
    refine lv_lshl hx hb dX12_readPart_60 rfl ?_
    refine lv_lor hx hb dX12_readPart_61 ?_
    obtain ⟨g42, hf⟩ := gdi_r hf
    obtain ⟨y43, ey43⟩ : ∃ z : Nat → Int64, z = vp_updL t_readGround v2.toNatClampNeg ((t_readGround v2.toNatClampNeg) ||| ((1 : Int64) <<< (v5.toInt64 &&& 63))) := ⟨_, rfl⟩
    have hf := bnd_r ey43 hf
    refine k_last C hw 2 rfl g42 dX12_readPart_62 y43 ey43 (wX12_readPart dA ht ht_tape ht_now ht_read ht_kept ht_ground ht_readGround ht_keptGround ht_name ht_isKept ht_louds ht_sharps ht_row ht_along ht_needs ht_best ht_order ht_shortRow ht_was ht_saved ht_next ht_fitted ht_beam ht_heardAhead ht_sharesMost ht_sharesMoved ht_nextMost ht_nextMoved t_thrown t_taped t_size t_to t_from t_kind t_number t_fault t_spot t_word t_told t_isBegun t_had t_rowMany t_least t_shortMany t_mostWorth t_fitMany t_narrowCost t_tape y43 t_read) rfl (fun H locs hw => ?_)
    obtain ⟨x44, ex44⟩ : ∃ y : Int32, y = v5 + (1 : Int32) := ⟨_, rfl⟩
    have hf := bnd_r ex44 hf
    refine lv_iinc (v := x44) (lv' := [(5, .int x44), (0, .ref ht), (2, .int v2)]) hx hb dX12_readPart_63 hl (k := 2) rfl (by rw [ex44]; rfl) (by decide) rfl (fun ls hl => ?_)
    refine lv_goto (tgt := 41) hx hb dX12_readPart_66 (by decide) ?_
    obtain rfl := some_r hf
    exact hK _ _ _ (lv_sub hl [1, 2, 0] rfl) hw
set_option maxHeartbeats 4000000 in
theorem tX12_readPart_l41 {p : Program} {l : Launch} {e : Env} {R : Room} {s : State} {m : MethodId} {args : Array Value} {below : List Frame} {meth : Method} {c : Code} {D : va_G} {dA : Nat → ClassId} {w0 : va_W} {Q : State → Prop} {H : Heap} {locs : List Loc} {ls : Array Slot} {cells slots : Nat} (C : CX p s m args meth c cX12_readPart 6 (some .boolean) RX12 D dA) (ht ht_tape ht_now ht_read ht_kept ht_ground ht_readGround ht_keptGround ht_name ht_isKept ht_louds ht_sharps ht_row ht_along ht_needs ht_best ht_order ht_shortRow ht_was ht_saved ht_next ht_fitted ht_beam ht_heardAhead ht_sharesMost ht_sharesMoved ht_nextMost ht_nextMoved : Nat) (hR : 3 ≤ R.frames ∧ 67 ≤ R.locals ∧ cells ≤ R.cells ∧ slots ≤ R.slots)  (t_thrown : Int32) (t_taped : Int32) (t_size : Int32) (t_to : Int32) (t_from : Int32) (t_kind : Int32) (t_number : Int32) (t_fault : Int32) (t_spot : Int32) (t_word : Int64) (t_told : Int32) (t_isBegun : Int32) (t_had : Int32) (t_rowMany : Int32) (t_least : Int32) (t_shortMany : Int32) (t_mostWorth : Int32) (t_fitMany : Int32) (t_narrowCost : Int32) (t_tape : (Nat → Int32)) (t_readGround : (Nat → Int64)) (t_read : (Nat → Int32)) (v2 : Int32) (v5 : Int32) (N n : Nat) (res : ((Nat → Int64))) (hf : itr (fun z => fX12_readPart_l41b N t_size t_to t_from t_kind t_number t_fault t_spot t_word t_told t_tape t_read v2 z.1 z.2) n (t_readGround, v5) = some res) (hK : (∀ (H : Heap) (locs : List Loc) (ls : Array Slot), lv_has ls 6 [] → St D w0 s (wX12_readPart dA ht ht_tape ht_now ht_read ht_kept ht_ground ht_readGround ht_keptGround ht_name ht_isKept ht_louds ht_sharps ht_row ht_along ht_needs ht_best ht_order ht_shortRow ht_was ht_saved ht_next ht_fitted ht_beam ht_heardAhead ht_sharesMost ht_sharesMoved ht_nextMost ht_nextMoved t_thrown t_taped t_size t_to t_from t_kind t_number t_fault t_spot t_word t_told t_isBegun t_had t_rowMany t_least t_shortMany t_mostWorth t_fitMany t_narrowCost t_tape res t_read) H locs → W p l e R s m args below meth c H locs cells slots Q (F0 m 69 ls []))) (hl : lv_has ls 6 [(0, .ref ht), (2, .int v2), (5, .int v5)]) (hw : St D w0 s (wX12_readPart dA ht ht_tape ht_now ht_read ht_kept ht_ground ht_readGround ht_keptGround ht_name ht_isKept ht_louds ht_sharps ht_row ht_along ht_needs ht_best ht_order ht_shortRow ht_was ht_saved ht_next ht_fitted ht_beam ht_heardAhead ht_sharesMost ht_sharesMoved ht_nextMost ht_nextMoved t_thrown t_taped t_size t_to t_from t_kind t_number t_fault t_spot t_word t_told t_isBegun t_had t_rowMany t_least t_shortMany t_mostWorth t_fitMany t_narrowCost t_tape t_readGround t_read) H locs) : W p l e R s m args below meth c H locs cells slots Q (F0 m 41 ls []) :=
  itr_W (P := fun (z : ((Nat → Int64) × Int32)) => (∀ (H : Heap) (locs : List Loc) (ls : Array Slot), lv_has ls 6 [(0, .ref ht), (2, .int v2), (5, .int z.2)] → St D w0 s (wX12_readPart dA ht ht_tape ht_now ht_read ht_kept ht_ground ht_readGround ht_keptGround ht_name ht_isKept ht_louds ht_sharps ht_row ht_along ht_needs ht_best ht_order ht_shortRow ht_was ht_saved ht_next ht_fitted ht_beam ht_heardAhead ht_sharesMost ht_sharesMoved ht_nextMost ht_nextMoved t_thrown t_taped t_size t_to t_from t_kind t_number t_fault t_spot t_word t_told t_isBegun t_had t_rowMany t_least t_shortMany t_mostWorth t_fitMany t_narrowCost t_tape z.1 t_read) H locs → W p l e R s m args below meth c H locs cells slots Q (F0 m 41 ls []))) (K := fun res => (∀ (H : Heap) (locs : List Loc) (ls : Array Slot), lv_has ls 6 [] → St D w0 s (wX12_readPart dA ht ht_tape ht_now ht_read ht_kept ht_ground ht_readGround ht_keptGround ht_name ht_isKept ht_louds ht_sharps ht_row ht_along ht_needs ht_best ht_order ht_shortRow ht_was ht_saved ht_next ht_fitted ht_beam ht_heardAhead ht_sharesMost ht_sharesMoved ht_nextMost ht_nextMoved t_thrown t_taped t_size t_to t_from t_kind t_number t_fault t_spot t_word t_told t_isBegun t_had t_rowMany t_least t_shortMany t_mostWorth t_fitMany t_narrowCost t_tape res t_read) H locs → W p l e R s m args below meth c H locs cells slots Q (F0 m 69 ls []))) (fun z r hf hK H locs ls hl hw => tX12_readPart_l41b C ht ht_tape ht_now ht_read ht_kept ht_ground ht_readGround ht_keptGround ht_name ht_isKept ht_louds ht_sharps ht_row ht_along ht_needs ht_best ht_order ht_shortRow ht_was ht_saved ht_next ht_fitted ht_beam ht_heardAhead ht_sharesMost ht_sharesMoved ht_nextMost ht_nextMoved hR t_thrown t_taped t_size t_to t_from t_kind t_number t_fault t_spot t_word t_told t_isBegun t_had t_rowMany t_least t_shortMany t_mostWorth t_fitMany t_narrowCost t_tape z.1 t_read v2 z.2 N r hf (by cases r with
    | inl r => exact hK
    | inr r => exact hK) hl hw) n _ res hf hK H locs ls hl hw
set_option maxHeartbeats 4000000 in
set_option maxRecDepth 100000 in
theorem qX12_readPart (l : Launch) (D : va_G) (dA : Nat → ClassId) (ht ht_tape ht_now ht_read ht_kept ht_ground ht_readGround ht_keptGround ht_name ht_isKept ht_louds ht_sharps ht_row ht_along ht_needs ht_best ht_order ht_shortRow ht_was ht_saved ht_next ht_fitted ht_beam ht_heardAhead ht_sharesMost ht_sharesMoved ht_nextMost ht_nextMoved : Nat) (t_thrown : Int32) (t_taped : Int32) (t_size : Int32) (t_to : Int32) (t_from : Int32) (t_kind : Int32) (t_number : Int32) (t_fault : Int32) (t_spot : Int32) (t_word : Int64) (t_told : Int32) (t_isBegun : Int32) (t_had : Int32) (t_rowMany : Int32) (t_least : Int32) (t_shortMany : Int32) (t_mostWorth : Int32) (t_fitMany : Int32) (t_narrowCost : Int32) (t_tape : (Nat → Int32)) (t_readGround : (Nat → Int64)) (t_read : (Nat → Int32)) (x1_ : Int32) (x2_ : Int32) (x3_ : Int32) (N : Nat) (o : Int32 × Int32 × Int32 × Int32 × Int32 × Int32 × Int64 × Int32 × (Nat → Int64) × (Nat → Int32) × Int32) (hf : fX12_readPart N t_size t_to t_from t_kind t_number t_fault t_spot t_word t_told t_tape t_readGround t_read x1_ x2_ x3_ = some o) : Mi l D dA yX12_readPart (Cond.code yX12_readPart cX12_readPart 6 (some .boolean) :: wA) 3 67 [.ref ht, .int x1_, .int x2_, .int x3_] (wX12_readPart dA ht ht_tape ht_now ht_read ht_kept ht_ground ht_readGround ht_keptGround ht_name ht_isKept ht_louds ht_sharps ht_row ht_along ht_needs ht_best ht_order ht_shortRow ht_was ht_saved ht_next ht_fitted ht_beam ht_heardAhead ht_sharesMost ht_sharesMoved ht_nextMost ht_nextMoved t_thrown t_taped t_size t_to t_from t_kind t_number t_fault t_spot t_word t_told t_isBegun t_had t_rowMany t_least t_shortMany t_mostWorth t_fitMany t_narrowCost t_tape t_readGround t_read) (wX12_readPart dA ht ht_tape ht_now ht_read ht_kept ht_ground ht_readGround ht_keptGround ht_name ht_isKept ht_louds ht_sharps ht_row ht_along ht_needs ht_best ht_order ht_shortRow ht_was ht_saved ht_next ht_fitted ht_beam ht_heardAhead ht_sharesMost ht_sharesMoved ht_nextMost ht_nextMoved t_thrown t_taped t_size o.1 o.2.1 o.2.2.1 o.2.2.2.1 o.2.2.2.2.1 o.2.2.2.2.2.1 o.2.2.2.2.2.2.1 o.2.2.2.2.2.2.2.1 t_isBegun t_had t_rowMany t_least t_shortMany t_mostWorth t_fitMany t_narrowCost t_tape o.2.2.2.2.2.2.2.2.1 o.2.2.2.2.2.2.2.2.2.1) o.2.2.2.2.2.2.2.2.2.2 := by
  intro sz
  refine M_of (cc := cX12_readPart) (nL := 6) (ret := (some .boolean)) (own := RX12) (by decide +kernel) rfl (Nat.le_of_ble_eq_true rfl) ?_
  intro p e s m below meth c ls hsz C hw hl
  subst hsz
  have hR : 3 ≤ (rmm 3 67).frames ∧ 67 ≤ (rmm 3 67).locals ∧ 0 ≤ (rmm 3 67).cells ∧ 0 ≤ (rmm 3 67).slots := ⟨Nat.le_refl _, Nat.le_refl _, Nat.le_refl _, Nat.le_refl _⟩
  have hl : lv_has ls 6 [(0, .ref ht), (1, .int x1_), (2, .int x2_), (3, .int x3_)] := hl
  have hx := C.1
  have hb := C.2.1
  have hml := C.2.2.1
  have hown := C.2.2.2.1
  have hts := C.2.2.2.2.1
  have hK : ∀ (H : Heap) (locs : List Loc) (pc : Nat) (ls : Array Slot), (o.2.2.2.2.2.2.2.2.2.2 = 0 ∨ o.2.2.2.2.2.2.2.2.2.2 = 1) → decode cX12_readPart pc = .ok (.ireturn, 1) → St D (wX12_readPart dA ht ht_tape ht_now ht_read ht_kept ht_ground ht_readGround ht_keptGround ht_name ht_isKept ht_louds ht_sharps ht_row ht_along ht_needs ht_best ht_order ht_shortRow ht_was ht_saved ht_next ht_fitted ht_beam ht_heardAhead ht_sharesMost ht_sharesMoved ht_nextMost ht_nextMoved t_thrown t_taped t_size t_to t_from t_kind t_number t_fault t_spot t_word t_told t_isBegun t_had t_rowMany t_least t_shortMany t_mostWorth t_fitMany t_narrowCost t_tape t_readGround t_read) s (wX12_readPart dA ht ht_tape ht_now ht_read ht_kept ht_ground ht_readGround ht_keptGround ht_name ht_isKept ht_louds ht_sharps ht_row ht_along ht_needs ht_best ht_order ht_shortRow ht_was ht_saved ht_next ht_fitted ht_beam ht_heardAhead ht_sharesMost ht_sharesMoved ht_nextMost ht_nextMoved t_thrown t_taped t_size o.1 o.2.1 o.2.2.1 o.2.2.2.1 o.2.2.2.2.1 o.2.2.2.2.2.1 o.2.2.2.2.2.2.1 o.2.2.2.2.2.2.2.1 t_isBegun t_had t_rowMany t_least t_shortMany t_mostWorth t_fitMany t_narrowCost t_tape o.2.2.2.2.2.2.2.2.1 o.2.2.2.2.2.2.2.2.2.1) H locs → W p l e (rmm 3 67) s m [.ref ht, .int x1_, .int x2_, .int x3_].toArray below meth c H locs 0 0 (MQ below (Qi D (wX12_readPart dA ht ht_tape ht_now ht_read ht_kept ht_ground ht_readGround ht_keptGround ht_name ht_isKept ht_louds ht_sharps ht_row ht_along ht_needs ht_best ht_order ht_shortRow ht_was ht_saved ht_next ht_fitted ht_beam ht_heardAhead ht_sharesMost ht_sharesMoved ht_nextMost ht_nextMoved t_thrown t_taped t_size t_to t_from t_kind t_number t_fault t_spot t_word t_told t_isBegun t_had t_rowMany t_least t_shortMany t_mostWorth t_fitMany t_narrowCost t_tape t_readGround t_read) (wX12_readPart dA ht ht_tape ht_now ht_read ht_kept ht_ground ht_readGround ht_keptGround ht_name ht_isKept ht_louds ht_sharps ht_row ht_along ht_needs ht_best ht_order ht_shortRow ht_was ht_saved ht_next ht_fitted ht_beam ht_heardAhead ht_sharesMost ht_sharesMoved ht_nextMost ht_nextMoved t_thrown t_taped t_size o.1 o.2.1 o.2.2.1 o.2.2.2.1 o.2.2.2.2.1 o.2.2.2.2.2.1 o.2.2.2.2.2.2.1 o.2.2.2.2.2.2.2.1 t_isBegun t_had t_rowMany t_least t_shortMany t_mostWorth t_fitMany t_narrowCost t_tape o.2.2.2.2.2.2.2.2.1 o.2.2.2.2.2.2.2.2.2.1) o.2.2.2.2.2.2.2.2.2.2 s.heap.size) [.ref ht, .int x1_, .int x2_, .int x3_].toArray s 0 0 (va_A (wX12_readPart dA ht ht_tape ht_now ht_read ht_kept ht_ground ht_readGround ht_keptGround ht_name ht_isKept ht_louds ht_sharps ht_row ht_along ht_needs ht_best ht_order ht_shortRow ht_was ht_saved ht_next ht_fitted ht_beam ht_heardAhead ht_sharesMost ht_sharesMoved ht_nextMost ht_nextMoved t_thrown t_taped t_size t_to t_from t_kind t_number t_fault t_spot t_word t_told t_isBegun t_had t_rowMany t_least t_shortMany t_mostWorth t_fitMany t_narrowCost t_tape t_readGround t_read) s.heap.size)) (F0 m pc ls [.int o.2.2.2.2.2.2.2.2.2.2]) := fun H locs pc ls hz hd hw => k_zret C hw hz hd
  unfold fX12_readPart at hf
  refine lv_iload_n hx hb dX12_readPart_0 rfl (lv_at hl 3 rfl) ?_
  refine lv_bipush (v := (7 : Int32)) hx hb dX12_readPart_1 (by decide) ?_
  refine lv_icmp_ne (tgt := 71) hx hb dX12_readPart_3 (by decide) (fun c1 => ?_) (fun c1 => ?_)
  · have hf := ite_f c1 hf
    refine lv_iload_n hx hb dX12_readPart_71 rfl (lv_at hl 3 rfl) ?_
    refine lv_bipush (v := (8 : Int32)) hx hb dX12_readPart_72 (by decide) ?_
    refine lv_icmp_ne (tgt := 107) hx hb dX12_readPart_74 (by decide) (fun c2 => ?_) (fun c2 => ?_)
    · have hf := ite_f c2 hf
      refine lv_iload_n hx hb dX12_readPart_107 rfl (lv_at hl 3 rfl) ?_
      refine lv_bipush (v := (13 : Int32)) hx hb dX12_readPart_108 (by decide) ?_
      refine lv_icmp_ne (tgt := 167) hx hb dX12_readPart_110 (by decide) (fun c3 => ?_) (fun c3 => ?_)
      · have hf := ite_f c3 hf
        refine lv_iload_n hx hb dX12_readPart_167 rfl (lv_at hl 3 rfl) ?_
        refine lv_bipush (v := (9 : Int32)) hx hb dX12_readPart_168 (by decide) ?_
        refine lv_icmp_ne (tgt := 187) hx hb dX12_readPart_170 (by decide) (fun c4 => ?_) (fun c4 => ?_)
        · have hf := ite_f c4 hf
          refine lv_iload_n hx hb dX12_readPart_187 rfl (lv_at hl 3 rfl) ?_
          refine lv_bipush (v := (10 : Int32)) hx hb dX12_readPart_188 (by decide) ?_
          refine lv_icmp_ne (tgt := 206) hx hb dX12_readPart_190 (by decide) (fun c5 => ?_) (fun c5 => ?_)
          · have hf := ite_f c5 hf
            refine lv_aload_n hx hb dX12_readPart_206 rfl (lv_at hl 0 rfl) ?_
            refine lv_iconst (v := (0 : Int32)) hx hb dX12_readPart_207 (by decide) ?_
            refine lv_sipush (v := (9999 : Int32)) hx hb dX12_readPart_208 (by decide) ?_
            obtain ⟨o6, ho6, hf⟩ := bind_r hf
            refine k_callVi C hw (n := 2) (As := [.int (0 : Int32), .int (9999 : Int32)]) (w1 := (wX12_readPart dA ht ht_tape ht_now ht_read ht_kept ht_ground ht_readGround ht_keptGround ht_name ht_isKept ht_louds ht_sharps ht_row ht_along ht_needs ht_best ht_order ht_shortRow ht_was ht_saved ht_next ht_fitted ht_beam ht_heardAhead ht_sharesMost ht_sharesMoved ht_nextMost ht_nextMoved t_thrown t_taped t_size o6.1 o6.2.1 o6.2.2.1 o6.2.2.2.1 o6.2.2.2.2.1 o6.2.2.2.2.2.1 o6.2.2.2.2.2.2.1 o6.2.2.2.2.2.2.2.1 t_isBegun t_had t_rowMany t_least t_shortMany t_mostWorth t_fitMany t_narrowCost t_tape t_readGround t_read)) (wr := [(ht_readGround, .inl (dA 1, 16, .inr (.inl t_readGround))), (ht_read, .inl (dA 0, 340, .inl t_read))]) [0, 1] [2, 3] [2, 3, 0, 1] rfl rfl (by decide) (by decide) (by decide) rfl (by decide) (qX12_readNumber l D dA ht ht_tape ht_now ht_read ht_kept ht_ground ht_readGround ht_keptGround ht_name ht_isKept ht_louds ht_sharps ht_row ht_along ht_needs ht_best ht_order ht_shortRow ht_was ht_saved ht_next ht_fitted ht_beam ht_heardAhead ht_sharesMost ht_sharesMoved ht_nextMost ht_nextMoved t_thrown t_taped t_size t_to t_from t_kind t_number t_fault t_spot t_word t_told t_isBegun t_had t_rowMany t_least t_shortMany t_mostWorth t_fitMany t_narrowCost t_tape (0 : Int32) (9999 : Int32) N _ ho6) wlX12_197 wmX12_readNumber wvX12_readNumber wnX12 wcX12_readNumber rfl (by decide +kernel) ⟨Nat.le_trans (by decide) hR.1, Nat.le_trans (by decide) hR.2.1⟩ hR.2.2 rfl 0 rfl rfl hl.1 (Nat.le_of_ble_eq_true rfl) dX12_readPart_211 rfl (fun H locs hw => ?_)
            refine lv_if_ne (tgt := 219) hx hb dX12_readPart_214 (by decide) (fun c7 => ?_) (fun c7 => ?_)
            · have hf := ite_f c7 hf
              exact tX12_readPart_j219 C ht ht_tape ht_now ht_read ht_kept ht_ground ht_readGround ht_keptGround ht_name ht_isKept ht_louds ht_sharps ht_row ht_along ht_needs ht_best ht_order ht_shortRow ht_was ht_saved ht_next ht_fitted ht_beam ht_heardAhead ht_sharesMost ht_sharesMoved ht_nextMost ht_nextMoved hR t_thrown t_taped t_size o6.1 o6.2.1 o6.2.2.1 o6.2.2.2.1 o6.2.2.2.2.1 o6.2.2.2.2.2.1 o6.2.2.2.2.2.2.1 o6.2.2.2.2.2.2.2.1 t_isBegun t_had t_rowMany t_least t_shortMany t_mostWorth t_fitMany t_narrowCost t_tape t_readGround t_read x1_ x3_ N _ hf hK (lv_sub hl [0, 1, 3] rfl) hw
            · have hf := ite_t c7 hf
              refine lv_iconst (v := (0 : Int32)) hx hb dX12_readPart_217 (by decide) ?_
              obtain rfl := some_r hf
              exact hK _ _ _ _ (Or.inl rfl) dX12_readPart_218 hw
          · have hf := ite_t c5 hf
            refine lv_aload_n hx hb dX12_readPart_193 rfl (lv_at hl 0 rfl) ?_
            refine lv_iconst (v := (1 : Int32)) hx hb dX12_readPart_194 (by decide) ?_
            refine lv_bipush (v := (99 : Int32)) hx hb dX12_readPart_195 (by decide) ?_
            obtain ⟨o19, ho19, hf⟩ := bind_r hf
            refine k_callVi C hw (n := 2) (As := [.int (1 : Int32), .int (99 : Int32)]) (w1 := (wX12_readPart dA ht ht_tape ht_now ht_read ht_kept ht_ground ht_readGround ht_keptGround ht_name ht_isKept ht_louds ht_sharps ht_row ht_along ht_needs ht_best ht_order ht_shortRow ht_was ht_saved ht_next ht_fitted ht_beam ht_heardAhead ht_sharesMost ht_sharesMoved ht_nextMost ht_nextMoved t_thrown t_taped t_size o19.1 o19.2.1 o19.2.2.1 o19.2.2.2.1 o19.2.2.2.2.1 o19.2.2.2.2.2.1 o19.2.2.2.2.2.2.1 o19.2.2.2.2.2.2.2.1 t_isBegun t_had t_rowMany t_least t_shortMany t_mostWorth t_fitMany t_narrowCost t_tape t_readGround t_read)) (wr := [(ht_readGround, .inl (dA 1, 16, .inr (.inl t_readGround))), (ht_read, .inl (dA 0, 340, .inl t_read))]) [0, 1] [2, 3] [2, 3, 0, 1] rfl rfl (by decide) (by decide) (by decide) rfl (by decide) (qX12_readNumber l D dA ht ht_tape ht_now ht_read ht_kept ht_ground ht_readGround ht_keptGround ht_name ht_isKept ht_louds ht_sharps ht_row ht_along ht_needs ht_best ht_order ht_shortRow ht_was ht_saved ht_next ht_fitted ht_beam ht_heardAhead ht_sharesMost ht_sharesMoved ht_nextMost ht_nextMoved t_thrown t_taped t_size t_to t_from t_kind t_number t_fault t_spot t_word t_told t_isBegun t_had t_rowMany t_least t_shortMany t_mostWorth t_fitMany t_narrowCost t_tape (1 : Int32) (99 : Int32) N _ ho19) wlX12_197 wmX12_readNumber wvX12_readNumber wnX12 wcX12_readNumber rfl (by decide +kernel) ⟨Nat.le_trans (by decide) hR.1, Nat.le_trans (by decide) hR.2.1⟩ hR.2.2 rfl 0 rfl rfl hl.1 (Nat.le_of_ble_eq_true rfl) dX12_readPart_197 rfl (fun H locs hw => ?_)
            refine lv_if_eq (tgt := 217) hx hb dX12_readPart_200 (by decide) (fun c20 => ?_) (fun c20 => ?_)
            · have hf := ite_t c20 hf
              refine lv_iconst (v := (0 : Int32)) hx hb dX12_readPart_217 (by decide) ?_
              obtain rfl := some_r hf
              exact hK _ _ _ _ (Or.inl rfl) dX12_readPart_218 hw
            · have hf := ite_f c20 hf
              refine lv_goto (tgt := 219) hx hb dX12_readPart_203 (by decide) ?_
              exact tX12_readPart_j219 C ht ht_tape ht_now ht_read ht_kept ht_ground ht_readGround ht_keptGround ht_name ht_isKept ht_louds ht_sharps ht_row ht_along ht_needs ht_best ht_order ht_shortRow ht_was ht_saved ht_next ht_fitted ht_beam ht_heardAhead ht_sharesMost ht_sharesMoved ht_nextMost ht_nextMoved hR t_thrown t_taped t_size o19.1 o19.2.1 o19.2.2.1 o19.2.2.2.1 o19.2.2.2.2.1 o19.2.2.2.2.2.1 o19.2.2.2.2.2.2.1 o19.2.2.2.2.2.2.2.1 t_isBegun t_had t_rowMany t_least t_shortMany t_mostWorth t_fitMany t_narrowCost t_tape t_readGround t_read x1_ x3_ N _ hf hK (lv_sub hl [0, 1, 3] rfl) hw
        · have hf := ite_t c4 hf
          refine lv_aload_n hx hb dX12_readPart_173 rfl (lv_at hl 0 rfl) ?_
          refine lv_iconst (v := (1 : Int32)) hx hb dX12_readPart_174 (by decide) ?_
          refine lv_sipush (v := (999 : Int32)) hx hb dX12_readPart_175 (by decide) ?_
          obtain ⟨o21, ho21, hf⟩ := bind_r hf
          refine k_callVi C hw (n := 2) (As := [.int (1 : Int32), .int (999 : Int32)]) (w1 := (wX12_readPart dA ht ht_tape ht_now ht_read ht_kept ht_ground ht_readGround ht_keptGround ht_name ht_isKept ht_louds ht_sharps ht_row ht_along ht_needs ht_best ht_order ht_shortRow ht_was ht_saved ht_next ht_fitted ht_beam ht_heardAhead ht_sharesMost ht_sharesMoved ht_nextMost ht_nextMoved t_thrown t_taped t_size o21.1 o21.2.1 o21.2.2.1 o21.2.2.2.1 o21.2.2.2.2.1 o21.2.2.2.2.2.1 o21.2.2.2.2.2.2.1 o21.2.2.2.2.2.2.2.1 t_isBegun t_had t_rowMany t_least t_shortMany t_mostWorth t_fitMany t_narrowCost t_tape t_readGround t_read)) (wr := [(ht_readGround, .inl (dA 1, 16, .inr (.inl t_readGround))), (ht_read, .inl (dA 0, 340, .inl t_read))]) [0, 1] [2, 3] [2, 3, 0, 1] rfl rfl (by decide) (by decide) (by decide) rfl (by decide) (qX12_readNumber l D dA ht ht_tape ht_now ht_read ht_kept ht_ground ht_readGround ht_keptGround ht_name ht_isKept ht_louds ht_sharps ht_row ht_along ht_needs ht_best ht_order ht_shortRow ht_was ht_saved ht_next ht_fitted ht_beam ht_heardAhead ht_sharesMost ht_sharesMoved ht_nextMost ht_nextMoved t_thrown t_taped t_size t_to t_from t_kind t_number t_fault t_spot t_word t_told t_isBegun t_had t_rowMany t_least t_shortMany t_mostWorth t_fitMany t_narrowCost t_tape (1 : Int32) (999 : Int32) N _ ho21) wlX12_197 wmX12_readNumber wvX12_readNumber wnX12 wcX12_readNumber rfl (by decide +kernel) ⟨Nat.le_trans (by decide) hR.1, Nat.le_trans (by decide) hR.2.1⟩ hR.2.2 rfl 0 rfl rfl hl.1 (Nat.le_of_ble_eq_true rfl) dX12_readPart_178 rfl (fun H locs hw => ?_)
          refine lv_if_eq (tgt := 217) hx hb dX12_readPart_181 (by decide) (fun c22 => ?_) (fun c22 => ?_)
          · have hf := ite_t c22 hf
            refine lv_iconst (v := (0 : Int32)) hx hb dX12_readPart_217 (by decide) ?_
            obtain rfl := some_r hf
            exact hK _ _ _ _ (Or.inl rfl) dX12_readPart_218 hw
          · have hf := ite_f c22 hf
            refine lv_goto (tgt := 219) hx hb dX12_readPart_184 (by decide) ?_
            exact tX12_readPart_j219 C ht ht_tape ht_now ht_read ht_kept ht_ground ht_readGround ht_keptGround ht_name ht_isKept ht_louds ht_sharps ht_row ht_along ht_needs ht_best ht_order ht_shortRow ht_was ht_saved ht_next ht_fitted ht_beam ht_heardAhead ht_sharesMost ht_sharesMoved ht_nextMost ht_nextMoved hR t_thrown t_taped t_size o21.1 o21.2.1 o21.2.2.1 o21.2.2.2.1 o21.2.2.2.2.1 o21.2.2.2.2.2.1 o21.2.2.2.2.2.2.1 o21.2.2.2.2.2.2.2.1 t_isBegun t_had t_rowMany t_least t_shortMany t_mostWorth t_fitMany t_narrowCost t_tape t_readGround t_read x1_ x3_ N _ hf hK (lv_sub hl [0, 1, 3] rfl) hw
      · have hf := ite_t c3 hf
        refine lv_aload_n hx hb dX12_readPart_113 rfl (lv_at hl 0 rfl) ?_
        refine lv_iconst (v := (0 : Int32)) hx hb dX12_readPart_114 (by decide) ?_
        refine lv_sipush (v := (300 : Int32)) hx hb dX12_readPart_115 (by decide) ?_
        obtain ⟨o23, ho23, hf⟩ := bind_r hf
        refine k_callVi C hw (n := 2) (As := [.int (0 : Int32), .int (300 : Int32)]) (w1 := (wX12_readPart dA ht ht_tape ht_now ht_read ht_kept ht_ground ht_readGround ht_keptGround ht_name ht_isKept ht_louds ht_sharps ht_row ht_along ht_needs ht_best ht_order ht_shortRow ht_was ht_saved ht_next ht_fitted ht_beam ht_heardAhead ht_sharesMost ht_sharesMoved ht_nextMost ht_nextMoved t_thrown t_taped t_size o23.1 o23.2.1 o23.2.2.1 o23.2.2.2.1 o23.2.2.2.2.1 o23.2.2.2.2.2.1 o23.2.2.2.2.2.2.1 o23.2.2.2.2.2.2.2.1 t_isBegun t_had t_rowMany t_least t_shortMany t_mostWorth t_fitMany t_narrowCost t_tape t_readGround t_read)) (wr := [(ht_readGround, .inl (dA 1, 16, .inr (.inl t_readGround))), (ht_read, .inl (dA 0, 340, .inl t_read))]) [0, 1] [2, 3] [2, 3, 0, 1] rfl rfl (by decide) (by decide) (by decide) rfl (by decide) (qX12_readNumber l D dA ht ht_tape ht_now ht_read ht_kept ht_ground ht_readGround ht_keptGround ht_name ht_isKept ht_louds ht_sharps ht_row ht_along ht_needs ht_best ht_order ht_shortRow ht_was ht_saved ht_next ht_fitted ht_beam ht_heardAhead ht_sharesMost ht_sharesMoved ht_nextMost ht_nextMoved t_thrown t_taped t_size t_to t_from t_kind t_number t_fault t_spot t_word t_told t_isBegun t_had t_rowMany t_least t_shortMany t_mostWorth t_fitMany t_narrowCost t_tape (0 : Int32) (300 : Int32) N _ ho23) wlX12_197 wmX12_readNumber wvX12_readNumber wnX12 wcX12_readNumber rfl (by decide +kernel) ⟨Nat.le_trans (by decide) hR.1, Nat.le_trans (by decide) hR.2.1⟩ hR.2.2 rfl 0 rfl rfl hl.1 (Nat.le_of_ble_eq_true rfl) dX12_readPart_118 rfl (fun H locs hw => ?_)
        refine lv_if_ne (tgt := 126) hx hb dX12_readPart_121 (by decide) (fun c24 => ?_) (fun c24 => ?_)
        · have hf := ite_f c24 hf
          refine lv_aload_n hx hb dX12_readPart_126 rfl (lv_at hl 0 rfl) ?_
          refine k_get C hw 0 rfl rfl wiX12 13 (by decide) wfX12_16 rfl dX12_readPart_127 ?_
          refine lv_iload_n hx hb dX12_readPart_130 rfl (lv_at hl 1 rfl) ?_
          refine lv_bipush (v := (8 : Int32)) hx hb dX12_readPart_131 (by decide) ?_
          refine lv_iadd hx hb dX12_readPart_133 ?_
          refine lv_aload_n hx hb dX12_readPart_134 rfl (lv_at hl 0 rfl) ?_
          refine k_get C hw 0 rfl rfl wiX12 11 (by decide) wfX12_166 rfl dX12_readPart_135 ?_
          obtain ⟨g25, hf⟩ := gdi_r hf
          obtain ⟨y26, ey26⟩ : ∃ z : Nat → Int32, z = upd t_read (x1_ + (8 : Int32)).toNatClampNeg o23.2.2.2.2.2.2.2.1 := ⟨_, rfl⟩
          have hf := bnd_r ey26 hf
          refine k_iast C hw 3 rfl g25 dX12_readPart_138 y26 ey26 (wX12_readPart dA ht ht_tape ht_now ht_read ht_kept ht_ground ht_readGround ht_keptGround ht_name ht_isKept ht_louds ht_sharps ht_row ht_along ht_needs ht_best ht_order ht_shortRow ht_was ht_saved ht_next ht_fitted ht_beam ht_heardAhead ht_sharesMost ht_sharesMoved ht_nextMost ht_nextMoved t_thrown t_taped t_size o23.1 o23.2.1 o23.2.2.1 o23.2.2.2.1 o23.2.2.2.2.1 o23.2.2.2.2.2.1 o23.2.2.2.2.2.2.1 o23.2.2.2.2.2.2.2.1 t_isBegun t_had t_rowMany t_least t_shortMany t_mostWorth t_fitMany t_narrowCost t_tape t_readGround y26) rfl (fun H locs hw => ?_)
          refine lv_aload_n hx hb dX12_readPart_139 rfl (lv_at hl 0 rfl) ?_
          refine lv_iconst (v := (4 : Int32)) hx hb dX12_readPart_140 (by decide) ?_
          refine lv_sipush (v := (999 : Int32)) hx hb dX12_readPart_141 (by decide) ?_
          obtain ⟨o27, ho27, hf⟩ := bind_r hf
          refine k_callVi C hw (n := 2) (As := [.int (4 : Int32), .int (999 : Int32)]) (w1 := (wX12_readPart dA ht ht_tape ht_now ht_read ht_kept ht_ground ht_readGround ht_keptGround ht_name ht_isKept ht_louds ht_sharps ht_row ht_along ht_needs ht_best ht_order ht_shortRow ht_was ht_saved ht_next ht_fitted ht_beam ht_heardAhead ht_sharesMost ht_sharesMoved ht_nextMost ht_nextMoved t_thrown t_taped t_size o27.1 o27.2.1 o27.2.2.1 o27.2.2.2.1 o27.2.2.2.2.1 o27.2.2.2.2.2.1 o27.2.2.2.2.2.2.1 o27.2.2.2.2.2.2.2.1 t_isBegun t_had t_rowMany t_least t_shortMany t_mostWorth t_fitMany t_narrowCost t_tape t_readGround y26)) (wr := [(ht_readGround, .inl (dA 1, 16, .inr (.inl t_readGround))), (ht_read, .inl (dA 0, 340, .inl y26))]) [0, 1] [2, 3] [2, 3, 0, 1] rfl rfl (by decide) (by decide) (by decide) rfl (by decide) (qX12_readNumber l D dA ht ht_tape ht_now ht_read ht_kept ht_ground ht_readGround ht_keptGround ht_name ht_isKept ht_louds ht_sharps ht_row ht_along ht_needs ht_best ht_order ht_shortRow ht_was ht_saved ht_next ht_fitted ht_beam ht_heardAhead ht_sharesMost ht_sharesMoved ht_nextMost ht_nextMoved t_thrown t_taped t_size o23.1 o23.2.1 o23.2.2.1 o23.2.2.2.1 o23.2.2.2.2.1 o23.2.2.2.2.2.1 o23.2.2.2.2.2.2.1 o23.2.2.2.2.2.2.2.1 t_isBegun t_had t_rowMany t_least t_shortMany t_mostWorth t_fitMany t_narrowCost t_tape (4 : Int32) (999 : Int32) N _ ho27) wlX12_197 wmX12_readNumber wvX12_readNumber wnX12 wcX12_readNumber rfl (by decide +kernel) ⟨Nat.le_trans (by decide) hR.1, Nat.le_trans (by decide) hR.2.1⟩ hR.2.2 rfl 0 rfl rfl hl.1 (Nat.le_of_ble_eq_true rfl) dX12_readPart_144 rfl (fun H locs hw => ?_)
          refine lv_if_ne (tgt := 152) hx hb dX12_readPart_147 (by decide) (fun c28 => ?_) (fun c28 => ?_)
          · have hf := ite_f c28 hf
            refine lv_aload_n hx hb dX12_readPart_152 rfl (lv_at hl 0 rfl) ?_
            refine k_get C hw 0 rfl rfl wiX12 13 (by decide) wfX12_16 rfl dX12_readPart_153 ?_
            refine lv_iload_n hx hb dX12_readPart_156 rfl (lv_at hl 1 rfl) ?_
            refine lv_bipush (v := (9 : Int32)) hx hb dX12_readPart_157 (by decide) ?_
            refine lv_iadd hx hb dX12_readPart_159 ?_
            refine lv_aload_n hx hb dX12_readPart_160 rfl (lv_at hl 0 rfl) ?_
            refine k_get C hw 0 rfl rfl wiX12 11 (by decide) wfX12_166 rfl dX12_readPart_161 ?_
            obtain ⟨g29, hf⟩ := gdi_r hf
            obtain ⟨y30, ey30⟩ : ∃ z : Nat → Int32, z = upd y26 (x1_ + (9 : Int32)).toNatClampNeg o27.2.2.2.2.2.2.2.1 := ⟨_, rfl⟩
            have hf := bnd_r ey30 hf
            refine k_iast C hw 3 rfl g29 dX12_readPart_164 y30 ey30 (wX12_readPart dA ht ht_tape ht_now ht_read ht_kept ht_ground ht_readGround ht_keptGround ht_name ht_isKept ht_louds ht_sharps ht_row ht_along ht_needs ht_best ht_order ht_shortRow ht_was ht_saved ht_next ht_fitted ht_beam ht_heardAhead ht_sharesMost ht_sharesMoved ht_nextMost ht_nextMoved t_thrown t_taped t_size o27.1 o27.2.1 o27.2.2.1 o27.2.2.2.1 o27.2.2.2.2.1 o27.2.2.2.2.2.1 o27.2.2.2.2.2.2.1 o27.2.2.2.2.2.2.2.1 t_isBegun t_had t_rowMany t_least t_shortMany t_mostWorth t_fitMany t_narrowCost t_tape t_readGround y30) rfl (fun H locs hw => ?_)
            refine lv_iconst (v := (1 : Int32)) hx hb dX12_readPart_165 (by decide) ?_
            obtain rfl := some_r hf
            exact hK _ _ _ _ (Or.inr rfl) dX12_readPart_166 hw
          · have hf := ite_t c28 hf
            refine lv_iconst (v := (0 : Int32)) hx hb dX12_readPart_150 (by decide) ?_
            obtain rfl := some_r hf
            exact hK _ _ _ _ (Or.inl rfl) dX12_readPart_151 hw
        · have hf := ite_t c24 hf
          refine lv_iconst (v := (0 : Int32)) hx hb dX12_readPart_124 (by decide) ?_
          obtain rfl := some_r hf
          exact hK _ _ _ _ (Or.inl rfl) dX12_readPart_125 hw
    · have hf := ite_t c2 hf
      refine lv_aload_n hx hb dX12_readPart_77 rfl (lv_at hl 0 rfl) ?_
      refine lv_iconst (v := (0 : Int32)) hx hb dX12_readPart_78 (by decide) ?_
      refine lv_iconst (v := (3 : Int32)) hx hb dX12_readPart_79 (by decide) ?_
      obtain ⟨o31, ho31, hf⟩ := bind_r hf
      refine k_callVi C hw (n := 2) (As := [.int (0 : Int32), .int (3 : Int32)]) (w1 := (wX12_readPart dA ht ht_tape ht_now ht_read ht_kept ht_ground ht_readGround ht_keptGround ht_name ht_isKept ht_louds ht_sharps ht_row ht_along ht_needs ht_best ht_order ht_shortRow ht_was ht_saved ht_next ht_fitted ht_beam ht_heardAhead ht_sharesMost ht_sharesMoved ht_nextMost ht_nextMoved t_thrown t_taped t_size o31.1 o31.2.1 o31.2.2.1 o31.2.2.2.1 o31.2.2.2.2.1 o31.2.2.2.2.2.1 o31.2.2.2.2.2.2.1 o31.2.2.2.2.2.2.2.1 t_isBegun t_had t_rowMany t_least t_shortMany t_mostWorth t_fitMany t_narrowCost t_tape t_readGround t_read)) (wr := [(ht_readGround, .inl (dA 1, 16, .inr (.inl t_readGround))), (ht_read, .inl (dA 0, 340, .inl t_read))]) [0, 1] [2, 3] [2, 3, 0, 1] rfl rfl (by decide) (by decide) (by decide) rfl (by decide) (qX12_readNumber l D dA ht ht_tape ht_now ht_read ht_kept ht_ground ht_readGround ht_keptGround ht_name ht_isKept ht_louds ht_sharps ht_row ht_along ht_needs ht_best ht_order ht_shortRow ht_was ht_saved ht_next ht_fitted ht_beam ht_heardAhead ht_sharesMost ht_sharesMoved ht_nextMost ht_nextMoved t_thrown t_taped t_size t_to t_from t_kind t_number t_fault t_spot t_word t_told t_isBegun t_had t_rowMany t_least t_shortMany t_mostWorth t_fitMany t_narrowCost t_tape (0 : Int32) (3 : Int32) N _ ho31) wlX12_197 wmX12_readNumber wvX12_readNumber wnX12 wcX12_readNumber rfl (by decide +kernel) ⟨Nat.le_trans (by decide) hR.1, Nat.le_trans (by decide) hR.2.1⟩ hR.2.2 rfl 0 rfl rfl hl.1 (Nat.le_of_ble_eq_true rfl) dX12_readPart_80 rfl (fun H locs hw => ?_)
      refine lv_if_ne (tgt := 88) hx hb dX12_readPart_83 (by decide) (fun c32 => ?_) (fun c32 => ?_)
      · have hf := ite_f c32 hf
        refine lv_aload_n hx hb dX12_readPart_88 rfl (lv_at hl 0 rfl) ?_
        refine k_get C hw 0 rfl rfl wiX12 13 (by decide) wfX12_16 rfl dX12_readPart_89 ?_
        refine lv_iload_n hx hb dX12_readPart_92 rfl (lv_at hl 1 rfl) ?_
        refine lv_iconst (v := (3 : Int32)) hx hb dX12_readPart_93 (by decide) ?_
        refine lv_iadd hx hb dX12_readPart_94 ?_
        refine lv_dup2_11 hx hb dX12_readPart_95 rfl rfl ?_
        obtain ⟨g33, hf⟩ := gdi_r hf
        refine k_iald C hw 3 rfl g33 dX12_readPart_96 ?_
        refine lv_iconst (v := (1 : Int32)) hx hb dX12_readPart_97 (by decide) ?_
        refine lv_aload_n hx hb dX12_readPart_98 rfl (lv_at hl 0 rfl) ?_
        refine k_get C hw 0 rfl rfl wiX12 11 (by decide) wfX12_166 rfl dX12_readPart_99 ?_
        refine lv_ishl hx hb dX12_readPart_102 ?_
        refine lv_ior hx hb dX12_readPart_103 ?_
        obtain ⟨g34, hf⟩ := gdi_r hf
        obtain ⟨y35, ey35⟩ : ∃ z : Nat → Int32, z = upd t_read (x1_ + (3 : Int32)).toNatClampNeg ((t_read (x1_ + (3 : Int32)).toNatClampNeg) ||| ((1 : Int32) <<< (o31.2.2.2.2.2.2.2.1 &&& 31))) := ⟨_, rfl⟩
        have hf := bnd_r ey35 hf
        refine k_iast C hw 3 rfl g34 dX12_readPart_104 y35 ey35 (wX12_readPart dA ht ht_tape ht_now ht_read ht_kept ht_ground ht_readGround ht_keptGround ht_name ht_isKept ht_louds ht_sharps ht_row ht_along ht_needs ht_best ht_order ht_shortRow ht_was ht_saved ht_next ht_fitted ht_beam ht_heardAhead ht_sharesMost ht_sharesMoved ht_nextMost ht_nextMoved t_thrown t_taped t_size o31.1 o31.2.1 o31.2.2.1 o31.2.2.2.1 o31.2.2.2.2.1 o31.2.2.2.2.2.1 o31.2.2.2.2.2.2.1 o31.2.2.2.2.2.2.2.1 t_isBegun t_had t_rowMany t_least t_shortMany t_mostWorth t_fitMany t_narrowCost t_tape t_readGround y35) rfl (fun H locs hw => ?_)
        refine lv_iconst (v := (1 : Int32)) hx hb dX12_readPart_105 (by decide) ?_
        obtain rfl := some_r hf
        exact hK _ _ _ _ (Or.inr rfl) dX12_readPart_106 hw
      · have hf := ite_t c32 hf
        refine lv_iconst (v := (0 : Int32)) hx hb dX12_readPart_86 (by decide) ?_
        obtain rfl := some_r hf
        exact hK _ _ _ _ (Or.inl rfl) dX12_readPart_87 hw
  · have hf := ite_t c1 hf
    refine lv_aload_n hx hb dX12_readPart_6 rfl (lv_at hl 0 rfl) ?_
    refine lv_iconst (v := (0 : Int32)) hx hb dX12_readPart_7 (by decide) ?_
    refine lv_bipush (v := (39 : Int32)) hx hb dX12_readPart_8 (by decide) ?_
    obtain ⟨o36, ho36, hf⟩ := bind_r hf
    refine k_callVi C hw (n := 2) (As := [.int (0 : Int32), .int (39 : Int32)]) (w1 := (wX12_readPart dA ht ht_tape ht_now ht_read ht_kept ht_ground ht_readGround ht_keptGround ht_name ht_isKept ht_louds ht_sharps ht_row ht_along ht_needs ht_best ht_order ht_shortRow ht_was ht_saved ht_next ht_fitted ht_beam ht_heardAhead ht_sharesMost ht_sharesMoved ht_nextMost ht_nextMoved t_thrown t_taped t_size o36.1 o36.2.1 o36.2.2.1 o36.2.2.2.1 o36.2.2.2.2.1 o36.2.2.2.2.2.1 o36.2.2.2.2.2.2.1 o36.2.2.2.2.2.2.2.1 t_isBegun t_had t_rowMany t_least t_shortMany t_mostWorth t_fitMany t_narrowCost t_tape t_readGround t_read)) (wr := [(ht_readGround, .inl (dA 1, 16, .inr (.inl t_readGround))), (ht_read, .inl (dA 0, 340, .inl t_read))]) [0, 1] [2, 3] [2, 3, 0, 1] rfl rfl (by decide) (by decide) (by decide) rfl (by decide) (qX12_readNumber l D dA ht ht_tape ht_now ht_read ht_kept ht_ground ht_readGround ht_keptGround ht_name ht_isKept ht_louds ht_sharps ht_row ht_along ht_needs ht_best ht_order ht_shortRow ht_was ht_saved ht_next ht_fitted ht_beam ht_heardAhead ht_sharesMost ht_sharesMoved ht_nextMost ht_nextMoved t_thrown t_taped t_size t_to t_from t_kind t_number t_fault t_spot t_word t_told t_isBegun t_had t_rowMany t_least t_shortMany t_mostWorth t_fitMany t_narrowCost t_tape (0 : Int32) (39 : Int32) N _ ho36) wlX12_197 wmX12_readNumber wvX12_readNumber wnX12 wcX12_readNumber rfl (by decide +kernel) ⟨Nat.le_trans (by decide) hR.1, Nat.le_trans (by decide) hR.2.1⟩ hR.2.2 rfl 0 rfl rfl hl.1 (Nat.le_of_ble_eq_true rfl) dX12_readPart_10 rfl (fun H locs hw => ?_)
    refine lv_if_ne (tgt := 18) hx hb dX12_readPart_13 (by decide) (fun c37 => ?_) (fun c37 => ?_)
    · have hf := ite_f c37 hf
      refine lv_aload_n hx hb dX12_readPart_18 rfl (lv_at hl 0 rfl) ?_
      refine k_get C hw 0 rfl rfl wiX12 11 (by decide) wfX12_166 rfl dX12_readPart_19 ?_
      refine lv_istore (lv' := [(4, .int o36.2.2.2.2.2.2.2.1), (0, .ref ht), (1, .int x1_), (2, .int x2_), (3, .int x3_)]) hx hb dX12_readPart_22 hl (by decide) rfl (fun ls hl => ?_)
      refine lv_aload_n hx hb dX12_readPart_24 rfl (lv_at hl 1 rfl) ?_
      refine lv_iload hx hb dX12_readPart_25 (lv_at hl 0 rfl) ?_
      refine lv_bipush (v := (39 : Int32)) hx hb dX12_readPart_27 (by decide) ?_
      obtain ⟨o38, ho38, hf⟩ := bind_r hf
      refine k_callVi C hw (n := 2) (As := [.int o36.2.2.2.2.2.2.2.1, .int (39 : Int32)]) (w1 := (wX12_readPart dA ht ht_tape ht_now ht_read ht_kept ht_ground ht_readGround ht_keptGround ht_name ht_isKept ht_louds ht_sharps ht_row ht_along ht_needs ht_best ht_order ht_shortRow ht_was ht_saved ht_next ht_fitted ht_beam ht_heardAhead ht_sharesMost ht_sharesMoved ht_nextMost ht_nextMoved t_thrown t_taped t_size o38.1 o38.2.1 o38.2.2.1 o38.2.2.2.1 o38.2.2.2.2.1 o38.2.2.2.2.2.1 o38.2.2.2.2.2.2.1 o38.2.2.2.2.2.2.2.1 t_isBegun t_had t_rowMany t_least t_shortMany t_mostWorth t_fitMany t_narrowCost t_tape t_readGround t_read)) (wr := [(ht_readGround, .inl (dA 1, 16, .inr (.inl t_readGround))), (ht_read, .inl (dA 0, 340, .inl t_read))]) [0, 1] [2, 3] [2, 3, 0, 1] rfl rfl (by decide) (by decide) (by decide) rfl (by decide) (qX12_readNumber l D dA ht ht_tape ht_now ht_read ht_kept ht_ground ht_readGround ht_keptGround ht_name ht_isKept ht_louds ht_sharps ht_row ht_along ht_needs ht_best ht_order ht_shortRow ht_was ht_saved ht_next ht_fitted ht_beam ht_heardAhead ht_sharesMost ht_sharesMoved ht_nextMost ht_nextMoved t_thrown t_taped t_size o36.1 o36.2.1 o36.2.2.1 o36.2.2.2.1 o36.2.2.2.2.1 o36.2.2.2.2.2.1 o36.2.2.2.2.2.2.1 o36.2.2.2.2.2.2.2.1 t_isBegun t_had t_rowMany t_least t_shortMany t_mostWorth t_fitMany t_narrowCost t_tape o36.2.2.2.2.2.2.2.1 (39 : Int32) N _ ho38) wlX12_197 wmX12_readNumber wvX12_readNumber wnX12 wcX12_readNumber rfl (by decide +kernel) ⟨Nat.le_trans (by decide) hR.1, Nat.le_trans (by decide) hR.2.1⟩ hR.2.2 rfl 0 rfl rfl hl.1 (Nat.le_of_ble_eq_true rfl) dX12_readPart_29 rfl (fun H locs hw => ?_)
      refine lv_if_ne (tgt := 37) hx hb dX12_readPart_32 (by decide) (fun c39 => ?_) (fun c39 => ?_)
      · have hf := ite_f c39 hf
        refine lv_iload hx hb dX12_readPart_37 (lv_at hl 0 rfl) ?_
        refine lv_istore (lv' := [(5, .int o36.2.2.2.2.2.2.2.1), (4, .int o36.2.2.2.2.2.2.2.1), (0, .ref ht), (1, .int x1_), (2, .int x2_), (3, .int x3_)]) hx hb dX12_readPart_39 hl (by decide) rfl (fun ls hl => ?_)
        obtain ⟨q45, hq45, hf⟩ := bind_r hf
        refine tX12_readPart_l41 C ht ht_tape ht_now ht_read ht_kept ht_ground ht_readGround ht_keptGround ht_name ht_isKept ht_louds ht_sharps ht_row ht_along ht_needs ht_best ht_order ht_shortRow ht_was ht_saved ht_next ht_fitted ht_beam ht_heardAhead ht_sharesMost ht_sharesMoved ht_nextMost ht_nextMoved hR t_thrown t_taped t_size o38.1 o38.2.1 o38.2.2.1 o38.2.2.2.1 o38.2.2.2.2.1 o38.2.2.2.2.2.1 o38.2.2.2.2.2.2.1 o38.2.2.2.2.2.2.2.1 t_isBegun t_had t_rowMany t_least t_shortMany t_mostWorth t_fitMany t_narrowCost t_tape t_readGround t_read x2_ o36.2.2.2.2.2.2.2.1 N _ _ hq45 ?_ (lv_sub hl [2, 4, 0] rfl) hw
        intro H locs ls hl hw
        refine lv_iconst (v := (1 : Int32)) hx hb dX12_readPart_69 (by decide) ?_
        obtain rfl := some_r hf
        exact hK _ _ _ _ (Or.inr rfl) dX12_readPart_70 hw
      · have hf := ite_t c39 hf
        refine lv_iconst (v := (0 : Int32)) hx hb dX12_readPart_35 (by decide) ?_
        obtain rfl := some_r hf
        exact hK _ _ _ _ (Or.inl rfl) dX12_readPart_36 hw
    · have hf := ite_t c37 hf
      refine lv_iconst (v := (0 : Int32)) hx hb dX12_readPart_16 (by decide) ?_
      obtain rfl := some_r hf
      exact hK _ _ _ _ (Or.inl rfl) dX12_readPart_17 hw
