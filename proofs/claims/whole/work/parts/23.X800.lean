/-! RingPlaces$Standing.clear()V -/
abbrev wX8_clear (dA : Nat → ClassId) (ht ht_ring ht_degree ht_voice ht_loud ht_sharp ht_hears ht_tooNear ht_ring_cells ht_ring_places ht_ring_facts : Nat) (t_degree : (Nat → Int32)) (t_voice : (Nat → Int32)) (t_ring_lands : Int32) (t_ring_things : Int32) (t_ring_placeCount : Int32) (t_ring_apart : Int32) (t_ring_thereFirst : Int32) (t_ring_facts : (Nat → Int32)) (t_loud : (Nat → Int32)) (t_sharp : (Nat → Int32)) (t_hears : (Nat → Int32)) (t_tooNear : (Nat → Int32)) : va_W := [(ht, .inr (8, [.ref ht_ring, .ref ht_degree, .ref ht_voice, .ref ht_loud, .ref ht_sharp, .ref ht_hears, .ref ht_tooNear])), (ht_degree, .inl (dA 0, 16, .inl t_degree)), (ht_voice, .inl (dA 0, 16, .inl t_voice)), (ht_ring, .inr (5, [.ref ht_ring_cells, .ref ht_ring_places, .int t_ring_lands, .int t_ring_things, .int t_ring_placeCount, .int t_ring_apart, .int t_ring_thereFirst, .ref ht_ring_facts])), (ht_ring_facts, .inl (dA 0, 224, .inl t_ring_facts)), (ht_loud, .inl (dA 0, 16, .inl t_loud)), (ht_sharp, .inl (dA 0, 16, .inl t_sharp)), (ht_hears, .inl (dA 0, 16, .inl t_hears)), (ht_tooNear, .inl (dA 0, 16, .inl t_tooNear))]
def fX8_clear_l2b (N : Nat) (t_ring_facts : (Nat → Int32)) (t_degree : (Nat → Int32)) (t_voice : (Nat → Int32)) (t_loud : (Nat → Int32)) (t_sharp : (Nat → Int32)) (t_hears : (Nat → Int32)) (t_tooNear : (Nat → Int32)) (v1 : Int32) : Option (((Nat → Int32) × (Nat → Int32) × (Nat → Int32) × (Nat → Int32) × (Nat → Int32) × (Nat → Int32) × Int32) ⊕ ((Nat → Int32) × (Nat → Int32) × (Nat → Int32) × (Nat → Int32) × (Nat → Int32) × (Nat → Int32))) := (if (16 : Int32) ≤ v1 then some (.inr (t_degree, t_voice, t_loud, t_sharp, t_hears, t_tooNear)) else gdi v1 16 (bnd (upd t_degree v1.toNatClampNeg (-1 : Int32)) fun y3 => gdi v1 16 (bnd (upd t_voice v1.toNatClampNeg (-1 : Int32)) fun y5 => (fX5_told t_ring_facts v1 (4 : Int32)).bind fun o6 => gdi v1 16 (bnd (upd t_loud v1.toNatClampNeg o6) fun y8 => (fX5_told t_ring_facts v1 (5 : Int32)).bind fun o9 => gdi v1 16 (bnd (upd t_sharp v1.toNatClampNeg o9) fun y11 => gdi v1 16 (bnd (upd t_hears v1.toNatClampNeg (0 : Int32)) fun y13 => gdi v1 16 (bnd (upd t_tooNear v1.toNatClampNeg (0 : Int32)) fun y15 => bnd (v1 + (1 : Int32)) fun x16 => some (.inl (y3, y5, y8, y11, y13, y15, x16)))))))))
def fX8_clear (N : Nat) (t_degree : (Nat → Int32)) (t_voice : (Nat → Int32)) (t_ring_facts : (Nat → Int32)) (t_loud : (Nat → Int32)) (t_sharp : (Nat → Int32)) (t_hears : (Nat → Int32)) (t_tooNear : (Nat → Int32))  : Option ((Nat → Int32) × (Nat → Int32) × (Nat → Int32) × (Nat → Int32) × (Nat → Int32) × (Nat → Int32)) := (itr (fun z => fX8_clear_l2b N t_ring_facts z.1 z.2.1 z.2.2.1 z.2.2.2.1 z.2.2.2.2.1 z.2.2.2.2.2.1 z.2.2.2.2.2.2) N (t_degree, t_voice, t_loud, t_sharp, t_hears, t_tooNear, (0 : Int32))).bind fun q17 => some (q17.1, q17.2.1, q17.2.2.1, q17.2.2.2.1, q17.2.2.2.2.1, q17.2.2.2.2.2)
set_option maxHeartbeats 4000000 in
set_option maxRecDepth 100000 in
theorem tX8_clear_l2b {p : Program} {l : Launch} {e : Env} {R : Room} {s : State} {m : MethodId} {args : Array Value} {below : List Frame} {meth : Method} {c : Code} {D : va_G} {dA : Nat → ClassId} {w0 : va_W} {Q : State → Prop} {H : Heap} {locs : List Loc} {ls : Array Slot} {cells slots : Nat} (C : CX p s m args meth c cX8_clear 2 none RX8 D dA) (ht ht_ring ht_degree ht_voice ht_loud ht_sharp ht_hears ht_tooNear ht_ring_cells ht_ring_places ht_ring_facts : Nat) (hR : 1 ≤ R.frames ∧ 23 ≤ R.locals ∧ cells ≤ R.cells ∧ slots ≤ R.slots)  (t_degree : (Nat → Int32)) (t_voice : (Nat → Int32)) (t_ring_lands : Int32) (t_ring_things : Int32) (t_ring_placeCount : Int32) (t_ring_apart : Int32) (t_ring_thereFirst : Int32) (t_ring_facts : (Nat → Int32)) (t_loud : (Nat → Int32)) (t_sharp : (Nat → Int32)) (t_hears : (Nat → Int32)) (t_tooNear : (Nat → Int32)) (v1 : Int32) (N : Nat) (res : (((Nat → Int32) × (Nat → Int32) × (Nat → Int32) × (Nat → Int32) × (Nat → Int32) × (Nat → Int32) × Int32) ⊕ ((Nat → Int32) × (Nat → Int32) × (Nat → Int32) × (Nat → Int32) × (Nat → Int32) × (Nat → Int32)))) (hf : fX8_clear_l2b N t_ring_facts t_degree t_voice t_loud t_sharp t_hears t_tooNear v1 = some res) (hK : Sum.elim (fun z => (∀ (H : Heap) (locs : List Loc) (ls : Array Slot), lv_has ls 2 [(0, .ref ht), (1, .int z.2.2.2.2.2.2)] → St D w0 s (wX8_clear dA ht ht_ring ht_degree ht_voice ht_loud ht_sharp ht_hears ht_tooNear ht_ring_cells ht_ring_places ht_ring_facts z.1 z.2.1 t_ring_lands t_ring_things t_ring_placeCount t_ring_apart t_ring_thereFirst t_ring_facts z.2.2.1 z.2.2.2.1 z.2.2.2.2.1 z.2.2.2.2.2.1) H locs → W p l e R s m args below meth c H locs cells slots Q (F0 m 2 ls []))) (fun r => (∀ (H : Heap) (locs : List Loc) (ls : Array Slot), lv_has ls 2 [] → St D w0 s (wX8_clear dA ht ht_ring ht_degree ht_voice ht_loud ht_sharp ht_hears ht_tooNear ht_ring_cells ht_ring_places ht_ring_facts r.1 r.2.1 t_ring_lands t_ring_things t_ring_placeCount t_ring_apart t_ring_thereFirst t_ring_facts r.2.2.1 r.2.2.2.1 r.2.2.2.2.1 r.2.2.2.2.2) H locs → W p l e R s m args below meth c H locs cells slots Q (F0 m 72 ls []))) res) (hl : lv_has ls 2 [(0, .ref ht), (1, .int v1)]) (hw : St D w0 s (wX8_clear dA ht ht_ring ht_degree ht_voice ht_loud ht_sharp ht_hears ht_tooNear ht_ring_cells ht_ring_places ht_ring_facts t_degree t_voice t_ring_lands t_ring_things t_ring_placeCount t_ring_apart t_ring_thereFirst t_ring_facts t_loud t_sharp t_hears t_tooNear) H locs) : W p l e R s m args below meth c H locs cells slots Q (F0 m 2 ls []) := by
  have hx := C.1
  have hb := C.2.1
  have hml := C.2.2.1
  have hown := C.2.2.2.1
  have hts := C.2.2.2.2.1
  unfold fX8_clear_l2b at hf
  refine lv_iload_n hx hb dX8_clear_2 rfl (lv_at hl 1 rfl) ?_
  refine lv_bipush (v := (16 : Int32)) hx hb dX8_clear_3 (by decide) ?_
  refine lv_icmp_ge (tgt := 72) hx hb dX8_clear_5 (by decide) (fun c1 => ?_) (fun c1 => ?_)
  · have hf := ite_t c1 hf
    obtain rfl := some_r hf
    exact hK _ _ _ (lv_sub hl [] rfl) hw
  · have hf := ite_f c1 hf
    refine lv_aload_n hx hb dX8_clear_8 rfl (lv_at hl 0 rfl) ?_
    refine k_get C hw 0 rfl rfl wiX8 1 (by decide) wfX8_9 rfl dX8_clear_9 ?_
    refine lv_iload_n hx hb dX8_clear_12 rfl (lv_at hl 1 rfl) ?_
    refine lv_iconst (v := (-1 : Int32)) hx hb dX8_clear_13 (by decide) ?_
    obtain ⟨g2, hf⟩ := gdi_r hf
    obtain ⟨y3, ey3⟩ : ∃ z : Nat → Int32, z = upd t_degree v1.toNatClampNeg (-1 : Int32) := ⟨_, rfl⟩
    have hf := bnd_r ey3 hf
    refine k_iast C hw 1 rfl g2 dX8_clear_14 y3 ey3 (wX8_clear dA ht ht_ring ht_degree ht_voice ht_loud ht_sharp ht_hears ht_tooNear ht_ring_cells ht_ring_places ht_ring_facts y3 t_voice t_ring_lands t_ring_things t_ring_placeCount t_ring_apart t_ring_thereFirst t_ring_facts t_loud t_sharp t_hears t_tooNear) rfl (fun H locs hw => ?_)
    refine lv_aload_n hx hb dX8_clear_15 rfl (lv_at hl 0 rfl) ?_
    refine k_get C hw 0 rfl rfl wiX8 2 (by decide) wfX8_15 rfl dX8_clear_16 ?_
    refine lv_iload_n hx hb dX8_clear_19 rfl (lv_at hl 1 rfl) ?_
    refine lv_iconst (v := (-1 : Int32)) hx hb dX8_clear_20 (by decide) ?_
    obtain ⟨g4, hf⟩ := gdi_r hf
    obtain ⟨y5, ey5⟩ : ∃ z : Nat → Int32, z = upd t_voice v1.toNatClampNeg (-1 : Int32) := ⟨_, rfl⟩
    have hf := bnd_r ey5 hf
    refine k_iast C hw 2 rfl g4 dX8_clear_21 y5 ey5 (wX8_clear dA ht ht_ring ht_degree ht_voice ht_loud ht_sharp ht_hears ht_tooNear ht_ring_cells ht_ring_places ht_ring_facts y3 y5 t_ring_lands t_ring_things t_ring_placeCount t_ring_apart t_ring_thereFirst t_ring_facts t_loud t_sharp t_hears t_tooNear) rfl (fun H locs hw => ?_)
    refine lv_aload_n hx hb dX8_clear_22 rfl (lv_at hl 0 rfl) ?_
    refine k_get C hw 0 rfl rfl wiX8 3 (by decide) wfX8_18 rfl dX8_clear_23 ?_
    refine lv_iload_n hx hb dX8_clear_26 rfl (lv_at hl 1 rfl) ?_
    refine lv_aload_n hx hb dX8_clear_27 rfl (lv_at hl 0 rfl) ?_
    refine k_get C hw 0 rfl rfl wiX8 0 (by decide) wfX8_30 rfl dX8_clear_28 ?_
    refine lv_iload_n hx hb dX8_clear_31 rfl (lv_at hl 1 rfl) ?_
    refine lv_iconst (v := (4 : Int32)) hx hb dX8_clear_32 (by decide) ?_
    obtain ⟨o6, ho6, hf⟩ := bind_r hf
    refine k_callVi C hw (n := 2) (As := [.int v1, .int (4 : Int32)]) (w1 := (wX8_clear dA ht ht_ring ht_degree ht_voice ht_loud ht_sharp ht_hears ht_tooNear ht_ring_cells ht_ring_places ht_ring_facts y3 y5 t_ring_lands t_ring_things t_ring_placeCount t_ring_apart t_ring_thereFirst t_ring_facts t_loud t_sharp t_hears t_tooNear)) (wr := [(ht, .inr (8, [.ref ht_ring, .ref ht_degree, .ref ht_voice, .ref ht_loud, .ref ht_sharp, .ref ht_hears, .ref ht_tooNear])), (ht_degree, .inl (dA 0, 16, .inl y3)), (ht_voice, .inl (dA 0, 16, .inl y5)), (ht_loud, .inl (dA 0, 16, .inl t_loud)), (ht_sharp, .inl (dA 0, 16, .inl t_sharp)), (ht_hears, .inl (dA 0, 16, .inl t_hears)), (ht_tooNear, .inl (dA 0, 16, .inl t_tooNear))]) [3, 4] [0, 1, 2, 5, 6, 7, 8] [0, 1, 2, 7, 8, 3, 4, 5, 6] rfl rfl (by decide) (by decide) (by decide) rfl (by decide) (qX5_told l D dA ht_ring ht_ring_cells ht_ring_places ht_ring_facts t_ring_lands t_ring_things t_ring_placeCount t_ring_apart t_ring_thereFirst t_ring_facts v1 (4 : Int32) _ ho6) wlX8_34 wmX5_told wvX5_told wnX5 wcX5_told rfl (by decide +kernel) ⟨Nat.le_trans (by decide) hR.1, Nat.le_trans (by decide) hR.2.1⟩ hR.2.2 rfl 0 rfl rfl hl.1 (Nat.le_of_ble_eq_true rfl) dX8_clear_33 rfl (fun H locs hw => ?_)
    obtain ⟨g7, hf⟩ := gdi_r hf
    obtain ⟨y8, ey8⟩ : ∃ z : Nat → Int32, z = upd t_loud v1.toNatClampNeg o6 := ⟨_, rfl⟩
    have hf := bnd_r ey8 hf
    refine k_iast C hw 5 rfl g7 dX8_clear_36 y8 ey8 (wX8_clear dA ht ht_ring ht_degree ht_voice ht_loud ht_sharp ht_hears ht_tooNear ht_ring_cells ht_ring_places ht_ring_facts y3 y5 t_ring_lands t_ring_things t_ring_placeCount t_ring_apart t_ring_thereFirst t_ring_facts y8 t_sharp t_hears t_tooNear) rfl (fun H locs hw => ?_)
    refine lv_aload_n hx hb dX8_clear_37 rfl (lv_at hl 0 rfl) ?_
    refine k_get C hw 0 rfl rfl wiX8 4 (by decide) wfX8_21 rfl dX8_clear_38 ?_
    refine lv_iload_n hx hb dX8_clear_41 rfl (lv_at hl 1 rfl) ?_
    refine lv_aload_n hx hb dX8_clear_42 rfl (lv_at hl 0 rfl) ?_
    refine k_get C hw 0 rfl rfl wiX8 0 (by decide) wfX8_30 rfl dX8_clear_43 ?_
    refine lv_iload_n hx hb dX8_clear_46 rfl (lv_at hl 1 rfl) ?_
    refine lv_iconst (v := (5 : Int32)) hx hb dX8_clear_47 (by decide) ?_
    obtain ⟨o9, ho9, hf⟩ := bind_r hf
    refine k_callVi C hw (n := 2) (As := [.int v1, .int (5 : Int32)]) (w1 := (wX8_clear dA ht ht_ring ht_degree ht_voice ht_loud ht_sharp ht_hears ht_tooNear ht_ring_cells ht_ring_places ht_ring_facts y3 y5 t_ring_lands t_ring_things t_ring_placeCount t_ring_apart t_ring_thereFirst t_ring_facts y8 t_sharp t_hears t_tooNear)) (wr := [(ht, .inr (8, [.ref ht_ring, .ref ht_degree, .ref ht_voice, .ref ht_loud, .ref ht_sharp, .ref ht_hears, .ref ht_tooNear])), (ht_degree, .inl (dA 0, 16, .inl y3)), (ht_voice, .inl (dA 0, 16, .inl y5)), (ht_loud, .inl (dA 0, 16, .inl y8)), (ht_sharp, .inl (dA 0, 16, .inl t_sharp)), (ht_hears, .inl (dA 0, 16, .inl t_hears)), (ht_tooNear, .inl (dA 0, 16, .inl t_tooNear))]) [3, 4] [0, 1, 2, 5, 6, 7, 8] [0, 1, 2, 7, 8, 3, 4, 5, 6] rfl rfl (by decide) (by decide) (by decide) rfl (by decide) (qX5_told l D dA ht_ring ht_ring_cells ht_ring_places ht_ring_facts t_ring_lands t_ring_things t_ring_placeCount t_ring_apart t_ring_thereFirst t_ring_facts v1 (5 : Int32) _ ho9) wlX8_34 wmX5_told wvX5_told wnX5 wcX5_told rfl (by decide +kernel) ⟨Nat.le_trans (by decide) hR.1, Nat.le_trans (by decide) hR.2.1⟩ hR.2.2 rfl 0 rfl rfl hl.1 (Nat.le_of_ble_eq_true rfl) dX8_clear_48 rfl (fun H locs hw => ?_)
    obtain ⟨g10, hf⟩ := gdi_r hf
    obtain ⟨y11, ey11⟩ : ∃ z : Nat → Int32, z = upd t_sharp v1.toNatClampNeg o9 := ⟨_, rfl⟩
    have hf := bnd_r ey11 hf
    refine k_iast C hw 6 rfl g10 dX8_clear_51 y11 ey11 (wX8_clear dA ht ht_ring ht_degree ht_voice ht_loud ht_sharp ht_hears ht_tooNear ht_ring_cells ht_ring_places ht_ring_facts y3 y5 t_ring_lands t_ring_things t_ring_placeCount t_ring_apart t_ring_thereFirst t_ring_facts y8 y11 t_hears t_tooNear) rfl (fun H locs hw => ?_)
    refine lv_aload_n hx hb dX8_clear_52 rfl (lv_at hl 0 rfl) ?_
    refine k_get C hw 0 rfl rfl wiX8 5 (by decide) wfX8_24 rfl dX8_clear_53 ?_
    refine lv_iload_n hx hb dX8_clear_56 rfl (lv_at hl 1 rfl) ?_
    refine lv_iconst (v := (0 : Int32)) hx hb dX8_clear_57 (by decide) ?_
    obtain ⟨g12, hf⟩ := gdi_r hf
    obtain ⟨y13, ey13⟩ : ∃ z : Nat → Int32, z = upd t_hears v1.toNatClampNeg (0 : Int32) := ⟨_, rfl⟩
    have hf := bnd_r ey13 hf
    refine k_iast C hw 7 rfl g12 dX8_clear_58 y13 ey13 (wX8_clear dA ht ht_ring ht_degree ht_voice ht_loud ht_sharp ht_hears ht_tooNear ht_ring_cells ht_ring_places ht_ring_facts y3 y5 t_ring_lands t_ring_things t_ring_placeCount t_ring_apart t_ring_thereFirst t_ring_facts y8 y11 y13 t_tooNear) rfl (fun H locs hw => ?_)
    refine lv_aload_n hx hb dX8_clear_59 rfl (lv_at hl 0 rfl) ?_
    refine k_get C hw 0 rfl rfl wiX8 6 (by decide) wfX8_27 rfl dX8_clear_60 ?_
    refine lv_iload_n hx hb dX8_clear_63 rfl (lv_at hl 1 rfl) ?_
    refine lv_iconst (v := (0 : Int32)) hx hb dX8_clear_64 (by decide) ?_
    obtain ⟨g14, hf⟩ := gdi_r hf
    obtain ⟨y15, ey15⟩ : ∃ z : Nat → Int32, z = upd t_tooNear v1.toNatClampNeg (0 : Int32) := ⟨_, rfl⟩
    have hf := bnd_r ey15 hf
    refine k_iast C hw 8 rfl g14 dX8_clear_65 y15 ey15 (wX8_clear dA ht ht_ring ht_degree ht_voice ht_loud ht_sharp ht_hears ht_tooNear ht_ring_cells ht_ring_places ht_ring_facts y3 y5 t_ring_lands t_ring_things t_ring_placeCount t_ring_apart t_ring_thereFirst t_ring_facts y8 y11 y13 y15) rfl (fun H locs hw => ?_)
    obtain ⟨x16, ex16⟩ : ∃ y : Int32, y = v1 + (1 : Int32) := ⟨_, rfl⟩
    have hf := bnd_r ex16 hf
    refine lv_iinc (v := x16) (lv' := [(1, .int x16), (0, .ref ht)]) hx hb dX8_clear_66 hl (k := 1) rfl (by rw [ex16]; rfl) (by decide) rfl (fun ls hl => ?_)
    refine lv_goto (tgt := 2) hx hb dX8_clear_69 (by decide) ?_
    obtain rfl := some_r hf
    exact hK _ _ _ (lv_sub hl [1, 0] rfl) hw
set_option maxHeartbeats 4000000 in
theorem tX8_clear_l2 {p : Program} {l : Launch} {e : Env} {R : Room} {s : State} {m : MethodId} {args : Array Value} {below : List Frame} {meth : Method} {c : Code} {D : va_G} {dA : Nat → ClassId} {w0 : va_W} {Q : State → Prop} {H : Heap} {locs : List Loc} {ls : Array Slot} {cells slots : Nat} (C : CX p s m args meth c cX8_clear 2 none RX8 D dA) (ht ht_ring ht_degree ht_voice ht_loud ht_sharp ht_hears ht_tooNear ht_ring_cells ht_ring_places ht_ring_facts : Nat) (hR : 1 ≤ R.frames ∧ 23 ≤ R.locals ∧ cells ≤ R.cells ∧ slots ≤ R.slots)  (t_degree : (Nat → Int32)) (t_voice : (Nat → Int32)) (t_ring_lands : Int32) (t_ring_things : Int32) (t_ring_placeCount : Int32) (t_ring_apart : Int32) (t_ring_thereFirst : Int32) (t_ring_facts : (Nat → Int32)) (t_loud : (Nat → Int32)) (t_sharp : (Nat → Int32)) (t_hears : (Nat → Int32)) (t_tooNear : (Nat → Int32)) (v1 : Int32) (N n : Nat) (res : ((Nat → Int32) × (Nat → Int32) × (Nat → Int32) × (Nat → Int32) × (Nat → Int32) × (Nat → Int32))) (hf : itr (fun z => fX8_clear_l2b N t_ring_facts z.1 z.2.1 z.2.2.1 z.2.2.2.1 z.2.2.2.2.1 z.2.2.2.2.2.1 z.2.2.2.2.2.2) n (t_degree, t_voice, t_loud, t_sharp, t_hears, t_tooNear, v1) = some res) (hK : (∀ (H : Heap) (locs : List Loc) (ls : Array Slot), lv_has ls 2 [] → St D w0 s (wX8_clear dA ht ht_ring ht_degree ht_voice ht_loud ht_sharp ht_hears ht_tooNear ht_ring_cells ht_ring_places ht_ring_facts res.1 res.2.1 t_ring_lands t_ring_things t_ring_placeCount t_ring_apart t_ring_thereFirst t_ring_facts res.2.2.1 res.2.2.2.1 res.2.2.2.2.1 res.2.2.2.2.2) H locs → W p l e R s m args below meth c H locs cells slots Q (F0 m 72 ls []))) (hl : lv_has ls 2 [(0, .ref ht), (1, .int v1)]) (hw : St D w0 s (wX8_clear dA ht ht_ring ht_degree ht_voice ht_loud ht_sharp ht_hears ht_tooNear ht_ring_cells ht_ring_places ht_ring_facts t_degree t_voice t_ring_lands t_ring_things t_ring_placeCount t_ring_apart t_ring_thereFirst t_ring_facts t_loud t_sharp t_hears t_tooNear) H locs) : W p l e R s m args below meth c H locs cells slots Q (F0 m 2 ls []) :=
  itr_W (P := fun (z : ((Nat → Int32) × (Nat → Int32) × (Nat → Int32) × (Nat → Int32) × (Nat → Int32) × (Nat → Int32) × Int32)) => (∀ (H : Heap) (locs : List Loc) (ls : Array Slot), lv_has ls 2 [(0, .ref ht), (1, .int z.2.2.2.2.2.2)] → St D w0 s (wX8_clear dA ht ht_ring ht_degree ht_voice ht_loud ht_sharp ht_hears ht_tooNear ht_ring_cells ht_ring_places ht_ring_facts z.1 z.2.1 t_ring_lands t_ring_things t_ring_placeCount t_ring_apart t_ring_thereFirst t_ring_facts z.2.2.1 z.2.2.2.1 z.2.2.2.2.1 z.2.2.2.2.2.1) H locs → W p l e R s m args below meth c H locs cells slots Q (F0 m 2 ls []))) (K := fun res => (∀ (H : Heap) (locs : List Loc) (ls : Array Slot), lv_has ls 2 [] → St D w0 s (wX8_clear dA ht ht_ring ht_degree ht_voice ht_loud ht_sharp ht_hears ht_tooNear ht_ring_cells ht_ring_places ht_ring_facts res.1 res.2.1 t_ring_lands t_ring_things t_ring_placeCount t_ring_apart t_ring_thereFirst t_ring_facts res.2.2.1 res.2.2.2.1 res.2.2.2.2.1 res.2.2.2.2.2) H locs → W p l e R s m args below meth c H locs cells slots Q (F0 m 72 ls []))) (fun z r hf hK H locs ls hl hw => tX8_clear_l2b C ht ht_ring ht_degree ht_voice ht_loud ht_sharp ht_hears ht_tooNear ht_ring_cells ht_ring_places ht_ring_facts hR z.1 z.2.1 t_ring_lands t_ring_things t_ring_placeCount t_ring_apart t_ring_thereFirst t_ring_facts z.2.2.1 z.2.2.2.1 z.2.2.2.2.1 z.2.2.2.2.2.1 z.2.2.2.2.2.2 N r hf (by cases r with
    | inl r => exact hK
    | inr r => exact hK) hl hw) n _ res hf hK H locs ls hl hw
set_option maxHeartbeats 4000000 in
set_option maxRecDepth 100000 in
theorem qX8_clear (l : Launch) (D : va_G) (dA : Nat → ClassId) (ht ht_ring ht_degree ht_voice ht_loud ht_sharp ht_hears ht_tooNear ht_ring_cells ht_ring_places ht_ring_facts : Nat) (t_degree : (Nat → Int32)) (t_voice : (Nat → Int32)) (t_ring_lands : Int32) (t_ring_things : Int32) (t_ring_placeCount : Int32) (t_ring_apart : Int32) (t_ring_thereFirst : Int32) (t_ring_facts : (Nat → Int32)) (t_loud : (Nat → Int32)) (t_sharp : (Nat → Int32)) (t_hears : (Nat → Int32)) (t_tooNear : (Nat → Int32))  (N : Nat) (o : (Nat → Int32) × (Nat → Int32) × (Nat → Int32) × (Nat → Int32) × (Nat → Int32) × (Nat → Int32)) (hf : fX8_clear N t_degree t_voice t_ring_facts t_loud t_sharp t_hears t_tooNear = some o) : Mv l D dA yX8_clear (Cond.code yX8_clear cX8_clear 2 none :: wA) 1 23 [.ref ht] (wX8_clear dA ht ht_ring ht_degree ht_voice ht_loud ht_sharp ht_hears ht_tooNear ht_ring_cells ht_ring_places ht_ring_facts t_degree t_voice t_ring_lands t_ring_things t_ring_placeCount t_ring_apart t_ring_thereFirst t_ring_facts t_loud t_sharp t_hears t_tooNear) (wX8_clear dA ht ht_ring ht_degree ht_voice ht_loud ht_sharp ht_hears ht_tooNear ht_ring_cells ht_ring_places ht_ring_facts o.1 o.2.1 t_ring_lands t_ring_things t_ring_placeCount t_ring_apart t_ring_thereFirst t_ring_facts o.2.2.1 o.2.2.2.1 o.2.2.2.2.1 o.2.2.2.2.2) := by
  intro sz
  refine M_of (cc := cX8_clear) (nL := 2) (ret := none) (own := RX8) (by decide +kernel) rfl (Nat.le_of_ble_eq_true rfl) ?_
  intro p e s m below meth c ls hsz C hw hl
  subst hsz
  have hR : 1 ≤ (rmm 1 23).frames ∧ 23 ≤ (rmm 1 23).locals ∧ 0 ≤ (rmm 1 23).cells ∧ 0 ≤ (rmm 1 23).slots := ⟨Nat.le_refl _, Nat.le_refl _, Nat.le_refl _, Nat.le_refl _⟩
  have hl : lv_has ls 2 [(0, .ref ht)] := hl
  have hx := C.1
  have hb := C.2.1
  have hml := C.2.2.1
  have hown := C.2.2.2.1
  have hts := C.2.2.2.2.1
  have hK : ∀ (H : Heap) (locs : List Loc) (pc : Nat) (ls : Array Slot), decode cX8_clear pc = .ok (.return_, 1) → St D (wX8_clear dA ht ht_ring ht_degree ht_voice ht_loud ht_sharp ht_hears ht_tooNear ht_ring_cells ht_ring_places ht_ring_facts t_degree t_voice t_ring_lands t_ring_things t_ring_placeCount t_ring_apart t_ring_thereFirst t_ring_facts t_loud t_sharp t_hears t_tooNear) s (wX8_clear dA ht ht_ring ht_degree ht_voice ht_loud ht_sharp ht_hears ht_tooNear ht_ring_cells ht_ring_places ht_ring_facts o.1 o.2.1 t_ring_lands t_ring_things t_ring_placeCount t_ring_apart t_ring_thereFirst t_ring_facts o.2.2.1 o.2.2.2.1 o.2.2.2.2.1 o.2.2.2.2.2) H locs → W p l e (rmm 1 23) s m [.ref ht].toArray below meth c H locs 0 0 (MQ below (Qv D (wX8_clear dA ht ht_ring ht_degree ht_voice ht_loud ht_sharp ht_hears ht_tooNear ht_ring_cells ht_ring_places ht_ring_facts t_degree t_voice t_ring_lands t_ring_things t_ring_placeCount t_ring_apart t_ring_thereFirst t_ring_facts t_loud t_sharp t_hears t_tooNear) (wX8_clear dA ht ht_ring ht_degree ht_voice ht_loud ht_sharp ht_hears ht_tooNear ht_ring_cells ht_ring_places ht_ring_facts o.1 o.2.1 t_ring_lands t_ring_things t_ring_placeCount t_ring_apart t_ring_thereFirst t_ring_facts o.2.2.1 o.2.2.2.1 o.2.2.2.2.1 o.2.2.2.2.2) s.heap.size) [.ref ht].toArray s 0 0 (va_A (wX8_clear dA ht ht_ring ht_degree ht_voice ht_loud ht_sharp ht_hears ht_tooNear ht_ring_cells ht_ring_places ht_ring_facts t_degree t_voice t_ring_lands t_ring_things t_ring_placeCount t_ring_apart t_ring_thereFirst t_ring_facts t_loud t_sharp t_hears t_tooNear) s.heap.size)) (F0 m pc ls []) := fun H locs pc ls hd hw => k_vret C hw hd
  unfold fX8_clear at hf
  refine lv_iconst (v := (0 : Int32)) hx hb dX8_clear_0 (by decide) ?_
  refine lv_istore_n (lv' := [(1, .int (0 : Int32)), (0, .ref ht)]) hx hb dX8_clear_1 rfl hl (by decide) rfl (fun ls hl => ?_)
  obtain ⟨q17, hq17, hf⟩ := bind_r hf
  refine tX8_clear_l2 C ht ht_ring ht_degree ht_voice ht_loud ht_sharp ht_hears ht_tooNear ht_ring_cells ht_ring_places ht_ring_facts hR t_degree t_voice t_ring_lands t_ring_things t_ring_placeCount t_ring_apart t_ring_thereFirst t_ring_facts t_loud t_sharp t_hears t_tooNear (0 : Int32) N _ _ hq17 ?_ (lv_sub hl [1, 0] rfl) hw
  intro H locs ls hl hw
  obtain rfl := some_r hf
  exact hK _ _ _ _ dX8_clear_72 hw

/-! RingPlaces$Standing.copyFrom(LRingPlaces$Standing;)V -/
abbrev wX8_copyFrom (dA : Nat → ClassId) (ht ht_ring ht_degree ht_voice ht_loud ht_sharp ht_hears ht_tooNear hq1 hq1_ring hq1_degree hq1_voice hq1_loud hq1_sharp hq1_hears hq1_tooNear : Nat) (q1_degree : (Nat → Int32)) (t_degree : (Nat → Int32)) (q1_voice : (Nat → Int32)) (t_voice : (Nat → Int32)) (q1_loud : (Nat → Int32)) (t_loud : (Nat → Int32)) (q1_sharp : (Nat → Int32)) (t_sharp : (Nat → Int32)) (q1_hears : (Nat → Int32)) (t_hears : (Nat → Int32)) (q1_tooNear : (Nat → Int32)) (t_tooNear : (Nat → Int32)) : va_W := [(ht, .inr (8, [.ref ht_ring, .ref ht_degree, .ref ht_voice, .ref ht_loud, .ref ht_sharp, .ref ht_hears, .ref ht_tooNear])), (hq1, .inr (8, [.ref hq1_ring, .ref hq1_degree, .ref hq1_voice, .ref hq1_loud, .ref hq1_sharp, .ref hq1_hears, .ref hq1_tooNear])), (hq1_degree, .inl (dA 0, 16, .inl q1_degree)), (ht_degree, .inl (dA 0, 16, .inl t_degree)), (hq1_voice, .inl (dA 0, 16, .inl q1_voice)), (ht_voice, .inl (dA 0, 16, .inl t_voice)), (hq1_loud, .inl (dA 0, 16, .inl q1_loud)), (ht_loud, .inl (dA 0, 16, .inl t_loud)), (hq1_sharp, .inl (dA 0, 16, .inl q1_sharp)), (ht_sharp, .inl (dA 0, 16, .inl t_sharp)), (hq1_hears, .inl (dA 0, 16, .inl q1_hears)), (ht_hears, .inl (dA 0, 16, .inl t_hears)), (hq1_tooNear, .inl (dA 0, 16, .inl q1_tooNear)), (ht_tooNear, .inl (dA 0, 16, .inl t_tooNear))]
def fX8_copyFrom (q1_degree : (Nat → Int32)) (t_degree : (Nat → Int32)) (q1_voice : (Nat → Int32)) (t_voice : (Nat → Int32)) (q1_loud : (Nat → Int32)) (t_loud : (Nat → Int32)) (q1_sharp : (Nat → Int32)) (t_sharp : (Nat → Int32)) (q1_hears : (Nat → Int32)) (t_hears : (Nat → Int32)) (q1_tooNear : (Nat → Int32)) (t_tooNear : (Nat → Int32))  : Option ((Nat → Int32) × (Nat → Int32) × (Nat → Int32) × (Nat → Int32) × (Nat → Int32) × (Nat → Int32)) := gdc (0 : Int32) (0 : Int32) (16 : Int32) 16 16 (bnd (va_cpy q1_degree t_degree (0 : Int32).toNatClampNeg (0 : Int32).toNatClampNeg (16 : Int32).toNatClampNeg) fun y2 => gdc (0 : Int32) (0 : Int32) (16 : Int32) 16 16 (bnd (va_cpy q1_voice t_voice (0 : Int32).toNatClampNeg (0 : Int32).toNatClampNeg (16 : Int32).toNatClampNeg) fun y4 => gdc (0 : Int32) (0 : Int32) (16 : Int32) 16 16 (bnd (va_cpy q1_loud t_loud (0 : Int32).toNatClampNeg (0 : Int32).toNatClampNeg (16 : Int32).toNatClampNeg) fun y6 => gdc (0 : Int32) (0 : Int32) (16 : Int32) 16 16 (bnd (va_cpy q1_sharp t_sharp (0 : Int32).toNatClampNeg (0 : Int32).toNatClampNeg (16 : Int32).toNatClampNeg) fun y8 => gdc (0 : Int32) (0 : Int32) (16 : Int32) 16 16 (bnd (va_cpy q1_hears t_hears (0 : Int32).toNatClampNeg (0 : Int32).toNatClampNeg (16 : Int32).toNatClampNeg) fun y10 => gdc (0 : Int32) (0 : Int32) (16 : Int32) 16 16 (bnd (va_cpy q1_tooNear t_tooNear (0 : Int32).toNatClampNeg (0 : Int32).toNatClampNeg (16 : Int32).toNatClampNeg) fun y12 => some (y2, y4, y6, y8, y10, y12)))))))
set_option maxHeartbeats 4000000 in
set_option maxRecDepth 100000 in
theorem qX8_copyFrom (l : Launch) (D : va_G) (dA : Nat → ClassId) (ht ht_ring ht_degree ht_voice ht_loud ht_sharp ht_hears ht_tooNear hq1 hq1_ring hq1_degree hq1_voice hq1_loud hq1_sharp hq1_hears hq1_tooNear : Nat) (q1_degree : (Nat → Int32)) (t_degree : (Nat → Int32)) (q1_voice : (Nat → Int32)) (t_voice : (Nat → Int32)) (q1_loud : (Nat → Int32)) (t_loud : (Nat → Int32)) (q1_sharp : (Nat → Int32)) (t_sharp : (Nat → Int32)) (q1_hears : (Nat → Int32)) (t_hears : (Nat → Int32)) (q1_tooNear : (Nat → Int32)) (t_tooNear : (Nat → Int32))  (o : (Nat → Int32) × (Nat → Int32) × (Nat → Int32) × (Nat → Int32) × (Nat → Int32) × (Nat → Int32)) (hf : fX8_copyFrom q1_degree t_degree q1_voice t_voice q1_loud t_loud q1_sharp t_sharp q1_hears t_hears q1_tooNear t_tooNear = some o) : Mv l D dA yX8_copyFrom (Cond.code yX8_copyFrom cX8_copyFrom 2 none :: wA) 1 60 [.ref ht, .ref hq1] (wX8_copyFrom dA ht ht_ring ht_degree ht_voice ht_loud ht_sharp ht_hears ht_tooNear hq1 hq1_ring hq1_degree hq1_voice hq1_loud hq1_sharp hq1_hears hq1_tooNear q1_degree t_degree q1_voice t_voice q1_loud t_loud q1_sharp t_sharp q1_hears t_hears q1_tooNear t_tooNear) (wX8_copyFrom dA ht ht_ring ht_degree ht_voice ht_loud ht_sharp ht_hears ht_tooNear hq1 hq1_ring hq1_degree hq1_voice hq1_loud hq1_sharp hq1_hears hq1_tooNear q1_degree o.1 q1_voice o.2.1 q1_loud o.2.2.1 q1_sharp o.2.2.2.1 q1_hears o.2.2.2.2.1 q1_tooNear o.2.2.2.2.2) := by
  intro sz
  refine M_of (cc := cX8_copyFrom) (nL := 2) (ret := none) (own := RX8) (by decide +kernel) rfl (Nat.le_of_ble_eq_true rfl) ?_
  intro p e s m below meth c ls hsz C hw hl
  subst hsz
  have hR : 1 ≤ (rmm 1 60).frames ∧ 60 ≤ (rmm 1 60).locals ∧ 0 ≤ (rmm 1 60).cells ∧ 0 ≤ (rmm 1 60).slots := ⟨Nat.le_refl _, Nat.le_refl _, Nat.le_refl _, Nat.le_refl _⟩
  have hl : lv_has ls 2 [(0, .ref ht), (1, .ref hq1)] := hl
  have hx := C.1
  have hb := C.2.1
  have hml := C.2.2.1
  have hown := C.2.2.2.1
  have hts := C.2.2.2.2.1
  have hK : ∀ (H : Heap) (locs : List Loc) (pc : Nat) (ls : Array Slot), decode cX8_copyFrom pc = .ok (.return_, 1) → St D (wX8_copyFrom dA ht ht_ring ht_degree ht_voice ht_loud ht_sharp ht_hears ht_tooNear hq1 hq1_ring hq1_degree hq1_voice hq1_loud hq1_sharp hq1_hears hq1_tooNear q1_degree t_degree q1_voice t_voice q1_loud t_loud q1_sharp t_sharp q1_hears t_hears q1_tooNear t_tooNear) s (wX8_copyFrom dA ht ht_ring ht_degree ht_voice ht_loud ht_sharp ht_hears ht_tooNear hq1 hq1_ring hq1_degree hq1_voice hq1_loud hq1_sharp hq1_hears hq1_tooNear q1_degree o.1 q1_voice o.2.1 q1_loud o.2.2.1 q1_sharp o.2.2.2.1 q1_hears o.2.2.2.2.1 q1_tooNear o.2.2.2.2.2) H locs → W p l e (rmm 1 60) s m [.ref ht, .ref hq1].toArray below meth c H locs 0 0 (MQ below (Qv D (wX8_copyFrom dA ht ht_ring ht_degree ht_voice ht_loud ht_sharp ht_hears ht_tooNear hq1 hq1_ring hq1_degree hq1_voice hq1_loud hq1_sharp hq1_hears hq1_tooNear q1_degree t_degree q1_voice t_voice q1_loud t_loud q1_sharp t_sharp q1_hears t_hears q1_tooNear t_tooNear) (wX8_copyFrom dA ht ht_ring ht_degree ht_voice ht_loud ht_sharp ht_hears ht_tooNear hq1 hq1_ring hq1_degree hq1_voice hq1_loud hq1_sharp hq1_hears hq1_tooNear q1_degree o.1 q1_voice o.2.1 q1_loud o.2.2.1 q1_sharp o.2.2.2.1 q1_hears o.2.2.2.2.1 q1_tooNear o.2.2.2.2.2) s.heap.size) [.ref ht, .ref hq1].toArray s 0 0 (va_A (wX8_copyFrom dA ht ht_ring ht_degree ht_voice ht_loud ht_sharp ht_hears ht_tooNear hq1 hq1_ring hq1_degree hq1_voice hq1_loud hq1_sharp hq1_hears hq1_tooNear q1_degree t_degree q1_voice t_voice q1_loud t_loud q1_sharp t_sharp q1_hears t_hears q1_tooNear t_tooNear) s.heap.size)) (F0 m pc ls []) := fun H locs pc ls hd hw => k_vret C hw hd
  unfold fX8_copyFrom at hf
  refine lv_aload_n hx hb dX8_copyFrom_0 rfl (lv_at hl 1 rfl) ?_
  refine k_get C hw 1 rfl rfl wiX8 1 (by decide) wfX8_9 rfl dX8_copyFrom_1 ?_
  refine lv_iconst (v := (0 : Int32)) hx hb dX8_copyFrom_4 (by decide) ?_
  refine lv_aload_n hx hb dX8_copyFrom_5 rfl (lv_at hl 0 rfl) ?_
  refine k_get C hw 0 rfl rfl wiX8 1 (by decide) wfX8_9 rfl dX8_copyFrom_6 ?_
  refine lv_iconst (v := (0 : Int32)) hx hb dX8_copyFrom_9 (by decide) ?_
  refine lv_bipush (v := (16 : Int32)) hx hb dX8_copyFrom_10 (by decide) ?_
  obtain ⟨g1, hf⟩ := gdc_r hf
  obtain ⟨y2, ey2⟩ : ∃ z : Nat → Int32, z = va_cpy q1_degree t_degree (0 : Int32).toNatClampNeg (0 : Int32).toNatClampNeg (16 : Int32).toNatClampNeg := ⟨_, rfl⟩
  have hf := bnd_r ey2 hf
  refine k_copyi C hw wlX8_40 wxnc wxsc wxsi hl.1 2 3 rfl rfl g1 (Nat.le_trans (by decide) hR.1) (Nat.le_trans (Nat.le_of_ble_eq_true rfl) hR.2.1) dX8_copyFrom_12 y2 ey2 (wX8_copyFrom dA ht ht_ring ht_degree ht_voice ht_loud ht_sharp ht_hears ht_tooNear hq1 hq1_ring hq1_degree hq1_voice hq1_loud hq1_sharp hq1_hears hq1_tooNear q1_degree y2 q1_voice t_voice q1_loud t_loud q1_sharp t_sharp q1_hears t_hears q1_tooNear t_tooNear) rfl (fun H locs hw => ?_)
  refine lv_aload_n hx hb dX8_copyFrom_15 rfl (lv_at hl 1 rfl) ?_
  refine k_get C hw 1 rfl rfl wiX8 2 (by decide) wfX8_15 rfl dX8_copyFrom_16 ?_
  refine lv_iconst (v := (0 : Int32)) hx hb dX8_copyFrom_19 (by decide) ?_
  refine lv_aload_n hx hb dX8_copyFrom_20 rfl (lv_at hl 0 rfl) ?_
  refine k_get C hw 0 rfl rfl wiX8 2 (by decide) wfX8_15 rfl dX8_copyFrom_21 ?_
  refine lv_iconst (v := (0 : Int32)) hx hb dX8_copyFrom_24 (by decide) ?_
  refine lv_bipush (v := (16 : Int32)) hx hb dX8_copyFrom_25 (by decide) ?_
  obtain ⟨g3, hf⟩ := gdc_r hf
  obtain ⟨y4, ey4⟩ : ∃ z : Nat → Int32, z = va_cpy q1_voice t_voice (0 : Int32).toNatClampNeg (0 : Int32).toNatClampNeg (16 : Int32).toNatClampNeg := ⟨_, rfl⟩
  have hf := bnd_r ey4 hf
  refine k_copyi C hw wlX8_40 wxnc wxsc wxsi hl.1 4 5 rfl rfl g3 (Nat.le_trans (by decide) hR.1) (Nat.le_trans (Nat.le_of_ble_eq_true rfl) hR.2.1) dX8_copyFrom_27 y4 ey4 (wX8_copyFrom dA ht ht_ring ht_degree ht_voice ht_loud ht_sharp ht_hears ht_tooNear hq1 hq1_ring hq1_degree hq1_voice hq1_loud hq1_sharp hq1_hears hq1_tooNear q1_degree y2 q1_voice y4 q1_loud t_loud q1_sharp t_sharp q1_hears t_hears q1_tooNear t_tooNear) rfl (fun H locs hw => ?_)
  refine lv_aload_n hx hb dX8_copyFrom_30 rfl (lv_at hl 1 rfl) ?_
  refine k_get C hw 1 rfl rfl wiX8 3 (by decide) wfX8_18 rfl dX8_copyFrom_31 ?_
  refine lv_iconst (v := (0 : Int32)) hx hb dX8_copyFrom_34 (by decide) ?_
  refine lv_aload_n hx hb dX8_copyFrom_35 rfl (lv_at hl 0 rfl) ?_
  refine k_get C hw 0 rfl rfl wiX8 3 (by decide) wfX8_18 rfl dX8_copyFrom_36 ?_
  refine lv_iconst (v := (0 : Int32)) hx hb dX8_copyFrom_39 (by decide) ?_
  refine lv_bipush (v := (16 : Int32)) hx hb dX8_copyFrom_40 (by decide) ?_
  obtain ⟨g5, hf⟩ := gdc_r hf
  obtain ⟨y6, ey6⟩ : ∃ z : Nat → Int32, z = va_cpy q1_loud t_loud (0 : Int32).toNatClampNeg (0 : Int32).toNatClampNeg (16 : Int32).toNatClampNeg := ⟨_, rfl⟩
  have hf := bnd_r ey6 hf
  refine k_copyi C hw wlX8_40 wxnc wxsc wxsi hl.1 6 7 rfl rfl g5 (Nat.le_trans (by decide) hR.1) (Nat.le_trans (Nat.le_of_ble_eq_true rfl) hR.2.1) dX8_copyFrom_42 y6 ey6 (wX8_copyFrom dA ht ht_ring ht_degree ht_voice ht_loud ht_sharp ht_hears ht_tooNear hq1 hq1_ring hq1_degree hq1_voice hq1_loud hq1_sharp hq1_hears hq1_tooNear q1_degree y2 q1_voice y4 q1_loud y6 q1_sharp t_sharp q1_hears t_hears q1_tooNear t_tooNear) rfl (fun H locs hw => ?_)
  refine lv_aload_n hx hb dX8_copyFrom_45 rfl (lv_at hl 1 rfl) ?_
  refine k_get C hw 1 rfl rfl wiX8 4 (by decide) wfX8_21 rfl dX8_copyFrom_46 ?_
  refine lv_iconst (v := (0 : Int32)) hx hb dX8_copyFrom_49 (by decide) ?_
  refine lv_aload_n hx hb dX8_copyFrom_50 rfl (lv_at hl 0 rfl) ?_
  refine k_get C hw 0 rfl rfl wiX8 4 (by decide) wfX8_21 rfl dX8_copyFrom_51 ?_
  refine lv_iconst (v := (0 : Int32)) hx hb dX8_copyFrom_54 (by decide) ?_
  refine lv_bipush (v := (16 : Int32)) hx hb dX8_copyFrom_55 (by decide) ?_
  obtain ⟨g7, hf⟩ := gdc_r hf
  obtain ⟨y8, ey8⟩ : ∃ z : Nat → Int32, z = va_cpy q1_sharp t_sharp (0 : Int32).toNatClampNeg (0 : Int32).toNatClampNeg (16 : Int32).toNatClampNeg := ⟨_, rfl⟩
  have hf := bnd_r ey8 hf
  refine k_copyi C hw wlX8_40 wxnc wxsc wxsi hl.1 8 9 rfl rfl g7 (Nat.le_trans (by decide) hR.1) (Nat.le_trans (Nat.le_of_ble_eq_true rfl) hR.2.1) dX8_copyFrom_57 y8 ey8 (wX8_copyFrom dA ht ht_ring ht_degree ht_voice ht_loud ht_sharp ht_hears ht_tooNear hq1 hq1_ring hq1_degree hq1_voice hq1_loud hq1_sharp hq1_hears hq1_tooNear q1_degree y2 q1_voice y4 q1_loud y6 q1_sharp y8 q1_hears t_hears q1_tooNear t_tooNear) rfl (fun H locs hw => ?_)
  refine lv_aload_n hx hb dX8_copyFrom_60 rfl (lv_at hl 1 rfl) ?_
  refine k_get C hw 1 rfl rfl wiX8 5 (by decide) wfX8_24 rfl dX8_copyFrom_61 ?_
  refine lv_iconst (v := (0 : Int32)) hx hb dX8_copyFrom_64 (by decide) ?_
  refine lv_aload_n hx hb dX8_copyFrom_65 rfl (lv_at hl 0 rfl) ?_
  refine k_get C hw 0 rfl rfl wiX8 5 (by decide) wfX8_24 rfl dX8_copyFrom_66 ?_
  refine lv_iconst (v := (0 : Int32)) hx hb dX8_copyFrom_69 (by decide) ?_
  refine lv_bipush (v := (16 : Int32)) hx hb dX8_copyFrom_70 (by decide) ?_
  obtain ⟨g9, hf⟩ := gdc_r hf
  obtain ⟨y10, ey10⟩ : ∃ z : Nat → Int32, z = va_cpy q1_hears t_hears (0 : Int32).toNatClampNeg (0 : Int32).toNatClampNeg (16 : Int32).toNatClampNeg := ⟨_, rfl⟩
  have hf := bnd_r ey10 hf
  refine k_copyi C hw wlX8_40 wxnc wxsc wxsi hl.1 10 11 rfl rfl g9 (Nat.le_trans (by decide) hR.1) (Nat.le_trans (Nat.le_of_ble_eq_true rfl) hR.2.1) dX8_copyFrom_72 y10 ey10 (wX8_copyFrom dA ht ht_ring ht_degree ht_voice ht_loud ht_sharp ht_hears ht_tooNear hq1 hq1_ring hq1_degree hq1_voice hq1_loud hq1_sharp hq1_hears hq1_tooNear q1_degree y2 q1_voice y4 q1_loud y6 q1_sharp y8 q1_hears y10 q1_tooNear t_tooNear) rfl (fun H locs hw => ?_)
  refine lv_aload_n hx hb dX8_copyFrom_75 rfl (lv_at hl 1 rfl) ?_
  refine k_get C hw 1 rfl rfl wiX8 6 (by decide) wfX8_27 rfl dX8_copyFrom_76 ?_
  refine lv_iconst (v := (0 : Int32)) hx hb dX8_copyFrom_79 (by decide) ?_
  refine lv_aload_n hx hb dX8_copyFrom_80 rfl (lv_at hl 0 rfl) ?_
  refine k_get C hw 0 rfl rfl wiX8 6 (by decide) wfX8_27 rfl dX8_copyFrom_81 ?_
  refine lv_iconst (v := (0 : Int32)) hx hb dX8_copyFrom_84 (by decide) ?_
  refine lv_bipush (v := (16 : Int32)) hx hb dX8_copyFrom_85 (by decide) ?_
  obtain ⟨g11, hf⟩ := gdc_r hf
  obtain ⟨y12, ey12⟩ : ∃ z : Nat → Int32, z = va_cpy q1_tooNear t_tooNear (0 : Int32).toNatClampNeg (0 : Int32).toNatClampNeg (16 : Int32).toNatClampNeg := ⟨_, rfl⟩
  have hf := bnd_r ey12 hf
  refine k_copyi C hw wlX8_40 wxnc wxsc wxsi hl.1 12 13 rfl rfl g11 (Nat.le_trans (by decide) hR.1) (Nat.le_trans (Nat.le_of_ble_eq_true rfl) hR.2.1) dX8_copyFrom_87 y12 ey12 (wX8_copyFrom dA ht ht_ring ht_degree ht_voice ht_loud ht_sharp ht_hears ht_tooNear hq1 hq1_ring hq1_degree hq1_voice hq1_loud hq1_sharp hq1_hears hq1_tooNear q1_degree y2 q1_voice y4 q1_loud y6 q1_sharp y8 q1_hears y10 q1_tooNear y12) rfl (fun H locs hw => ?_)
  obtain rfl := some_r hf
  exact hK _ _ _ _ dX8_copyFrom_90 hw

/-! RingPlaces$Standing.isUp(I)Z -/
abbrev wX8_isUp (dA : Nat → ClassId) (ht ht_ring ht_degree ht_voice ht_loud ht_sharp ht_hears ht_tooNear : Nat) (t_degree : (Nat → Int32)) : va_W := [(ht, .inr (8, [.ref ht_ring, .ref ht_degree, .ref ht_voice, .ref ht_loud, .ref ht_sharp, .ref ht_hears, .ref ht_tooNear])), (ht_degree, .inl (dA 0, 16, .inl t_degree))]
def fX8_isUp (t_degree : (Nat → Int32)) (x1_ : Int32) : Option (Int32) := gdi x1_ 16 ((if (t_degree x1_.toNatClampNeg) = (-1 : Int32) then some (0 : Int32) else some (1 : Int32)))
set_option maxHeartbeats 4000000 in
set_option maxRecDepth 100000 in
theorem qX8_isUp (l : Launch) (D : va_G) (dA : Nat → ClassId) (ht ht_ring ht_degree ht_voice ht_loud ht_sharp ht_hears ht_tooNear : Nat) (t_degree : (Nat → Int32)) (x1_ : Int32) (o : Int32) (hf : fX8_isUp t_degree x1_ = some o) : Mi l D dA yX8_isUp (Cond.code yX8_isUp cX8_isUp 2 (some .boolean) :: wA) 0 0 [.ref ht, .int x1_] (wX8_isUp dA ht ht_ring ht_degree ht_voice ht_loud ht_sharp ht_hears ht_tooNear t_degree) (wX8_isUp dA ht ht_ring ht_degree ht_voice ht_loud ht_sharp ht_hears ht_tooNear t_degree) o := by
  intro sz
  refine M_of (cc := cX8_isUp) (nL := 2) (ret := (some .boolean)) (own := RX8) (by decide +kernel) rfl (Nat.le_of_ble_eq_true rfl) ?_
  intro p e s m below meth c ls hsz C hw hl
  subst hsz
  have hR : 0 ≤ (rmm 0 0).frames ∧ 0 ≤ (rmm 0 0).locals ∧ 0 ≤ (rmm 0 0).cells ∧ 0 ≤ (rmm 0 0).slots := ⟨Nat.le_refl _, Nat.le_refl _, Nat.le_refl _, Nat.le_refl _⟩
  have hl : lv_has ls 2 [(0, .ref ht), (1, .int x1_)] := hl
  have hx := C.1
  have hb := C.2.1
  have hml := C.2.2.1
  have hown := C.2.2.2.1
  have hts := C.2.2.2.2.1
  have hK : ∀ (H : Heap) (locs : List Loc) (pc : Nat) (ls : Array Slot), (o = 0 ∨ o = 1) → decode cX8_isUp pc = .ok (.ireturn, 1) → St D (wX8_isUp dA ht ht_ring ht_degree ht_voice ht_loud ht_sharp ht_hears ht_tooNear t_degree) s (wX8_isUp dA ht ht_ring ht_degree ht_voice ht_loud ht_sharp ht_hears ht_tooNear t_degree) H locs → W p l e (rmm 0 0) s m [.ref ht, .int x1_].toArray below meth c H locs 0 0 (MQ below (Qi D (wX8_isUp dA ht ht_ring ht_degree ht_voice ht_loud ht_sharp ht_hears ht_tooNear t_degree) (wX8_isUp dA ht ht_ring ht_degree ht_voice ht_loud ht_sharp ht_hears ht_tooNear t_degree) o s.heap.size) [.ref ht, .int x1_].toArray s 0 0 (va_A (wX8_isUp dA ht ht_ring ht_degree ht_voice ht_loud ht_sharp ht_hears ht_tooNear t_degree) s.heap.size)) (F0 m pc ls [.int o]) := fun H locs pc ls hz hd hw => k_zret C hw hz hd
  unfold fX8_isUp at hf
  refine lv_aload_n hx hb dX8_isUp_0 rfl (lv_at hl 0 rfl) ?_
  refine k_get C hw 0 rfl rfl wiX8 1 (by decide) wfX8_9 rfl dX8_isUp_1 ?_
  refine lv_iload_n hx hb dX8_isUp_4 rfl (lv_at hl 1 rfl) ?_
  obtain ⟨g1, hf⟩ := gdi_r hf
  refine k_iald C hw 1 rfl g1 dX8_isUp_5 ?_
  refine lv_iconst (v := (-1 : Int32)) hx hb dX8_isUp_6 (by decide) ?_
  refine lv_icmp_eq (tgt := 14) hx hb dX8_isUp_7 (by decide) (fun c2 => ?_) (fun c2 => ?_)
  · have hf := ite_t c2 hf
    refine lv_iconst (v := (0 : Int32)) hx hb dX8_isUp_14 (by decide) ?_
    obtain rfl := some_r hf
    exact hK _ _ _ _ (Or.inl rfl) dX8_isUp_15 hw
  · have hf := ite_f c2 hf
    refine lv_iconst (v := (1 : Int32)) hx hb dX8_isUp_10 (by decide) ?_
    refine lv_goto (tgt := 15) hx hb dX8_isUp_11 (by decide) ?_
    obtain rfl := some_r hf
    exact hK _ _ _ _ (Or.inr rfl) dX8_isUp_15 hw

/-! RingPlaces$Standing.isLiving(I)Z -/
abbrev wX8_isLiving (dA : Nat → ClassId) (ht ht_ring ht_degree ht_voice ht_loud ht_sharp ht_hears ht_tooNear ht_ring_cells ht_ring_places ht_ring_facts : Nat) (t_degree : (Nat → Int32)) (t_ring_lands : Int32) (t_ring_things : Int32) (t_ring_placeCount : Int32) (t_ring_apart : Int32) (t_ring_thereFirst : Int32) (t_ring_facts : (Nat → Int32)) : va_W := [(ht, .inr (8, [.ref ht_ring, .ref ht_degree, .ref ht_voice, .ref ht_loud, .ref ht_sharp, .ref ht_hears, .ref ht_tooNear])), (ht_degree, .inl (dA 0, 16, .inl t_degree)), (ht_ring, .inr (5, [.ref ht_ring_cells, .ref ht_ring_places, .int t_ring_lands, .int t_ring_things, .int t_ring_placeCount, .int t_ring_apart, .int t_ring_thereFirst, .ref ht_ring_facts])), (ht_ring_facts, .inl (dA 0, 224, .inl t_ring_facts))]
def fX8_isLiving (t_degree : (Nat → Int32)) (t_ring_facts : (Nat → Int32)) (x1_ : Int32) : Option (Int32) := gdi x1_ 16 ((if (t_degree x1_.toNatClampNeg) = (-1 : Int32) then some (0 : Int32) else (fX5_isDead t_ring_facts x1_).bind fun o3 => (if o3 = 0 then some (1 : Int32) else some (0 : Int32))))
set_option maxHeartbeats 4000000 in
set_option maxRecDepth 100000 in
theorem qX8_isLiving (l : Launch) (D : va_G) (dA : Nat → ClassId) (ht ht_ring ht_degree ht_voice ht_loud ht_sharp ht_hears ht_tooNear ht_ring_cells ht_ring_places ht_ring_facts : Nat) (t_degree : (Nat → Int32)) (t_ring_lands : Int32) (t_ring_things : Int32) (t_ring_placeCount : Int32) (t_ring_apart : Int32) (t_ring_thereFirst : Int32) (t_ring_facts : (Nat → Int32)) (x1_ : Int32) (o : Int32) (hf : fX8_isLiving t_degree t_ring_facts x1_ = some o) : Mi l D dA yX8_isLiving (Cond.code yX8_isLiving cX8_isLiving 2 (some .boolean) :: wA) 1 21 [.ref ht, .int x1_] (wX8_isLiving dA ht ht_ring ht_degree ht_voice ht_loud ht_sharp ht_hears ht_tooNear ht_ring_cells ht_ring_places ht_ring_facts t_degree t_ring_lands t_ring_things t_ring_placeCount t_ring_apart t_ring_thereFirst t_ring_facts) (wX8_isLiving dA ht ht_ring ht_degree ht_voice ht_loud ht_sharp ht_hears ht_tooNear ht_ring_cells ht_ring_places ht_ring_facts t_degree t_ring_lands t_ring_things t_ring_placeCount t_ring_apart t_ring_thereFirst t_ring_facts) o := by
  intro sz
  refine M_of (cc := cX8_isLiving) (nL := 2) (ret := (some .boolean)) (own := RX8) (by decide +kernel) rfl (Nat.le_of_ble_eq_true rfl) ?_
  intro p e s m below meth c ls hsz C hw hl
  subst hsz
  have hR : 1 ≤ (rmm 1 21).frames ∧ 21 ≤ (rmm 1 21).locals ∧ 0 ≤ (rmm 1 21).cells ∧ 0 ≤ (rmm 1 21).slots := ⟨Nat.le_refl _, Nat.le_refl _, Nat.le_refl _, Nat.le_refl _⟩
  have hl : lv_has ls 2 [(0, .ref ht), (1, .int x1_)] := hl
  have hx := C.1
  have hb := C.2.1
  have hml := C.2.2.1
  have hown := C.2.2.2.1
  have hts := C.2.2.2.2.1
  have hK : ∀ (H : Heap) (locs : List Loc) (pc : Nat) (ls : Array Slot), (o = 0 ∨ o = 1) → decode cX8_isLiving pc = .ok (.ireturn, 1) → St D (wX8_isLiving dA ht ht_ring ht_degree ht_voice ht_loud ht_sharp ht_hears ht_tooNear ht_ring_cells ht_ring_places ht_ring_facts t_degree t_ring_lands t_ring_things t_ring_placeCount t_ring_apart t_ring_thereFirst t_ring_facts) s (wX8_isLiving dA ht ht_ring ht_degree ht_voice ht_loud ht_sharp ht_hears ht_tooNear ht_ring_cells ht_ring_places ht_ring_facts t_degree t_ring_lands t_ring_things t_ring_placeCount t_ring_apart t_ring_thereFirst t_ring_facts) H locs → W p l e (rmm 1 21) s m [.ref ht, .int x1_].toArray below meth c H locs 0 0 (MQ below (Qi D (wX8_isLiving dA ht ht_ring ht_degree ht_voice ht_loud ht_sharp ht_hears ht_tooNear ht_ring_cells ht_ring_places ht_ring_facts t_degree t_ring_lands t_ring_things t_ring_placeCount t_ring_apart t_ring_thereFirst t_ring_facts) (wX8_isLiving dA ht ht_ring ht_degree ht_voice ht_loud ht_sharp ht_hears ht_tooNear ht_ring_cells ht_ring_places ht_ring_facts t_degree t_ring_lands t_ring_things t_ring_placeCount t_ring_apart t_ring_thereFirst t_ring_facts) o s.heap.size) [.ref ht, .int x1_].toArray s 0 0 (va_A (wX8_isLiving dA ht ht_ring ht_degree ht_voice ht_loud ht_sharp ht_hears ht_tooNear ht_ring_cells ht_ring_places ht_ring_facts t_degree t_ring_lands t_ring_things t_ring_placeCount t_ring_apart t_ring_thereFirst t_ring_facts) s.heap.size)) (F0 m pc ls [.int o]) := fun H locs pc ls hz hd hw => k_zret C hw hz hd
  unfold fX8_isLiving at hf
  refine lv_aload_n hx hb dX8_isLiving_0 rfl (lv_at hl 0 rfl) ?_
  refine k_get C hw 0 rfl rfl wiX8 1 (by decide) wfX8_9 rfl dX8_isLiving_1 ?_
  refine lv_iload_n hx hb dX8_isLiving_4 rfl (lv_at hl 1 rfl) ?_
  obtain ⟨g1, hf⟩ := gdi_r hf
  refine k_iald C hw 1 rfl g1 dX8_isLiving_5 ?_
  refine lv_iconst (v := (-1 : Int32)) hx hb dX8_isLiving_6 (by decide) ?_
  refine lv_icmp_eq (tgt := 25) hx hb dX8_isLiving_7 (by decide) (fun c2 => ?_) (fun c2 => ?_)
  · have hf := ite_t c2 hf
    refine lv_iconst (v := (0 : Int32)) hx hb dX8_isLiving_25 (by decide) ?_
    obtain rfl := some_r hf
    exact hK _ _ _ _ (Or.inl rfl) dX8_isLiving_26 hw
  · have hf := ite_f c2 hf
    refine lv_aload_n hx hb dX8_isLiving_10 rfl (lv_at hl 0 rfl) ?_
    refine k_get C hw 0 rfl rfl wiX8 0 (by decide) wfX8_30 rfl dX8_isLiving_11 ?_
    refine lv_iload_n hx hb dX8_isLiving_14 rfl (lv_at hl 1 rfl) ?_
    obtain ⟨o3, ho3, hf⟩ := bind_r hf
    refine k_callVi C hw (n := 1) (As := [.int x1_]) (w1 := (wX8_isLiving dA ht ht_ring ht_degree ht_voice ht_loud ht_sharp ht_hears ht_tooNear ht_ring_cells ht_ring_places ht_ring_facts t_degree t_ring_lands t_ring_things t_ring_placeCount t_ring_apart t_ring_thereFirst t_ring_facts)) (wr := [(ht, .inr (8, [.ref ht_ring, .ref ht_degree, .ref ht_voice, .ref ht_loud, .ref ht_sharp, .ref ht_hears, .ref ht_tooNear])), (ht_degree, .inl (dA 0, 16, .inl t_degree))]) [2, 3] [0, 1] [0, 1, 2, 3] rfl rfl (by decide) (by decide) (by decide) rfl (by decide) (qX5_isDead l D dA ht_ring ht_ring_cells ht_ring_places ht_ring_facts t_ring_lands t_ring_things t_ring_placeCount t_ring_apart t_ring_thereFirst t_ring_facts x1_ _ ho3) wlX8_46 wmX5_isDead wvX5_isDead wnX5 wcX5_isDead rfl (by decide +kernel) ⟨Nat.le_trans (by decide) hR.1, Nat.le_trans (by decide) hR.2.1⟩ hR.2.2 rfl 0 rfl rfl hl.1 (Nat.le_of_ble_eq_true rfl) dX8_isLiving_15 rfl (fun H locs hw => ?_)
    refine lv_if_ne (tgt := 25) hx hb dX8_isLiving_18 (by decide) (fun c4 => ?_) (fun c4 => ?_)
    · have hf := ite_f c4 hf
      refine lv_iconst (v := (0 : Int32)) hx hb dX8_isLiving_25 (by decide) ?_
      obtain rfl := some_r hf
      exact hK _ _ _ _ (Or.inl rfl) dX8_isLiving_26 hw
    · have hf := ite_t c4 hf
      refine lv_iconst (v := (1 : Int32)) hx hb dX8_isLiving_21 (by decide) ?_
      refine lv_goto (tgt := 26) hx hb dX8_isLiving_22 (by decide) ?_
      obtain rfl := some_r hf
      exact hK _ _ _ _ (Or.inr rfl) dX8_isLiving_26 hw

/-! RingPlaces$Standing.howManyUp()I -/
abbrev wX8_howManyUp (dA : Nat → ClassId) (ht ht_ring ht_degree ht_voice ht_loud ht_sharp ht_hears ht_tooNear ht_ring_cells ht_ring_places ht_ring_facts : Nat) (t_ring_lands : Int32) (t_ring_things : Int32) (t_ring_placeCount : Int32) (t_ring_apart : Int32) (t_ring_thereFirst : Int32) (t_degree : (Nat → Int32)) : va_W := [(ht, .inr (8, [.ref ht_ring, .ref ht_degree, .ref ht_voice, .ref ht_loud, .ref ht_sharp, .ref ht_hears, .ref ht_tooNear])), (ht_ring, .inr (5, [.ref ht_ring_cells, .ref ht_ring_places, .int t_ring_lands, .int t_ring_things, .int t_ring_placeCount, .int t_ring_apart, .int t_ring_thereFirst, .ref ht_ring_facts])), (ht_degree, .inl (dA 0, 16, .inl t_degree))]
def fX8_howManyUp_l4b (N : Nat) (t_ring_things : Int32) (t_degree : (Nat → Int32)) (v1 : Int32) (v2 : Int32) : Option ((Int32 × Int32) ⊕ (Int32)) := (if t_ring_things ≤ v2 then some (.inr v1) else (fX8_isUp t_degree v2).bind fun o2 => (if o2 = 0 then bnd (v2 + (1 : Int32)) fun x4 => some (.inl (v1, x4)) else bnd (v1 + (1 : Int32)) fun x5 => bnd (v2 + (1 : Int32)) fun x6 => some (.inl (x5, x6))))
def fX8_howManyUp (N : Nat) (t_ring_things : Int32) (t_degree : (Nat → Int32))  : Option (Int32) := (itr (fun z => fX8_howManyUp_l4b N t_ring_things t_degree z.1 z.2) N ((0 : Int32), (0 : Int32))).bind fun q7 => some q7
set_option maxHeartbeats 4000000 in
set_option maxRecDepth 100000 in
theorem tX8_howManyUp_l4b {p : Program} {l : Launch} {e : Env} {R : Room} {s : State} {m : MethodId} {args : Array Value} {below : List Frame} {meth : Method} {c : Code} {D : va_G} {dA : Nat → ClassId} {w0 : va_W} {Q : State → Prop} {H : Heap} {locs : List Loc} {ls : Array Slot} {cells slots : Nat} (C : CX p s m args meth c cX8_howManyUp 3 (some .int) RX8 D dA) (ht ht_ring ht_degree ht_voice ht_loud ht_sharp ht_hears ht_tooNear ht_ring_cells ht_ring_places ht_ring_facts : Nat) (hR : 1 ≤ R.frames ∧ 21 ≤ R.locals ∧ cells ≤ R.cells ∧ slots ≤ R.slots)  (t_ring_lands : Int32) (t_ring_things : Int32) (t_ring_placeCount : Int32) (t_ring_apart : Int32) (t_ring_thereFirst : Int32) (t_degree : (Nat → Int32)) (v1 : Int32) (v2 : Int32) (N : Nat) (res : ((Int32 × Int32) ⊕ (Int32))) (hf : fX8_howManyUp_l4b N t_ring_things t_degree v1 v2 = some res) (hK : Sum.elim (fun z => (∀ (H : Heap) (locs : List Loc) (ls : Array Slot), lv_has ls 3 [(0, .ref ht), (1, .int z.1), (2, .int z.2)] → St D w0 s (wX8_howManyUp dA ht ht_ring ht_degree ht_voice ht_loud ht_sharp ht_hears ht_tooNear ht_ring_cells ht_ring_places ht_ring_facts t_ring_lands t_ring_things t_ring_placeCount t_ring_apart t_ring_thereFirst t_degree) H locs → W p l e R s m args below meth c H locs cells slots Q (F0 m 4 ls []))) (fun r => (∀ (H : Heap) (locs : List Loc) (ls : Array Slot), lv_has ls 3 [(1, .int r)] → St D w0 s (wX8_howManyUp dA ht ht_ring ht_degree ht_voice ht_loud ht_sharp ht_hears ht_tooNear ht_ring_cells ht_ring_places ht_ring_facts t_ring_lands t_ring_things t_ring_placeCount t_ring_apart t_ring_thereFirst t_degree) H locs → W p l e R s m args below meth c H locs cells slots Q (F0 m 32 ls []))) res) (hl : lv_has ls 3 [(0, .ref ht), (1, .int v1), (2, .int v2)]) (hw : St D w0 s (wX8_howManyUp dA ht ht_ring ht_degree ht_voice ht_loud ht_sharp ht_hears ht_tooNear ht_ring_cells ht_ring_places ht_ring_facts t_ring_lands t_ring_things t_ring_placeCount t_ring_apart t_ring_thereFirst t_degree) H locs) : W p l e R s m args below meth c H locs cells slots Q (F0 m 4 ls []) := by
  have hx := C.1
  have hb := C.2.1
  have hml := C.2.2.1
  have hown := C.2.2.2.1
  have hts := C.2.2.2.2.1
  unfold fX8_howManyUp_l4b at hf
  refine lv_iload_n hx hb dX8_howManyUp_4 rfl (lv_at hl 2 rfl) ?_
  refine lv_aload_n hx hb dX8_howManyUp_5 rfl (lv_at hl 0 rfl) ?_
  refine k_get C hw 0 rfl rfl wiX8 0 (by decide) wfX8_30 rfl dX8_howManyUp_6 ?_
  refine k_get C hw 1 rfl rfl wiX5 3 (by decide) wfX8_50 rfl dX8_howManyUp_9 ?_
  refine lv_icmp_ge (tgt := 32) hx hb dX8_howManyUp_12 (by decide) (fun c1 => ?_) (fun c1 => ?_)
  · have hf := ite_t c1 hf
    obtain rfl := some_r hf
    exact hK _ _ _ (lv_sub hl [1] rfl) hw
  · have hf := ite_f c1 hf
    refine lv_aload_n hx hb dX8_howManyUp_15 rfl (lv_at hl 0 rfl) ?_
    refine lv_iload_n hx hb dX8_howManyUp_16 rfl (lv_at hl 2 rfl) ?_
    obtain ⟨o2, ho2, hf⟩ := bind_r hf
    refine k_callVi C hw (n := 1) (As := [.int v2]) (w1 := (wX8_howManyUp dA ht ht_ring ht_degree ht_voice ht_loud ht_sharp ht_hears ht_tooNear ht_ring_cells ht_ring_places ht_ring_facts t_ring_lands t_ring_things t_ring_placeCount t_ring_apart t_ring_thereFirst t_degree)) (wr := [(ht_ring, .inr (5, [.ref ht_ring_cells, .ref ht_ring_places, .int t_ring_lands, .int t_ring_things, .int t_ring_placeCount, .int t_ring_apart, .int t_ring_thereFirst, .ref ht_ring_facts]))]) [0, 2] [1] [1, 0, 2] rfl rfl (by decide) (by decide) (by decide) rfl (by decide) (qX8_isUp l D dA ht ht_ring ht_degree ht_voice ht_loud ht_sharp ht_hears ht_tooNear t_degree v2 _ ho2) wlX8_54 wmX8_isUp wvX8_isUp wnX8 wcX8_isUp rfl (by decide +kernel) ⟨Nat.le_trans (by decide) hR.1, Nat.le_trans (by decide) hR.2.1⟩ hR.2.2 rfl 0 rfl rfl hl.1 (Nat.le_of_ble_eq_true rfl) dX8_howManyUp_17 rfl (fun H locs hw => ?_)
    refine lv_if_eq (tgt := 26) hx hb dX8_howManyUp_20 (by decide) (fun c3 => ?_) (fun c3 => ?_)
    · have hf := ite_t c3 hf
      obtain ⟨x4, ex4⟩ : ∃ y : Int32, y = v2 + (1 : Int32) := ⟨_, rfl⟩
      have hf := bnd_r ex4 hf
      refine lv_iinc (v := x4) (lv' := [(2, .int x4), (0, .ref ht), (1, .int v1)]) hx hb dX8_howManyUp_26 hl (k := 2) rfl (by rw [ex4]; rfl) (by decide) rfl (fun ls hl => ?_)
      refine lv_goto (tgt := 4) hx hb dX8_howManyUp_29 (by decide) ?_
      obtain rfl := some_r hf
      exact hK _ _ _ (lv_sub hl [1, 2, 0] rfl) hw
    · have hf := ite_f c3 hf
      obtain ⟨x5, ex5⟩ : ∃ y : Int32, y = v1 + (1 : Int32) := ⟨_, rfl⟩
      have hf := bnd_r ex5 hf
      refine lv_iinc (v := x5) (lv' := [(1, .int x5), (0, .ref ht), (2, .int v2)]) hx hb dX8_howManyUp_23 hl (k := 1) rfl (by rw [ex5]; rfl) (by decide) rfl (fun ls hl => ?_)
      obtain ⟨x6, ex6⟩ : ∃ y : Int32, y = v2 + (1 : Int32) := ⟨_, rfl⟩
      have hf := bnd_r ex6 hf
      refine lv_iinc (v := x6) (lv' := [(2, .int x6), (1, .int x5), (0, .ref ht)]) hx hb dX8_howManyUp_26 hl (k := 2) rfl (by rw [ex6]; rfl) (by decide) rfl (fun ls hl => ?_)
      refine lv_goto (tgt := 4) hx hb dX8_howManyUp_29 (by decide) ?_
      obtain rfl := some_r hf
      exact hK _ _ _ (lv_sub hl [2, 1, 0] rfl) hw
set_option maxHeartbeats 4000000 in
theorem tX8_howManyUp_l4 {p : Program} {l : Launch} {e : Env} {R : Room} {s : State} {m : MethodId} {args : Array Value} {below : List Frame} {meth : Method} {c : Code} {D : va_G} {dA : Nat → ClassId} {w0 : va_W} {Q : State → Prop} {H : Heap} {locs : List Loc} {ls : Array Slot} {cells slots : Nat} (C : CX p s m args meth c cX8_howManyUp 3 (some .int) RX8 D dA) (ht ht_ring ht_degree ht_voice ht_loud ht_sharp ht_hears ht_tooNear ht_ring_cells ht_ring_places ht_ring_facts : Nat) (hR : 1 ≤ R.frames ∧ 21 ≤ R.locals ∧ cells ≤ R.cells ∧ slots ≤ R.slots)  (t_ring_lands : Int32) (t_ring_things : Int32) (t_ring_placeCount : Int32) (t_ring_apart : Int32) (t_ring_thereFirst : Int32) (t_degree : (Nat → Int32)) (v1 : Int32) (v2 : Int32) (N n : Nat) (res : (Int32)) (hf : itr (fun z => fX8_howManyUp_l4b N t_ring_things t_degree z.1 z.2) n (v1, v2) = some res) (hK : (∀ (H : Heap) (locs : List Loc) (ls : Array Slot), lv_has ls 3 [(1, .int res)] → St D w0 s (wX8_howManyUp dA ht ht_ring ht_degree ht_voice ht_loud ht_sharp ht_hears ht_tooNear ht_ring_cells ht_ring_places ht_ring_facts t_ring_lands t_ring_things t_ring_placeCount t_ring_apart t_ring_thereFirst t_degree) H locs → W p l e R s m args below meth c H locs cells slots Q (F0 m 32 ls []))) (hl : lv_has ls 3 [(0, .ref ht), (1, .int v1), (2, .int v2)]) (hw : St D w0 s (wX8_howManyUp dA ht ht_ring ht_degree ht_voice ht_loud ht_sharp ht_hears ht_tooNear ht_ring_cells ht_ring_places ht_ring_facts t_ring_lands t_ring_things t_ring_placeCount t_ring_apart t_ring_thereFirst t_degree) H locs) : W p l e R s m args below meth c H locs cells slots Q (F0 m 4 ls []) :=
  itr_W (P := fun (z : (Int32 × Int32)) => (∀ (H : Heap) (locs : List Loc) (ls : Array Slot), lv_has ls 3 [(0, .ref ht), (1, .int z.1), (2, .int z.2)] → St D w0 s (wX8_howManyUp dA ht ht_ring ht_degree ht_voice ht_loud ht_sharp ht_hears ht_tooNear ht_ring_cells ht_ring_places ht_ring_facts t_ring_lands t_ring_things t_ring_placeCount t_ring_apart t_ring_thereFirst t_degree) H locs → W p l e R s m args below meth c H locs cells slots Q (F0 m 4 ls []))) (K := fun res => (∀ (H : Heap) (locs : List Loc) (ls : Array Slot), lv_has ls 3 [(1, .int res)] → St D w0 s (wX8_howManyUp dA ht ht_ring ht_degree ht_voice ht_loud ht_sharp ht_hears ht_tooNear ht_ring_cells ht_ring_places ht_ring_facts t_ring_lands t_ring_things t_ring_placeCount t_ring_apart t_ring_thereFirst t_degree) H locs → W p l e R s m args below meth c H locs cells slots Q (F0 m 32 ls []))) (fun z r hf hK H locs ls hl hw => tX8_howManyUp_l4b C ht ht_ring ht_degree ht_voice ht_loud ht_sharp ht_hears ht_tooNear ht_ring_cells ht_ring_places ht_ring_facts hR t_ring_lands t_ring_things t_ring_placeCount t_ring_apart t_ring_thereFirst t_degree z.1 z.2 N r hf (by cases r with
    | inl r => exact hK
    | inr r => exact hK) hl hw) n _ res hf hK H locs ls hl hw
set_option maxHeartbeats 4000000 in
set_option maxRecDepth 100000 in
theorem qX8_howManyUp (l : Launch) (D : va_G) (dA : Nat → ClassId) (ht ht_ring ht_degree ht_voice ht_loud ht_sharp ht_hears ht_tooNear ht_ring_cells ht_ring_places ht_ring_facts : Nat) (t_ring_lands : Int32) (t_ring_things : Int32) (t_ring_placeCount : Int32) (t_ring_apart : Int32) (t_ring_thereFirst : Int32) (t_degree : (Nat → Int32))  (N : Nat) (o : Int32) (hf : fX8_howManyUp N t_ring_things t_degree = some o) : Mi l D dA yX8_howManyUp (Cond.code yX8_howManyUp cX8_howManyUp 3 (some .int) :: wA) 1 21 [.ref ht] (wX8_howManyUp dA ht ht_ring ht_degree ht_voice ht_loud ht_sharp ht_hears ht_tooNear ht_ring_cells ht_ring_places ht_ring_facts t_ring_lands t_ring_things t_ring_placeCount t_ring_apart t_ring_thereFirst t_degree) (wX8_howManyUp dA ht ht_ring ht_degree ht_voice ht_loud ht_sharp ht_hears ht_tooNear ht_ring_cells ht_ring_places ht_ring_facts t_ring_lands t_ring_things t_ring_placeCount t_ring_apart t_ring_thereFirst t_degree) o := by
  intro sz
  refine M_of (cc := cX8_howManyUp) (nL := 3) (ret := (some .int)) (own := RX8) (by decide +kernel) rfl (Nat.le_of_ble_eq_true rfl) ?_
  intro p e s m below meth c ls hsz C hw hl
  subst hsz
  have hR : 1 ≤ (rmm 1 21).frames ∧ 21 ≤ (rmm 1 21).locals ∧ 0 ≤ (rmm 1 21).cells ∧ 0 ≤ (rmm 1 21).slots := ⟨Nat.le_refl _, Nat.le_refl _, Nat.le_refl _, Nat.le_refl _⟩
  have hl : lv_has ls 3 [(0, .ref ht)] := hl
  have hx := C.1
  have hb := C.2.1
  have hml := C.2.2.1
  have hown := C.2.2.2.1
  have hts := C.2.2.2.2.1
  have hK : ∀ (H : Heap) (locs : List Loc) (pc : Nat) (ls : Array Slot), decode cX8_howManyUp pc = .ok (.ireturn, 1) → St D (wX8_howManyUp dA ht ht_ring ht_degree ht_voice ht_loud ht_sharp ht_hears ht_tooNear ht_ring_cells ht_ring_places ht_ring_facts t_ring_lands t_ring_things t_ring_placeCount t_ring_apart t_ring_thereFirst t_degree) s (wX8_howManyUp dA ht ht_ring ht_degree ht_voice ht_loud ht_sharp ht_hears ht_tooNear ht_ring_cells ht_ring_places ht_ring_facts t_ring_lands t_ring_things t_ring_placeCount t_ring_apart t_ring_thereFirst t_degree) H locs → W p l e (rmm 1 21) s m [.ref ht].toArray below meth c H locs 0 0 (MQ below (Qi D (wX8_howManyUp dA ht ht_ring ht_degree ht_voice ht_loud ht_sharp ht_hears ht_tooNear ht_ring_cells ht_ring_places ht_ring_facts t_ring_lands t_ring_things t_ring_placeCount t_ring_apart t_ring_thereFirst t_degree) (wX8_howManyUp dA ht ht_ring ht_degree ht_voice ht_loud ht_sharp ht_hears ht_tooNear ht_ring_cells ht_ring_places ht_ring_facts t_ring_lands t_ring_things t_ring_placeCount t_ring_apart t_ring_thereFirst t_degree) o s.heap.size) [.ref ht].toArray s 0 0 (va_A (wX8_howManyUp dA ht ht_ring ht_degree ht_voice ht_loud ht_sharp ht_hears ht_tooNear ht_ring_cells ht_ring_places ht_ring_facts t_ring_lands t_ring_things t_ring_placeCount t_ring_apart t_ring_thereFirst t_degree) s.heap.size)) (F0 m pc ls [.int o]) := fun H locs pc ls hd hw => k_iret C hw hd
  unfold fX8_howManyUp at hf
  refine lv_iconst (v := (0 : Int32)) hx hb dX8_howManyUp_0 (by decide) ?_
  refine lv_istore_n (lv' := [(1, .int (0 : Int32)), (0, .ref ht)]) hx hb dX8_howManyUp_1 rfl hl (by decide) rfl (fun ls hl => ?_)
  refine lv_iconst (v := (0 : Int32)) hx hb dX8_howManyUp_2 (by decide) ?_
  refine lv_istore_n (lv' := [(2, .int (0 : Int32)), (1, .int (0 : Int32)), (0, .ref ht)]) hx hb dX8_howManyUp_3 rfl hl (by decide) rfl (fun ls hl => ?_)
  obtain ⟨q7, hq7, hf⟩ := bind_r hf
  refine tX8_howManyUp_l4 C ht ht_ring ht_degree ht_voice ht_loud ht_sharp ht_hears ht_tooNear ht_ring_cells ht_ring_places ht_ring_facts hR t_ring_lands t_ring_things t_ring_placeCount t_ring_apart t_ring_thereFirst t_degree (0 : Int32) (0 : Int32) N _ _ hq7 ?_ (lv_sub hl [2, 1, 0] rfl) hw
  intro H locs ls hl hw
  refine lv_iload_n hx hb dX8_howManyUp_32 rfl (lv_at hl 0 rfl) ?_
  obtain rfl := some_r hf
  exact hK _ _ _ _ dX8_howManyUp_33 hw

/-! RingPlaces$Standing.touching(II)Z -/
abbrev wX8_touching (dA : Nat → ClassId) (ht ht_ring ht_degree ht_voice ht_loud ht_sharp ht_hears ht_tooNear ht_ring_cells ht_ring_places ht_ring_facts : Nat) (t_degree : (Nat → Int32)) (t_voice : (Nat → Int32)) (t_ring_lands : Int32) (t_ring_things : Int32) (t_ring_placeCount : Int32) (t_ring_apart : Int32) (t_ring_thereFirst : Int32) (t_ring_cells : (Nat → Int64)) : va_W := [(ht, .inr (8, [.ref ht_ring, .ref ht_degree, .ref ht_voice, .ref ht_loud, .ref ht_sharp, .ref ht_hears, .ref ht_tooNear])), (ht_degree, .inl (dA 0, 16, .inl t_degree)), (ht_voice, .inl (dA 0, 16, .inl t_voice)), (ht_ring, .inr (5, [.ref ht_ring_cells, .ref ht_ring_places, .int t_ring_lands, .int t_ring_things, .int t_ring_placeCount, .int t_ring_apart, .int t_ring_thereFirst, .ref ht_ring_facts])), (ht_ring_cells, .inl (dA 1, 16, .inr (.inl t_ring_cells)))]
def fX8_touching (t_degree : (Nat → Int32)) (t_voice : (Nat → Int32)) (t_ring_cells : (Nat → Int64)) (x1_ : Int32) (x2_ : Int32) : Option (Int32) := gdi x1_ 16 ((if (t_degree x1_.toNatClampNeg) = (-1 : Int32) then some (0 : Int32) else gdi x2_ 16 ((if (t_degree x2_.toNatClampNeg) = (-1 : Int32) then some (0 : Int32) else gdi x1_ 16 (gdi x2_ 16 ((if (t_voice x1_.toNatClampNeg) = (t_voice x2_.toNatClampNeg) then gdi x1_ 16 (gdi x2_ 16 ((if (lg_cmp ((t_ring_cells x1_.toNatClampNeg) &&& (t_ring_cells x2_.toNatClampNeg)) (0 : Int64)) = 0 then some (0 : Int32) else some (1 : Int32)))) else some (0 : Int32))))))))
set_option maxHeartbeats 4000000 in
set_option maxRecDepth 100000 in
theorem qX8_touching (l : Launch) (D : va_G) (dA : Nat → ClassId) (ht ht_ring ht_degree ht_voice ht_loud ht_sharp ht_hears ht_tooNear ht_ring_cells ht_ring_places ht_ring_facts : Nat) (t_degree : (Nat → Int32)) (t_voice : (Nat → Int32)) (t_ring_lands : Int32) (t_ring_things : Int32) (t_ring_placeCount : Int32) (t_ring_apart : Int32) (t_ring_thereFirst : Int32) (t_ring_cells : (Nat → Int64)) (x1_ : Int32) (x2_ : Int32) (o : Int32) (hf : fX8_touching t_degree t_voice t_ring_cells x1_ x2_ = some o) : Mi l D dA yX8_touching (Cond.code yX8_touching cX8_touching 3 (some .boolean) :: wA) 0 0 [.ref ht, .int x1_, .int x2_] (wX8_touching dA ht ht_ring ht_degree ht_voice ht_loud ht_sharp ht_hears ht_tooNear ht_ring_cells ht_ring_places ht_ring_facts t_degree t_voice t_ring_lands t_ring_things t_ring_placeCount t_ring_apart t_ring_thereFirst t_ring_cells) (wX8_touching dA ht ht_ring ht_degree ht_voice ht_loud ht_sharp ht_hears ht_tooNear ht_ring_cells ht_ring_places ht_ring_facts t_degree t_voice t_ring_lands t_ring_things t_ring_placeCount t_ring_apart t_ring_thereFirst t_ring_cells) o := by
  intro sz
  refine M_of (cc := cX8_touching) (nL := 3) (ret := (some .boolean)) (own := RX8) (by decide +kernel) rfl (Nat.le_of_ble_eq_true rfl) ?_
  intro p e s m below meth c ls hsz C hw hl
  subst hsz
  have hR : 0 ≤ (rmm 0 0).frames ∧ 0 ≤ (rmm 0 0).locals ∧ 0 ≤ (rmm 0 0).cells ∧ 0 ≤ (rmm 0 0).slots := ⟨Nat.le_refl _, Nat.le_refl _, Nat.le_refl _, Nat.le_refl _⟩
  have hl : lv_has ls 3 [(0, .ref ht), (1, .int x1_), (2, .int x2_)] := hl
  have hx := C.1
  have hb := C.2.1
  have hml := C.2.2.1
  have hown := C.2.2.2.1
  have hts := C.2.2.2.2.1
  have hK : ∀ (H : Heap) (locs : List Loc) (pc : Nat) (ls : Array Slot), (o = 0 ∨ o = 1) → decode cX8_touching pc = .ok (.ireturn, 1) → St D (wX8_touching dA ht ht_ring ht_degree ht_voice ht_loud ht_sharp ht_hears ht_tooNear ht_ring_cells ht_ring_places ht_ring_facts t_degree t_voice t_ring_lands t_ring_things t_ring_placeCount t_ring_apart t_ring_thereFirst t_ring_cells) s (wX8_touching dA ht ht_ring ht_degree ht_voice ht_loud ht_sharp ht_hears ht_tooNear ht_ring_cells ht_ring_places ht_ring_facts t_degree t_voice t_ring_lands t_ring_things t_ring_placeCount t_ring_apart t_ring_thereFirst t_ring_cells) H locs → W p l e (rmm 0 0) s m [.ref ht, .int x1_, .int x2_].toArray below meth c H locs 0 0 (MQ below (Qi D (wX8_touching dA ht ht_ring ht_degree ht_voice ht_loud ht_sharp ht_hears ht_tooNear ht_ring_cells ht_ring_places ht_ring_facts t_degree t_voice t_ring_lands t_ring_things t_ring_placeCount t_ring_apart t_ring_thereFirst t_ring_cells) (wX8_touching dA ht ht_ring ht_degree ht_voice ht_loud ht_sharp ht_hears ht_tooNear ht_ring_cells ht_ring_places ht_ring_facts t_degree t_voice t_ring_lands t_ring_things t_ring_placeCount t_ring_apart t_ring_thereFirst t_ring_cells) o s.heap.size) [.ref ht, .int x1_, .int x2_].toArray s 0 0 (va_A (wX8_touching dA ht ht_ring ht_degree ht_voice ht_loud ht_sharp ht_hears ht_tooNear ht_ring_cells ht_ring_places ht_ring_facts t_degree t_voice t_ring_lands t_ring_things t_ring_placeCount t_ring_apart t_ring_thereFirst t_ring_cells) s.heap.size)) (F0 m pc ls [.int o]) := fun H locs pc ls hz hd hw => k_zret C hw hz hd
  unfold fX8_touching at hf
  refine lv_aload_n hx hb dX8_touching_0 rfl (lv_at hl 0 rfl) ?_
  refine k_get C hw 0 rfl rfl wiX8 1 (by decide) wfX8_9 rfl dX8_touching_1 ?_
  refine lv_iload_n hx hb dX8_touching_4 rfl (lv_at hl 1 rfl) ?_
  obtain ⟨g1, hf⟩ := gdi_r hf
  refine k_iald C hw 1 rfl g1 dX8_touching_5 ?_
  refine lv_iconst (v := (-1 : Int32)) hx hb dX8_touching_6 (by decide) ?_
  refine lv_icmp_eq (tgt := 63) hx hb dX8_touching_7 (by decide) (fun c2 => ?_) (fun c2 => ?_)
  · have hf := ite_t c2 hf
    refine lv_iconst (v := (0 : Int32)) hx hb dX8_touching_63 (by decide) ?_
    obtain rfl := some_r hf
    exact hK _ _ _ _ (Or.inl rfl) dX8_touching_64 hw
  · have hf := ite_f c2 hf
    refine lv_aload_n hx hb dX8_touching_10 rfl (lv_at hl 0 rfl) ?_
    refine k_get C hw 0 rfl rfl wiX8 1 (by decide) wfX8_9 rfl dX8_touching_11 ?_
    refine lv_iload_n hx hb dX8_touching_14 rfl (lv_at hl 2 rfl) ?_
    obtain ⟨g3, hf⟩ := gdi_r hf
    refine k_iald C hw 1 rfl g3 dX8_touching_15 ?_
    refine lv_iconst (v := (-1 : Int32)) hx hb dX8_touching_16 (by decide) ?_
    refine lv_icmp_eq (tgt := 63) hx hb dX8_touching_17 (by decide) (fun c4 => ?_) (fun c4 => ?_)
    · have hf := ite_t c4 hf
      refine lv_iconst (v := (0 : Int32)) hx hb dX8_touching_63 (by decide) ?_
      obtain rfl := some_r hf
      exact hK _ _ _ _ (Or.inl rfl) dX8_touching_64 hw
    · have hf := ite_f c4 hf
      refine lv_aload_n hx hb dX8_touching_20 rfl (lv_at hl 0 rfl) ?_
      refine k_get C hw 0 rfl rfl wiX8 2 (by decide) wfX8_15 rfl dX8_touching_21 ?_
      refine lv_iload_n hx hb dX8_touching_24 rfl (lv_at hl 1 rfl) ?_
      obtain ⟨g5, hf⟩ := gdi_r hf
      refine k_iald C hw 2 rfl g5 dX8_touching_25 ?_
      refine lv_aload_n hx hb dX8_touching_26 rfl (lv_at hl 0 rfl) ?_
      refine k_get C hw 0 rfl rfl wiX8 2 (by decide) wfX8_15 rfl dX8_touching_27 ?_
      refine lv_iload_n hx hb dX8_touching_30 rfl (lv_at hl 2 rfl) ?_
      obtain ⟨g6, hf⟩ := gdi_r hf
      refine k_iald C hw 2 rfl g6 dX8_touching_31 ?_
      refine lv_icmp_ne (tgt := 63) hx hb dX8_touching_32 (by decide) (fun c7 => ?_) (fun c7 => ?_)
      · have hf := ite_f c7 hf
        refine lv_iconst (v := (0 : Int32)) hx hb dX8_touching_63 (by decide) ?_
        obtain rfl := some_r hf
        exact hK _ _ _ _ (Or.inl rfl) dX8_touching_64 hw
      · have hf := ite_t c7 hf
        refine lv_aload_n hx hb dX8_touching_35 rfl (lv_at hl 0 rfl) ?_
        refine k_get C hw 0 rfl rfl wiX8 0 (by decide) wfX8_30 rfl dX8_touching_36 ?_
        refine k_get C hw 3 rfl rfl wiX5 0 (by decide) wfX8_83 rfl dX8_touching_39 ?_
        refine lv_iload_n hx hb dX8_touching_42 rfl (lv_at hl 1 rfl) ?_
        obtain ⟨g8, hf⟩ := gdi_r hf
        refine k_lald C hw 4 rfl g8 dX8_touching_43 ?_
        refine lv_aload_n hx hb dX8_touching_44 rfl (lv_at hl 0 rfl) ?_
        refine k_get C hw 0 rfl rfl wiX8 0 (by decide) wfX8_30 rfl dX8_touching_45 ?_
        refine k_get C hw 3 rfl rfl wiX5 0 (by decide) wfX8_83 rfl dX8_touching_48 ?_
        refine lv_iload_n hx hb dX8_touching_51 rfl (lv_at hl 2 rfl) ?_
        obtain ⟨g9, hf⟩ := gdi_r hf
        refine k_lald C hw 4 rfl g9 dX8_touching_52 ?_
        refine lv_land hx hb dX8_touching_53 ?_
        refine lv_lconst (v := (0 : Int64)) hx hb dX8_touching_54 (by decide) ?_
        refine W.lcmp hx hb dX8_touching_55 ?_
        refine lv_if_eq (tgt := 63) hx hb dX8_touching_56 (by decide) (fun c10 => ?_) (fun c10 => ?_)
        · have hf := ite_t c10 hf
          refine lv_iconst (v := (0 : Int32)) hx hb dX8_touching_63 (by decide) ?_
          obtain rfl := some_r hf
          exact hK _ _ _ _ (Or.inl rfl) dX8_touching_64 hw
        · have hf := ite_f c10 hf
          refine lv_iconst (v := (1 : Int32)) hx hb dX8_touching_59 (by decide) ?_
          refine lv_goto (tgt := 64) hx hb dX8_touching_60 (by decide) ?_
          obtain rfl := some_r hf
          exact hK _ _ _ _ (Or.inr rfl) dX8_touching_64 hw

/-! RingPlaces$Standing.meetAll(II)V -/
abbrev wX8_meetAll (dA : Nat → ClassId) (ht ht_ring ht_degree ht_voice ht_loud ht_sharp ht_hears ht_tooNear ht_ring_cells ht_ring_places ht_ring_facts : Nat) (t_ring_lands : Int32) (t_ring_things : Int32) (t_ring_placeCount : Int32) (t_ring_apart : Int32) (t_ring_thereFirst : Int32) (t_degree : (Nat → Int32)) (t_voice : (Nat → Int32)) (t_ring_cells : (Nat → Int64)) (t_hears : (Nat → Int32)) (t_loud : (Nat → Int32)) (t_sharp : (Nat → Int32)) (t_tooNear : (Nat → Int32)) : va_W := [(ht, .inr (8, [.ref ht_ring, .ref ht_degree, .ref ht_voice, .ref ht_loud, .ref ht_sharp, .ref ht_hears, .ref ht_tooNear])), (ht_ring, .inr (5, [.ref ht_ring_cells, .ref ht_ring_places, .int t_ring_lands, .int t_ring_things, .int t_ring_placeCount, .int t_ring_apart, .int t_ring_thereFirst, .ref ht_ring_facts])), (ht_degree, .inl (dA 0, 16, .inl t_degree)), (ht_voice, .inl (dA 0, 16, .inl t_voice)), (ht_ring_cells, .inl (dA 1, 16, .inr (.inl t_ring_cells))), (ht_hears, .inl (dA 0, 16, .inl t_hears)), (ht_loud, .inl (dA 0, 16, .inl t_loud)), (ht_sharp, .inl (dA 0, 16, .inl t_sharp)), (ht_tooNear, .inl (dA 0, 16, .inl t_tooNear))]
def fX8_meetAll_l2b (N : Nat) (t_ring_things : Int32) (t_ring_apart : Int32) (t_degree : (Nat → Int32)) (t_voice : (Nat → Int32)) (t_ring_cells : (Nat → Int64)) (t_loud : (Nat → Int32)) (t_sharp : (Nat → Int32)) (v1 : Int32) (v2 : Int32) (t_hears : (Nat → Int32)) (t_tooNear : (Nat → Int32)) (v3 : Int32) : Option (((Nat → Int32) × (Nat → Int32) × Int32) ⊕ ((Nat → Int32) × (Nat → Int32))) := (if t_ring_things ≤ v3 then some (.inr (t_hears, t_tooNear)) else (if v3 = v1 then bnd (v3 + (1 : Int32)) fun x3 => some (.inl (t_hears, t_tooNear, x3)) else (fX8_touching t_degree t_voice t_ring_cells v1 v3).bind fun o4 => (if o4 = 0 then bnd (v3 + (1 : Int32)) fun x30 => some (.inl (t_hears, t_tooNear, x30)) else gdi v1 16 (gdi v3 16 ((fX11_gapBetween N  (t_degree v1.toNatClampNeg) (t_degree v3.toNatClampNeg)).bind fun o8 => gdi v3 16 (gdi v1 16 (gdi v1 16 ((fX11_reachAt  (t_loud v1.toNatClampNeg) (t_sharp v1.toNatClampNeg) o8).bind fun o12 => gdi v3 16 (bnd (upd t_hears v3.toNatClampNeg ((t_hears v3.toNatClampNeg) + (v2 * o12))) fun y14 => gdi v1 16 (gdi v3 16 (gdi v3 16 ((fX11_reachAt  (t_loud v3.toNatClampNeg) (t_sharp v3.toNatClampNeg) o8).bind fun o18 => gdi v1 16 (bnd (upd y14 v1.toNatClampNeg ((y14 v1.toNatClampNeg) + (v2 * o18))) fun y20 => (if t_ring_apart ≤ o8 then bnd (v3 + (1 : Int32)) fun x22 => some (.inl (y20, t_tooNear, x22)) else gdi v3 16 (gdi v3 16 (bnd (upd t_tooNear v3.toNatClampNeg ((t_tooNear v3.toNatClampNeg) + v2)) fun y25 => gdi v1 16 (gdi v1 16 (bnd (upd y25 v1.toNatClampNeg ((y25 v1.toNatClampNeg) + v2)) fun y28 => bnd (v3 + (1 : Int32)) fun x29 => some (.inl (y20, y28, x29))))))))))))))))))))
def fX8_meetAll (N : Nat) (t_ring_things : Int32) (t_ring_apart : Int32) (t_degree : (Nat → Int32)) (t_voice : (Nat → Int32)) (t_ring_cells : (Nat → Int64)) (t_hears : (Nat → Int32)) (t_loud : (Nat → Int32)) (t_sharp : (Nat → Int32)) (t_tooNear : (Nat → Int32)) (x1_ : Int32) (x2_ : Int32) : Option ((Nat → Int32) × (Nat → Int32)) := (itr (fun z => fX8_meetAll_l2b N t_ring_things t_ring_apart t_degree t_voice t_ring_cells t_loud t_sharp x1_ x2_ z.1 z.2.1 z.2.2) N (t_hears, t_tooNear, (0 : Int32))).bind fun q31 => some (q31.1, q31.2)
set_option maxHeartbeats 4000000 in
set_option maxRecDepth 100000 in
theorem tX8_meetAll_l2b {p : Program} {l : Launch} {e : Env} {R : Room} {s : State} {m : MethodId} {args : Array Value} {below : List Frame} {meth : Method} {c : Code} {D : va_G} {dA : Nat → ClassId} {w0 : va_W} {Q : State → Prop} {H : Heap} {locs : List Loc} {ls : Array Slot} {cells slots : Nat} (C : CX p s m args meth c cX8_meetAll 5 none RX8 D dA) (ht ht_ring ht_degree ht_voice ht_loud ht_sharp ht_hears ht_tooNear ht_ring_cells ht_ring_places ht_ring_facts : Nat) (hR : 1 ≤ R.frames ∧ 23 ≤ R.locals ∧ cells ≤ R.cells ∧ slots ≤ R.slots)  (t_ring_lands : Int32) (t_ring_things : Int32) (t_ring_placeCount : Int32) (t_ring_apart : Int32) (t_ring_thereFirst : Int32) (t_degree : (Nat → Int32)) (t_voice : (Nat → Int32)) (t_ring_cells : (Nat → Int64)) (t_hears : (Nat → Int32)) (t_loud : (Nat → Int32)) (t_sharp : (Nat → Int32)) (t_tooNear : (Nat → Int32)) (v1 : Int32) (v2 : Int32) (v3 : Int32) (N : Nat) (res : (((Nat → Int32) × (Nat → Int32) × Int32) ⊕ ((Nat → Int32) × (Nat → Int32)))) (hf : fX8_meetAll_l2b N t_ring_things t_ring_apart t_degree t_voice t_ring_cells t_loud t_sharp v1 v2 t_hears t_tooNear v3 = some res) (hK : Sum.elim (fun z => (∀ (H : Heap) (locs : List Loc) (ls : Array Slot), lv_has ls 5 [(0, .ref ht), (1, .int v1), (2, .int v2), (3, .int z.2.2)] → St D w0 s (wX8_meetAll dA ht ht_ring ht_degree ht_voice ht_loud ht_sharp ht_hears ht_tooNear ht_ring_cells ht_ring_places ht_ring_facts t_ring_lands t_ring_things t_ring_placeCount t_ring_apart t_ring_thereFirst t_degree t_voice t_ring_cells z.1 t_loud t_sharp z.2.1) H locs → W p l e R s m args below meth c H locs cells slots Q (F0 m 2 ls []))) (fun r => (∀ (H : Heap) (locs : List Loc) (ls : Array Slot), lv_has ls 5 [] → St D w0 s (wX8_meetAll dA ht ht_ring ht_degree ht_voice ht_loud ht_sharp ht_hears ht_tooNear ht_ring_cells ht_ring_places ht_ring_facts t_ring_lands t_ring_things t_ring_placeCount t_ring_apart t_ring_thereFirst t_degree t_voice t_ring_cells r.1 t_loud t_sharp r.2) H locs → W p l e R s m args below meth c H locs cells slots Q (F0 m 141 ls []))) res) (hl : lv_has ls 5 [(0, .ref ht), (1, .int v1), (2, .int v2), (3, .int v3)]) (hw : St D w0 s (wX8_meetAll dA ht ht_ring ht_degree ht_voice ht_loud ht_sharp ht_hears ht_tooNear ht_ring_cells ht_ring_places ht_ring_facts t_ring_lands t_ring_things t_ring_placeCount t_ring_apart t_ring_thereFirst t_degree t_voice t_ring_cells t_hears t_loud t_sharp t_tooNear) H locs) : W p l e R s m args below meth c H locs cells slots Q (F0 m 2 ls []) := by
  have hx := C.1
  have hb := C.2.1
  have hml := C.2.2.1
  have hown := C.2.2.2.1
  have hts := C.2.2.2.2.1
  unfold fX8_meetAll_l2b at hf
  refine lv_iload_n hx hb dX8_meetAll_2 rfl (lv_at hl 3 rfl) ?_
  refine lv_aload_n hx hb dX8_meetAll_3 rfl (lv_at hl 0 rfl) ?_
  refine k_get C hw 0 rfl rfl wiX8 0 (by decide) wfX8_30 rfl dX8_meetAll_4 ?_
  refine k_get C hw 1 rfl rfl wiX5 3 (by decide) wfX8_50 rfl dX8_meetAll_7 ?_
  refine lv_icmp_ge (tgt := 141) hx hb dX8_meetAll_10 (by decide) (fun c1 => ?_) (fun c1 => ?_)
  · have hf := ite_t c1 hf
    obtain rfl := some_r hf
    exact hK _ _ _ (lv_sub hl [] rfl) hw
  · have hf := ite_f c1 hf
    refine lv_iload_n hx hb dX8_meetAll_13 rfl (lv_at hl 3 rfl) ?_
    refine lv_iload_n hx hb dX8_meetAll_14 rfl (lv_at hl 1 rfl) ?_
    refine lv_icmp_eq (tgt := 135) hx hb dX8_meetAll_15 (by decide) (fun c2 => ?_) (fun c2 => ?_)
    · have hf := ite_t c2 hf
      obtain ⟨x3, ex3⟩ : ∃ y : Int32, y = v3 + (1 : Int32) := ⟨_, rfl⟩
      have hf := bnd_r ex3 hf
      refine lv_iinc (v := x3) (lv' := [(3, .int x3), (0, .ref ht), (1, .int v1), (2, .int v2)]) hx hb dX8_meetAll_135 hl (k := 3) rfl (by rw [ex3]; rfl) (by decide) rfl (fun ls hl => ?_)
      refine lv_goto (tgt := 2) hx hb dX8_meetAll_138 (by decide) ?_
      obtain rfl := some_r hf
      exact hK _ _ _ (lv_sub hl [1, 2, 3, 0] rfl) hw
    · have hf := ite_f c2 hf
      refine lv_aload_n hx hb dX8_meetAll_18 rfl (lv_at hl 0 rfl) ?_
      refine lv_iload_n hx hb dX8_meetAll_19 rfl (lv_at hl 1 rfl) ?_
      refine lv_iload_n hx hb dX8_meetAll_20 rfl (lv_at hl 3 rfl) ?_
      obtain ⟨o4, ho4, hf⟩ := bind_r hf
      refine k_callVi C hw (n := 2) (As := [.int v1, .int v3]) (w1 := (wX8_meetAll dA ht ht_ring ht_degree ht_voice ht_loud ht_sharp ht_hears ht_tooNear ht_ring_cells ht_ring_places ht_ring_facts t_ring_lands t_ring_things t_ring_placeCount t_ring_apart t_ring_thereFirst t_degree t_voice t_ring_cells t_hears t_loud t_sharp t_tooNear)) (wr := [(ht_hears, .inl (dA 0, 16, .inl t_hears)), (ht_loud, .inl (dA 0, 16, .inl t_loud)), (ht_sharp, .inl (dA 0, 16, .inl t_sharp)), (ht_tooNear, .inl (dA 0, 16, .inl t_tooNear))]) [0, 2, 3, 1, 4] [5, 6, 7, 8] [4, 7, 5, 6, 8, 0, 1, 2, 3] rfl rfl (by decide) (by decide) (by decide) rfl (by decide) (qX8_touching l D dA ht ht_ring ht_degree ht_voice ht_loud ht_sharp ht_hears ht_tooNear ht_ring_cells ht_ring_places ht_ring_facts t_degree t_voice t_ring_lands t_ring_things t_ring_placeCount t_ring_apart t_ring_thereFirst t_ring_cells v1 v3 _ ho4) wlX8_69 wmX8_touching wvX8_touching wnX8 wcX8_touching rfl (by decide +kernel) ⟨Nat.le_trans (by decide) hR.1, Nat.le_trans (by decide) hR.2.1⟩ hR.2.2 rfl 0 rfl rfl hl.1 (Nat.le_of_ble_eq_true rfl) dX8_meetAll_21 rfl (fun H locs hw => ?_)
      refine lv_if_ne (tgt := 30) hx hb dX8_meetAll_24 (by decide) (fun c5 => ?_) (fun c5 => ?_)
      · have hf := ite_f c5 hf
        refine lv_aload_n hx hb dX8_meetAll_30 rfl (lv_at hl 0 rfl) ?_
        refine k_get C hw 0 rfl rfl wiX8 1 (by decide) wfX8_9 rfl dX8_meetAll_31 ?_
        refine lv_iload_n hx hb dX8_meetAll_34 rfl (lv_at hl 1 rfl) ?_
        obtain ⟨g6, hf⟩ := gdi_r hf
        refine k_iald C hw 2 rfl g6 dX8_meetAll_35 ?_
        refine lv_aload_n hx hb dX8_meetAll_36 rfl (lv_at hl 0 rfl) ?_
        refine k_get C hw 0 rfl rfl wiX8 1 (by decide) wfX8_9 rfl dX8_meetAll_37 ?_
        refine lv_iload_n hx hb dX8_meetAll_40 rfl (lv_at hl 3 rfl) ?_
        obtain ⟨g7, hf⟩ := gdi_r hf
        refine k_iald C hw 2 rfl g7 dX8_meetAll_41 ?_
        obtain ⟨o8, ho8, hf⟩ := bind_r hf
        refine k_callNi C hw (n := 2) (As := [.int (t_degree v1.toNatClampNeg), .int (t_degree v3.toNatClampNeg)]) (w1 := (wX8_meetAll dA ht ht_ring ht_degree ht_voice ht_loud ht_sharp ht_hears ht_tooNear ht_ring_cells ht_ring_places ht_ring_facts t_ring_lands t_ring_things t_ring_placeCount t_ring_apart t_ring_thereFirst t_degree t_voice t_ring_cells t_hears t_loud t_sharp t_tooNear)) (wr := [(ht, .inr (8, [.ref ht_ring, .ref ht_degree, .ref ht_voice, .ref ht_loud, .ref ht_sharp, .ref ht_hears, .ref ht_tooNear])), (ht_ring, .inr (5, [.ref ht_ring_cells, .ref ht_ring_places, .int t_ring_lands, .int t_ring_things, .int t_ring_placeCount, .int t_ring_apart, .int t_ring_thereFirst, .ref ht_ring_facts])), (ht_degree, .inl (dA 0, 16, .inl t_degree)), (ht_voice, .inl (dA 0, 16, .inl t_voice)), (ht_ring_cells, .inl (dA 1, 16, .inr (.inl t_ring_cells))), (ht_hears, .inl (dA 0, 16, .inl t_hears)), (ht_loud, .inl (dA 0, 16, .inl t_loud)), (ht_sharp, .inl (dA 0, 16, .inl t_sharp)), (ht_tooNear, .inl (dA 0, 16, .inl t_tooNear))]) [] [0, 1, 2, 3, 4, 5, 6, 7, 8] [0, 1, 2, 3, 4, 5, 6, 7, 8] rfl rfl (by decide) (by decide) (by decide) rfl (by decide) (qX11_gapBetween l D dA  (t_degree v1.toNatClampNeg) (t_degree v3.toNatClampNeg) N _ ho8) (host := "RingPlaces") (by decide +kernel) wsX11_gapBetween_t wnX11 wcX11_gapBetween (by decide +kernel) ⟨Nat.le_trans (by decide) hR.1, Nat.le_trans (by decide) hR.2.1⟩ hR.2.2 rfl hl.1 (Nat.le_of_ble_eq_true rfl) dX8_meetAll_42 rfl (fun H locs hw => ?_)
        refine lv_istore (lv' := [(4, .int o8), (0, .ref ht), (1, .int v1), (2, .int v2), (3, .int v3)]) hx hb dX8_meetAll_45 hl (by decide) rfl (fun ls hl => ?_)
        refine lv_aload_n hx hb dX8_meetAll_47 rfl (lv_at hl 1 rfl) ?_
        refine k_get C hw 0 rfl rfl wiX8 5 (by decide) wfX8_24 rfl dX8_meetAll_48 ?_
        refine lv_iload_n hx hb dX8_meetAll_51 rfl (lv_at hl 4 rfl) ?_
        refine lv_dup2_11 hx hb dX8_meetAll_52 rfl rfl ?_
        obtain ⟨g9, hf⟩ := gdi_r hf
        refine k_iald C hw 5 rfl g9 dX8_meetAll_53 ?_
        refine lv_iload_n hx hb dX8_meetAll_54 rfl (lv_at hl 3 rfl) ?_
        refine lv_aload_n hx hb dX8_meetAll_55 rfl (lv_at hl 1 rfl) ?_
        refine k_get C hw 0 rfl rfl wiX8 3 (by decide) wfX8_18 rfl dX8_meetAll_56 ?_
        refine lv_iload_n hx hb dX8_meetAll_59 rfl (lv_at hl 2 rfl) ?_
        obtain ⟨g10, hf⟩ := gdi_r hf
        refine k_iald C hw 6 rfl g10 dX8_meetAll_60 ?_
        refine lv_aload_n hx hb dX8_meetAll_61 rfl (lv_at hl 1 rfl) ?_
        refine k_get C hw 0 rfl rfl wiX8 4 (by decide) wfX8_21 rfl dX8_meetAll_62 ?_
        refine lv_iload_n hx hb dX8_meetAll_65 rfl (lv_at hl 2 rfl) ?_
        obtain ⟨g11, hf⟩ := gdi_r hf
        refine k_iald C hw 7 rfl g11 dX8_meetAll_66 ?_
        refine lv_iload hx hb dX8_meetAll_67 (lv_at hl 0 rfl) ?_
        obtain ⟨o12, ho12, hf⟩ := bind_r hf
        refine k_callNi C hw (n := 3) (As := [.int (t_loud v1.toNatClampNeg), .int (t_sharp v1.toNatClampNeg), .int o8]) (w1 := (wX8_meetAll dA ht ht_ring ht_degree ht_voice ht_loud ht_sharp ht_hears ht_tooNear ht_ring_cells ht_ring_places ht_ring_facts t_ring_lands t_ring_things t_ring_placeCount t_ring_apart t_ring_thereFirst t_degree t_voice t_ring_cells t_hears t_loud t_sharp t_tooNear)) (wr := [(ht, .inr (8, [.ref ht_ring, .ref ht_degree, .ref ht_voice, .ref ht_loud, .ref ht_sharp, .ref ht_hears, .ref ht_tooNear])), (ht_ring, .inr (5, [.ref ht_ring_cells, .ref ht_ring_places, .int t_ring_lands, .int t_ring_things, .int t_ring_placeCount, .int t_ring_apart, .int t_ring_thereFirst, .ref ht_ring_facts])), (ht_degree, .inl (dA 0, 16, .inl t_degree)), (ht_voice, .inl (dA 0, 16, .inl t_voice)), (ht_ring_cells, .inl (dA 1, 16, .inr (.inl t_ring_cells))), (ht_hears, .inl (dA 0, 16, .inl t_hears)), (ht_loud, .inl (dA 0, 16, .inl t_loud)), (ht_sharp, .inl (dA 0, 16, .inl t_sharp)), (ht_tooNear, .inl (dA 0, 16, .inl t_tooNear))]) [] [0, 1, 2, 3, 4, 5, 6, 7, 8] [0, 1, 2, 3, 4, 5, 6, 7, 8] rfl rfl (by decide) (by decide) (by decide) rfl (by decide) (qX11_reachAt l D dA  (t_loud v1.toNatClampNeg) (t_sharp v1.toNatClampNeg) o8 _ ho12) (host := "RingPlaces") (by decide +kernel) wsX11_reachAt_t wnX11 wcX11_reachAt (by decide +kernel) ⟨Nat.le_trans (by decide) hR.1, Nat.le_trans (by decide) hR.2.1⟩ hR.2.2 rfl hl.1 (Nat.le_of_ble_eq_true rfl) dX8_meetAll_69 rfl (fun H locs hw => ?_)
        refine lv_imul hx hb dX8_meetAll_72 ?_
        refine lv_iadd hx hb dX8_meetAll_73 ?_
        obtain ⟨g13, hf⟩ := gdi_r hf
        obtain ⟨y14, ey14⟩ : ∃ z : Nat → Int32, z = upd t_hears v3.toNatClampNeg ((t_hears v3.toNatClampNeg) + (v2 * o12)) := ⟨_, rfl⟩
        have hf := bnd_r ey14 hf
        refine k_iast C hw 5 rfl g13 dX8_meetAll_74 y14 ey14 (wX8_meetAll dA ht ht_ring ht_degree ht_voice ht_loud ht_sharp ht_hears ht_tooNear ht_ring_cells ht_ring_places ht_ring_facts t_ring_lands t_ring_things t_ring_placeCount t_ring_apart t_ring_thereFirst t_degree t_voice t_ring_cells y14 t_loud t_sharp t_tooNear) rfl (fun H locs hw => ?_)
        refine lv_aload_n hx hb dX8_meetAll_75 rfl (lv_at hl 1 rfl) ?_
        refine k_get C hw 0 rfl rfl wiX8 5 (by decide) wfX8_24 rfl dX8_meetAll_76 ?_
        refine lv_iload_n hx hb dX8_meetAll_79 rfl (lv_at hl 2 rfl) ?_
        refine lv_dup2_11 hx hb dX8_meetAll_80 rfl rfl ?_
        obtain ⟨g15, hf⟩ := gdi_r hf
        refine k_iald C hw 5 rfl g15 dX8_meetAll_81 ?_
        refine lv_iload_n hx hb dX8_meetAll_82 rfl (lv_at hl 3 rfl) ?_
        refine lv_aload_n hx hb dX8_meetAll_83 rfl (lv_at hl 1 rfl) ?_
        refine k_get C hw 0 rfl rfl wiX8 3 (by decide) wfX8_18 rfl dX8_meetAll_84 ?_
        refine lv_iload_n hx hb dX8_meetAll_87 rfl (lv_at hl 4 rfl) ?_
        obtain ⟨g16, hf⟩ := gdi_r hf
        refine k_iald C hw 6 rfl g16 dX8_meetAll_88 ?_
        refine lv_aload_n hx hb dX8_meetAll_89 rfl (lv_at hl 1 rfl) ?_
        refine k_get C hw 0 rfl rfl wiX8 4 (by decide) wfX8_21 rfl dX8_meetAll_90 ?_
        refine lv_iload_n hx hb dX8_meetAll_93 rfl (lv_at hl 4 rfl) ?_
        obtain ⟨g17, hf⟩ := gdi_r hf
        refine k_iald C hw 7 rfl g17 dX8_meetAll_94 ?_
        refine lv_iload hx hb dX8_meetAll_95 (lv_at hl 0 rfl) ?_
        obtain ⟨o18, ho18, hf⟩ := bind_r hf
        refine k_callNi C hw (n := 3) (As := [.int (t_loud v3.toNatClampNeg), .int (t_sharp v3.toNatClampNeg), .int o8]) (w1 := (wX8_meetAll dA ht ht_ring ht_degree ht_voice ht_loud ht_sharp ht_hears ht_tooNear ht_ring_cells ht_ring_places ht_ring_facts t_ring_lands t_ring_things t_ring_placeCount t_ring_apart t_ring_thereFirst t_degree t_voice t_ring_cells y14 t_loud t_sharp t_tooNear)) (wr := [(ht, .inr (8, [.ref ht_ring, .ref ht_degree, .ref ht_voice, .ref ht_loud, .ref ht_sharp, .ref ht_hears, .ref ht_tooNear])), (ht_ring, .inr (5, [.ref ht_ring_cells, .ref ht_ring_places, .int t_ring_lands, .int t_ring_things, .int t_ring_placeCount, .int t_ring_apart, .int t_ring_thereFirst, .ref ht_ring_facts])), (ht_degree, .inl (dA 0, 16, .inl t_degree)), (ht_voice, .inl (dA 0, 16, .inl t_voice)), (ht_ring_cells, .inl (dA 1, 16, .inr (.inl t_ring_cells))), (ht_hears, .inl (dA 0, 16, .inl y14)), (ht_loud, .inl (dA 0, 16, .inl t_loud)), (ht_sharp, .inl (dA 0, 16, .inl t_sharp)), (ht_tooNear, .inl (dA 0, 16, .inl t_tooNear))]) [] [0, 1, 2, 3, 4, 5, 6, 7, 8] [0, 1, 2, 3, 4, 5, 6, 7, 8] rfl rfl (by decide) (by decide) (by decide) rfl (by decide) (qX11_reachAt l D dA  (t_loud v3.toNatClampNeg) (t_sharp v3.toNatClampNeg) o8 _ ho18) (host := "RingPlaces") (by decide +kernel) wsX11_reachAt_t wnX11 wcX11_reachAt (by decide +kernel) ⟨Nat.le_trans (by decide) hR.1, Nat.le_trans (by decide) hR.2.1⟩ hR.2.2 rfl hl.1 (Nat.le_of_ble_eq_true rfl) dX8_meetAll_97 rfl (fun H locs hw => ?_)
        refine lv_imul hx hb dX8_meetAll_100 ?_
        refine lv_iadd hx hb dX8_meetAll_101 ?_
        obtain ⟨g19, hf⟩ := gdi_r hf
        obtain ⟨y20, ey20⟩ : ∃ z : Nat → Int32, z = upd y14 v1.toNatClampNeg ((y14 v1.toNatClampNeg) + (v2 * o18)) := ⟨_, rfl⟩
        have hf := bnd_r ey20 hf
        refine k_iast C hw 5 rfl g19 dX8_meetAll_102 y20 ey20 (wX8_meetAll dA ht ht_ring ht_degree ht_voice ht_loud ht_sharp ht_hears ht_tooNear ht_ring_cells ht_ring_places ht_ring_facts t_ring_lands t_ring_things t_ring_placeCount t_ring_apart t_ring_thereFirst t_degree t_voice t_ring_cells y20 t_loud t_sharp t_tooNear) rfl (fun H locs hw => ?_)
        refine lv_iload hx hb dX8_meetAll_103 (lv_at hl 0 rfl) ?_
        refine lv_aload_n hx hb dX8_meetAll_105 rfl (lv_at hl 1 rfl) ?_
        refine k_get C hw 0 rfl rfl wiX8 0 (by decide) wfX8_30 rfl dX8_meetAll_106 ?_
        refine k_get C hw 1 rfl rfl wiX5 5 (by decide) wfX8_80 rfl dX8_meetAll_109 ?_
        refine lv_icmp_ge (tgt := 135) hx hb dX8_meetAll_112 (by decide) (fun c21 => ?_) (fun c21 => ?_)
        · have hf := ite_t c21 hf
          obtain ⟨x22, ex22⟩ : ∃ y : Int32, y = v3 + (1 : Int32) := ⟨_, rfl⟩
          have hf := bnd_r ex22 hf
          refine lv_iinc (v := x22) (lv' := [(3, .int x22), (4, .int o8), (0, .ref ht), (1, .int v1), (2, .int v2)]) hx hb dX8_meetAll_135 hl (k := 4) rfl (by rw [ex22]; rfl) (by decide) rfl (fun ls hl => ?_)
          refine lv_goto (tgt := 2) hx hb dX8_meetAll_138 (by decide) ?_
          obtain rfl := some_r hf
          exact hK _ _ _ (lv_sub hl [2, 3, 4, 0] rfl) hw
        · have hf := ite_f c21 hf
          refine lv_aload_n hx hb dX8_meetAll_115 rfl (lv_at hl 1 rfl) ?_
          refine k_get C hw 0 rfl rfl wiX8 6 (by decide) wfX8_27 rfl dX8_meetAll_116 ?_
          refine lv_iload_n hx hb dX8_meetAll_119 rfl (lv_at hl 4 rfl) ?_
          refine lv_dup2_11 hx hb dX8_meetAll_120 rfl rfl ?_
          obtain ⟨g23, hf⟩ := gdi_r hf
          refine k_iald C hw 8 rfl g23 dX8_meetAll_121 ?_
          refine lv_iload_n hx hb dX8_meetAll_122 rfl (lv_at hl 3 rfl) ?_
          refine lv_iadd hx hb dX8_meetAll_123 ?_
          obtain ⟨g24, hf⟩ := gdi_r hf
          obtain ⟨y25, ey25⟩ : ∃ z : Nat → Int32, z = upd t_tooNear v3.toNatClampNeg ((t_tooNear v3.toNatClampNeg) + v2) := ⟨_, rfl⟩
          have hf := bnd_r ey25 hf
          refine k_iast C hw 8 rfl g24 dX8_meetAll_124 y25 ey25 (wX8_meetAll dA ht ht_ring ht_degree ht_voice ht_loud ht_sharp ht_hears ht_tooNear ht_ring_cells ht_ring_places ht_ring_facts t_ring_lands t_ring_things t_ring_placeCount t_ring_apart t_ring_thereFirst t_degree t_voice t_ring_cells y20 t_loud t_sharp y25) rfl (fun H locs hw => ?_)
          refine lv_aload_n hx hb dX8_meetAll_125 rfl (lv_at hl 1 rfl) ?_
          refine k_get C hw 0 rfl rfl wiX8 6 (by decide) wfX8_27 rfl dX8_meetAll_126 ?_
          refine lv_iload_n hx hb dX8_meetAll_129 rfl (lv_at hl 2 rfl) ?_
          refine lv_dup2_11 hx hb dX8_meetAll_130 rfl rfl ?_
          obtain ⟨g26, hf⟩ := gdi_r hf
          refine k_iald C hw 8 rfl g26 dX8_meetAll_131 ?_
          refine lv_iload_n hx hb dX8_meetAll_132 rfl (lv_at hl 3 rfl) ?_
          refine lv_iadd hx hb dX8_meetAll_133 ?_
          obtain ⟨g27, hf⟩ := gdi_r hf
          obtain ⟨y28, ey28⟩ : ∃ z : Nat → Int32, z = upd y25 v1.toNatClampNeg ((y25 v1.toNatClampNeg) + v2) := ⟨_, rfl⟩
          have hf := bnd_r ey28 hf
          refine k_iast C hw 8 rfl g27 dX8_meetAll_134 y28 ey28 (wX8_meetAll dA ht ht_ring ht_degree ht_voice ht_loud ht_sharp ht_hears ht_tooNear ht_ring_cells ht_ring_places ht_ring_facts t_ring_lands t_ring_things t_ring_placeCount t_ring_apart t_ring_thereFirst t_degree t_voice t_ring_cells y20 t_loud t_sharp y28) rfl (fun H locs hw => ?_)
          obtain ⟨x29, ex29⟩ : ∃ y : Int32, y = v3 + (1 : Int32) := ⟨_, rfl⟩
          have hf := bnd_r ex29 hf
          refine lv_iinc (v := x29) (lv' := [(3, .int x29), (4, .int o8), (0, .ref ht), (1, .int v1), (2, .int v2)]) hx hb dX8_meetAll_135 hl (k := 4) rfl (by rw [ex29]; rfl) (by decide) rfl (fun ls hl => ?_)
          refine lv_goto (tgt := 2) hx hb dX8_meetAll_138 (by decide) ?_
          obtain rfl := some_r hf
          exact hK _ _ _ (lv_sub hl [2, 3, 4, 0] rfl) hw
      · have hf := ite_t c5 hf
        refine lv_goto (tgt := 135) hx hb dX8_meetAll_27 (by decide) ?_
        obtain ⟨x30, ex30⟩ : ∃ y : Int32, y = v3 + (1 : Int32) := ⟨_, rfl⟩
        have hf := bnd_r ex30 hf
        refine lv_iinc (v := x30) (lv' := [(3, .int x30), (0, .ref ht), (1, .int v1), (2, .int v2)]) hx hb dX8_meetAll_135 hl (k := 3) rfl (by rw [ex30]; rfl) (by decide) rfl (fun ls hl => ?_)
        refine lv_goto (tgt := 2) hx hb dX8_meetAll_138 (by decide) ?_
        obtain rfl := some_r hf
        exact hK _ _ _ (lv_sub hl [1, 2, 3, 0] rfl) hw
set_option maxHeartbeats 4000000 in
theorem tX8_meetAll_l2 {p : Program} {l : Launch} {e : Env} {R : Room} {s : State} {m : MethodId} {args : Array Value} {below : List Frame} {meth : Method} {c : Code} {D : va_G} {dA : Nat → ClassId} {w0 : va_W} {Q : State → Prop} {H : Heap} {locs : List Loc} {ls : Array Slot} {cells slots : Nat} (C : CX p s m args meth c cX8_meetAll 5 none RX8 D dA) (ht ht_ring ht_degree ht_voice ht_loud ht_sharp ht_hears ht_tooNear ht_ring_cells ht_ring_places ht_ring_facts : Nat) (hR : 1 ≤ R.frames ∧ 23 ≤ R.locals ∧ cells ≤ R.cells ∧ slots ≤ R.slots)  (t_ring_lands : Int32) (t_ring_things : Int32) (t_ring_placeCount : Int32) (t_ring_apart : Int32) (t_ring_thereFirst : Int32) (t_degree : (Nat → Int32)) (t_voice : (Nat → Int32)) (t_ring_cells : (Nat → Int64)) (t_hears : (Nat → Int32)) (t_loud : (Nat → Int32)) (t_sharp : (Nat → Int32)) (t_tooNear : (Nat → Int32)) (v1 : Int32) (v2 : Int32) (v3 : Int32) (N n : Nat) (res : ((Nat → Int32) × (Nat → Int32))) (hf : itr (fun z => fX8_meetAll_l2b N t_ring_things t_ring_apart t_degree t_voice t_ring_cells t_loud t_sharp v1 v2 z.1 z.2.1 z.2.2) n (t_hears, t_tooNear, v3) = some res) (hK : (∀ (H : Heap) (locs : List Loc) (ls : Array Slot), lv_has ls 5 [] → St D w0 s (wX8_meetAll dA ht ht_ring ht_degree ht_voice ht_loud ht_sharp ht_hears ht_tooNear ht_ring_cells ht_ring_places ht_ring_facts t_ring_lands t_ring_things t_ring_placeCount t_ring_apart t_ring_thereFirst t_degree t_voice t_ring_cells res.1 t_loud t_sharp res.2) H locs → W p l e R s m args below meth c H locs cells slots Q (F0 m 141 ls []))) (hl : lv_has ls 5 [(0, .ref ht), (1, .int v1), (2, .int v2), (3, .int v3)]) (hw : St D w0 s (wX8_meetAll dA ht ht_ring ht_degree ht_voice ht_loud ht_sharp ht_hears ht_tooNear ht_ring_cells ht_ring_places ht_ring_facts t_ring_lands t_ring_things t_ring_placeCount t_ring_apart t_ring_thereFirst t_degree t_voice t_ring_cells t_hears t_loud t_sharp t_tooNear) H locs) : W p l e R s m args below meth c H locs cells slots Q (F0 m 2 ls []) :=
  itr_W (P := fun (z : ((Nat → Int32) × (Nat → Int32) × Int32)) => (∀ (H : Heap) (locs : List Loc) (ls : Array Slot), lv_has ls 5 [(0, .ref ht), (1, .int v1), (2, .int v2), (3, .int z.2.2)] → St D w0 s (wX8_meetAll dA ht ht_ring ht_degree ht_voice ht_loud ht_sharp ht_hears ht_tooNear ht_ring_cells ht_ring_places ht_ring_facts t_ring_lands t_ring_things t_ring_placeCount t_ring_apart t_ring_thereFirst t_degree t_voice t_ring_cells z.1 t_loud t_sharp z.2.1) H locs → W p l e R s m args below meth c H locs cells slots Q (F0 m 2 ls []))) (K := fun res => (∀ (H : Heap) (locs : List Loc) (ls : Array Slot), lv_has ls 5 [] → St D w0 s (wX8_meetAll dA ht ht_ring ht_degree ht_voice ht_loud ht_sharp ht_hears ht_tooNear ht_ring_cells ht_ring_places ht_ring_facts t_ring_lands t_ring_things t_ring_placeCount t_ring_apart t_ring_thereFirst t_degree t_voice t_ring_cells res.1 t_loud t_sharp res.2) H locs → W p l e R s m args below meth c H locs cells slots Q (F0 m 141 ls []))) (fun z r hf hK H locs ls hl hw => tX8_meetAll_l2b C ht ht_ring ht_degree ht_voice ht_loud ht_sharp ht_hears ht_tooNear ht_ring_cells ht_ring_places ht_ring_facts hR t_ring_lands t_ring_things t_ring_placeCount t_ring_apart t_ring_thereFirst t_degree t_voice t_ring_cells z.1 t_loud t_sharp z.2.1 v1 v2 z.2.2 N r hf (by cases r with
    | inl r => exact hK
    | inr r => exact hK) hl hw) n _ res hf hK H locs ls hl hw
set_option maxHeartbeats 4000000 in
set_option maxRecDepth 100000 in
theorem qX8_meetAll (l : Launch) (D : va_G) (dA : Nat → ClassId) (ht ht_ring ht_degree ht_voice ht_loud ht_sharp ht_hears ht_tooNear ht_ring_cells ht_ring_places ht_ring_facts : Nat) (t_ring_lands : Int32) (t_ring_things : Int32) (t_ring_placeCount : Int32) (t_ring_apart : Int32) (t_ring_thereFirst : Int32) (t_degree : (Nat → Int32)) (t_voice : (Nat → Int32)) (t_ring_cells : (Nat → Int64)) (t_hears : (Nat → Int32)) (t_loud : (Nat → Int32)) (t_sharp : (Nat → Int32)) (t_tooNear : (Nat → Int32)) (x1_ : Int32) (x2_ : Int32) (N : Nat) (o : (Nat → Int32) × (Nat → Int32)) (hf : fX8_meetAll N t_ring_things t_ring_apart t_degree t_voice t_ring_cells t_hears t_loud t_sharp t_tooNear x1_ x2_ = some o) : Mv l D dA yX8_meetAll (Cond.code yX8_meetAll cX8_meetAll 5 none :: wA) 1 23 [.ref ht, .int x1_, .int x2_] (wX8_meetAll dA ht ht_ring ht_degree ht_voice ht_loud ht_sharp ht_hears ht_tooNear ht_ring_cells ht_ring_places ht_ring_facts t_ring_lands t_ring_things t_ring_placeCount t_ring_apart t_ring_thereFirst t_degree t_voice t_ring_cells t_hears t_loud t_sharp t_tooNear) (wX8_meetAll dA ht ht_ring ht_degree ht_voice ht_loud ht_sharp ht_hears ht_tooNear ht_ring_cells ht_ring_places ht_ring_facts t_ring_lands t_ring_things t_ring_placeCount t_ring_apart t_ring_thereFirst t_degree t_voice t_ring_cells o.1 t_loud t_sharp o.2) := by
  intro sz
  refine M_of (cc := cX8_meetAll) (nL := 5) (ret := none) (own := RX8) (by decide +kernel) rfl (Nat.le_of_ble_eq_true rfl) ?_
  intro p e s m below meth c ls hsz C hw hl
  subst hsz
  have hR : 1 ≤ (rmm 1 23).frames ∧ 23 ≤ (rmm 1 23).locals ∧ 0 ≤ (rmm 1 23).cells ∧ 0 ≤ (rmm 1 23).slots := ⟨Nat.le_refl _, Nat.le_refl _, Nat.le_refl _, Nat.le_refl _⟩
  have hl : lv_has ls 5 [(0, .ref ht), (1, .int x1_), (2, .int x2_)] := hl
  have hx := C.1
  have hb := C.2.1
  have hml := C.2.2.1
  have hown := C.2.2.2.1
  have hts := C.2.2.2.2.1
  have hK : ∀ (H : Heap) (locs : List Loc) (pc : Nat) (ls : Array Slot), decode cX8_meetAll pc = .ok (.return_, 1) → St D (wX8_meetAll dA ht ht_ring ht_degree ht_voice ht_loud ht_sharp ht_hears ht_tooNear ht_ring_cells ht_ring_places ht_ring_facts t_ring_lands t_ring_things t_ring_placeCount t_ring_apart t_ring_thereFirst t_degree t_voice t_ring_cells t_hears t_loud t_sharp t_tooNear) s (wX8_meetAll dA ht ht_ring ht_degree ht_voice ht_loud ht_sharp ht_hears ht_tooNear ht_ring_cells ht_ring_places ht_ring_facts t_ring_lands t_ring_things t_ring_placeCount t_ring_apart t_ring_thereFirst t_degree t_voice t_ring_cells o.1 t_loud t_sharp o.2) H locs → W p l e (rmm 1 23) s m [.ref ht, .int x1_, .int x2_].toArray below meth c H locs 0 0 (MQ below (Qv D (wX8_meetAll dA ht ht_ring ht_degree ht_voice ht_loud ht_sharp ht_hears ht_tooNear ht_ring_cells ht_ring_places ht_ring_facts t_ring_lands t_ring_things t_ring_placeCount t_ring_apart t_ring_thereFirst t_degree t_voice t_ring_cells t_hears t_loud t_sharp t_tooNear) (wX8_meetAll dA ht ht_ring ht_degree ht_voice ht_loud ht_sharp ht_hears ht_tooNear ht_ring_cells ht_ring_places ht_ring_facts t_ring_lands t_ring_things t_ring_placeCount t_ring_apart t_ring_thereFirst t_degree t_voice t_ring_cells o.1 t_loud t_sharp o.2) s.heap.size) [.ref ht, .int x1_, .int x2_].toArray s 0 0 (va_A (wX8_meetAll dA ht ht_ring ht_degree ht_voice ht_loud ht_sharp ht_hears ht_tooNear ht_ring_cells ht_ring_places ht_ring_facts t_ring_lands t_ring_things t_ring_placeCount t_ring_apart t_ring_thereFirst t_degree t_voice t_ring_cells t_hears t_loud t_sharp t_tooNear) s.heap.size)) (F0 m pc ls []) := fun H locs pc ls hd hw => k_vret C hw hd
  unfold fX8_meetAll at hf
  refine lv_iconst (v := (0 : Int32)) hx hb dX8_meetAll_0 (by decide) ?_
  refine lv_istore_n (lv' := [(3, .int (0 : Int32)), (0, .ref ht), (1, .int x1_), (2, .int x2_)]) hx hb dX8_meetAll_1 rfl hl (by decide) rfl (fun ls hl => ?_)
  obtain ⟨q31, hq31, hf⟩ := bind_r hf
  refine tX8_meetAll_l2 C ht ht_ring ht_degree ht_voice ht_loud ht_sharp ht_hears ht_tooNear ht_ring_cells ht_ring_places ht_ring_facts hR t_ring_lands t_ring_things t_ring_placeCount t_ring_apart t_ring_thereFirst t_degree t_voice t_ring_cells t_hears t_loud t_sharp t_tooNear x1_ x2_ (0 : Int32) N _ _ hq31 ?_ (lv_sub hl [1, 2, 3, 0] rfl) hw
  intro H locs ls hl hw
  obtain rfl := some_r hf
  exact hK _ _ _ _ dX8_meetAll_141 hw

/-! RingPlaces$Standing.put(III)V -/
abbrev wX8_put (dA : Nat → ClassId) (ht ht_ring ht_degree ht_voice ht_loud ht_sharp ht_hears ht_tooNear ht_ring_cells ht_ring_places ht_ring_facts : Nat) (t_degree : (Nat → Int32)) (t_voice : (Nat → Int32)) (t_ring_lands : Int32) (t_ring_things : Int32) (t_ring_placeCount : Int32) (t_ring_apart : Int32) (t_ring_thereFirst : Int32) (t_ring_cells : (Nat → Int64)) (t_hears : (Nat → Int32)) (t_loud : (Nat → Int32)) (t_sharp : (Nat → Int32)) (t_tooNear : (Nat → Int32)) : va_W := [(ht, .inr (8, [.ref ht_ring, .ref ht_degree, .ref ht_voice, .ref ht_loud, .ref ht_sharp, .ref ht_hears, .ref ht_tooNear])), (ht_degree, .inl (dA 0, 16, .inl t_degree)), (ht_voice, .inl (dA 0, 16, .inl t_voice)), (ht_ring, .inr (5, [.ref ht_ring_cells, .ref ht_ring_places, .int t_ring_lands, .int t_ring_things, .int t_ring_placeCount, .int t_ring_apart, .int t_ring_thereFirst, .ref ht_ring_facts])), (ht_ring_cells, .inl (dA 1, 16, .inr (.inl t_ring_cells))), (ht_hears, .inl (dA 0, 16, .inl t_hears)), (ht_loud, .inl (dA 0, 16, .inl t_loud)), (ht_sharp, .inl (dA 0, 16, .inl t_sharp)), (ht_tooNear, .inl (dA 0, 16, .inl t_tooNear))]
def fX8_put (N : Nat) (t_degree : (Nat → Int32)) (t_voice : (Nat → Int32)) (t_ring_things : Int32) (t_ring_apart : Int32) (t_ring_cells : (Nat → Int64)) (t_hears : (Nat → Int32)) (t_loud : (Nat → Int32)) (t_sharp : (Nat → Int32)) (t_tooNear : (Nat → Int32)) (x1_ : Int32) (x2_ : Int32) (x3_ : Int32) : Option ((Nat → Int32) × (Nat → Int32) × (Nat → Int32) × (Nat → Int32)) := gdi x1_ 16 (bnd (upd t_degree x1_.toNatClampNeg x2_) fun y2 => gdi x1_ 16 (bnd (upd t_voice x1_.toNatClampNeg x3_) fun y4 => (fX8_meetAll N t_ring_things t_ring_apart y2 y4 t_ring_cells t_hears t_loud t_sharp t_tooNear x1_ (1 : Int32)).bind fun o5 => some (y2, y4, o5.1, o5.2)))
set_option maxHeartbeats 4000000 in
set_option maxRecDepth 100000 in
theorem qX8_put (l : Launch) (D : va_G) (dA : Nat → ClassId) (ht ht_ring ht_degree ht_voice ht_loud ht_sharp ht_hears ht_tooNear ht_ring_cells ht_ring_places ht_ring_facts : Nat) (t_degree : (Nat → Int32)) (t_voice : (Nat → Int32)) (t_ring_lands : Int32) (t_ring_things : Int32) (t_ring_placeCount : Int32) (t_ring_apart : Int32) (t_ring_thereFirst : Int32) (t_ring_cells : (Nat → Int64)) (t_hears : (Nat → Int32)) (t_loud : (Nat → Int32)) (t_sharp : (Nat → Int32)) (t_tooNear : (Nat → Int32)) (x1_ : Int32) (x2_ : Int32) (x3_ : Int32) (N : Nat) (o : (Nat → Int32) × (Nat → Int32) × (Nat → Int32) × (Nat → Int32)) (hf : fX8_put N t_degree t_voice t_ring_things t_ring_apart t_ring_cells t_hears t_loud t_sharp t_tooNear x1_ x2_ x3_ = some o) : Mv l D dA yX8_put (Cond.code yX8_put cX8_put 4 none :: wA) 2 47 [.ref ht, .int x1_, .int x2_, .int x3_] (wX8_put dA ht ht_ring ht_degree ht_voice ht_loud ht_sharp ht_hears ht_tooNear ht_ring_cells ht_ring_places ht_ring_facts t_degree t_voice t_ring_lands t_ring_things t_ring_placeCount t_ring_apart t_ring_thereFirst t_ring_cells t_hears t_loud t_sharp t_tooNear) (wX8_put dA ht ht_ring ht_degree ht_voice ht_loud ht_sharp ht_hears ht_tooNear ht_ring_cells ht_ring_places ht_ring_facts o.1 o.2.1 t_ring_lands t_ring_things t_ring_placeCount t_ring_apart t_ring_thereFirst t_ring_cells o.2.2.1 t_loud t_sharp o.2.2.2) := by
  intro sz
  refine M_of (cc := cX8_put) (nL := 4) (ret := none) (own := RX8) (by decide +kernel) rfl (Nat.le_of_ble_eq_true rfl) ?_
  intro p e s m below meth c ls hsz C hw hl
  subst hsz
  have hR : 2 ≤ (rmm 2 47).frames ∧ 47 ≤ (rmm 2 47).locals ∧ 0 ≤ (rmm 2 47).cells ∧ 0 ≤ (rmm 2 47).slots := ⟨Nat.le_refl _, Nat.le_refl _, Nat.le_refl _, Nat.le_refl _⟩
  have hl : lv_has ls 4 [(0, .ref ht), (1, .int x1_), (2, .int x2_), (3, .int x3_)] := hl
  have hx := C.1
  have hb := C.2.1
  have hml := C.2.2.1
  have hown := C.2.2.2.1
  have hts := C.2.2.2.2.1
  have hK : ∀ (H : Heap) (locs : List Loc) (pc : Nat) (ls : Array Slot), decode cX8_put pc = .ok (.return_, 1) → St D (wX8_put dA ht ht_ring ht_degree ht_voice ht_loud ht_sharp ht_hears ht_tooNear ht_ring_cells ht_ring_places ht_ring_facts t_degree t_voice t_ring_lands t_ring_things t_ring_placeCount t_ring_apart t_ring_thereFirst t_ring_cells t_hears t_loud t_sharp t_tooNear) s (wX8_put dA ht ht_ring ht_degree ht_voice ht_loud ht_sharp ht_hears ht_tooNear ht_ring_cells ht_ring_places ht_ring_facts o.1 o.2.1 t_ring_lands t_ring_things t_ring_placeCount t_ring_apart t_ring_thereFirst t_ring_cells o.2.2.1 t_loud t_sharp o.2.2.2) H locs → W p l e (rmm 2 47) s m [.ref ht, .int x1_, .int x2_, .int x3_].toArray below meth c H locs 0 0 (MQ below (Qv D (wX8_put dA ht ht_ring ht_degree ht_voice ht_loud ht_sharp ht_hears ht_tooNear ht_ring_cells ht_ring_places ht_ring_facts t_degree t_voice t_ring_lands t_ring_things t_ring_placeCount t_ring_apart t_ring_thereFirst t_ring_cells t_hears t_loud t_sharp t_tooNear) (wX8_put dA ht ht_ring ht_degree ht_voice ht_loud ht_sharp ht_hears ht_tooNear ht_ring_cells ht_ring_places ht_ring_facts o.1 o.2.1 t_ring_lands t_ring_things t_ring_placeCount t_ring_apart t_ring_thereFirst t_ring_cells o.2.2.1 t_loud t_sharp o.2.2.2) s.heap.size) [.ref ht, .int x1_, .int x2_, .int x3_].toArray s 0 0 (va_A (wX8_put dA ht ht_ring ht_degree ht_voice ht_loud ht_sharp ht_hears ht_tooNear ht_ring_cells ht_ring_places ht_ring_facts t_degree t_voice t_ring_lands t_ring_things t_ring_placeCount t_ring_apart t_ring_thereFirst t_ring_cells t_hears t_loud t_sharp t_tooNear) s.heap.size)) (F0 m pc ls []) := fun H locs pc ls hd hw => k_vret C hw hd
  unfold fX8_put at hf
  refine lv_aload_n hx hb dX8_put_0 rfl (lv_at hl 0 rfl) ?_
  refine k_get C hw 0 rfl rfl wiX8 1 (by decide) wfX8_9 rfl dX8_put_1 ?_
  refine lv_iload_n hx hb dX8_put_4 rfl (lv_at hl 1 rfl) ?_
  refine lv_iload_n hx hb dX8_put_5 rfl (lv_at hl 2 rfl) ?_
  obtain ⟨g1, hf⟩ := gdi_r hf
  obtain ⟨y2, ey2⟩ : ∃ z : Nat → Int32, z = upd t_degree x1_.toNatClampNeg x2_ := ⟨_, rfl⟩
  have hf := bnd_r ey2 hf
  refine k_iast C hw 1 rfl g1 dX8_put_6 y2 ey2 (wX8_put dA ht ht_ring ht_degree ht_voice ht_loud ht_sharp ht_hears ht_tooNear ht_ring_cells ht_ring_places ht_ring_facts y2 t_voice t_ring_lands t_ring_things t_ring_placeCount t_ring_apart t_ring_thereFirst t_ring_cells t_hears t_loud t_sharp t_tooNear) rfl (fun H locs hw => ?_)
  refine lv_aload_n hx hb dX8_put_7 rfl (lv_at hl 0 rfl) ?_
  refine k_get C hw 0 rfl rfl wiX8 2 (by decide) wfX8_15 rfl dX8_put_8 ?_
  refine lv_iload_n hx hb dX8_put_11 rfl (lv_at hl 1 rfl) ?_
  refine lv_iload_n hx hb dX8_put_12 rfl (lv_at hl 3 rfl) ?_
  obtain ⟨g3, hf⟩ := gdi_r hf
  obtain ⟨y4, ey4⟩ : ∃ z : Nat → Int32, z = upd t_voice x1_.toNatClampNeg x3_ := ⟨_, rfl⟩
  have hf := bnd_r ey4 hf
  refine k_iast C hw 2 rfl g3 dX8_put_13 y4 ey4 (wX8_put dA ht ht_ring ht_degree ht_voice ht_loud ht_sharp ht_hears ht_tooNear ht_ring_cells ht_ring_places ht_ring_facts y2 y4 t_ring_lands t_ring_things t_ring_placeCount t_ring_apart t_ring_thereFirst t_ring_cells t_hears t_loud t_sharp t_tooNear) rfl (fun H locs hw => ?_)
  refine lv_aload_n hx hb dX8_put_14 rfl (lv_at hl 0 rfl) ?_
  refine lv_iload_n hx hb dX8_put_15 rfl (lv_at hl 1 rfl) ?_
  refine lv_iconst (v := (1 : Int32)) hx hb dX8_put_16 (by decide) ?_
  obtain ⟨o5, ho5, hf⟩ := bind_r hf
  refine k_callVv C hw (n := 2) (As := [.int x1_, .int (1 : Int32)]) (w1 := (wX8_put dA ht ht_ring ht_degree ht_voice ht_loud ht_sharp ht_hears ht_tooNear ht_ring_cells ht_ring_places ht_ring_facts y2 y4 t_ring_lands t_ring_things t_ring_placeCount t_ring_apart t_ring_thereFirst t_ring_cells o5.1 t_loud t_sharp o5.2)) (wr := []) [0, 3, 1, 2, 4, 5, 6, 7, 8] [] [0, 2, 3, 1, 4, 5, 6, 7, 8] rfl rfl (by decide) (by decide) (by decide) rfl (by decide) (qX8_meetAll l D dA ht ht_ring ht_degree ht_voice ht_loud ht_sharp ht_hears ht_tooNear ht_ring_cells ht_ring_places ht_ring_facts t_ring_lands t_ring_things t_ring_placeCount t_ring_apart t_ring_thereFirst y2 y4 t_ring_cells t_hears t_loud t_sharp t_tooNear x1_ (1 : Int32) N _ ho5) wlX8_57 wmX8_meetAll wvX8_meetAll wnX8 wcX8_meetAll rfl (by decide +kernel) ⟨Nat.le_trans (by decide) hR.1, Nat.le_trans (by decide) hR.2.1⟩ hR.2.2 rfl 0 rfl rfl hl.1 (Nat.le_of_ble_eq_true rfl) dX8_put_17 rfl (fun H locs hw => ?_)
  obtain rfl := some_r hf
  exact hK _ _ _ _ dX8_put_20 hw

/-! RingPlaces$Standing.take(I)V -/
abbrev wX8_take (dA : Nat → ClassId) (ht ht_ring ht_degree ht_voice ht_loud ht_sharp ht_hears ht_tooNear ht_ring_cells ht_ring_places ht_ring_facts : Nat) (t_ring_lands : Int32) (t_ring_things : Int32) (t_ring_placeCount : Int32) (t_ring_apart : Int32) (t_ring_thereFirst : Int32) (t_degree : (Nat → Int32)) (t_voice : (Nat → Int32)) (t_ring_cells : (Nat → Int64)) (t_hears : (Nat → Int32)) (t_loud : (Nat → Int32)) (t_sharp : (Nat → Int32)) (t_tooNear : (Nat → Int32)) : va_W := [(ht, .inr (8, [.ref ht_ring, .ref ht_degree, .ref ht_voice, .ref ht_loud, .ref ht_sharp, .ref ht_hears, .ref ht_tooNear])), (ht_ring, .inr (5, [.ref ht_ring_cells, .ref ht_ring_places, .int t_ring_lands, .int t_ring_things, .int t_ring_placeCount, .int t_ring_apart, .int t_ring_thereFirst, .ref ht_ring_facts])), (ht_degree, .inl (dA 0, 16, .inl t_degree)), (ht_voice, .inl (dA 0, 16, .inl t_voice)), (ht_ring_cells, .inl (dA 1, 16, .inr (.inl t_ring_cells))), (ht_hears, .inl (dA 0, 16, .inl t_hears)), (ht_loud, .inl (dA 0, 16, .inl t_loud)), (ht_sharp, .inl (dA 0, 16, .inl t_sharp)), (ht_tooNear, .inl (dA 0, 16, .inl t_tooNear))]
def fX8_take (N : Nat) (t_ring_things : Int32) (t_ring_apart : Int32) (t_degree : (Nat → Int32)) (t_voice : (Nat → Int32)) (t_ring_cells : (Nat → Int64)) (t_hears : (Nat → Int32)) (t_loud : (Nat → Int32)) (t_sharp : (Nat → Int32)) (t_tooNear : (Nat → Int32)) (x1_ : Int32) : Option ((Nat → Int32) × (Nat → Int32) × (Nat → Int32) × (Nat → Int32)) := (fX8_meetAll N t_ring_things t_ring_apart t_degree t_voice t_ring_cells t_hears t_loud t_sharp t_tooNear x1_ (-1 : Int32)).bind fun o1 => gdi x1_ 16 (bnd (upd t_degree x1_.toNatClampNeg (-1 : Int32)) fun y3 => gdi x1_ 16 (bnd (upd t_voice x1_.toNatClampNeg (-1 : Int32)) fun y5 => some (y3, y5, o1.1, o1.2)))
set_option maxHeartbeats 4000000 in
set_option maxRecDepth 100000 in
theorem qX8_take (l : Launch) (D : va_G) (dA : Nat → ClassId) (ht ht_ring ht_degree ht_voice ht_loud ht_sharp ht_hears ht_tooNear ht_ring_cells ht_ring_places ht_ring_facts : Nat) (t_ring_lands : Int32) (t_ring_things : Int32) (t_ring_placeCount : Int32) (t_ring_apart : Int32) (t_ring_thereFirst : Int32) (t_degree : (Nat → Int32)) (t_voice : (Nat → Int32)) (t_ring_cells : (Nat → Int64)) (t_hears : (Nat → Int32)) (t_loud : (Nat → Int32)) (t_sharp : (Nat → Int32)) (t_tooNear : (Nat → Int32)) (x1_ : Int32) (N : Nat) (o : (Nat → Int32) × (Nat → Int32) × (Nat → Int32) × (Nat → Int32)) (hf : fX8_take N t_ring_things t_ring_apart t_degree t_voice t_ring_cells t_hears t_loud t_sharp t_tooNear x1_ = some o) : Mv l D dA yX8_take (Cond.code yX8_take cX8_take 2 none :: wA) 2 47 [.ref ht, .int x1_] (wX8_take dA ht ht_ring ht_degree ht_voice ht_loud ht_sharp ht_hears ht_tooNear ht_ring_cells ht_ring_places ht_ring_facts t_ring_lands t_ring_things t_ring_placeCount t_ring_apart t_ring_thereFirst t_degree t_voice t_ring_cells t_hears t_loud t_sharp t_tooNear) (wX8_take dA ht ht_ring ht_degree ht_voice ht_loud ht_sharp ht_hears ht_tooNear ht_ring_cells ht_ring_places ht_ring_facts t_ring_lands t_ring_things t_ring_placeCount t_ring_apart t_ring_thereFirst o.1 o.2.1 t_ring_cells o.2.2.1 t_loud t_sharp o.2.2.2) := by
  intro sz
  refine M_of (cc := cX8_take) (nL := 2) (ret := none) (own := RX8) (by decide +kernel) rfl (Nat.le_of_ble_eq_true rfl) ?_
  intro p e s m below meth c ls hsz C hw hl
  subst hsz
  have hR : 2 ≤ (rmm 2 47).frames ∧ 47 ≤ (rmm 2 47).locals ∧ 0 ≤ (rmm 2 47).cells ∧ 0 ≤ (rmm 2 47).slots := ⟨Nat.le_refl _, Nat.le_refl _, Nat.le_refl _, Nat.le_refl _⟩
  have hl : lv_has ls 2 [(0, .ref ht), (1, .int x1_)] := hl
  have hx := C.1
  have hb := C.2.1
  have hml := C.2.2.1
  have hown := C.2.2.2.1
  have hts := C.2.2.2.2.1
  have hK : ∀ (H : Heap) (locs : List Loc) (pc : Nat) (ls : Array Slot), decode cX8_take pc = .ok (.return_, 1) → St D (wX8_take dA ht ht_ring ht_degree ht_voice ht_loud ht_sharp ht_hears ht_tooNear ht_ring_cells ht_ring_places ht_ring_facts t_ring_lands t_ring_things t_ring_placeCount t_ring_apart t_ring_thereFirst t_degree t_voice t_ring_cells t_hears t_loud t_sharp t_tooNear) s (wX8_take dA ht ht_ring ht_degree ht_voice ht_loud ht_sharp ht_hears ht_tooNear ht_ring_cells ht_ring_places ht_ring_facts t_ring_lands t_ring_things t_ring_placeCount t_ring_apart t_ring_thereFirst o.1 o.2.1 t_ring_cells o.2.2.1 t_loud t_sharp o.2.2.2) H locs → W p l e (rmm 2 47) s m [.ref ht, .int x1_].toArray below meth c H locs 0 0 (MQ below (Qv D (wX8_take dA ht ht_ring ht_degree ht_voice ht_loud ht_sharp ht_hears ht_tooNear ht_ring_cells ht_ring_places ht_ring_facts t_ring_lands t_ring_things t_ring_placeCount t_ring_apart t_ring_thereFirst t_degree t_voice t_ring_cells t_hears t_loud t_sharp t_tooNear) (wX8_take dA ht ht_ring ht_degree ht_voice ht_loud ht_sharp ht_hears ht_tooNear ht_ring_cells ht_ring_places ht_ring_facts t_ring_lands t_ring_things t_ring_placeCount t_ring_apart t_ring_thereFirst o.1 o.2.1 t_ring_cells o.2.2.1 t_loud t_sharp o.2.2.2) s.heap.size) [.ref ht, .int x1_].toArray s 0 0 (va_A (wX8_take dA ht ht_ring ht_degree ht_voice ht_loud ht_sharp ht_hears ht_tooNear ht_ring_cells ht_ring_places ht_ring_facts t_ring_lands t_ring_things t_ring_placeCount t_ring_apart t_ring_thereFirst t_degree t_voice t_ring_cells t_hears t_loud t_sharp t_tooNear) s.heap.size)) (F0 m pc ls []) := fun H locs pc ls hd hw => k_vret C hw hd
  unfold fX8_take at hf
  refine lv_aload_n hx hb dX8_take_0 rfl (lv_at hl 0 rfl) ?_
  refine lv_iload_n hx hb dX8_take_1 rfl (lv_at hl 1 rfl) ?_
  refine lv_iconst (v := (-1 : Int32)) hx hb dX8_take_2 (by decide) ?_
  obtain ⟨o1, ho1, hf⟩ := bind_r hf
  refine k_callVv C hw (n := 2) (As := [.int x1_, .int (-1 : Int32)]) (w1 := (wX8_take dA ht ht_ring ht_degree ht_voice ht_loud ht_sharp ht_hears ht_tooNear ht_ring_cells ht_ring_places ht_ring_facts t_ring_lands t_ring_things t_ring_placeCount t_ring_apart t_ring_thereFirst t_degree t_voice t_ring_cells o1.1 t_loud t_sharp o1.2)) (wr := []) [0, 1, 2, 3, 4, 5, 6, 7, 8] [] [0, 1, 2, 3, 4, 5, 6, 7, 8] rfl rfl (by decide) (by decide) (by decide) rfl (by decide) (qX8_meetAll l D dA ht ht_ring ht_degree ht_voice ht_loud ht_sharp ht_hears ht_tooNear ht_ring_cells ht_ring_places ht_ring_facts t_ring_lands t_ring_things t_ring_placeCount t_ring_apart t_ring_thereFirst t_degree t_voice t_ring_cells t_hears t_loud t_sharp t_tooNear x1_ (-1 : Int32) N _ ho1) wlX8_57 wmX8_meetAll wvX8_meetAll wnX8 wcX8_meetAll rfl (by decide +kernel) ⟨Nat.le_trans (by decide) hR.1, Nat.le_trans (by decide) hR.2.1⟩ hR.2.2 rfl 0 rfl rfl hl.1 (Nat.le_of_ble_eq_true rfl) dX8_take_3 rfl (fun H locs hw => ?_)
  refine lv_aload_n hx hb dX8_take_6 rfl (lv_at hl 0 rfl) ?_
  refine k_get C hw 0 rfl rfl wiX8 1 (by decide) wfX8_9 rfl dX8_take_7 ?_
  refine lv_iload_n hx hb dX8_take_10 rfl (lv_at hl 1 rfl) ?_
  refine lv_iconst (v := (-1 : Int32)) hx hb dX8_take_11 (by decide) ?_
  obtain ⟨g2, hf⟩ := gdi_r hf
  obtain ⟨y3, ey3⟩ : ∃ z : Nat → Int32, z = upd t_degree x1_.toNatClampNeg (-1 : Int32) := ⟨_, rfl⟩
  have hf := bnd_r ey3 hf
  refine k_iast C hw 2 rfl g2 dX8_take_12 y3 ey3 (wX8_take dA ht ht_ring ht_degree ht_voice ht_loud ht_sharp ht_hears ht_tooNear ht_ring_cells ht_ring_places ht_ring_facts t_ring_lands t_ring_things t_ring_placeCount t_ring_apart t_ring_thereFirst y3 t_voice t_ring_cells o1.1 t_loud t_sharp o1.2) rfl (fun H locs hw => ?_)
  refine lv_aload_n hx hb dX8_take_13 rfl (lv_at hl 0 rfl) ?_
  refine k_get C hw 0 rfl rfl wiX8 2 (by decide) wfX8_15 rfl dX8_take_14 ?_
  refine lv_iload_n hx hb dX8_take_17 rfl (lv_at hl 1 rfl) ?_
  refine lv_iconst (v := (-1 : Int32)) hx hb dX8_take_18 (by decide) ?_
  obtain ⟨g4, hf⟩ := gdi_r hf
  obtain ⟨y5, ey5⟩ : ∃ z : Nat → Int32, z = upd t_voice x1_.toNatClampNeg (-1 : Int32) := ⟨_, rfl⟩
  have hf := bnd_r ey5 hf
  refine k_iast C hw 3 rfl g4 dX8_take_19 y5 ey5 (wX8_take dA ht ht_ring ht_degree ht_voice ht_loud ht_sharp ht_hears ht_tooNear ht_ring_cells ht_ring_places ht_ring_facts t_ring_lands t_ring_things t_ring_placeCount t_ring_apart t_ring_thereFirst y3 y5 t_ring_cells o1.1 t_loud t_sharp o1.2) rfl (fun H locs hw => ?_)
  obtain rfl := some_r hf
  exact hK _ _ _ _ dX8_take_20 hw

/-! RingPlaces$Standing.swapDegrees(II)V -/
abbrev wX8_swapDegrees (dA : Nat → ClassId) (ht ht_ring ht_degree ht_voice ht_loud ht_sharp ht_hears ht_tooNear ht_ring_cells ht_ring_places ht_ring_facts : Nat) (t_degree : (Nat → Int32)) (t_voice : (Nat → Int32)) (t_ring_lands : Int32) (t_ring_things : Int32) (t_ring_placeCount : Int32) (t_ring_apart : Int32) (t_ring_thereFirst : Int32) (t_ring_cells : (Nat → Int64)) (t_hears : (Nat → Int32)) (t_loud : (Nat → Int32)) (t_sharp : (Nat → Int32)) (t_tooNear : (Nat → Int32)) : va_W := [(ht, .inr (8, [.ref ht_ring, .ref ht_degree, .ref ht_voice, .ref ht_loud, .ref ht_sharp, .ref ht_hears, .ref ht_tooNear])), (ht_degree, .inl (dA 0, 16, .inl t_degree)), (ht_voice, .inl (dA 0, 16, .inl t_voice)), (ht_ring, .inr (5, [.ref ht_ring_cells, .ref ht_ring_places, .int t_ring_lands, .int t_ring_things, .int t_ring_placeCount, .int t_ring_apart, .int t_ring_thereFirst, .ref ht_ring_facts])), (ht_ring_cells, .inl (dA 1, 16, .inr (.inl t_ring_cells))), (ht_hears, .inl (dA 0, 16, .inl t_hears)), (ht_loud, .inl (dA 0, 16, .inl t_loud)), (ht_sharp, .inl (dA 0, 16, .inl t_sharp)), (ht_tooNear, .inl (dA 0, 16, .inl t_tooNear))]
def fX8_swapDegrees (N : Nat) (t_degree : (Nat → Int32)) (t_voice : (Nat → Int32)) (t_ring_things : Int32) (t_ring_apart : Int32) (t_ring_cells : (Nat → Int64)) (t_hears : (Nat → Int32)) (t_loud : (Nat → Int32)) (t_sharp : (Nat → Int32)) (t_tooNear : (Nat → Int32)) (x1_ : Int32) (x2_ : Int32) : Option ((Nat → Int32) × (Nat → Int32) × (Nat → Int32) × (Nat → Int32)) := gdi x1_ 16 (bnd (t_degree x1_.toNatClampNeg) fun x2 => gdi x1_ 16 (bnd (t_voice x1_.toNatClampNeg) fun x4 => gdi x2_ 16 (bnd (t_degree x2_.toNatClampNeg) fun x6 => gdi x2_ 16 (bnd (t_voice x2_.toNatClampNeg) fun x8 => (fX8_take N t_ring_things t_ring_apart t_degree t_voice t_ring_cells t_hears t_loud t_sharp t_tooNear x1_).bind fun o9 => (fX8_take N t_ring_things t_ring_apart o9.1 o9.2.1 t_ring_cells o9.2.2.1 t_loud t_sharp o9.2.2.2 x2_).bind fun o10 => (fX8_put N o10.1 o10.2.1 t_ring_things t_ring_apart t_ring_cells o10.2.2.1 t_loud t_sharp o10.2.2.2 x1_ x6 x4).bind fun o11 => (fX8_put N o11.1 o11.2.1 t_ring_things t_ring_apart t_ring_cells o11.2.2.1 t_loud t_sharp o11.2.2.2 x2_ x2 x8).bind fun o12 => some (o12.1, o12.2.1, o12.2.2.1, o12.2.2.2)))))
set_option maxHeartbeats 4000000 in
set_option maxRecDepth 100000 in
theorem qX8_swapDegrees (l : Launch) (D : va_G) (dA : Nat → ClassId) (ht ht_ring ht_degree ht_voice ht_loud ht_sharp ht_hears ht_tooNear ht_ring_cells ht_ring_places ht_ring_facts : Nat) (t_degree : (Nat → Int32)) (t_voice : (Nat → Int32)) (t_ring_lands : Int32) (t_ring_things : Int32) (t_ring_placeCount : Int32) (t_ring_apart : Int32) (t_ring_thereFirst : Int32) (t_ring_cells : (Nat → Int64)) (t_hears : (Nat → Int32)) (t_loud : (Nat → Int32)) (t_sharp : (Nat → Int32)) (t_tooNear : (Nat → Int32)) (x1_ : Int32) (x2_ : Int32) (N : Nat) (o : (Nat → Int32) × (Nat → Int32) × (Nat → Int32) × (Nat → Int32)) (hf : fX8_swapDegrees N t_degree t_voice t_ring_things t_ring_apart t_ring_cells t_hears t_loud t_sharp t_tooNear x1_ x2_ = some o) : Mv l D dA yX8_swapDegrees (Cond.code yX8_swapDegrees cX8_swapDegrees 7 none :: wA) 3 70 [.ref ht, .int x1_, .int x2_] (wX8_swapDegrees dA ht ht_ring ht_degree ht_voice ht_loud ht_sharp ht_hears ht_tooNear ht_ring_cells ht_ring_places ht_ring_facts t_degree t_voice t_ring_lands t_ring_things t_ring_placeCount t_ring_apart t_ring_thereFirst t_ring_cells t_hears t_loud t_sharp t_tooNear) (wX8_swapDegrees dA ht ht_ring ht_degree ht_voice ht_loud ht_sharp ht_hears ht_tooNear ht_ring_cells ht_ring_places ht_ring_facts o.1 o.2.1 t_ring_lands t_ring_things t_ring_placeCount t_ring_apart t_ring_thereFirst t_ring_cells o.2.2.1 t_loud t_sharp o.2.2.2) := by
  intro sz
  refine M_of (cc := cX8_swapDegrees) (nL := 7) (ret := none) (own := RX8) (by decide +kernel) rfl (Nat.le_of_ble_eq_true rfl) ?_
  intro p e s m below meth c ls hsz C hw hl
  subst hsz
  have hR : 3 ≤ (rmm 3 70).frames ∧ 70 ≤ (rmm 3 70).locals ∧ 0 ≤ (rmm 3 70).cells ∧ 0 ≤ (rmm 3 70).slots := ⟨Nat.le_refl _, Nat.le_refl _, Nat.le_refl _, Nat.le_refl _⟩
  have hl : lv_has ls 7 [(0, .ref ht), (1, .int x1_), (2, .int x2_)] := hl
  have hx := C.1
  have hb := C.2.1
  have hml := C.2.2.1
  have hown := C.2.2.2.1
  have hts := C.2.2.2.2.1
  have hK : ∀ (H : Heap) (locs : List Loc) (pc : Nat) (ls : Array Slot), decode cX8_swapDegrees pc = .ok (.return_, 1) → St D (wX8_swapDegrees dA ht ht_ring ht_degree ht_voice ht_loud ht_sharp ht_hears ht_tooNear ht_ring_cells ht_ring_places ht_ring_facts t_degree t_voice t_ring_lands t_ring_things t_ring_placeCount t_ring_apart t_ring_thereFirst t_ring_cells t_hears t_loud t_sharp t_tooNear) s (wX8_swapDegrees dA ht ht_ring ht_degree ht_voice ht_loud ht_sharp ht_hears ht_tooNear ht_ring_cells ht_ring_places ht_ring_facts o.1 o.2.1 t_ring_lands t_ring_things t_ring_placeCount t_ring_apart t_ring_thereFirst t_ring_cells o.2.2.1 t_loud t_sharp o.2.2.2) H locs → W p l e (rmm 3 70) s m [.ref ht, .int x1_, .int x2_].toArray below meth c H locs 0 0 (MQ below (Qv D (wX8_swapDegrees dA ht ht_ring ht_degree ht_voice ht_loud ht_sharp ht_hears ht_tooNear ht_ring_cells ht_ring_places ht_ring_facts t_degree t_voice t_ring_lands t_ring_things t_ring_placeCount t_ring_apart t_ring_thereFirst t_ring_cells t_hears t_loud t_sharp t_tooNear) (wX8_swapDegrees dA ht ht_ring ht_degree ht_voice ht_loud ht_sharp ht_hears ht_tooNear ht_ring_cells ht_ring_places ht_ring_facts o.1 o.2.1 t_ring_lands t_ring_things t_ring_placeCount t_ring_apart t_ring_thereFirst t_ring_cells o.2.2.1 t_loud t_sharp o.2.2.2) s.heap.size) [.ref ht, .int x1_, .int x2_].toArray s 0 0 (va_A (wX8_swapDegrees dA ht ht_ring ht_degree ht_voice ht_loud ht_sharp ht_hears ht_tooNear ht_ring_cells ht_ring_places ht_ring_facts t_degree t_voice t_ring_lands t_ring_things t_ring_placeCount t_ring_apart t_ring_thereFirst t_ring_cells t_hears t_loud t_sharp t_tooNear) s.heap.size)) (F0 m pc ls []) := fun H locs pc ls hd hw => k_vret C hw hd
  unfold fX8_swapDegrees at hf
  refine lv_aload_n hx hb dX8_swapDegrees_0 rfl (lv_at hl 0 rfl) ?_
  refine k_get C hw 0 rfl rfl wiX8 1 (by decide) wfX8_9 rfl dX8_swapDegrees_1 ?_
  refine lv_iload_n hx hb dX8_swapDegrees_4 rfl (lv_at hl 1 rfl) ?_
  obtain ⟨g1, hf⟩ := gdi_r hf
  refine k_iald C hw 1 rfl g1 dX8_swapDegrees_5 ?_
  refine lv_topi (fun x2 ex2 => ?_)
  have hf := bnd_r ex2 hf
  refine lv_istore_n (lv' := [(3, .int x2), (0, .ref ht), (1, .int x1_), (2, .int x2_)]) hx hb dX8_swapDegrees_6 rfl hl (by decide) rfl (fun ls hl => ?_)
  refine lv_aload_n hx hb dX8_swapDegrees_7 rfl (lv_at hl 1 rfl) ?_
  refine k_get C hw 0 rfl rfl wiX8 2 (by decide) wfX8_15 rfl dX8_swapDegrees_8 ?_
  refine lv_iload_n hx hb dX8_swapDegrees_11 rfl (lv_at hl 2 rfl) ?_
  obtain ⟨g3, hf⟩ := gdi_r hf
  refine k_iald C hw 2 rfl g3 dX8_swapDegrees_12 ?_
  refine lv_topi (fun x4 ex4 => ?_)
  have hf := bnd_r ex4 hf
  refine lv_istore (lv' := [(4, .int x4), (3, .int x2), (0, .ref ht), (1, .int x1_), (2, .int x2_)]) hx hb dX8_swapDegrees_13 hl (by decide) rfl (fun ls hl => ?_)
  refine lv_aload_n hx hb dX8_swapDegrees_15 rfl (lv_at hl 2 rfl) ?_
  refine k_get C hw 0 rfl rfl wiX8 1 (by decide) wfX8_9 rfl dX8_swapDegrees_16 ?_
  refine lv_iload_n hx hb dX8_swapDegrees_19 rfl (lv_at hl 4 rfl) ?_
  obtain ⟨g5, hf⟩ := gdi_r hf
  refine k_iald C hw 1 rfl g5 dX8_swapDegrees_20 ?_
  refine lv_topi (fun x6 ex6 => ?_)
  have hf := bnd_r ex6 hf
  refine lv_istore (lv' := [(5, .int x6), (4, .int x4), (3, .int x2), (0, .ref ht), (1, .int x1_), (2, .int x2_)]) hx hb dX8_swapDegrees_21 hl (by decide) rfl (fun ls hl => ?_)
  refine lv_aload_n hx hb dX8_swapDegrees_23 rfl (lv_at hl 3 rfl) ?_
  refine k_get C hw 0 rfl rfl wiX8 2 (by decide) wfX8_15 rfl dX8_swapDegrees_24 ?_
  refine lv_iload_n hx hb dX8_swapDegrees_27 rfl (lv_at hl 5 rfl) ?_
  obtain ⟨g7, hf⟩ := gdi_r hf
  refine k_iald C hw 2 rfl g7 dX8_swapDegrees_28 ?_
  refine lv_topi (fun x8 ex8 => ?_)
  have hf := bnd_r ex8 hf
  refine lv_istore (lv' := [(6, .int x8), (5, .int x6), (4, .int x4), (3, .int x2), (0, .ref ht), (1, .int x1_), (2, .int x2_)]) hx hb dX8_swapDegrees_29 hl (by decide) rfl (fun ls hl => ?_)
  refine lv_aload_n hx hb dX8_swapDegrees_31 rfl (lv_at hl 4 rfl) ?_
  refine lv_iload_n hx hb dX8_swapDegrees_32 rfl (lv_at hl 5 rfl) ?_
  obtain ⟨o9, ho9, hf⟩ := bind_r hf
  refine k_callVv C hw (n := 1) (As := [.int x1_]) (w1 := (wX8_swapDegrees dA ht ht_ring ht_degree ht_voice ht_loud ht_sharp ht_hears ht_tooNear ht_ring_cells ht_ring_places ht_ring_facts o9.1 o9.2.1 t_ring_lands t_ring_things t_ring_placeCount t_ring_apart t_ring_thereFirst t_ring_cells o9.2.2.1 t_loud t_sharp o9.2.2.2)) (wr := []) [0, 3, 1, 2, 4, 5, 6, 7, 8] [] [0, 2, 3, 1, 4, 5, 6, 7, 8] rfl rfl (by decide) (by decide) (by decide) rfl (by decide) (qX8_take l D dA ht ht_ring ht_degree ht_voice ht_loud ht_sharp ht_hears ht_tooNear ht_ring_cells ht_ring_places ht_ring_facts t_ring_lands t_ring_things t_ring_placeCount t_ring_apart t_ring_thereFirst t_degree t_voice t_ring_cells t_hears t_loud t_sharp t_tooNear x1_ N _ ho9) wlX8_61 wmX8_take wvX8_take wnX8 wcX8_take rfl (by decide +kernel) ⟨Nat.le_trans (by decide) hR.1, Nat.le_trans (by decide) hR.2.1⟩ hR.2.2 rfl 0 rfl rfl hl.1 (Nat.le_of_ble_eq_true rfl) dX8_swapDegrees_33 rfl (fun H locs hw => ?_)
  refine lv_aload_n hx hb dX8_swapDegrees_36 rfl (lv_at hl 4 rfl) ?_
  refine lv_iload_n hx hb dX8_swapDegrees_37 rfl (lv_at hl 6 rfl) ?_
  obtain ⟨o10, ho10, hf⟩ := bind_r hf
  refine k_callVv C hw (n := 1) (As := [.int x2_]) (w1 := (wX8_swapDegrees dA ht ht_ring ht_degree ht_voice ht_loud ht_sharp ht_hears ht_tooNear ht_ring_cells ht_ring_places ht_ring_facts o10.1 o10.2.1 t_ring_lands t_ring_things t_ring_placeCount t_ring_apart t_ring_thereFirst t_ring_cells o10.2.2.1 t_loud t_sharp o10.2.2.2)) (wr := []) [0, 3, 1, 2, 4, 5, 6, 7, 8] [] [0, 2, 3, 1, 4, 5, 6, 7, 8] rfl rfl (by decide) (by decide) (by decide) rfl (by decide) (qX8_take l D dA ht ht_ring ht_degree ht_voice ht_loud ht_sharp ht_hears ht_tooNear ht_ring_cells ht_ring_places ht_ring_facts t_ring_lands t_ring_things t_ring_placeCount t_ring_apart t_ring_thereFirst o9.1 o9.2.1 t_ring_cells o9.2.2.1 t_loud t_sharp o9.2.2.2 x2_ N _ ho10) wlX8_61 wmX8_take wvX8_take wnX8 wcX8_take rfl (by decide +kernel) ⟨Nat.le_trans (by decide) hR.1, Nat.le_trans (by decide) hR.2.1⟩ hR.2.2 rfl 0 rfl rfl hl.1 (Nat.le_of_ble_eq_true rfl) dX8_swapDegrees_38 rfl (fun H locs hw => ?_)
  refine lv_aload_n hx hb dX8_swapDegrees_41 rfl (lv_at hl 4 rfl) ?_
  refine lv_iload_n hx hb dX8_swapDegrees_42 rfl (lv_at hl 5 rfl) ?_
  refine lv_iload hx hb dX8_swapDegrees_43 (lv_at hl 1 rfl) ?_
  refine lv_iload hx hb dX8_swapDegrees_45 (lv_at hl 2 rfl) ?_
  obtain ⟨o11, ho11, hf⟩ := bind_r hf
  refine k_callVv C hw (n := 3) (As := [.int x1_, .int x6, .int x4]) (w1 := (wX8_swapDegrees dA ht ht_ring ht_degree ht_voice ht_loud ht_sharp ht_hears ht_tooNear ht_ring_cells ht_ring_places ht_ring_facts o11.1 o11.2.1 t_ring_lands t_ring_things t_ring_placeCount t_ring_apart t_ring_thereFirst t_ring_cells o11.2.2.1 t_loud t_sharp o11.2.2.2)) (wr := []) [0, 1, 2, 3, 4, 5, 6, 7, 8] [] [0, 1, 2, 3, 4, 5, 6, 7, 8] rfl rfl (by decide) (by decide) (by decide) rfl (by decide) (qX8_put l D dA ht ht_ring ht_degree ht_voice ht_loud ht_sharp ht_hears ht_tooNear ht_ring_cells ht_ring_places ht_ring_facts o10.1 o10.2.1 t_ring_lands t_ring_things t_ring_placeCount t_ring_apart t_ring_thereFirst t_ring_cells o10.2.2.1 t_loud t_sharp o10.2.2.2 x1_ x6 x4 N _ ho11) wlX8_65 wmX8_put wvX8_put wnX8 wcX8_put rfl (by decide +kernel) ⟨Nat.le_trans (by decide) hR.1, Nat.le_trans (by decide) hR.2.1⟩ hR.2.2 rfl 0 rfl rfl hl.1 (Nat.le_of_ble_eq_true rfl) dX8_swapDegrees_47 rfl (fun H locs hw => ?_)
  refine lv_aload_n hx hb dX8_swapDegrees_50 rfl (lv_at hl 4 rfl) ?_
  refine lv_iload_n hx hb dX8_swapDegrees_51 rfl (lv_at hl 6 rfl) ?_
  refine lv_iload_n hx hb dX8_swapDegrees_52 rfl (lv_at hl 3 rfl) ?_
  refine lv_iload hx hb dX8_swapDegrees_53 (lv_at hl 0 rfl) ?_
  obtain ⟨o12, ho12, hf⟩ := bind_r hf
  refine k_callVv C hw (n := 3) (As := [.int x2_, .int x2, .int x8]) (w1 := (wX8_swapDegrees dA ht ht_ring ht_degree ht_voice ht_loud ht_sharp ht_hears ht_tooNear ht_ring_cells ht_ring_places ht_ring_facts o12.1 o12.2.1 t_ring_lands t_ring_things t_ring_placeCount t_ring_apart t_ring_thereFirst t_ring_cells o12.2.2.1 t_loud t_sharp o12.2.2.2)) (wr := []) [0, 1, 2, 3, 4, 5, 6, 7, 8] [] [0, 1, 2, 3, 4, 5, 6, 7, 8] rfl rfl (by decide) (by decide) (by decide) rfl (by decide) (qX8_put l D dA ht ht_ring ht_degree ht_voice ht_loud ht_sharp ht_hears ht_tooNear ht_ring_cells ht_ring_places ht_ring_facts o11.1 o11.2.1 t_ring_lands t_ring_things t_ring_placeCount t_ring_apart t_ring_thereFirst t_ring_cells o11.2.2.1 t_loud t_sharp o11.2.2.2 x2_ x2 x8 N _ ho12) wlX8_65 wmX8_put wvX8_put wnX8 wcX8_put rfl (by decide +kernel) ⟨Nat.le_trans (by decide) hR.1, Nat.le_trans (by decide) hR.2.1⟩ hR.2.2 rfl 0 rfl rfl hl.1 (Nat.le_of_ble_eq_true rfl) dX8_swapDegrees_55 rfl (fun H locs hw => ?_)
  obtain rfl := some_r hf
  exact hK _ _ _ _ dX8_swapDegrees_58 hw
