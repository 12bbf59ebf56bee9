/-! RingPlaces$Ring.clear()V -/
abbrev wX5_clear (dA : Nat → ClassId) (ht ht_cells ht_places ht_facts : Nat) (t_lands : Int32) (t_things : Int32) (t_placeCount : Int32) (t_apart : Int32) (t_thereFirst : Int32) : va_W := [(ht, .inr (5, [.ref ht_cells, .ref ht_places, .int t_lands, .int t_things, .int t_placeCount, .int t_apart, .int t_thereFirst, .ref ht_facts]))]
def fX5_clear (t_lands : Int32) (t_things : Int32) (t_placeCount : Int32) (t_apart : Int32) (t_thereFirst : Int32)  : Option (Int32 × Int32 × Int32 × Int32 × Int32) := some ((0 : Int32), (0 : Int32), (0 : Int32), (20 : Int32), (0 : Int32))
set_option maxHeartbeats 4000000 in
set_option maxRecDepth 100000 in
theorem qX5_clear (l : Launch) (D : va_G) (dA : Nat → ClassId) (ht ht_cells ht_places ht_facts : Nat) (t_lands : Int32) (t_things : Int32) (t_placeCount : Int32) (t_apart : Int32) (t_thereFirst : Int32)  (o : Int32 × Int32 × Int32 × Int32 × Int32) (hf : fX5_clear t_lands t_things t_placeCount t_apart t_thereFirst = some o) : Mv l D dA yX5_clear (Cond.code yX5_clear cX5_clear 1 none :: wA) 0 0 [.ref ht] (wX5_clear dA ht ht_cells ht_places ht_facts t_lands t_things t_placeCount t_apart t_thereFirst) (wX5_clear dA ht ht_cells ht_places ht_facts o.1 o.2.1 o.2.2.1 o.2.2.2.1 o.2.2.2.2) := by
  intro sz
  refine M_of (cc := cX5_clear) (nL := 1) (ret := none) (own := RX5) (by decide +kernel) rfl (Nat.le_of_ble_eq_true rfl) ?_
  intro p e s m below meth c ls hsz C hw hl
  subst hsz
  have hR : 0 ≤ (rmm 0 0).frames ∧ 0 ≤ (rmm 0 0).locals ∧ 0 ≤ (rmm 0 0).cells ∧ 0 ≤ (rmm 0 0).slots := ⟨Nat.le_refl _, Nat.le_refl _, Nat.le_refl _, Nat.le_refl _⟩
  have hl : lv_has ls 1 [(0, .ref ht)] := hl
  have hx := C.1
  have hb := C.2.1
  have hml := C.2.2.1
  have hown := C.2.2.2.1
  have hts := C.2.2.2.2.1
  have hK : ∀ (H : Heap) (locs : List Loc) (pc : Nat) (ls : Array Slot), decode cX5_clear pc = .ok (.return_, 1) → St D (wX5_clear dA ht ht_cells ht_places ht_facts t_lands t_things t_placeCount t_apart t_thereFirst) s (wX5_clear dA ht ht_cells ht_places ht_facts o.1 o.2.1 o.2.2.1 o.2.2.2.1 o.2.2.2.2) H locs → W p l e (rmm 0 0) s m [.ref ht].toArray below meth c H locs 0 0 (MQ below (Qv D (wX5_clear dA ht ht_cells ht_places ht_facts t_lands t_things t_placeCount t_apart t_thereFirst) (wX5_clear dA ht ht_cells ht_places ht_facts o.1 o.2.1 o.2.2.1 o.2.2.2.1 o.2.2.2.2) s.heap.size) [.ref ht].toArray s 0 0 (va_A (wX5_clear dA ht ht_cells ht_places ht_facts t_lands t_things t_placeCount t_apart t_thereFirst) s.heap.size)) (F0 m pc ls []) := fun H locs pc ls hd hw => k_vret C hw hd
  unfold fX5_clear at hf
  refine lv_aload_n hx hb dX5_clear_0 rfl (lv_at hl 0 rfl) ?_
  refine lv_iconst (v := (0 : Int32)) hx hb dX5_clear_1 (by decide) ?_
  refine k_put C hw 0 rfl rfl wiX5 tyX5 tyX5_ok nmX5 2 (by decide) wfX5_19 rfl rfl rfl (Nat.le_of_ble_eq_true rfl) dX5_clear_2 (wX5_clear dA ht ht_cells ht_places ht_facts (0 : Int32) t_things t_placeCount t_apart t_thereFirst) rfl (fun H locs hw => ?_)
  refine lv_aload_n hx hb dX5_clear_5 rfl (lv_at hl 0 rfl) ?_
  refine lv_iconst (v := (0 : Int32)) hx hb dX5_clear_6 (by decide) ?_
  refine k_put C hw 0 rfl rfl wiX5 tyX5 tyX5_ok nmX5 3 (by decide) wfX5_23 rfl rfl rfl (Nat.le_of_ble_eq_true rfl) dX5_clear_7 (wX5_clear dA ht ht_cells ht_places ht_facts (0 : Int32) (0 : Int32) t_placeCount t_apart t_thereFirst) rfl (fun H locs hw => ?_)
  refine lv_aload_n hx hb dX5_clear_10 rfl (lv_at hl 0 rfl) ?_
  refine lv_iconst (v := (0 : Int32)) hx hb dX5_clear_11 (by decide) ?_
  refine k_put C hw 0 rfl rfl wiX5 tyX5 tyX5_ok nmX5 4 (by decide) wfX5_26 rfl rfl rfl (Nat.le_of_ble_eq_true rfl) dX5_clear_12 (wX5_clear dA ht ht_cells ht_places ht_facts (0 : Int32) (0 : Int32) (0 : Int32) t_apart t_thereFirst) rfl (fun H locs hw => ?_)
  refine lv_aload_n hx hb dX5_clear_15 rfl (lv_at hl 0 rfl) ?_
  refine lv_bipush (v := (20 : Int32)) hx hb dX5_clear_16 (by decide) ?_
  refine k_put C hw 0 rfl rfl wiX5 tyX5 tyX5_ok nmX5 5 (by decide) wfX5_29 rfl rfl rfl (Nat.le_of_ble_eq_true rfl) dX5_clear_18 (wX5_clear dA ht ht_cells ht_places ht_facts (0 : Int32) (0 : Int32) (0 : Int32) (20 : Int32) t_thereFirst) rfl (fun H locs hw => ?_)
  refine lv_aload_n hx hb dX5_clear_21 rfl (lv_at hl 0 rfl) ?_
  refine lv_iconst (v := (0 : Int32)) hx hb dX5_clear_22 (by decide) ?_
  refine k_put C hw 0 rfl rfl wiX5 tyX5 tyX5_ok nmX5 6 (by decide) wfX5_32 rfl (bz_n (Or.inl rfl)) (bz_f (Or.inl rfl)) (Nat.le_of_ble_eq_true rfl) dX5_clear_23 (wX5_clear dA ht ht_cells ht_places ht_facts (0 : Int32) (0 : Int32) (0 : Int32) (20 : Int32) (0 : Int32)) rfl (fun H locs hw => ?_)
  obtain rfl := some_r hf
  exact hK _ _ _ _ dX5_clear_26 hw

/-! RingPlaces$Ring.copyFrom(LRingPlaces$Ring;)V -/
abbrev wX5_copyFrom (dA : Nat → ClassId) (ht ht_cells ht_places ht_facts hq1 hq1_cells hq1_places hq1_facts : Nat) (t_lands : Int32) (t_things : Int32) (t_placeCount : Int32) (t_apart : Int32) (t_thereFirst : Int32) (q1_lands : Int32) (q1_things : Int32) (q1_placeCount : Int32) (q1_apart : Int32) (q1_thereFirst : Int32) (q1_cells : (Nat → Int64)) (t_cells : (Nat → Int64)) (q1_places : (Nat → Int32)) (t_places : (Nat → Int32)) (q1_facts : (Nat → Int32)) (t_facts : (Nat → Int32)) : va_W := [(ht, .inr (5, [.ref ht_cells, .ref ht_places, .int t_lands, .int t_things, .int t_placeCount, .int t_apart, .int t_thereFirst, .ref ht_facts])), (hq1, .inr (5, [.ref hq1_cells, .ref hq1_places, .int q1_lands, .int q1_things, .int q1_placeCount, .int q1_apart, .int q1_thereFirst, .ref hq1_facts])), (hq1_cells, .inl (dA 1, 16, .inr (.inl q1_cells))), (ht_cells, .inl (dA 1, 16, .inr (.inl t_cells))), (hq1_places, .inl (dA 0, 6, .inl q1_places)), (ht_places, .inl (dA 0, 6, .inl t_places)), (hq1_facts, .inl (dA 0, 224, .inl q1_facts)), (ht_facts, .inl (dA 0, 224, .inl t_facts))]
def fX5_copyFrom (t_lands : Int32) (t_things : Int32) (t_placeCount : Int32) (t_apart : Int32) (t_thereFirst : Int32) (q1_lands : Int32) (q1_things : Int32) (q1_placeCount : Int32) (q1_apart : Int32) (q1_thereFirst : Int32) (q1_cells : (Nat → Int64)) (t_cells : (Nat → Int64)) (q1_places : (Nat → Int32)) (t_places : (Nat → Int32)) (q1_facts : (Nat → Int32)) (t_facts : (Nat → Int32))  : Option (Int32 × Int32 × Int32 × Int32 × Int32 × (Nat → Int64) × (Nat → Int32) × (Nat → Int32)) := gdc (0 : Int32) (0 : Int32) (16 : Int32) 16 16 (bnd (va_cpy q1_cells t_cells (0 : Int32).toNatClampNeg (0 : Int32).toNatClampNeg (16 : Int32).toNatClampNeg) fun y2 => gdc (0 : Int32) (0 : Int32) (6 : Int32) 6 6 (bnd (va_cpy q1_places t_places (0 : Int32).toNatClampNeg (0 : Int32).toNatClampNeg (6 : Int32).toNatClampNeg) fun y4 => gdc (0 : Int32) (0 : Int32) (224 : Int32) 224 224 (bnd (va_cpy q1_facts t_facts (0 : Int32).toNatClampNeg (0 : Int32).toNatClampNeg (224 : Int32).toNatClampNeg) fun y6 => gdb q1_thereFirst (some (q1_lands, q1_things, q1_placeCount, q1_apart, q1_thereFirst, y2, y4, y6)))))
set_option maxHeartbeats 4000000 in
set_option maxRecDepth 100000 in
theorem qX5_copyFrom (l : Launch) (D : va_G) (dA : Nat → ClassId) (ht ht_cells ht_places ht_facts hq1 hq1_cells hq1_places hq1_facts : Nat) (t_lands : Int32) (t_things : Int32) (t_placeCount : Int32) (t_apart : Int32) (t_thereFirst : Int32) (q1_lands : Int32) (q1_things : Int32) (q1_placeCount : Int32) (q1_apart : Int32) (q1_thereFirst : Int32) (q1_cells : (Nat → Int64)) (t_cells : (Nat → Int64)) (q1_places : (Nat → Int32)) (t_places : (Nat → Int32)) (q1_facts : (Nat → Int32)) (t_facts : (Nat → Int32))  (o : Int32 × Int32 × Int32 × Int32 × Int32 × (Nat → Int64) × (Nat → Int32) × (Nat → Int32)) (hf : fX5_copyFrom t_lands t_things t_placeCount t_apart t_thereFirst q1_lands q1_things q1_placeCount q1_apart q1_thereFirst q1_cells t_cells q1_places t_places q1_facts t_facts = some o) : Mv l D dA yX5_copyFrom (Cond.code yX5_copyFrom cX5_copyFrom 2 none :: wA) 1 60 [.ref ht, .ref hq1] (wX5_copyFrom dA ht ht_cells ht_places ht_facts hq1 hq1_cells hq1_places hq1_facts t_lands t_things t_placeCount t_apart t_thereFirst q1_lands q1_things q1_placeCount q1_apart q1_thereFirst q1_cells t_cells q1_places t_places q1_facts t_facts) (wX5_copyFrom dA ht ht_cells ht_places ht_facts hq1 hq1_cells hq1_places hq1_facts o.1 o.2.1 o.2.2.1 o.2.2.2.1 o.2.2.2.2.1 q1_lands q1_things q1_placeCount q1_apart q1_thereFirst q1_cells o.2.2.2.2.2.1 q1_places o.2.2.2.2.2.2.1 q1_facts o.2.2.2.2.2.2.2) := by
  intro sz
  refine M_of (cc := cX5_copyFrom) (nL := 2) (ret := none) (own := RX5) (by decide +kernel) rfl (Nat.le_of_ble_eq_true rfl) ?_
  intro p e s m below meth c ls hsz C hw hl
  subst hsz
  have hR : 1 ≤ (rmm 1 60).frames ∧ 60 ≤ (rmm 1 60).locals ∧ 0 ≤ (rmm 1 60).cells ∧ 0 ≤ (rmm 1 60).slots := ⟨Nat.le_refl _, Nat.le_refl _, Nat.le_refl _, Nat.le_refl _⟩
  have hl : lv_has ls 2 [(0, .ref ht), (1, .ref hq1)] := hl
  have hx := C.1
  have hb := C.2.1
  have hml := C.2.2.1
  have hown := C.2.2.2.1
  have hts := C.2.2.2.2.1
  have hK : ∀ (H : Heap) (locs : List Loc) (pc : Nat) (ls : Array Slot), decode cX5_copyFrom pc = .ok (.return_, 1) → St D (wX5_copyFrom dA ht ht_cells ht_places ht_facts hq1 hq1_cells hq1_places hq1_facts t_lands t_things t_placeCount t_apart t_thereFirst q1_lands q1_things q1_placeCount q1_apart q1_thereFirst q1_cells t_cells q1_places t_places q1_facts t_facts) s (wX5_copyFrom dA ht ht_cells ht_places ht_facts hq1 hq1_cells hq1_places hq1_facts o.1 o.2.1 o.2.2.1 o.2.2.2.1 o.2.2.2.2.1 q1_lands q1_things q1_placeCount q1_apart q1_thereFirst q1_cells o.2.2.2.2.2.1 q1_places o.2.2.2.2.2.2.1 q1_facts o.2.2.2.2.2.2.2) H locs → W p l e (rmm 1 60) s m [.ref ht, .ref hq1].toArray below meth c H locs 0 0 (MQ below (Qv D (wX5_copyFrom dA ht ht_cells ht_places ht_facts hq1 hq1_cells hq1_places hq1_facts t_lands t_things t_placeCount t_apart t_thereFirst q1_lands q1_things q1_placeCount q1_apart q1_thereFirst q1_cells t_cells q1_places t_places q1_facts t_facts) (wX5_copyFrom dA ht ht_cells ht_places ht_facts hq1 hq1_cells hq1_places hq1_facts o.1 o.2.1 o.2.2.1 o.2.2.2.1 o.2.2.2.2.1 q1_lands q1_things q1_placeCount q1_apart q1_thereFirst q1_cells o.2.2.2.2.2.1 q1_places o.2.2.2.2.2.2.1 q1_facts o.2.2.2.2.2.2.2) s.heap.size) [.ref ht, .ref hq1].toArray s 0 0 (va_A (wX5_copyFrom dA ht ht_cells ht_places ht_facts hq1 hq1_cells hq1_places hq1_facts t_lands t_things t_placeCount t_apart t_thereFirst q1_lands q1_things q1_placeCount q1_apart q1_thereFirst q1_cells t_cells q1_places t_places q1_facts t_facts) s.heap.size)) (F0 m pc ls []) := fun H locs pc ls hd hw => k_vret C hw hd
  unfold fX5_copyFrom at hf
  refine lv_aload_n hx hb dX5_copyFrom_0 rfl (lv_at hl 1 rfl) ?_
  refine k_get C hw 1 rfl rfl wiX5 0 (by decide) wfX5_9 rfl dX5_copyFrom_1 ?_
  refine lv_iconst (v := (0 : Int32)) hx hb dX5_copyFrom_4 (by decide) ?_
  refine lv_aload_n hx hb dX5_copyFrom_5 rfl (lv_at hl 0 rfl) ?_
  refine k_get C hw 0 rfl rfl wiX5 0 (by decide) wfX5_9 rfl dX5_copyFrom_6 ?_
  refine lv_iconst (v := (0 : Int32)) hx hb dX5_copyFrom_9 (by decide) ?_
  refine lv_bipush (v := (16 : Int32)) hx hb dX5_copyFrom_10 (by decide) ?_
  obtain ⟨g1, hf⟩ := gdc_r hf
  obtain ⟨y2, ey2⟩ : ∃ z : Nat → Int64, z = va_cpy q1_cells t_cells (0 : Int32).toNatClampNeg (0 : Int32).toNatClampNeg (16 : Int32).toNatClampNeg := ⟨_, rfl⟩
  have hf := bnd_r ey2 hf
  refine k_copyl C hw wlX5_39 wxnc wxsc wxsi hl.1 2 3 rfl rfl g1 (Nat.le_trans (by decide) hR.1) (Nat.le_trans (Nat.le_of_ble_eq_true rfl) hR.2.1) dX5_copyFrom_12 y2 ey2 (wX5_copyFrom dA ht ht_cells ht_places ht_facts hq1 hq1_cells hq1_places hq1_facts t_lands t_things t_placeCount t_apart t_thereFirst q1_lands q1_things q1_placeCount q1_apart q1_thereFirst q1_cells y2 q1_places t_places q1_facts t_facts) rfl (fun H locs hw => ?_)
  refine lv_aload_n hx hb dX5_copyFrom_15 rfl (lv_at hl 1 rfl) ?_
  refine k_get C hw 1 rfl rfl wiX5 1 (by decide) wfX5_15 rfl dX5_copyFrom_16 ?_
  refine lv_iconst (v := (0 : Int32)) hx hb dX5_copyFrom_19 (by decide) ?_
  refine lv_aload_n hx hb dX5_copyFrom_20 rfl (lv_at hl 0 rfl) ?_
  refine k_get C hw 0 rfl rfl wiX5 1 (by decide) wfX5_15 rfl dX5_copyFrom_21 ?_
  refine lv_iconst (v := (0 : Int32)) hx hb dX5_copyFrom_24 (by decide) ?_
  refine lv_bipush (v := (6 : Int32)) hx hb dX5_copyFrom_25 (by decide) ?_
  obtain ⟨g3, hf⟩ := gdc_r hf
  obtain ⟨y4, ey4⟩ : ∃ z : Nat → Int32, z = va_cpy q1_places t_places (0 : Int32).toNatClampNeg (0 : Int32).toNatClampNeg (6 : Int32).toNatClampNeg := ⟨_, rfl⟩
  have hf := bnd_r ey4 hf
  refine k_copyi C hw wlX5_39 wxnc wxsc wxsi hl.1 4 5 rfl rfl g3 (Nat.le_trans (by decide) hR.1) (Nat.le_trans (Nat.le_of_ble_eq_true rfl) hR.2.1) dX5_copyFrom_27 y4 ey4 (wX5_copyFrom dA ht ht_cells ht_places ht_facts hq1 hq1_cells hq1_places hq1_facts t_lands t_things t_placeCount t_apart t_thereFirst q1_lands q1_things q1_placeCount q1_apart q1_thereFirst q1_cells y2 q1_places y4 q1_facts t_facts) rfl (fun H locs hw => ?_)
  refine lv_aload_n hx hb dX5_copyFrom_30 rfl (lv_at hl 1 rfl) ?_
  refine k_get C hw 1 rfl rfl wiX5 7 (by decide) wfX5_36 rfl dX5_copyFrom_31 ?_
  refine lv_iconst (v := (0 : Int32)) hx hb dX5_copyFrom_34 (by decide) ?_
  refine lv_aload_n hx hb dX5_copyFrom_35 rfl (lv_at hl 0 rfl) ?_
  refine k_get C hw 0 rfl rfl wiX5 7 (by decide) wfX5_36 rfl dX5_copyFrom_36 ?_
  refine lv_iconst (v := (0 : Int32)) hx hb dX5_copyFrom_39 (by decide) ?_
  refine lv_sipush (v := (224 : Int32)) hx hb dX5_copyFrom_40 (by decide) ?_
  obtain ⟨g5, hf⟩ := gdc_r hf
  obtain ⟨y6, ey6⟩ : ∃ z : Nat → Int32, z = va_cpy q1_facts t_facts (0 : Int32).toNatClampNeg (0 : Int32).toNatClampNeg (224 : Int32).toNatClampNeg := ⟨_, rfl⟩
  have hf := bnd_r ey6 hf
  refine k_copyi C hw wlX5_39 wxnc wxsc wxsi hl.1 6 7 rfl rfl g5 (Nat.le_trans (by decide) hR.1) (Nat.le_trans (Nat.le_of_ble_eq_true rfl) hR.2.1) dX5_copyFrom_43 y6 ey6 (wX5_copyFrom dA ht ht_cells ht_places ht_facts hq1 hq1_cells hq1_places hq1_facts t_lands t_things t_placeCount t_apart t_thereFirst q1_lands q1_things q1_placeCount q1_apart q1_thereFirst q1_cells y2 q1_places y4 q1_facts y6) rfl (fun H locs hw => ?_)
  refine lv_aload_n hx hb dX5_copyFrom_46 rfl (lv_at hl 0 rfl) ?_
  refine lv_aload_n hx hb dX5_copyFrom_47 rfl (lv_at hl 1 rfl) ?_
  refine k_get C hw 1 rfl rfl wiX5 2 (by decide) wfX5_19 rfl dX5_copyFrom_48 ?_
  refine k_put C hw 0 rfl rfl wiX5 tyX5 tyX5_ok nmX5 2 (by decide) wfX5_19 rfl rfl rfl (Nat.le_of_ble_eq_true rfl) dX5_copyFrom_51 (wX5_copyFrom dA ht ht_cells ht_places ht_facts hq1 hq1_cells hq1_places hq1_facts q1_lands t_things t_placeCount t_apart t_thereFirst q1_lands q1_things q1_placeCount q1_apart q1_thereFirst q1_cells y2 q1_places y4 q1_facts y6) rfl (fun H locs hw => ?_)
  refine lv_aload_n hx hb dX5_copyFrom_54 rfl (lv_at hl 0 rfl) ?_
  refine lv_aload_n hx hb dX5_copyFrom_55 rfl (lv_at hl 1 rfl) ?_
  refine k_get C hw 1 rfl rfl wiX5 3 (by decide) wfX5_23 rfl dX5_copyFrom_56 ?_
  refine k_put C hw 0 rfl rfl wiX5 tyX5 tyX5_ok nmX5 3 (by decide) wfX5_23 rfl rfl rfl (Nat.le_of_ble_eq_true rfl) dX5_copyFrom_59 (wX5_copyFrom dA ht ht_cells ht_places ht_facts hq1 hq1_cells hq1_places hq1_facts q1_lands q1_things t_placeCount t_apart t_thereFirst q1_lands q1_things q1_placeCount q1_apart q1_thereFirst q1_cells y2 q1_places y4 q1_facts y6) rfl (fun H locs hw => ?_)
  refine lv_aload_n hx hb dX5_copyFrom_62 rfl (lv_at hl 0 rfl) ?_
  refine lv_aload_n hx hb dX5_copyFrom_63 rfl (lv_at hl 1 rfl) ?_
  refine k_get C hw 1 rfl rfl wiX5 4 (by decide) wfX5_26 rfl dX5_copyFrom_64 ?_
  refine k_put C hw 0 rfl rfl wiX5 tyX5 tyX5_ok nmX5 4 (by decide) wfX5_26 rfl rfl rfl (Nat.le_of_ble_eq_true rfl) dX5_copyFrom_67 (wX5_copyFrom dA ht ht_cells ht_places ht_facts hq1 hq1_cells hq1_places hq1_facts q1_lands q1_things q1_placeCount t_apart t_thereFirst q1_lands q1_things q1_placeCount q1_apart q1_thereFirst q1_cells y2 q1_places y4 q1_facts y6) rfl (fun H locs hw => ?_)
  refine lv_aload_n hx hb dX5_copyFrom_70 rfl (lv_at hl 0 rfl) ?_
  refine lv_aload_n hx hb dX5_copyFrom_71 rfl (lv_at hl 1 rfl) ?_
  refine k_get C hw 1 rfl rfl wiX5 5 (by decide) wfX5_29 rfl dX5_copyFrom_72 ?_
  refine k_put C hw 0 rfl rfl wiX5 tyX5 tyX5_ok nmX5 5 (by decide) wfX5_29 rfl rfl rfl (Nat.le_of_ble_eq_true rfl) dX5_copyFrom_75 (wX5_copyFrom dA ht ht_cells ht_places ht_facts hq1 hq1_cells hq1_places hq1_facts q1_lands q1_things q1_placeCount q1_apart t_thereFirst q1_lands q1_things q1_placeCount q1_apart q1_thereFirst q1_cells y2 q1_places y4 q1_facts y6) rfl (fun H locs hw => ?_)
  refine lv_aload_n hx hb dX5_copyFrom_78 rfl (lv_at hl 0 rfl) ?_
  refine lv_aload_n hx hb dX5_copyFrom_79 rfl (lv_at hl 1 rfl) ?_
  refine k_get C hw 1 rfl rfl wiX5 6 (by decide) wfX5_32 rfl dX5_copyFrom_80 ?_
  obtain ⟨g7, hf⟩ := gdb_r hf
  refine k_put C hw 0 rfl rfl wiX5 tyX5 tyX5_ok nmX5 6 (by decide) wfX5_32 rfl (bz_n g7) (bz_f g7) (Nat.le_of_ble_eq_true rfl) dX5_copyFrom_83 (wX5_copyFrom dA ht ht_cells ht_places ht_facts hq1 hq1_cells hq1_places hq1_facts q1_lands q1_things q1_placeCount q1_apart q1_thereFirst q1_lands q1_things q1_placeCount q1_apart q1_thereFirst q1_cells y2 q1_places y4 q1_facts y6) rfl (fun H locs hw => ?_)
  obtain rfl := some_r hf
  exact hK _ _ _ _ dX5_copyFrom_86 hw

/-! RingPlaces$Ring.has(I)Z -/
abbrev wX5_has (dA : Nat → ClassId) (ht ht_cells ht_places ht_facts : Nat) (t_lands : Int32) (t_things : Int32) (t_placeCount : Int32) (t_apart : Int32) (t_thereFirst : Int32) : va_W := [(ht, .inr (5, [.ref ht_cells, .ref ht_places, .int t_lands, .int t_things, .int t_placeCount, .int t_apart, .int t_thereFirst, .ref ht_facts]))]
def fX5_has (t_things : Int32) (x1_ : Int32) : Option (Int32) := (if x1_ < 0 then some (0 : Int32) else (if t_things ≤ x1_ then some (0 : Int32) else some (1 : Int32)))
set_option maxHeartbeats 4000000 in
set_option maxRecDepth 100000 in
theorem qX5_has (l : Launch) (D : va_G) (dA : Nat → ClassId) (ht ht_cells ht_places ht_facts : Nat) (t_lands : Int32) (t_things : Int32) (t_placeCount : Int32) (t_apart : Int32) (t_thereFirst : Int32) (x1_ : Int32) (o : Int32) (hf : fX5_has t_things x1_ = some o) : Mi l D dA yX5_has (Cond.code yX5_has cX5_has 2 (some .boolean) :: wA) 0 0 [.ref ht, .int x1_] (wX5_has dA ht ht_cells ht_places ht_facts t_lands t_things t_placeCount t_apart t_thereFirst) (wX5_has dA ht ht_cells ht_places ht_facts t_lands t_things t_placeCount t_apart t_thereFirst) o := by
  intro sz
  refine M_of (cc := cX5_has) (nL := 2) (ret := (some .boolean)) (own := RX5) (by decide +kernel) rfl (Nat.le_of_ble_eq_true rfl) ?_
  intro p e s m below meth c ls hsz C hw hl
  subst hsz
  have hR : 0 ≤ (rmm 0 0).frames ∧ 0 ≤ (rmm 0 0).locals ∧ 0 ≤ (rmm 0 0).cells ∧ 0 ≤ (rmm 0 0).slots := ⟨Nat.le_refl _, Nat.le_refl _, Nat.le_refl _, Nat.le_refl _⟩
  have hl : lv_has ls 2 [(0, .ref ht), (1, .int x1_)] := hl
  have hx := C.1
  have hb := C.2.1
  have hml := C.2.2.1
  have hown := C.2.2.2.1
  have hts := C.2.2.2.2.1
  have hK : ∀ (H : Heap) (locs : List Loc) (pc : Nat) (ls : Array Slot), (o = 0 ∨ o = 1) → decode cX5_has pc = .ok (.ireturn, 1) → St D (wX5_has dA ht ht_cells ht_places ht_facts t_lands t_things t_placeCount t_apart t_thereFirst) s (wX5_has dA ht ht_cells ht_places ht_facts t_lands t_things t_placeCount t_apart t_thereFirst) H locs → W p l e (rmm 0 0) s m [.ref ht, .int x1_].toArray below meth c H locs 0 0 (MQ below (Qi D (wX5_has dA ht ht_cells ht_places ht_facts t_lands t_things t_placeCount t_apart t_thereFirst) (wX5_has dA ht ht_cells ht_places ht_facts t_lands t_things t_placeCount t_apart t_thereFirst) o s.heap.size) [.ref ht, .int x1_].toArray s 0 0 (va_A (wX5_has dA ht ht_cells ht_places ht_facts t_lands t_things t_placeCount t_apart t_thereFirst) s.heap.size)) (F0 m pc ls [.int o]) := fun H locs pc ls hz hd hw => k_zret C hw hz hd
  unfold fX5_has at hf
  refine lv_iload_n hx hb dX5_has_0 rfl (lv_at hl 1 rfl) ?_
  refine lv_if_lt (tgt := 16) hx hb dX5_has_1 (by decide) (fun c1 => ?_) (fun c1 => ?_)
  · have hf := ite_t c1 hf
    refine lv_iconst (v := (0 : Int32)) hx hb dX5_has_16 (by decide) ?_
    obtain rfl := some_r hf
    exact hK _ _ _ _ (Or.inl rfl) dX5_has_17 hw
  · have hf := ite_f c1 hf
    refine lv_iload_n hx hb dX5_has_4 rfl (lv_at hl 1 rfl) ?_
    refine lv_aload_n hx hb dX5_has_5 rfl (lv_at hl 0 rfl) ?_
    refine k_get C hw 0 rfl rfl wiX5 3 (by decide) wfX5_23 rfl dX5_has_6 ?_
    refine lv_icmp_ge (tgt := 16) hx hb dX5_has_9 (by decide) (fun c2 => ?_) (fun c2 => ?_)
    · have hf := ite_t c2 hf
      refine lv_iconst (v := (0 : Int32)) hx hb dX5_has_16 (by decide) ?_
      obtain rfl := some_r hf
      exact hK _ _ _ _ (Or.inl rfl) dX5_has_17 hw
    · have hf := ite_f c2 hf
      refine lv_iconst (v := (1 : Int32)) hx hb dX5_has_12 (by decide) ?_
      refine lv_goto (tgt := 17) hx hb dX5_has_13 (by decide) ?_
      obtain rfl := some_r hf
      exact hK _ _ _ _ (Or.inr rfl) dX5_has_17 hw

/-! RingPlaces$Ring.told(II)I -/
abbrev wX5_told (dA : Nat → ClassId) (ht ht_cells ht_places ht_facts : Nat) (t_lands : Int32) (t_things : Int32) (t_placeCount : Int32) (t_apart : Int32) (t_thereFirst : Int32) (t_facts : (Nat → Int32)) : va_W := [(ht, .inr (5, [.ref ht_cells, .ref ht_places, .int t_lands, .int t_things, .int t_placeCount, .int t_apart, .int t_thereFirst, .ref ht_facts])), (ht_facts, .inl (dA 0, 224, .inl t_facts))]
def fX5_told (t_facts : (Nat → Int32)) (x1_ : Int32) (x2_ : Int32) : Option (Int32) := bnd ((x1_ * (14 : Int32)) + x2_) fun x1 => (if x1 < 0 then some (-1 : Int32) else (if (224 : Int32) ≤ x1 then some (-1 : Int32) else gdi x1 224 (some (t_facts x1.toNatClampNeg))))
set_option maxHeartbeats 4000000 in
set_option maxRecDepth 100000 in
theorem qX5_told (l : Launch) (D : va_G) (dA : Nat → ClassId) (ht ht_cells ht_places ht_facts : Nat) (t_lands : Int32) (t_things : Int32) (t_placeCount : Int32) (t_apart : Int32) (t_thereFirst : Int32) (t_facts : (Nat → Int32)) (x1_ : Int32) (x2_ : Int32) (o : Int32) (hf : fX5_told t_facts x1_ x2_ = some o) : Mi l D dA yX5_told (Cond.code yX5_told cX5_told 4 (some .int) :: wA) 0 0 [.ref ht, .int x1_, .int x2_] (wX5_told dA ht ht_cells ht_places ht_facts t_lands t_things t_placeCount t_apart t_thereFirst t_facts) (wX5_told dA ht ht_cells ht_places ht_facts t_lands t_things t_placeCount t_apart t_thereFirst t_facts) o := by
  intro sz
  refine M_of (cc := cX5_told) (nL := 4) (ret := (some .int)) (own := RX5) (by decide +kernel) rfl (Nat.le_of_ble_eq_true rfl) ?_
  intro p e s m below meth c ls hsz C hw hl
  subst hsz
  have hR : 0 ≤ (rmm 0 0).frames ∧ 0 ≤ (rmm 0 0).locals ∧ 0 ≤ (rmm 0 0).cells ∧ 0 ≤ (rmm 0 0).slots := ⟨Nat.le_refl _, Nat.le_refl _, Nat.le_refl _, Nat.le_refl _⟩
  have hl : lv_has ls 4 [(0, .ref ht), (1, .int x1_), (2, .int x2_)] := hl
  have hx := C.1
  have hb := C.2.1
  have hml := C.2.2.1
  have hown := C.2.2.2.1
  have hts := C.2.2.2.2.1
  have hK : ∀ (H : Heap) (locs : List Loc) (pc : Nat) (ls : Array Slot), decode cX5_told pc = .ok (.ireturn, 1) → St D (wX5_told dA ht ht_cells ht_places ht_facts t_lands t_things t_placeCount t_apart t_thereFirst t_facts) s (wX5_told dA ht ht_cells ht_places ht_facts t_lands t_things t_placeCount t_apart t_thereFirst t_facts) H locs → W p l e (rmm 0 0) s m [.ref ht, .int x1_, .int x2_].toArray below meth c H locs 0 0 (MQ below (Qi D (wX5_told dA ht ht_cells ht_places ht_facts t_lands t_things t_placeCount t_apart t_thereFirst t_facts) (wX5_told dA ht ht_cells ht_places ht_facts t_lands t_things t_placeCount t_apart t_thereFirst t_facts) o s.heap.size) [.ref ht, .int x1_, .int x2_].toArray s 0 0 (va_A (wX5_told dA ht ht_cells ht_places ht_facts t_lands t_things t_placeCount t_apart t_thereFirst t_facts) s.heap.size)) (F0 m pc ls [.int o]) := fun H locs pc ls hd hw => k_iret C hw hd
  unfold fX5_told at hf
  refine lv_iload_n hx hb dX5_told_0 rfl (lv_at hl 1 rfl) ?_
  refine lv_bipush (v := (14 : Int32)) hx hb dX5_told_1 (by decide) ?_
  refine lv_imul hx hb dX5_told_3 ?_
  refine lv_iload_n hx hb dX5_told_4 rfl (lv_at hl 2 rfl) ?_
  refine lv_iadd hx hb dX5_told_5 ?_
  refine lv_topi (fun x1 ex1 => ?_)
  have hf := bnd_r ex1 hf
  refine lv_istore_n (lv' := [(3, .int x1), (0, .ref ht), (1, .int x1_), (2, .int x2_)]) hx hb dX5_told_6 rfl hl (by decide) rfl (fun ls hl => ?_)
  refine lv_iload_n hx hb dX5_told_7 rfl (lv_at hl 0 rfl) ?_
  refine lv_if_lt (tgt := 29) hx hb dX5_told_8 (by decide) (fun c2 => ?_) (fun c2 => ?_)
  · have hf := ite_t c2 hf
    refine lv_iconst (v := (-1 : Int32)) hx hb dX5_told_29 (by decide) ?_
    obtain rfl := some_r hf
    exact hK _ _ _ _ dX5_told_30 hw
  · have hf := ite_f c2 hf
    refine lv_iload_n hx hb dX5_told_11 rfl (lv_at hl 0 rfl) ?_
    refine lv_aload_n hx hb dX5_told_12 rfl (lv_at hl 1 rfl) ?_
    refine k_get C hw 0 rfl rfl wiX5 7 (by decide) wfX5_36 rfl dX5_told_13 ?_
    refine k_alen C hw 1 0 rfl rfl (v := (224 : Int32)) (by first | rfl | decide) dX5_told_16 ?_
    refine lv_icmp_ge (tgt := 29) hx hb dX5_told_17 (by decide) (fun c3 => ?_) (fun c3 => ?_)
    · have hf := ite_t c3 hf
      refine lv_iconst (v := (-1 : Int32)) hx hb dX5_told_29 (by decide) ?_
      obtain rfl := some_r hf
      exact hK _ _ _ _ dX5_told_30 hw
    · have hf := ite_f c3 hf
      refine lv_aload_n hx hb dX5_told_20 rfl (lv_at hl 1 rfl) ?_
      refine k_get C hw 0 rfl rfl wiX5 7 (by decide) wfX5_36 rfl dX5_told_21 ?_
      refine lv_iload_n hx hb dX5_told_24 rfl (lv_at hl 0 rfl) ?_
      obtain ⟨g4, hf⟩ := gdi_r hf
      refine k_iald C hw 1 rfl g4 dX5_told_25 ?_
      refine lv_goto (tgt := 30) hx hb dX5_told_26 (by decide) ?_
      obtain rfl := some_r hf
      exact hK _ _ _ _ dX5_told_30 hw

/-! RingPlaces$Ring.tell(III)V -/
abbrev wX5_tell (dA : Nat → ClassId) (ht ht_cells ht_places ht_facts : Nat) (t_lands : Int32) (t_things : Int32) (t_placeCount : Int32) (t_apart : Int32) (t_thereFirst : Int32) (t_facts : (Nat → Int32)) : va_W := [(ht, .inr (5, [.ref ht_cells, .ref ht_places, .int t_lands, .int t_things, .int t_placeCount, .int t_apart, .int t_thereFirst, .ref ht_facts])), (ht_facts, .inl (dA 0, 224, .inl t_facts))]
def fX5_tell (t_facts : (Nat → Int32)) (x1_ : Int32) (x2_ : Int32) (x3_ : Int32) : Option ((Nat → Int32)) := bnd ((x1_ * (14 : Int32)) + x2_) fun x1 => (if x1 < 0 then some t_facts else (if (224 : Int32) ≤ x1 then some t_facts else gdi x1 224 (bnd (upd t_facts x1.toNatClampNeg x3_) fun y5 => some y5)))
set_option maxHeartbeats 4000000 in
set_option maxRecDepth 100000 in
theorem qX5_tell (l : Launch) (D : va_G) (dA : Nat → ClassId) (ht ht_cells ht_places ht_facts : Nat) (t_lands : Int32) (t_things : Int32) (t_placeCount : Int32) (t_apart : Int32) (t_thereFirst : Int32) (t_facts : (Nat → Int32)) (x1_ : Int32) (x2_ : Int32) (x3_ : Int32) (o : (Nat → Int32)) (hf : fX5_tell t_facts x1_ x2_ x3_ = some o) : Mv l D dA yX5_tell (Cond.code yX5_tell cX5_tell 5 none :: wA) 0 0 [.ref ht, .int x1_, .int x2_, .int x3_] (wX5_tell dA ht ht_cells ht_places ht_facts t_lands t_things t_placeCount t_apart t_thereFirst t_facts) (wX5_tell dA ht ht_cells ht_places ht_facts t_lands t_things t_placeCount t_apart t_thereFirst o) := by
  intro sz
  refine M_of (cc := cX5_tell) (nL := 5) (ret := none) (own := RX5) (by decide +kernel) rfl (Nat.le_of_ble_eq_true rfl) ?_
  intro p e s m below meth c ls hsz C hw hl
  subst hsz
  have hR : 0 ≤ (rmm 0 0).frames ∧ 0 ≤ (rmm 0 0).locals ∧ 0 ≤ (rmm 0 0).cells ∧ 0 ≤ (rmm 0 0).slots := ⟨Nat.le_refl _, Nat.le_refl _, Nat.le_refl _, Nat.le_refl _⟩
  have hl : lv_has ls 5 [(0, .ref ht), (1, .int x1_), (2, .int x2_), (3, .int x3_)] := hl
  have hx := C.1
  have hb := C.2.1
  have hml := C.2.2.1
  have hown := C.2.2.2.1
  have hts := C.2.2.2.2.1
  have hK : ∀ (H : Heap) (locs : List Loc) (pc : Nat) (ls : Array Slot), decode cX5_tell pc = .ok (.return_, 1) → St D (wX5_tell dA ht ht_cells ht_places ht_facts t_lands t_things t_placeCount t_apart t_thereFirst t_facts) s (wX5_tell dA ht ht_cells ht_places ht_facts t_lands t_things t_placeCount t_apart t_thereFirst o) H locs → W p l e (rmm 0 0) s m [.ref ht, .int x1_, .int x2_, .int x3_].toArray below meth c H locs 0 0 (MQ below (Qv D (wX5_tell dA ht ht_cells ht_places ht_facts t_lands t_things t_placeCount t_apart t_thereFirst t_facts) (wX5_tell dA ht ht_cells ht_places ht_facts t_lands t_things t_placeCount t_apart t_thereFirst o) s.heap.size) [.ref ht, .int x1_, .int x2_, .int x3_].toArray s 0 0 (va_A (wX5_tell dA ht ht_cells ht_places ht_facts t_lands t_things t_placeCount t_apart t_thereFirst t_facts) s.heap.size)) (F0 m pc ls []) := fun H locs pc ls hd hw => k_vret C hw hd
  unfold fX5_tell at hf
  refine lv_iload_n hx hb dX5_tell_0 rfl (lv_at hl 1 rfl) ?_
  refine lv_bipush (v := (14 : Int32)) hx hb dX5_tell_1 (by decide) ?_
  refine lv_imul hx hb dX5_tell_3 ?_
  refine lv_iload_n hx hb dX5_tell_4 rfl (lv_at hl 2 rfl) ?_
  refine lv_iadd hx hb dX5_tell_5 ?_
  refine lv_topi (fun x1 ex1 => ?_)
  have hf := bnd_r ex1 hf
  refine lv_istore (lv' := [(4, .int x1), (0, .ref ht), (1, .int x1_), (2, .int x2_), (3, .int x3_)]) hx hb dX5_tell_6 hl (by decide) rfl (fun ls hl => ?_)
  refine lv_iload hx hb dX5_tell_8 (lv_at hl 0 rfl) ?_
  refine lv_if_lt (tgt := 31) hx hb dX5_tell_10 (by decide) (fun c2 => ?_) (fun c2 => ?_)
  · have hf := ite_t c2 hf
    obtain rfl := some_r hf
    exact hK _ _ _ _ dX5_tell_31 hw
  · have hf := ite_f c2 hf
    refine lv_iload hx hb dX5_tell_13 (lv_at hl 0 rfl) ?_
    refine lv_aload_n hx hb dX5_tell_15 rfl (lv_at hl 1 rfl) ?_
    refine k_get C hw 0 rfl rfl wiX5 7 (by decide) wfX5_36 rfl dX5_tell_16 ?_
    refine k_alen C hw 1 0 rfl rfl (v := (224 : Int32)) (by first | rfl | decide) dX5_tell_19 ?_
    refine lv_icmp_ge (tgt := 31) hx hb dX5_tell_20 (by decide) (fun c3 => ?_) (fun c3 => ?_)
    · have hf := ite_t c3 hf
      obtain rfl := some_r hf
      exact hK _ _ _ _ dX5_tell_31 hw
    · have hf := ite_f c3 hf
      refine lv_aload_n hx hb dX5_tell_23 rfl (lv_at hl 1 rfl) ?_
      refine k_get C hw 0 rfl rfl wiX5 7 (by decide) wfX5_36 rfl dX5_tell_24 ?_
      refine lv_iload hx hb dX5_tell_27 (lv_at hl 0 rfl) ?_
      refine lv_iload_n hx hb dX5_tell_29 rfl (lv_at hl 4 rfl) ?_
      obtain ⟨g4, hf⟩ := gdi_r hf
      obtain ⟨y5, ey5⟩ : ∃ z : Nat → Int32, z = upd t_facts x1.toNatClampNeg x3_ := ⟨_, rfl⟩
      have hf := bnd_r ey5 hf
      refine k_iast C hw 1 rfl g4 dX5_tell_30 y5 ey5 (wX5_tell dA ht ht_cells ht_places ht_facts t_lands t_things t_placeCount t_apart t_thereFirst y5) rfl (fun H locs hw => ?_)
      obtain rfl := some_r hf
      exact hK _ _ _ _ dX5_tell_31 hw

/-! RingPlaces$Ring.addThing(I)V -/
abbrev wX5_addThing (dA : Nat → ClassId) (ht ht_cells ht_places ht_facts : Nat) (t_lands : Int32) (t_things : Int32) (t_placeCount : Int32) (t_apart : Int32) (t_thereFirst : Int32) (t_cells : (Nat → Int64)) (t_facts : (Nat → Int32)) : va_W := [(ht, .inr (5, [.ref ht_cells, .ref ht_places, .int t_lands, .int t_things, .int t_placeCount, .int t_apart, .int t_thereFirst, .ref ht_facts])), (ht_cells, .inl (dA 1, 16, .inr (.inl t_cells))), (ht_facts, .inl (dA 0, 224, .inl t_facts))]
def fX5_addThing_l34b (N : Nat) (t_things : Int32) (t_cells : (Nat → Int64)) (v1 : Int32) (v2 : Int32) (t_facts : (Nat → Int32)) (v3 : Int32) : Option (((Nat → Int32) × Int32) ⊕ ((Nat → Int32))) := (if (14 : Int32) ≤ v3 then some (.inr t_facts) else (fX5_tell t_facts v2 v3 (-1 : Int32)).bind fun o6 => bnd (v3 + (1 : Int32)) fun x7 => some (.inl (o6, x7)))
def fX5_addThing (N : Nat) (t_things : Int32) (t_cells : (Nat → Int64)) (t_facts : (Nat → Int32)) (x1_ : Int32) : Option (Int32 × (Nat → Int64) × (Nat → Int32)) := (if t_things < (16 : Int32) then bnd (t_things + (1 : Int32)) fun x2 => gdi t_things 16 (bnd (vp_updL t_cells t_things.toNatClampNeg (0 : Int64)) fun y4 => (itr (fun z => fX5_addThing_l34b N x2 y4 x1_ t_things z.1 z.2) N (t_facts, (0 : Int32))).bind fun q8 => (fX5_tell q8 t_things (0 : Int32) x1_).bind fun o9 => (fX5_tell o9 t_things (3 : Int32) (0 : Int32)).bind fun o10 => (fX5_tell o10 t_things (4 : Int32) (100 : Int32)).bind fun o11 => (fX5_tell o11 t_things (5 : Int32) (5 : Int32)).bind fun o12 => (fX5_tell o12 t_things (6 : Int32) (50 : Int32)).bind fun o13 => (fX5_tell o13 t_things (7 : Int32) (1 : Int32)).bind fun o14 => some (x2, y4, o14)) else some (t_things, t_cells, t_facts))
set_option maxHeartbeats 4000000 in
set_option maxRecDepth 100000 in
theorem tX5_addThing_l34b {p : Program} {l : Launch} {e : Env} {R : Room} {s : State} {m : MethodId} {args : Array Value} {below : List Frame} {meth : Method} {c : Code} {D : va_G} {dA : Nat → ClassId} {w0 : va_W} {Q : State → Prop} {H : Heap} {locs : List Loc} {ls : Array Slot} {cells slots : Nat} (C : CX p s m args meth c cX5_addThing 4 none RX5 D dA) (ht ht_cells ht_places ht_facts : Nat) (hR : 1 ≤ R.frames ∧ 24 ≤ R.locals ∧ cells ≤ R.cells ∧ slots ≤ R.slots)  (t_lands : Int32) (t_things : Int32) (t_placeCount : Int32) (t_apart : Int32) (t_thereFirst : Int32) (t_cells : (Nat → Int64)) (t_facts : (Nat → Int32)) (v1 : Int32) (v2 : Int32) (v3 : Int32) (N : Nat) (res : (((Nat → Int32) × Int32) ⊕ ((Nat → Int32)))) (hf : fX5_addThing_l34b N t_things t_cells v1 v2 t_facts v3 = some res) (hK : Sum.elim (fun z => (∀ (H : Heap) (locs : List Loc) (ls : Array Slot), lv_has ls 4 [(0, .ref ht), (1, .int v1), (2, .int v2), (3, .int z.2)] → St D w0 s (wX5_addThing dA ht ht_cells ht_places ht_facts t_lands t_things t_placeCount t_apart t_thereFirst t_cells z.1) H locs → W p l e R s m args below meth c H locs cells slots Q (F0 m 34 ls []))) (fun r => (∀ (H : Heap) (locs : List Loc) (ls : Array Slot), lv_has ls 4 [(0, .ref ht), (1, .int v1), (2, .int v2)] → St D w0 s (wX5_addThing dA ht ht_cells ht_places ht_facts t_lands t_things t_placeCount t_apart t_thereFirst t_cells r) H locs → W p l e R s m args below meth c H locs cells slots Q (F0 m 53 ls []))) res) (hl : lv_has ls 4 [(0, .ref ht), (1, .int v1), (2, .int v2), (3, .int v3)]) (hw : St D w0 s (wX5_addThing dA ht ht_cells ht_places ht_facts t_lands t_things t_placeCount t_apart t_thereFirst t_cells t_facts) H locs) : W p l e R s m args below meth c H locs cells slots Q (F0 m 34 ls []) := by
  have hx := C.1
  have hb := C.2.1
  have hml := C.2.2.1
  have hown := C.2.2.2.1
  have hts := C.2.2.2.2.1
  unfold fX5_addThing_l34b at hf
  refine lv_iload_n hx hb dX5_addThing_34 rfl (lv_at hl 3 rfl) ?_
  refine lv_bipush (v := (14 : Int32)) hx hb dX5_addThing_35 (by decide) ?_
  refine lv_icmp_ge (tgt := 53) hx hb dX5_addThing_37 (by decide) (fun c5 => ?_) (fun c5 => ?_)
  · have hf := ite_t c5 hf
    obtain rfl := some_r hf
    exact hK _ _ _ (lv_sub hl [0, 1, 2] rfl) hw
  · have hf := ite_f c5 hf
    refine lv_aload_n hx hb dX5_addThing_40 rfl (lv_at hl 0 rfl) ?_
    refine lv_iload_n hx hb dX5_addThing_41 rfl (lv_at hl 2 rfl) ?_
    refine lv_iload_n hx hb dX5_addThing_42 rfl (lv_at hl 3 rfl) ?_
    refine lv_iconst (v := (-1 : Int32)) hx hb dX5_addThing_43 (by decide) ?_
    obtain ⟨o6, ho6, hf⟩ := bind_r hf
    refine k_callVv C hw (n := 3) (As := [.int v2, .int v3, .int (-1 : Int32)]) (w1 := (wX5_addThing dA ht ht_cells ht_places ht_facts t_lands t_things t_placeCount t_apart t_thereFirst t_cells o6)) (wr := [(ht_cells, .inl (dA 1, 16, .inr (.inl t_cells)))]) [0, 2] [1] [1, 0, 2] rfl rfl (by decide) (by decide) (by decide) rfl (by decide) (qX5_tell l D dA ht ht_cells ht_places ht_facts t_lands t_things t_placeCount t_apart t_thereFirst t_facts v2 v3 (-1 : Int32) _ ho6) wlX5_45 wmX5_tell wvX5_tell wnX5 wcX5_tell rfl (by decide +kernel) ⟨Nat.le_trans (by decide) hR.1, Nat.le_trans (by decide) hR.2.1⟩ hR.2.2 rfl 0 rfl rfl hl.1 (Nat.le_of_ble_eq_true rfl) dX5_addThing_44 rfl (fun H locs hw => ?_)
    obtain ⟨x7, ex7⟩ : ∃ y : Int32, y = v3 + (1 : Int32) := ⟨_, rfl⟩
    have hf := bnd_r ex7 hf
    refine lv_iinc (v := x7) (lv' := [(3, .int x7), (0, .ref ht), (1, .int v1), (2, .int v2)]) hx hb dX5_addThing_47 hl (k := 3) rfl (by rw [ex7]; rfl) (by decide) rfl (fun ls hl => ?_)
    refine lv_goto (tgt := 34) hx hb dX5_addThing_50 (by decide) ?_
    obtain rfl := some_r hf
    exact hK _ _ _ (lv_sub hl [1, 2, 3, 0] rfl) hw
set_option maxHeartbeats 4000000 in
theorem tX5_addThing_l34 {p : Program} {l : Launch} {e : Env} {R : Room} {s : State} {m : MethodId} {args : Array Value} {below : List Frame} {meth : Method} {c : Code} {D : va_G} {dA : Nat → ClassId} {w0 : va_W} {Q : State → Prop} {H : Heap} {locs : List Loc} {ls : Array Slot} {cells slots : Nat} (C : CX p s m args meth c cX5_addThing 4 none RX5 D dA) (ht ht_cells ht_places ht_facts : Nat) (hR : 1 ≤ R.frames ∧ 24 ≤ R.locals ∧ cells ≤ R.cells ∧ slots ≤ R.slots)  (t_lands : Int32) (t_things : Int32) (t_placeCount : Int32) (t_apart : Int32) (t_thereFirst : Int32) (t_cells : (Nat → Int64)) (t_facts : (Nat → Int32)) (v1 : Int32) (v2 : Int32) (v3 : Int32) (N n : Nat) (res : ((Nat → Int32))) (hf : itr (fun z => fX5_addThing_l34b N t_things t_cells v1 v2 z.1 z.2) n (t_facts, v3) = some res) (hK : (∀ (H : Heap) (locs : List Loc) (ls : Array Slot), lv_has ls 4 [(0, .ref ht), (1, .int v1), (2, .int v2)] → St D w0 s (wX5_addThing dA ht ht_cells ht_places ht_facts t_lands t_things t_placeCount t_apart t_thereFirst t_cells res) H locs → W p l e R s m args below meth c H locs cells slots Q (F0 m 53 ls []))) (hl : lv_has ls 4 [(0, .ref ht), (1, .int v1), (2, .int v2), (3, .int v3)]) (hw : St D w0 s (wX5_addThing dA ht ht_cells ht_places ht_facts t_lands t_things t_placeCount t_apart t_thereFirst t_cells t_facts) H locs) : W p l e R s m args below meth c H locs cells slots Q (F0 m 34 ls []) :=
  itr_W (P := fun (z : ((Nat → Int32) × Int32)) => (∀ (H : Heap) (locs : List Loc) (ls : Array Slot), lv_has ls 4 [(0, .ref ht), (1, .int v1), (2, .int v2), (3, .int z.2)] → St D w0 s (wX5_addThing dA ht ht_cells ht_places ht_facts t_lands t_things t_placeCount t_apart t_thereFirst t_cells z.1) H locs → W p l e R s m args below meth c H locs cells slots Q (F0 m 34 ls []))) (K := fun res => (∀ (H : Heap) (locs : List Loc) (ls : Array Slot), lv_has ls 4 [(0, .ref ht), (1, .int v1), (2, .int v2)] → St D w0 s (wX5_addThing dA ht ht_cells ht_places ht_facts t_lands t_things t_placeCount t_apart t_thereFirst t_cells res) H locs → W p l e R s m args below meth c H locs cells slots Q (F0 m 53 ls []))) (fun z r hf hK H locs ls hl hw => tX5_addThing_l34b C ht ht_cells ht_places ht_facts hR t_lands t_things t_placeCount t_apart t_thereFirst t_cells z.1 v1 v2 z.2 N r hf (by cases r with
    | inl r => exact hK
    | inr r => exact hK) hl hw) n _ res hf hK H locs ls hl hw
set_option maxHeartbeats 4000000 in
set_option maxRecDepth 100000 in
theorem qX5_addThing (l : Launch) (D : va_G) (dA : Nat → ClassId) (ht ht_cells ht_places ht_facts : Nat) (t_lands : Int32) (t_things : Int32) (t_placeCount : Int32) (t_apart : Int32) (t_thereFirst : Int32) (t_cells : (Nat → Int64)) (t_facts : (Nat → Int32)) (x1_ : Int32) (N : Nat) (o : Int32 × (Nat → Int64) × (Nat → Int32)) (hf : fX5_addThing N t_things t_cells t_facts x1_ = some o) : Mv l D dA yX5_addThing (Cond.code yX5_addThing cX5_addThing 4 none :: wA) 1 24 [.ref ht, .int x1_] (wX5_addThing dA ht ht_cells ht_places ht_facts t_lands t_things t_placeCount t_apart t_thereFirst t_cells t_facts) (wX5_addThing dA ht ht_cells ht_places ht_facts t_lands o.1 t_placeCount t_apart t_thereFirst o.2.1 o.2.2) := by
  intro sz
  refine M_of (cc := cX5_addThing) (nL := 4) (ret := none) (own := RX5) (by decide +kernel) rfl (Nat.le_of_ble_eq_true rfl) ?_
  intro p e s m below meth c ls hsz C hw hl
  subst hsz
  have hR : 1 ≤ (rmm 1 24).frames ∧ 24 ≤ (rmm 1 24).locals ∧ 0 ≤ (rmm 1 24).cells ∧ 0 ≤ (rmm 1 24).slots := ⟨Nat.le_refl _, Nat.le_refl _, Nat.le_refl _, Nat.le_refl _⟩
  have hl : lv_has ls 4 [(0, .ref ht), (1, .int x1_)] := hl
  have hx := C.1
  have hb := C.2.1
  have hml := C.2.2.1
  have hown := C.2.2.2.1
  have hts := C.2.2.2.2.1
  have hK : ∀ (H : Heap) (locs : List Loc) (pc : Nat) (ls : Array Slot), decode cX5_addThing pc = .ok (.return_, 1) → St D (wX5_addThing dA ht ht_cells ht_places ht_facts t_lands t_things t_placeCount t_apart t_thereFirst t_cells t_facts) s (wX5_addThing dA ht ht_cells ht_places ht_facts t_lands o.1 t_placeCount t_apart t_thereFirst o.2.1 o.2.2) H locs → W p l e (rmm 1 24) s m [.ref ht, .int x1_].toArray below meth c H locs 0 0 (MQ below (Qv D (wX5_addThing dA ht ht_cells ht_places ht_facts t_lands t_things t_placeCount t_apart t_thereFirst t_cells t_facts) (wX5_addThing dA ht ht_cells ht_places ht_facts t_lands o.1 t_placeCount t_apart t_thereFirst o.2.1 o.2.2) s.heap.size) [.ref ht, .int x1_].toArray s 0 0 (va_A (wX5_addThing dA ht ht_cells ht_places ht_facts t_lands t_things t_placeCount t_apart t_thereFirst t_cells t_facts) s.heap.size)) (F0 m pc ls []) := fun H locs pc ls hd hw => k_vret C hw hd
  unfold fX5_addThing at hf
  refine lv_aload_n hx hb dX5_addThing_0 rfl (lv_at hl 0 rfl) ?_
  refine k_get C hw 0 rfl rfl wiX5 3 (by decide) wfX5_23 rfl dX5_addThing_1 ?_
  refine lv_bipush (v := (16 : Int32)) hx hb dX5_addThing_4 (by decide) ?_
  refine lv_icmp_lt (tgt := 10) hx hb dX5_addThing_6 (by decide) (fun c1 => ?_) (fun c1 => ?_)
  · have hf := ite_t c1 hf
    refine lv_aload_n hx hb dX5_addThing_10 rfl (lv_at hl 0 rfl) ?_
    refine k_get C hw 0 rfl rfl wiX5 3 (by decide) wfX5_23 rfl dX5_addThing_11 ?_
    refine lv_istore_n (lv' := [(2, .int t_things), (0, .ref ht), (1, .int x1_)]) hx hb dX5_addThing_14 rfl hl (by decide) rfl (fun ls hl => ?_)
    refine lv_aload_n hx hb dX5_addThing_15 rfl (lv_at hl 1 rfl) ?_
    refine lv_dup hx hb dX5_addThing_16 rfl ?_
    refine k_get C hw 0 rfl rfl wiX5 3 (by decide) wfX5_23 rfl dX5_addThing_17 ?_
    refine lv_iconst (v := (1 : Int32)) hx hb dX5_addThing_20 (by decide) ?_
    refine lv_iadd hx hb dX5_addThing_21 ?_
    refine lv_topi (fun x2 ex2 => ?_)
    have hf := bnd_r ex2 hf
    refine k_put C hw 0 rfl rfl wiX5 tyX5 tyX5_ok nmX5 3 (by decide) wfX5_23 rfl rfl rfl (Nat.le_of_ble_eq_true rfl) dX5_addThing_22 (wX5_addThing dA ht ht_cells ht_places ht_facts t_lands x2 t_placeCount t_apart t_thereFirst t_cells t_facts) rfl (fun H locs hw => ?_)
    refine lv_aload_n hx hb dX5_addThing_25 rfl (lv_at hl 1 rfl) ?_
    refine k_get C hw 0 rfl rfl wiX5 0 (by decide) wfX5_9 rfl dX5_addThing_26 ?_
    refine lv_iload_n hx hb dX5_addThing_29 rfl (lv_at hl 0 rfl) ?_
    refine lv_lconst (v := (0 : Int64)) hx hb dX5_addThing_30 (by decide) ?_
    obtain ⟨g3, hf⟩ := gdi_r hf
    obtain ⟨y4, ey4⟩ : ∃ z : Nat → Int64, z = vp_updL t_cells t_things.toNatClampNeg (0 : Int64) := ⟨_, rfl⟩
    have hf := bnd_r ey4 hf
    refine k_last C hw 1 rfl g3 dX5_addThing_31 y4 ey4 (wX5_addThing dA ht ht_cells ht_places ht_facts t_lands x2 t_placeCount t_apart t_thereFirst y4 t_facts) rfl (fun H locs hw => ?_)
    refine lv_iconst (v := (0 : Int32)) hx hb dX5_addThing_32 (by decide) ?_
    refine lv_istore_n (lv' := [(3, .int (0 : Int32)), (2, .int t_things), (0, .ref ht), (1, .int x1_)]) hx hb dX5_addThing_33 rfl hl (by decide) rfl (fun ls hl => ?_)
    obtain ⟨q8, hq8, hf⟩ := bind_r hf
    refine tX5_addThing_l34 C ht ht_cells ht_places ht_facts hR t_lands x2 t_placeCount t_apart t_thereFirst y4 t_facts x1_ t_things (0 : Int32) N _ _ hq8 ?_ (lv_sub hl [2, 3, 1, 0] rfl) hw
    intro H locs ls hl hw
    refine lv_aload_n hx hb dX5_addThing_53 rfl (lv_at hl 0 rfl) ?_
    refine lv_iload_n hx hb dX5_addThing_54 rfl (lv_at hl 2 rfl) ?_
    refine lv_iconst (v := (0 : Int32)) hx hb dX5_addThing_55 (by decide) ?_
    refine lv_iload_n hx hb dX5_addThing_56 rfl (lv_at hl 1 rfl) ?_
    obtain ⟨o9, ho9, hf⟩ := bind_r hf
    refine k_callVv C hw (n := 3) (As := [.int t_things, .int (0 : Int32), .int x1_]) (w1 := (wX5_addThing dA ht ht_cells ht_places ht_facts t_lands x2 t_placeCount t_apart t_thereFirst y4 o9)) (wr := [(ht_cells, .inl (dA 1, 16, .inr (.inl y4)))]) [0, 2] [1] [1, 0, 2] rfl rfl (by decide) (by decide) (by decide) rfl (by decide) (qX5_tell l D dA ht ht_cells ht_places ht_facts t_lands x2 t_placeCount t_apart t_thereFirst q8 t_things (0 : Int32) x1_ _ ho9) wlX5_45 wmX5_tell wvX5_tell wnX5 wcX5_tell rfl (by decide +kernel) ⟨Nat.le_trans (by decide) hR.1, Nat.le_trans (by decide) hR.2.1⟩ hR.2.2 rfl 0 rfl rfl hl.1 (Nat.le_of_ble_eq_true rfl) dX5_addThing_57 rfl (fun H locs hw => ?_)
    refine lv_aload_n hx hb dX5_addThing_60 rfl (lv_at hl 0 rfl) ?_
    refine lv_iload_n hx hb dX5_addThing_61 rfl (lv_at hl 2 rfl) ?_
    refine lv_iconst (v := (3 : Int32)) hx hb dX5_addThing_62 (by decide) ?_
    refine lv_iconst (v := (0 : Int32)) hx hb dX5_addThing_63 (by decide) ?_
    obtain ⟨o10, ho10, hf⟩ := bind_r hf
    refine k_callVv C hw (n := 3) (As := [.int t_things, .int (3 : Int32), .int (0 : Int32)]) (w1 := (wX5_addThing dA ht ht_cells ht_places ht_facts t_lands x2 t_placeCount t_apart t_thereFirst y4 o10)) (wr := [(ht_cells, .inl (dA 1, 16, .inr (.inl y4)))]) [0, 2] [1] [1, 0, 2] rfl rfl (by decide) (by decide) (by decide) rfl (by decide) (qX5_tell l D dA ht ht_cells ht_places ht_facts t_lands x2 t_placeCount t_apart t_thereFirst o9 t_things (3 : Int32) (0 : Int32) _ ho10) wlX5_45 wmX5_tell wvX5_tell wnX5 wcX5_tell rfl (by decide +kernel) ⟨Nat.le_trans (by decide) hR.1, Nat.le_trans (by decide) hR.2.1⟩ hR.2.2 rfl 0 rfl rfl hl.1 (Nat.le_of_ble_eq_true rfl) dX5_addThing_64 rfl (fun H locs hw => ?_)
    refine lv_aload_n hx hb dX5_addThing_67 rfl (lv_at hl 0 rfl) ?_
    refine lv_iload_n hx hb dX5_addThing_68 rfl (lv_at hl 2 rfl) ?_
    refine lv_iconst (v := (4 : Int32)) hx hb dX5_addThing_69 (by decide) ?_
    refine lv_bipush (v := (100 : Int32)) hx hb dX5_addThing_70 (by decide) ?_
    obtain ⟨o11, ho11, hf⟩ := bind_r hf
    refine k_callVv C hw (n := 3) (As := [.int t_things, .int (4 : Int32), .int (100 : Int32)]) (w1 := (wX5_addThing dA ht ht_cells ht_places ht_facts t_lands x2 t_placeCount t_apart t_thereFirst y4 o11)) (wr := [(ht_cells, .inl (dA 1, 16, .inr (.inl y4)))]) [0, 2] [1] [1, 0, 2] rfl rfl (by decide) (by decide) (by decide) rfl (by decide) (qX5_tell l D dA ht ht_cells ht_places ht_facts t_lands x2 t_placeCount t_apart t_thereFirst o10 t_things (4 : Int32) (100 : Int32) _ ho11) wlX5_45 wmX5_tell wvX5_tell wnX5 wcX5_tell rfl (by decide +kernel) ⟨Nat.le_trans (by decide) hR.1, Nat.le_trans (by decide) hR.2.1⟩ hR.2.2 rfl 0 rfl rfl hl.1 (Nat.le_of_ble_eq_true rfl) dX5_addThing_72 rfl (fun H locs hw => ?_)
    refine lv_aload_n hx hb dX5_addThing_75 rfl (lv_at hl 0 rfl) ?_
    refine lv_iload_n hx hb dX5_addThing_76 rfl (lv_at hl 2 rfl) ?_
    refine lv_iconst (v := (5 : Int32)) hx hb dX5_addThing_77 (by decide) ?_
    refine lv_iconst (v := (5 : Int32)) hx hb dX5_addThing_78 (by decide) ?_
    obtain ⟨o12, ho12, hf⟩ := bind_r hf
    refine k_callVv C hw (n := 3) (As := [.int t_things, .int (5 : Int32), .int (5 : Int32)]) (w1 := (wX5_addThing dA ht ht_cells ht_places ht_facts t_lands x2 t_placeCount t_apart t_thereFirst y4 o12)) (wr := [(ht_cells, .inl (dA 1, 16, .inr (.inl y4)))]) [0, 2] [1] [1, 0, 2] rfl rfl (by decide) (by decide) (by decide) rfl (by decide) (qX5_tell l D dA ht ht_cells ht_places ht_facts t_lands x2 t_placeCount t_apart t_thereFirst o11 t_things (5 : Int32) (5 : Int32) _ ho12) wlX5_45 wmX5_tell wvX5_tell wnX5 wcX5_tell rfl (by decide +kernel) ⟨Nat.le_trans (by decide) hR.1, Nat.le_trans (by decide) hR.2.1⟩ hR.2.2 rfl 0 rfl rfl hl.1 (Nat.le_of_ble_eq_true rfl) dX5_addThing_79 rfl (fun H locs hw => ?_)
    refine lv_aload_n hx hb dX5_addThing_82 rfl (lv_at hl 0 rfl) ?_
    refine lv_iload_n hx hb dX5_addThing_83 rfl (lv_at hl 2 rfl) ?_
    refine lv_bipush (v := (6 : Int32)) hx hb dX5_addThing_84 (by decide) ?_
    refine lv_bipush (v := (50 : Int32)) hx hb dX5_addThing_86 (by decide) ?_
    obtain ⟨o13, ho13, hf⟩ := bind_r hf
    refine k_callVv C hw (n := 3) (As := [.int t_things, .int (6 : Int32), .int (50 : Int32)]) (w1 := (wX5_addThing dA ht ht_cells ht_places ht_facts t_lands x2 t_placeCount t_apart t_thereFirst y4 o13)) (wr := [(ht_cells, .inl (dA 1, 16, .inr (.inl y4)))]) [0, 2] [1] [1, 0, 2] rfl rfl (by decide) (by decide) (by decide) rfl (by decide) (qX5_tell l D dA ht ht_cells ht_places ht_facts t_lands x2 t_placeCount t_apart t_thereFirst o12 t_things (6 : Int32) (50 : Int32) _ ho13) wlX5_45 wmX5_tell wvX5_tell wnX5 wcX5_tell rfl (by decide +kernel) ⟨Nat.le_trans (by decide) hR.1, Nat.le_trans (by decide) hR.2.1⟩ hR.2.2 rfl 0 rfl rfl hl.1 (Nat.le_of_ble_eq_true rfl) dX5_addThing_88 rfl (fun H locs hw => ?_)
    refine lv_aload_n hx hb dX5_addThing_91 rfl (lv_at hl 0 rfl) ?_
    refine lv_iload_n hx hb dX5_addThing_92 rfl (lv_at hl 2 rfl) ?_
    refine lv_bipush (v := (7 : Int32)) hx hb dX5_addThing_93 (by decide) ?_
    refine lv_iconst (v := (1 : Int32)) hx hb dX5_addThing_95 (by decide) ?_
    obtain ⟨o14, ho14, hf⟩ := bind_r hf
    refine k_callVv C hw (n := 3) (As := [.int t_things, .int (7 : Int32), .int (1 : Int32)]) (w1 := (wX5_addThing dA ht ht_cells ht_places ht_facts t_lands x2 t_placeCount t_apart t_thereFirst y4 o14)) (wr := [(ht_cells, .inl (dA 1, 16, .inr (.inl y4)))]) [0, 2] [1] [1, 0, 2] rfl rfl (by decide) (by decide) (by decide) rfl (by decide) (qX5_tell l D dA ht ht_cells ht_places ht_facts t_lands x2 t_placeCount t_apart t_thereFirst o13 t_things (7 : Int32) (1 : Int32) _ ho14) wlX5_45 wmX5_tell wvX5_tell wnX5 wcX5_tell rfl (by decide +kernel) ⟨Nat.le_trans (by decide) hR.1, Nat.le_trans (by decide) hR.2.1⟩ hR.2.2 rfl 0 rfl rfl hl.1 (Nat.le_of_ble_eq_true rfl) dX5_addThing_96 rfl (fun H locs hw => ?_)
    obtain rfl := some_r hf
    exact hK _ _ _ _ dX5_addThing_99 hw
  · have hf := ite_f c1 hf
    obtain rfl := some_r hf
    exact hK _ _ _ _ dX5_addThing_9 hw

/-! RingPlaces$Ring.addCells(III)V -/
abbrev wX5_addCells (dA : Nat → ClassId) (ht ht_cells ht_places ht_facts : Nat) (t_lands : Int32) (t_things : Int32) (t_placeCount : Int32) (t_apart : Int32) (t_thereFirst : Int32) (t_cells : (Nat → Int64)) : va_W := [(ht, .inr (5, [.ref ht_cells, .ref ht_places, .int t_lands, .int t_things, .int t_placeCount, .int t_apart, .int t_thereFirst, .ref ht_facts])), (ht_cells, .inl (dA 1, 16, .inr (.inl t_cells)))]
def fX5_addCells_l3b (N : Nat) (v1 : Int32) (v3 : Int32) (t_cells : (Nat → Int64)) (v4 : Int32) : Option (((Nat → Int64) × Int32) ⊕ ((Nat → Int64))) := (if v3 < v4 then some (.inr t_cells) else gdi v1 16 (gdi v1 16 (bnd (vp_updL t_cells v1.toNatClampNeg ((t_cells v1.toNatClampNeg) ||| ((1 : Int64) <<< (v4.toInt64 &&& 63)))) fun y4 => bnd (v4 + (1 : Int32)) fun x5 => some (.inl (y4, x5)))))
def fX5_addCells (N : Nat) (t_cells : (Nat → Int64)) (x1_ : Int32) (x2_ : Int32) (x3_ : Int32) : Option ((Nat → Int64)) := (itr (fun z => fX5_addCells_l3b N x1_ x3_ z.1 z.2) N (t_cells, x2_)).bind fun q6 => some q6
set_option maxHeartbeats 4000000 in
set_option maxRecDepth 100000 in
theorem tX5_addCells_l3b {p : Program} {l : Launch} {e : Env} {R : Room} {s : State} {m : MethodId} {args : Array Value} {below : List Frame} {meth : Method} {c : Code} {D : va_G} {dA : Nat → ClassId} {w0 : va_W} {Q : State → Prop} {H : Heap} {locs : List Loc} {ls : Array Slot} {cells slots : Nat} (C : CX p s m args meth c cX5_addCells 5 none RX5 D dA) (ht ht_cells ht_places ht_facts : Nat) (hR : 0 ≤ R.frames ∧ 0 ≤ R.locals ∧ cells ≤ R.cells ∧ slots ≤ R.slots)  (t_lands : Int32) (t_things : Int32) (t_placeCount : Int32) (t_apart : Int32) (t_thereFirst : Int32) (t_cells : (Nat → Int64)) (v1 : Int32) (v3 : Int32) (v4 : Int32) (N : Nat) (res : (((Nat → Int64) × Int32) ⊕ ((Nat → Int64)))) (hf : fX5_addCells_l3b N v1 v3 t_cells v4 = some res) (hK : Sum.elim (fun z => (∀ (H : Heap) (locs : List Loc) (ls : Array Slot), lv_has ls 5 [(0, .ref ht), (1, .int v1), (3, .int v3), (4, .int z.2)] → St D w0 s (wX5_addCells dA ht ht_cells ht_places ht_facts t_lands t_things t_placeCount t_apart t_thereFirst z.1) H locs → W p l e R s m args below meth c H locs cells slots Q (F0 m 3 ls []))) (fun r => (∀ (H : Heap) (locs : List Loc) (ls : Array Slot), lv_has ls 5 [] → St D w0 s (wX5_addCells dA ht ht_cells ht_places ht_facts t_lands t_things t_placeCount t_apart t_thereFirst r) H locs → W p l e R s m args below meth c H locs cells slots Q (F0 m 28 ls []))) res) (hl : lv_has ls 5 [(0, .ref ht), (1, .int v1), (3, .int v3), (4, .int v4)]) (hw : St D w0 s (wX5_addCells dA ht ht_cells ht_places ht_facts t_lands t_things t_placeCount t_apart t_thereFirst t_cells) H locs) : W p l e R s m args below meth c H locs cells slots Q (F0 m 3 ls []) := by
  have hx := C.1
  have hb := C.2.1
  have hml := C.2.2.1
  have hown := C.2.2.2.1
  have hts := C.2.2.2.2.1
  unfold fX5_addCells_l3b at hf
  refine lv_iload hx hb dX5_addCells_3 (lv_at hl 3 rfl) ?_
  refine lv_iload_n hx hb dX5_addCells_5 rfl (lv_at hl 2 rfl) ?_
  refine lv_icmp_gt (tgt := 28) hx hb dX5_addCells_6 (by decide) (fun c1 => ?_) (fun c1 => ?_)
  · have hf := ite_t c1 hf
    obtain rfl := some_r hf
    exact hK _ _ _ (lv_sub hl [] rfl) hw
  · have hf := ite_f c1 hf
    refine lv_aload_n hx hb dX5_addCells_9 rfl (lv_at hl 0 rfl) ?_
    refine k_get C hw 0 rfl rfl wiX5 0 (by decide) wfX5_9 rfl dX5_addCells_10 ?_
    refine lv_iload_n hx hb dX5_addCells_13 rfl (lv_at hl 1 rfl) ?_
    refine lv_dup2_11 hx hb dX5_addCells_14 rfl rfl ?_
    obtain ⟨g2, hf⟩ := gdi_r hf
    refine k_lald C hw 1 rfl g2 dX5_addCells_15 ?_
    refine lv_lconst (v := (1 : Int64)) hx hb dX5_addCells_16 (by decide) ?_
    refine lv_iload hx hb dX5_addCells_17 (lv_at hl 3 rfl) ?_
    refine lv_lshl hx hb dX5_addCells_19 rfl ?_
    refine lv_lor hx hb dX5_addCells_20 ?_
    obtain ⟨g3, hf⟩ := gdi_r hf
    obtain ⟨y4, ey4⟩ : ∃ z : Nat → Int64, z = vp_updL t_cells v1.toNatClampNeg ((t_cells v1.toNatClampNeg) ||| ((1 : Int64) <<< (v4.toInt64 &&& 63))) := ⟨_, rfl⟩
    have hf := bnd_r ey4 hf
    refine k_last C hw 1 rfl g3 dX5_addCells_21 y4 ey4 (wX5_addCells dA ht ht_cells ht_places ht_facts t_lands t_things t_placeCount t_apart t_thereFirst y4) rfl (fun H locs hw => ?_)
    obtain ⟨x5, ex5⟩ : ∃ y : Int32, y = v4 + (1 : Int32) := ⟨_, rfl⟩
    have hf := bnd_r ex5 hf
    refine lv_iinc (v := x5) (lv' := [(4, .int x5), (0, .ref ht), (1, .int v1), (3, .int v3)]) hx hb dX5_addCells_22 hl (k := 3) rfl (by rw [ex5]; rfl) (by decide) rfl (fun ls hl => ?_)
    refine lv_goto (tgt := 3) hx hb dX5_addCells_25 (by decide) ?_
    obtain rfl := some_r hf
    exact hK _ _ _ (lv_sub hl [1, 2, 3, 0] rfl) hw
set_option maxHeartbeats 4000000 in
theorem tX5_addCells_l3 {p : Program} {l : Launch} {e : Env} {R : Room} {s : State} {m : MethodId} {args : Array Value} {below : List Frame} {meth : Method} {c : Code} {D : va_G} {dA : Nat → ClassId} {w0 : va_W} {Q : State → Prop} {H : Heap} {locs : List Loc} {ls : Array Slot} {cells slots : Nat} (C : CX p s m args meth c cX5_addCells 5 none RX5 D dA) (ht ht_cells ht_places ht_facts : Nat) (hR : 0 ≤ R.frames ∧ 0 ≤ R.locals ∧ cells ≤ R.cells ∧ slots ≤ R.slots)  (t_lands : Int32) (t_things : Int32) (t_placeCount : Int32) (t_apart : Int32) (t_thereFirst : Int32) (t_cells : (Nat → Int64)) (v1 : Int32) (v3 : Int32) (v4 : Int32) (N n : Nat) (res : ((Nat → Int64))) (hf : itr (fun z => fX5_addCells_l3b N v1 v3 z.1 z.2) n (t_cells, v4) = some res) (hK : (∀ (H : Heap) (locs : List Loc) (ls : Array Slot), lv_has ls 5 [] → St D w0 s (wX5_addCells dA ht ht_cells ht_places ht_facts t_lands t_things t_placeCount t_apart t_thereFirst res) H locs → W p l e R s m args below meth c H locs cells slots Q (F0 m 28 ls []))) (hl : lv_has ls 5 [(0, .ref ht), (1, .int v1), (3, .int v3), (4, .int v4)]) (hw : St D w0 s (wX5_addCells dA ht ht_cells ht_places ht_facts t_lands t_things t_placeCount t_apart t_thereFirst t_cells) H locs) : W p l e R s m args below meth c H locs cells slots Q (F0 m 3 ls []) :=
  itr_W (P := fun (z : ((Nat → Int64) × Int32)) => (∀ (H : Heap) (locs : List Loc) (ls : Array Slot), lv_has ls 5 [(0, .ref ht), (1, .int v1), (3, .int v3), (4, .int z.2)] → St D w0 s (wX5_addCells dA ht ht_cells ht_places ht_facts t_lands t_things t_placeCount t_apart t_thereFirst z.1) H locs → W p l e R s m args below meth c H locs cells slots Q (F0 m 3 ls []))) (K := fun res => (∀ (H : Heap) (locs : List Loc) (ls : Array Slot), lv_has ls 5 [] → St D w0 s (wX5_addCells dA ht ht_cells ht_places ht_facts t_lands t_things t_placeCount t_apart t_thereFirst res) H locs → W p l e R s m args below meth c H locs cells slots Q (F0 m 28 ls []))) (fun z r hf hK H locs ls hl hw => tX5_addCells_l3b C ht ht_cells ht_places ht_facts hR t_lands t_things t_placeCount t_apart t_thereFirst z.1 v1 v3 z.2 N r hf (by cases r with
    | inl r => exact hK
    | inr r => exact hK) hl hw) n _ res hf hK H locs ls hl hw
set_option maxHeartbeats 4000000 in
set_option maxRecDepth 100000 in
theorem qX5_addCells (l : Launch) (D : va_G) (dA : Nat → ClassId) (ht ht_cells ht_places ht_facts : Nat) (t_lands : Int32) (t_things : Int32) (t_placeCount : Int32) (t_apart : Int32) (t_thereFirst : Int32) (t_cells : (Nat → Int64)) (x1_ : Int32) (x2_ : Int32) (x3_ : Int32) (N : Nat) (o : (Nat → Int64)) (hf : fX5_addCells N t_cells x1_ x2_ x3_ = some o) : Mv l D dA yX5_addCells (Cond.code yX5_addCells cX5_addCells 5 none :: wA) 0 0 [.ref ht, .int x1_, .int x2_, .int x3_] (wX5_addCells dA ht ht_cells ht_places ht_facts t_lands t_things t_placeCount t_apart t_thereFirst t_cells) (wX5_addCells dA ht ht_cells ht_places ht_facts t_lands t_things t_placeCount t_apart t_thereFirst o) := by
  intro sz
  refine M_of (cc := cX5_addCells) (nL := 5) (ret := none) (own := RX5) (by decide +kernel) rfl (Nat.le_of_ble_eq_true rfl) ?_
  intro p e s m below meth c ls hsz C hw hl
  subst hsz
  have hR : 0 ≤ (rmm 0 0).frames ∧ 0 ≤ (rmm 0 0).locals ∧ 0 ≤ (rmm 0 0).cells ∧ 0 ≤ (rmm 0 0).slots := ⟨Nat.le_refl _, Nat.le_refl _, Nat.le_refl _, Nat.le_refl _⟩
  have hl : lv_has ls 5 [(0, .ref ht), (1, .int x1_), (2, .int x2_), (3, .int x3_)] := hl
  have hx := C.1
  have hb := C.2.1
  have hml := C.2.2.1
  have hown := C.2.2.2.1
  have hts := C.2.2.2.2.1
  have hK : ∀ (H : Heap) (locs : List Loc) (pc : Nat) (ls : Array Slot), decode cX5_addCells pc = .ok (.return_, 1) → St D (wX5_addCells dA ht ht_cells ht_places ht_facts t_lands t_things t_placeCount t_apart t_thereFirst t_cells) s (wX5_addCells dA ht ht_cells ht_places ht_facts t_lands t_things t_placeCount t_apart t_thereFirst o) H locs → W p l e (rmm 0 0) s m [.ref ht, .int x1_, .int x2_, .int x3_].toArray below meth c H locs 0 0 (MQ below (Qv D (wX5_addCells dA ht ht_cells ht_places ht_facts t_lands t_things t_placeCount t_apart t_thereFirst t_cells) (wX5_addCells dA ht ht_cells ht_places ht_facts t_lands t_things t_placeCount t_apart t_thereFirst o) s.heap.size) [.ref ht, .int x1_, .int x2_, .int x3_].toArray s 0 0 (va_A (wX5_addCells dA ht ht_cells ht_places ht_facts t_lands t_things t_placeCount t_apart t_thereFirst t_cells) s.heap.size)) (F0 m pc ls []) := fun H locs pc ls hd hw => k_vret C hw hd
  unfold fX5_addCells at hf
  refine lv_iload_n hx hb dX5_addCells_0 rfl (lv_at hl 2 rfl) ?_
  refine lv_istore (lv' := [(4, .int x2_), (0, .ref ht), (1, .int x1_), (2, .int x2_), (3, .int x3_)]) hx hb dX5_addCells_1 hl (by decide) rfl (fun ls hl => ?_)
  obtain ⟨q6, hq6, hf⟩ := bind_r hf
  refine tX5_addCells_l3 C ht ht_cells ht_places ht_facts hR t_lands t_things t_placeCount t_apart t_thereFirst t_cells x1_ x3_ x2_ N _ _ hq6 ?_ (lv_sub hl [1, 2, 4, 0] rfl) hw
  intro H locs ls hl hw
  obtain rfl := some_r hf
  exact hK _ _ _ _ dX5_addCells_28 hw

/-! RingPlaces$Ring.addVoice(II)V -/
abbrev wX5_addVoice (dA : Nat → ClassId) (ht ht_cells ht_places ht_facts : Nat) (t_lands : Int32) (t_things : Int32) (t_placeCount : Int32) (t_apart : Int32) (t_thereFirst : Int32) (t_facts : (Nat → Int32)) : va_W := [(ht, .inr (5, [.ref ht_cells, .ref ht_places, .int t_lands, .int t_things, .int t_placeCount, .int t_apart, .int t_thereFirst, .ref ht_facts])), (ht_facts, .inl (dA 0, 224, .inl t_facts))]
def fX5_addVoice (t_facts : (Nat → Int32)) (x1_ : Int32) (x2_ : Int32) : Option ((Nat → Int32)) := (fX5_told t_facts x1_ (3 : Int32)).bind fun o1 => (fX5_tell t_facts x1_ (3 : Int32) (o1 ||| ((1 : Int32) <<< (x2_ &&& 31)))).bind fun o2 => some o2
set_option maxHeartbeats 4000000 in
set_option maxRecDepth 100000 in
theorem qX5_addVoice (l : Launch) (D : va_G) (dA : Nat → ClassId) (ht ht_cells ht_places ht_facts : Nat) (t_lands : Int32) (t_things : Int32) (t_placeCount : Int32) (t_apart : Int32) (t_thereFirst : Int32) (t_facts : (Nat → Int32)) (x1_ : Int32) (x2_ : Int32) (o : (Nat → Int32)) (hf : fX5_addVoice t_facts x1_ x2_ = some o) : Mv l D dA yX5_addVoice (Cond.code yX5_addVoice cX5_addVoice 3 none :: wA) 1 24 [.ref ht, .int x1_, .int x2_] (wX5_addVoice dA ht ht_cells ht_places ht_facts t_lands t_things t_placeCount t_apart t_thereFirst t_facts) (wX5_addVoice dA ht ht_cells ht_places ht_facts t_lands t_things t_placeCount t_apart t_thereFirst o) := by
  intro sz
  refine M_of (cc := cX5_addVoice) (nL := 3) (ret := none) (own := RX5) (by decide +kernel) rfl (Nat.le_of_ble_eq_true rfl) ?_
  intro p e s m below meth c ls hsz C hw hl
  subst hsz
  have hR : 1 ≤ (rmm 1 24).frames ∧ 24 ≤ (rmm 1 24).locals ∧ 0 ≤ (rmm 1 24).cells ∧ 0 ≤ (rmm 1 24).slots := ⟨Nat.le_refl _, Nat.le_refl _, Nat.le_refl _, Nat.le_refl _⟩
  have hl : lv_has ls 3 [(0, .ref ht), (1, .int x1_), (2, .int x2_)] := hl
  have hx := C.1
  have hb := C.2.1
  have hml := C.2.2.1
  have hown := C.2.2.2.1
  have hts := C.2.2.2.2.1
  have hK : ∀ (H : Heap) (locs : List Loc) (pc : Nat) (ls : Array Slot), decode cX5_addVoice pc = .ok (.return_, 1) → St D (wX5_addVoice dA ht ht_cells ht_places ht_facts t_lands t_things t_placeCount t_apart t_thereFirst t_facts) s (wX5_addVoice dA ht ht_cells ht_places ht_facts t_lands t_things t_placeCount t_apart t_thereFirst o) H locs → W p l e (rmm 1 24) s m [.ref ht, .int x1_, .int x2_].toArray below meth c H locs 0 0 (MQ below (Qv D (wX5_addVoice dA ht ht_cells ht_places ht_facts t_lands t_things t_placeCount t_apart t_thereFirst t_facts) (wX5_addVoice dA ht ht_cells ht_places ht_facts t_lands t_things t_placeCount t_apart t_thereFirst o) s.heap.size) [.ref ht, .int x1_, .int x2_].toArray s 0 0 (va_A (wX5_addVoice dA ht ht_cells ht_places ht_facts t_lands t_things t_placeCount t_apart t_thereFirst t_facts) s.heap.size)) (F0 m pc ls []) := fun H locs pc ls hd hw => k_vret C hw hd
  unfold fX5_addVoice at hf
  refine lv_aload_n hx hb dX5_addVoice_0 rfl (lv_at hl 0 rfl) ?_
  refine lv_iload_n hx hb dX5_addVoice_1 rfl (lv_at hl 1 rfl) ?_
  refine lv_iconst (v := (3 : Int32)) hx hb dX5_addVoice_2 (by decide) ?_
  refine lv_aload_n hx hb dX5_addVoice_3 rfl (lv_at hl 0 rfl) ?_
  refine lv_iload_n hx hb dX5_addVoice_4 rfl (lv_at hl 1 rfl) ?_
  refine lv_iconst (v := (3 : Int32)) hx hb dX5_addVoice_5 (by decide) ?_
  obtain ⟨o1, ho1, hf⟩ := bind_r hf
  refine k_callVi C hw (n := 2) (As := [.int x1_, .int (3 : Int32)]) (w1 := (wX5_addVoice dA ht ht_cells ht_places ht_facts t_lands t_things t_placeCount t_apart t_thereFirst t_facts)) (wr := []) [0, 1] [] [0, 1] rfl rfl (by decide) (by decide) (by decide) rfl (by decide) (qX5_told l D dA ht ht_cells ht_places ht_facts t_lands t_things t_placeCount t_apart t_thereFirst t_facts x1_ (3 : Int32) _ ho1) wlX5_49 wmX5_told wvX5_told wnX5 wcX5_told rfl (by decide +kernel) ⟨Nat.le_trans (by decide) hR.1, Nat.le_trans (by decide) hR.2.1⟩ hR.2.2 rfl 0 rfl rfl hl.1 (Nat.le_of_ble_eq_true rfl) dX5_addVoice_6 rfl (fun H locs hw => ?_)
  refine lv_iconst (v := (1 : Int32)) hx hb dX5_addVoice_9 (by decide) ?_
  refine lv_iload_n hx hb dX5_addVoice_10 rfl (lv_at hl 2 rfl) ?_
  refine lv_ishl hx hb dX5_addVoice_11 ?_
  refine lv_ior hx hb dX5_addVoice_12 ?_
  obtain ⟨o2, ho2, hf⟩ := bind_r hf
  refine k_callVv C hw (n := 3) (As := [.int x1_, .int (3 : Int32), .int (o1 ||| ((1 : Int32) <<< (x2_ &&& 31)))]) (w1 := (wX5_addVoice dA ht ht_cells ht_places ht_facts t_lands t_things t_placeCount t_apart t_thereFirst o2)) (wr := []) [0, 1] [] [0, 1] rfl rfl (by decide) (by decide) (by decide) rfl (by decide) (qX5_tell l D dA ht ht_cells ht_places ht_facts t_lands t_things t_placeCount t_apart t_thereFirst t_facts x1_ (3 : Int32) (o1 ||| ((1 : Int32) <<< (x2_ &&& 31))) _ ho2) wlX5_45 wmX5_tell wvX5_tell wnX5 wcX5_tell rfl (by decide +kernel) ⟨Nat.le_trans (by decide) hR.1, Nat.le_trans (by decide) hR.2.1⟩ hR.2.2 rfl 0 rfl rfl hl.1 (Nat.le_of_ble_eq_true rfl) dX5_addVoice_13 rfl (fun H locs hw => ?_)
  obtain rfl := some_r hf
  exact hK _ _ _ _ dX5_addVoice_16 hw

/-! RingPlaces$Ring.hasPlaceAt(I)Z -/
abbrev wX5_hasPlaceAt (dA : Nat → ClassId) (ht ht_cells ht_places ht_facts : Nat) (t_lands : Int32) (t_things : Int32) (t_placeCount : Int32) (t_apart : Int32) (t_thereFirst : Int32) (t_places : (Nat → Int32)) : va_W := [(ht, .inr (5, [.ref ht_cells, .ref ht_places, .int t_lands, .int t_things, .int t_placeCount, .int t_apart, .int t_thereFirst, .ref ht_facts])), (ht_places, .inl (dA 0, 6, .inl t_places))]
def fX5_hasPlaceAt_l2b (N : Nat) (t_placeCount : Int32) (t_places : (Nat → Int32)) (v1 : Int32) (v2 : Int32) : Option ((Int32) ⊕ ((Unit) ⊕ (Int32))) := (if t_placeCount ≤ v2 then some (.inr (.inl ())) else gdi v2 6 ((if (t_places v2.toNatClampNeg) = v1 then some (.inr (.inr (1 : Int32))) else bnd (v2 + (1 : Int32)) fun x4 => some (.inl x4))))
def fX5_hasPlaceAt (N : Nat) (t_placeCount : Int32) (t_places : (Nat → Int32)) (x1_ : Int32) : Option (Int32) := (itr (fun z => fX5_hasPlaceAt_l2b N t_placeCount t_places x1_ z) N (0 : Int32)).bind fun q5 => Sum.elim (fun q5 => some (0 : Int32)) (fun q5 => some q5) q5
set_option maxHeartbeats 4000000 in
set_option maxRecDepth 100000 in
theorem tX5_hasPlaceAt_l2b {p : Program} {l : Launch} {e : Env} {R : Room} {s : State} {m : MethodId} {args : Array Value} {below : List Frame} {meth : Method} {c : Code} {D : va_G} {dA : Nat → ClassId} {w0 : va_W} {Q : State → Prop} {H : Heap} {locs : List Loc} {ls : Array Slot} {cells slots : Nat} (C : CX p s m args meth c cX5_hasPlaceAt 3 (some .boolean) RX5 D dA) (ht ht_cells ht_places ht_facts : Nat) (hR : 0 ≤ R.frames ∧ 0 ≤ R.locals ∧ cells ≤ R.cells ∧ slots ≤ R.slots)  (t_lands : Int32) (t_things : Int32) (t_placeCount : Int32) (t_apart : Int32) (t_thereFirst : Int32) (t_places : (Nat → Int32)) (v1 : Int32) (v2 : Int32) (N : Nat) (res : ((Int32) ⊕ ((Unit) ⊕ (Int32)))) (hf : fX5_hasPlaceAt_l2b N t_placeCount t_places v1 v2 = some res) (hK : Sum.elim (fun z => (∀ (H : Heap) (locs : List Loc) (ls : Array Slot), lv_has ls 3 [(0, .ref ht), (1, .int v1), (2, .int z)] → St D w0 s (wX5_hasPlaceAt dA ht ht_cells ht_places ht_facts t_lands t_things t_placeCount t_apart t_thereFirst t_places) H locs → W p l e R s m args below meth c H locs cells slots Q (F0 m 2 ls []))) (fun r => Sum.elim (fun q => (∀ (H : Heap) (locs : List Loc) (ls : Array Slot), lv_has ls 3 [] → St D w0 s (wX5_hasPlaceAt dA ht ht_cells ht_places ht_facts t_lands t_things t_placeCount t_apart t_thereFirst t_places) H locs → W p l e R s m args below meth c H locs cells slots Q (F0 m 28 ls []))) (fun o => (∀ (H : Heap) (locs : List Loc) (pc : Nat) (ls : Array Slot), (o = 0 ∨ o = 1) → decode cX5_hasPlaceAt pc = .ok (.ireturn, 1) → St D w0 s (wX5_hasPlaceAt dA ht ht_cells ht_places ht_facts t_lands t_things t_placeCount t_apart t_thereFirst t_places) H locs → W p l e R s m args below meth c H locs cells slots Q (F0 m pc ls [.int o]))) r) res) (hl : lv_has ls 3 [(0, .ref ht), (1, .int v1), (2, .int v2)]) (hw : St D w0 s (wX5_hasPlaceAt dA ht ht_cells ht_places ht_facts t_lands t_things t_placeCount t_apart t_thereFirst t_places) H locs) : W p l e R s m args below meth c H locs cells slots Q (F0 m 2 ls []) := by
  have hx := C.1
  have hb := C.2.1
  have hml := C.2.2.1
  have hown := C.2.2.2.1
  have hts := C.2.2.2.2.1
  unfold fX5_hasPlaceAt_l2b at hf
  refine lv_iload_n hx hb dX5_hasPlaceAt_2 rfl (lv_at hl 2 rfl) ?_
  refine lv_aload_n hx hb dX5_hasPlaceAt_3 rfl (lv_at hl 0 rfl) ?_
  refine k_get C hw 0 rfl rfl wiX5 4 (by decide) wfX5_26 rfl dX5_hasPlaceAt_4 ?_
  refine lv_icmp_ge (tgt := 28) hx hb dX5_hasPlaceAt_7 (by decide) (fun c1 => ?_) (fun c1 => ?_)
  · have hf := ite_t c1 hf
    obtain rfl := some_r hf
    exact hK _ _ _ (lv_sub hl [] rfl) hw
  · have hf := ite_f c1 hf
    refine lv_aload_n hx hb dX5_hasPlaceAt_10 rfl (lv_at hl 0 rfl) ?_
    refine k_get C hw 0 rfl rfl wiX5 1 (by decide) wfX5_15 rfl dX5_hasPlaceAt_11 ?_
    refine lv_iload_n hx hb dX5_hasPlaceAt_14 rfl (lv_at hl 2 rfl) ?_
    obtain ⟨g2, hf⟩ := gdi_r hf
    refine k_iald C hw 1 rfl g2 dX5_hasPlaceAt_15 ?_
    refine lv_iload_n hx hb dX5_hasPlaceAt_16 rfl (lv_at hl 1 rfl) ?_
    refine lv_icmp_ne (tgt := 22) hx hb dX5_hasPlaceAt_17 (by decide) (fun c3 => ?_) (fun c3 => ?_)
    · have hf := ite_f c3 hf
      obtain ⟨x4, ex4⟩ : ∃ y : Int32, y = v2 + (1 : Int32) := ⟨_, rfl⟩
      have hf := bnd_r ex4 hf
      refine lv_iinc (v := x4) (lv' := [(2, .int x4), (0, .ref ht), (1, .int v1)]) hx hb dX5_hasPlaceAt_22 hl (k := 2) rfl (by rw [ex4]; rfl) (by decide) rfl (fun ls hl => ?_)
      refine lv_goto (tgt := 2) hx hb dX5_hasPlaceAt_25 (by decide) ?_
      obtain rfl := some_r hf
      exact hK _ _ _ (lv_sub hl [1, 2, 0] rfl) hw
    · have hf := ite_t c3 hf
      refine lv_iconst (v := (1 : Int32)) hx hb dX5_hasPlaceAt_20 (by decide) ?_
      obtain rfl := some_r hf
      exact hK _ _ _ _ (Or.inr rfl) dX5_hasPlaceAt_21 hw
set_option maxHeartbeats 4000000 in
theorem tX5_hasPlaceAt_l2 {p : Program} {l : Launch} {e : Env} {R : Room} {s : State} {m : MethodId} {args : Array Value} {below : List Frame} {meth : Method} {c : Code} {D : va_G} {dA : Nat → ClassId} {w0 : va_W} {Q : State → Prop} {H : Heap} {locs : List Loc} {ls : Array Slot} {cells slots : Nat} (C : CX p s m args meth c cX5_hasPlaceAt 3 (some .boolean) RX5 D dA) (ht ht_cells ht_places ht_facts : Nat) (hR : 0 ≤ R.frames ∧ 0 ≤ R.locals ∧ cells ≤ R.cells ∧ slots ≤ R.slots)  (t_lands : Int32) (t_things : Int32) (t_placeCount : Int32) (t_apart : Int32) (t_thereFirst : Int32) (t_places : (Nat → Int32)) (v1 : Int32) (v2 : Int32) (N n : Nat) (res : ((Unit) ⊕ (Int32))) (hf : itr (fun z => fX5_hasPlaceAt_l2b N t_placeCount t_places v1 z) n v2 = some res) (hK : Sum.elim (fun q => (∀ (H : Heap) (locs : List Loc) (ls : Array Slot), lv_has ls 3 [] → St D w0 s (wX5_hasPlaceAt dA ht ht_cells ht_places ht_facts t_lands t_things t_placeCount t_apart t_thereFirst t_places) H locs → W p l e R s m args below meth c H locs cells slots Q (F0 m 28 ls []))) (fun o => (∀ (H : Heap) (locs : List Loc) (pc : Nat) (ls : Array Slot), (o = 0 ∨ o = 1) → decode cX5_hasPlaceAt pc = .ok (.ireturn, 1) → St D w0 s (wX5_hasPlaceAt dA ht ht_cells ht_places ht_facts t_lands t_things t_placeCount t_apart t_thereFirst t_places) H locs → W p l e R s m args below meth c H locs cells slots Q (F0 m pc ls [.int o]))) res) (hl : lv_has ls 3 [(0, .ref ht), (1, .int v1), (2, .int v2)]) (hw : St D w0 s (wX5_hasPlaceAt dA ht ht_cells ht_places ht_facts t_lands t_things t_placeCount t_apart t_thereFirst t_places) H locs) : W p l e R s m args below meth c H locs cells slots Q (F0 m 2 ls []) :=
  itr_W (P := fun (z : (Int32)) => (∀ (H : Heap) (locs : List Loc) (ls : Array Slot), lv_has ls 3 [(0, .ref ht), (1, .int v1), (2, .int z)] → St D w0 s (wX5_hasPlaceAt dA ht ht_cells ht_places ht_facts t_lands t_things t_placeCount t_apart t_thereFirst t_places) H locs → W p l e R s m args below meth c H locs cells slots Q (F0 m 2 ls []))) (K := fun res => Sum.elim (fun q => (∀ (H : Heap) (locs : List Loc) (ls : Array Slot), lv_has ls 3 [] → St D w0 s (wX5_hasPlaceAt dA ht ht_cells ht_places ht_facts t_lands t_things t_placeCount t_apart t_thereFirst t_places) H locs → W p l e R s m args below meth c H locs cells slots Q (F0 m 28 ls []))) (fun o => (∀ (H : Heap) (locs : List Loc) (pc : Nat) (ls : Array Slot), (o = 0 ∨ o = 1) → decode cX5_hasPlaceAt pc = .ok (.ireturn, 1) → St D w0 s (wX5_hasPlaceAt dA ht ht_cells ht_places ht_facts t_lands t_things t_placeCount t_apart t_thereFirst t_places) H locs → W p l e R s m args below meth c H locs cells slots Q (F0 m pc ls [.int o]))) res) (fun z r hf hK H locs ls hl hw => tX5_hasPlaceAt_l2b C ht ht_cells ht_places ht_facts hR t_lands t_things t_placeCount t_apart t_thereFirst t_places v1 z N r hf (by cases r with
    | inl r => exact hK
    | inr r => exact hK) hl hw) n _ res hf hK H locs ls hl hw
set_option maxHeartbeats 4000000 in
set_option maxRecDepth 100000 in
theorem qX5_hasPlaceAt (l : Launch) (D : va_G) (dA : Nat → ClassId) (ht ht_cells ht_places ht_facts : Nat) (t_lands : Int32) (t_things : Int32) (t_placeCount : Int32) (t_apart : Int32) (t_thereFirst : Int32) (t_places : (Nat → Int32)) (x1_ : Int32) (N : Nat) (o : Int32) (hf : fX5_hasPlaceAt N t_placeCount t_places x1_ = some o) : Mi l D dA yX5_hasPlaceAt (Cond.code yX5_hasPlaceAt cX5_hasPlaceAt 3 (some .boolean) :: wA) 0 0 [.ref ht, .int x1_] (wX5_hasPlaceAt dA ht ht_cells ht_places ht_facts t_lands t_things t_placeCount t_apart t_thereFirst t_places) (wX5_hasPlaceAt dA ht ht_cells ht_places ht_facts t_lands t_things t_placeCount t_apart t_thereFirst t_places) o := by
  intro sz
  refine M_of (cc := cX5_hasPlaceAt) (nL := 3) (ret := (some .boolean)) (own := RX5) (by decide +kernel) rfl (Nat.le_of_ble_eq_true rfl) ?_
  intro p e s m below meth c ls hsz C hw hl
  subst hsz
  have hR : 0 ≤ (rmm 0 0).frames ∧ 0 ≤ (rmm 0 0).locals ∧ 0 ≤ (rmm 0 0).cells ∧ 0 ≤ (rmm 0 0).slots := ⟨Nat.le_refl _, Nat.le_refl _, Nat.le_refl _, Nat.le_refl _⟩
  have hl : lv_has ls 3 [(0, .ref ht), (1, .int x1_)] := hl
  have hx := C.1
  have hb := C.2.1
  have hml := C.2.2.1
  have hown := C.2.2.2.1
  have hts := C.2.2.2.2.1
  have hK : ∀ (H : Heap) (locs : List Loc) (pc : Nat) (ls : Array Slot), (o = 0 ∨ o = 1) → decode cX5_hasPlaceAt pc = .ok (.ireturn, 1) → St D (wX5_hasPlaceAt dA ht ht_cells ht_places ht_facts t_lands t_things t_placeCount t_apart t_thereFirst t_places) s (wX5_hasPlaceAt dA ht ht_cells ht_places ht_facts t_lands t_things t_placeCount t_apart t_thereFirst t_places) H locs → W p l e (rmm 0 0) s m [.ref ht, .int x1_].toArray below meth c H locs 0 0 (MQ below (Qi D (wX5_hasPlaceAt dA ht ht_cells ht_places ht_facts t_lands t_things t_placeCount t_apart t_thereFirst t_places) (wX5_hasPlaceAt dA ht ht_cells ht_places ht_facts t_lands t_things t_placeCount t_apart t_thereFirst t_places) o s.heap.size) [.ref ht, .int x1_].toArray s 0 0 (va_A (wX5_hasPlaceAt dA ht ht_cells ht_places ht_facts t_lands t_things t_placeCount t_apart t_thereFirst t_places) s.heap.size)) (F0 m pc ls [.int o]) := fun H locs pc ls hz hd hw => k_zret C hw hz hd
  unfold fX5_hasPlaceAt at hf
  refine lv_iconst (v := (0 : Int32)) hx hb dX5_hasPlaceAt_0 (by decide) ?_
  refine lv_istore_n (lv' := [(2, .int (0 : Int32)), (0, .ref ht), (1, .int x1_)]) hx hb dX5_hasPlaceAt_1 rfl hl (by decide) rfl (fun ls hl => ?_)
  obtain ⟨q5, hq5, hf⟩ := bind_r hf
  cases q5 with
  | inl q5 =>
    refine tX5_hasPlaceAt_l2 C ht ht_cells ht_places ht_facts hR t_lands t_things t_placeCount t_apart t_thereFirst t_places x1_ (0 : Int32) N _ _ hq5 ?_ (lv_sub hl [1, 2, 0] rfl) hw
    have hf := elim_l hf
    intro H locs ls hl hw
    refine lv_iconst (v := (0 : Int32)) hx hb dX5_hasPlaceAt_28 (by decide) ?_
    obtain rfl := some_r hf
    exact hK _ _ _ _ (Or.inl rfl) dX5_hasPlaceAt_29 hw
  | inr q5 =>
    refine tX5_hasPlaceAt_l2 C ht ht_cells ht_places ht_facts hR t_lands t_things t_placeCount t_apart t_thereFirst t_places x1_ (0 : Int32) N _ _ hq5 ?_ (lv_sub hl [1, 2, 0] rfl) hw
    have hf := elim_r hf
    obtain rfl := some_r hf
    exact hK

/-! RingPlaces$Ring.isDead(I)Z -/
abbrev wX5_isDead (dA : Nat → ClassId) (ht ht_cells ht_places ht_facts : Nat) (t_lands : Int32) (t_things : Int32) (t_placeCount : Int32) (t_apart : Int32) (t_thereFirst : Int32) (t_facts : (Nat → Int32)) : va_W := [(ht, .inr (5, [.ref ht_cells, .ref ht_places, .int t_lands, .int t_things, .int t_placeCount, .int t_apart, .int t_thereFirst, .ref ht_facts])), (ht_facts, .inl (dA 0, 224, .inl t_facts))]
def fX5_isDead (t_facts : (Nat → Int32)) (x1_ : Int32) : Option (Int32) := gdi ((x1_ * (14 : Int32)) + (8 : Int32)) 224 ((if (t_facts ((x1_ * (14 : Int32)) + (8 : Int32)).toNatClampNeg) = (-1 : Int32) then some (0 : Int32) else some (1 : Int32)))
set_option maxHeartbeats 4000000 in
set_option maxRecDepth 100000 in
theorem qX5_isDead (l : Launch) (D : va_G) (dA : Nat → ClassId) (ht ht_cells ht_places ht_facts : Nat) (t_lands : Int32) (t_things : Int32) (t_placeCount : Int32) (t_apart : Int32) (t_thereFirst : Int32) (t_facts : (Nat → Int32)) (x1_ : Int32) (o : Int32) (hf : fX5_isDead t_facts x1_ = some o) : Mi l D dA yX5_isDead (Cond.code yX5_isDead cX5_isDead 2 (some .boolean) :: wA) 0 0 [.ref ht, .int x1_] (wX5_isDead dA ht ht_cells ht_places ht_facts t_lands t_things t_placeCount t_apart t_thereFirst t_facts) (wX5_isDead dA ht ht_cells ht_places ht_facts t_lands t_things t_placeCount t_apart t_thereFirst t_facts) o := by
  intro sz
  refine M_of (cc := cX5_isDead) (nL := 2) (ret := (some .boolean)) (own := RX5) (by decide +kernel) rfl (Nat.le_of_ble_eq_true rfl) ?_
  intro p e s m below meth c ls hsz C hw hl
  subst hsz
  have hR : 0 ≤ (rmm 0 0).frames ∧ 0 ≤ (rmm 0 0).locals ∧ 0 ≤ (rmm 0 0).cells ∧ 0 ≤ (rmm 0 0).slots := ⟨Nat.le_refl _, Nat.le_refl _, Nat.le_refl _, Nat.le_refl _⟩
  have hl : lv_has ls 2 [(0, .ref ht), (1, .int x1_)] := hl
  have hx := C.1
  have hb := C.2.1
  have hml := C.2.2.1
  have hown := C.2.2.2.1
  have hts := C.2.2.2.2.1
  have hK : ∀ (H : Heap) (locs : List Loc) (pc : Nat) (ls : Array Slot), (o = 0 ∨ o = 1) → decode cX5_isDead pc = .ok (.ireturn, 1) → St D (wX5_isDead dA ht ht_cells ht_places ht_facts t_lands t_things t_placeCount t_apart t_thereFirst t_facts) s (wX5_isDead dA ht ht_cells ht_places ht_facts t_lands t_things t_placeCount t_apart t_thereFirst t_facts) H locs → W p l e (rmm 0 0) s m [.ref ht, .int x1_].toArray below meth c H locs 0 0 (MQ below (Qi D (wX5_isDead dA ht ht_cells ht_places ht_facts t_lands t_things t_placeCount t_apart t_thereFirst t_facts) (wX5_isDead dA ht ht_cells ht_places ht_facts t_lands t_things t_placeCount t_apart t_thereFirst t_facts) o s.heap.size) [.ref ht, .int x1_].toArray s 0 0 (va_A (wX5_isDead dA ht ht_cells ht_places ht_facts t_lands t_things t_placeCount t_apart t_thereFirst t_facts) s.heap.size)) (F0 m pc ls [.int o]) := fun H locs pc ls hz hd hw => k_zret C hw hz hd
  unfold fX5_isDead at hf
  refine lv_aload_n hx hb dX5_isDead_0 rfl (lv_at hl 0 rfl) ?_
  refine k_get C hw 0 rfl rfl wiX5 7 (by decide) wfX5_36 rfl dX5_isDead_1 ?_
  refine lv_iload_n hx hb dX5_isDead_4 rfl (lv_at hl 1 rfl) ?_
  refine lv_bipush (v := (14 : Int32)) hx hb dX5_isDead_5 (by decide) ?_
  refine lv_imul hx hb dX5_isDead_7 ?_
  refine lv_bipush (v := (8 : Int32)) hx hb dX5_isDead_8 (by decide) ?_
  refine lv_iadd hx hb dX5_isDead_10 ?_
  obtain ⟨g1, hf⟩ := gdi_r hf
  refine k_iald C hw 1 rfl g1 dX5_isDead_11 ?_
  refine lv_iconst (v := (-1 : Int32)) hx hb dX5_isDead_12 (by decide) ?_
  refine lv_icmp_eq (tgt := 20) hx hb dX5_isDead_13 (by decide) (fun c2 => ?_) (fun c2 => ?_)
  · have hf := ite_t c2 hf
    refine lv_iconst (v := (0 : Int32)) hx hb dX5_isDead_20 (by decide) ?_
    obtain rfl := some_r hf
    exact hK _ _ _ _ (Or.inl rfl) dX5_isDead_21 hw
  · have hf := ite_f c2 hf
    refine lv_iconst (v := (1 : Int32)) hx hb dX5_isDead_16 (by decide) ?_
    refine lv_goto (tgt := 21) hx hb dX5_isDead_17 (by decide) ?_
    obtain rfl := some_r hf
    exact hK _ _ _ _ (Or.inr rfl) dX5_isDead_21 hw

/-! RingPlaces$Ring.hasVoice(II)Z -/
abbrev wX5_hasVoice (dA : Nat → ClassId) (ht ht_cells ht_places ht_facts : Nat) (t_lands : Int32) (t_things : Int32) (t_placeCount : Int32) (t_apart : Int32) (t_thereFirst : Int32) (t_facts : (Nat → Int32)) : va_W := [(ht, .inr (5, [.ref ht_cells, .ref ht_places, .int t_lands, .int t_things, .int t_placeCount, .int t_apart, .int t_thereFirst, .ref ht_facts])), (ht_facts, .inl (dA 0, 224, .inl t_facts))]
def fX5_hasVoice (t_facts : (Nat → Int32)) (x1_ : Int32) (x2_ : Int32) : Option (Int32) := gdi ((x1_ * (14 : Int32)) + (3 : Int32)) 224 ((if (((t_facts ((x1_ * (14 : Int32)) + (3 : Int32)).toNatClampNeg) >>> (x2_ &&& 31)) &&& (1 : Int32)) = 0 then some (0 : Int32) else some (1 : Int32)))
set_option maxHeartbeats 4000000 in
set_option maxRecDepth 100000 in
theorem qX5_hasVoice (l : Launch) (D : va_G) (dA : Nat → ClassId) (ht ht_cells ht_places ht_facts : Nat) (t_lands : Int32) (t_things : Int32) (t_placeCount : Int32) (t_apart : Int32) (t_thereFirst : Int32) (t_facts : (Nat → Int32)) (x1_ : Int32) (x2_ : Int32) (o : Int32) (hf : fX5_hasVoice t_facts x1_ x2_ = some o) : Mi l D dA yX5_hasVoice (Cond.code yX5_hasVoice cX5_hasVoice 3 (some .boolean) :: wA) 0 0 [.ref ht, .int x1_, .int x2_] (wX5_hasVoice dA ht ht_cells ht_places ht_facts t_lands t_things t_placeCount t_apart t_thereFirst t_facts) (wX5_hasVoice dA ht ht_cells ht_places ht_facts t_lands t_things t_placeCount t_apart t_thereFirst t_facts) o := by
  intro sz
  refine M_of (cc := cX5_hasVoice) (nL := 3) (ret := (some .boolean)) (own := RX5) (by decide +kernel) rfl (Nat.le_of_ble_eq_true rfl) ?_
  intro p e s m below meth c ls hsz C hw hl
  subst hsz
  have hR : 0 ≤ (rmm 0 0).frames ∧ 0 ≤ (rmm 0 0).locals ∧ 0 ≤ (rmm 0 0).cells ∧ 0 ≤ (rmm 0 0).slots := ⟨Nat.le_refl _, Nat.le_refl _, Nat.le_refl _, Nat.le_refl _⟩
  have hl : lv_has ls 3 [(0, .ref ht), (1, .int x1_), (2, .int x2_)] := hl
  have hx := C.1
  have hb := C.2.1
  have hml := C.2.2.1
  have hown := C.2.2.2.1
  have hts := C.2.2.2.2.1
  have hK : ∀ (H : Heap) (locs : List Loc) (pc : Nat) (ls : Array Slot), (o = 0 ∨ o = 1) → decode cX5_hasVoice pc = .ok (.ireturn, 1) → St D (wX5_hasVoice dA ht ht_cells ht_places ht_facts t_lands t_things t_placeCount t_apart t_thereFirst t_facts) s (wX5_hasVoice dA ht ht_cells ht_places ht_facts t_lands t_things t_placeCount t_apart t_thereFirst t_facts) H locs → W p l e (rmm 0 0) s m [.ref ht, .int x1_, .int x2_].toArray below meth c H locs 0 0 (MQ below (Qi D (wX5_hasVoice dA ht ht_cells ht_places ht_facts t_lands t_things t_placeCount t_apart t_thereFirst t_facts) (wX5_hasVoice dA ht ht_cells ht_places ht_facts t_lands t_things t_placeCount t_apart t_thereFirst t_facts) o s.heap.size) [.ref ht, .int x1_, .int x2_].toArray s 0 0 (va_A (wX5_hasVoice dA ht ht_cells ht_places ht_facts t_lands t_things t_placeCount t_apart t_thereFirst t_facts) s.heap.size)) (F0 m pc ls [.int o]) := fun H locs pc ls hz hd hw => k_zret C hw hz hd
  unfold fX5_hasVoice at hf
  refine lv_aload_n hx hb dX5_hasVoice_0 rfl (lv_at hl 0 rfl) ?_
  refine k_get C hw 0 rfl rfl wiX5 7 (by decide) wfX5_36 rfl dX5_hasVoice_1 ?_
  refine lv_iload_n hx hb dX5_hasVoice_4 rfl (lv_at hl 1 rfl) ?_
  refine lv_bipush (v := (14 : Int32)) hx hb dX5_hasVoice_5 (by decide) ?_
  refine lv_imul hx hb dX5_hasVoice_7 ?_
  refine lv_iconst (v := (3 : Int32)) hx hb dX5_hasVoice_8 (by decide) ?_
  refine lv_iadd hx hb dX5_hasVoice_9 ?_
  obtain ⟨g1, hf⟩ := gdi_r hf
  refine k_iald C hw 1 rfl g1 dX5_hasVoice_10 ?_
  refine lv_iload_n hx hb dX5_hasVoice_11 rfl (lv_at hl 2 rfl) ?_
  refine lv_ishr hx hb dX5_hasVoice_12 ?_
  refine lv_iconst (v := (1 : Int32)) hx hb dX5_hasVoice_13 (by decide) ?_
  refine lv_iand hx hb dX5_hasVoice_14 ?_
  refine lv_if_eq (tgt := 22) hx hb dX5_hasVoice_15 (by decide) (fun c2 => ?_) (fun c2 => ?_)
  · have hf := ite_t c2 hf
    refine lv_iconst (v := (0 : Int32)) hx hb dX5_hasVoice_22 (by decide) ?_
    obtain rfl := some_r hf
    exact hK _ _ _ _ (Or.inl rfl) dX5_hasVoice_23 hw
  · have hf := ite_f c2 hf
    refine lv_iconst (v := (1 : Int32)) hx hb dX5_hasVoice_18 (by decide) ?_
    refine lv_goto (tgt := 23) hx hb dX5_hasVoice_19 (by decide) ?_
    obtain rfl := some_r hf
    exact hK _ _ _ _ (Or.inr rfl) dX5_hasVoice_23 hw

/-! RingPlaces$Ring.shareCell(II)Z -/
abbrev wX5_shareCell (dA : Nat → ClassId) (ht ht_cells ht_places ht_facts : Nat) (t_lands : Int32) (t_things : Int32) (t_placeCount : Int32) (t_apart : Int32) (t_thereFirst : Int32) (t_cells : (Nat → Int64)) : va_W := [(ht, .inr (5, [.ref ht_cells, .ref ht_places, .int t_lands, .int t_things, .int t_placeCount, .int t_apart, .int t_thereFirst, .ref ht_facts])), (ht_cells, .inl (dA 1, 16, .inr (.inl t_cells)))]
def fX5_shareCell (t_cells : (Nat → Int64)) (x1_ : Int32) (x2_ : Int32) : Option (Int32) := gdi x1_ 16 (gdi x2_ 16 ((if (lg_cmp ((t_cells x1_.toNatClampNeg) &&& (t_cells x2_.toNatClampNeg)) (0 : Int64)) = 0 then some (0 : Int32) else some (1 : Int32))))
set_option maxHeartbeats 4000000 in
set_option maxRecDepth 100000 in
theorem qX5_shareCell (l : Launch) (D : va_G) (dA : Nat → ClassId) (ht ht_cells ht_places ht_facts : Nat) (t_lands : Int32) (t_things : Int32) (t_placeCount : Int32) (t_apart : Int32) (t_thereFirst : Int32) (t_cells : (Nat → Int64)) (x1_ : Int32) (x2_ : Int32) (o : Int32) (hf : fX5_shareCell t_cells x1_ x2_ = some o) : Mi l D dA yX5_shareCell (Cond.code yX5_shareCell cX5_shareCell 3 (some .boolean) :: wA) 0 0 [.ref ht, .int x1_, .int x2_] (wX5_shareCell dA ht ht_cells ht_places ht_facts t_lands t_things t_placeCount t_apart t_thereFirst t_cells) (wX5_shareCell dA ht ht_cells ht_places ht_facts t_lands t_things t_placeCount t_apart t_thereFirst t_cells) o := by
  intro sz
  refine M_of (cc := cX5_shareCell) (nL := 3) (ret := (some .boolean)) (own := RX5) (by decide +kernel) rfl (Nat.le_of_ble_eq_true rfl) ?_
  intro p e s m below meth c ls hsz C hw hl
  subst hsz
  have hR : 0 ≤ (rmm 0 0).frames ∧ 0 ≤ (rmm 0 0).locals ∧ 0 ≤ (rmm 0 0).cells ∧ 0 ≤ (rmm 0 0).slots := ⟨Nat.le_refl _, Nat.le_refl _, Nat.le_refl _, Nat.le_refl _⟩
  have hl : lv_has ls 3 [(0, .ref ht), (1, .int x1_), (2, .int x2_)] := hl
  have hx := C.1
  have hb := C.2.1
  have hml := C.2.2.1
  have hown := C.2.2.2.1
  have hts := C.2.2.2.2.1
  have hK : ∀ (H : Heap) (locs : List Loc) (pc : Nat) (ls : Array Slot), (o = 0 ∨ o = 1) → decode cX5_shareCell pc = .ok (.ireturn, 1) → St D (wX5_shareCell dA ht ht_cells ht_places ht_facts t_lands t_things t_placeCount t_apart t_thereFirst t_cells) s (wX5_shareCell dA ht ht_cells ht_places ht_facts t_lands t_things t_placeCount t_apart t_thereFirst t_cells) H locs → W p l e (rmm 0 0) s m [.ref ht, .int x1_, .int x2_].toArray below meth c H locs 0 0 (MQ below (Qi D (wX5_shareCell dA ht ht_cells ht_places ht_facts t_lands t_things t_placeCount t_apart t_thereFirst t_cells) (wX5_shareCell dA ht ht_cells ht_places ht_facts t_lands t_things t_placeCount t_apart t_thereFirst t_cells) o s.heap.size) [.ref ht, .int x1_, .int x2_].toArray s 0 0 (va_A (wX5_shareCell dA ht ht_cells ht_places ht_facts t_lands t_things t_placeCount t_apart t_thereFirst t_cells) s.heap.size)) (F0 m pc ls [.int o]) := fun H locs pc ls hz hd hw => k_zret C hw hz hd
  unfold fX5_shareCell at hf
  refine lv_aload_n hx hb dX5_shareCell_0 rfl (lv_at hl 0 rfl) ?_
  refine k_get C hw 0 rfl rfl wiX5 0 (by decide) wfX5_9 rfl dX5_shareCell_1 ?_
  refine lv_iload_n hx hb dX5_shareCell_4 rfl (lv_at hl 1 rfl) ?_
  obtain ⟨g1, hf⟩ := gdi_r hf
  refine k_lald C hw 1 rfl g1 dX5_shareCell_5 ?_
  refine lv_aload_n hx hb dX5_shareCell_6 rfl (lv_at hl 0 rfl) ?_
  refine k_get C hw 0 rfl rfl wiX5 0 (by decide) wfX5_9 rfl dX5_shareCell_7 ?_
  refine lv_iload_n hx hb dX5_shareCell_10 rfl (lv_at hl 2 rfl) ?_
  obtain ⟨g2, hf⟩ := gdi_r hf
  refine k_lald C hw 1 rfl g2 dX5_shareCell_11 ?_
  refine lv_land hx hb dX5_shareCell_12 ?_
  refine lv_lconst (v := (0 : Int64)) hx hb dX5_shareCell_13 (by decide) ?_
  refine W.lcmp hx hb dX5_shareCell_14 ?_
  refine lv_if_eq (tgt := 22) hx hb dX5_shareCell_15 (by decide) (fun c3 => ?_) (fun c3 => ?_)
  · have hf := ite_t c3 hf
    refine lv_iconst (v := (0 : Int32)) hx hb dX5_shareCell_22 (by decide) ?_
    obtain rfl := some_r hf
    exact hK _ _ _ _ (Or.inl rfl) dX5_shareCell_23 hw
  · have hf := ite_f c3 hf
    refine lv_iconst (v := (1 : Int32)) hx hb dX5_shareCell_18 (by decide) ?_
    refine lv_goto (tgt := 23) hx hb dX5_shareCell_19 (by decide) ?_
    obtain rfl := some_r hf
    exact hK _ _ _ _ (Or.inr rfl) dX5_shareCell_23 hw

/-! RingPlaces$Ring.isInArc(II)Z -/
abbrev wX5_isInArc (dA : Nat → ClassId) (ht ht_cells ht_places ht_facts : Nat) (t_lands : Int32) (t_things : Int32) (t_placeCount : Int32) (t_apart : Int32) (t_thereFirst : Int32) (t_facts : (Nat → Int32)) : va_W := [(ht, .inr (5, [.ref ht_cells, .ref ht_places, .int t_lands, .int t_things, .int t_placeCount, .int t_apart, .int t_thereFirst, .ref ht_facts])), (ht_facts, .inl (dA 0, 224, .inl t_facts))]
def fX5_isInArc (t_facts : (Nat → Int32)) (x1_ : Int32) (x2_ : Int32) : Option (Int32) := gdi ((x1_ * (14 : Int32)) + (1 : Int32)) 224 (bnd (t_facts ((x1_ * (14 : Int32)) + (1 : Int32)).toNatClampNeg) fun x2 => gdi ((x1_ * (14 : Int32)) + (2 : Int32)) 224 (bnd (t_facts ((x1_ * (14 : Int32)) + (2 : Int32)).toNatClampNeg) fun x4 => (if x4 < x2 then (if x2 ≤ x2_ then some (1 : Int32) else (if x4 < x2_ then some (0 : Int32) else some (1 : Int32))) else (if x2_ < x2 then some (0 : Int32) else (if x4 < x2_ then some (0 : Int32) else some (1 : Int32))))))
set_option maxHeartbeats 4000000 in
set_option maxRecDepth 100000 in
theorem qX5_isInArc (l : Launch) (D : va_G) (dA : Nat → ClassId) (ht ht_cells ht_places ht_facts : Nat) (t_lands : Int32) (t_things : Int32) (t_placeCount : Int32) (t_apart : Int32) (t_thereFirst : Int32) (t_facts : (Nat → Int32)) (x1_ : Int32) (x2_ : Int32) (o : Int32) (hf : fX5_isInArc t_facts x1_ x2_ = some o) : Mi l D dA yX5_isInArc (Cond.code yX5_isInArc cX5_isInArc 5 (some .boolean) :: wA) 0 0 [.ref ht, .int x1_, .int x2_] (wX5_isInArc dA ht ht_cells ht_places ht_facts t_lands t_things t_placeCount t_apart t_thereFirst t_facts) (wX5_isInArc dA ht ht_cells ht_places ht_facts t_lands t_things t_placeCount t_apart t_thereFirst t_facts) o := by
  intro sz
  refine M_of (cc := cX5_isInArc) (nL := 5) (ret := (some .boolean)) (own := RX5) (by decide +kernel) rfl (Nat.le_of_ble_eq_true rfl) ?_
  intro p e s m below meth c ls hsz C hw hl
  subst hsz
  have hR : 0 ≤ (rmm 0 0).frames ∧ 0 ≤ (rmm 0 0).locals ∧ 0 ≤ (rmm 0 0).cells ∧ 0 ≤ (rmm 0 0).slots := ⟨Nat.le_refl _, Nat.le_refl _, Nat.le_refl _, Nat.le_refl _⟩
  have hl : lv_has ls 5 [(0, .ref ht), (1, .int x1_), (2, .int x2_)] := hl
  have hx := C.1
  have hb := C.2.1
  have hml := C.2.2.1
  have hown := C.2.2.2.1
  have hts := C.2.2.2.2.1
  have hK : ∀ (H : Heap) (locs : List Loc) (pc : Nat) (ls : Array Slot), (o = 0 ∨ o = 1) → decode cX5_isInArc pc = .ok (.ireturn, 1) → St D (wX5_isInArc dA ht ht_cells ht_places ht_facts t_lands t_things t_placeCount t_apart t_thereFirst t_facts) s (wX5_isInArc dA ht ht_cells ht_places ht_facts t_lands t_things t_placeCount t_apart t_thereFirst t_facts) H locs → W p l e (rmm 0 0) s m [.ref ht, .int x1_, .int x2_].toArray below meth c H locs 0 0 (MQ below (Qi D (wX5_isInArc dA ht ht_cells ht_places ht_facts t_lands t_things t_placeCount t_apart t_thereFirst t_facts) (wX5_isInArc dA ht ht_cells ht_places ht_facts t_lands t_things t_placeCount t_apart t_thereFirst t_facts) o s.heap.size) [.ref ht, .int x1_, .int x2_].toArray s 0 0 (va_A (wX5_isInArc dA ht ht_cells ht_places ht_facts t_lands t_things t_placeCount t_apart t_thereFirst t_facts) s.heap.size)) (F0 m pc ls [.int o]) := fun H locs pc ls hz hd hw => k_zret C hw hz hd
  unfold fX5_isInArc at hf
  refine lv_aload_n hx hb dX5_isInArc_0 rfl (lv_at hl 0 rfl) ?_
  refine k_get C hw 0 rfl rfl wiX5 7 (by decide) wfX5_36 rfl dX5_isInArc_1 ?_
  refine lv_iload_n hx hb dX5_isInArc_4 rfl (lv_at hl 1 rfl) ?_
  refine lv_bipush (v := (14 : Int32)) hx hb dX5_isInArc_5 (by decide) ?_
  refine lv_imul hx hb dX5_isInArc_7 ?_
  refine lv_iconst (v := (1 : Int32)) hx hb dX5_isInArc_8 (by decide) ?_
  refine lv_iadd hx hb dX5_isInArc_9 ?_
  obtain ⟨g1, hf⟩ := gdi_r hf
  refine k_iald C hw 1 rfl g1 dX5_isInArc_10 ?_
  refine lv_topi (fun x2 ex2 => ?_)
  have hf := bnd_r ex2 hf
  refine lv_istore_n (lv' := [(3, .int x2), (0, .ref ht), (1, .int x1_), (2, .int x2_)]) hx hb dX5_isInArc_11 rfl hl (by decide) rfl (fun ls hl => ?_)
  refine lv_aload_n hx hb dX5_isInArc_12 rfl (lv_at hl 1 rfl) ?_
  refine k_get C hw 0 rfl rfl wiX5 7 (by decide) wfX5_36 rfl dX5_isInArc_13 ?_
  refine lv_iload_n hx hb dX5_isInArc_16 rfl (lv_at hl 2 rfl) ?_
  refine lv_bipush (v := (14 : Int32)) hx hb dX5_isInArc_17 (by decide) ?_
  refine lv_imul hx hb dX5_isInArc_19 ?_
  refine lv_iconst (v := (2 : Int32)) hx hb dX5_isInArc_20 (by decide) ?_
  refine lv_iadd hx hb dX5_isInArc_21 ?_
  obtain ⟨g3, hf⟩ := gdi_r hf
  refine k_iald C hw 1 rfl g3 dX5_isInArc_22 ?_
  refine lv_topi (fun x4 ex4 => ?_)
  have hf := bnd_r ex4 hf
  refine lv_istore (lv' := [(4, .int x4), (3, .int x2), (0, .ref ht), (1, .int x1_), (2, .int x2_)]) hx hb dX5_isInArc_23 hl (by decide) rfl (fun ls hl => ?_)
  refine lv_iload_n hx hb dX5_isInArc_25 rfl (lv_at hl 1 rfl) ?_
  refine lv_iload hx hb dX5_isInArc_26 (lv_at hl 0 rfl) ?_
  refine lv_icmp_gt (tgt := 48) hx hb dX5_isInArc_28 (by decide) (fun c5 => ?_) (fun c5 => ?_)
  · have hf := ite_t c5 hf
    refine lv_iload_n hx hb dX5_isInArc_48 rfl (lv_at hl 4 rfl) ?_
    refine lv_iload_n hx hb dX5_isInArc_49 rfl (lv_at hl 1 rfl) ?_
    refine lv_icmp_ge (tgt := 59) hx hb dX5_isInArc_50 (by decide) (fun c6 => ?_) (fun c6 => ?_)
    · have hf := ite_t c6 hf
      refine lv_iconst (v := (1 : Int32)) hx hb dX5_isInArc_59 (by decide) ?_
      refine lv_goto (tgt := 64) hx hb dX5_isInArc_60 (by decide) ?_
      obtain rfl := some_r hf
      exact hK _ _ _ _ (Or.inr rfl) dX5_isInArc_64 hw
    · have hf := ite_f c6 hf
      refine lv_iload_n hx hb dX5_isInArc_53 rfl (lv_at hl 4 rfl) ?_
      refine lv_iload hx hb dX5_isInArc_54 (lv_at hl 0 rfl) ?_
      refine lv_icmp_gt (tgt := 63) hx hb dX5_isInArc_56 (by decide) (fun c7 => ?_) (fun c7 => ?_)
      · have hf := ite_t c7 hf
        refine lv_iconst (v := (0 : Int32)) hx hb dX5_isInArc_63 (by decide) ?_
        obtain rfl := some_r hf
        exact hK _ _ _ _ (Or.inl rfl) dX5_isInArc_64 hw
      · have hf := ite_f c7 hf
        refine lv_iconst (v := (1 : Int32)) hx hb dX5_isInArc_59 (by decide) ?_
        refine lv_goto (tgt := 64) hx hb dX5_isInArc_60 (by decide) ?_
        obtain rfl := some_r hf
        exact hK _ _ _ _ (Or.inr rfl) dX5_isInArc_64 hw
  · have hf := ite_f c5 hf
    refine lv_iload_n hx hb dX5_isInArc_31 rfl (lv_at hl 4 rfl) ?_
    refine lv_iload_n hx hb dX5_isInArc_32 rfl (lv_at hl 1 rfl) ?_
    refine lv_icmp_lt (tgt := 46) hx hb dX5_isInArc_33 (by decide) (fun c8 => ?_) (fun c8 => ?_)
    · have hf := ite_t c8 hf
      refine lv_iconst (v := (0 : Int32)) hx hb dX5_isInArc_46 (by decide) ?_
      obtain rfl := some_r hf
      exact hK _ _ _ _ (Or.inl rfl) dX5_isInArc_47 hw
    · have hf := ite_f c8 hf
      refine lv_iload_n hx hb dX5_isInArc_36 rfl (lv_at hl 4 rfl) ?_
      refine lv_iload hx hb dX5_isInArc_37 (lv_at hl 0 rfl) ?_
      refine lv_icmp_gt (tgt := 46) hx hb dX5_isInArc_39 (by decide) (fun c9 => ?_) (fun c9 => ?_)
      · have hf := ite_t c9 hf
        refine lv_iconst (v := (0 : Int32)) hx hb dX5_isInArc_46 (by decide) ?_
        obtain rfl := some_r hf
        exact hK _ _ _ _ (Or.inl rfl) dX5_isInArc_47 hw
      · have hf := ite_f c9 hf
        refine lv_iconst (v := (1 : Int32)) hx hb dX5_isInArc_42 (by decide) ?_
        refine lv_goto (tgt := 47) hx hb dX5_isInArc_43 (by decide) ?_
        obtain rfl := some_r hf
        exact hK _ _ _ _ (Or.inr rfl) dX5_isInArc_47 hw

/-! RingPlaces$Ring.middleOfArc(I)I -/
abbrev wX5_middleOfArc (dA : Nat → ClassId) (ht ht_cells ht_places ht_facts : Nat) (t_lands : Int32) (t_things : Int32) (t_placeCount : Int32) (t_apart : Int32) (t_thereFirst : Int32) (t_facts : (Nat → Int32)) : va_W := [(ht, .inr (5, [.ref ht_cells, .ref ht_places, .int t_lands, .int t_things, .int t_placeCount, .int t_apart, .int t_thereFirst, .ref ht_facts])), (ht_facts, .inl (dA 0, 224, .inl t_facts))]
def fX5_middleOfArc (t_facts : (Nat → Int32)) (x1_ : Int32) : Option (Int32) := (fX5_told t_facts x1_ (1 : Int32)).bind fun o1 => (fX5_told t_facts x1_ (2 : Int32)).bind fun o2 => (fJ9_floorMod_7cf53  (o2 - o1) (3600 : Int32)).bind fun o3 => gdz (2 : Int32) (gdz (3600 : Int32) (some ((o1 + (o3 / (2 : Int32))) - (o1 + (o3 / (2 : Int32))) / (3600 : Int32) * (3600 : Int32))))
set_option maxHeartbeats 4000000 in
set_option maxRecDepth 100000 in
theorem qX5_middleOfArc (l : Launch) (D : va_G) (dA : Nat → ClassId) (ht ht_cells ht_places ht_facts : Nat) (t_lands : Int32) (t_things : Int32) (t_placeCount : Int32) (t_apart : Int32) (t_thereFirst : Int32) (t_facts : (Nat → Int32)) (x1_ : Int32) (o : Int32) (hf : fX5_middleOfArc t_facts x1_ = some o) : Mi l D dA yX5_middleOfArc (Cond.code yX5_middleOfArc cX5_middleOfArc 4 (some .int) :: wA) 1 23 [.ref ht, .int x1_] (wX5_middleOfArc dA ht ht_cells ht_places ht_facts t_lands t_things t_placeCount t_apart t_thereFirst t_facts) (wX5_middleOfArc dA ht ht_cells ht_places ht_facts t_lands t_things t_placeCount t_apart t_thereFirst t_facts) o := by
  intro sz
  refine M_of (cc := cX5_middleOfArc) (nL := 4) (ret := (some .int)) (own := RX5) (by decide +kernel) rfl (Nat.le_of_ble_eq_true rfl) ?_
  intro p e s m below meth c ls hsz C hw hl
  subst hsz
  have hR : 1 ≤ (rmm 1 23).frames ∧ 23 ≤ (rmm 1 23).locals ∧ 0 ≤ (rmm 1 23).cells ∧ 0 ≤ (rmm 1 23).slots := ⟨Nat.le_refl _, Nat.le_refl _, Nat.le_refl _, Nat.le_refl _⟩
  have hl : lv_has ls 4 [(0, .ref ht), (1, .int x1_)] := hl
  have hx := C.1
  have hb := C.2.1
  have hml := C.2.2.1
  have hown := C.2.2.2.1
  have hts := C.2.2.2.2.1
  have hK : ∀ (H : Heap) (locs : List Loc) (pc : Nat) (ls : Array Slot), decode cX5_middleOfArc pc = .ok (.ireturn, 1) → St D (wX5_middleOfArc dA ht ht_cells ht_places ht_facts t_lands t_things t_placeCount t_apart t_thereFirst t_facts) s (wX5_middleOfArc dA ht ht_cells ht_places ht_facts t_lands t_things t_placeCount t_apart t_thereFirst t_facts) H locs → W p l e (rmm 1 23) s m [.ref ht, .int x1_].toArray below meth c H locs 0 0 (MQ below (Qi D (wX5_middleOfArc dA ht ht_cells ht_places ht_facts t_lands t_things t_placeCount t_apart t_thereFirst t_facts) (wX5_middleOfArc dA ht ht_cells ht_places ht_facts t_lands t_things t_placeCount t_apart t_thereFirst t_facts) o s.heap.size) [.ref ht, .int x1_].toArray s 0 0 (va_A (wX5_middleOfArc dA ht ht_cells ht_places ht_facts t_lands t_things t_placeCount t_apart t_thereFirst t_facts) s.heap.size)) (F0 m pc ls [.int o]) := fun H locs pc ls hd hw => k_iret C hw hd
  unfold fX5_middleOfArc at hf
  refine lv_aload_n hx hb dX5_middleOfArc_0 rfl (lv_at hl 0 rfl) ?_
  refine lv_iload_n hx hb dX5_middleOfArc_1 rfl (lv_at hl 1 rfl) ?_
  refine lv_iconst (v := (1 : Int32)) hx hb dX5_middleOfArc_2 (by decide) ?_
  obtain ⟨o1, ho1, hf⟩ := bind_r hf
  refine k_callVi C hw (n := 2) (As := [.int x1_, .int (1 : Int32)]) (w1 := (wX5_middleOfArc dA ht ht_cells ht_places ht_facts t_lands t_things t_placeCount t_apart t_thereFirst t_facts)) (wr := []) [0, 1] [] [0, 1] rfl rfl (by decide) (by decide) (by decide) rfl (by decide) (qX5_told l D dA ht ht_cells ht_places ht_facts t_lands t_things t_placeCount t_apart t_thereFirst t_facts x1_ (1 : Int32) _ ho1) wlX5_49 wmX5_told wvX5_told wnX5 wcX5_told rfl (by decide +kernel) ⟨Nat.le_trans (by decide) hR.1, Nat.le_trans (by decide) hR.2.1⟩ hR.2.2 rfl 0 rfl rfl hl.1 (Nat.le_of_ble_eq_true rfl) dX5_middleOfArc_3 rfl (fun H locs hw => ?_)
  refine lv_istore_n (lv' := [(2, .int o1), (0, .ref ht), (1, .int x1_)]) hx hb dX5_middleOfArc_6 rfl hl (by decide) rfl (fun ls hl => ?_)
  refine lv_aload_n hx hb dX5_middleOfArc_7 rfl (lv_at hl 1 rfl) ?_
  refine lv_iload_n hx hb dX5_middleOfArc_8 rfl (lv_at hl 2 rfl) ?_
  refine lv_iconst (v := (2 : Int32)) hx hb dX5_middleOfArc_9 (by decide) ?_
  obtain ⟨o2, ho2, hf⟩ := bind_r hf
  refine k_callVi C hw (n := 2) (As := [.int x1_, .int (2 : Int32)]) (w1 := (wX5_middleOfArc dA ht ht_cells ht_places ht_facts t_lands t_things t_placeCount t_apart t_thereFirst t_facts)) (wr := []) [0, 1] [] [0, 1] rfl rfl (by decide) (by decide) (by decide) rfl (by decide) (qX5_told l D dA ht ht_cells ht_places ht_facts t_lands t_things t_placeCount t_apart t_thereFirst t_facts x1_ (2 : Int32) _ ho2) wlX5_49 wmX5_told wvX5_told wnX5 wcX5_told rfl (by decide +kernel) ⟨Nat.le_trans (by decide) hR.1, Nat.le_trans (by decide) hR.2.1⟩ hR.2.2 rfl 0 rfl rfl hl.1 (Nat.le_of_ble_eq_true rfl) dX5_middleOfArc_10 rfl (fun H locs hw => ?_)
  refine lv_iload_n hx hb dX5_middleOfArc_13 rfl (lv_at hl 0 rfl) ?_
  refine lv_isub hx hb dX5_middleOfArc_14 ?_
  refine lv_sipush (v := (3600 : Int32)) hx hb dX5_middleOfArc_15 (by decide) ?_
  obtain ⟨o3, ho3, hf⟩ := bind_r hf
  refine k_callSi C hw (n := 2) (As := [.int (o2 - o1), .int (3600 : Int32)]) (w1 := (wX5_middleOfArc dA ht ht_cells ht_places ht_facts t_lands t_things t_placeCount t_apart t_thereFirst t_facts)) (wr := [(ht, .inr (5, [.ref ht_cells, .ref ht_places, .int t_lands, .int t_things, .int t_placeCount, .int t_apart, .int t_thereFirst, .ref ht_facts])), (ht_facts, .inl (dA 0, 224, .inl t_facts))]) [] [0, 1] [0, 1] rfl rfl (by decide) (by decide) (by decide) rfl (by decide) (qJ9_floorMod_7cf53 l D dA  (o2 - o1) (3600 : Int32) _ ho3) wlX5_53 wsJ9_floorMod_7cf53_t wnJ9 wcJ9_floorMod_7cf53 (by decide +kernel) ⟨Nat.le_trans (by decide) hR.1, Nat.le_trans (by decide) hR.2.1⟩ hR.2.2 rfl hl.1 (Nat.le_of_ble_eq_true rfl) dX5_middleOfArc_18 rfl (fun H locs hw => ?_)
  refine lv_istore_n (lv' := [(3, .int o3), (2, .int o1), (0, .ref ht), (1, .int x1_)]) hx hb dX5_middleOfArc_21 rfl hl (by decide) rfl (fun ls hl => ?_)
  refine lv_iload_n hx hb dX5_middleOfArc_22 rfl (lv_at hl 1 rfl) ?_
  refine lv_iload_n hx hb dX5_middleOfArc_23 rfl (lv_at hl 0 rfl) ?_
  refine lv_iconst (v := (2 : Int32)) hx hb dX5_middleOfArc_24 (by decide) ?_
  obtain ⟨g4, hf⟩ := gdz_r hf
  refine lv_idiv hx hb dX5_middleOfArc_25 g4 ?_
  refine lv_iadd hx hb dX5_middleOfArc_26 ?_
  refine lv_sipush (v := (3600 : Int32)) hx hb dX5_middleOfArc_27 (by decide) ?_
  obtain ⟨g5, hf⟩ := gdz_r hf
  refine lv_irem hx hb dX5_middleOfArc_30 g5 ?_
  obtain rfl := some_r hf
  exact hK _ _ _ _ dX5_middleOfArc_31 hw

/-! RingPlaces$Ring.quietFrom(II)I -/
abbrev wX5_quietFrom (dA : Nat → ClassId) (ht ht_cells ht_places ht_facts : Nat) (t_lands : Int32) (t_things : Int32) (t_placeCount : Int32) (t_apart : Int32) (t_thereFirst : Int32) (t_facts : (Nat → Int32)) : va_W := [(ht, .inr (5, [.ref ht_cells, .ref ht_places, .int t_lands, .int t_things, .int t_placeCount, .int t_apart, .int t_thereFirst, .ref ht_facts])), (ht_facts, .inl (dA 0, 224, .inl t_facts))]
def fX5_quietFrom (t_facts : (Nat → Int32)) (x1_ : Int32) (x2_ : Int32) : Option (Int32) := (fX5_told t_facts x1_ (4 : Int32)).bind fun o1 => (fX5_told t_facts x2_ (6 : Int32)).bind fun o2 => bnd (if (1 : Int32) < (o2 + (1 : Int32)) then (o2 + (1 : Int32)) else (1 : Int32)) fun x3 => gdz x3 (bnd ((o1 * (1000 : Int32)) / x3) fun x5 => (fX5_told t_facts x1_ (5 : Int32)).bind fun o6 => bnd (if (1 : Int32) < o6 then o6 else (1 : Int32)) fun x7 => bnd ((x5 + (1 : Int32)) - (10 : Int32)) fun x8 => (if 0 < x8 then gdz x7 (some (((x8 + x7) - (1 : Int32)) / x7)) else some (0 : Int32)))
set_option maxHeartbeats 4000000 in
set_option maxRecDepth 100000 in
theorem qX5_quietFrom (l : Launch) (D : va_G) (dA : Nat → ClassId) (ht ht_cells ht_places ht_facts : Nat) (t_lands : Int32) (t_things : Int32) (t_placeCount : Int32) (t_apart : Int32) (t_thereFirst : Int32) (t_facts : (Nat → Int32)) (x1_ : Int32) (x2_ : Int32) (o : Int32) (hf : fX5_quietFrom t_facts x1_ x2_ = some o) : Mi l D dA yX5_quietFrom (Cond.code yX5_quietFrom cX5_quietFrom 6 (some .int) :: wA) 1 23 [.ref ht, .int x1_, .int x2_] (wX5_quietFrom dA ht ht_cells ht_places ht_facts t_lands t_things t_placeCount t_apart t_thereFirst t_facts) (wX5_quietFrom dA ht ht_cells ht_places ht_facts t_lands t_things t_placeCount t_apart t_thereFirst t_facts) o := by
  intro sz
  refine M_of (cc := cX5_quietFrom) (nL := 6) (ret := (some .int)) (own := RX5) (by decide +kernel) rfl (Nat.le_of_ble_eq_true rfl) ?_
  intro p e s m below meth c ls hsz C hw hl
  subst hsz
  have hR : 1 ≤ (rmm 1 23).frames ∧ 23 ≤ (rmm 1 23).locals ∧ 0 ≤ (rmm 1 23).cells ∧ 0 ≤ (rmm 1 23).slots := ⟨Nat.le_refl _, Nat.le_refl _, Nat.le_refl _, Nat.le_refl _⟩
  have hl : lv_has ls 6 [(0, .ref ht), (1, .int x1_), (2, .int x2_)] := hl
  have hx := C.1
  have hb := C.2.1
  have hml := C.2.2.1
  have hown := C.2.2.2.1
  have hts := C.2.2.2.2.1
  have hK : ∀ (H : Heap) (locs : List Loc) (pc : Nat) (ls : Array Slot), decode cX5_quietFrom pc = .ok (.ireturn, 1) → St D (wX5_quietFrom dA ht ht_cells ht_places ht_facts t_lands t_things t_placeCount t_apart t_thereFirst t_facts) s (wX5_quietFrom dA ht ht_cells ht_places ht_facts t_lands t_things t_placeCount t_apart t_thereFirst t_facts) H locs → W p l e (rmm 1 23) s m [.ref ht, .int x1_, .int x2_].toArray below meth c H locs 0 0 (MQ below (Qi D (wX5_quietFrom dA ht ht_cells ht_places ht_facts t_lands t_things t_placeCount t_apart t_thereFirst t_facts) (wX5_quietFrom dA ht ht_cells ht_places ht_facts t_lands t_things t_placeCount t_apart t_thereFirst t_facts) o s.heap.size) [.ref ht, .int x1_, .int x2_].toArray s 0 0 (va_A (wX5_quietFrom dA ht ht_cells ht_places ht_facts t_lands t_things t_placeCount t_apart t_thereFirst t_facts) s.heap.size)) (F0 m pc ls [.int o]) := fun H locs pc ls hd hw => k_iret C hw hd
  unfold fX5_quietFrom at hf
  refine lv_aload_n hx hb dX5_quietFrom_0 rfl (lv_at hl 0 rfl) ?_
  refine lv_iload_n hx hb dX5_quietFrom_1 rfl (lv_at hl 1 rfl) ?_
  refine lv_iconst (v := (4 : Int32)) hx hb dX5_quietFrom_2 (by decide) ?_
  obtain ⟨o1, ho1, hf⟩ := bind_r hf
  refine k_callVi C hw (n := 2) (As := [.int x1_, .int (4 : Int32)]) (w1 := (wX5_quietFrom dA ht ht_cells ht_places ht_facts t_lands t_things t_placeCount t_apart t_thereFirst t_facts)) (wr := []) [0, 1] [] [0, 1] rfl rfl (by decide) (by decide) (by decide) rfl (by decide) (qX5_told l D dA ht ht_cells ht_places ht_facts t_lands t_things t_placeCount t_apart t_thereFirst t_facts x1_ (4 : Int32) _ ho1) wlX5_49 wmX5_told wvX5_told wnX5 wcX5_told rfl (by decide +kernel) ⟨Nat.le_trans (by decide) hR.1, Nat.le_trans (by decide) hR.2.1⟩ hR.2.2 rfl 0 rfl rfl hl.1 (Nat.le_of_ble_eq_true rfl) dX5_quietFrom_3 rfl (fun H locs hw => ?_)
  refine lv_sipush (v := (1000 : Int32)) hx hb dX5_quietFrom_6 (by decide) ?_
  refine lv_imul hx hb dX5_quietFrom_9 ?_
  refine lv_iconst (v := (1 : Int32)) hx hb dX5_quietFrom_10 (by decide) ?_
  refine lv_aload_n hx hb dX5_quietFrom_11 rfl (lv_at hl 0 rfl) ?_
  refine lv_iload_n hx hb dX5_quietFrom_12 rfl (lv_at hl 2 rfl) ?_
  refine lv_bipush (v := (6 : Int32)) hx hb dX5_quietFrom_13 (by decide) ?_
  obtain ⟨o2, ho2, hf⟩ := bind_r hf
  refine k_callVi C hw (n := 2) (As := [.int x2_, .int (6 : Int32)]) (w1 := (wX5_quietFrom dA ht ht_cells ht_places ht_facts t_lands t_things t_placeCount t_apart t_thereFirst t_facts)) (wr := []) [0, 1] [] [0, 1] rfl rfl (by decide) (by decide) (by decide) rfl (by decide) (qX5_told l D dA ht ht_cells ht_places ht_facts t_lands t_things t_placeCount t_apart t_thereFirst t_facts x2_ (6 : Int32) _ ho2) wlX5_49 wmX5_told wvX5_told wnX5 wcX5_told rfl (by decide +kernel) ⟨Nat.le_trans (by decide) hR.1, Nat.le_trans (by decide) hR.2.1⟩ hR.2.2 rfl 0 rfl rfl hl.1 (Nat.le_of_ble_eq_true rfl) dX5_quietFrom_15 rfl (fun H locs hw => ?_)
  refine lv_iconst (v := (1 : Int32)) hx hb dX5_quietFrom_18 (by decide) ?_
  refine lv_iadd hx hb dX5_quietFrom_19 ?_
  refine va_mmax hx hb (hml.trans hl.1.symm) hown (hts _ wlX5_65) (hts _ wxsmax) (hts _ wxmi) (hts _ wxcmax) (Nat.le_trans (by decide) hR.1) (Nat.le_trans (Nat.le_of_ble_eq_true rfl) hR.2.1) hR.2.2.1 hR.2.2.2 dX5_quietFrom_20 ?_
  refine lv_topi (fun x3 ex3 => ?_)
  have hf := bnd_r ex3 hf
  obtain ⟨g4, hf⟩ := gdz_r hf
  refine lv_idiv hx hb dX5_quietFrom_23 g4 ?_
  refine lv_topi (fun x5 ex5 => ?_)
  have hf := bnd_r ex5 hf
  refine lv_istore_n (lv' := [(3, .int x5), (0, .ref ht), (1, .int x1_), (2, .int x2_)]) hx hb dX5_quietFrom_24 rfl hl (by decide) rfl (fun ls hl => ?_)
  refine lv_iconst (v := (1 : Int32)) hx hb dX5_quietFrom_25 (by decide) ?_
  refine lv_aload_n hx hb dX5_quietFrom_26 rfl (lv_at hl 1 rfl) ?_
  refine lv_iload_n hx hb dX5_quietFrom_27 rfl (lv_at hl 2 rfl) ?_
  refine lv_iconst (v := (5 : Int32)) hx hb dX5_quietFrom_28 (by decide) ?_
  obtain ⟨o6, ho6, hf⟩ := bind_r hf
  refine k_callVi C hw (n := 2) (As := [.int x1_, .int (5 : Int32)]) (w1 := (wX5_quietFrom dA ht ht_cells ht_places ht_facts t_lands t_things t_placeCount t_apart t_thereFirst t_facts)) (wr := []) [0, 1] [] [0, 1] rfl rfl (by decide) (by decide) (by decide) rfl (by decide) (qX5_told l D dA ht ht_cells ht_places ht_facts t_lands t_things t_placeCount t_apart t_thereFirst t_facts x1_ (5 : Int32) _ ho6) wlX5_49 wmX5_told wvX5_told wnX5 wcX5_told rfl (by decide +kernel) ⟨Nat.le_trans (by decide) hR.1, Nat.le_trans (by decide) hR.2.1⟩ hR.2.2 rfl 0 rfl rfl hl.1 (Nat.le_of_ble_eq_true rfl) dX5_quietFrom_29 rfl (fun H locs hw => ?_)
  refine va_mmax hx hb (hml.trans hl.1.symm) hown (hts _ wlX5_65) (hts _ wxsmax) (hts _ wxmi) (hts _ wxcmax) (Nat.le_trans (by decide) hR.1) (Nat.le_trans (Nat.le_of_ble_eq_true rfl) hR.2.1) hR.2.2.1 hR.2.2.2 dX5_quietFrom_32 ?_
  refine lv_topi (fun x7 ex7 => ?_)
  have hf := bnd_r ex7 hf
  refine lv_istore (lv' := [(4, .int x7), (3, .int x5), (0, .ref ht), (1, .int x1_), (2, .int x2_)]) hx hb dX5_quietFrom_35 hl (by decide) rfl (fun ls hl => ?_)
  refine lv_iload_n hx hb dX5_quietFrom_37 rfl (lv_at hl 1 rfl) ?_
  refine lv_iconst (v := (1 : Int32)) hx hb dX5_quietFrom_38 (by decide) ?_
  refine lv_iadd hx hb dX5_quietFrom_39 ?_
  refine lv_bipush (v := (10 : Int32)) hx hb dX5_quietFrom_40 (by decide) ?_
  refine lv_isub hx hb dX5_quietFrom_42 ?_
  refine lv_topi (fun x8 ex8 => ?_)
  have hf := bnd_r ex8 hf
  refine lv_istore (lv' := [(5, .int x8), (4, .int x7), (3, .int x5), (0, .ref ht), (1, .int x1_), (2, .int x2_)]) hx hb dX5_quietFrom_43 hl (by decide) rfl (fun ls hl => ?_)
  refine lv_iload hx hb dX5_quietFrom_45 (lv_at hl 0 rfl) ?_
  refine lv_if_gt (tgt := 54) hx hb dX5_quietFrom_47 (by decide) (fun c9 => ?_) (fun c9 => ?_)
  · have hf := ite_t c9 hf
    refine lv_iload hx hb dX5_quietFrom_54 (lv_at hl 0 rfl) ?_
    refine lv_iload hx hb dX5_quietFrom_56 (lv_at hl 1 rfl) ?_
    refine lv_iadd hx hb dX5_quietFrom_58 ?_
    refine lv_iconst (v := (1 : Int32)) hx hb dX5_quietFrom_59 (by decide) ?_
    refine lv_isub hx hb dX5_quietFrom_60 ?_
    refine lv_iload hx hb dX5_quietFrom_61 (lv_at hl 1 rfl) ?_
    obtain ⟨g10, hf⟩ := gdz_r hf
    refine lv_idiv hx hb dX5_quietFrom_63 g10 ?_
    obtain rfl := some_r hf
    exact hK _ _ _ _ dX5_quietFrom_64 hw
  · have hf := ite_f c9 hf
    refine lv_iconst (v := (0 : Int32)) hx hb dX5_quietFrom_50 (by decide) ?_
    refine lv_goto (tgt := 64) hx hb dX5_quietFrom_51 (by decide) ?_
    obtain rfl := some_r hf
    exact hK _ _ _ _ dX5_quietFrom_64 hw

/-! RingPlaces$Ring.needOf(II)I -/
abbrev wX5_needOf (dA : Nat → ClassId) (ht ht_cells ht_places ht_facts : Nat) (t_lands : Int32) (t_things : Int32) (t_placeCount : Int32) (t_apart : Int32) (t_thereFirst : Int32) (t_cells : (Nat → Int64)) (t_facts : (Nat → Int32)) : va_W := [(ht, .inr (5, [.ref ht_cells, .ref ht_places, .int t_lands, .int t_things, .int t_placeCount, .int t_apart, .int t_thereFirst, .ref ht_facts])), (ht_cells, .inl (dA 1, 16, .inr (.inl t_cells))), (ht_facts, .inl (dA 0, 224, .inl t_facts))]
def fX5_needOf (t_apart : Int32) (t_cells : (Nat → Int64)) (t_facts : (Nat → Int32)) (x1_ : Int32) (x2_ : Int32) : Option (Int32) := (fX5_shareCell t_cells x1_ x2_).bind fun o1 => (if o1 = 0 then some (0 : Int32) else (fX5_quietFrom t_facts x1_ x2_).bind fun o3 => (fX5_quietFrom t_facts x2_ x1_).bind fun o4 => bnd (if o3 < o4 then o4 else o3) fun x5 => bnd (if t_apart < x5 then x5 else t_apart) fun x6 => (if (1800 : Int32) < x6 then some (-1 : Int32) else some x6))
set_option maxHeartbeats 4000000 in
set_option maxRecDepth 100000 in
theorem qX5_needOf (l : Launch) (D : va_G) (dA : Nat → ClassId) (ht ht_cells ht_places ht_facts : Nat) (t_lands : Int32) (t_things : Int32) (t_placeCount : Int32) (t_apart : Int32) (t_thereFirst : Int32) (t_cells : (Nat → Int64)) (t_facts : (Nat → Int32)) (x1_ : Int32) (x2_ : Int32) (o : Int32) (hf : fX5_needOf t_apart t_cells t_facts x1_ x2_ = some o) : Mi l D dA yX5_needOf (Cond.code yX5_needOf cX5_needOf 4 (some .int) :: wA) 2 48 [.ref ht, .int x1_, .int x2_] (wX5_needOf dA ht ht_cells ht_places ht_facts t_lands t_things t_placeCount t_apart t_thereFirst t_cells t_facts) (wX5_needOf dA ht ht_cells ht_places ht_facts t_lands t_things t_placeCount t_apart t_thereFirst t_cells t_facts) o := by
  intro sz
  refine M_of (cc := cX5_needOf) (nL := 4) (ret := (some .int)) (own := RX5) (by decide +kernel) rfl (Nat.le_of_ble_eq_true rfl) ?_
  intro p e s m below meth c ls hsz C hw hl
  subst hsz
  have hR : 2 ≤ (rmm 2 48).frames ∧ 48 ≤ (rmm 2 48).locals ∧ 0 ≤ (rmm 2 48).cells ∧ 0 ≤ (rmm 2 48).slots := ⟨Nat.le_refl _, Nat.le_refl _, Nat.le_refl _, Nat.le_refl _⟩
  have hl : lv_has ls 4 [(0, .ref ht), (1, .int x1_), (2, .int x2_)] := hl
  have hx := C.1
  have hb := C.2.1
  have hml := C.2.2.1
  have hown := C.2.2.2.1
  have hts := C.2.2.2.2.1
  have hK : ∀ (H : Heap) (locs : List Loc) (pc : Nat) (ls : Array Slot), decode cX5_needOf pc = .ok (.ireturn, 1) → St D (wX5_needOf dA ht ht_cells ht_places ht_facts t_lands t_things t_placeCount t_apart t_thereFirst t_cells t_facts) s (wX5_needOf dA ht ht_cells ht_places ht_facts t_lands t_things t_placeCount t_apart t_thereFirst t_cells t_facts) H locs → W p l e (rmm 2 48) s m [.ref ht, .int x1_, .int x2_].toArray below meth c H locs 0 0 (MQ below (Qi D (wX5_needOf dA ht ht_cells ht_places ht_facts t_lands t_things t_placeCount t_apart t_thereFirst t_cells t_facts) (wX5_needOf dA ht ht_cells ht_places ht_facts t_lands t_things t_placeCount t_apart t_thereFirst t_cells t_facts) o s.heap.size) [.ref ht, .int x1_, .int x2_].toArray s 0 0 (va_A (wX5_needOf dA ht ht_cells ht_places ht_facts t_lands t_things t_placeCount t_apart t_thereFirst t_cells t_facts) s.heap.size)) (F0 m pc ls [.int o]) := fun H locs pc ls hd hw => k_iret C hw hd
  unfold fX5_needOf at hf
  refine lv_aload_n hx hb dX5_needOf_0 rfl (lv_at hl 0 rfl) ?_
  refine lv_iload_n hx hb dX5_needOf_1 rfl (lv_at hl 1 rfl) ?_
  refine lv_iload_n hx hb dX5_needOf_2 rfl (lv_at hl 2 rfl) ?_
  obtain ⟨o1, ho1, hf⟩ := bind_r hf
  refine k_callVi C hw (n := 2) (As := [.int x1_, .int x2_]) (w1 := (wX5_needOf dA ht ht_cells ht_places ht_facts t_lands t_things t_placeCount t_apart t_thereFirst t_cells t_facts)) (wr := [(ht_facts, .inl (dA 0, 224, .inl t_facts))]) [0, 1] [2] [1, 2, 0] rfl rfl (by decide) (by decide) (by decide) rfl (by decide) (qX5_shareCell l D dA ht ht_cells ht_places ht_facts t_lands t_things t_placeCount t_apart t_thereFirst t_cells x1_ x2_ _ ho1) wlX5_58 wmX5_shareCell wvX5_shareCell wnX5 wcX5_shareCell rfl (by decide +kernel) ⟨Nat.le_trans (by decide) hR.1, Nat.le_trans (by decide) hR.2.1⟩ hR.2.2 rfl 0 rfl rfl hl.1 (Nat.le_of_ble_eq_true rfl) dX5_needOf_3 rfl (fun H locs hw => ?_)
  refine lv_if_ne (tgt := 11) hx hb dX5_needOf_6 (by decide) (fun c2 => ?_) (fun c2 => ?_)
  · have hf := ite_f c2 hf
    refine lv_aload_n hx hb dX5_needOf_11 rfl (lv_at hl 0 rfl) ?_
    refine k_get C hw 0 rfl rfl wiX5 5 (by decide) wfX5_29 rfl dX5_needOf_12 ?_
    refine lv_aload_n hx hb dX5_needOf_15 rfl (lv_at hl 0 rfl) ?_
    refine lv_iload_n hx hb dX5_needOf_16 rfl (lv_at hl 1 rfl) ?_
    refine lv_iload_n hx hb dX5_needOf_17 rfl (lv_at hl 2 rfl) ?_
    obtain ⟨o3, ho3, hf⟩ := bind_r hf
    refine k_callVi C hw (n := 2) (As := [.int x1_, .int x2_]) (w1 := (wX5_needOf dA ht ht_cells ht_places ht_facts t_lands t_things t_placeCount t_apart t_thereFirst t_cells t_facts)) (wr := [(ht_cells, .inl (dA 1, 16, .inr (.inl t_cells)))]) [0, 2] [1] [1, 0, 2] rfl rfl (by decide) (by decide) (by decide) rfl (by decide) (qX5_quietFrom l D dA ht ht_cells ht_places ht_facts t_lands t_things t_placeCount t_apart t_thereFirst t_facts x1_ x2_ _ ho3) wlX5_62 wmX5_quietFrom wvX5_quietFrom wnX5 wcX5_quietFrom rfl (by decide +kernel) ⟨Nat.le_trans (by decide) hR.1, Nat.le_trans (by decide) hR.2.1⟩ hR.2.2 rfl 0 rfl rfl hl.1 (Nat.le_of_ble_eq_true rfl) dX5_needOf_18 rfl (fun H locs hw => ?_)
    refine lv_aload_n hx hb dX5_needOf_21 rfl (lv_at hl 0 rfl) ?_
    refine lv_iload_n hx hb dX5_needOf_22 rfl (lv_at hl 2 rfl) ?_
    refine lv_iload_n hx hb dX5_needOf_23 rfl (lv_at hl 1 rfl) ?_
    obtain ⟨o4, ho4, hf⟩ := bind_r hf
    refine k_callVi C hw (n := 2) (As := [.int x2_, .int x1_]) (w1 := (wX5_needOf dA ht ht_cells ht_places ht_facts t_lands t_things t_placeCount t_apart t_thereFirst t_cells t_facts)) (wr := [(ht_cells, .inl (dA 1, 16, .inr (.inl t_cells)))]) [0, 2] [1] [1, 0, 2] rfl rfl (by decide) (by decide) (by decide) rfl (by decide) (qX5_quietFrom l D dA ht ht_cells ht_places ht_facts t_lands t_things t_placeCount t_apart t_thereFirst t_facts x2_ x1_ _ ho4) wlX5_62 wmX5_quietFrom wvX5_quietFrom wnX5 wcX5_quietFrom rfl (by decide +kernel) ⟨Nat.le_trans (by decide) hR.1, Nat.le_trans (by decide) hR.2.1⟩ hR.2.2 rfl 0 rfl rfl hl.1 (Nat.le_of_ble_eq_true rfl) dX5_needOf_24 rfl (fun H locs hw => ?_)
    refine va_mmax hx hb (hml.trans hl.1.symm) hown (hts _ wlX5_65) (hts _ wxsmax) (hts _ wxmi) (hts _ wxcmax) (Nat.le_trans (by decide) hR.1) (Nat.le_trans (Nat.le_of_ble_eq_true rfl) hR.2.1) hR.2.2.1 hR.2.2.2 dX5_needOf_27 ?_
    refine lv_topi (fun x5 ex5 => ?_)
    have hf := bnd_r ex5 hf
    refine va_mmax hx hb (hml.trans hl.1.symm) hown (hts _ wlX5_65) (hts _ wxsmax) (hts _ wxmi) (hts _ wxcmax) (Nat.le_trans (by decide) hR.1) (Nat.le_trans (Nat.le_of_ble_eq_true rfl) hR.2.1) hR.2.2.1 hR.2.2.2 dX5_needOf_30 ?_
    refine lv_topi (fun x6 ex6 => ?_)
    have hf := bnd_r ex6 hf
    refine lv_istore_n (lv' := [(3, .int x6), (0, .ref ht), (1, .int x1_), (2, .int x2_)]) hx hb dX5_needOf_33 rfl hl (by decide) rfl (fun ls hl => ?_)
    refine lv_iload_n hx hb dX5_needOf_34 rfl (lv_at hl 0 rfl) ?_
    refine lv_sipush (v := (1800 : Int32)) hx hb dX5_needOf_35 (by decide) ?_
    refine lv_icmp_gt (tgt := 45) hx hb dX5_needOf_38 (by decide) (fun c7 => ?_) (fun c7 => ?_)
    · have hf := ite_t c7 hf
      refine lv_iconst (v := (-1 : Int32)) hx hb dX5_needOf_45 (by decide) ?_
      obtain rfl := some_r hf
      exact hK _ _ _ _ dX5_needOf_46 hw
    · have hf := ite_f c7 hf
      refine lv_iload_n hx hb dX5_needOf_41 rfl (lv_at hl 0 rfl) ?_
      refine lv_goto (tgt := 46) hx hb dX5_needOf_42 (by decide) ?_
      obtain rfl := some_r hf
      exact hK _ _ _ _ dX5_needOf_46 hw
  · have hf := ite_t c2 hf
    refine lv_iconst (v := (0 : Int32)) hx hb dX5_needOf_9 (by decide) ?_
    obtain rfl := some_r hf
    exact hK _ _ _ _ dX5_needOf_10 hw
