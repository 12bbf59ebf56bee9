/-! RingPlaces$Papers.wasThereBy(II)Z -/
abbrev wX3_wasThereBy (dA : Nat → ClassId) (ht ht_ring ht_ring_cells ht_ring_places ht_ring_facts : Nat) (t_ring_lands : Int32) (t_ring_things : Int32) (t_ring_placeCount : Int32) (t_ring_apart : Int32) (t_ring_thereFirst : Int32) (t_ring_facts : (Nat → Int32)) : va_W := [(ht, .inr (3, [.ref ht_ring])), (ht_ring, .inr (5, [.ref ht_ring_cells, .ref ht_ring_places, .int t_ring_lands, .int t_ring_things, .int t_ring_placeCount, .int t_ring_apart, .int t_ring_thereFirst, .ref ht_ring_facts])), (ht_ring_facts, .inl (dA 0, 224, .inl t_ring_facts))]
def fX3_wasThereBy (t_ring_facts : (Nat → Int32)) (x1_ : Int32) (x2_ : Int32) : Option (Int32) := (fX5_told t_ring_facts x1_ (12 : Int32)).bind fun o1 => (if o1 = (-1 : Int32) then some (0 : Int32) else (if x2_ < o1 then some (0 : Int32) else some (1 : Int32)))
set_option maxHeartbeats 4000000 in
set_option maxRecDepth 100000 in
theorem qX3_wasThereBy (l : Launch) (D : va_G) (dA : Nat → ClassId) (ht ht_ring ht_ring_cells ht_ring_places ht_ring_facts : Nat) (t_ring_lands : Int32) (t_ring_things : Int32) (t_ring_placeCount : Int32) (t_ring_apart : Int32) (t_ring_thereFirst : Int32) (t_ring_facts : (Nat → Int32)) (x1_ : Int32) (x2_ : Int32) (o : Int32) (hf : fX3_wasThereBy t_ring_facts x1_ x2_ = some o) : Mi l D dA yX3_wasThereBy (Cond.code yX3_wasThereBy cX3_wasThereBy 4 (some .boolean) :: wA) 1 23 [.ref ht, .int x1_, .int x2_] (wX3_wasThereBy dA ht ht_ring ht_ring_cells ht_ring_places ht_ring_facts t_ring_lands t_ring_things t_ring_placeCount t_ring_apart t_ring_thereFirst t_ring_facts) (wX3_wasThereBy dA ht ht_ring ht_ring_cells ht_ring_places ht_ring_facts t_ring_lands t_ring_things t_ring_placeCount t_ring_apart t_ring_thereFirst t_ring_facts) o := by
  intro sz
  refine M_of (cc := cX3_wasThereBy) (nL := 4) (ret := (some .boolean)) (own := RX3) (by decide +kernel) rfl (Nat.le_of_ble_eq_true rfl) ?_
  intro p e s m below meth c ls hsz C hw hl
  subst hsz
  have hR : 1 ≤ (rmm 1 23).frames ∧ 23 ≤ (rmm 1 23).locals ∧ 0 ≤ (rmm 1 23).cells ∧ 0 ≤ (rmm 1 23).slots := ⟨Nat.le_refl _, Nat.le_refl _, Nat.le_refl _, Nat.le_refl _⟩
  have hl : lv_has ls 4 [(0, .ref ht), (1, .int x1_), (2, .int x2_)] := hl
  have hx := C.1
  have hb := C.2.1
  have hml := C.2.2.1
  have hown := C.2.2.2.1
  have hts := C.2.2.2.2.1
  have hK : ∀ (H : Heap) (locs : List Loc) (pc : Nat) (ls : Array Slot), (o = 0 ∨ o = 1) → decode cX3_wasThereBy pc = .ok (.ireturn, 1) → St D (wX3_wasThereBy dA ht ht_ring ht_ring_cells ht_ring_places ht_ring_facts t_ring_lands t_ring_things t_ring_placeCount t_ring_apart t_ring_thereFirst t_ring_facts) s (wX3_wasThereBy dA ht ht_ring ht_ring_cells ht_ring_places ht_ring_facts t_ring_lands t_ring_things t_ring_placeCount t_ring_apart t_ring_thereFirst t_ring_facts) H locs → W p l e (rmm 1 23) s m [.ref ht, .int x1_, .int x2_].toArray below meth c H locs 0 0 (MQ below (Qi D (wX3_wasThereBy dA ht ht_ring ht_ring_cells ht_ring_places ht_ring_facts t_ring_lands t_ring_things t_ring_placeCount t_ring_apart t_ring_thereFirst t_ring_facts) (wX3_wasThereBy dA ht ht_ring ht_ring_cells ht_ring_places ht_ring_facts t_ring_lands t_ring_things t_ring_placeCount t_ring_apart t_ring_thereFirst t_ring_facts) o s.heap.size) [.ref ht, .int x1_, .int x2_].toArray s 0 0 (va_A (wX3_wasThereBy dA ht ht_ring ht_ring_cells ht_ring_places ht_ring_facts t_ring_lands t_ring_things t_ring_placeCount t_ring_apart t_ring_thereFirst t_ring_facts) s.heap.size)) (F0 m pc ls [.int o]) := fun H locs pc ls hz hd hw => k_zret C hw hz hd
  unfold fX3_wasThereBy at hf
  refine lv_aload_n hx hb dX3_wasThereBy_0 rfl (lv_at hl 0 rfl) ?_
  refine k_get C hw 0 rfl rfl wiX3 0 (by decide) wfX3_9 rfl dX3_wasThereBy_1 ?_
  refine lv_iload_n hx hb dX3_wasThereBy_4 rfl (lv_at hl 1 rfl) ?_
  refine lv_bipush (v := (12 : Int32)) hx hb dX3_wasThereBy_5 (by decide) ?_
  obtain ⟨o1, ho1, hf⟩ := bind_r hf
  refine k_callVi C hw (n := 2) (As := [.int x1_, .int (12 : Int32)]) (w1 := (wX3_wasThereBy dA ht ht_ring ht_ring_cells ht_ring_places ht_ring_facts t_ring_lands t_ring_things t_ring_placeCount t_ring_apart t_ring_thereFirst t_ring_facts)) (wr := [(ht, .inr (3, [.ref ht_ring]))]) [1, 2] [0] [0, 1, 2] rfl rfl (by decide) (by decide) (by decide) rfl (by decide) (qX5_told l D dA ht_ring ht_ring_cells ht_ring_places ht_ring_facts t_ring_lands t_ring_things t_ring_placeCount t_ring_apart t_ring_thereFirst t_ring_facts x1_ (12 : Int32) _ ho1) wlX3_15 wmX5_told wvX5_told wnX5 wcX5_told rfl (by decide +kernel) ⟨Nat.le_trans (by decide) hR.1, Nat.le_trans (by decide) hR.2.1⟩ hR.2.2 rfl 0 rfl rfl hl.1 (Nat.le_of_ble_eq_true rfl) dX3_wasThereBy_7 rfl (fun H locs hw => ?_)
  refine lv_istore_n (lv' := [(3, .int o1), (0, .ref ht), (1, .int x1_), (2, .int x2_)]) hx hb dX3_wasThereBy_10 rfl hl (by decide) rfl (fun ls hl => ?_)
  refine lv_iload_n hx hb dX3_wasThereBy_11 rfl (lv_at hl 0 rfl) ?_
  refine lv_iconst (v := (-1 : Int32)) hx hb dX3_wasThereBy_12 (by decide) ?_
  refine lv_icmp_eq (tgt := 25) hx hb dX3_wasThereBy_13 (by decide) (fun c2 => ?_) (fun c2 => ?_)
  · have hf := ite_t c2 hf
    refine lv_iconst (v := (0 : Int32)) hx hb dX3_wasThereBy_25 (by decide) ?_
    obtain rfl := some_r hf
    exact hK _ _ _ _ (Or.inl rfl) dX3_wasThereBy_26 hw
  · have hf := ite_f c2 hf
    refine lv_iload_n hx hb dX3_wasThereBy_16 rfl (lv_at hl 0 rfl) ?_
    refine lv_iload_n hx hb dX3_wasThereBy_17 rfl (lv_at hl 3 rfl) ?_
    refine lv_icmp_gt (tgt := 25) hx hb dX3_wasThereBy_18 (by decide) (fun c3 => ?_) (fun c3 => ?_)
    · have hf := ite_t c3 hf
      refine lv_iconst (v := (0 : Int32)) hx hb dX3_wasThereBy_25 (by decide) ?_
      obtain rfl := some_r hf
      exact hK _ _ _ _ (Or.inl rfl) dX3_wasThereBy_26 hw
    · have hf := ite_f c3 hf
      refine lv_iconst (v := (1 : Int32)) hx hb dX3_wasThereBy_21 (by decide) ?_
      refine lv_goto (tgt := 26) hx hb dX3_wasThereBy_22 (by decide) ?_
      obtain rfl := some_r hf
      exact hK _ _ _ _ (Or.inr rfl) dX3_wasThereBy_26 hw

/-! RingPlaces$Papers.isGood(II)Z -/
abbrev wX3_isGood (dA : Nat → ClassId) (ht ht_ring ht_ring_cells ht_ring_places ht_ring_facts : Nat) (t_ring_lands : Int32) (t_ring_things : Int32) (t_ring_placeCount : Int32) (t_ring_apart : Int32) (t_ring_thereFirst : Int32) (t_ring_facts : (Nat → Int32)) : va_W := [(ht, .inr (3, [.ref ht_ring])), (ht_ring, .inr (5, [.ref ht_ring_cells, .ref ht_ring_places, .int t_ring_lands, .int t_ring_things, .int t_ring_placeCount, .int t_ring_apart, .int t_ring_thereFirst, .ref ht_ring_facts])), (ht_ring_facts, .inl (dA 0, 224, .inl t_ring_facts))]
def fX3_isGood (t_ring_facts : (Nat → Int32)) (x1_ : Int32) (x2_ : Int32) : Option (Int32) := (fX5_told t_ring_facts x1_ (10 : Int32)).bind fun o1 => (if o1 = (-1 : Int32) then some (0 : Int32) else (if o1 ≤ x2_ then (fX5_told t_ring_facts x1_ (11 : Int32)).bind fun o4 => (if x2_ ≤ o4 then some (1 : Int32) else (fX5_told t_ring_facts x1_ (11 : Int32)).bind fun o6 => (fX3_wasThereBy t_ring_facts x1_ o6).bind fun o7 => (if o7 = 0 then some (0 : Int32) else some (1 : Int32))) else some (0 : Int32)))
set_option maxHeartbeats 4000000 in
set_option maxRecDepth 100000 in
theorem qX3_isGood (l : Launch) (D : va_G) (dA : Nat → ClassId) (ht ht_ring ht_ring_cells ht_ring_places ht_ring_facts : Nat) (t_ring_lands : Int32) (t_ring_things : Int32) (t_ring_placeCount : Int32) (t_ring_apart : Int32) (t_ring_thereFirst : Int32) (t_ring_facts : (Nat → Int32)) (x1_ : Int32) (x2_ : Int32) (o : Int32) (hf : fX3_isGood t_ring_facts x1_ x2_ = some o) : Mi l D dA yX3_isGood (Cond.code yX3_isGood cX3_isGood 4 (some .boolean) :: wA) 2 46 [.ref ht, .int x1_, .int x2_] (wX3_isGood dA ht ht_ring ht_ring_cells ht_ring_places ht_ring_facts t_ring_lands t_ring_things t_ring_placeCount t_ring_apart t_ring_thereFirst t_ring_facts) (wX3_isGood dA ht ht_ring ht_ring_cells ht_ring_places ht_ring_facts t_ring_lands t_ring_things t_ring_placeCount t_ring_apart t_ring_thereFirst t_ring_facts) o := by
  intro sz
  refine M_of (cc := cX3_isGood) (nL := 4) (ret := (some .boolean)) (own := RX3) (by decide +kernel) rfl (Nat.le_of_ble_eq_true rfl) ?_
  intro p e s m below meth c ls hsz C hw hl
  subst hsz
  have hR : 2 ≤ (rmm 2 46).frames ∧ 46 ≤ (rmm 2 46).locals ∧ 0 ≤ (rmm 2 46).cells ∧ 0 ≤ (rmm 2 46).slots := ⟨Nat.le_refl _, Nat.le_refl _, Nat.le_refl _, Nat.le_refl _⟩
  have hl : lv_has ls 4 [(0, .ref ht), (1, .int x1_), (2, .int x2_)] := hl
  have hx := C.1
  have hb := C.2.1
  have hml := C.2.2.1
  have hown := C.2.2.2.1
  have hts := C.2.2.2.2.1
  have hK : ∀ (H : Heap) (locs : List Loc) (pc : Nat) (ls : Array Slot), (o = 0 ∨ o = 1) → decode cX3_isGood pc = .ok (.ireturn, 1) → St D (wX3_isGood dA ht ht_ring ht_ring_cells ht_ring_places ht_ring_facts t_ring_lands t_ring_things t_ring_placeCount t_ring_apart t_ring_thereFirst t_ring_facts) s (wX3_isGood dA ht ht_ring ht_ring_cells ht_ring_places ht_ring_facts t_ring_lands t_ring_things t_ring_placeCount t_ring_apart t_ring_thereFirst t_ring_facts) H locs → W p l e (rmm 2 46) s m [.ref ht, .int x1_, .int x2_].toArray below meth c H locs 0 0 (MQ below (Qi D (wX3_isGood dA ht ht_ring ht_ring_cells ht_ring_places ht_ring_facts t_ring_lands t_ring_things t_ring_placeCount t_ring_apart t_ring_thereFirst t_ring_facts) (wX3_isGood dA ht ht_ring ht_ring_cells ht_ring_places ht_ring_facts t_ring_lands t_ring_things t_ring_placeCount t_ring_apart t_ring_thereFirst t_ring_facts) o s.heap.size) [.ref ht, .int x1_, .int x2_].toArray s 0 0 (va_A (wX3_isGood dA ht ht_ring ht_ring_cells ht_ring_places ht_ring_facts t_ring_lands t_ring_things t_ring_placeCount t_ring_apart t_ring_thereFirst t_ring_facts) s.heap.size)) (F0 m pc ls [.int o]) := fun H locs pc ls hz hd hw => k_zret C hw hz hd
  unfold fX3_isGood at hf
  refine lv_aload_n hx hb dX3_isGood_0 rfl (lv_at hl 0 rfl) ?_
  refine k_get C hw 0 rfl rfl wiX3 0 (by decide) wfX3_9 rfl dX3_isGood_1 ?_
  refine lv_iload_n hx hb dX3_isGood_4 rfl (lv_at hl 1 rfl) ?_
  refine lv_bipush (v := (10 : Int32)) hx hb dX3_isGood_5 (by decide) ?_
  obtain ⟨o1, ho1, hf⟩ := bind_r hf
  refine k_callVi C hw (n := 2) (As := [.int x1_, .int (10 : Int32)]) (w1 := (wX3_isGood dA ht ht_ring ht_ring_cells ht_ring_places ht_ring_facts t_ring_lands t_ring_things t_ring_placeCount t_ring_apart t_ring_thereFirst t_ring_facts)) (wr := [(ht, .inr (3, [.ref ht_ring]))]) [1, 2] [0] [0, 1, 2] rfl rfl (by decide) (by decide) (by decide) rfl (by decide) (qX5_told l D dA ht_ring ht_ring_cells ht_ring_places ht_ring_facts t_ring_lands t_ring_things t_ring_placeCount t_ring_apart t_ring_thereFirst t_ring_facts x1_ (10 : Int32) _ ho1) wlX3_15 wmX5_told wvX5_told wnX5 wcX5_told rfl (by decide +kernel) ⟨Nat.le_trans (by decide) hR.1, Nat.le_trans (by decide) hR.2.1⟩ hR.2.2 rfl 0 rfl rfl hl.1 (Nat.le_of_ble_eq_true rfl) dX3_isGood_7 rfl (fun H locs hw => ?_)
  refine lv_istore_n (lv' := [(3, .int o1), (0, .ref ht), (1, .int x1_), (2, .int x2_)]) hx hb dX3_isGood_10 rfl hl (by decide) rfl (fun ls hl => ?_)
  refine lv_iload_n hx hb dX3_isGood_11 rfl (lv_at hl 0 rfl) ?_
  refine lv_iconst (v := (-1 : Int32)) hx hb dX3_isGood_12 (by decide) ?_
  refine lv_icmp_eq (tgt := 21) hx hb dX3_isGood_13 (by decide) (fun c2 => ?_) (fun c2 => ?_)
  · have hf := ite_t c2 hf
    refine lv_iconst (v := (0 : Int32)) hx hb dX3_isGood_21 (by decide) ?_
    obtain rfl := some_r hf
    exact hK _ _ _ _ (Or.inl rfl) dX3_isGood_22 hw
  · have hf := ite_f c2 hf
    refine lv_iload_n hx hb dX3_isGood_16 rfl (lv_at hl 0 rfl) ?_
    refine lv_iload_n hx hb dX3_isGood_17 rfl (lv_at hl 3 rfl) ?_
    refine lv_icmp_le (tgt := 23) hx hb dX3_isGood_18 (by decide) (fun c3 => ?_) (fun c3 => ?_)
    · have hf := ite_t c3 hf
      refine lv_iload_n hx hb dX3_isGood_23 rfl (lv_at hl 3 rfl) ?_
      refine lv_aload_n hx hb dX3_isGood_24 rfl (lv_at hl 1 rfl) ?_
      refine k_get C hw 0 rfl rfl wiX3 0 (by decide) wfX3_9 rfl dX3_isGood_25 ?_
      refine lv_iload_n hx hb dX3_isGood_28 rfl (lv_at hl 2 rfl) ?_
      refine lv_bipush (v := (11 : Int32)) hx hb dX3_isGood_29 (by decide) ?_
      obtain ⟨o4, ho4, hf⟩ := bind_r hf
      refine k_callVi C hw (n := 2) (As := [.int x1_, .int (11 : Int32)]) (w1 := (wX3_isGood dA ht ht_ring ht_ring_cells ht_ring_places ht_ring_facts t_ring_lands t_ring_things t_ring_placeCount t_ring_apart t_ring_thereFirst t_ring_facts)) (wr := [(ht, .inr (3, [.ref ht_ring]))]) [1, 2] [0] [0, 1, 2] rfl rfl (by decide) (by decide) (by decide) rfl (by decide) (qX5_told l D dA ht_ring ht_ring_cells ht_ring_places ht_ring_facts t_ring_lands t_ring_things t_ring_placeCount t_ring_apart t_ring_thereFirst t_ring_facts x1_ (11 : Int32) _ ho4) wlX3_15 wmX5_told wvX5_told wnX5 wcX5_told rfl (by decide +kernel) ⟨Nat.le_trans (by decide) hR.1, Nat.le_trans (by decide) hR.2.1⟩ hR.2.2 rfl 0 rfl rfl hl.1 (Nat.le_of_ble_eq_true rfl) dX3_isGood_31 rfl (fun H locs hw => ?_)
      refine lv_icmp_le (tgt := 55) hx hb dX3_isGood_34 (by decide) (fun c5 => ?_) (fun c5 => ?_)
      · have hf := ite_t c5 hf
        refine lv_iconst (v := (1 : Int32)) hx hb dX3_isGood_55 (by decide) ?_
        refine lv_goto (tgt := 60) hx hb dX3_isGood_56 (by decide) ?_
        obtain rfl := some_r hf
        exact hK _ _ _ _ (Or.inr rfl) dX3_isGood_60 hw
      · have hf := ite_f c5 hf
        refine lv_aload_n hx hb dX3_isGood_37 rfl (lv_at hl 1 rfl) ?_
        refine lv_iload_n hx hb dX3_isGood_38 rfl (lv_at hl 2 rfl) ?_
        refine lv_aload_n hx hb dX3_isGood_39 rfl (lv_at hl 1 rfl) ?_
        refine k_get C hw 0 rfl rfl wiX3 0 (by decide) wfX3_9 rfl dX3_isGood_40 ?_
        refine lv_iload_n hx hb dX3_isGood_43 rfl (lv_at hl 2 rfl) ?_
        refine lv_bipush (v := (11 : Int32)) hx hb dX3_isGood_44 (by decide) ?_
        obtain ⟨o6, ho6, hf⟩ := bind_r hf
        refine k_callVi C hw (n := 2) (As := [.int x1_, .int (11 : Int32)]) (w1 := (wX3_isGood dA ht ht_ring ht_ring_cells ht_ring_places ht_ring_facts t_ring_lands t_ring_things t_ring_placeCount t_ring_apart t_ring_thereFirst t_ring_facts)) (wr := [(ht, .inr (3, [.ref ht_ring]))]) [1, 2] [0] [0, 1, 2] rfl rfl (by decide) (by decide) (by decide) rfl (by decide) (qX5_told l D dA ht_ring ht_ring_cells ht_ring_places ht_ring_facts t_ring_lands t_ring_things t_ring_placeCount t_ring_apart t_ring_thereFirst t_ring_facts x1_ (11 : Int32) _ ho6) wlX3_15 wmX5_told wvX5_told wnX5 wcX5_told rfl (by decide +kernel) ⟨Nat.le_trans (by decide) hR.1, Nat.le_trans (by decide) hR.2.1⟩ hR.2.2 rfl 0 rfl rfl hl.1 (Nat.le_of_ble_eq_true rfl) dX3_isGood_46 rfl (fun H locs hw => ?_)
        obtain ⟨o7, ho7, hf⟩ := bind_r hf
        refine k_callVi C hw (n := 2) (As := [.int x1_, .int o6]) (w1 := (wX3_isGood dA ht ht_ring ht_ring_cells ht_ring_places ht_ring_facts t_ring_lands t_ring_things t_ring_placeCount t_ring_apart t_ring_thereFirst t_ring_facts)) (wr := []) [0, 1, 2] [] [0, 1, 2] rfl rfl (by decide) (by decide) (by decide) rfl (by decide) (qX3_wasThereBy l D dA ht ht_ring ht_ring_cells ht_ring_places ht_ring_facts t_ring_lands t_ring_things t_ring_placeCount t_ring_apart t_ring_thereFirst t_ring_facts x1_ o6 _ ho7) wlX3_21 wmX3_wasThereBy wvX3_wasThereBy wnX3 wcX3_wasThereBy rfl (by decide +kernel) ⟨Nat.le_trans (by decide) hR.1, Nat.le_trans (by decide) hR.2.1⟩ hR.2.2 rfl 0 rfl rfl hl.1 (Nat.le_of_ble_eq_true rfl) dX3_isGood_49 rfl (fun H locs hw => ?_)
        refine lv_if_eq (tgt := 59) hx hb dX3_isGood_52 (by decide) (fun c8 => ?_) (fun c8 => ?_)
        · have hf := ite_t c8 hf
          refine lv_iconst (v := (0 : Int32)) hx hb dX3_isGood_59 (by decide) ?_
          obtain rfl := some_r hf
          exact hK _ _ _ _ (Or.inl rfl) dX3_isGood_60 hw
        · have hf := ite_f c8 hf
          refine lv_iconst (v := (1 : Int32)) hx hb dX3_isGood_55 (by decide) ?_
          refine lv_goto (tgt := 60) hx hb dX3_isGood_56 (by decide) ?_
          obtain rfl := some_r hf
          exact hK _ _ _ _ (Or.inr rfl) dX3_isGood_60 hw
    · have hf := ite_f c3 hf
      refine lv_iconst (v := (0 : Int32)) hx hb dX3_isGood_21 (by decide) ?_
      obtain rfl := some_r hf
      exact hK _ _ _ _ (Or.inl rfl) dX3_isGood_22 hw

/-! RingPlaces$Papers.rankOf(II)I -/
abbrev wX3_rankOf (dA : Nat → ClassId) (ht ht_ring ht_ring_cells ht_ring_places ht_ring_facts : Nat) (t_ring_lands : Int32) (t_ring_things : Int32) (t_ring_placeCount : Int32) (t_ring_apart : Int32) (t_ring_thereFirst : Int32) (t_ring_facts : (Nat → Int32)) : va_W := [(ht, .inr (3, [.ref ht_ring])), (ht_ring, .inr (5, [.ref ht_ring_cells, .ref ht_ring_places, .int t_ring_lands, .int t_ring_things, .int t_ring_placeCount, .int t_ring_apart, .int t_ring_thereFirst, .ref ht_ring_facts])), (ht_ring_facts, .inl (dA 0, 224, .inl t_ring_facts))]
def fX3_rankOf (t_ring_thereFirst : Int32) (t_ring_facts : (Nat → Int32)) (x1_ : Int32) (x2_ : Int32) : Option (Int32) := (if t_ring_thereFirst = 0 then (fX3_isGood t_ring_facts x1_ x2_).bind fun o2 => (if o2 = 0 then some (-1 : Int32) else (fX5_told t_ring_facts x1_ (10 : Int32)).bind fun o4 => some o4) else (fX3_wasThereBy t_ring_facts x1_ x2_).bind fun o5 => (if o5 = 0 then some (-1 : Int32) else (fX5_told t_ring_facts x1_ (12 : Int32)).bind fun o7 => some o7))
set_option maxHeartbeats 4000000 in
set_option maxRecDepth 100000 in
theorem qX3_rankOf (l : Launch) (D : va_G) (dA : Nat → ClassId) (ht ht_ring ht_ring_cells ht_ring_places ht_ring_facts : Nat) (t_ring_lands : Int32) (t_ring_things : Int32) (t_ring_placeCount : Int32) (t_ring_apart : Int32) (t_ring_thereFirst : Int32) (t_ring_facts : (Nat → Int32)) (x1_ : Int32) (x2_ : Int32) (o : Int32) (hf : fX3_rankOf t_ring_thereFirst t_ring_facts x1_ x2_ = some o) : Mi l D dA yX3_rankOf (Cond.code yX3_rankOf cX3_rankOf 3 (some .int) :: wA) 3 69 [.ref ht, .int x1_, .int x2_] (wX3_rankOf dA ht ht_ring ht_ring_cells ht_ring_places ht_ring_facts t_ring_lands t_ring_things t_ring_placeCount t_ring_apart t_ring_thereFirst t_ring_facts) (wX3_rankOf dA ht ht_ring ht_ring_cells ht_ring_places ht_ring_facts t_ring_lands t_ring_things t_ring_placeCount t_ring_apart t_ring_thereFirst t_ring_facts) o := by
  intro sz
  refine M_of (cc := cX3_rankOf) (nL := 3) (ret := (some .int)) (own := RX3) (by decide +kernel) rfl (Nat.le_of_ble_eq_true rfl) ?_
  intro p e s m below meth c ls hsz C hw hl
  subst hsz
  have hR : 3 ≤ (rmm 3 69).frames ∧ 69 ≤ (rmm 3 69).locals ∧ 0 ≤ (rmm 3 69).cells ∧ 0 ≤ (rmm 3 69).slots := ⟨Nat.le_refl _, Nat.le_refl _, Nat.le_refl _, Nat.le_refl _⟩
  have hl : lv_has ls 3 [(0, .ref ht), (1, .int x1_), (2, .int x2_)] := hl
  have hx := C.1
  have hb := C.2.1
  have hml := C.2.2.1
  have hown := C.2.2.2.1
  have hts := C.2.2.2.2.1
  have hK : ∀ (H : Heap) (locs : List Loc) (pc : Nat) (ls : Array Slot), decode cX3_rankOf pc = .ok (.ireturn, 1) → St D (wX3_rankOf dA ht ht_ring ht_ring_cells ht_ring_places ht_ring_facts t_ring_lands t_ring_things t_ring_placeCount t_ring_apart t_ring_thereFirst t_ring_facts) s (wX3_rankOf dA ht ht_ring ht_ring_cells ht_ring_places ht_ring_facts t_ring_lands t_ring_things t_ring_placeCount t_ring_apart t_ring_thereFirst t_ring_facts) H locs → W p l e (rmm 3 69) s m [.ref ht, .int x1_, .int x2_].toArray below meth c H locs 0 0 (MQ below (Qi D (wX3_rankOf dA ht ht_ring ht_ring_cells ht_ring_places ht_ring_facts t_ring_lands t_ring_things t_ring_placeCount t_ring_apart t_ring_thereFirst t_ring_facts) (wX3_rankOf dA ht ht_ring ht_ring_cells ht_ring_places ht_ring_facts t_ring_lands t_ring_things t_ring_placeCount t_ring_apart t_ring_thereFirst t_ring_facts) o s.heap.size) [.ref ht, .int x1_, .int x2_].toArray s 0 0 (va_A (wX3_rankOf dA ht ht_ring ht_ring_cells ht_ring_places ht_ring_facts t_ring_lands t_ring_things t_ring_placeCount t_ring_apart t_ring_thereFirst t_ring_facts) s.heap.size)) (F0 m pc ls [.int o]) := fun H locs pc ls hd hw => k_iret C hw hd
  unfold fX3_rankOf at hf
  refine lv_aload_n hx hb dX3_rankOf_0 rfl (lv_at hl 0 rfl) ?_
  refine k_get C hw 0 rfl rfl wiX3 0 (by decide) wfX3_9 rfl dX3_rankOf_1 ?_
  refine k_get C hw 1 rfl rfl wiX5 6 (by decide) wfX3_25 rfl dX3_rankOf_4 ?_
  refine lv_if_eq (tgt := 34) hx hb dX3_rankOf_7 (by decide) (fun c1 => ?_) (fun c1 => ?_)
  · have hf := ite_t c1 hf
    refine lv_aload_n hx hb dX3_rankOf_34 rfl (lv_at hl 0 rfl) ?_
    refine lv_iload_n hx hb dX3_rankOf_35 rfl (lv_at hl 1 rfl) ?_
    refine lv_iload_n hx hb dX3_rankOf_36 rfl (lv_at hl 2 rfl) ?_
    obtain ⟨o2, ho2, hf⟩ := bind_r hf
    refine k_callVi C hw (n := 2) (As := [.int x1_, .int x2_]) (w1 := (wX3_rankOf dA ht ht_ring ht_ring_cells ht_ring_places ht_ring_facts t_ring_lands t_ring_things t_ring_placeCount t_ring_apart t_ring_thereFirst t_ring_facts)) (wr := []) [0, 1, 2] [] [0, 1, 2] rfl rfl (by decide) (by decide) (by decide) rfl (by decide) (qX3_isGood l D dA ht ht_ring ht_ring_cells ht_ring_places ht_ring_facts t_ring_lands t_ring_things t_ring_placeCount t_ring_apart t_ring_thereFirst t_ring_facts x1_ x2_ _ ho2) wlX3_29 wmX3_isGood wvX3_isGood wnX3 wcX3_isGood rfl (by decide +kernel) ⟨Nat.le_trans (by decide) hR.1, Nat.le_trans (by decide) hR.2.1⟩ hR.2.2 rfl 0 rfl rfl hl.1 (Nat.le_of_ble_eq_true rfl) dX3_rankOf_37 rfl (fun H locs hw => ?_)
    refine lv_if_eq (tgt := 56) hx hb dX3_rankOf_40 (by decide) (fun c3 => ?_) (fun c3 => ?_)
    · have hf := ite_t c3 hf
      refine lv_iconst (v := (-1 : Int32)) hx hb dX3_rankOf_56 (by decide) ?_
      obtain rfl := some_r hf
      exact hK _ _ _ _ dX3_rankOf_57 hw
    · have hf := ite_f c3 hf
      refine lv_aload_n hx hb dX3_rankOf_43 rfl (lv_at hl 0 rfl) ?_
      refine k_get C hw 0 rfl rfl wiX3 0 (by decide) wfX3_9 rfl dX3_rankOf_44 ?_
      refine lv_iload_n hx hb dX3_rankOf_47 rfl (lv_at hl 1 rfl) ?_
      refine lv_bipush (v := (10 : Int32)) hx hb dX3_rankOf_48 (by decide) ?_
      obtain ⟨o4, ho4, hf⟩ := bind_r hf
      refine k_callVi C hw (n := 2) (As := [.int x1_, .int (10 : Int32)]) (w1 := (wX3_rankOf dA ht ht_ring ht_ring_cells ht_ring_places ht_ring_facts t_ring_lands t_ring_things t_ring_placeCount t_ring_apart t_ring_thereFirst t_ring_facts)) (wr := [(ht, .inr (3, [.ref ht_ring]))]) [1, 2] [0] [0, 1, 2] rfl rfl (by decide) (by decide) (by decide) rfl (by decide) (qX5_told l D dA ht_ring ht_ring_cells ht_ring_places ht_ring_facts t_ring_lands t_ring_things t_ring_placeCount t_ring_apart t_ring_thereFirst t_ring_facts x1_ (10 : Int32) _ ho4) wlX3_15 wmX5_told wvX5_told wnX5 wcX5_told rfl (by decide +kernel) ⟨Nat.le_trans (by decide) hR.1, Nat.le_trans (by decide) hR.2.1⟩ hR.2.2 rfl 0 rfl rfl hl.1 (Nat.le_of_ble_eq_true rfl) dX3_rankOf_50 rfl (fun H locs hw => ?_)
      refine lv_goto (tgt := 57) hx hb dX3_rankOf_53 (by decide) ?_
      obtain rfl := some_r hf
      exact hK _ _ _ _ dX3_rankOf_57 hw
  · have hf := ite_f c1 hf
    refine lv_aload_n hx hb dX3_rankOf_10 rfl (lv_at hl 0 rfl) ?_
    refine lv_iload_n hx hb dX3_rankOf_11 rfl (lv_at hl 1 rfl) ?_
    refine lv_iload_n hx hb dX3_rankOf_12 rfl (lv_at hl 2 rfl) ?_
    obtain ⟨o5, ho5, hf⟩ := bind_r hf
    refine k_callVi C hw (n := 2) (As := [.int x1_, .int x2_]) (w1 := (wX3_rankOf dA ht ht_ring ht_ring_cells ht_ring_places ht_ring_facts t_ring_lands t_ring_things t_ring_placeCount t_ring_apart t_ring_thereFirst t_ring_facts)) (wr := []) [0, 1, 2] [] [0, 1, 2] rfl rfl (by decide) (by decide) (by decide) rfl (by decide) (qX3_wasThereBy l D dA ht ht_ring ht_ring_cells ht_ring_places ht_ring_facts t_ring_lands t_ring_things t_ring_placeCount t_ring_apart t_ring_thereFirst t_ring_facts x1_ x2_ _ ho5) wlX3_21 wmX3_wasThereBy wvX3_wasThereBy wnX3 wcX3_wasThereBy rfl (by decide +kernel) ⟨Nat.le_trans (by decide) hR.1, Nat.le_trans (by decide) hR.2.1⟩ hR.2.2 rfl 0 rfl rfl hl.1 (Nat.le_of_ble_eq_true rfl) dX3_rankOf_13 rfl (fun H locs hw => ?_)
    refine lv_if_eq (tgt := 32) hx hb dX3_rankOf_16 (by decide) (fun c6 => ?_) (fun c6 => ?_)
    · have hf := ite_t c6 hf
      refine lv_iconst (v := (-1 : Int32)) hx hb dX3_rankOf_32 (by decide) ?_
      obtain rfl := some_r hf
      exact hK _ _ _ _ dX3_rankOf_33 hw
    · have hf := ite_f c6 hf
      refine lv_aload_n hx hb dX3_rankOf_19 rfl (lv_at hl 0 rfl) ?_
      refine k_get C hw 0 rfl rfl wiX3 0 (by decide) wfX3_9 rfl dX3_rankOf_20 ?_
      refine lv_iload_n hx hb dX3_rankOf_23 rfl (lv_at hl 1 rfl) ?_
      refine lv_bipush (v := (12 : Int32)) hx hb dX3_rankOf_24 (by decide) ?_
      obtain ⟨o7, ho7, hf⟩ := bind_r hf
      refine k_callVi C hw (n := 2) (As := [.int x1_, .int (12 : Int32)]) (w1 := (wX3_rankOf dA ht ht_ring ht_ring_cells ht_ring_places ht_ring_facts t_ring_lands t_ring_things t_ring_placeCount t_ring_apart t_ring_thereFirst t_ring_facts)) (wr := [(ht, .inr (3, [.ref ht_ring]))]) [1, 2] [0] [0, 1, 2] rfl rfl (by decide) (by decide) (by decide) rfl (by decide) (qX5_told l D dA ht_ring ht_ring_cells ht_ring_places ht_ring_facts t_ring_lands t_ring_things t_ring_placeCount t_ring_apart t_ring_thereFirst t_ring_facts x1_ (12 : Int32) _ ho7) wlX3_15 wmX5_told wvX5_told wnX5 wcX5_told rfl (by decide +kernel) ⟨Nat.le_trans (by decide) hR.1, Nat.le_trans (by decide) hR.2.1⟩ hR.2.2 rfl 0 rfl rfl hl.1 (Nat.le_of_ble_eq_true rfl) dX3_rankOf_26 rfl (fun H locs hw => ?_)
      refine lv_goto (tgt := 33) hx hb dX3_rankOf_29 (by decide) ?_
      obtain rfl := some_r hf
      exact hK _ _ _ _ dX3_rankOf_33 hw

/-! RingPlaces$Papers.rightOf(III)I -/
abbrev wX3_rightOf (dA : Nat → ClassId) (ht ht_ring ht_ring_cells ht_ring_places ht_ring_facts : Nat) (t_ring_lands : Int32) (t_ring_things : Int32) (t_ring_placeCount : Int32) (t_ring_apart : Int32) (t_ring_thereFirst : Int32) (t_ring_cells : (Nat → Int64)) (t_ring_facts : (Nat → Int32)) : va_W := [(ht, .inr (3, [.ref ht_ring])), (ht_ring, .inr (5, [.ref ht_ring_cells, .ref ht_ring_places, .int t_ring_lands, .int t_ring_things, .int t_ring_placeCount, .int t_ring_apart, .int t_ring_thereFirst, .ref ht_ring_facts])), (ht_ring_cells, .inl (dA 1, 16, .inr (.inl t_ring_cells))), (ht_ring_facts, .inl (dA 0, 224, .inl t_ring_facts))]
def fX3_rightOf_j44 (N : Nat) (t_ring_apart : Int32) (t_ring_thereFirst : Int32) (t_ring_cells : (Nat → Int64)) (t_ring_facts : (Nat → Int32)) (v1 : Int32) (v2 : Int32) (v4 : Int32) (v5 : Int32) : Option (Int32) := (if v4 = (-1 : Int32) then (if v5 = (-1 : Int32) then some (1 : Int32) else some (-1 : Int32)) else (if v5 = (-1 : Int32) then (if v5 = (-1 : Int32) then some (1 : Int32) else some (-1 : Int32)) else (if v4 = v5 then (if v2 ≤ v1 then some (-1 : Int32) else some (1 : Int32)) else (if v5 ≤ v4 then some (-1 : Int32) else some (1 : Int32)))))
def fX3_rightOf (N : Nat) (t_ring_apart : Int32) (t_ring_thereFirst : Int32) (t_ring_cells : (Nat → Int64)) (t_ring_facts : (Nat → Int32)) (x1_ : Int32) (x2_ : Int32) (x3_ : Int32) : Option (Int32) := (fX5_needOf t_ring_apart t_ring_cells t_ring_facts x1_ x2_).bind fun o1 => (if o1 = 0 then some (0 : Int32) else (fX3_rankOf t_ring_thereFirst t_ring_facts x1_ x3_).bind fun o3 => (fX3_rankOf t_ring_thereFirst t_ring_facts x2_ x3_).bind fun o4 => (if o3 = (-1 : Int32) then (if o4 = (-1 : Int32) then some (0 : Int32) else fX3_rightOf_j44 N t_ring_apart t_ring_thereFirst t_ring_cells t_ring_facts x1_ x2_ o3 o4) else fX3_rightOf_j44 N t_ring_apart t_ring_thereFirst t_ring_cells t_ring_facts x1_ x2_ o3 o4))
set_option maxHeartbeats 4000000 in
set_option maxRecDepth 100000 in
theorem tX3_rightOf_j44 {p : Program} {l : Launch} {e : Env} {R : Room} {s : State} {m : MethodId} {args : Array Value} {below : List Frame} {meth : Method} {c : Code} {D : va_G} {dA : Nat → ClassId} {w0 : va_W} {Q : State → Prop} {H : Heap} {locs : List Loc} {ls : Array Slot} {cells slots : Nat} (C : CX p s m args meth c cX3_rightOf 6 (some .int) RX3 D dA) (ht ht_ring ht_ring_cells ht_ring_places ht_ring_facts : Nat) (hR : 4 ≤ R.frames ∧ 91 ≤ R.locals ∧ cells ≤ R.cells ∧ slots ≤ R.slots)  (t_ring_lands : Int32) (t_ring_things : Int32) (t_ring_placeCount : Int32) (t_ring_apart : Int32) (t_ring_thereFirst : Int32) (t_ring_cells : (Nat → Int64)) (t_ring_facts : (Nat → Int32)) (v1 : Int32) (v2 : Int32) (v4 : Int32) (v5 : Int32) (N : Nat) (res : (Int32)) (hf : fX3_rightOf_j44 N t_ring_apart t_ring_thereFirst t_ring_cells t_ring_facts v1 v2 v4 v5 = some res) (hK : (∀ (H : Heap) (locs : List Loc) (pc : Nat) (ls : Array Slot), decode cX3_rightOf pc = .ok (.ireturn, 1) → St D w0 s (wX3_rightOf dA ht ht_ring ht_ring_cells ht_ring_places ht_ring_facts t_ring_lands t_ring_things t_ring_placeCount t_ring_apart t_ring_thereFirst t_ring_cells t_ring_facts) H locs → W p l e R s m args below meth c H locs cells slots Q (F0 m pc ls [.int res]))) (hl : lv_has ls 6 [(1, .int v1), (2, .int v2), (4, .int v4), (5, .int v5)]) (hw : St D w0 s (wX3_rightOf dA ht ht_ring ht_ring_cells ht_ring_places ht_ring_facts t_ring_lands t_ring_things t_ring_placeCount t_ring_apart t_ring_thereFirst t_ring_cells t_ring_facts) H locs) : W p l e R s m args below meth c H locs cells slots Q (F0 m 44 ls []) := by
  have hx := C.1
  have hb := C.2.1
  have hml := C.2.2.1
  have hown := C.2.2.2.1
  have hts := C.2.2.2.2.1
  unfold fX3_rightOf_j44 at hf
  refine lv_iload hx hb dX3_rightOf_44 (lv_at hl 2 rfl) ?_
  refine lv_iconst (v := (-1 : Int32)) hx hb dX3_rightOf_46 (by decide) ?_
  refine lv_icmp_eq (tgt := 56) hx hb dX3_rightOf_47 (by decide) (fun c6 => ?_) (fun c6 => ?_)
  · have hf := ite_t c6 hf
    refine lv_iload hx hb dX3_rightOf_56 (lv_at hl 3 rfl) ?_
    refine lv_iconst (v := (-1 : Int32)) hx hb dX3_rightOf_58 (by decide) ?_
    refine lv_icmp_ne (tgt := 66) hx hb dX3_rightOf_59 (by decide) (fun c7 => ?_) (fun c7 => ?_)
    · have hf := ite_f c7 hf
      refine lv_iconst (v := (-1 : Int32)) hx hb dX3_rightOf_66 (by decide) ?_
      obtain rfl := some_r hf
      exact hK _ _ _ _ dX3_rightOf_67 hw
    · have hf := ite_t c7 hf
      refine lv_iconst (v := (1 : Int32)) hx hb dX3_rightOf_62 (by decide) ?_
      refine lv_goto (tgt := 67) hx hb dX3_rightOf_63 (by decide) ?_
      obtain rfl := some_r hf
      exact hK _ _ _ _ dX3_rightOf_67 hw
  · have hf := ite_f c6 hf
    refine lv_iload hx hb dX3_rightOf_50 (lv_at hl 3 rfl) ?_
    refine lv_iconst (v := (-1 : Int32)) hx hb dX3_rightOf_52 (by decide) ?_
    refine lv_icmp_ne (tgt := 68) hx hb dX3_rightOf_53 (by decide) (fun c8 => ?_) (fun c8 => ?_)
    · have hf := ite_f c8 hf
      refine lv_iload hx hb dX3_rightOf_68 (lv_at hl 2 rfl) ?_
      refine lv_iload hx hb dX3_rightOf_70 (lv_at hl 3 rfl) ?_
      refine lv_icmp_ne (tgt := 86) hx hb dX3_rightOf_72 (by decide) (fun c9 => ?_) (fun c9 => ?_)
      · have hf := ite_f c9 hf
        refine lv_iload hx hb dX3_rightOf_86 (lv_at hl 2 rfl) ?_
        refine lv_iload hx hb dX3_rightOf_88 (lv_at hl 3 rfl) ?_
        refine lv_icmp_ge (tgt := 97) hx hb dX3_rightOf_90 (by decide) (fun c10 => ?_) (fun c10 => ?_)
        · have hf := ite_t c10 hf
          refine lv_iconst (v := (-1 : Int32)) hx hb dX3_rightOf_97 (by decide) ?_
          obtain rfl := some_r hf
          exact hK _ _ _ _ dX3_rightOf_98 hw
        · have hf := ite_f c10 hf
          refine lv_iconst (v := (1 : Int32)) hx hb dX3_rightOf_93 (by decide) ?_
          refine lv_goto (tgt := 98) hx hb dX3_rightOf_94 (by decide) ?_
          obtain rfl := some_r hf
          exact hK _ _ _ _ dX3_rightOf_98 hw
      · have hf := ite_t c9 hf
        refine lv_iload_n hx hb dX3_rightOf_75 rfl (lv_at hl 0 rfl) ?_
        refine lv_iload_n hx hb dX3_rightOf_76 rfl (lv_at hl 1 rfl) ?_
        refine lv_icmp_ge (tgt := 84) hx hb dX3_rightOf_77 (by decide) (fun c11 => ?_) (fun c11 => ?_)
        · have hf := ite_t c11 hf
          refine lv_iconst (v := (-1 : Int32)) hx hb dX3_rightOf_84 (by decide) ?_
          obtain rfl := some_r hf
          exact hK _ _ _ _ dX3_rightOf_85 hw
        · have hf := ite_f c11 hf
          refine lv_iconst (v := (1 : Int32)) hx hb dX3_rightOf_80 (by decide) ?_
          refine lv_goto (tgt := 85) hx hb dX3_rightOf_81 (by decide) ?_
          obtain rfl := some_r hf
          exact hK _ _ _ _ dX3_rightOf_85 hw
    · have hf := ite_t c8 hf
      refine lv_iload hx hb dX3_rightOf_56 (lv_at hl 3 rfl) ?_
      refine lv_iconst (v := (-1 : Int32)) hx hb dX3_rightOf_58 (by decide) ?_
      refine lv_icmp_ne (tgt := 66) hx hb dX3_rightOf_59 (by decide) (fun c12 => ?_) (fun c12 => ?_)
      · have hf := ite_f c12 hf
        refine lv_iconst (v := (-1 : Int32)) hx hb dX3_rightOf_66 (by decide) ?_
        obtain rfl := some_r hf
        exact hK _ _ _ _ dX3_rightOf_67 hw
      · have hf := ite_t c12 hf
        refine lv_iconst (v := (1 : Int32)) hx hb dX3_rightOf_62 (by decide) ?_
        refine lv_goto (tgt := 67) hx hb dX3_rightOf_63 (by decide) ?_
        obtain rfl := some_r hf
        exact hK _ _ _ _ dX3_rightOf_67 hw
set_option maxHeartbeats 4000000 in
set_option maxRecDepth 100000 in
theorem qX3_rightOf (l : Launch) (D : va_G) (dA : Nat → ClassId) (ht ht_ring ht_ring_cells ht_ring_places ht_ring_facts : Nat) (t_ring_lands : Int32) (t_ring_things : Int32) (t_ring_placeCount : Int32) (t_ring_apart : Int32) (t_ring_thereFirst : Int32) (t_ring_cells : (Nat → Int64)) (t_ring_facts : (Nat → Int32)) (x1_ : Int32) (x2_ : Int32) (x3_ : Int32) (N : Nat) (o : Int32) (hf : fX3_rightOf N t_ring_apart t_ring_thereFirst t_ring_cells t_ring_facts x1_ x2_ x3_ = some o) : Mi l D dA yX3_rightOf (Cond.code yX3_rightOf cX3_rightOf 6 (some .int) :: wA) 4 91 [.ref ht, .int x1_, .int x2_, .int x3_] (wX3_rightOf dA ht ht_ring ht_ring_cells ht_ring_places ht_ring_facts t_ring_lands t_ring_things t_ring_placeCount t_ring_apart t_ring_thereFirst t_ring_cells t_ring_facts) (wX3_rightOf dA ht ht_ring ht_ring_cells ht_ring_places ht_ring_facts t_ring_lands t_ring_things t_ring_placeCount t_ring_apart t_ring_thereFirst t_ring_cells t_ring_facts) o := by
  intro sz
  refine M_of (cc := cX3_rightOf) (nL := 6) (ret := (some .int)) (own := RX3) (by decide +kernel) rfl (Nat.le_of_ble_eq_true rfl) ?_
  intro p e s m below meth c ls hsz C hw hl
  subst hsz
  have hR : 4 ≤ (rmm 4 91).frames ∧ 91 ≤ (rmm 4 91).locals ∧ 0 ≤ (rmm 4 91).cells ∧ 0 ≤ (rmm 4 91).slots := ⟨Nat.le_refl _, Nat.le_refl _, Nat.le_refl _, Nat.le_refl _⟩
  have hl : lv_has ls 6 [(0, .ref ht), (1, .int x1_), (2, .int x2_), (3, .int x3_)] := hl
  have hx := C.1
  have hb := C.2.1
  have hml := C.2.2.1
  have hown := C.2.2.2.1
  have hts := C.2.2.2.2.1
  have hK : ∀ (H : Heap) (locs : List Loc) (pc : Nat) (ls : Array Slot), decode cX3_rightOf pc = .ok (.ireturn, 1) → St D (wX3_rightOf dA ht ht_ring ht_ring_cells ht_ring_places ht_ring_facts t_ring_lands t_ring_things t_ring_placeCount t_ring_apart t_ring_thereFirst t_ring_cells t_ring_facts) s (wX3_rightOf dA ht ht_ring ht_ring_cells ht_ring_places ht_ring_facts t_ring_lands t_ring_things t_ring_placeCount t_ring_apart t_ring_thereFirst t_ring_cells t_ring_facts) H locs → W p l e (rmm 4 91) s m [.ref ht, .int x1_, .int x2_, .int x3_].toArray below meth c H locs 0 0 (MQ below (Qi D (wX3_rightOf dA ht ht_ring ht_ring_cells ht_ring_places ht_ring_facts t_ring_lands t_ring_things t_ring_placeCount t_ring_apart t_ring_thereFirst t_ring_cells t_ring_facts) (wX3_rightOf dA ht ht_ring ht_ring_cells ht_ring_places ht_ring_facts t_ring_lands t_ring_things t_ring_placeCount t_ring_apart t_ring_thereFirst t_ring_cells t_ring_facts) o s.heap.size) [.ref ht, .int x1_, .int x2_, .int x3_].toArray s 0 0 (va_A (wX3_rightOf dA ht ht_ring ht_ring_cells ht_ring_places ht_ring_facts t_ring_lands t_ring_things t_ring_placeCount t_ring_apart t_ring_thereFirst t_ring_cells t_ring_facts) s.heap.size)) (F0 m pc ls [.int o]) := fun H locs pc ls hd hw => k_iret C hw hd
  unfold fX3_rightOf at hf
  refine lv_aload_n hx hb dX3_rightOf_0 rfl (lv_at hl 0 rfl) ?_
  refine k_get C hw 0 rfl rfl wiX3 0 (by decide) wfX3_9 rfl dX3_rightOf_1 ?_
  refine lv_iload_n hx hb dX3_rightOf_4 rfl (lv_at hl 1 rfl) ?_
  refine lv_iload_n hx hb dX3_rightOf_5 rfl (lv_at hl 2 rfl) ?_
  obtain ⟨o1, ho1, hf⟩ := bind_r hf
  refine k_callVi C hw (n := 2) (As := [.int x1_, .int x2_]) (w1 := (wX3_rightOf dA ht ht_ring ht_ring_cells ht_ring_places ht_ring_facts t_ring_lands t_ring_things t_ring_placeCount t_ring_apart t_ring_thereFirst t_ring_cells t_ring_facts)) (wr := [(ht, .inr (3, [.ref ht_ring]))]) [1, 2, 3] [0] [0, 1, 2, 3] rfl rfl (by decide) (by decide) (by decide) rfl (by decide) (qX5_needOf l D dA ht_ring ht_ring_cells ht_ring_places ht_ring_facts t_ring_lands t_ring_things t_ring_placeCount t_ring_apart t_ring_thereFirst t_ring_cells t_ring_facts x1_ x2_ _ ho1) wlX3_32 wmX5_needOf wvX5_needOf wnX5 wcX5_needOf rfl (by decide +kernel) ⟨Nat.le_trans (by decide) hR.1, Nat.le_trans (by decide) hR.2.1⟩ hR.2.2 rfl 0 rfl rfl hl.1 (Nat.le_of_ble_eq_true rfl) dX3_rightOf_6 rfl (fun H locs hw => ?_)
  refine lv_if_ne (tgt := 14) hx hb dX3_rightOf_9 (by decide) (fun c2 => ?_) (fun c2 => ?_)
  · have hf := ite_f c2 hf
    refine lv_aload_n hx hb dX3_rightOf_14 rfl (lv_at hl 0 rfl) ?_
    refine lv_iload_n hx hb dX3_rightOf_15 rfl (lv_at hl 1 rfl) ?_
    refine lv_iload_n hx hb dX3_rightOf_16 rfl (lv_at hl 3 rfl) ?_
    obtain ⟨o3, ho3, hf⟩ := bind_r hf
    refine k_callVi C hw (n := 2) (As := [.int x1_, .int x3_]) (w1 := (wX3_rightOf dA ht ht_ring ht_ring_cells ht_ring_places ht_ring_facts t_ring_lands t_ring_things t_ring_placeCount t_ring_apart t_ring_thereFirst t_ring_cells t_ring_facts)) (wr := [(ht_ring_cells, .inl (dA 1, 16, .inr (.inl t_ring_cells)))]) [0, 1, 3] [2] [1, 2, 0, 3] rfl rfl (by decide) (by decide) (by decide) rfl (by decide) (qX3_rankOf l D dA ht ht_ring ht_ring_cells ht_ring_places ht_ring_facts t_ring_lands t_ring_things t_ring_placeCount t_ring_apart t_ring_thereFirst t_ring_facts x1_ x3_ _ ho3) wlX3_35 wmX3_rankOf wvX3_rankOf wnX3 wcX3_rankOf rfl (by decide +kernel) ⟨Nat.le_trans (by decide) hR.1, Nat.le_trans (by decide) hR.2.1⟩ hR.2.2 rfl 0 rfl rfl hl.1 (Nat.le_of_ble_eq_true rfl) dX3_rightOf_17 rfl (fun H locs hw => ?_)
    refine lv_istore (lv' := [(4, .int o3), (0, .ref ht), (1, .int x1_), (2, .int x2_), (3, .int x3_)]) hx hb dX3_rightOf_20 hl (by decide) rfl (fun ls hl => ?_)
    refine lv_aload_n hx hb dX3_rightOf_22 rfl (lv_at hl 1 rfl) ?_
    refine lv_iload_n hx hb dX3_rightOf_23 rfl (lv_at hl 3 rfl) ?_
    refine lv_iload_n hx hb dX3_rightOf_24 rfl (lv_at hl 4 rfl) ?_
    obtain ⟨o4, ho4, hf⟩ := bind_r hf
    refine k_callVi C hw (n := 2) (As := [.int x2_, .int x3_]) (w1 := (wX3_rightOf dA ht ht_ring ht_ring_cells ht_ring_places ht_ring_facts t_ring_lands t_ring_things t_ring_placeCount t_ring_apart t_ring_thereFirst t_ring_cells t_ring_facts)) (wr := [(ht_ring_cells, .inl (dA 1, 16, .inr (.inl t_ring_cells)))]) [0, 1, 3] [2] [1, 2, 0, 3] rfl rfl (by decide) (by decide) (by decide) rfl (by decide) (qX3_rankOf l D dA ht ht_ring ht_ring_cells ht_ring_places ht_ring_facts t_ring_lands t_ring_things t_ring_placeCount t_ring_apart t_ring_thereFirst t_ring_facts x2_ x3_ _ ho4) wlX3_35 wmX3_rankOf wvX3_rankOf wnX3 wcX3_rankOf rfl (by decide +kernel) ⟨Nat.le_trans (by decide) hR.1, Nat.le_trans (by decide) hR.2.1⟩ hR.2.2 rfl 0 rfl rfl hl.1 (Nat.le_of_ble_eq_true rfl) dX3_rightOf_25 rfl (fun H locs hw => ?_)
    refine lv_istore (lv' := [(5, .int o4), (4, .int o3), (0, .ref ht), (1, .int x1_), (2, .int x2_), (3, .int x3_)]) hx hb dX3_rightOf_28 hl (by decide) rfl (fun ls hl => ?_)
    refine lv_iload hx hb dX3_rightOf_30 (lv_at hl 1 rfl) ?_
    refine lv_iconst (v := (-1 : Int32)) hx hb dX3_rightOf_32 (by decide) ?_
    refine lv_icmp_ne (tgt := 44) hx hb dX3_rightOf_33 (by decide) (fun c5 => ?_) (fun c5 => ?_)
    · have hf := ite_f c5 hf
      exact tX3_rightOf_j44 C ht ht_ring ht_ring_cells ht_ring_places ht_ring_facts hR t_ring_lands t_ring_things t_ring_placeCount t_ring_apart t_ring_thereFirst t_ring_cells t_ring_facts x1_ x2_ o3 o4 N _ hf hK (lv_sub hl [3, 4, 1, 0] rfl) hw
    · have hf := ite_t c5 hf
      refine lv_iload hx hb dX3_rightOf_36 (lv_at hl 0 rfl) ?_
      refine lv_iconst (v := (-1 : Int32)) hx hb dX3_rightOf_38 (by decide) ?_
      refine lv_icmp_ne (tgt := 44) hx hb dX3_rightOf_39 (by decide) (fun c13 => ?_) (fun c13 => ?_)
      · have hf := ite_f c13 hf
        exact tX3_rightOf_j44 C ht ht_ring ht_ring_cells ht_ring_places ht_ring_facts hR t_ring_lands t_ring_things t_ring_placeCount t_ring_apart t_ring_thereFirst t_ring_cells t_ring_facts x1_ x2_ o3 o4 N _ hf hK (lv_sub hl [3, 4, 1, 0] rfl) hw
      · have hf := ite_t c13 hf
        refine lv_iconst (v := (0 : Int32)) hx hb dX3_rightOf_42 (by decide) ?_
        obtain rfl := some_r hf
        exact hK _ _ _ _ dX3_rightOf_43 hw
  · have hf := ite_t c2 hf
    refine lv_iconst (v := (0 : Int32)) hx hb dX3_rightOf_12 (by decide) ?_
    obtain rfl := some_r hf
    exact hK _ _ _ _ dX3_rightOf_13 hw

/-! RingPlaces$Papers.barredBy(III)I -/
abbrev wX3_barredBy (dA : Nat → ClassId) (ht ht_ring ht_ring_cells ht_ring_places ht_ring_facts : Nat) (t_ring_lands : Int32) (t_ring_things : Int32) (t_ring_placeCount : Int32) (t_ring_apart : Int32) (t_ring_thereFirst : Int32) (t_ring_facts : (Nat → Int32)) (t_ring_cells : (Nat → Int64)) (t_ring_places : (Nat → Int32)) : va_W := [(ht, .inr (3, [.ref ht_ring])), (ht_ring, .inr (5, [.ref ht_ring_cells, .ref ht_ring_places, .int t_ring_lands, .int t_ring_things, .int t_ring_placeCount, .int t_ring_apart, .int t_ring_thereFirst, .ref ht_ring_facts])), (ht_ring_facts, .inl (dA 0, 224, .inl t_ring_facts)), (ht_ring_cells, .inl (dA 1, 16, .inr (.inl t_ring_cells))), (ht_ring_places, .inl (dA 0, 6, .inl t_ring_places))]
def fX3_barredBy_j118 (N : Nat) (t_ring_placeCount : Int32) (t_ring_apart : Int32) (t_ring_thereFirst : Int32) (t_ring_facts : (Nat → Int32)) (t_ring_cells : (Nat → Int64)) (t_ring_places : (Nat → Int32)) (v2 : Int32) (v4 : Int32) (v5 : Int32) (v6 : Int32) (v7 : Int32) : Option ((Int32 × Int32) ⊕ (Int32)) := bnd (v6 ||| ((1 : Int32) <<< (v7 &&& 31))) fun x17 => bnd (v7 + (1 : Int32)) fun x18 => some (.inl (x17, x18))
def fX3_barredBy_l63b (N : Nat) (t_ring_placeCount : Int32) (t_ring_apart : Int32) (t_ring_thereFirst : Int32) (t_ring_facts : (Nat → Int32)) (t_ring_cells : (Nat → Int64)) (t_ring_places : (Nat → Int32)) (v2 : Int32) (v4 : Int32) (v5 : Int32) (v6 : Int32) (v7 : Int32) : Option ((Int32 × Int32) ⊕ (Int32)) := (if t_ring_placeCount ≤ v7 then some (.inr v6) else gdi v7 6 (bnd (t_ring_places v7.toNatClampNeg) fun x12 => (fX5_isInArc t_ring_facts v2 x12).bind fun o13 => (if o13 = 0 then bnd (v7 + (1 : Int32)) fun x15 => some (.inl (v6, x15)) else (if v4 = (-1 : Int32) then fX3_barredBy_j118 N t_ring_placeCount t_ring_apart t_ring_thereFirst t_ring_facts t_ring_cells t_ring_places v2 v4 v5 v6 v7 else (fX11_gapBetween N  x12 v5).bind fun o19 => (if v4 ≤ o19 then bnd (v7 + (1 : Int32)) fun x21 => some (.inl (v6, x21)) else fX3_barredBy_j118 N t_ring_placeCount t_ring_apart t_ring_thereFirst t_ring_facts t_ring_cells t_ring_places v2 v4 v5 v6 v7)))))
def fX3_barredBy (N : Nat) (t_ring_placeCount : Int32) (t_ring_apart : Int32) (t_ring_thereFirst : Int32) (t_ring_facts : (Nat → Int32)) (t_ring_cells : (Nat → Int64)) (t_ring_places : (Nat → Int32)) (x1_ : Int32) (x2_ : Int32) (x3_ : Int32) : Option (Int32) := (if x1_ = x2_ then some (0 : Int32) else (fX3_isGood t_ring_facts x1_ x3_).bind fun o2 => (if o2 = 0 then some (0 : Int32) else (fX3_wasThereBy t_ring_facts x1_ x3_).bind fun o4 => (if o4 = 0 then (fX3_rightOf N t_ring_apart t_ring_thereFirst t_ring_cells t_ring_facts x1_ x2_ x3_).bind fun o6 => (if o6 = (1 : Int32) then (fX5_needOf t_ring_apart t_ring_cells t_ring_facts x1_ x2_).bind fun o8 => (fX5_middleOfArc t_ring_facts x1_).bind fun o9 => (itr (fun z => fX3_barredBy_l63b N t_ring_placeCount t_ring_apart t_ring_thereFirst t_ring_facts t_ring_cells t_ring_places x2_ o8 o9 z.1 z.2) N ((0 : Int32), (0 : Int32))).bind fun q22 => some q22 else some (0 : Int32)) else some (0 : Int32))))
set_option maxHeartbeats 4000000 in
set_option maxRecDepth 100000 in
theorem tX3_barredBy_j118 {p : Program} {l : Launch} {e : Env} {R : Room} {s : State} {m : MethodId} {args : Array Value} {below : List Frame} {meth : Method} {c : Code} {D : va_G} {dA : Nat → ClassId} {w0 : va_W} {Q : State → Prop} {H : Heap} {locs : List Loc} {ls : Array Slot} {cells slots : Nat} (C : CX p s m args meth c cX3_barredBy 9 (some .int) RX3 D dA) (ht ht_ring ht_ring_cells ht_ring_places ht_ring_facts : Nat) (hR : 5 ≤ R.frames ∧ 116 ≤ R.locals ∧ cells ≤ R.cells ∧ slots ≤ R.slots)  (t_ring_lands : Int32) (t_ring_things : Int32) (t_ring_placeCount : Int32) (t_ring_apart : Int32) (t_ring_thereFirst : Int32) (t_ring_facts : (Nat → Int32)) (t_ring_cells : (Nat → Int64)) (t_ring_places : (Nat → Int32)) (v2 : Int32) (v4 : Int32) (v5 : Int32) (v6 : Int32) (v7 : Int32) (N : Nat) (res : ((Int32 × Int32) ⊕ (Int32))) (hf : fX3_barredBy_j118 N t_ring_placeCount t_ring_apart t_ring_thereFirst t_ring_facts t_ring_cells t_ring_places v2 v4 v5 v6 v7 = some res) (hK : Sum.elim (fun z => (∀ (H : Heap) (locs : List Loc) (ls : Array Slot), lv_has ls 9 [(0, .ref ht), (2, .int v2), (4, .int v4), (5, .int v5), (6, .int z.1), (7, .int z.2)] → St D w0 s (wX3_barredBy dA ht ht_ring ht_ring_cells ht_ring_places ht_ring_facts t_ring_lands t_ring_things t_ring_placeCount t_ring_apart t_ring_thereFirst t_ring_facts t_ring_cells t_ring_places) H locs → W p l e R s m args below meth c H locs cells slots Q (F0 m 63 ls []))) (fun r => (∀ (H : Heap) (locs : List Loc) (ls : Array Slot), lv_has ls 9 [(6, .int r)] → St D w0 s (wX3_barredBy dA ht ht_ring ht_ring_cells ht_ring_places ht_ring_facts t_ring_lands t_ring_things t_ring_placeCount t_ring_apart t_ring_thereFirst t_ring_facts t_ring_cells t_ring_places) H locs → W p l e R s m args below meth c H locs cells slots Q (F0 m 133 ls []))) res) (hl : lv_has ls 9 [(0, .ref ht), (2, .int v2), (4, .int v4), (5, .int v5), (6, .int v6), (7, .int v7)]) (hw : St D w0 s (wX3_barredBy dA ht ht_ring ht_ring_cells ht_ring_places ht_ring_facts t_ring_lands t_ring_things t_ring_placeCount t_ring_apart t_ring_thereFirst t_ring_facts t_ring_cells t_ring_places) H locs) : W p l e R s m args below meth c H locs cells slots Q (F0 m 118 ls []) := by
  have hx := C.1
  have hb := C.2.1
  have hml := C.2.2.1
  have hown := C.2.2.2.1
  have hts := C.2.2.2.2.1
  unfold fX3_barredBy_j118 at hf
  refine lv_iload hx hb dX3_barredBy_118 (lv_at hl 4 rfl) ?_
  refine lv_iconst (v := (1 : Int32)) hx hb dX3_barredBy_120 (by decide) ?_
  refine lv_iload hx hb dX3_barredBy_121 (lv_at hl 5 rfl) ?_
  refine lv_ishl hx hb dX3_barredBy_123 ?_
  refine lv_ior hx hb dX3_barredBy_124 ?_
  refine lv_topi (fun x17 ex17 => ?_)
  have hf := bnd_r ex17 hf
  refine lv_istore (lv' := [(6, .int x17), (0, .ref ht), (2, .int v2), (4, .int v4), (5, .int v5), (7, .int v7)]) hx hb dX3_barredBy_125 hl (by decide) rfl (fun ls hl => ?_)
  obtain ⟨x18, ex18⟩ : ∃ y : Int32, y = v7 + (1 : Int32) := ⟨_, rfl⟩
  have hf := bnd_r ex18 hf
  refine lv_iinc (v := x18) (lv' := [(7, .int x18), (6, .int x17), (0, .ref ht), (2, .int v2), (4, .int v4), (5, .int v5)]) hx hb dX3_barredBy_127 hl (k := 5) rfl (by rw [ex18]; rfl) (by decide) rfl (fun ls hl => ?_)
  refine lv_goto (tgt := 63) hx hb dX3_barredBy_130 (by decide) ?_
  obtain rfl := some_r hf
  exact hK _ _ _ (lv_sub hl [2, 3, 4, 5, 1, 0] rfl) hw
set_option maxHeartbeats 4000000 in
set_option maxRecDepth 100000 in
theorem tX3_barredBy_l63b {p : Program} {l : Launch} {e : Env} {R : Room} {s : State} {m : MethodId} {args : Array Value} {below : List Frame} {meth : Method} {c : Code} {D : va_G} {dA : Nat → ClassId} {w0 : va_W} {Q : State → Prop} {H : Heap} {locs : List Loc} {ls : Array Slot} {cells slots : Nat} (C : CX p s m args meth c cX3_barredBy 9 (some .int) RX3 D dA) (ht ht_ring ht_ring_cells ht_ring_places ht_ring_facts : Nat) (hR : 5 ≤ R.frames ∧ 116 ≤ R.locals ∧ cells ≤ R.cells ∧ slots ≤ R.slots)  (t_ring_lands : Int32) (t_ring_things : Int32) (t_ring_placeCount : Int32) (t_ring_apart : Int32) (t_ring_thereFirst : Int32) (t_ring_facts : (Nat → Int32)) (t_ring_cells : (Nat → Int64)) (t_ring_places : (Nat → Int32)) (v2 : Int32) (v4 : Int32) (v5 : Int32) (v6 : Int32) (v7 : Int32) (N : Nat) (res : ((Int32 × Int32) ⊕ (Int32))) (hf : fX3_barredBy_l63b N t_ring_placeCount t_ring_apart t_ring_thereFirst t_ring_facts t_ring_cells t_ring_places v2 v4 v5 v6 v7 = some res) (hK : Sum.elim (fun z => (∀ (H : Heap) (locs : List Loc) (ls : Array Slot), lv_has ls 9 [(0, .ref ht), (2, .int v2), (4, .int v4), (5, .int v5), (6, .int z.1), (7, .int z.2)] → St D w0 s (wX3_barredBy dA ht ht_ring ht_ring_cells ht_ring_places ht_ring_facts t_ring_lands t_ring_things t_ring_placeCount t_ring_apart t_ring_thereFirst t_ring_facts t_ring_cells t_ring_places) H locs → W p l e R s m args below meth c H locs cells slots Q (F0 m 63 ls []))) (fun r => (∀ (H : Heap) (locs : List Loc) (ls : Array Slot), lv_has ls 9 [(6, .int r)] → St D w0 s (wX3_barredBy dA ht ht_ring ht_ring_cells ht_ring_places ht_ring_facts t_ring_lands t_ring_things t_ring_placeCount t_ring_apart t_ring_thereFirst t_ring_facts t_ring_cells t_ring_places) H locs → W p l e R s m args below meth c H locs cells slots Q (F0 m 133 ls []))) res) (hl : lv_has ls 9 [(0, .ref ht), (2, .int v2), (4, .int v4), (5, .int v5), (6, .int v6), (7, .int v7)]) (hw : St D w0 s (wX3_barredBy dA ht ht_ring ht_ring_cells ht_ring_places ht_ring_facts t_ring_lands t_ring_things t_ring_placeCount t_ring_apart t_ring_thereFirst t_ring_facts t_ring_cells t_ring_places) H locs) : W p l e R s m args below meth c H locs cells slots Q (F0 m 63 ls []) := by
  have hx := C.1
  have hb := C.2.1
  have hml := C.2.2.1
  have hown := C.2.2.2.1
  have hts := C.2.2.2.2.1
  unfold fX3_barredBy_l63b at hf
  refine lv_iload hx hb dX3_barredBy_63 (lv_at hl 5 rfl) ?_
  refine lv_aload_n hx hb dX3_barredBy_65 rfl (lv_at hl 0 rfl) ?_
  refine k_get C hw 0 rfl rfl wiX3 0 (by decide) wfX3_9 rfl dX3_barredBy_66 ?_
  refine k_get C hw 1 rfl rfl wiX5 4 (by decide) wfX3_53 rfl dX3_barredBy_69 ?_
  refine lv_icmp_ge (tgt := 133) hx hb dX3_barredBy_72 (by decide) (fun c10 => ?_) (fun c10 => ?_)
  · have hf := ite_t c10 hf
    obtain rfl := some_r hf
    exact hK _ _ _ (lv_sub hl [4] rfl) hw
  · have hf := ite_f c10 hf
    refine lv_aload_n hx hb dX3_barredBy_75 rfl (lv_at hl 0 rfl) ?_
    refine k_get C hw 0 rfl rfl wiX3 0 (by decide) wfX3_9 rfl dX3_barredBy_76 ?_
    refine k_get C hw 1 rfl rfl wiX5 1 (by decide) wfX3_56 rfl dX3_barredBy_79 ?_
    refine lv_iload hx hb dX3_barredBy_82 (lv_at hl 5 rfl) ?_
    obtain ⟨g11, hf⟩ := gdi_r hf
    refine k_iald C hw 4 rfl g11 dX3_barredBy_84 ?_
    refine lv_topi (fun x12 ex12 => ?_)
    have hf := bnd_r ex12 hf
    refine lv_istore (lv' := [(8, .int x12), (0, .ref ht), (2, .int v2), (4, .int v4), (5, .int v5), (6, .int v6), (7, .int v7)]) hx hb dX3_barredBy_85 hl (by decide) rfl (fun ls hl => ?_)
    refine lv_aload_n hx hb dX3_barredBy_87 rfl (lv_at hl 1 rfl) ?_
    refine k_get C hw 0 rfl rfl wiX3 0 (by decide) wfX3_9 rfl dX3_barredBy_88 ?_
    refine lv_iload_n hx hb dX3_barredBy_91 rfl (lv_at hl 2 rfl) ?_
    refine lv_iload hx hb dX3_barredBy_92 (lv_at hl 0 rfl) ?_
    obtain ⟨o13, ho13, hf⟩ := bind_r hf
    refine k_callVi C hw (n := 2) (As := [.int v2, .int x12]) (w1 := (wX3_barredBy dA ht ht_ring ht_ring_cells ht_ring_places ht_ring_facts t_ring_lands t_ring_things t_ring_placeCount t_ring_apart t_ring_thereFirst t_ring_facts t_ring_cells t_ring_places)) (wr := [(ht, .inr (3, [.ref ht_ring])), (ht_ring_cells, .inl (dA 1, 16, .inr (.inl t_ring_cells))), (ht_ring_places, .inl (dA 0, 6, .inl t_ring_places))]) [1, 2] [0, 3, 4] [0, 3, 4, 1, 2] rfl rfl (by decide) (by decide) (by decide) rfl (by decide) (qX5_isInArc l D dA ht_ring ht_ring_cells ht_ring_places ht_ring_facts t_ring_lands t_ring_things t_ring_placeCount t_ring_apart t_ring_thereFirst t_ring_facts v2 x12 _ ho13) wlX3_60 wmX5_isInArc wvX5_isInArc wnX5 wcX5_isInArc rfl (by decide +kernel) ⟨Nat.le_trans (by decide) hR.1, Nat.le_trans (by decide) hR.2.1⟩ hR.2.2 rfl 0 rfl rfl hl.1 (Nat.le_of_ble_eq_true rfl) dX3_barredBy_94 rfl (fun H locs hw => ?_)
    refine lv_if_eq (tgt := 127) hx hb dX3_barredBy_97 (by decide) (fun c14 => ?_) (fun c14 => ?_)
    · have hf := ite_t c14 hf
      obtain ⟨x15, ex15⟩ : ∃ y : Int32, y = v7 + (1 : Int32) := ⟨_, rfl⟩
      have hf := bnd_r ex15 hf
      refine lv_iinc (v := x15) (lv' := [(7, .int x15), (8, .int x12), (0, .ref ht), (2, .int v2), (4, .int v4), (5, .int v5), (6, .int v6)]) hx hb dX3_barredBy_127 hl (k := 6) rfl (by rw [ex15]; rfl) (by decide) rfl (fun ls hl => ?_)
      refine lv_goto (tgt := 63) hx hb dX3_barredBy_130 (by decide) ?_
      obtain rfl := some_r hf
      exact hK _ _ _ (lv_sub hl [2, 3, 4, 5, 6, 0] rfl) hw
    · have hf := ite_f c14 hf
      refine lv_iload hx hb dX3_barredBy_100 (lv_at hl 3 rfl) ?_
      refine lv_iconst (v := (-1 : Int32)) hx hb dX3_barredBy_102 (by decide) ?_
      refine lv_icmp_eq (tgt := 118) hx hb dX3_barredBy_103 (by decide) (fun c16 => ?_) (fun c16 => ?_)
      · have hf := ite_t c16 hf
        exact tX3_barredBy_j118 C ht ht_ring ht_ring_cells ht_ring_places ht_ring_facts hR t_ring_lands t_ring_things t_ring_placeCount t_ring_apart t_ring_thereFirst t_ring_facts t_ring_cells t_ring_places v2 v4 v5 v6 v7 N _ hf hK (lv_sub hl [1, 2, 3, 4, 5, 6] rfl) hw
      · have hf := ite_f c16 hf
        refine lv_iload hx hb dX3_barredBy_106 (lv_at hl 0 rfl) ?_
        refine lv_iload hx hb dX3_barredBy_108 (lv_at hl 4 rfl) ?_
        obtain ⟨o19, ho19, hf⟩ := bind_r hf
        refine k_callNi C hw (n := 2) (As := [.int x12, .int v5]) (w1 := (wX3_barredBy dA ht ht_ring ht_ring_cells ht_ring_places ht_ring_facts t_ring_lands t_ring_things t_ring_placeCount t_ring_apart t_ring_thereFirst t_ring_facts t_ring_cells t_ring_places)) (wr := [(ht, .inr (3, [.ref ht_ring])), (ht_ring, .inr (5, [.ref ht_ring_cells, .ref ht_ring_places, .int t_ring_lands, .int t_ring_things, .int t_ring_placeCount, .int t_ring_apart, .int t_ring_thereFirst, .ref ht_ring_facts])), (ht_ring_facts, .inl (dA 0, 224, .inl t_ring_facts)), (ht_ring_cells, .inl (dA 1, 16, .inr (.inl t_ring_cells))), (ht_ring_places, .inl (dA 0, 6, .inl t_ring_places))]) [] [0, 1, 2, 3, 4] [0, 1, 2, 3, 4] rfl rfl (by decide) (by decide) (by decide) rfl (by decide) (qX11_gapBetween l D dA  x12 v5 N _ ho19) (host := "RingPlaces") (by decide +kernel) wsX11_gapBetween_t wnX11 wcX11_gapBetween (by decide +kernel) ⟨Nat.le_trans (by decide) hR.1, Nat.le_trans (by decide) hR.2.1⟩ hR.2.2 rfl hl.1 (Nat.le_of_ble_eq_true rfl) dX3_barredBy_110 rfl (fun H locs hw => ?_)
        refine lv_iload hx hb dX3_barredBy_113 (lv_at hl 3 rfl) ?_
        refine lv_icmp_ge (tgt := 127) hx hb dX3_barredBy_115 (by decide) (fun c20 => ?_) (fun c20 => ?_)
        · have hf := ite_t c20 hf
          obtain ⟨x21, ex21⟩ : ∃ y : Int32, y = v7 + (1 : Int32) := ⟨_, rfl⟩
          have hf := bnd_r ex21 hf
          refine lv_iinc (v := x21) (lv' := [(7, .int x21), (8, .int x12), (0, .ref ht), (2, .int v2), (4, .int v4), (5, .int v5), (6, .int v6)]) hx hb dX3_barredBy_127 hl (k := 6) rfl (by rw [ex21]; rfl) (by decide) rfl (fun ls hl => ?_)
          refine lv_goto (tgt := 63) hx hb dX3_barredBy_130 (by decide) ?_
          obtain rfl := some_r hf
          exact hK _ _ _ (lv_sub hl [2, 3, 4, 5, 6, 0] rfl) hw
        · have hf := ite_f c20 hf
          exact tX3_barredBy_j118 C ht ht_ring ht_ring_cells ht_ring_places ht_ring_facts hR t_ring_lands t_ring_things t_ring_placeCount t_ring_apart t_ring_thereFirst t_ring_facts t_ring_cells t_ring_places v2 v4 v5 v6 v7 N _ hf hK (lv_sub hl [1, 2, 3, 4, 5, 6] rfl) hw
set_option maxHeartbeats 4000000 in
theorem tX3_barredBy_l63 {p : Program} {l : Launch} {e : Env} {R : Room} {s : State} {m : MethodId} {args : Array Value} {below : List Frame} {meth : Method} {c : Code} {D : va_G} {dA : Nat → ClassId} {w0 : va_W} {Q : State → Prop} {H : Heap} {locs : List Loc} {ls : Array Slot} {cells slots : Nat} (C : CX p s m args meth c cX3_barredBy 9 (some .int) RX3 D dA) (ht ht_ring ht_ring_cells ht_ring_places ht_ring_facts : Nat) (hR : 5 ≤ R.frames ∧ 116 ≤ R.locals ∧ cells ≤ R.cells ∧ slots ≤ R.slots)  (t_ring_lands : Int32) (t_ring_things : Int32) (t_ring_placeCount : Int32) (t_ring_apart : Int32) (t_ring_thereFirst : Int32) (t_ring_facts : (Nat → Int32)) (t_ring_cells : (Nat → Int64)) (t_ring_places : (Nat → Int32)) (v2 : Int32) (v4 : Int32) (v5 : Int32) (v6 : Int32) (v7 : Int32) (N n : Nat) (res : (Int32)) (hf : itr (fun z => fX3_barredBy_l63b N t_ring_placeCount t_ring_apart t_ring_thereFirst t_ring_facts t_ring_cells t_ring_places v2 v4 v5 z.1 z.2) n (v6, v7) = some res) (hK : (∀ (H : Heap) (locs : List Loc) (ls : Array Slot), lv_has ls 9 [(6, .int res)] → St D w0 s (wX3_barredBy dA ht ht_ring ht_ring_cells ht_ring_places ht_ring_facts t_ring_lands t_ring_things t_ring_placeCount t_ring_apart t_ring_thereFirst t_ring_facts t_ring_cells t_ring_places) H locs → W p l e R s m args below meth c H locs cells slots Q (F0 m 133 ls []))) (hl : lv_has ls 9 [(0, .ref ht), (2, .int v2), (4, .int v4), (5, .int v5), (6, .int v6), (7, .int v7)]) (hw : St D w0 s (wX3_barredBy dA ht ht_ring ht_ring_cells ht_ring_places ht_ring_facts t_ring_lands t_ring_things t_ring_placeCount t_ring_apart t_ring_thereFirst t_ring_facts t_ring_cells t_ring_places) H locs) : W p l e R s m args below meth c H locs cells slots Q (F0 m 63 ls []) :=
  itr_W (P := fun (z : (Int32 × Int32)) => (∀ (H : Heap) (locs : List Loc) (ls : Array Slot), lv_has ls 9 [(0, .ref ht), (2, .int v2), (4, .int v4), (5, .int v5), (6, .int z.1), (7, .int z.2)] → St D w0 s (wX3_barredBy dA ht ht_ring ht_ring_cells ht_ring_places ht_ring_facts t_ring_lands t_ring_things t_ring_placeCount t_ring_apart t_ring_thereFirst t_ring_facts t_ring_cells t_ring_places) H locs → W p l e R s m args below meth c H locs cells slots Q (F0 m 63 ls []))) (K := fun res => (∀ (H : Heap) (locs : List Loc) (ls : Array Slot), lv_has ls 9 [(6, .int res)] → St D w0 s (wX3_barredBy dA ht ht_ring ht_ring_cells ht_ring_places ht_ring_facts t_ring_lands t_ring_things t_ring_placeCount t_ring_apart t_ring_thereFirst t_ring_facts t_ring_cells t_ring_places) H locs → W p l e R s m args below meth c H locs cells slots Q (F0 m 133 ls []))) (fun z r hf hK H locs ls hl hw => tX3_barredBy_l63b C ht ht_ring ht_ring_cells ht_ring_places ht_ring_facts hR t_ring_lands t_ring_things t_ring_placeCount t_ring_apart t_ring_thereFirst t_ring_facts t_ring_cells t_ring_places v2 v4 v5 z.1 z.2 N r hf (by cases r with
    | inl r => exact hK
    | inr r => exact hK) hl hw) n _ res hf hK H locs ls hl hw
set_option maxHeartbeats 4000000 in
set_option maxRecDepth 100000 in
theorem qX3_barredBy (l : Launch) (D : va_G) (dA : Nat → ClassId) (ht ht_ring ht_ring_cells ht_ring_places ht_ring_facts : Nat) (t_ring_lands : Int32) (t_ring_things : Int32) (t_ring_placeCount : Int32) (t_ring_apart : Int32) (t_ring_thereFirst : Int32) (t_ring_facts : (Nat → Int32)) (t_ring_cells : (Nat → Int64)) (t_ring_places : (Nat → Int32)) (x1_ : Int32) (x2_ : Int32) (x3_ : Int32) (N : Nat) (o : Int32) (hf : fX3_barredBy N t_ring_placeCount t_ring_apart t_ring_thereFirst t_ring_facts t_ring_cells t_ring_places x1_ x2_ x3_ = some o) : Mi l D dA yX3_barredBy (Cond.code yX3_barredBy cX3_barredBy 9 (some .int) :: wA) 5 116 [.ref ht, .int x1_, .int x2_, .int x3_] (wX3_barredBy dA ht ht_ring ht_ring_cells ht_ring_places ht_ring_facts t_ring_lands t_ring_things t_ring_placeCount t_ring_apart t_ring_thereFirst t_ring_facts t_ring_cells t_ring_places) (wX3_barredBy dA ht ht_ring ht_ring_cells ht_ring_places ht_ring_facts t_ring_lands t_ring_things t_ring_placeCount t_ring_apart t_ring_thereFirst t_ring_facts t_ring_cells t_ring_places) o := by
  intro sz
  refine M_of (cc := cX3_barredBy) (nL := 9) (ret := (some .int)) (own := RX3) (by decide +kernel) rfl (Nat.le_of_ble_eq_true rfl) ?_
  intro p e s m below meth c ls hsz C hw hl
  subst hsz
  have hR : 5 ≤ (rmm 5 116).frames ∧ 116 ≤ (rmm 5 116).locals ∧ 0 ≤ (rmm 5 116).cells ∧ 0 ≤ (rmm 5 116).slots := ⟨Nat.le_refl _, Nat.le_refl _, Nat.le_refl _, Nat.le_refl _⟩
  have hl : lv_has ls 9 [(0, .ref ht), (1, .int x1_), (2, .int x2_), (3, .int x3_)] := hl
  have hx := C.1
  have hb := C.2.1
  have hml := C.2.2.1
  have hown := C.2.2.2.1
  have hts := C.2.2.2.2.1
  have hK : ∀ (H : Heap) (locs : List Loc) (pc : Nat) (ls : Array Slot), decode cX3_barredBy pc = .ok (.ireturn, 1) → St D (wX3_barredBy dA ht ht_ring ht_ring_cells ht_ring_places ht_ring_facts t_ring_lands t_ring_things t_ring_placeCount t_ring_apart t_ring_thereFirst t_ring_facts t_ring_cells t_ring_places) s (wX3_barredBy dA ht ht_ring ht_ring_cells ht_ring_places ht_ring_facts t_ring_lands t_ring_things t_ring_placeCount t_ring_apart t_ring_thereFirst t_ring_facts t_ring_cells t_ring_places) H locs → W p l e (rmm 5 116) s m [.ref ht, .int x1_, .int x2_, .int x3_].toArray below meth c H locs 0 0 (MQ below (Qi D (wX3_barredBy dA ht ht_ring ht_ring_cells ht_ring_places ht_ring_facts t_ring_lands t_ring_things t_ring_placeCount t_ring_apart t_ring_thereFirst t_ring_facts t_ring_cells t_ring_places) (wX3_barredBy dA ht ht_ring ht_ring_cells ht_ring_places ht_ring_facts t_ring_lands t_ring_things t_ring_placeCount t_ring_apart t_ring_thereFirst t_ring_facts t_ring_cells t_ring_places) o s.heap.size) [.ref ht, .int x1_, .int x2_, .int x3_].toArray s 0 0 (va_A (wX3_barredBy dA ht ht_ring ht_ring_cells ht_ring_places ht_ring_facts t_ring_lands t_ring_things t_ring_placeCount t_ring_apart t_ring_thereFirst t_ring_facts t_ring_cells t_ring_places) s.heap.size)) (F0 m pc ls [.int o]) := fun H locs pc ls hd hw => k_iret C hw hd
  unfold fX3_barredBy at hf
  refine lv_iload_n hx hb dX3_barredBy_0 rfl (lv_at hl 1 rfl) ?_
  refine lv_iload_n hx hb dX3_barredBy_1 rfl (lv_at hl 2 rfl) ?_
  refine lv_icmp_eq (tgt := 34) hx hb dX3_barredBy_2 (by decide) (fun c1 => ?_) (fun c1 => ?_)
  · have hf := ite_t c1 hf
    refine lv_iconst (v := (0 : Int32)) hx hb dX3_barredBy_34 (by decide) ?_
    obtain rfl := some_r hf
    exact hK _ _ _ _ dX3_barredBy_35 hw
  · have hf := ite_f c1 hf
    refine lv_aload_n hx hb dX3_barredBy_5 rfl (lv_at hl 0 rfl) ?_
    refine lv_iload_n hx hb dX3_barredBy_6 rfl (lv_at hl 1 rfl) ?_
    refine lv_iload_n hx hb dX3_barredBy_7 rfl (lv_at hl 3 rfl) ?_
    obtain ⟨o2, ho2, hf⟩ := bind_r hf
    refine k_callVi C hw (n := 2) (As := [.int x1_, .int x3_]) (w1 := (wX3_barredBy dA ht ht_ring ht_ring_cells ht_ring_places ht_ring_facts t_ring_lands t_ring_things t_ring_placeCount t_ring_apart t_ring_thereFirst t_ring_facts t_ring_cells t_ring_places)) (wr := [(ht_ring_cells, .inl (dA 1, 16, .inr (.inl t_ring_cells))), (ht_ring_places, .inl (dA 0, 6, .inl t_ring_places))]) [0, 1, 2] [3, 4] [2, 3, 4, 0, 1] rfl rfl (by decide) (by decide) (by decide) rfl (by decide) (qX3_isGood l D dA ht ht_ring ht_ring_cells ht_ring_places ht_ring_facts t_ring_lands t_ring_things t_ring_placeCount t_ring_apart t_ring_thereFirst t_ring_facts x1_ x3_ _ ho2) wlX3_29 wmX3_isGood wvX3_isGood wnX3 wcX3_isGood rfl (by decide +kernel) ⟨Nat.le_trans (by decide) hR.1, Nat.le_trans (by decide) hR.2.1⟩ hR.2.2 rfl 0 rfl rfl hl.1 (Nat.le_of_ble_eq_true rfl) dX3_barredBy_8 rfl (fun H locs hw => ?_)
    refine lv_if_eq (tgt := 34) hx hb dX3_barredBy_11 (by decide) (fun c3 => ?_) (fun c3 => ?_)
    · have hf := ite_t c3 hf
      refine lv_iconst (v := (0 : Int32)) hx hb dX3_barredBy_34 (by decide) ?_
      obtain rfl := some_r hf
      exact hK _ _ _ _ dX3_barredBy_35 hw
    · have hf := ite_f c3 hf
      refine lv_aload_n hx hb dX3_barredBy_14 rfl (lv_at hl 0 rfl) ?_
      refine lv_iload_n hx hb dX3_barredBy_15 rfl (lv_at hl 1 rfl) ?_
      refine lv_iload_n hx hb dX3_barredBy_16 rfl (lv_at hl 3 rfl) ?_
      obtain ⟨o4, ho4, hf⟩ := bind_r hf
      refine k_callVi C hw (n := 2) (As := [.int x1_, .int x3_]) (w1 := (wX3_barredBy dA ht ht_ring ht_ring_cells ht_ring_places ht_ring_facts t_ring_lands t_ring_things t_ring_placeCount t_ring_apart t_ring_thereFirst t_ring_facts t_ring_cells t_ring_places)) (wr := [(ht_ring_cells, .inl (dA 1, 16, .inr (.inl t_ring_cells))), (ht_ring_places, .inl (dA 0, 6, .inl t_ring_places))]) [0, 1, 2] [3, 4] [2, 3, 4, 0, 1] rfl rfl (by decide) (by decide) (by decide) rfl (by decide) (qX3_wasThereBy l D dA ht ht_ring ht_ring_cells ht_ring_places ht_ring_facts t_ring_lands t_ring_things t_ring_placeCount t_ring_apart t_ring_thereFirst t_ring_facts x1_ x3_ _ ho4) wlX3_21 wmX3_wasThereBy wvX3_wasThereBy wnX3 wcX3_wasThereBy rfl (by decide +kernel) ⟨Nat.le_trans (by decide) hR.1, Nat.le_trans (by decide) hR.2.1⟩ hR.2.2 rfl 0 rfl rfl hl.1 (Nat.le_of_ble_eq_true rfl) dX3_barredBy_17 rfl (fun H locs hw => ?_)
      refine lv_if_ne (tgt := 34) hx hb dX3_barredBy_20 (by decide) (fun c5 => ?_) (fun c5 => ?_)
      · have hf := ite_f c5 hf
        refine lv_iconst (v := (0 : Int32)) hx hb dX3_barredBy_34 (by decide) ?_
        obtain rfl := some_r hf
        exact hK _ _ _ _ dX3_barredBy_35 hw
      · have hf := ite_t c5 hf
        refine lv_aload_n hx hb dX3_barredBy_23 rfl (lv_at hl 0 rfl) ?_
        refine lv_iload_n hx hb dX3_barredBy_24 rfl (lv_at hl 1 rfl) ?_
        refine lv_iload_n hx hb dX3_barredBy_25 rfl (lv_at hl 2 rfl) ?_
        refine lv_iload_n hx hb dX3_barredBy_26 rfl (lv_at hl 3 rfl) ?_
        obtain ⟨o6, ho6, hf⟩ := bind_r hf
        refine k_callVi C hw (n := 3) (As := [.int x1_, .int x2_, .int x3_]) (w1 := (wX3_barredBy dA ht ht_ring ht_ring_cells ht_ring_places ht_ring_facts t_ring_lands t_ring_things t_ring_placeCount t_ring_apart t_ring_thereFirst t_ring_facts t_ring_cells t_ring_places)) (wr := [(ht_ring_places, .inl (dA 0, 6, .inl t_ring_places))]) [0, 1, 3, 2] [4] [1, 2, 4, 3, 0] rfl rfl (by decide) (by decide) (by decide) rfl (by decide) (qX3_rightOf l D dA ht ht_ring ht_ring_cells ht_ring_places ht_ring_facts t_ring_lands t_ring_things t_ring_placeCount t_ring_apart t_ring_thereFirst t_ring_cells t_ring_facts x1_ x2_ x3_ N _ ho6) wlX3_46 wmX3_rightOf wvX3_rightOf wnX3 wcX3_rightOf rfl (by decide +kernel) ⟨Nat.le_trans (by decide) hR.1, Nat.le_trans (by decide) hR.2.1⟩ hR.2.2 rfl 0 rfl rfl hl.1 (Nat.le_of_ble_eq_true rfl) dX3_barredBy_27 rfl (fun H locs hw => ?_)
        refine lv_iconst (v := (1 : Int32)) hx hb dX3_barredBy_30 (by decide) ?_
        refine lv_icmp_eq (tgt := 36) hx hb dX3_barredBy_31 (by decide) (fun c7 => ?_) (fun c7 => ?_)
        · have hf := ite_t c7 hf
          refine lv_aload_n hx hb dX3_barredBy_36 rfl (lv_at hl 0 rfl) ?_
          refine k_get C hw 0 rfl rfl wiX3 0 (by decide) wfX3_9 rfl dX3_barredBy_37 ?_
          refine lv_iload_n hx hb dX3_barredBy_40 rfl (lv_at hl 1 rfl) ?_
          refine lv_iload_n hx hb dX3_barredBy_41 rfl (lv_at hl 2 rfl) ?_
          obtain ⟨o8, ho8, hf⟩ := bind_r hf
          refine k_callVi C hw (n := 2) (As := [.int x1_, .int x2_]) (w1 := (wX3_barredBy dA ht ht_ring ht_ring_cells ht_ring_places ht_ring_facts t_ring_lands t_ring_things t_ring_placeCount t_ring_apart t_ring_thereFirst t_ring_facts t_ring_cells t_ring_places)) (wr := [(ht, .inr (3, [.ref ht_ring])), (ht_ring_places, .inl (dA 0, 6, .inl t_ring_places))]) [1, 3, 2] [0, 4] [0, 2, 4, 3, 1] rfl rfl (by decide) (by decide) (by decide) rfl (by decide) (qX5_needOf l D dA ht_ring ht_ring_cells ht_ring_places ht_ring_facts t_ring_lands t_ring_things t_ring_placeCount t_ring_apart t_ring_thereFirst t_ring_cells t_ring_facts x1_ x2_ _ ho8) wlX3_32 wmX5_needOf wvX5_needOf wnX5 wcX5_needOf rfl (by decide +kernel) ⟨Nat.le_trans (by decide) hR.1, Nat.le_trans (by decide) hR.2.1⟩ hR.2.2 rfl 0 rfl rfl hl.1 (Nat.le_of_ble_eq_true rfl) dX3_barredBy_42 rfl (fun H locs hw => ?_)
          refine lv_istore (lv' := [(4, .int o8), (0, .ref ht), (1, .int x1_), (2, .int x2_), (3, .int x3_)]) hx hb dX3_barredBy_45 hl (by decide) rfl (fun ls hl => ?_)
          refine lv_aload_n hx hb dX3_barredBy_47 rfl (lv_at hl 1 rfl) ?_
          refine k_get C hw 0 rfl rfl wiX3 0 (by decide) wfX3_9 rfl dX3_barredBy_48 ?_
          refine lv_iload_n hx hb dX3_barredBy_51 rfl (lv_at hl 2 rfl) ?_
          obtain ⟨o9, ho9, hf⟩ := bind_r hf
          refine k_callVi C hw (n := 1) (As := [.int x1_]) (w1 := (wX3_barredBy dA ht ht_ring ht_ring_cells ht_ring_places ht_ring_facts t_ring_lands t_ring_things t_ring_placeCount t_ring_apart t_ring_thereFirst t_ring_facts t_ring_cells t_ring_places)) (wr := [(ht, .inr (3, [.ref ht_ring])), (ht_ring_cells, .inl (dA 1, 16, .inr (.inl t_ring_cells))), (ht_ring_places, .inl (dA 0, 6, .inl t_ring_places))]) [1, 2] [0, 3, 4] [0, 3, 4, 1, 2] rfl rfl (by decide) (by decide) (by decide) rfl (by decide) (qX5_middleOfArc l D dA ht_ring ht_ring_cells ht_ring_places ht_ring_facts t_ring_lands t_ring_things t_ring_placeCount t_ring_apart t_ring_thereFirst t_ring_facts x1_ _ ho9) wlX3_49 wmX5_middleOfArc wvX5_middleOfArc wnX5 wcX5_middleOfArc rfl (by decide +kernel) ⟨Nat.le_trans (by decide) hR.1, Nat.le_trans (by decide) hR.2.1⟩ hR.2.2 rfl 0 rfl rfl hl.1 (Nat.le_of_ble_eq_true rfl) dX3_barredBy_52 rfl (fun H locs hw => ?_)
          refine lv_istore (lv' := [(5, .int o9), (4, .int o8), (0, .ref ht), (1, .int x1_), (2, .int x2_), (3, .int x3_)]) hx hb dX3_barredBy_55 hl (by decide) rfl (fun ls hl => ?_)
          refine lv_iconst (v := (0 : Int32)) hx hb dX3_barredBy_57 (by decide) ?_
          refine lv_istore (lv' := [(6, .int (0 : Int32)), (5, .int o9), (4, .int o8), (0, .ref ht), (1, .int x1_), (2, .int x2_), (3, .int x3_)]) hx hb dX3_barredBy_58 hl (by decide) rfl (fun ls hl => ?_)
          refine lv_iconst (v := (0 : Int32)) hx hb dX3_barredBy_60 (by decide) ?_
          refine lv_istore (lv' := [(7, .int (0 : Int32)), (6, .int (0 : Int32)), (5, .int o9), (4, .int o8), (0, .ref ht), (1, .int x1_), (2, .int x2_), (3, .int x3_)]) hx hb dX3_barredBy_61 hl (by decide) rfl (fun ls hl => ?_)
          obtain ⟨q22, hq22, hf⟩ := bind_r hf
          refine tX3_barredBy_l63 C ht ht_ring ht_ring_cells ht_ring_places ht_ring_facts hR t_ring_lands t_ring_things t_ring_placeCount t_ring_apart t_ring_thereFirst t_ring_facts t_ring_cells t_ring_places x2_ o8 o9 (0 : Int32) (0 : Int32) N _ _ hq22 ?_ (lv_sub hl [4, 6, 3, 2, 1, 0] rfl) hw
          intro H locs ls hl hw
          refine lv_iload hx hb dX3_barredBy_133 (lv_at hl 0 rfl) ?_
          obtain rfl := some_r hf
          exact hK _ _ _ _ dX3_barredBy_135 hw
        · have hf := ite_f c7 hf
          refine lv_iconst (v := (0 : Int32)) hx hb dX3_barredBy_34 (by decide) ?_
          obtain rfl := some_r hf
          exact hK _ _ _ _ dX3_barredBy_35 hw

/-! RingPlaces$Papers.barredFor(II)I -/
abbrev wX3_barredFor (dA : Nat → ClassId) (ht ht_ring ht_ring_cells ht_ring_places ht_ring_facts : Nat) (t_ring_lands : Int32) (t_ring_things : Int32) (t_ring_placeCount : Int32) (t_ring_apart : Int32) (t_ring_thereFirst : Int32) (t_ring_facts : (Nat → Int32)) (t_ring_cells : (Nat → Int64)) (t_ring_places : (Nat → Int32)) : va_W := [(ht, .inr (3, [.ref ht_ring])), (ht_ring, .inr (5, [.ref ht_ring_cells, .ref ht_ring_places, .int t_ring_lands, .int t_ring_things, .int t_ring_placeCount, .int t_ring_apart, .int t_ring_thereFirst, .ref ht_ring_facts])), (ht_ring_facts, .inl (dA 0, 224, .inl t_ring_facts)), (ht_ring_cells, .inl (dA 1, 16, .inr (.inl t_ring_cells))), (ht_ring_places, .inl (dA 0, 6, .inl t_ring_places))]
def fX3_barredFor_l5b (N : Nat) (t_ring_things : Int32) (t_ring_placeCount : Int32) (t_ring_apart : Int32) (t_ring_thereFirst : Int32) (t_ring_facts : (Nat → Int32)) (t_ring_cells : (Nat → Int64)) (t_ring_places : (Nat → Int32)) (v1 : Int32) (v2 : Int32) (v3 : Int32) (v4 : Int32) : Option ((Int32 × Int32) ⊕ (Int32)) := (if t_ring_things ≤ v4 then some (.inr v3) else (fX3_barredBy N t_ring_placeCount t_ring_apart t_ring_thereFirst t_ring_facts t_ring_cells t_ring_places v4 v1 v2).bind fun o2 => bnd (v3 ||| o2) fun x3 => bnd (v4 + (1 : Int32)) fun x4 => some (.inl (x3, x4)))
def fX3_barredFor (N : Nat) (t_ring_things : Int32) (t_ring_placeCount : Int32) (t_ring_apart : Int32) (t_ring_thereFirst : Int32) (t_ring_facts : (Nat → Int32)) (t_ring_cells : (Nat → Int64)) (t_ring_places : (Nat → Int32)) (x1_ : Int32) (x2_ : Int32) : Option (Int32) := (itr (fun z => fX3_barredFor_l5b N t_ring_things t_ring_placeCount t_ring_apart t_ring_thereFirst t_ring_facts t_ring_cells t_ring_places x1_ x2_ z.1 z.2) N ((0 : Int32), (0 : Int32))).bind fun q5 => some q5
set_option maxHeartbeats 4000000 in
set_option maxRecDepth 100000 in
theorem tX3_barredFor_l5b {p : Program} {l : Launch} {e : Env} {R : Room} {s : State} {m : MethodId} {args : Array Value} {below : List Frame} {meth : Method} {c : Code} {D : va_G} {dA : Nat → ClassId} {w0 : va_W} {Q : State → Prop} {H : Heap} {locs : List Loc} {ls : Array Slot} {cells slots : Nat} (C : CX p s m args meth c cX3_barredFor 5 (some .int) RX3 D dA) (ht ht_ring ht_ring_cells ht_ring_places ht_ring_facts : Nat) (hR : 6 ≤ R.frames ∧ 144 ≤ R.locals ∧ cells ≤ R.cells ∧ slots ≤ R.slots)  (t_ring_lands : Int32) (t_ring_things : Int32) (t_ring_placeCount : Int32) (t_ring_apart : Int32) (t_ring_thereFirst : Int32) (t_ring_facts : (Nat → Int32)) (t_ring_cells : (Nat → Int64)) (t_ring_places : (Nat → Int32)) (v1 : Int32) (v2 : Int32) (v3 : Int32) (v4 : Int32) (N : Nat) (res : ((Int32 × Int32) ⊕ (Int32))) (hf : fX3_barredFor_l5b N t_ring_things t_ring_placeCount t_ring_apart t_ring_thereFirst t_ring_facts t_ring_cells t_ring_places v1 v2 v3 v4 = some res) (hK : Sum.elim (fun z => (∀ (H : Heap) (locs : List Loc) (ls : Array Slot), lv_has ls 5 [(0, .ref ht), (1, .int v1), (2, .int v2), (3, .int z.1), (4, .int z.2)] → St D w0 s (wX3_barredFor dA ht ht_ring ht_ring_cells ht_ring_places ht_ring_facts t_ring_lands t_ring_things t_ring_placeCount t_ring_apart t_ring_thereFirst t_ring_facts t_ring_cells t_ring_places) H locs → W p l e R s m args below meth c H locs cells slots Q (F0 m 5 ls []))) (fun r => (∀ (H : Heap) (locs : List Loc) (ls : Array Slot), lv_has ls 5 [(3, .int r)] → St D w0 s (wX3_barredFor dA ht ht_ring ht_ring_cells ht_ring_places ht_ring_facts t_ring_lands t_ring_things t_ring_placeCount t_ring_apart t_ring_thereFirst t_ring_facts t_ring_cells t_ring_places) H locs → W p l e R s m args below meth c H locs cells slots Q (F0 m 34 ls []))) res) (hl : lv_has ls 5 [(0, .ref ht), (1, .int v1), (2, .int v2), (3, .int v3), (4, .int v4)]) (hw : St D w0 s (wX3_barredFor dA ht ht_ring ht_ring_cells ht_ring_places ht_ring_facts t_ring_lands t_ring_things t_ring_placeCount t_ring_apart t_ring_thereFirst t_ring_facts t_ring_cells t_ring_places) H locs) : W p l e R s m args below meth c H locs cells slots Q (F0 m 5 ls []) := by
  have hx := C.1
  have hb := C.2.1
  have hml := C.2.2.1
  have hown := C.2.2.2.1
  have hts := C.2.2.2.2.1
  unfold fX3_barredFor_l5b at hf
  refine lv_iload hx hb dX3_barredFor_5 (lv_at hl 4 rfl) ?_
  refine lv_aload_n hx hb dX3_barredFor_7 rfl (lv_at hl 0 rfl) ?_
  refine k_get C hw 0 rfl rfl wiX3 0 (by decide) wfX3_9 rfl dX3_barredFor_8 ?_
  refine k_get C hw 1 rfl rfl wiX5 3 (by decide) wfX3_38 rfl dX3_barredFor_11 ?_
  refine lv_icmp_ge (tgt := 34) hx hb dX3_barredFor_14 (by decide) (fun c1 => ?_) (fun c1 => ?_)
  · have hf := ite_t c1 hf
    obtain rfl := some_r hf
    exact hK _ _ _ (lv_sub hl [3] rfl) hw
  · have hf := ite_f c1 hf
    refine lv_iload_n hx hb dX3_barredFor_17 rfl (lv_at hl 3 rfl) ?_
    refine lv_aload_n hx hb dX3_barredFor_18 rfl (lv_at hl 0 rfl) ?_
    refine lv_iload hx hb dX3_barredFor_19 (lv_at hl 4 rfl) ?_
    refine lv_iload_n hx hb dX3_barredFor_21 rfl (lv_at hl 1 rfl) ?_
    refine lv_iload_n hx hb dX3_barredFor_22 rfl (lv_at hl 2 rfl) ?_
    obtain ⟨o2, ho2, hf⟩ := bind_r hf
    refine k_callVi C hw (n := 3) (As := [.int v4, .int v1, .int v2]) (w1 := (wX3_barredFor dA ht ht_ring ht_ring_cells ht_ring_places ht_ring_facts t_ring_lands t_ring_things t_ring_placeCount t_ring_apart t_ring_thereFirst t_ring_facts t_ring_cells t_ring_places)) (wr := []) [0, 1, 2, 3, 4] [] [0, 1, 2, 3, 4] rfl rfl (by decide) (by decide) (by decide) rfl (by decide) (qX3_barredBy l D dA ht ht_ring ht_ring_cells ht_ring_places ht_ring_facts t_ring_lands t_ring_things t_ring_placeCount t_ring_apart t_ring_thereFirst t_ring_facts t_ring_cells t_ring_places v4 v1 v2 N _ ho2) wlX3_42 wmX3_barredBy wvX3_barredBy wnX3 wcX3_barredBy rfl (by decide +kernel) ⟨Nat.le_trans (by decide) hR.1, Nat.le_trans (by decide) hR.2.1⟩ hR.2.2 rfl 0 rfl rfl hl.1 (Nat.le_of_ble_eq_true rfl) dX3_barredFor_23 rfl (fun H locs hw => ?_)
    refine lv_ior hx hb dX3_barredFor_26 ?_
    refine lv_topi (fun x3 ex3 => ?_)
    have hf := bnd_r ex3 hf
    refine lv_istore_n (lv' := [(3, .int x3), (0, .ref ht), (1, .int v1), (2, .int v2), (4, .int v4)]) hx hb dX3_barredFor_27 rfl hl (by decide) rfl (fun ls hl => ?_)
    obtain ⟨x4, ex4⟩ : ∃ y : Int32, y = v4 + (1 : Int32) := ⟨_, rfl⟩
    have hf := bnd_r ex4 hf
    refine lv_iinc (v := x4) (lv' := [(4, .int x4), (3, .int x3), (0, .ref ht), (1, .int v1), (2, .int v2)]) hx hb dX3_barredFor_28 hl (k := 4) rfl (by rw [ex4]; rfl) (by decide) rfl (fun ls hl => ?_)
    refine lv_goto (tgt := 5) hx hb dX3_barredFor_31 (by decide) ?_
    obtain rfl := some_r hf
    exact hK _ _ _ (lv_sub hl [2, 3, 4, 1, 0] rfl) hw
set_option maxHeartbeats 4000000 in
theorem tX3_barredFor_l5 {p : Program} {l : Launch} {e : Env} {R : Room} {s : State} {m : MethodId} {args : Array Value} {below : List Frame} {meth : Method} {c : Code} {D : va_G} {dA : Nat → ClassId} {w0 : va_W} {Q : State → Prop} {H : Heap} {locs : List Loc} {ls : Array Slot} {cells slots : Nat} (C : CX p s m args meth c cX3_barredFor 5 (some .int) RX3 D dA) (ht ht_ring ht_ring_cells ht_ring_places ht_ring_facts : Nat) (hR : 6 ≤ R.frames ∧ 144 ≤ R.locals ∧ cells ≤ R.cells ∧ slots ≤ R.slots)  (t_ring_lands : Int32) (t_ring_things : Int32) (t_ring_placeCount : Int32) (t_ring_apart : Int32) (t_ring_thereFirst : Int32) (t_ring_facts : (Nat → Int32)) (t_ring_cells : (Nat → Int64)) (t_ring_places : (Nat → Int32)) (v1 : Int32) (v2 : Int32) (v3 : Int32) (v4 : Int32) (N n : Nat) (res : (Int32)) (hf : itr (fun z => fX3_barredFor_l5b N t_ring_things t_ring_placeCount t_ring_apart t_ring_thereFirst t_ring_facts t_ring_cells t_ring_places v1 v2 z.1 z.2) n (v3, v4) = some res) (hK : (∀ (H : Heap) (locs : List Loc) (ls : Array Slot), lv_has ls 5 [(3, .int res)] → St D w0 s (wX3_barredFor dA ht ht_ring ht_ring_cells ht_ring_places ht_ring_facts t_ring_lands t_ring_things t_ring_placeCount t_ring_apart t_ring_thereFirst t_ring_facts t_ring_cells t_ring_places) H locs → W p l e R s m args below meth c H locs cells slots Q (F0 m 34 ls []))) (hl : lv_has ls 5 [(0, .ref ht), (1, .int v1), (2, .int v2), (3, .int v3), (4, .int v4)]) (hw : St D w0 s (wX3_barredFor dA ht ht_ring ht_ring_cells ht_ring_places ht_ring_facts t_ring_lands t_ring_things t_ring_placeCount t_ring_apart t_ring_thereFirst t_ring_facts t_ring_cells t_ring_places) H locs) : W p l e R s m args below meth c H locs cells slots Q (F0 m 5 ls []) :=
  itr_W (P := fun (z : (Int32 × Int32)) => (∀ (H : Heap) (locs : List Loc) (ls : Array Slot), lv_has ls 5 [(0, .ref ht), (1, .int v1), (2, .int v2), (3, .int z.1), (4, .int z.2)] → St D w0 s (wX3_barredFor dA ht ht_ring ht_ring_cells ht_ring_places ht_ring_facts t_ring_lands t_ring_things t_ring_placeCount t_ring_apart t_ring_thereFirst t_ring_facts t_ring_cells t_ring_places) H locs → W p l e R s m args below meth c H locs cells slots Q (F0 m 5 ls []))) (K := fun res => (∀ (H : Heap) (locs : List Loc) (ls : Array Slot), lv_has ls 5 [(3, .int res)] → St D w0 s (wX3_barredFor dA ht ht_ring ht_ring_cells ht_ring_places ht_ring_facts t_ring_lands t_ring_things t_ring_placeCount t_ring_apart t_ring_thereFirst t_ring_facts t_ring_cells t_ring_places) H locs → W p l e R s m args below meth c H locs cells slots Q (F0 m 34 ls []))) (fun z r hf hK H locs ls hl hw => tX3_barredFor_l5b C ht ht_ring ht_ring_cells ht_ring_places ht_ring_facts hR t_ring_lands t_ring_things t_ring_placeCount t_ring_apart t_ring_thereFirst t_ring_facts t_ring_cells t_ring_places v1 v2 z.1 z.2 N r hf (by cases r with
    | inl r => exact hK
    | inr r => exact hK) hl hw) n _ res hf hK H locs ls hl hw
set_option maxHeartbeats 4000000 in
set_option maxRecDepth 100000 in
theorem qX3_barredFor (l : Launch) (D : va_G) (dA : Nat → ClassId) (ht ht_ring ht_ring_cells ht_ring_places ht_ring_facts : Nat) (t_ring_lands : Int32) (t_ring_things : Int32) (t_ring_placeCount : Int32) (t_ring_apart : Int32) (t_ring_thereFirst : Int32) (t_ring_facts : (Nat → Int32)) (t_ring_cells : (Nat → Int64)) (t_ring_places : (Nat → Int32)) (x1_ : Int32) (x2_ : Int32) (N : Nat) (o : Int32) (hf : fX3_barredFor N t_ring_things t_ring_placeCount t_ring_apart t_ring_thereFirst t_ring_facts t_ring_cells t_ring_places x1_ x2_ = some o) : Mi l D dA yX3_barredFor (Cond.code yX3_barredFor cX3_barredFor 5 (some .int) :: wA) 6 144 [.ref ht, .int x1_, .int x2_] (wX3_barredFor dA ht ht_ring ht_ring_cells ht_ring_places ht_ring_facts t_ring_lands t_ring_things t_ring_placeCount t_ring_apart t_ring_thereFirst t_ring_facts t_ring_cells t_ring_places) (wX3_barredFor dA ht ht_ring ht_ring_cells ht_ring_places ht_ring_facts t_ring_lands t_ring_things t_ring_placeCount t_ring_apart t_ring_thereFirst t_ring_facts t_ring_cells t_ring_places) o := by
  intro sz
  refine M_of (cc := cX3_barredFor) (nL := 5) (ret := (some .int)) (own := RX3) (by decide +kernel) rfl (Nat.le_of_ble_eq_true rfl) ?_
  intro p e s m below meth c ls hsz C hw hl
  subst hsz
  have hR : 6 ≤ (rmm 6 144).frames ∧ 144 ≤ (rmm 6 144).locals ∧ 0 ≤ (rmm 6 144).cells ∧ 0 ≤ (rmm 6 144).slots := ⟨Nat.le_refl _, Nat.le_refl _, Nat.le_refl _, Nat.le_refl _⟩
  have hl : lv_has ls 5 [(0, .ref ht), (1, .int x1_), (2, .int x2_)] := hl
  have hx := C.1
  have hb := C.2.1
  have hml := C.2.2.1
  have hown := C.2.2.2.1
  have hts := C.2.2.2.2.1
  have hK : ∀ (H : Heap) (locs : List Loc) (pc : Nat) (ls : Array Slot), decode cX3_barredFor pc = .ok (.ireturn, 1) → St D (wX3_barredFor dA ht ht_ring ht_ring_cells ht_ring_places ht_ring_facts t_ring_lands t_ring_things t_ring_placeCount t_ring_apart t_ring_thereFirst t_ring_facts t_ring_cells t_ring_places) s (wX3_barredFor dA ht ht_ring ht_ring_cells ht_ring_places ht_ring_facts t_ring_lands t_ring_things t_ring_placeCount t_ring_apart t_ring_thereFirst t_ring_facts t_ring_cells t_ring_places) H locs → W p l e (rmm 6 144) s m [.ref ht, .int x1_, .int x2_].toArray below meth c H locs 0 0 (MQ below (Qi D (wX3_barredFor dA ht ht_ring ht_ring_cells ht_ring_places ht_ring_facts t_ring_lands t_ring_things t_ring_placeCount t_ring_apart t_ring_thereFirst t_ring_facts t_ring_cells t_ring_places) (wX3_barredFor dA ht ht_ring ht_ring_cells ht_ring_places ht_ring_facts t_ring_lands t_ring_things t_ring_placeCount t_ring_apart t_ring_thereFirst t_ring_facts t_ring_cells t_ring_places) o s.heap.size) [.ref ht, .int x1_, .int x2_].toArray s 0 0 (va_A (wX3_barredFor dA ht ht_ring ht_ring_cells ht_ring_places ht_ring_facts t_ring_lands t_ring_things t_ring_placeCount t_ring_apart t_ring_thereFirst t_ring_facts t_ring_cells t_ring_places) s.heap.size)) (F0 m pc ls [.int o]) := fun H locs pc ls hd hw => k_iret C hw hd
  unfold fX3_barredFor at hf
  refine lv_iconst (v := (0 : Int32)) hx hb dX3_barredFor_0 (by decide) ?_
  refine lv_istore_n (lv' := [(3, .int (0 : Int32)), (0, .ref ht), (1, .int x1_), (2, .int x2_)]) hx hb dX3_barredFor_1 rfl hl (by decide) rfl (fun ls hl => ?_)
  refine lv_iconst (v := (0 : Int32)) hx hb dX3_barredFor_2 (by decide) ?_
  refine lv_istore (lv' := [(4, .int (0 : Int32)), (3, .int (0 : Int32)), (0, .ref ht), (1, .int x1_), (2, .int x2_)]) hx hb dX3_barredFor_3 hl (by decide) rfl (fun ls hl => ?_)
  obtain ⟨q5, hq5, hf⟩ := bind_r hf
  refine tX3_barredFor_l5 C ht ht_ring ht_ring_cells ht_ring_places ht_ring_facts hR t_ring_lands t_ring_things t_ring_placeCount t_ring_apart t_ring_thereFirst t_ring_facts t_ring_cells t_ring_places x1_ x2_ (0 : Int32) (0 : Int32) N _ _ hq5 ?_ (lv_sub hl [2, 3, 4, 1, 0] rfl) hw
  intro H locs ls hl hw
  refine lv_iload_n hx hb dX3_barredFor_34 rfl (lv_at hl 0 rfl) ?_
  obtain rfl := some_r hf
  exact hK _ _ _ _ dX3_barredFor_35 hw

/-! RingPlaces$Papers.clearedFor(II)I -/
abbrev wX3_clearedFor (dA : Nat → ClassId) (ht ht_ring ht_ring_cells ht_ring_places ht_ring_facts : Nat) (t_ring_lands : Int32) (t_ring_things : Int32) (t_ring_placeCount : Int32) (t_ring_apart : Int32) (t_ring_thereFirst : Int32) (t_ring_facts : (Nat → Int32)) (t_ring_cells : (Nat → Int64)) (t_ring_places : (Nat → Int32)) : va_W := [(ht, .inr (3, [.ref ht_ring])), (ht_ring, .inr (5, [.ref ht_ring_cells, .ref ht_ring_places, .int t_ring_lands, .int t_ring_things, .int t_ring_placeCount, .int t_ring_apart, .int t_ring_thereFirst, .ref ht_ring_facts])), (ht_ring_facts, .inl (dA 0, 224, .inl t_ring_facts)), (ht_ring_cells, .inl (dA 1, 16, .inr (.inl t_ring_cells))), (ht_ring_places, .inl (dA 0, 6, .inl t_ring_places))]
def fX3_clearedFor_l8b (N : Nat) (t_ring_things : Int32) (t_ring_placeCount : Int32) (t_ring_apart : Int32) (t_ring_thereFirst : Int32) (t_ring_facts : (Nat → Int32)) (t_ring_cells : (Nat → Int64)) (t_ring_places : (Nat → Int32)) (v1 : Int32) (v2 : Int32) (v3 : Int32) (v4 : Int32) (v5 : Int32) : Option ((Int32 × Int32 × Int32) ⊕ (Int32 × Int32)) := (if t_ring_things ≤ v5 then some (.inr (v3, v4)) else (fX5_told t_ring_facts v5 (12 : Int32)).bind fun o2 => (if o2 = (-1 : Int32) then (fX3_barredBy N t_ring_placeCount t_ring_apart t_ring_thereFirst t_ring_facts t_ring_cells t_ring_places v5 v1 v2).bind fun o7 => bnd (v3 ||| o7) fun x8 => bnd (v5 + (1 : Int32)) fun x9 => some (.inl (x8, v4, x9)) else (fX3_barredBy N t_ring_placeCount t_ring_apart t_ring_thereFirst t_ring_facts t_ring_cells t_ring_places v5 v1 v2).bind fun o4 => bnd (v4 ||| o4) fun x5 => bnd (v5 + (1 : Int32)) fun x6 => some (.inl (v3, x5, x6))))
def fX3_clearedFor (N : Nat) (t_ring_things : Int32) (t_ring_placeCount : Int32) (t_ring_apart : Int32) (t_ring_thereFirst : Int32) (t_ring_facts : (Nat → Int32)) (t_ring_cells : (Nat → Int64)) (t_ring_places : (Nat → Int32)) (x1_ : Int32) (x2_ : Int32) : Option (Int32) := (itr (fun z => fX3_clearedFor_l8b N t_ring_things t_ring_placeCount t_ring_apart t_ring_thereFirst t_ring_facts t_ring_cells t_ring_places x1_ x2_ z.1 z.2.1 z.2.2) N ((0 : Int32), (0 : Int32), (0 : Int32))).bind fun q10 => some (q10.1 &&& (q10.2 ^^^ (-1 : Int32)))
set_option maxHeartbeats 4000000 in
set_option maxRecDepth 100000 in
theorem tX3_clearedFor_l8b {p : Program} {l : Launch} {e : Env} {R : Room} {s : State} {m : MethodId} {args : Array Value} {below : List Frame} {meth : Method} {c : Code} {D : va_G} {dA : Nat → ClassId} {w0 : va_W} {Q : State → Prop} {H : Heap} {locs : List Loc} {ls : Array Slot} {cells slots : Nat} (C : CX p s m args meth c cX3_clearedFor 6 (some .int) RX3 D dA) (ht ht_ring ht_ring_cells ht_ring_places ht_ring_facts : Nat) (hR : 6 ≤ R.frames ∧ 144 ≤ R.locals ∧ cells ≤ R.cells ∧ slots ≤ R.slots)  (t_ring_lands : Int32) (t_ring_things : Int32) (t_ring_placeCount : Int32) (t_ring_apart : Int32) (t_ring_thereFirst : Int32) (t_ring_facts : (Nat → Int32)) (t_ring_cells : (Nat → Int64)) (t_ring_places : (Nat → Int32)) (v1 : Int32) (v2 : Int32) (v3 : Int32) (v4 : Int32) (v5 : Int32) (N : Nat) (res : ((Int32 × Int32 × Int32) ⊕ (Int32 × Int32))) (hf : fX3_clearedFor_l8b N t_ring_things t_ring_placeCount t_ring_apart t_ring_thereFirst t_ring_facts t_ring_cells t_ring_places v1 v2 v3 v4 v5 = some res) (hK : Sum.elim (fun z => (∀ (H : Heap) (locs : List Loc) (ls : Array Slot), lv_has ls 6 [(0, .ref ht), (1, .int v1), (2, .int v2), (3, .int z.1), (4, .int z.2.1), (5, .int z.2.2)] → St D w0 s (wX3_clearedFor dA ht ht_ring ht_ring_cells ht_ring_places ht_ring_facts t_ring_lands t_ring_things t_ring_placeCount t_ring_apart t_ring_thereFirst t_ring_facts t_ring_cells t_ring_places) H locs → W p l e R s m args below meth c H locs cells slots Q (F0 m 8 ls []))) (fun r => (∀ (H : Heap) (locs : List Loc) (ls : Array Slot), lv_has ls 6 [(3, .int r.1), (4, .int r.2)] → St D w0 s (wX3_clearedFor dA ht ht_ring ht_ring_cells ht_ring_places ht_ring_facts t_ring_lands t_ring_things t_ring_placeCount t_ring_apart t_ring_thereFirst t_ring_facts t_ring_cells t_ring_places) H locs → W p l e R s m args below meth c H locs cells slots Q (F0 m 68 ls []))) res) (hl : lv_has ls 6 [(0, .ref ht), (1, .int v1), (2, .int v2), (3, .int v3), (4, .int v4), (5, .int v5)]) (hw : St D w0 s (wX3_clearedFor dA ht ht_ring ht_ring_cells ht_ring_places ht_ring_facts t_ring_lands t_ring_things t_ring_placeCount t_ring_apart t_ring_thereFirst t_ring_facts t_ring_cells t_ring_places) H locs) : W p l e R s m args below meth c H locs cells slots Q (F0 m 8 ls []) := by
  have hx := C.1
  have hb := C.2.1
  have hml := C.2.2.1
  have hown := C.2.2.2.1
  have hts := C.2.2.2.2.1
  unfold fX3_clearedFor_l8b at hf
  refine lv_iload hx hb dX3_clearedFor_8 (lv_at hl 5 rfl) ?_
  refine lv_aload_n hx hb dX3_clearedFor_10 rfl (lv_at hl 0 rfl) ?_
  refine k_get C hw 0 rfl rfl wiX3 0 (by decide) wfX3_9 rfl dX3_clearedFor_11 ?_
  refine k_get C hw 1 rfl rfl wiX5 3 (by decide) wfX3_38 rfl dX3_clearedFor_14 ?_
  refine lv_icmp_ge (tgt := 68) hx hb dX3_clearedFor_17 (by decide) (fun c1 => ?_) (fun c1 => ?_)
  · have hf := ite_t c1 hf
    obtain rfl := some_r hf
    exact hK _ _ _ (lv_sub hl [3, 4] rfl) hw
  · have hf := ite_f c1 hf
    refine lv_aload_n hx hb dX3_clearedFor_20 rfl (lv_at hl 0 rfl) ?_
    refine k_get C hw 0 rfl rfl wiX3 0 (by decide) wfX3_9 rfl dX3_clearedFor_21 ?_
    refine lv_iload hx hb dX3_clearedFor_24 (lv_at hl 5 rfl) ?_
    refine lv_bipush (v := (12 : Int32)) hx hb dX3_clearedFor_26 (by decide) ?_
    obtain ⟨o2, ho2, hf⟩ := bind_r hf
    refine k_callVi C hw (n := 2) (As := [.int v5, .int (12 : Int32)]) (w1 := (wX3_clearedFor dA ht ht_ring ht_ring_cells ht_ring_places ht_ring_facts t_ring_lands t_ring_things t_ring_placeCount t_ring_apart t_ring_thereFirst t_ring_facts t_ring_cells t_ring_places)) (wr := [(ht, .inr (3, [.ref ht_ring])), (ht_ring_cells, .inl (dA 1, 16, .inr (.inl t_ring_cells))), (ht_ring_places, .inl (dA 0, 6, .inl t_ring_places))]) [1, 2] [0, 3, 4] [0, 3, 4, 1, 2] rfl rfl (by decide) (by decide) (by decide) rfl (by decide) (qX5_told l D dA ht_ring ht_ring_cells ht_ring_places ht_ring_facts t_ring_lands t_ring_things t_ring_placeCount t_ring_apart t_ring_thereFirst t_ring_facts v5 (12 : Int32) _ ho2) wlX3_15 wmX5_told wvX5_told wnX5 wcX5_told rfl (by decide +kernel) ⟨Nat.le_trans (by decide) hR.1, Nat.le_trans (by decide) hR.2.1⟩ hR.2.2 rfl 0 rfl rfl hl.1 (Nat.le_of_ble_eq_true rfl) dX3_clearedFor_28 rfl (fun H locs hw => ?_)
    refine lv_iconst (v := (-1 : Int32)) hx hb dX3_clearedFor_31 (by decide) ?_
    refine lv_icmp_ne (tgt := 49) hx hb dX3_clearedFor_32 (by decide) (fun c3 => ?_) (fun c3 => ?_)
    · have hf := ite_f c3 hf
      refine lv_iload hx hb dX3_clearedFor_49 (lv_at hl 4 rfl) ?_
      refine lv_aload_n hx hb dX3_clearedFor_51 rfl (lv_at hl 0 rfl) ?_
      refine lv_iload hx hb dX3_clearedFor_52 (lv_at hl 5 rfl) ?_
      refine lv_iload_n hx hb dX3_clearedFor_54 rfl (lv_at hl 1 rfl) ?_
      refine lv_iload_n hx hb dX3_clearedFor_55 rfl (lv_at hl 2 rfl) ?_
      obtain ⟨o4, ho4, hf⟩ := bind_r hf
      refine k_callVi C hw (n := 3) (As := [.int v5, .int v1, .int v2]) (w1 := (wX3_clearedFor dA ht ht_ring ht_ring_cells ht_ring_places ht_ring_facts t_ring_lands t_ring_things t_ring_placeCount t_ring_apart t_ring_thereFirst t_ring_facts t_ring_cells t_ring_places)) (wr := []) [0, 1, 2, 3, 4] [] [0, 1, 2, 3, 4] rfl rfl (by decide) (by decide) (by decide) rfl (by decide) (qX3_barredBy l D dA ht ht_ring ht_ring_cells ht_ring_places ht_ring_facts t_ring_lands t_ring_things t_ring_placeCount t_ring_apart t_ring_thereFirst t_ring_facts t_ring_cells t_ring_places v5 v1 v2 N _ ho4) wlX3_42 wmX3_barredBy wvX3_barredBy wnX3 wcX3_barredBy rfl (by decide +kernel) ⟨Nat.le_trans (by decide) hR.1, Nat.le_trans (by decide) hR.2.1⟩ hR.2.2 rfl 0 rfl rfl hl.1 (Nat.le_of_ble_eq_true rfl) dX3_clearedFor_56 rfl (fun H locs hw => ?_)
      refine lv_ior hx hb dX3_clearedFor_59 ?_
      refine lv_topi (fun x5 ex5 => ?_)
      have hf := bnd_r ex5 hf
      refine lv_istore (lv' := [(4, .int x5), (0, .ref ht), (1, .int v1), (2, .int v2), (3, .int v3), (5, .int v5)]) hx hb dX3_clearedFor_60 hl (by decide) rfl (fun ls hl => ?_)
      obtain ⟨x6, ex6⟩ : ∃ y : Int32, y = v5 + (1 : Int32) := ⟨_, rfl⟩
      have hf := bnd_r ex6 hf
      refine lv_iinc (v := x6) (lv' := [(5, .int x6), (4, .int x5), (0, .ref ht), (1, .int v1), (2, .int v2), (3, .int v3)]) hx hb dX3_clearedFor_62 hl (k := 5) rfl (by rw [ex6]; rfl) (by decide) rfl (fun ls hl => ?_)
      refine lv_goto (tgt := 8) hx hb dX3_clearedFor_65 (by decide) ?_
      obtain rfl := some_r hf
      exact hK _ _ _ (lv_sub hl [2, 3, 4, 5, 1, 0] rfl) hw
    · have hf := ite_t c3 hf
      refine lv_iload_n hx hb dX3_clearedFor_35 rfl (lv_at hl 3 rfl) ?_
      refine lv_aload_n hx hb dX3_clearedFor_36 rfl (lv_at hl 0 rfl) ?_
      refine lv_iload hx hb dX3_clearedFor_37 (lv_at hl 5 rfl) ?_
      refine lv_iload_n hx hb dX3_clearedFor_39 rfl (lv_at hl 1 rfl) ?_
      refine lv_iload_n hx hb dX3_clearedFor_40 rfl (lv_at hl 2 rfl) ?_
      obtain ⟨o7, ho7, hf⟩ := bind_r hf
      refine k_callVi C hw (n := 3) (As := [.int v5, .int v1, .int v2]) (w1 := (wX3_clearedFor dA ht ht_ring ht_ring_cells ht_ring_places ht_ring_facts t_ring_lands t_ring_things t_ring_placeCount t_ring_apart t_ring_thereFirst t_ring_facts t_ring_cells t_ring_places)) (wr := []) [0, 1, 2, 3, 4] [] [0, 1, 2, 3, 4] rfl rfl (by decide) (by decide) (by decide) rfl (by decide) (qX3_barredBy l D dA ht ht_ring ht_ring_cells ht_ring_places ht_ring_facts t_ring_lands t_ring_things t_ring_placeCount t_ring_apart t_ring_thereFirst t_ring_facts t_ring_cells t_ring_places v5 v1 v2 N _ ho7) wlX3_42 wmX3_barredBy wvX3_barredBy wnX3 wcX3_barredBy rfl (by decide +kernel) ⟨Nat.le_trans (by decide) hR.1, Nat.le_trans (by decide) hR.2.1⟩ hR.2.2 rfl 0 rfl rfl hl.1 (Nat.le_of_ble_eq_true rfl) dX3_clearedFor_41 rfl (fun H locs hw => ?_)
      refine lv_ior hx hb dX3_clearedFor_44 ?_
      refine lv_topi (fun x8 ex8 => ?_)
      have hf := bnd_r ex8 hf
      refine lv_istore_n (lv' := [(3, .int x8), (0, .ref ht), (1, .int v1), (2, .int v2), (4, .int v4), (5, .int v5)]) hx hb dX3_clearedFor_45 rfl hl (by decide) rfl (fun ls hl => ?_)
      refine lv_goto (tgt := 62) hx hb dX3_clearedFor_46 (by decide) ?_
      obtain ⟨x9, ex9⟩ : ∃ y : Int32, y = v5 + (1 : Int32) := ⟨_, rfl⟩
      have hf := bnd_r ex9 hf
      refine lv_iinc (v := x9) (lv' := [(5, .int x9), (3, .int x8), (0, .ref ht), (1, .int v1), (2, .int v2), (4, .int v4)]) hx hb dX3_clearedFor_62 hl (k := 5) rfl (by rw [ex9]; rfl) (by decide) rfl (fun ls hl => ?_)
      refine lv_goto (tgt := 8) hx hb dX3_clearedFor_65 (by decide) ?_
      obtain rfl := some_r hf
      exact hK _ _ _ (lv_sub hl [2, 3, 4, 1, 5, 0] rfl) hw
set_option maxHeartbeats 4000000 in
theorem tX3_clearedFor_l8 {p : Program} {l : Launch} {e : Env} {R : Room} {s : State} {m : MethodId} {args : Array Value} {below : List Frame} {meth : Method} {c : Code} {D : va_G} {dA : Nat → ClassId} {w0 : va_W} {Q : State → Prop} {H : Heap} {locs : List Loc} {ls : Array Slot} {cells slots : Nat} (C : CX p s m args meth c cX3_clearedFor 6 (some .int) RX3 D dA) (ht ht_ring ht_ring_cells ht_ring_places ht_ring_facts : Nat) (hR : 6 ≤ R.frames ∧ 144 ≤ R.locals ∧ cells ≤ R.cells ∧ slots ≤ R.slots)  (t_ring_lands : Int32) (t_ring_things : Int32) (t_ring_placeCount : Int32) (t_ring_apart : Int32) (t_ring_thereFirst : Int32) (t_ring_facts : (Nat → Int32)) (t_ring_cells : (Nat → Int64)) (t_ring_places : (Nat → Int32)) (v1 : Int32) (v2 : Int32) (v3 : Int32) (v4 : Int32) (v5 : Int32) (N n : Nat) (res : (Int32 × Int32)) (hf : itr (fun z => fX3_clearedFor_l8b N t_ring_things t_ring_placeCount t_ring_apart t_ring_thereFirst t_ring_facts t_ring_cells t_ring_places v1 v2 z.1 z.2.1 z.2.2) n (v3, v4, v5) = some res) (hK : (∀ (H : Heap) (locs : List Loc) (ls : Array Slot), lv_has ls 6 [(3, .int res.1), (4, .int res.2)] → St D w0 s (wX3_clearedFor dA ht ht_ring ht_ring_cells ht_ring_places ht_ring_facts t_ring_lands t_ring_things t_ring_placeCount t_ring_apart t_ring_thereFirst t_ring_facts t_ring_cells t_ring_places) H locs → W p l e R s m args below meth c H locs cells slots Q (F0 m 68 ls []))) (hl : lv_has ls 6 [(0, .ref ht), (1, .int v1), (2, .int v2), (3, .int v3), (4, .int v4), (5, .int v5)]) (hw : St D w0 s (wX3_clearedFor dA ht ht_ring ht_ring_cells ht_ring_places ht_ring_facts t_ring_lands t_ring_things t_ring_placeCount t_ring_apart t_ring_thereFirst t_ring_facts t_ring_cells t_ring_places) H locs) : W p l e R s m args below meth c H locs cells slots Q (F0 m 8 ls []) :=
  itr_W (P := fun (z : (Int32 × Int32 × Int32)) => (∀ (H : Heap) (locs : List Loc) (ls : Array Slot), lv_has ls 6 [(0, .ref ht), (1, .int v1), (2, .int v2), (3, .int z.1), (4, .int z.2.1), (5, .int z.2.2)] → St D w0 s (wX3_clearedFor dA ht ht_ring ht_ring_cells ht_ring_places ht_ring_facts t_ring_lands t_ring_things t_ring_placeCount t_ring_apart t_ring_thereFirst t_ring_facts t_ring_cells t_ring_places) H locs → W p l e R s m args below meth c H locs cells slots Q (F0 m 8 ls []))) (K := fun res => (∀ (H : Heap) (locs : List Loc) (ls : Array Slot), lv_has ls 6 [(3, .int res.1), (4, .int res.2)] → St D w0 s (wX3_clearedFor dA ht ht_ring ht_ring_cells ht_ring_places ht_ring_facts t_ring_lands t_ring_things t_ring_placeCount t_ring_apart t_ring_thereFirst t_ring_facts t_ring_cells t_ring_places) H locs → W p l e R s m args below meth c H locs cells slots Q (F0 m 68 ls []))) (fun z r hf hK H locs ls hl hw => tX3_clearedFor_l8b C ht ht_ring ht_ring_cells ht_ring_places ht_ring_facts hR t_ring_lands t_ring_things t_ring_placeCount t_ring_apart t_ring_thereFirst t_ring_facts t_ring_cells t_ring_places v1 v2 z.1 z.2.1 z.2.2 N r hf (by cases r with
    | inl r => exact hK
    | inr r => exact hK) hl hw) n _ res hf hK H locs ls hl hw
set_option maxHeartbeats 4000000 in
set_option maxRecDepth 100000 in
theorem qX3_clearedFor (l : Launch) (D : va_G) (dA : Nat → ClassId) (ht ht_ring ht_ring_cells ht_ring_places ht_ring_facts : Nat) (t_ring_lands : Int32) (t_ring_things : Int32) (t_ring_placeCount : Int32) (t_ring_apart : Int32) (t_ring_thereFirst : Int32) (t_ring_facts : (Nat → Int32)) (t_ring_cells : (Nat → Int64)) (t_ring_places : (Nat → Int32)) (x1_ : Int32) (x2_ : Int32) (N : Nat) (o : Int32) (hf : fX3_clearedFor N t_ring_things t_ring_placeCount t_ring_apart t_ring_thereFirst t_ring_facts t_ring_cells t_ring_places x1_ x2_ = some o) : Mi l D dA yX3_clearedFor (Cond.code yX3_clearedFor cX3_clearedFor 6 (some .int) :: wA) 6 144 [.ref ht, .int x1_, .int x2_] (wX3_clearedFor dA ht ht_ring ht_ring_cells ht_ring_places ht_ring_facts t_ring_lands t_ring_things t_ring_placeCount t_ring_apart t_ring_thereFirst t_ring_facts t_ring_cells t_ring_places) (wX3_clearedFor dA ht ht_ring ht_ring_cells ht_ring_places ht_ring_facts t_ring_lands t_ring_things t_ring_placeCount t_ring_apart t_ring_thereFirst t_ring_facts t_ring_cells t_ring_places) o := by
  intro sz
  refine M_of (cc := cX3_clearedFor) (nL := 6) (ret := (some .int)) (own := RX3) (by decide +kernel) rfl (Nat.le_of_ble_eq_true rfl) ?_
  intro p e s m below meth c ls hsz C hw hl
  subst hsz
  have hR : 6 ≤ (rmm 6 144).frames ∧ 144 ≤ (rmm 6 144).locals ∧ 0 ≤ (rmm 6 144).cells ∧ 0 ≤ (rmm 6 144).slots := ⟨Nat.le_refl _, Nat.le_refl _, Nat.le_refl _, Nat.le_refl _⟩
  have hl : lv_has ls 6 [(0, .ref ht), (1, .int x1_), (2, .int x2_)] := hl
  have hx := C.1
  have hb := C.2.1
  have hml := C.2.2.1
  have hown := C.2.2.2.1
  have hts := C.2.2.2.2.1
  have hK : ∀ (H : Heap) (locs : List Loc) (pc : Nat) (ls : Array Slot), decode cX3_clearedFor pc = .ok (.ireturn, 1) → St D (wX3_clearedFor dA ht ht_ring ht_ring_cells ht_ring_places ht_ring_facts t_ring_lands t_ring_things t_ring_placeCount t_ring_apart t_ring_thereFirst t_ring_facts t_ring_cells t_ring_places) s (wX3_clearedFor dA ht ht_ring ht_ring_cells ht_ring_places ht_ring_facts t_ring_lands t_ring_things t_ring_placeCount t_ring_apart t_ring_thereFirst t_ring_facts t_ring_cells t_ring_places) H locs → W p l e (rmm 6 144) s m [.ref ht, .int x1_, .int x2_].toArray below meth c H locs 0 0 (MQ below (Qi D (wX3_clearedFor dA ht ht_ring ht_ring_cells ht_ring_places ht_ring_facts t_ring_lands t_ring_things t_ring_placeCount t_ring_apart t_ring_thereFirst t_ring_facts t_ring_cells t_ring_places) (wX3_clearedFor dA ht ht_ring ht_ring_cells ht_ring_places ht_ring_facts t_ring_lands t_ring_things t_ring_placeCount t_ring_apart t_ring_thereFirst t_ring_facts t_ring_cells t_ring_places) o s.heap.size) [.ref ht, .int x1_, .int x2_].toArray s 0 0 (va_A (wX3_clearedFor dA ht ht_ring ht_ring_cells ht_ring_places ht_ring_facts t_ring_lands t_ring_things t_ring_placeCount t_ring_apart t_ring_thereFirst t_ring_facts t_ring_cells t_ring_places) s.heap.size)) (F0 m pc ls [.int o]) := fun H locs pc ls hd hw => k_iret C hw hd
  unfold fX3_clearedFor at hf
  refine lv_iconst (v := (0 : Int32)) hx hb dX3_clearedFor_0 (by decide) ?_
  refine lv_istore_n (lv' := [(3, .int (0 : Int32)), (0, .ref ht), (1, .int x1_), (2, .int x2_)]) hx hb dX3_clearedFor_1 rfl hl (by decide) rfl (fun ls hl => ?_)
  refine lv_iconst (v := (0 : Int32)) hx hb dX3_clearedFor_2 (by decide) ?_
  refine lv_istore (lv' := [(4, .int (0 : Int32)), (3, .int (0 : Int32)), (0, .ref ht), (1, .int x1_), (2, .int x2_)]) hx hb dX3_clearedFor_3 hl (by decide) rfl (fun ls hl => ?_)
  refine lv_iconst (v := (0 : Int32)) hx hb dX3_clearedFor_5 (by decide) ?_
  refine lv_istore (lv' := [(5, .int (0 : Int32)), (4, .int (0 : Int32)), (3, .int (0 : Int32)), (0, .ref ht), (1, .int x1_), (2, .int x2_)]) hx hb dX3_clearedFor_6 hl (by decide) rfl (fun ls hl => ?_)
  obtain ⟨q10, hq10, hf⟩ := bind_r hf
  refine tX3_clearedFor_l8 C ht ht_ring ht_ring_cells ht_ring_places ht_ring_facts hR t_ring_lands t_ring_things t_ring_placeCount t_ring_apart t_ring_thereFirst t_ring_facts t_ring_cells t_ring_places x1_ x2_ (0 : Int32) (0 : Int32) (0 : Int32) N _ _ hq10 ?_ (lv_sub hl [3, 4, 5, 2, 1, 0] rfl) hw
  intro H locs ls hl hw
  refine lv_iload_n hx hb dX3_clearedFor_68 rfl (lv_at hl 0 rfl) ?_
  refine lv_iload hx hb dX3_clearedFor_69 (lv_at hl 1 rfl) ?_
  refine lv_iconst (v := (-1 : Int32)) hx hb dX3_clearedFor_71 (by decide) ?_
  refine lv_ixor hx hb dX3_clearedFor_72 ?_
  refine lv_iand hx hb dX3_clearedFor_73 ?_
  obtain rfl := some_r hf
  exact hK _ _ _ _ dX3_clearedFor_74 hw
