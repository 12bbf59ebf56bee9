/-! RingPlaces$Standing.reachOn(II)I -/
abbrev wX8_reachOn (dA : Nat → ClassId) (ht ht_ring ht_degree ht_voice ht_loud ht_sharp ht_hears ht_tooNear : Nat) (t_loud : (Nat → Int32)) (t_sharp : (Nat → Int32)) (t_degree : (Nat → Int32)) : va_W := [(ht, .inr (8, [.ref ht_ring, .ref ht_degree, .ref ht_voice, .ref ht_loud, .ref ht_sharp, .ref ht_hears, .ref ht_tooNear])), (ht_loud, .inl (dA 0, 16, .inl t_loud)), (ht_sharp, .inl (dA 0, 16, .inl t_sharp)), (ht_degree, .inl (dA 0, 16, .inl t_degree))]
def fX8_reachOn (N : Nat) (t_loud : (Nat → Int32)) (t_sharp : (Nat → Int32)) (t_degree : (Nat → Int32)) (x1_ : Int32) (x2_ : Int32) : Option (Int32) := gdi x1_ 16 (gdi x1_ 16 (gdi x1_ 16 (gdi x2_ 16 ((fX11_gapBetween N  (t_degree x1_.toNatClampNeg) (t_degree x2_.toNatClampNeg)).bind fun o5 => (fX11_reachAt  (t_loud x1_.toNatClampNeg) (t_sharp x1_.toNatClampNeg) o5).bind fun o6 => some o6))))
set_option maxHeartbeats 4000000 in
set_option maxRecDepth 100000 in
theorem qX8_reachOn (l : Launch) (D : va_G) (dA : Nat → ClassId) (ht ht_ring ht_degree ht_voice ht_loud ht_sharp ht_hears ht_tooNear : Nat) (t_loud : (Nat → Int32)) (t_sharp : (Nat → Int32)) (t_degree : (Nat → Int32)) (x1_ : Int32) (x2_ : Int32) (N : Nat) (o : Int32) (hf : fX8_reachOn N t_loud t_sharp t_degree x1_ x2_ = some o) : Mi l D dA yX8_reachOn (Cond.code yX8_reachOn cX8_reachOn 3 (some .int) :: wA) 1 23 [.ref ht, .int x1_, .int x2_] (wX8_reachOn dA ht ht_ring ht_degree ht_voice ht_loud ht_sharp ht_hears ht_tooNear t_loud t_sharp t_degree) (wX8_reachOn dA ht ht_ring ht_degree ht_voice ht_loud ht_sharp ht_hears ht_tooNear t_loud t_sharp t_degree) o := by
  intro sz
  refine M_of (cc := cX8_reachOn) (nL := 3) (ret := (some .int)) (own := RX8) (by decide +kernel) rfl (Nat.le_of_ble_eq_true rfl) ?_
  intro p e s m below meth c ls hsz C hw hl
  subst hsz
  have hR : 1 ≤ (rmm 1 23).frames ∧ 23 ≤ (rmm 1 23).locals ∧ 0 ≤ (rmm 1 23).cells ∧ 0 ≤ (rmm 1 23).slots := ⟨Nat.le_refl _, Nat.le_refl _, Nat.le_refl _, Nat.le_refl _⟩
  have hl : lv_has ls 3 [(0, .ref ht), (1, .int x1_), (2, .int x2_)] := hl
  have hx := C.1
  have hb := C.2.1
  have hml := C.2.2.1
  have hown := C.2.2.2.1
  have hts := C.2.2.2.2.1
  have hK : ∀ (H : Heap) (locs : List Loc) (pc : Nat) (ls : Array Slot), decode cX8_reachOn pc = .ok (.ireturn, 1) → St D (wX8_reachOn dA ht ht_ring ht_degree ht_voice ht_loud ht_sharp ht_hears ht_tooNear t_loud t_sharp t_degree) s (wX8_reachOn dA ht ht_ring ht_degree ht_voice ht_loud ht_sharp ht_hears ht_tooNear t_loud t_sharp t_degree) H locs → W p l e (rmm 1 23) s m [.ref ht, .int x1_, .int x2_].toArray below meth c H locs 0 0 (MQ below (Qi D (wX8_reachOn dA ht ht_ring ht_degree ht_voice ht_loud ht_sharp ht_hears ht_tooNear t_loud t_sharp t_degree) (wX8_reachOn dA ht ht_ring ht_degree ht_voice ht_loud ht_sharp ht_hears ht_tooNear t_loud t_sharp t_degree) o s.heap.size) [.ref ht, .int x1_, .int x2_].toArray s 0 0 (va_A (wX8_reachOn dA ht ht_ring ht_degree ht_voice ht_loud ht_sharp ht_hears ht_tooNear t_loud t_sharp t_degree) s.heap.size)) (F0 m pc ls [.int o]) := fun H locs pc ls hd hw => k_iret C hw hd
  unfold fX8_reachOn at hf
  refine lv_aload_n hx hb dX8_reachOn_0 rfl (lv_at hl 0 rfl) ?_
  refine k_get C hw 0 rfl rfl wiX8 3 (by decide) wfX8_18 rfl dX8_reachOn_1 ?_
  refine lv_iload_n hx hb dX8_reachOn_4 rfl (lv_at hl 1 rfl) ?_
  obtain ⟨g1, hf⟩ := gdi_r hf
  refine k_iald C hw 1 rfl g1 dX8_reachOn_5 ?_
  refine lv_aload_n hx hb dX8_reachOn_6 rfl (lv_at hl 0 rfl) ?_
  refine k_get C hw 0 rfl rfl wiX8 4 (by decide) wfX8_21 rfl dX8_reachOn_7 ?_
  refine lv_iload_n hx hb dX8_reachOn_10 rfl (lv_at hl 1 rfl) ?_
  obtain ⟨g2, hf⟩ := gdi_r hf
  refine k_iald C hw 2 rfl g2 dX8_reachOn_11 ?_
  refine lv_aload_n hx hb dX8_reachOn_12 rfl (lv_at hl 0 rfl) ?_
  refine k_get C hw 0 rfl rfl wiX8 1 (by decide) wfX8_9 rfl dX8_reachOn_13 ?_
  refine lv_iload_n hx hb dX8_reachOn_16 rfl (lv_at hl 1 rfl) ?_
  obtain ⟨g3, hf⟩ := gdi_r hf
  refine k_iald C hw 3 rfl g3 dX8_reachOn_17 ?_
  refine lv_aload_n hx hb dX8_reachOn_18 rfl (lv_at hl 0 rfl) ?_
  refine k_get C hw 0 rfl rfl wiX8 1 (by decide) wfX8_9 rfl dX8_reachOn_19 ?_
  refine lv_iload_n hx hb dX8_reachOn_22 rfl (lv_at hl 2 rfl) ?_
  obtain ⟨g4, hf⟩ := gdi_r hf
  refine k_iald C hw 3 rfl g4 dX8_reachOn_23 ?_
  obtain ⟨o5, ho5, hf⟩ := bind_r hf
  refine k_callNi C hw (n := 2) (As := [.int (t_degree x1_.toNatClampNeg), .int (t_degree x2_.toNatClampNeg)]) (w1 := (wX8_reachOn dA ht ht_ring ht_degree ht_voice ht_loud ht_sharp ht_hears ht_tooNear t_loud t_sharp t_degree)) (wr := [(ht, .inr (8, [.ref ht_ring, .ref ht_degree, .ref ht_voice, .ref ht_loud, .ref ht_sharp, .ref ht_hears, .ref ht_tooNear])), (ht_loud, .inl (dA 0, 16, .inl t_loud)), (ht_sharp, .inl (dA 0, 16, .inl t_sharp)), (ht_degree, .inl (dA 0, 16, .inl t_degree))]) [] [0, 1, 2, 3] [0, 1, 2, 3] rfl rfl (by decide) (by decide) (by decide) rfl (by decide) (qX11_gapBetween l D dA  (t_degree x1_.toNatClampNeg) (t_degree x2_.toNatClampNeg) N _ ho5) (host := "RingPlaces") (by decide +kernel) wsX11_gapBetween_t wnX11 wcX11_gapBetween (by decide +kernel) ⟨Nat.le_trans (by decide) hR.1, Nat.le_trans (by decide) hR.2.1⟩ hR.2.2 rfl hl.1 (Nat.le_of_ble_eq_true rfl) dX8_reachOn_24 rfl (fun H locs hw => ?_)
  obtain ⟨o6, ho6, hf⟩ := bind_r hf
  refine k_callNi C hw (n := 3) (As := [.int (t_loud x1_.toNatClampNeg), .int (t_sharp x1_.toNatClampNeg), .int o5]) (w1 := (wX8_reachOn dA ht ht_ring ht_degree ht_voice ht_loud ht_sharp ht_hears ht_tooNear t_loud t_sharp t_degree)) (wr := [(ht, .inr (8, [.ref ht_ring, .ref ht_degree, .ref ht_voice, .ref ht_loud, .ref ht_sharp, .ref ht_hears, .ref ht_tooNear])), (ht_loud, .inl (dA 0, 16, .inl t_loud)), (ht_sharp, .inl (dA 0, 16, .inl t_sharp)), (ht_degree, .inl (dA 0, 16, .inl t_degree))]) [] [0, 1, 2, 3] [0, 1, 2, 3] rfl rfl (by decide) (by decide) (by decide) rfl (by decide) (qX11_reachAt l D dA  (t_loud x1_.toNatClampNeg) (t_sharp x1_.toNatClampNeg) o5 _ ho6) (host := "RingPlaces") (by decide +kernel) wsX11_reachAt_t wnX11 wcX11_reachAt (by decide +kernel) ⟨Nat.le_trans (by decide) hR.1, Nat.le_trans (by decide) hR.2.1⟩ hR.2.2 rfl hl.1 (Nat.le_of_ble_eq_true rfl) dX8_reachOn_27 rfl (fun H locs hw => ?_)
  obtain rfl := some_r hf
  exact hK _ _ _ _ dX8_reachOn_30 hw

/-! RingPlaces$Standing.wrongOf(I)I -/
abbrev wX8_wrongOf (dA : Nat → ClassId) (ht ht_ring ht_degree ht_voice ht_loud ht_sharp ht_hears ht_tooNear ht_ring_cells ht_ring_places ht_ring_facts : Nat) (t_degree : (Nat → Int32)) (t_ring_lands : Int32) (t_ring_things : Int32) (t_ring_placeCount : Int32) (t_ring_apart : Int32) (t_ring_thereFirst : Int32) (t_ring_facts : (Nat → Int32)) (t_voice : (Nat → Int32)) (t_tooNear : (Nat → Int32)) (t_hears : (Nat → Int32)) : va_W := [(ht, .inr (8, [.ref ht_ring, .ref ht_degree, .ref ht_voice, .ref ht_loud, .ref ht_sharp, .ref ht_hears, .ref ht_tooNear])), (ht_degree, .inl (dA 0, 16, .inl t_degree)), (ht_ring, .inr (5, [.ref ht_ring_cells, .ref ht_ring_places, .int t_ring_lands, .int t_ring_things, .int t_ring_placeCount, .int t_ring_apart, .int t_ring_thereFirst, .ref ht_ring_facts])), (ht_ring_facts, .inl (dA 0, 224, .inl t_ring_facts)), (ht_voice, .inl (dA 0, 16, .inl t_voice)), (ht_tooNear, .inl (dA 0, 16, .inl t_tooNear)), (ht_hears, .inl (dA 0, 16, .inl t_hears))]
def fX8_wrongOf (t_degree : (Nat → Int32)) (t_ring_facts : (Nat → Int32)) (t_voice : (Nat → Int32)) (t_tooNear : (Nat → Int32)) (t_hears : (Nat → Int32)) (x1_ : Int32) : Option (Int32) := gdi x1_ 16 ((fX5_isInArc t_ring_facts x1_ (t_degree x1_.toNatClampNeg)).bind fun o2 => (if o2 = 0 then some (1 : Int32) else gdi x1_ 16 ((fX5_hasVoice t_ring_facts x1_ (t_voice x1_.toNatClampNeg)).bind fun o5 => (if o5 = 0 then some (2 : Int32) else gdi x1_ 16 ((if (t_tooNear x1_.toNatClampNeg) ≤ 0 then gdi x1_ 16 ((fX5_told t_ring_facts x1_ (6 : Int32)).bind fun o10 => (if (t_hears x1_.toNatClampNeg) ≤ o10 then some (0 : Int32) else some (4 : Int32))) else some (3 : Int32)))))))
set_option maxHeartbeats 4000000 in
set_option maxRecDepth 100000 in
theorem qX8_wrongOf (l : Launch) (D : va_G) (dA : Nat → ClassId) (ht ht_ring ht_degree ht_voice ht_loud ht_sharp ht_hears ht_tooNear ht_ring_cells ht_ring_places ht_ring_facts : Nat) (t_degree : (Nat → Int32)) (t_ring_lands : Int32) (t_ring_things : Int32) (t_ring_placeCount : Int32) (t_ring_apart : Int32) (t_ring_thereFirst : Int32) (t_ring_facts : (Nat → Int32)) (t_voice : (Nat → Int32)) (t_tooNear : (Nat → Int32)) (t_hears : (Nat → Int32)) (x1_ : Int32) (o : Int32) (hf : fX8_wrongOf t_degree t_ring_facts t_voice t_tooNear t_hears x1_ = some o) : Mi l D dA yX8_wrongOf (Cond.code yX8_wrongOf cX8_wrongOf 2 (some .int) :: wA) 1 24 [.ref ht, .int x1_] (wX8_wrongOf dA ht ht_ring ht_degree ht_voice ht_loud ht_sharp ht_hears ht_tooNear ht_ring_cells ht_ring_places ht_ring_facts t_degree t_ring_lands t_ring_things t_ring_placeCount t_ring_apart t_ring_thereFirst t_ring_facts t_voice t_tooNear t_hears) (wX8_wrongOf dA ht ht_ring ht_degree ht_voice ht_loud ht_sharp ht_hears ht_tooNear ht_ring_cells ht_ring_places ht_ring_facts t_degree t_ring_lands t_ring_things t_ring_placeCount t_ring_apart t_ring_thereFirst t_ring_facts t_voice t_tooNear t_hears) o := by
  intro sz
  refine M_of (cc := cX8_wrongOf) (nL := 2) (ret := (some .int)) (own := RX8) (by decide +kernel) rfl (Nat.le_of_ble_eq_true rfl) ?_
  intro p e s m below meth c ls hsz C hw hl
  subst hsz
  have hR : 1 ≤ (rmm 1 24).frames ∧ 24 ≤ (rmm 1 24).locals ∧ 0 ≤ (rmm 1 24).cells ∧ 0 ≤ (rmm 1 24).slots := ⟨Nat.le_refl _, Nat.le_refl _, Nat.le_refl _, Nat.le_refl _⟩
  have hl : lv_has ls 2 [(0, .ref ht), (1, .int x1_)] := hl
  have hx := C.1
  have hb := C.2.1
  have hml := C.2.2.1
  have hown := C.2.2.2.1
  have hts := C.2.2.2.2.1
  have hK : ∀ (H : Heap) (locs : List Loc) (pc : Nat) (ls : Array Slot), decode cX8_wrongOf pc = .ok (.ireturn, 1) → St D (wX8_wrongOf dA ht ht_ring ht_degree ht_voice ht_loud ht_sharp ht_hears ht_tooNear ht_ring_cells ht_ring_places ht_ring_facts t_degree t_ring_lands t_ring_things t_ring_placeCount t_ring_apart t_ring_thereFirst t_ring_facts t_voice t_tooNear t_hears) s (wX8_wrongOf dA ht ht_ring ht_degree ht_voice ht_loud ht_sharp ht_hears ht_tooNear ht_ring_cells ht_ring_places ht_ring_facts t_degree t_ring_lands t_ring_things t_ring_placeCount t_ring_apart t_ring_thereFirst t_ring_facts t_voice t_tooNear t_hears) H locs → W p l e (rmm 1 24) s m [.ref ht, .int x1_].toArray below meth c H locs 0 0 (MQ below (Qi D (wX8_wrongOf dA ht ht_ring ht_degree ht_voice ht_loud ht_sharp ht_hears ht_tooNear ht_ring_cells ht_ring_places ht_ring_facts t_degree t_ring_lands t_ring_things t_ring_placeCount t_ring_apart t_ring_thereFirst t_ring_facts t_voice t_tooNear t_hears) (wX8_wrongOf dA ht ht_ring ht_degree ht_voice ht_loud ht_sharp ht_hears ht_tooNear ht_ring_cells ht_ring_places ht_ring_facts t_degree t_ring_lands t_ring_things t_ring_placeCount t_ring_apart t_ring_thereFirst t_ring_facts t_voice t_tooNear t_hears) o s.heap.size) [.ref ht, .int x1_].toArray s 0 0 (va_A (wX8_wrongOf dA ht ht_ring ht_degree ht_voice ht_loud ht_sharp ht_hears ht_tooNear ht_ring_cells ht_ring_places ht_ring_facts t_degree t_ring_lands t_ring_things t_ring_placeCount t_ring_apart t_ring_thereFirst t_ring_facts t_voice t_tooNear t_hears) s.heap.size)) (F0 m pc ls [.int o]) := fun H locs pc ls hd hw => k_iret C hw hd
  unfold fX8_wrongOf at hf
  refine lv_aload_n hx hb dX8_wrongOf_0 rfl (lv_at hl 0 rfl) ?_
  refine k_get C hw 0 rfl rfl wiX8 0 (by decide) wfX8_30 rfl dX8_wrongOf_1 ?_
  refine lv_iload_n hx hb dX8_wrongOf_4 rfl (lv_at hl 1 rfl) ?_
  refine lv_aload_n hx hb dX8_wrongOf_5 rfl (lv_at hl 0 rfl) ?_
  refine k_get C hw 0 rfl rfl wiX8 1 (by decide) wfX8_9 rfl dX8_wrongOf_6 ?_
  refine lv_iload_n hx hb dX8_wrongOf_9 rfl (lv_at hl 1 rfl) ?_
  obtain ⟨g1, hf⟩ := gdi_r hf
  refine k_iald C hw 1 rfl g1 dX8_wrongOf_10 ?_
  obtain ⟨o2, ho2, hf⟩ := bind_r hf
  refine k_callVi C hw (n := 2) (As := [.int x1_, .int (t_degree x1_.toNatClampNeg)]) (w1 := (wX8_wrongOf dA ht ht_ring ht_degree ht_voice ht_loud ht_sharp ht_hears ht_tooNear ht_ring_cells ht_ring_places ht_ring_facts t_degree t_ring_lands t_ring_things t_ring_placeCount t_ring_apart t_ring_thereFirst t_ring_facts t_voice t_tooNear t_hears)) (wr := [(ht, .inr (8, [.ref ht_ring, .ref ht_degree, .ref ht_voice, .ref ht_loud, .ref ht_sharp, .ref ht_hears, .ref ht_tooNear])), (ht_degree, .inl (dA 0, 16, .inl t_degree)), (ht_voice, .inl (dA 0, 16, .inl t_voice)), (ht_tooNear, .inl (dA 0, 16, .inl t_tooNear)), (ht_hears, .inl (dA 0, 16, .inl t_hears))]) [2, 3] [0, 1, 4, 5, 6] [0, 1, 5, 6, 2, 3, 4] rfl rfl (by decide) (by decide) (by decide) rfl (by decide) (qX5_isInArc l D dA ht_ring ht_ring_cells ht_ring_places ht_ring_facts t_ring_lands t_ring_things t_ring_placeCount t_ring_apart t_ring_thereFirst t_ring_facts x1_ (t_degree x1_.toNatClampNeg) _ ho2) wlX8_87 wmX5_isInArc wvX5_isInArc wnX5 wcX5_isInArc rfl (by decide +kernel) ⟨Nat.le_trans (by decide) hR.1, Nat.le_trans (by decide) hR.2.1⟩ hR.2.2 rfl 0 rfl rfl hl.1 (Nat.le_of_ble_eq_true rfl) dX8_wrongOf_11 rfl (fun H locs hw => ?_)
  refine lv_if_ne (tgt := 19) hx hb dX8_wrongOf_14 (by decide) (fun c3 => ?_) (fun c3 => ?_)
  · have hf := ite_f c3 hf
    refine lv_aload_n hx hb dX8_wrongOf_19 rfl (lv_at hl 0 rfl) ?_
    refine k_get C hw 0 rfl rfl wiX8 0 (by decide) wfX8_30 rfl dX8_wrongOf_20 ?_
    refine lv_iload_n hx hb dX8_wrongOf_23 rfl (lv_at hl 1 rfl) ?_
    refine lv_aload_n hx hb dX8_wrongOf_24 rfl (lv_at hl 0 rfl) ?_
    refine k_get C hw 0 rfl rfl wiX8 2 (by decide) wfX8_15 rfl dX8_wrongOf_25 ?_
    refine lv_iload_n hx hb dX8_wrongOf_28 rfl (lv_at hl 1 rfl) ?_
    obtain ⟨g4, hf⟩ := gdi_r hf
    refine k_iald C hw 4 rfl g4 dX8_wrongOf_29 ?_
    obtain ⟨o5, ho5, hf⟩ := bind_r hf
    refine k_callVi C hw (n := 2) (As := [.int x1_, .int (t_voice x1_.toNatClampNeg)]) (w1 := (wX8_wrongOf dA ht ht_ring ht_degree ht_voice ht_loud ht_sharp ht_hears ht_tooNear ht_ring_cells ht_ring_places ht_ring_facts t_degree t_ring_lands t_ring_things t_ring_placeCount t_ring_apart t_ring_thereFirst t_ring_facts t_voice t_tooNear t_hears)) (wr := [(ht, .inr (8, [.ref ht_ring, .ref ht_degree, .ref ht_voice, .ref ht_loud, .ref ht_sharp, .ref ht_hears, .ref ht_tooNear])), (ht_degree, .inl (dA 0, 16, .inl t_degree)), (ht_voice, .inl (dA 0, 16, .inl t_voice)), (ht_tooNear, .inl (dA 0, 16, .inl t_tooNear)), (ht_hears, .inl (dA 0, 16, .inl t_hears))]) [2, 3] [0, 1, 4, 5, 6] [0, 1, 5, 6, 2, 3, 4] rfl rfl (by decide) (by decide) (by decide) rfl (by decide) (qX5_hasVoice l D dA ht_ring ht_ring_cells ht_ring_places ht_ring_facts t_ring_lands t_ring_things t_ring_placeCount t_ring_apart t_ring_thereFirst t_ring_facts x1_ (t_voice x1_.toNatClampNeg) _ ho5) wlX8_90 wmX5_hasVoice wvX5_hasVoice wnX5 wcX5_hasVoice rfl (by decide +kernel) ⟨Nat.le_trans (by decide) hR.1, Nat.le_trans (by decide) hR.2.1⟩ hR.2.2 rfl 0 rfl rfl hl.1 (Nat.le_of_ble_eq_true rfl) dX8_wrongOf_30 rfl (fun H locs hw => ?_)
    refine lv_if_ne (tgt := 38) hx hb dX8_wrongOf_33 (by decide) (fun c6 => ?_) (fun c6 => ?_)
    · have hf := ite_f c6 hf
      refine lv_aload_n hx hb dX8_wrongOf_38 rfl (lv_at hl 0 rfl) ?_
      refine k_get C hw 0 rfl rfl wiX8 6 (by decide) wfX8_27 rfl dX8_wrongOf_39 ?_
      refine lv_iload_n hx hb dX8_wrongOf_42 rfl (lv_at hl 1 rfl) ?_
      obtain ⟨g7, hf⟩ := gdi_r hf
      refine k_iald C hw 5 rfl g7 dX8_wrongOf_43 ?_
      refine lv_if_le (tgt := 49) hx hb dX8_wrongOf_44 (by decide) (fun c8 => ?_) (fun c8 => ?_)
      · have hf := ite_t c8 hf
        refine lv_aload_n hx hb dX8_wrongOf_49 rfl (lv_at hl 0 rfl) ?_
        refine k_get C hw 0 rfl rfl wiX8 5 (by decide) wfX8_24 rfl dX8_wrongOf_50 ?_
        refine lv_iload_n hx hb dX8_wrongOf_53 rfl (lv_at hl 1 rfl) ?_
        obtain ⟨g9, hf⟩ := gdi_r hf
        refine k_iald C hw 6 rfl g9 dX8_wrongOf_54 ?_
        refine lv_aload_n hx hb dX8_wrongOf_55 rfl (lv_at hl 0 rfl) ?_
        refine k_get C hw 0 rfl rfl wiX8 0 (by decide) wfX8_30 rfl dX8_wrongOf_56 ?_
        refine lv_iload_n hx hb dX8_wrongOf_59 rfl (lv_at hl 1 rfl) ?_
        refine lv_bipush (v := (6 : Int32)) hx hb dX8_wrongOf_60 (by decide) ?_
        obtain ⟨o10, ho10, hf⟩ := bind_r hf
        refine k_callVi C hw (n := 2) (As := [.int x1_, .int (6 : Int32)]) (w1 := (wX8_wrongOf dA ht ht_ring ht_degree ht_voice ht_loud ht_sharp ht_hears ht_tooNear ht_ring_cells ht_ring_places ht_ring_facts t_degree t_ring_lands t_ring_things t_ring_placeCount t_ring_apart t_ring_thereFirst t_ring_facts t_voice t_tooNear t_hears)) (wr := [(ht, .inr (8, [.ref ht_ring, .ref ht_degree, .ref ht_voice, .ref ht_loud, .ref ht_sharp, .ref ht_hears, .ref ht_tooNear])), (ht_degree, .inl (dA 0, 16, .inl t_degree)), (ht_voice, .inl (dA 0, 16, .inl t_voice)), (ht_tooNear, .inl (dA 0, 16, .inl t_tooNear)), (ht_hears, .inl (dA 0, 16, .inl t_hears))]) [2, 3] [0, 1, 4, 5, 6] [0, 1, 5, 6, 2, 3, 4] rfl rfl (by decide) (by decide) (by decide) rfl (by decide) (qX5_told l D dA ht_ring ht_ring_cells ht_ring_places ht_ring_facts t_ring_lands t_ring_things t_ring_placeCount t_ring_apart t_ring_thereFirst t_ring_facts x1_ (6 : Int32) _ ho10) wlX8_34 wmX5_told wvX5_told wnX5 wcX5_told rfl (by decide +kernel) ⟨Nat.le_trans (by decide) hR.1, Nat.le_trans (by decide) hR.2.1⟩ hR.2.2 rfl 0 rfl rfl hl.1 (Nat.le_of_ble_eq_true rfl) dX8_wrongOf_62 rfl (fun H locs hw => ?_)
        refine lv_icmp_le (tgt := 72) hx hb dX8_wrongOf_65 (by decide) (fun c11 => ?_) (fun c11 => ?_)
        · have hf := ite_t c11 hf
          refine lv_iconst (v := (0 : Int32)) hx hb dX8_wrongOf_72 (by decide) ?_
          obtain rfl := some_r hf
          exact hK _ _ _ _ dX8_wrongOf_73 hw
        · have hf := ite_f c11 hf
          refine lv_iconst (v := (4 : Int32)) hx hb dX8_wrongOf_68 (by decide) ?_
          refine lv_goto (tgt := 73) hx hb dX8_wrongOf_69 (by decide) ?_
          obtain rfl := some_r hf
          exact hK _ _ _ _ dX8_wrongOf_73 hw
      · have hf := ite_f c8 hf
        refine lv_iconst (v := (3 : Int32)) hx hb dX8_wrongOf_47 (by decide) ?_
        obtain rfl := some_r hf
        exact hK _ _ _ _ dX8_wrongOf_48 hw
    · have hf := ite_t c6 hf
      refine lv_iconst (v := (2 : Int32)) hx hb dX8_wrongOf_36 (by decide) ?_
      obtain rfl := some_r hf
      exact hK _ _ _ _ dX8_wrongOf_37 hw
  · have hf := ite_t c3 hf
    refine lv_iconst (v := (1 : Int32)) hx hb dX8_wrongOf_17 (by decide) ?_
    obtain rfl := some_r hf
    exact hK _ _ _ _ dX8_wrongOf_18 hw

/-! RingPlaces$Standing.firstWrong()I -/
abbrev wX8_firstWrong (dA : Nat → ClassId) (ht ht_ring ht_degree ht_voice ht_loud ht_sharp ht_hears ht_tooNear ht_ring_cells ht_ring_places ht_ring_facts : Nat) (t_ring_lands : Int32) (t_ring_things : Int32) (t_ring_placeCount : Int32) (t_ring_apart : Int32) (t_ring_thereFirst : Int32) (t_degree : (Nat → Int32)) (t_ring_facts : (Nat → Int32)) (t_voice : (Nat → Int32)) (t_tooNear : (Nat → Int32)) (t_hears : (Nat → Int32)) : va_W := [(ht, .inr (8, [.ref ht_ring, .ref ht_degree, .ref ht_voice, .ref ht_loud, .ref ht_sharp, .ref ht_hears, .ref ht_tooNear])), (ht_ring, .inr (5, [.ref ht_ring_cells, .ref ht_ring_places, .int t_ring_lands, .int t_ring_things, .int t_ring_placeCount, .int t_ring_apart, .int t_ring_thereFirst, .ref ht_ring_facts])), (ht_degree, .inl (dA 0, 16, .inl t_degree)), (ht_ring_facts, .inl (dA 0, 224, .inl t_ring_facts)), (ht_voice, .inl (dA 0, 16, .inl t_voice)), (ht_tooNear, .inl (dA 0, 16, .inl t_tooNear)), (ht_hears, .inl (dA 0, 16, .inl t_hears))]
def fX8_firstWrong_l2b (N : Nat) (t_ring_things : Int32) (t_degree : (Nat → Int32)) (t_ring_facts : (Nat → Int32)) (t_voice : (Nat → Int32)) (t_tooNear : (Nat → Int32)) (t_hears : (Nat → Int32)) (v1 : Int32) : Option ((Int32) ⊕ ((Unit) ⊕ (Int32))) := (if t_ring_things ≤ v1 then some (.inr (.inl ())) else (fX8_isLiving t_degree t_ring_facts v1).bind fun o2 => (if o2 = 0 then bnd (v1 + (1 : Int32)) fun x4 => some (.inl x4) else (fX8_wrongOf t_degree t_ring_facts t_voice t_tooNear t_hears v1).bind fun o5 => (if o5 = 0 then bnd (v1 + (1 : Int32)) fun x7 => some (.inl x7) else some (.inr (.inr v1)))))
def fX8_firstWrong (N : Nat) (t_ring_things : Int32) (t_degree : (Nat → Int32)) (t_ring_facts : (Nat → Int32)) (t_voice : (Nat → Int32)) (t_tooNear : (Nat → Int32)) (t_hears : (Nat → Int32))  : Option (Int32) := (itr (fun z => fX8_firstWrong_l2b N t_ring_things t_degree t_ring_facts t_voice t_tooNear t_hears z) N (0 : Int32)).bind fun q8 => Sum.elim (fun q8 => some (-1 : Int32)) (fun q8 => some q8) q8
set_option maxHeartbeats 4000000 in
set_option maxRecDepth 100000 in
theorem tX8_firstWrong_l2b {p : Program} {l : Launch} {e : Env} {R : Room} {s : State} {m : MethodId} {args : Array Value} {below : List Frame} {meth : Method} {c : Code} {D : va_G} {dA : Nat → ClassId} {w0 : va_W} {Q : State → Prop} {H : Heap} {locs : List Loc} {ls : Array Slot} {cells slots : Nat} (C : CX p s m args meth c cX8_firstWrong 2 (some .int) RX8 D dA) (ht ht_ring ht_degree ht_voice ht_loud ht_sharp ht_hears ht_tooNear ht_ring_cells ht_ring_places ht_ring_facts : Nat) (hR : 2 ≤ R.frames ∧ 45 ≤ R.locals ∧ cells ≤ R.cells ∧ slots ≤ R.slots)  (t_ring_lands : Int32) (t_ring_things : Int32) (t_ring_placeCount : Int32) (t_ring_apart : Int32) (t_ring_thereFirst : Int32) (t_degree : (Nat → Int32)) (t_ring_facts : (Nat → Int32)) (t_voice : (Nat → Int32)) (t_tooNear : (Nat → Int32)) (t_hears : (Nat → Int32)) (v1 : Int32) (N : Nat) (res : ((Int32) ⊕ ((Unit) ⊕ (Int32)))) (hf : fX8_firstWrong_l2b N t_ring_things t_degree t_ring_facts t_voice t_tooNear t_hears v1 = some res) (hK : Sum.elim (fun z => (∀ (H : Heap) (locs : List Loc) (ls : Array Slot), lv_has ls 2 [(0, .ref ht), (1, .int z)] → St D w0 s (wX8_firstWrong dA ht ht_ring ht_degree ht_voice ht_loud ht_sharp ht_hears ht_tooNear ht_ring_cells ht_ring_places ht_ring_facts t_ring_lands t_ring_things t_ring_placeCount t_ring_apart t_ring_thereFirst t_degree t_ring_facts t_voice t_tooNear t_hears) H locs → W p l e R s m args below meth c H locs cells slots Q (F0 m 2 ls []))) (fun r => Sum.elim (fun q => (∀ (H : Heap) (locs : List Loc) (ls : Array Slot), lv_has ls 2 [] → St D w0 s (wX8_firstWrong dA ht ht_ring ht_degree ht_voice ht_loud ht_sharp ht_hears ht_tooNear ht_ring_cells ht_ring_places ht_ring_facts t_ring_lands t_ring_things t_ring_placeCount t_ring_apart t_ring_thereFirst t_degree t_ring_facts t_voice t_tooNear t_hears) H locs → W p l e R s m args below meth c H locs cells slots Q (F0 m 37 ls []))) (fun o => (∀ (H : Heap) (locs : List Loc) (pc : Nat) (ls : Array Slot), decode cX8_firstWrong pc = .ok (.ireturn, 1) → St D w0 s (wX8_firstWrong dA ht ht_ring ht_degree ht_voice ht_loud ht_sharp ht_hears ht_tooNear ht_ring_cells ht_ring_places ht_ring_facts t_ring_lands t_ring_things t_ring_placeCount t_ring_apart t_ring_thereFirst t_degree t_ring_facts t_voice t_tooNear t_hears) H locs → W p l e R s m args below meth c H locs cells slots Q (F0 m pc ls [.int o]))) r) res) (hl : lv_has ls 2 [(0, .ref ht), (1, .int v1)]) (hw : St D w0 s (wX8_firstWrong dA ht ht_ring ht_degree ht_voice ht_loud ht_sharp ht_hears ht_tooNear ht_ring_cells ht_ring_places ht_ring_facts t_ring_lands t_ring_things t_ring_placeCount t_ring_apart t_ring_thereFirst t_degree t_ring_facts t_voice t_tooNear t_hears) H locs) : W p l e R s m args below meth c H locs cells slots Q (F0 m 2 ls []) := by
  have hx := C.1
  have hb := C.2.1
  have hml := C.2.2.1
  have hown := C.2.2.2.1
  have hts := C.2.2.2.2.1
  unfold fX8_firstWrong_l2b at hf
  refine lv_iload_n hx hb dX8_firstWrong_2 rfl (lv_at hl 1 rfl) ?_
  refine lv_aload_n hx hb dX8_firstWrong_3 rfl (lv_at hl 0 rfl) ?_
  refine k_get C hw 0 rfl rfl wiX8 0 (by decide) wfX8_30 rfl dX8_firstWrong_4 ?_
  refine k_get C hw 1 rfl rfl wiX5 3 (by decide) wfX8_50 rfl dX8_firstWrong_7 ?_
  refine lv_icmp_ge (tgt := 37) hx hb dX8_firstWrong_10 (by decide) (fun c1 => ?_) (fun c1 => ?_)
  · have hf := ite_t c1 hf
    obtain rfl := some_r hf
    exact hK _ _ _ (lv_sub hl [] rfl) hw
  · have hf := ite_f c1 hf
    refine lv_aload_n hx hb dX8_firstWrong_13 rfl (lv_at hl 0 rfl) ?_
    refine lv_iload_n hx hb dX8_firstWrong_14 rfl (lv_at hl 1 rfl) ?_
    obtain ⟨o2, ho2, hf⟩ := bind_r hf
    refine k_callVi C hw (n := 1) (As := [.int v1]) (w1 := (wX8_firstWrong dA ht ht_ring ht_degree ht_voice ht_loud ht_sharp ht_hears ht_tooNear ht_ring_cells ht_ring_places ht_ring_facts t_ring_lands t_ring_things t_ring_placeCount t_ring_apart t_ring_thereFirst t_degree t_ring_facts t_voice t_tooNear t_hears)) (wr := [(ht_voice, .inl (dA 0, 16, .inl t_voice)), (ht_tooNear, .inl (dA 0, 16, .inl t_tooNear)), (ht_hears, .inl (dA 0, 16, .inl t_hears))]) [0, 2, 1, 3] [4, 5, 6] [3, 5, 4, 6, 0, 1, 2] rfl rfl (by decide) (by decide) (by decide) rfl (by decide) (qX8_isLiving l D dA ht ht_ring ht_degree ht_voice ht_loud ht_sharp ht_hears ht_tooNear ht_ring_cells ht_ring_places ht_ring_facts t_degree t_ring_lands t_ring_things t_ring_placeCount t_ring_apart t_ring_thereFirst t_ring_facts v1 _ ho2) wlX8_93 wmX8_isLiving wvX8_isLiving wnX8 wcX8_isLiving rfl (by decide +kernel) ⟨Nat.le_trans (by decide) hR.1, Nat.le_trans (by decide) hR.2.1⟩ hR.2.2 rfl 0 rfl rfl hl.1 (Nat.le_of_ble_eq_true rfl) dX8_firstWrong_15 rfl (fun H locs hw => ?_)
    refine lv_if_eq (tgt := 31) hx hb dX8_firstWrong_18 (by decide) (fun c3 => ?_) (fun c3 => ?_)
    · have hf := ite_t c3 hf
      obtain ⟨x4, ex4⟩ : ∃ y : Int32, y = v1 + (1 : Int32) := ⟨_, rfl⟩
      have hf := bnd_r ex4 hf
      refine lv_iinc (v := x4) (lv' := [(1, .int x4), (0, .ref ht)]) hx hb dX8_firstWrong_31 hl (k := 1) rfl (by rw [ex4]; rfl) (by decide) rfl (fun ls hl => ?_)
      refine lv_goto (tgt := 2) hx hb dX8_firstWrong_34 (by decide) ?_
      obtain rfl := some_r hf
      exact hK _ _ _ (lv_sub hl [1, 0] rfl) hw
    · have hf := ite_f c3 hf
      refine lv_aload_n hx hb dX8_firstWrong_21 rfl (lv_at hl 0 rfl) ?_
      refine lv_iload_n hx hb dX8_firstWrong_22 rfl (lv_at hl 1 rfl) ?_
      obtain ⟨o5, ho5, hf⟩ := bind_r hf
      refine k_callVi C hw (n := 1) (As := [.int v1]) (w1 := (wX8_firstWrong dA ht ht_ring ht_degree ht_voice ht_loud ht_sharp ht_hears ht_tooNear ht_ring_cells ht_ring_places ht_ring_facts t_ring_lands t_ring_things t_ring_placeCount t_ring_apart t_ring_thereFirst t_degree t_ring_facts t_voice t_tooNear t_hears)) (wr := []) [0, 2, 1, 3, 4, 5, 6] [] [0, 2, 1, 3, 4, 5, 6] rfl rfl (by decide) (by decide) (by decide) rfl (by decide) (qX8_wrongOf l D dA ht ht_ring ht_degree ht_voice ht_loud ht_sharp ht_hears ht_tooNear ht_ring_cells ht_ring_places ht_ring_facts t_degree t_ring_lands t_ring_things t_ring_placeCount t_ring_apart t_ring_thereFirst t_ring_facts t_voice t_tooNear t_hears v1 _ ho5) wlX8_96 wmX8_wrongOf wvX8_wrongOf wnX8 wcX8_wrongOf rfl (by decide +kernel) ⟨Nat.le_trans (by decide) hR.1, Nat.le_trans (by decide) hR.2.1⟩ hR.2.2 rfl 0 rfl rfl hl.1 (Nat.le_of_ble_eq_true rfl) dX8_firstWrong_23 rfl (fun H locs hw => ?_)
      refine lv_if_eq (tgt := 31) hx hb dX8_firstWrong_26 (by decide) (fun c6 => ?_) (fun c6 => ?_)
      · have hf := ite_t c6 hf
        obtain ⟨x7, ex7⟩ : ∃ y : Int32, y = v1 + (1 : Int32) := ⟨_, rfl⟩
        have hf := bnd_r ex7 hf
        refine lv_iinc (v := x7) (lv' := [(1, .int x7), (0, .ref ht)]) hx hb dX8_firstWrong_31 hl (k := 1) rfl (by rw [ex7]; rfl) (by decide) rfl (fun ls hl => ?_)
        refine lv_goto (tgt := 2) hx hb dX8_firstWrong_34 (by decide) ?_
        obtain rfl := some_r hf
        exact hK _ _ _ (lv_sub hl [1, 0] rfl) hw
      · have hf := ite_f c6 hf
        refine lv_iload_n hx hb dX8_firstWrong_29 rfl (lv_at hl 1 rfl) ?_
        obtain rfl := some_r hf
        exact hK _ _ _ _ dX8_firstWrong_30 hw
set_option maxHeartbeats 4000000 in
theorem tX8_firstWrong_l2 {p : Program} {l : Launch} {e : Env} {R : Room} {s : State} {m : MethodId} {args : Array Value} {below : List Frame} {meth : Method} {c : Code} {D : va_G} {dA : Nat → ClassId} {w0 : va_W} {Q : State → Prop} {H : Heap} {locs : List Loc} {ls : Array Slot} {cells slots : Nat} (C : CX p s m args meth c cX8_firstWrong 2 (some .int) RX8 D dA) (ht ht_ring ht_degree ht_voice ht_loud ht_sharp ht_hears ht_tooNear ht_ring_cells ht_ring_places ht_ring_facts : Nat) (hR : 2 ≤ R.frames ∧ 45 ≤ R.locals ∧ cells ≤ R.cells ∧ slots ≤ R.slots)  (t_ring_lands : Int32) (t_ring_things : Int32) (t_ring_placeCount : Int32) (t_ring_apart : Int32) (t_ring_thereFirst : Int32) (t_degree : (Nat → Int32)) (t_ring_facts : (Nat → Int32)) (t_voice : (Nat → Int32)) (t_tooNear : (Nat → Int32)) (t_hears : (Nat → Int32)) (v1 : Int32) (N n : Nat) (res : ((Unit) ⊕ (Int32))) (hf : itr (fun z => fX8_firstWrong_l2b N t_ring_things t_degree t_ring_facts t_voice t_tooNear t_hears z) n v1 = some res) (hK : Sum.elim (fun q => (∀ (H : Heap) (locs : List Loc) (ls : Array Slot), lv_has ls 2 [] → St D w0 s (wX8_firstWrong dA ht ht_ring ht_degree ht_voice ht_loud ht_sharp ht_hears ht_tooNear ht_ring_cells ht_ring_places ht_ring_facts t_ring_lands t_ring_things t_ring_placeCount t_ring_apart t_ring_thereFirst t_degree t_ring_facts t_voice t_tooNear t_hears) H locs → W p l e R s m args below meth c H locs cells slots Q (F0 m 37 ls []))) (fun o => (∀ (H : Heap) (locs : List Loc) (pc : Nat) (ls : Array Slot), decode cX8_firstWrong pc = .ok (.ireturn, 1) → St D w0 s (wX8_firstWrong dA ht ht_ring ht_degree ht_voice ht_loud ht_sharp ht_hears ht_tooNear ht_ring_cells ht_ring_places ht_ring_facts t_ring_lands t_ring_things t_ring_placeCount t_ring_apart t_ring_thereFirst t_degree t_ring_facts t_voice t_tooNear t_hears) H locs → W p l e R s m args below meth c H locs cells slots Q (F0 m pc ls [.int o]))) res) (hl : lv_has ls 2 [(0, .ref ht), (1, .int v1)]) (hw : St D w0 s (wX8_firstWrong dA ht ht_ring ht_degree ht_voice ht_loud ht_sharp ht_hears ht_tooNear ht_ring_cells ht_ring_places ht_ring_facts t_ring_lands t_ring_things t_ring_placeCount t_ring_apart t_ring_thereFirst t_degree t_ring_facts t_voice t_tooNear t_hears) H locs) : W p l e R s m args below meth c H locs cells slots Q (F0 m 2 ls []) :=
  itr_W (P := fun (z : (Int32)) => (∀ (H : Heap) (locs : List Loc) (ls : Array Slot), lv_has ls 2 [(0, .ref ht), (1, .int z)] → St D w0 s (wX8_firstWrong dA ht ht_ring ht_degree ht_voice ht_loud ht_sharp ht_hears ht_tooNear ht_ring_cells ht_ring_places ht_ring_facts t_ring_lands t_ring_things t_ring_placeCount t_ring_apart t_ring_thereFirst t_degree t_ring_facts t_voice t_tooNear t_hears) H locs → W p l e R s m args below meth c H locs cells slots Q (F0 m 2 ls []))) (K := fun res => Sum.elim (fun q => (∀ (H : Heap) (locs : List Loc) (ls : Array Slot), lv_has ls 2 [] → St D w0 s (wX8_firstWrong dA ht ht_ring ht_degree ht_voice ht_loud ht_sharp ht_hears ht_tooNear ht_ring_cells ht_ring_places ht_ring_facts t_ring_lands t_ring_things t_ring_placeCount t_ring_apart t_ring_thereFirst t_degree t_ring_facts t_voice t_tooNear t_hears) H locs → W p l e R s m args below meth c H locs cells slots Q (F0 m 37 ls []))) (fun o => (∀ (H : Heap) (locs : List Loc) (pc : Nat) (ls : Array Slot), decode cX8_firstWrong pc = .ok (.ireturn, 1) → St D w0 s (wX8_firstWrong dA ht ht_ring ht_degree ht_voice ht_loud ht_sharp ht_hears ht_tooNear ht_ring_cells ht_ring_places ht_ring_facts t_ring_lands t_ring_things t_ring_placeCount t_ring_apart t_ring_thereFirst t_degree t_ring_facts t_voice t_tooNear t_hears) H locs → W p l e R s m args below meth c H locs cells slots Q (F0 m pc ls [.int o]))) res) (fun z r hf hK H locs ls hl hw => tX8_firstWrong_l2b C ht ht_ring ht_degree ht_voice ht_loud ht_sharp ht_hears ht_tooNear ht_ring_cells ht_ring_places ht_ring_facts hR t_ring_lands t_ring_things t_ring_placeCount t_ring_apart t_ring_thereFirst t_degree t_ring_facts t_voice t_tooNear t_hears z N r hf (by cases r with
    | inl r => exact hK
    | inr r => exact hK) hl hw) n _ res hf hK H locs ls hl hw
set_option maxHeartbeats 4000000 in
set_option maxRecDepth 100000 in
theorem qX8_firstWrong (l : Launch) (D : va_G) (dA : Nat → ClassId) (ht ht_ring ht_degree ht_voice ht_loud ht_sharp ht_hears ht_tooNear ht_ring_cells ht_ring_places ht_ring_facts : Nat) (t_ring_lands : Int32) (t_ring_things : Int32) (t_ring_placeCount : Int32) (t_ring_apart : Int32) (t_ring_thereFirst : Int32) (t_degree : (Nat → Int32)) (t_ring_facts : (Nat → Int32)) (t_voice : (Nat → Int32)) (t_tooNear : (Nat → Int32)) (t_hears : (Nat → Int32))  (N : Nat) (o : Int32) (hf : fX8_firstWrong N t_ring_things t_degree t_ring_facts t_voice t_tooNear t_hears = some o) : Mi l D dA yX8_firstWrong (Cond.code yX8_firstWrong cX8_firstWrong 2 (some .int) :: wA) 2 45 [.ref ht] (wX8_firstWrong dA ht ht_ring ht_degree ht_voice ht_loud ht_sharp ht_hears ht_tooNear ht_ring_cells ht_ring_places ht_ring_facts t_ring_lands t_ring_things t_ring_placeCount t_ring_apart t_ring_thereFirst t_degree t_ring_facts t_voice t_tooNear t_hears) (wX8_firstWrong dA ht ht_ring ht_degree ht_voice ht_loud ht_sharp ht_hears ht_tooNear ht_ring_cells ht_ring_places ht_ring_facts t_ring_lands t_ring_things t_ring_placeCount t_ring_apart t_ring_thereFirst t_degree t_ring_facts t_voice t_tooNear t_hears) o := by
  intro sz
  refine M_of (cc := cX8_firstWrong) (nL := 2) (ret := (some .int)) (own := RX8) (by decide +kernel) rfl (Nat.le_of_ble_eq_true rfl) ?_
  intro p e s m below meth c ls hsz C hw hl
  subst hsz
  have hR : 2 ≤ (rmm 2 45).frames ∧ 45 ≤ (rmm 2 45).locals ∧ 0 ≤ (rmm 2 45).cells ∧ 0 ≤ (rmm 2 45).slots := ⟨Nat.le_refl _, Nat.le_refl _, Nat.le_refl _, Nat.le_refl _⟩
  have hl : lv_has ls 2 [(0, .ref ht)] := hl
  have hx := C.1
  have hb := C.2.1
  have hml := C.2.2.1
  have hown := C.2.2.2.1
  have hts := C.2.2.2.2.1
  have hK : ∀ (H : Heap) (locs : List Loc) (pc : Nat) (ls : Array Slot), decode cX8_firstWrong pc = .ok (.ireturn, 1) → St D (wX8_firstWrong dA ht ht_ring ht_degree ht_voice ht_loud ht_sharp ht_hears ht_tooNear ht_ring_cells ht_ring_places ht_ring_facts t_ring_lands t_ring_things t_ring_placeCount t_ring_apart t_ring_thereFirst t_degree t_ring_facts t_voice t_tooNear t_hears) s (wX8_firstWrong dA ht ht_ring ht_degree ht_voice ht_loud ht_sharp ht_hears ht_tooNear ht_ring_cells ht_ring_places ht_ring_facts t_ring_lands t_ring_things t_ring_placeCount t_ring_apart t_ring_thereFirst t_degree t_ring_facts t_voice t_tooNear t_hears) H locs → W p l e (rmm 2 45) s m [.ref ht].toArray below meth c H locs 0 0 (MQ below (Qi D (wX8_firstWrong dA ht ht_ring ht_degree ht_voice ht_loud ht_sharp ht_hears ht_tooNear ht_ring_cells ht_ring_places ht_ring_facts t_ring_lands t_ring_things t_ring_placeCount t_ring_apart t_ring_thereFirst t_degree t_ring_facts t_voice t_tooNear t_hears) (wX8_firstWrong dA ht ht_ring ht_degree ht_voice ht_loud ht_sharp ht_hears ht_tooNear ht_ring_cells ht_ring_places ht_ring_facts t_ring_lands t_ring_things t_ring_placeCount t_ring_apart t_ring_thereFirst t_degree t_ring_facts t_voice t_tooNear t_hears) o s.heap.size) [.ref ht].toArray s 0 0 (va_A (wX8_firstWrong dA ht ht_ring ht_degree ht_voice ht_loud ht_sharp ht_hears ht_tooNear ht_ring_cells ht_ring_places ht_ring_facts t_ring_lands t_ring_things t_ring_placeCount t_ring_apart t_ring_thereFirst t_degree t_ring_facts t_voice t_tooNear t_hears) s.heap.size)) (F0 m pc ls [.int o]) := fun H locs pc ls hd hw => k_iret C hw hd
  unfold fX8_firstWrong at hf
  refine lv_iconst (v := (0 : Int32)) hx hb dX8_firstWrong_0 (by decide) ?_
  refine lv_istore_n (lv' := [(1, .int (0 : Int32)), (0, .ref ht)]) hx hb dX8_firstWrong_1 rfl hl (by decide) rfl (fun ls hl => ?_)
  obtain ⟨q8, hq8, hf⟩ := bind_r hf
  cases q8 with
  | inl q8 =>
    refine tX8_firstWrong_l2 C ht ht_ring ht_degree ht_voice ht_loud ht_sharp ht_hears ht_tooNear ht_ring_cells ht_ring_places ht_ring_facts hR t_ring_lands t_ring_things t_ring_placeCount t_ring_apart t_ring_thereFirst t_degree t_ring_facts t_voice t_tooNear t_hears (0 : Int32) N _ _ hq8 ?_ (lv_sub hl [1, 0] rfl) hw
    have hf := elim_l hf
    intro H locs ls hl hw
    refine lv_iconst (v := (-1 : Int32)) hx hb dX8_firstWrong_37 (by decide) ?_
    obtain rfl := some_r hf
    exact hK _ _ _ _ dX8_firstWrong_38 hw
  | inr q8 =>
    refine tX8_firstWrong_l2 C ht ht_ring ht_degree ht_voice ht_loud ht_sharp ht_hears ht_tooNear ht_ring_cells ht_ring_places ht_ring_facts hR t_ring_lands t_ring_things t_ring_placeCount t_ring_apart t_ring_thereFirst t_degree t_ring_facts t_voice t_tooNear t_hears (0 : Int32) N _ _ hq8 ?_ (lv_sub hl [1, 0] rfl) hw
    have hf := elim_r hf
    obtain rfl := some_r hf
    exact hK

/-! RingPlaces$Standing.isMetAt(III)Z -/
abbrev wX8_isMetAt (dA : Nat → ClassId) (ht ht_ring ht_degree ht_voice ht_loud ht_sharp ht_hears ht_tooNear ht_ring_cells ht_ring_places ht_ring_facts : Nat) (t_ring_lands : Int32) (t_ring_things : Int32) (t_ring_placeCount : Int32) (t_ring_apart : Int32) (t_ring_thereFirst : Int32) (t_degree : (Nat → Int32)) (t_ring_facts : (Nat → Int32)) (t_voice : (Nat → Int32)) (t_ring_cells : (Nat → Int64)) : va_W := [(ht, .inr (8, [.ref ht_ring, .ref ht_degree, .ref ht_voice, .ref ht_loud, .ref ht_sharp, .ref ht_hears, .ref ht_tooNear])), (ht_ring, .inr (5, [.ref ht_ring_cells, .ref ht_ring_places, .int t_ring_lands, .int t_ring_things, .int t_ring_placeCount, .int t_ring_apart, .int t_ring_thereFirst, .ref ht_ring_facts])), (ht_degree, .inl (dA 0, 16, .inl t_degree)), (ht_ring_facts, .inl (dA 0, 224, .inl t_ring_facts)), (ht_voice, .inl (dA 0, 16, .inl t_voice)), (ht_ring_cells, .inl (dA 1, 16, .inr (.inl t_ring_cells)))]
def fX8_isMetAt_l3b (N : Nat) (t_ring_things : Int32) (t_ring_apart : Int32) (t_degree : (Nat → Int32)) (t_ring_facts : (Nat → Int32)) (t_voice : (Nat → Int32)) (t_ring_cells : (Nat → Int64)) (v1 : Int32) (v2 : Int32) (v3 : Int32) (v4 : Int32) : Option ((Int32) ⊕ ((Unit) ⊕ (Int32))) := (if t_ring_things ≤ v4 then some (.inr (.inl ())) else (fX8_isLiving t_degree t_ring_facts v4).bind fun o2 => (if o2 = 0 then bnd (v4 + (1 : Int32)) fun x4 => some (.inl x4) else gdi v4 16 ((if (t_voice v4.toNatClampNeg) = v3 then (fX5_shareCell t_ring_cells v1 v4).bind fun o8 => (if o8 = 0 then bnd (v4 + (1 : Int32)) fun x10 => some (.inl x10) else gdi v4 16 ((fX11_gapBetween N  v2 (t_degree v4.toNatClampNeg)).bind fun o12 => (if t_ring_apart ≤ o12 then bnd (v4 + (1 : Int32)) fun x14 => some (.inl x14) else some (.inr (.inr (1 : Int32)))))) else bnd (v4 + (1 : Int32)) fun x7 => some (.inl x7)))))
def fX8_isMetAt (N : Nat) (t_ring_things : Int32) (t_ring_apart : Int32) (t_degree : (Nat → Int32)) (t_ring_facts : (Nat → Int32)) (t_voice : (Nat → Int32)) (t_ring_cells : (Nat → Int64)) (x1_ : Int32) (x2_ : Int32) (x3_ : Int32) : Option (Int32) := (itr (fun z => fX8_isMetAt_l3b N t_ring_things t_ring_apart t_degree t_ring_facts t_voice t_ring_cells x1_ x2_ x3_ z) N (0 : Int32)).bind fun q15 => Sum.elim (fun q15 => some (0 : Int32)) (fun q15 => some q15) q15
set_option maxHeartbeats 4000000 in
set_option maxRecDepth 100000 in
theorem tX8_isMetAt_l3b {p : Program} {l : Launch} {e : Env} {R : Room} {s : State} {m : MethodId} {args : Array Value} {below : List Frame} {meth : Method} {c : Code} {D : va_G} {dA : Nat → ClassId} {w0 : va_W} {Q : State → Prop} {H : Heap} {locs : List Loc} {ls : Array Slot} {cells slots : Nat} (C : CX p s m args meth c cX8_isMetAt 5 (some .boolean) RX8 D dA) (ht ht_ring ht_degree ht_voice ht_loud ht_sharp ht_hears ht_tooNear ht_ring_cells ht_ring_places ht_ring_facts : Nat) (hR : 2 ≤ R.frames ∧ 42 ≤ R.locals ∧ cells ≤ R.cells ∧ slots ≤ R.slots)  (t_ring_lands : Int32) (t_ring_things : Int32) (t_ring_placeCount : Int32) (t_ring_apart : Int32) (t_ring_thereFirst : Int32) (t_degree : (Nat → Int32)) (t_ring_facts : (Nat → Int32)) (t_voice : (Nat → Int32)) (t_ring_cells : (Nat → Int64)) (v1 : Int32) (v2 : Int32) (v3 : Int32) (v4 : Int32) (N : Nat) (res : ((Int32) ⊕ ((Unit) ⊕ (Int32)))) (hf : fX8_isMetAt_l3b N t_ring_things t_ring_apart t_degree t_ring_facts t_voice t_ring_cells v1 v2 v3 v4 = some res) (hK : Sum.elim (fun z => (∀ (H : Heap) (locs : List Loc) (ls : Array Slot), lv_has ls 5 [(0, .ref ht), (1, .int v1), (2, .int v2), (3, .int v3), (4, .int z)] → St D w0 s (wX8_isMetAt dA ht ht_ring ht_degree ht_voice ht_loud ht_sharp ht_hears ht_tooNear ht_ring_cells ht_ring_places ht_ring_facts t_ring_lands t_ring_things t_ring_placeCount t_ring_apart t_ring_thereFirst t_degree t_ring_facts t_voice t_ring_cells) H locs → W p l e R s m args below meth c H locs cells slots Q (F0 m 3 ls []))) (fun r => Sum.elim (fun q => (∀ (H : Heap) (locs : List Loc) (ls : Array Slot), lv_has ls 5 [] → St D w0 s (wX8_isMetAt dA ht ht_ring ht_degree ht_voice ht_loud ht_sharp ht_hears ht_tooNear ht_ring_cells ht_ring_places ht_ring_facts t_ring_lands t_ring_things t_ring_placeCount t_ring_apart t_ring_thereFirst t_degree t_ring_facts t_voice t_ring_cells) H locs → W p l e R s m args below meth c H locs cells slots Q (F0 m 77 ls []))) (fun o => (∀ (H : Heap) (locs : List Loc) (pc : Nat) (ls : Array Slot), (o = 0 ∨ o = 1) → decode cX8_isMetAt pc = .ok (.ireturn, 1) → St D w0 s (wX8_isMetAt dA ht ht_ring ht_degree ht_voice ht_loud ht_sharp ht_hears ht_tooNear ht_ring_cells ht_ring_places ht_ring_facts t_ring_lands t_ring_things t_ring_placeCount t_ring_apart t_ring_thereFirst t_degree t_ring_facts t_voice t_ring_cells) H locs → W p l e R s m args below meth c H locs cells slots Q (F0 m pc ls [.int o]))) r) res) (hl : lv_has ls 5 [(0, .ref ht), (1, .int v1), (2, .int v2), (3, .int v3), (4, .int v4)]) (hw : St D w0 s (wX8_isMetAt dA ht ht_ring ht_degree ht_voice ht_loud ht_sharp ht_hears ht_tooNear ht_ring_cells ht_ring_places ht_ring_facts t_ring_lands t_ring_things t_ring_placeCount t_ring_apart t_ring_thereFirst t_degree t_ring_facts t_voice t_ring_cells) H locs) : W p l e R s m args below meth c H locs cells slots Q (F0 m 3 ls []) := by
  have hx := C.1
  have hb := C.2.1
  have hml := C.2.2.1
  have hown := C.2.2.2.1
  have hts := C.2.2.2.2.1
  unfold fX8_isMetAt_l3b at hf
  refine lv_iload hx hb dX8_isMetAt_3 (lv_at hl 4 rfl) ?_
  refine lv_aload_n hx hb dX8_isMetAt_5 rfl (lv_at hl 0 rfl) ?_
  refine k_get C hw 0 rfl rfl wiX8 0 (by decide) wfX8_30 rfl dX8_isMetAt_6 ?_
  refine k_get C hw 1 rfl rfl wiX5 3 (by decide) wfX8_50 rfl dX8_isMetAt_9 ?_
  refine lv_icmp_ge (tgt := 77) hx hb dX8_isMetAt_12 (by decide) (fun c1 => ?_) (fun c1 => ?_)
  · have hf := ite_t c1 hf
    obtain rfl := some_r hf
    exact hK _ _ _ (lv_sub hl [] rfl) hw
  · have hf := ite_f c1 hf
    refine lv_aload_n hx hb dX8_isMetAt_15 rfl (lv_at hl 0 rfl) ?_
    refine lv_iload hx hb dX8_isMetAt_16 (lv_at hl 4 rfl) ?_
    obtain ⟨o2, ho2, hf⟩ := bind_r hf
    refine k_callVi C hw (n := 1) (As := [.int v4]) (w1 := (wX8_isMetAt dA ht ht_ring ht_degree ht_voice ht_loud ht_sharp ht_hears ht_tooNear ht_ring_cells ht_ring_places ht_ring_facts t_ring_lands t_ring_things t_ring_placeCount t_ring_apart t_ring_thereFirst t_degree t_ring_facts t_voice t_ring_cells)) (wr := [(ht_voice, .inl (dA 0, 16, .inl t_voice)), (ht_ring_cells, .inl (dA 1, 16, .inr (.inl t_ring_cells)))]) [0, 2, 1, 3] [4, 5] [2, 4, 3, 5, 0, 1] rfl rfl (by decide) (by decide) (by decide) rfl (by decide) (qX8_isLiving l D dA ht ht_ring ht_degree ht_voice ht_loud ht_sharp ht_hears ht_tooNear ht_ring_cells ht_ring_places ht_ring_facts t_degree t_ring_lands t_ring_things t_ring_placeCount t_ring_apart t_ring_thereFirst t_ring_facts v4 _ ho2) wlX8_93 wmX8_isLiving wvX8_isLiving wnX8 wcX8_isLiving rfl (by decide +kernel) ⟨Nat.le_trans (by decide) hR.1, Nat.le_trans (by decide) hR.2.1⟩ hR.2.2 rfl 0 rfl rfl hl.1 (Nat.le_of_ble_eq_true rfl) dX8_isMetAt_18 rfl (fun H locs hw => ?_)
    refine lv_if_eq (tgt := 71) hx hb dX8_isMetAt_21 (by decide) (fun c3 => ?_) (fun c3 => ?_)
    · have hf := ite_t c3 hf
      obtain ⟨x4, ex4⟩ : ∃ y : Int32, y = v4 + (1 : Int32) := ⟨_, rfl⟩
      have hf := bnd_r ex4 hf
      refine lv_iinc (v := x4) (lv' := [(4, .int x4), (0, .ref ht), (1, .int v1), (2, .int v2), (3, .int v3)]) hx hb dX8_isMetAt_71 hl (k := 4) rfl (by rw [ex4]; rfl) (by decide) rfl (fun ls hl => ?_)
      refine lv_goto (tgt := 3) hx hb dX8_isMetAt_74 (by decide) ?_
      obtain rfl := some_r hf
      exact hK _ _ _ (lv_sub hl [1, 2, 3, 4, 0] rfl) hw
    · have hf := ite_f c3 hf
      refine lv_aload_n hx hb dX8_isMetAt_24 rfl (lv_at hl 0 rfl) ?_
      refine k_get C hw 0 rfl rfl wiX8 2 (by decide) wfX8_15 rfl dX8_isMetAt_25 ?_
      refine lv_iload hx hb dX8_isMetAt_28 (lv_at hl 4 rfl) ?_
      obtain ⟨g5, hf⟩ := gdi_r hf
      refine k_iald C hw 4 rfl g5 dX8_isMetAt_30 ?_
      refine lv_iload_n hx hb dX8_isMetAt_31 rfl (lv_at hl 3 rfl) ?_
      refine lv_icmp_ne (tgt := 71) hx hb dX8_isMetAt_32 (by decide) (fun c6 => ?_) (fun c6 => ?_)
      · have hf := ite_f c6 hf
        obtain ⟨x7, ex7⟩ : ∃ y : Int32, y = v4 + (1 : Int32) := ⟨_, rfl⟩
        have hf := bnd_r ex7 hf
        refine lv_iinc (v := x7) (lv' := [(4, .int x7), (0, .ref ht), (1, .int v1), (2, .int v2), (3, .int v3)]) hx hb dX8_isMetAt_71 hl (k := 4) rfl (by rw [ex7]; rfl) (by decide) rfl (fun ls hl => ?_)
        refine lv_goto (tgt := 3) hx hb dX8_isMetAt_74 (by decide) ?_
        obtain rfl := some_r hf
        exact hK _ _ _ (lv_sub hl [1, 2, 3, 4, 0] rfl) hw
      · have hf := ite_t c6 hf
        refine lv_aload_n hx hb dX8_isMetAt_35 rfl (lv_at hl 0 rfl) ?_
        refine k_get C hw 0 rfl rfl wiX8 0 (by decide) wfX8_30 rfl dX8_isMetAt_36 ?_
        refine lv_iload_n hx hb dX8_isMetAt_39 rfl (lv_at hl 1 rfl) ?_
        refine lv_iload hx hb dX8_isMetAt_40 (lv_at hl 4 rfl) ?_
        obtain ⟨o8, ho8, hf⟩ := bind_r hf
        refine k_callVi C hw (n := 2) (As := [.int v1, .int v4]) (w1 := (wX8_isMetAt dA ht ht_ring ht_degree ht_voice ht_loud ht_sharp ht_hears ht_tooNear ht_ring_cells ht_ring_places ht_ring_facts t_ring_lands t_ring_things t_ring_placeCount t_ring_apart t_ring_thereFirst t_degree t_ring_facts t_voice t_ring_cells)) (wr := [(ht, .inr (8, [.ref ht_ring, .ref ht_degree, .ref ht_voice, .ref ht_loud, .ref ht_sharp, .ref ht_hears, .ref ht_tooNear])), (ht_degree, .inl (dA 0, 16, .inl t_degree)), (ht_ring_facts, .inl (dA 0, 224, .inl t_ring_facts)), (ht_voice, .inl (dA 0, 16, .inl t_voice))]) [1, 5] [0, 2, 3, 4] [0, 4, 1, 2, 3, 5] rfl rfl (by decide) (by decide) (by decide) rfl (by decide) (qX5_shareCell l D dA ht_ring ht_ring_cells ht_ring_places ht_ring_facts t_ring_lands t_ring_things t_ring_placeCount t_ring_apart t_ring_thereFirst t_ring_cells v1 v4 _ ho8) wlX8_100 wmX5_shareCell wvX5_shareCell wnX5 wcX5_shareCell rfl (by decide +kernel) ⟨Nat.le_trans (by decide) hR.1, Nat.le_trans (by decide) hR.2.1⟩ hR.2.2 rfl 0 rfl rfl hl.1 (Nat.le_of_ble_eq_true rfl) dX8_isMetAt_42 rfl (fun H locs hw => ?_)
        refine lv_if_eq (tgt := 71) hx hb dX8_isMetAt_45 (by decide) (fun c9 => ?_) (fun c9 => ?_)
        · have hf := ite_t c9 hf
          obtain ⟨x10, ex10⟩ : ∃ y : Int32, y = v4 + (1 : Int32) := ⟨_, rfl⟩
          have hf := bnd_r ex10 hf
          refine lv_iinc (v := x10) (lv' := [(4, .int x10), (0, .ref ht), (1, .int v1), (2, .int v2), (3, .int v3)]) hx hb dX8_isMetAt_71 hl (k := 4) rfl (by rw [ex10]; rfl) (by decide) rfl (fun ls hl => ?_)
          refine lv_goto (tgt := 3) hx hb dX8_isMetAt_74 (by decide) ?_
          obtain rfl := some_r hf
          exact hK _ _ _ (lv_sub hl [1, 2, 3, 4, 0] rfl) hw
        · have hf := ite_f c9 hf
          refine lv_iload_n hx hb dX8_isMetAt_48 rfl (lv_at hl 2 rfl) ?_
          refine lv_aload_n hx hb dX8_isMetAt_49 rfl (lv_at hl 0 rfl) ?_
          refine k_get C hw 0 rfl rfl wiX8 1 (by decide) wfX8_9 rfl dX8_isMetAt_50 ?_
          refine lv_iload hx hb dX8_isMetAt_53 (lv_at hl 4 rfl) ?_
          obtain ⟨g11, hf⟩ := gdi_r hf
          refine k_iald C hw 2 rfl g11 dX8_isMetAt_55 ?_
          obtain ⟨o12, ho12, hf⟩ := bind_r hf
          refine k_callNi C hw (n := 2) (As := [.int v2, .int (t_degree v4.toNatClampNeg)]) (w1 := (wX8_isMetAt dA ht ht_ring ht_degree ht_voice ht_loud ht_sharp ht_hears ht_tooNear ht_ring_cells ht_ring_places ht_ring_facts t_ring_lands t_ring_things t_ring_placeCount t_ring_apart t_ring_thereFirst t_degree t_ring_facts t_voice t_ring_cells)) (wr := [(ht, .inr (8, [.ref ht_ring, .ref ht_degree, .ref ht_voice, .ref ht_loud, .ref ht_sharp, .ref ht_hears, .ref ht_tooNear])), (ht_ring, .inr (5, [.ref ht_ring_cells, .ref ht_ring_places, .int t_ring_lands, .int t_ring_things, .int t_ring_placeCount, .int t_ring_apart, .int t_ring_thereFirst, .ref ht_ring_facts])), (ht_degree, .inl (dA 0, 16, .inl t_degree)), (ht_ring_facts, .inl (dA 0, 224, .inl t_ring_facts)), (ht_voice, .inl (dA 0, 16, .inl t_voice)), (ht_ring_cells, .inl (dA 1, 16, .inr (.inl t_ring_cells)))]) [] [0, 1, 2, 3, 4, 5] [0, 1, 2, 3, 4, 5] rfl rfl (by decide) (by decide) (by decide) rfl (by decide) (qX11_gapBetween l D dA  v2 (t_degree v4.toNatClampNeg) N _ ho12) (host := "RingPlaces") (by decide +kernel) wsX11_gapBetween_t wnX11 wcX11_gapBetween (by decide +kernel) ⟨Nat.le_trans (by decide) hR.1, Nat.le_trans (by decide) hR.2.1⟩ hR.2.2 rfl hl.1 (Nat.le_of_ble_eq_true rfl) dX8_isMetAt_56 rfl (fun H locs hw => ?_)
          refine lv_aload_n hx hb dX8_isMetAt_59 rfl (lv_at hl 0 rfl) ?_
          refine k_get C hw 0 rfl rfl wiX8 0 (by decide) wfX8_30 rfl dX8_isMetAt_60 ?_
          refine k_get C hw 1 rfl rfl wiX5 5 (by decide) wfX8_80 rfl dX8_isMetAt_63 ?_
          refine lv_icmp_ge (tgt := 71) hx hb dX8_isMetAt_66 (by decide) (fun c13 => ?_) (fun c13 => ?_)
          · have hf := ite_t c13 hf
            obtain ⟨x14, ex14⟩ : ∃ y : Int32, y = v4 + (1 : Int32) := ⟨_, rfl⟩
            have hf := bnd_r ex14 hf
            refine lv_iinc (v := x14) (lv' := [(4, .int x14), (0, .ref ht), (1, .int v1), (2, .int v2), (3, .int v3)]) hx hb dX8_isMetAt_71 hl (k := 4) rfl (by rw [ex14]; rfl) (by decide) rfl (fun ls hl => ?_)
            refine lv_goto (tgt := 3) hx hb dX8_isMetAt_74 (by decide) ?_
            obtain rfl := some_r hf
            exact hK _ _ _ (lv_sub hl [1, 2, 3, 4, 0] rfl) hw
          · have hf := ite_f c13 hf
            refine lv_iconst (v := (1 : Int32)) hx hb dX8_isMetAt_69 (by decide) ?_
            obtain rfl := some_r hf
            exact hK _ _ _ _ (Or.inr rfl) dX8_isMetAt_70 hw
set_option maxHeartbeats 4000000 in
theorem tX8_isMetAt_l3 {p : Program} {l : Launch} {e : Env} {R : Room} {s : State} {m : MethodId} {args : Array Value} {below : List Frame} {meth : Method} {c : Code} {D : va_G} {dA : Nat → ClassId} {w0 : va_W} {Q : State → Prop} {H : Heap} {locs : List Loc} {ls : Array Slot} {cells slots : Nat} (C : CX p s m args meth c cX8_isMetAt 5 (some .boolean) RX8 D dA) (ht ht_ring ht_degree ht_voice ht_loud ht_sharp ht_hears ht_tooNear ht_ring_cells ht_ring_places ht_ring_facts : Nat) (hR : 2 ≤ R.frames ∧ 42 ≤ R.locals ∧ cells ≤ R.cells ∧ slots ≤ R.slots)  (t_ring_lands : Int32) (t_ring_things : Int32) (t_ring_placeCount : Int32) (t_ring_apart : Int32) (t_ring_thereFirst : Int32) (t_degree : (Nat → Int32)) (t_ring_facts : (Nat → Int32)) (t_voice : (Nat → Int32)) (t_ring_cells : (Nat → Int64)) (v1 : Int32) (v2 : Int32) (v3 : Int32) (v4 : Int32) (N n : Nat) (res : ((Unit) ⊕ (Int32))) (hf : itr (fun z => fX8_isMetAt_l3b N t_ring_things t_ring_apart t_degree t_ring_facts t_voice t_ring_cells v1 v2 v3 z) n v4 = some res) (hK : Sum.elim (fun q => (∀ (H : Heap) (locs : List Loc) (ls : Array Slot), lv_has ls 5 [] → St D w0 s (wX8_isMetAt dA ht ht_ring ht_degree ht_voice ht_loud ht_sharp ht_hears ht_tooNear ht_ring_cells ht_ring_places ht_ring_facts t_ring_lands t_ring_things t_ring_placeCount t_ring_apart t_ring_thereFirst t_degree t_ring_facts t_voice t_ring_cells) H locs → W p l e R s m args below meth c H locs cells slots Q (F0 m 77 ls []))) (fun o => (∀ (H : Heap) (locs : List Loc) (pc : Nat) (ls : Array Slot), (o = 0 ∨ o = 1) → decode cX8_isMetAt pc = .ok (.ireturn, 1) → St D w0 s (wX8_isMetAt dA ht ht_ring ht_degree ht_voice ht_loud ht_sharp ht_hears ht_tooNear ht_ring_cells ht_ring_places ht_ring_facts t_ring_lands t_ring_things t_ring_placeCount t_ring_apart t_ring_thereFirst t_degree t_ring_facts t_voice t_ring_cells) H locs → W p l e R s m args below meth c H locs cells slots Q (F0 m pc ls [.int o]))) res) (hl : lv_has ls 5 [(0, .ref ht), (1, .int v1), (2, .int v2), (3, .int v3), (4, .int v4)]) (hw : St D w0 s (wX8_isMetAt dA ht ht_ring ht_degree ht_voice ht_loud ht_sharp ht_hears ht_tooNear ht_ring_cells ht_ring_places ht_ring_facts t_ring_lands t_ring_things t_ring_placeCount t_ring_apart t_ring_thereFirst t_degree t_ring_facts t_voice t_ring_cells) H locs) : W p l e R s m args below meth c H locs cells slots Q (F0 m 3 ls []) :=
  itr_W (P := fun (z : (Int32)) => (∀ (H : Heap) (locs : List Loc) (ls : Array Slot), lv_has ls 5 [(0, .ref ht), (1, .int v1), (2, .int v2), (3, .int v3), (4, .int z)] → St D w0 s (wX8_isMetAt dA ht ht_ring ht_degree ht_voice ht_loud ht_sharp ht_hears ht_tooNear ht_ring_cells ht_ring_places ht_ring_facts t_ring_lands t_ring_things t_ring_placeCount t_ring_apart t_ring_thereFirst t_degree t_ring_facts t_voice t_ring_cells) H locs → W p l e R s m args below meth c H locs cells slots Q (F0 m 3 ls []))) (K := fun res => Sum.elim (fun q => (∀ (H : Heap) (locs : List Loc) (ls : Array Slot), lv_has ls 5 [] → St D w0 s (wX8_isMetAt dA ht ht_ring ht_degree ht_voice ht_loud ht_sharp ht_hears ht_tooNear ht_ring_cells ht_ring_places ht_ring_facts t_ring_lands t_ring_things t_ring_placeCount t_ring_apart t_ring_thereFirst t_degree t_ring_facts t_voice t_ring_cells) H locs → W p l e R s m args below meth c H locs cells slots Q (F0 m 77 ls []))) (fun o => (∀ (H : Heap) (locs : List Loc) (pc : Nat) (ls : Array Slot), (o = 0 ∨ o = 1) → decode cX8_isMetAt pc = .ok (.ireturn, 1) → St D w0 s (wX8_isMetAt dA ht ht_ring ht_degree ht_voice ht_loud ht_sharp ht_hears ht_tooNear ht_ring_cells ht_ring_places ht_ring_facts t_ring_lands t_ring_things t_ring_placeCount t_ring_apart t_ring_thereFirst t_degree t_ring_facts t_voice t_ring_cells) H locs → W p l e R s m args below meth c H locs cells slots Q (F0 m pc ls [.int o]))) res) (fun z r hf hK H locs ls hl hw => tX8_isMetAt_l3b C ht ht_ring ht_degree ht_voice ht_loud ht_sharp ht_hears ht_tooNear ht_ring_cells ht_ring_places ht_ring_facts hR t_ring_lands t_ring_things t_ring_placeCount t_ring_apart t_ring_thereFirst t_degree t_ring_facts t_voice t_ring_cells v1 v2 v3 z N r hf (by cases r with
    | inl r => exact hK
    | inr r => exact hK) hl hw) n _ res hf hK H locs ls hl hw
set_option maxHeartbeats 4000000 in
set_option maxRecDepth 100000 in
theorem qX8_isMetAt (l : Launch) (D : va_G) (dA : Nat → ClassId) (ht ht_ring ht_degree ht_voice ht_loud ht_sharp ht_hears ht_tooNear ht_ring_cells ht_ring_places ht_ring_facts : Nat) (t_ring_lands : Int32) (t_ring_things : Int32) (t_ring_placeCount : Int32) (t_ring_apart : Int32) (t_ring_thereFirst : Int32) (t_degree : (Nat → Int32)) (t_ring_facts : (Nat → Int32)) (t_voice : (Nat → Int32)) (t_ring_cells : (Nat → Int64)) (x1_ : Int32) (x2_ : Int32) (x3_ : Int32) (N : Nat) (o : Int32) (hf : fX8_isMetAt N t_ring_things t_ring_apart t_degree t_ring_facts t_voice t_ring_cells x1_ x2_ x3_ = some o) : Mi l D dA yX8_isMetAt (Cond.code yX8_isMetAt cX8_isMetAt 5 (some .boolean) :: wA) 2 42 [.ref ht, .int x1_, .int x2_, .int x3_] (wX8_isMetAt dA ht ht_ring ht_degree ht_voice ht_loud ht_sharp ht_hears ht_tooNear ht_ring_cells ht_ring_places ht_ring_facts t_ring_lands t_ring_things t_ring_placeCount t_ring_apart t_ring_thereFirst t_degree t_ring_facts t_voice t_ring_cells) (wX8_isMetAt dA ht ht_ring ht_degree ht_voice ht_loud ht_sharp ht_hears ht_tooNear ht_ring_cells ht_ring_places ht_ring_facts t_ring_lands t_ring_things t_ring_placeCount t_ring_apart t_ring_thereFirst t_degree t_ring_facts t_voice t_ring_cells) o := by
  intro sz
  refine M_of (cc := cX8_isMetAt) (nL := 5) (ret := (some .boolean)) (own := RX8) (by decide +kernel) rfl (Nat.le_of_ble_eq_true rfl) ?_
  intro p e s m below meth c ls hsz C hw hl
  subst hsz
  have hR : 2 ≤ (rmm 2 42).frames ∧ 42 ≤ (rmm 2 42).locals ∧ 0 ≤ (rmm 2 42).cells ∧ 0 ≤ (rmm 2 42).slots := ⟨Nat.le_refl _, Nat.le_refl _, Nat.le_refl _, Nat.le_refl _⟩
  have hl : lv_has ls 5 [(0, .ref ht), (1, .int x1_), (2, .int x2_), (3, .int x3_)] := hl
  have hx := C.1
  have hb := C.2.1
  have hml := C.2.2.1
  have hown := C.2.2.2.1
  have hts := C.2.2.2.2.1
  have hK : ∀ (H : Heap) (locs : List Loc) (pc : Nat) (ls : Array Slot), (o = 0 ∨ o = 1) → decode cX8_isMetAt pc = .ok (.ireturn, 1) → St D (wX8_isMetAt dA ht ht_ring ht_degree ht_voice ht_loud ht_sharp ht_hears ht_tooNear ht_ring_cells ht_ring_places ht_ring_facts t_ring_lands t_ring_things t_ring_placeCount t_ring_apart t_ring_thereFirst t_degree t_ring_facts t_voice t_ring_cells) s (wX8_isMetAt dA ht ht_ring ht_degree ht_voice ht_loud ht_sharp ht_hears ht_tooNear ht_ring_cells ht_ring_places ht_ring_facts t_ring_lands t_ring_things t_ring_placeCount t_ring_apart t_ring_thereFirst t_degree t_ring_facts t_voice t_ring_cells) H locs → W p l e (rmm 2 42) s m [.ref ht, .int x1_, .int x2_, .int x3_].toArray below meth c H locs 0 0 (MQ below (Qi D (wX8_isMetAt dA ht ht_ring ht_degree ht_voice ht_loud ht_sharp ht_hears ht_tooNear ht_ring_cells ht_ring_places ht_ring_facts t_ring_lands t_ring_things t_ring_placeCount t_ring_apart t_ring_thereFirst t_degree t_ring_facts t_voice t_ring_cells) (wX8_isMetAt dA ht ht_ring ht_degree ht_voice ht_loud ht_sharp ht_hears ht_tooNear ht_ring_cells ht_ring_places ht_ring_facts t_ring_lands t_ring_things t_ring_placeCount t_ring_apart t_ring_thereFirst t_degree t_ring_facts t_voice t_ring_cells) o s.heap.size) [.ref ht, .int x1_, .int x2_, .int x3_].toArray s 0 0 (va_A (wX8_isMetAt dA ht ht_ring ht_degree ht_voice ht_loud ht_sharp ht_hears ht_tooNear ht_ring_cells ht_ring_places ht_ring_facts t_ring_lands t_ring_things t_ring_placeCount t_ring_apart t_ring_thereFirst t_degree t_ring_facts t_voice t_ring_cells) s.heap.size)) (F0 m pc ls [.int o]) := fun H locs pc ls hz hd hw => k_zret C hw hz hd
  unfold fX8_isMetAt at hf
  refine lv_iconst (v := (0 : Int32)) hx hb dX8_isMetAt_0 (by decide) ?_
  refine lv_istore (lv' := [(4, .int (0 : Int32)), (0, .ref ht), (1, .int x1_), (2, .int x2_), (3, .int x3_)]) hx hb dX8_isMetAt_1 hl (by decide) rfl (fun ls hl => ?_)
  obtain ⟨q15, hq15, hf⟩ := bind_r hf
  cases q15 with
  | inl q15 =>
    refine tX8_isMetAt_l3 C ht ht_ring ht_degree ht_voice ht_loud ht_sharp ht_hears ht_tooNear ht_ring_cells ht_ring_places ht_ring_facts hR t_ring_lands t_ring_things t_ring_placeCount t_ring_apart t_ring_thereFirst t_degree t_ring_facts t_voice t_ring_cells x1_ x2_ x3_ (0 : Int32) N _ _ hq15 ?_ (lv_sub hl [1, 2, 3, 4, 0] rfl) hw
    have hf := elim_l hf
    intro H locs ls hl hw
    refine lv_iconst (v := (0 : Int32)) hx hb dX8_isMetAt_77 (by decide) ?_
    obtain rfl := some_r hf
    exact hK _ _ _ _ (Or.inl rfl) dX8_isMetAt_78 hw
  | inr q15 =>
    refine tX8_isMetAt_l3 C ht ht_ring ht_degree ht_voice ht_loud ht_sharp ht_hears ht_tooNear ht_ring_cells ht_ring_places ht_ring_facts hR t_ring_lands t_ring_things t_ring_placeCount t_ring_apart t_ring_thereFirst t_degree t_ring_facts t_voice t_ring_cells x1_ x2_ x3_ (0 : Int32) N _ _ hq15 ?_ (lv_sub hl [1, 2, 3, 4, 0] rfl) hw
    have hf := elim_r hf
    obtain rfl := some_r hf
    exact hK
