/-! RingPlaces$Ring.<init>()V -/
set_option maxHeartbeats 4000000 in
set_option maxRecDepth 100000 in
theorem qX5_init (l : Launch) (D : va_G) (dA : Nat → ClassId) (h0 : Nat) : Mc l D dA yX5_init (Cond.code yX5_init cX5_init 1 none :: wA) 1 20 3 246 [.ref h0] [(h0, .inr (5, [.null, .null, .int 0, .int 0, .int 0, .int 0, .int 0, .null]))] (fun u => [(h0, .inr (5, [.ref (u 0), .ref (u 1), .int (0 : Int32), .int (0 : Int32), .int (0 : Int32), .int (20 : Int32), .int (0 : Int32), .ref (u 2)])), ((u 0), .inl (dA 1, 16, .inr (.inl (fun _ => 0)))), ((u 1), .inl (dA 0, 6, .inl (fun _ => 0))), ((u 2), .inl (dA 0, 224, .inl (fun _ => 0)))]) := by
  intro sz
  refine M_ofI (cc := cX5_init) (nL := 1) (ret := none) (own := RX5) (by decide) rfl (Nat.le_of_ble_eq_true rfl) rfl ?_
  intro p e s m below meth c ls hsz C hin hw hl
  subst hsz
  have hl : lv_has ls 1 [(0, .ref h0)] := hl
  have hx := C.1
  have hb := C.2.1
  have hml := C.2.2.1
  have hown := C.2.2.2.1
  have hts := C.2.2.2.2.1
  refine lv_aload_n hx hb dX5_init_0 rfl (lv_at hl 0 rfl) ?_
  refine W.objInit hx hb hown (hts _ wlX5_3) (hts _ wxoi) (hts _ wxoc) rfl (by rw [hml]; exact hl.1) rfl dX5_init_1 (Nat.le_of_ble_eq_true rfl) (Nat.le_of_ble_eq_true rfl) ?_
  refine W.eq (g2 := F0 m 4 ls []) rfl ?_
  refine lv_aload_n hx hb dX5_init_4 rfl (lv_at hl 0 rfl) ?_
  refine lv_bipush (v := (16 : Int32)) hx hb dX5_init_5 (by decide) ?_
  refine k_newJ C hw wxaJ 16 (by decide) (by decide) (by decide) (Nat.le_of_ble_eq_true rfl) (Nat.le_of_ble_eq_true rfl) dX5_init_7 (fun q0 H hw => ?_)
  refine W.widen (k := 1) (n := 16) (Nat.le_of_ble_eq_true rfl) (Nat.le_of_ble_eq_true rfl) ?_
  have hw : St D [(h0, .inr (5, [.null, .null, .int 0, .int 0, .int 0, .int 0, .int 0, .null]))] s [(h0, .inr (5, [.null, .null, .int 0, .int 0, .int 0, .int 0, .int 0, .null])), (q0, .inl (dA 1, 16, .inr (.inl (fun _ => 0))))] H _ := hw
  refine k_putF C hin hw 0 rfl rfl wiX5 tyX5 tyX5_ok nmX5 0 (by decide) wfX5_9 rfl rfl rfl rfl (Nat.le_of_ble_eq_true rfl) dX5_init_9 [(h0, .inr (5, [.ref q0, .null, .int 0, .int 0, .int 0, .int 0, .int 0, .null])), (q0, .inl (dA 1, 16, .inr (.inl (fun _ => 0))))] rfl (fun H locs hw => ?_)
  refine lv_aload_n hx hb dX5_init_12 rfl (lv_at hl 0 rfl) ?_
  refine lv_bipush (v := (6 : Int32)) hx hb dX5_init_13 (by decide) ?_
  refine k_newI C hw wxaI 6 (by decide) (by decide) (by decide) (Nat.le_of_ble_eq_true rfl) (Nat.le_of_ble_eq_true rfl) dX5_init_15 (fun q1 H hw => ?_)
  refine W.widen (k := 2) (n := 22) (Nat.le_of_ble_eq_true rfl) (Nat.le_of_ble_eq_true rfl) ?_
  have hw : St D [(h0, .inr (5, [.null, .null, .int 0, .int 0, .int 0, .int 0, .int 0, .null]))] s [(h0, .inr (5, [.ref q0, .null, .int 0, .int 0, .int 0, .int 0, .int 0, .null])), (q0, .inl (dA 1, 16, .inr (.inl (fun _ => 0)))), (q1, .inl (dA 0, 6, .inl (fun _ => 0)))] H _ := hw
  refine k_putF C hin hw 0 rfl rfl wiX5 tyX5 tyX5_ok nmX5 1 (by decide) wfX5_15 rfl rfl rfl rfl (Nat.le_of_ble_eq_true rfl) dX5_init_17 [(h0, .inr (5, [.ref q0, .ref q1, .int 0, .int 0, .int 0, .int 0, .int 0, .null])), (q0, .inl (dA 1, 16, .inr (.inl (fun _ => 0)))), (q1, .inl (dA 0, 6, .inl (fun _ => 0)))] rfl (fun H locs hw => ?_)
  refine lv_aload_n hx hb dX5_init_20 rfl (lv_at hl 0 rfl) ?_
  refine lv_iconst (v := (0 : Int32)) hx hb dX5_init_21 (by decide) ?_
  refine k_put C hw 0 rfl rfl wiX5 tyX5 tyX5_ok nmX5 2 (by decide) wfX5_19 rfl rfl rfl (Nat.le_of_ble_eq_true rfl) dX5_init_22 [(h0, .inr (5, [.ref q0, .ref q1, .int (0 : Int32), .int 0, .int 0, .int 0, .int 0, .null])), (q0, .inl (dA 1, 16, .inr (.inl (fun _ => 0)))), (q1, .inl (dA 0, 6, .inl (fun _ => 0)))] rfl (fun H locs hw => ?_)
  refine lv_aload_n hx hb dX5_init_25 rfl (lv_at hl 0 rfl) ?_
  refine lv_iconst (v := (0 : Int32)) hx hb dX5_init_26 (by decide) ?_
  refine k_put C hw 0 rfl rfl wiX5 tyX5 tyX5_ok nmX5 3 (by decide) wfX5_23 rfl rfl rfl (Nat.le_of_ble_eq_true rfl) dX5_init_27 [(h0, .inr (5, [.ref q0, .ref q1, .int (0 : Int32), .int (0 : Int32), .int 0, .int 0, .int 0, .null])), (q0, .inl (dA 1, 16, .inr (.inl (fun _ => 0)))), (q1, .inl (dA 0, 6, .inl (fun _ => 0)))] rfl (fun H locs hw => ?_)
  refine lv_aload_n hx hb dX5_init_30 rfl (lv_at hl 0 rfl) ?_
  refine lv_iconst (v := (0 : Int32)) hx hb dX5_init_31 (by decide) ?_
  refine k_put C hw 0 rfl rfl wiX5 tyX5 tyX5_ok nmX5 4 (by decide) wfX5_26 rfl rfl rfl (Nat.le_of_ble_eq_true rfl) dX5_init_32 [(h0, .inr (5, [.ref q0, .ref q1, .int (0 : Int32), .int (0 : Int32), .int (0 : Int32), .int 0, .int 0, .null])), (q0, .inl (dA 1, 16, .inr (.inl (fun _ => 0)))), (q1, .inl (dA 0, 6, .inl (fun _ => 0)))] rfl (fun H locs hw => ?_)
  refine lv_aload_n hx hb dX5_init_35 rfl (lv_at hl 0 rfl) ?_
  refine lv_bipush (v := (20 : Int32)) hx hb dX5_init_36 (by decide) ?_
  refine k_put C hw 0 rfl rfl wiX5 tyX5 tyX5_ok nmX5 5 (by decide) wfX5_29 rfl rfl rfl (Nat.le_of_ble_eq_true rfl) dX5_init_38 [(h0, .inr (5, [.ref q0, .ref q1, .int (0 : Int32), .int (0 : Int32), .int (0 : Int32), .int (20 : Int32), .int 0, .null])), (q0, .inl (dA 1, 16, .inr (.inl (fun _ => 0)))), (q1, .inl (dA 0, 6, .inl (fun _ => 0)))] rfl (fun H locs hw => ?_)
  refine lv_aload_n hx hb dX5_init_41 rfl (lv_at hl 0 rfl) ?_
  refine lv_iconst (v := (0 : Int32)) hx hb dX5_init_42 (by decide) ?_
  refine k_put C hw 0 rfl rfl wiX5 tyX5 tyX5_ok nmX5 6 (by decide) wfX5_32 rfl (by decide) (by decide) (Nat.le_of_ble_eq_true rfl) dX5_init_43 [(h0, .inr (5, [.ref q0, .ref q1, .int (0 : Int32), .int (0 : Int32), .int (0 : Int32), .int (20 : Int32), .int (0 : Int32), .null])), (q0, .inl (dA 1, 16, .inr (.inl (fun _ => 0)))), (q1, .inl (dA 0, 6, .inl (fun _ => 0)))] rfl (fun H locs hw => ?_)
  refine lv_aload_n hx hb dX5_init_46 rfl (lv_at hl 0 rfl) ?_
  refine lv_sipush (v := (224 : Int32)) hx hb dX5_init_47 (by decide) ?_
  refine k_newI C hw wxaI 224 (by decide) (by decide) (by decide) (Nat.le_of_ble_eq_true rfl) (Nat.le_of_ble_eq_true rfl) dX5_init_50 (fun q2 H hw => ?_)
  refine W.widen (k := 3) (n := 246) (Nat.le_of_ble_eq_true rfl) (Nat.le_of_ble_eq_true rfl) ?_
  have hw : St D [(h0, .inr (5, [.null, .null, .int 0, .int 0, .int 0, .int 0, .int 0, .null]))] s [(h0, .inr (5, [.ref q0, .ref q1, .int (0 : Int32), .int (0 : Int32), .int (0 : Int32), .int (20 : Int32), .int (0 : Int32), .null])), (q0, .inl (dA 1, 16, .inr (.inl (fun _ => 0)))), (q1, .inl (dA 0, 6, .inl (fun _ => 0))), (q2, .inl (dA 0, 224, .inl (fun _ => 0)))] H _ := hw
  refine k_putF C hin hw 0 rfl rfl wiX5 tyX5 tyX5_ok nmX5 7 (by decide) wfX5_36 rfl rfl rfl rfl (Nat.le_of_ble_eq_true rfl) dX5_init_52 [(h0, .inr (5, [.ref q0, .ref q1, .int (0 : Int32), .int (0 : Int32), .int (0 : Int32), .int (20 : Int32), .int (0 : Int32), .ref q2])), (q0, .inl (dA 1, 16, .inr (.inl (fun _ => 0)))), (q1, .inl (dA 0, 6, .inl (fun _ => 0))), (q2, .inl (dA 0, 224, .inl (fun _ => 0)))] rfl (fun H locs hw => ?_)
  exact k_vretA (fun i => ([q0, q1, q2] : List Nat).getD i 0) C hw (Nat.le_of_ble_eq_true rfl) (Nat.le_of_ble_eq_true rfl) dX5_init_55

/-! RingPlaces$Standing.<init>(LRingPlaces$Ring;)V -/
set_option maxHeartbeats 4000000 in
set_option maxRecDepth 100000 in
theorem qX8_init (l : Launch) (D : va_G) (dA : Nat → ClassId) (h0 : Nat) (h1 : Nat) : Mc l D dA yX8_init (Cond.code yX8_init cX8_init 3 none :: wA) 1 20 6 96 [.ref h0, .ref h1] [(h0, .inr (8, [.null, .null, .null, .null, .null, .null, .null]))] (fun u => [(h0, .inr (8, [.ref h1, .ref (u 0), .ref (u 1), .ref (u 2), .ref (u 3), .ref (u 4), .ref (u 5)])), ((u 0), .inl (dA 0, 16, .inl (fl 16 (-1 : Int32)))), ((u 1), .inl (dA 0, 16, .inl (fl 16 (-1 : Int32)))), ((u 2), .inl (dA 0, 16, .inl (fun _ => 0))), ((u 3), .inl (dA 0, 16, .inl (fun _ => 0))), ((u 4), .inl (dA 0, 16, .inl (fun _ => 0))), ((u 5), .inl (dA 0, 16, .inl (fun _ => 0)))]) := by
  intro sz
  refine M_ofI (cc := cX8_init) (nL := 3) (ret := none) (own := RX8) (by decide) rfl (Nat.le_of_ble_eq_true rfl) rfl ?_
  intro p e s m below meth c ls hsz C hin hw hl
  subst hsz
  have hl : lv_has ls 3 [(0, .ref h0), (1, .ref h1)] := hl
  have hx := C.1
  have hb := C.2.1
  have hml := C.2.2.1
  have hown := C.2.2.2.1
  have hts := C.2.2.2.2.1
  refine lv_aload_n hx hb dX8_init_0 rfl (lv_at hl 0 rfl) ?_
  refine W.objInit hx hb hown (hts _ wlX8_3) (hts _ wxoi) (hts _ wxoc) rfl (by rw [hml]; exact hl.1) rfl dX8_init_1 (Nat.le_of_ble_eq_true rfl) (Nat.le_of_ble_eq_true rfl) ?_
  refine W.eq (g2 := F0 m 4 ls []) rfl ?_
  refine lv_aload_n hx hb dX8_init_4 rfl (lv_at hl 0 rfl) ?_
  refine lv_bipush (v := (16 : Int32)) hx hb dX8_init_5 (by decide) ?_
  refine k_newI C hw wxaI 16 (by decide) (by decide) (by decide) (Nat.le_of_ble_eq_true rfl) (Nat.le_of_ble_eq_true rfl) dX8_init_7 (fun q0 H hw => ?_)
  refine W.widen (k := 1) (n := 16) (Nat.le_of_ble_eq_true rfl) (Nat.le_of_ble_eq_true rfl) ?_
  have hw : St D [(h0, .inr (8, [.null, .null, .null, .null, .null, .null, .null]))] s [(h0, .inr (8, [.null, .null, .null, .null, .null, .null, .null])), (q0, .inl (dA 0, 16, .inl (fun _ => 0)))] H _ := hw
  refine k_putF C hin hw 0 rfl rfl wiX8 tyX8 tyX8_ok nmX8 1 (by decide) wfX8_9 rfl rfl rfl rfl (Nat.le_of_ble_eq_true rfl) dX8_init_9 [(h0, .inr (8, [.null, .ref q0, .null, .null, .null, .null, .null])), (q0, .inl (dA 0, 16, .inl (fun _ => 0)))] rfl (fun H locs hw => ?_)
  refine lv_aload_n hx hb dX8_init_12 rfl (lv_at hl 0 rfl) ?_
  refine lv_bipush (v := (16 : Int32)) hx hb dX8_init_13 (by decide) ?_
  refine k_newI C hw wxaI 16 (by decide) (by decide) (by decide) (Nat.le_of_ble_eq_true rfl) (Nat.le_of_ble_eq_true rfl) dX8_init_15 (fun q1 H hw => ?_)
  refine W.widen (k := 2) (n := 32) (Nat.le_of_ble_eq_true rfl) (Nat.le_of_ble_eq_true rfl) ?_
  have hw : St D [(h0, .inr (8, [.null, .null, .null, .null, .null, .null, .null]))] s [(h0, .inr (8, [.null, .ref q0, .null, .null, .null, .null, .null])), (q0, .inl (dA 0, 16, .inl (fun _ => 0))), (q1, .inl (dA 0, 16, .inl (fun _ => 0)))] H _ := hw
  refine k_putF C hin hw 0 rfl rfl wiX8 tyX8 tyX8_ok nmX8 2 (by decide) wfX8_15 rfl rfl rfl rfl (Nat.le_of_ble_eq_true rfl) dX8_init_17 [(h0, .inr (8, [.null, .ref q0, .ref q1, .null, .null, .null, .null])), (q0, .inl (dA 0, 16, .inl (fun _ => 0))), (q1, .inl (dA 0, 16, .inl (fun _ => 0)))] rfl (fun H locs hw => ?_)
  refine lv_aload_n hx hb dX8_init_20 rfl (lv_at hl 0 rfl) ?_
  refine lv_bipush (v := (16 : Int32)) hx hb dX8_init_21 (by decide) ?_
  refine k_newI C hw wxaI 16 (by decide) (by decide) (by decide) (Nat.le_of_ble_eq_true rfl) (Nat.le_of_ble_eq_true rfl) dX8_init_23 (fun q2 H hw => ?_)
  refine W.widen (k := 3) (n := 48) (Nat.le_of_ble_eq_true rfl) (Nat.le_of_ble_eq_true rfl) ?_
  have hw : St D [(h0, .inr (8, [.null, .null, .null, .null, .null, .null, .null]))] s [(h0, .inr (8, [.null, .ref q0, .ref q1, .null, .null, .null, .null])), (q0, .inl (dA 0, 16, .inl (fun _ => 0))), (q1, .inl (dA 0, 16, .inl (fun _ => 0))), (q2, .inl (dA 0, 16, .inl (fun _ => 0)))] H _ := hw
  refine k_putF C hin hw 0 rfl rfl wiX8 tyX8 tyX8_ok nmX8 3 (by decide) wfX8_18 rfl rfl rfl rfl (Nat.le_of_ble_eq_true rfl) dX8_init_25 [(h0, .inr (8, [.null, .ref q0, .ref q1, .ref q2, .null, .null, .null])), (q0, .inl (dA 0, 16, .inl (fun _ => 0))), (q1, .inl (dA 0, 16, .inl (fun _ => 0))), (q2, .inl (dA 0, 16, .inl (fun _ => 0)))] rfl (fun H locs hw => ?_)
  refine lv_aload_n hx hb dX8_init_28 rfl (lv_at hl 0 rfl) ?_
  refine lv_bipush (v := (16 : Int32)) hx hb dX8_init_29 (by decide) ?_
  refine k_newI C hw wxaI 16 (by decide) (by decide) (by decide) (Nat.le_of_ble_eq_true rfl) (Nat.le_of_ble_eq_true rfl) dX8_init_31 (fun q3 H hw => ?_)
  refine W.widen (k := 4) (n := 64) (Nat.le_of_ble_eq_true rfl) (Nat.le_of_ble_eq_true rfl) ?_
  have hw : St D [(h0, .inr (8, [.null, .null, .null, .null, .null, .null, .null]))] s [(h0, .inr (8, [.null, .ref q0, .ref q1, .ref q2, .null, .null, .null])), (q0, .inl (dA 0, 16, .inl (fun _ => 0))), (q1, .inl (dA 0, 16, .inl (fun _ => 0))), (q2, .inl (dA 0, 16, .inl (fun _ => 0))), (q3, .inl (dA 0, 16, .inl (fun _ => 0)))] H _ := hw
  refine k_putF C hin hw 0 rfl rfl wiX8 tyX8 tyX8_ok nmX8 4 (by decide) wfX8_21 rfl rfl rfl rfl (Nat.le_of_ble_eq_true rfl) dX8_init_33 [(h0, .inr (8, [.null, .ref q0, .ref q1, .ref q2, .ref q3, .null, .null])), (q0, .inl (dA 0, 16, .inl (fun _ => 0))), (q1, .inl (dA 0, 16, .inl (fun _ => 0))), (q2, .inl (dA 0, 16, .inl (fun _ => 0))), (q3, .inl (dA 0, 16, .inl (fun _ => 0)))] rfl (fun H locs hw => ?_)
  refine lv_aload_n hx hb dX8_init_36 rfl (lv_at hl 0 rfl) ?_
  refine lv_bipush (v := (16 : Int32)) hx hb dX8_init_37 (by decide) ?_
  refine k_newI C hw wxaI 16 (by decide) (by decide) (by decide) (Nat.le_of_ble_eq_true rfl) (Nat.le_of_ble_eq_true rfl) dX8_init_39 (fun q4 H hw => ?_)
  refine W.widen (k := 5) (n := 80) (Nat.le_of_ble_eq_true rfl) (Nat.le_of_ble_eq_true rfl) ?_
  have hw : St D [(h0, .inr (8, [.null, .null, .null, .null, .null, .null, .null]))] s [(h0, .inr (8, [.null, .ref q0, .ref q1, .ref q2, .ref q3, .null, .null])), (q0, .inl (dA 0, 16, .inl (fun _ => 0))), (q1, .inl (dA 0, 16, .inl (fun _ => 0))), (q2, .inl (dA 0, 16, .inl (fun _ => 0))), (q3, .inl (dA 0, 16, .inl (fun _ => 0))), (q4, .inl (dA 0, 16, .inl (fun _ => 0)))] H _ := hw
  refine k_putF C hin hw 0 rfl rfl wiX8 tyX8 tyX8_ok nmX8 5 (by decide) wfX8_24 rfl rfl rfl rfl (Nat.le_of_ble_eq_true rfl) dX8_init_41 [(h0, .inr (8, [.null, .ref q0, .ref q1, .ref q2, .ref q3, .ref q4, .null])), (q0, .inl (dA 0, 16, .inl (fun _ => 0))), (q1, .inl (dA 0, 16, .inl (fun _ => 0))), (q2, .inl (dA 0, 16, .inl (fun _ => 0))), (q3, .inl (dA 0, 16, .inl (fun _ => 0))), (q4, .inl (dA 0, 16, .inl (fun _ => 0)))] rfl (fun H locs hw => ?_)
  refine lv_aload_n hx hb dX8_init_44 rfl (lv_at hl 0 rfl) ?_
  refine lv_bipush (v := (16 : Int32)) hx hb dX8_init_45 (by decide) ?_
  refine k_newI C hw wxaI 16 (by decide) (by decide) (by decide) (Nat.le_of_ble_eq_true rfl) (Nat.le_of_ble_eq_true rfl) dX8_init_47 (fun q5 H hw => ?_)
  refine W.widen (k := 6) (n := 96) (Nat.le_of_ble_eq_true rfl) (Nat.le_of_ble_eq_true rfl) ?_
  have hw : St D [(h0, .inr (8, [.null, .null, .null, .null, .null, .null, .null]))] s [(h0, .inr (8, [.null, .ref q0, .ref q1, .ref q2, .ref q3, .ref q4, .null])), (q0, .inl (dA 0, 16, .inl (fun _ => 0))), (q1, .inl (dA 0, 16, .inl (fun _ => 0))), (q2, .inl (dA 0, 16, .inl (fun _ => 0))), (q3, .inl (dA 0, 16, .inl (fun _ => 0))), (q4, .inl (dA 0, 16, .inl (fun _ => 0))), (q5, .inl (dA 0, 16, .inl (fun _ => 0)))] H _ := hw
  refine k_putF C hin hw 0 rfl rfl wiX8 tyX8 tyX8_ok nmX8 6 (by decide) wfX8_27 rfl rfl rfl rfl (Nat.le_of_ble_eq_true rfl) dX8_init_49 [(h0, .inr (8, [.null, .ref q0, .ref q1, .ref q2, .ref q3, .ref q4, .ref q5])), (q0, .inl (dA 0, 16, .inl (fun _ => 0))), (q1, .inl (dA 0, 16, .inl (fun _ => 0))), (q2, .inl (dA 0, 16, .inl (fun _ => 0))), (q3, .inl (dA 0, 16, .inl (fun _ => 0))), (q4, .inl (dA 0, 16, .inl (fun _ => 0))), (q5, .inl (dA 0, 16, .inl (fun _ => 0)))] rfl (fun H locs hw => ?_)
  refine lv_aload_n hx hb dX8_init_52 rfl (lv_at hl 0 rfl) ?_
  refine lv_aload_n hx hb dX8_init_53 rfl (lv_at hl 1 rfl) ?_
  refine k_putF C hin hw 0 rfl rfl wiX8 tyX8 tyX8_ok nmX8 0 (by decide) wfX8_30 rfl rfl rfl rfl (Nat.le_of_ble_eq_true rfl) dX8_init_54 [(h0, .inr (8, [.ref h1, .ref q0, .ref q1, .ref q2, .ref q3, .ref q4, .ref q5])), (q0, .inl (dA 0, 16, .inl (fun _ => 0))), (q1, .inl (dA 0, 16, .inl (fun _ => 0))), (q2, .inl (dA 0, 16, .inl (fun _ => 0))), (q3, .inl (dA 0, 16, .inl (fun _ => 0))), (q4, .inl (dA 0, 16, .inl (fun _ => 0))), (q5, .inl (dA 0, 16, .inl (fun _ => 0)))] rfl (fun H locs hw => ?_)
  refine lv_iconst (v := (0 : Int32)) hx hb dX8_init_57 (by decide) ?_
  refine lv_istore_n (lv' := [(2, .int (0 : Int32)), (0, .ref h0), (1, .ref h1)]) hx hb dX8_init_58 rfl hl (by decide) rfl (fun ls hl => ?_)
  refine lv_iload_n hx hb dX8_init_59 rfl (lv_at hl 0 rfl) ?_
  refine lv_bipush (v := (16 : Int32)) hx hb dX8_init_60 (by decide) ?_
  refine lv_icmp_ge (tgt := 85) hx hb dX8_init_62 (by decide) (fun c => absurd c (by decide)) (fun _ => ?_)
  refine lv_aload_n hx hb dX8_init_65 rfl (lv_at hl 1 rfl) ?_
  refine k_get C hw 0 rfl rfl wiX8 1 (by decide) wfX8_9 rfl dX8_init_66 ?_
  refine lv_iload_n hx hb dX8_init_69 rfl (lv_at hl 0 rfl) ?_
  refine lv_iconst (v := (-1 : Int32)) hx hb dX8_init_70 (by decide) ?_
  refine k_iast C hw 1 rfl (by unfold vp_in; decide) dX8_init_71 (fl 1 (-1 : Int32)) ((fl_s 0 (-1 : Int32)).trans (by rw [fl_0]; rfl)) [(h0, .inr (8, [.ref h1, .ref q0, .ref q1, .ref q2, .ref q3, .ref q4, .ref q5])), (q0, .inl (dA 0, 16, .inl (fl 1 (-1 : Int32)))), (q1, .inl (dA 0, 16, .inl (fun _ => 0))), (q2, .inl (dA 0, 16, .inl (fun _ => 0))), (q3, .inl (dA 0, 16, .inl (fun _ => 0))), (q4, .inl (dA 0, 16, .inl (fun _ => 0))), (q5, .inl (dA 0, 16, .inl (fun _ => 0)))] rfl (fun H locs hw => ?_)
  refine lv_aload_n hx hb dX8_init_72 rfl (lv_at hl 1 rfl) ?_
  refine k_get C hw 0 rfl rfl wiX8 2 (by decide) wfX8_15 rfl dX8_init_73 ?_
  refine lv_iload_n hx hb dX8_init_76 rfl (lv_at hl 0 rfl) ?_
  refine lv_iconst (v := (-1 : Int32)) hx hb dX8_init_77 (by decide) ?_
  refine k_iast C hw 2 rfl (by unfold vp_in; decide) dX8_init_78 (fl 1 (-1 : Int32)) ((fl_s 0 (-1 : Int32)).trans (by rw [fl_0]; rfl)) [(h0, .inr (8, [.ref h1, .ref q0, .ref q1, .ref q2, .ref q3, .ref q4, .ref q5])), (q0, .inl (dA 0, 16, .inl (fl 1 (-1 : Int32)))), (q1, .inl (dA 0, 16, .inl (fl 1 (-1 : Int32)))), (q2, .inl (dA 0, 16, .inl (fun _ => 0))), (q3, .inl (dA 0, 16, .inl (fun _ => 0))), (q4, .inl (dA 0, 16, .inl (fun _ => 0))), (q5, .inl (dA 0, 16, .inl (fun _ => 0)))] rfl (fun H locs hw => ?_)
  refine lv_iinc (v := (1 : Int32)) (lv' := [(2, .int (1 : Int32)), (0, .ref h0), (1, .ref h1)]) hx hb dX8_init_79 hl (k := 0) rfl (by decide) (by decide) rfl (fun ls hl => ?_)
  refine lv_goto (tgt := 59) hx hb dX8_init_82 (by decide) ?_
  refine lv_iload_n hx hb dX8_init_59 rfl (lv_at hl 0 rfl) ?_
  refine lv_bipush (v := (16 : Int32)) hx hb dX8_init_60 (by decide) ?_
  refine lv_icmp_ge (tgt := 85) hx hb dX8_init_62 (by decide) (fun c => absurd c (by decide)) (fun _ => ?_)
  refine lv_aload_n hx hb dX8_init_65 rfl (lv_at hl 1 rfl) ?_
  refine k_get C hw 0 rfl rfl wiX8 1 (by decide) wfX8_9 rfl dX8_init_66 ?_
  refine lv_iload_n hx hb dX8_init_69 rfl (lv_at hl 0 rfl) ?_
  refine lv_iconst (v := (-1 : Int32)) hx hb dX8_init_70 (by decide) ?_
  refine k_iast C hw 1 rfl (by unfold vp_in; decide) dX8_init_71 (fl 2 (-1 : Int32)) (fl_s 1 (-1 : Int32)) [(h0, .inr (8, [.ref h1, .ref q0, .ref q1, .ref q2, .ref q3, .ref q4, .ref q5])), (q0, .inl (dA 0, 16, .inl (fl 2 (-1 : Int32)))), (q1, .inl (dA 0, 16, .inl (fl 1 (-1 : Int32)))), (q2, .inl (dA 0, 16, .inl (fun _ => 0))), (q3, .inl (dA 0, 16, .inl (fun _ => 0))), (q4, .inl (dA 0, 16, .inl (fun _ => 0))), (q5, .inl (dA 0, 16, .inl (fun _ => 0)))] rfl (fun H locs hw => ?_)
  refine lv_aload_n hx hb dX8_init_72 rfl (lv_at hl 1 rfl) ?_
  refine k_get C hw 0 rfl rfl wiX8 2 (by decide) wfX8_15 rfl dX8_init_73 ?_
  refine lv_iload_n hx hb dX8_init_76 rfl (lv_at hl 0 rfl) ?_
  refine lv_iconst (v := (-1 : Int32)) hx hb dX8_init_77 (by decide) ?_
  refine k_iast C hw 2 rfl (by unfold vp_in; decide) dX8_init_78 (fl 2 (-1 : Int32)) (fl_s 1 (-1 : Int32)) [(h0, .inr (8, [.ref h1, .ref q0, .ref q1, .ref q2, .ref q3, .ref q4, .ref q5])), (q0, .inl (dA 0, 16, .inl (fl 2 (-1 : Int32)))), (q1, .inl (dA 0, 16, .inl (fl 2 (-1 : Int32)))), (q2, .inl (dA 0, 16, .inl (fun _ => 0))), (q3, .inl (dA 0, 16, .inl (fun _ => 0))), (q4, .inl (dA 0, 16, .inl (fun _ => 0))), (q5, .inl (dA 0, 16, .inl (fun _ => 0)))] rfl (fun H locs hw => ?_)
  refine lv_iinc (v := (2 : Int32)) (lv' := [(2, .int (2 : Int32)), (0, .ref h0), (1, .ref h1)]) hx hb dX8_init_79 hl (k := 0) rfl (by decide) (by decide) rfl (fun ls hl => ?_)
  refine lv_goto (tgt := 59) hx hb dX8_init_82 (by decide) ?_
  refine lv_iload_n hx hb dX8_init_59 rfl (lv_at hl 0 rfl) ?_
  refine lv_bipush (v := (16 : Int32)) hx hb dX8_init_60 (by decide) ?_
  refine lv_icmp_ge (tgt := 85) hx hb dX8_init_62 (by decide) (fun c => absurd c (by decide)) (fun _ => ?_)
  refine lv_aload_n hx hb dX8_init_65 rfl (lv_at hl 1 rfl) ?_
  refine k_get C hw 0 rfl rfl wiX8 1 (by decide) wfX8_9 rfl dX8_init_66 ?_
  refine lv_iload_n hx hb dX8_init_69 rfl (lv_at hl 0 rfl) ?_
  refine lv_iconst (v := (-1 : Int32)) hx hb dX8_init_70 (by decide) ?_
  refine k_iast C hw 1 rfl (by unfold vp_in; decide) dX8_init_71 (fl 3 (-1 : Int32)) (fl_s 2 (-1 : Int32)) [(h0, .inr (8, [.ref h1, .ref q0, .ref q1, .ref q2, .ref q3, .ref q4, .ref q5])), (q0, .inl (dA 0, 16, .inl (fl 3 (-1 : Int32)))), (q1, .inl (dA 0, 16, .inl (fl 2 (-1 : Int32)))), (q2, .inl (dA 0, 16, .inl (fun _ => 0))), (q3, .inl (dA 0, 16, .inl (fun _ => 0))), (q4, .inl (dA 0, 16, .inl (fun _ => 0))), (q5, .inl (dA 0, 16, .inl (fun _ => 0)))] rfl (fun H locs hw => ?_)
  refine lv_aload_n hx hb dX8_init_72 rfl (lv_at hl 1 rfl) ?_
  refine k_get C hw 0 rfl rfl wiX8 2 (by decide) wfX8_15 rfl dX8_init_73 ?_
  refine lv_iload_n hx hb dX8_init_76 rfl (lv_at hl 0 rfl) ?_
  refine lv_iconst (v := (-1 : Int32)) hx hb dX8_init_77 (by decide) ?_
  refine k_iast C hw 2 rfl (by unfold vp_in; decide) dX8_init_78 (fl 3 (-1 : Int32)) (fl_s 2 (-1 : Int32)) [(h0, .inr (8, [.ref h1, .ref q0, .ref q1, .ref q2, .ref q3, .ref q4, .ref q5])), (q0, .inl (dA 0, 16, .inl (fl 3 (-1 : Int32)))), (q1, .inl (dA 0, 16, .inl (fl 3 (-1 : Int32)))), (q2, .inl (dA 0, 16, .inl (fun _ => 0))), (q3, .inl (dA 0, 16, .inl (fun _ => 0))), (q4, .inl (dA 0, 16, .inl (fun _ => 0))), (q5, .inl (dA 0, 16, .inl (fun _ => 0)))] rfl (fun H locs hw => ?_)
  refine lv_iinc (v := (3 : Int32)) (lv' := [(2, .int (3 : Int32)), (0, .ref h0), (1, .ref h1)]) hx hb dX8_init_79 hl (k := 0) rfl (by decide) (by decide) rfl (fun ls hl => ?_)
  refine lv_goto (tgt := 59) hx hb dX8_init_82 (by decide) ?_
  refine lv_iload_n hx hb dX8_init_59 rfl (lv_at hl 0 rfl) ?_
  refine lv_bipush (v := (16 : Int32)) hx hb dX8_init_60 (by decide) ?_
  refine lv_icmp_ge (tgt := 85) hx hb dX8_init_62 (by decide) (fun c => absurd c (by decide)) (fun _ => ?_)
  refine lv_aload_n hx hb dX8_init_65 rfl (lv_at hl 1 rfl) ?_
  refine k_get C hw 0 rfl rfl wiX8 1 (by decide) wfX8_9 rfl dX8_init_66 ?_
  refine lv_iload_n hx hb dX8_init_69 rfl (lv_at hl 0 rfl) ?_
  refine lv_iconst (v := (-1 : Int32)) hx hb dX8_init_70 (by decide) ?_
  refine k_iast C hw 1 rfl (by unfold vp_in; decide) dX8_init_71 (fl 4 (-1 : Int32)) (fl_s 3 (-1 : Int32)) [(h0, .inr (8, [.ref h1, .ref q0, .ref q1, .ref q2, .ref q3, .ref q4, .ref q5])), (q0, .inl (dA 0, 16, .inl (fl 4 (-1 : Int32)))), (q1, .inl (dA 0, 16, .inl (fl 3 (-1 : Int32)))), (q2, .inl (dA 0, 16, .inl (fun _ => 0))), (q3, .inl (dA 0, 16, .inl (fun _ => 0))), (q4, .inl (dA 0, 16, .inl (fun _ => 0))), (q5, .inl (dA 0, 16, .inl (fun _ => 0)))] rfl (fun H locs hw => ?_)
  refine lv_aload_n hx hb dX8_init_72 rfl (lv_at hl 1 rfl) ?_
  refine k_get C hw 0 rfl rfl wiX8 2 (by decide) wfX8_15 rfl dX8_init_73 ?_
  refine lv_iload_n hx hb dX8_init_76 rfl (lv_at hl 0 rfl) ?_
  refine lv_iconst (v := (-1 : Int32)) hx hb dX8_init_77 (by decide) ?_
  refine k_iast C hw 2 rfl (by unfold vp_in; decide) dX8_init_78 (fl 4 (-1 : Int32)) (fl_s 3 (-1 : Int32)) [(h0, .inr (8, [.ref h1, .ref q0, .ref q1, .ref q2, .ref q3, .ref q4, .ref q5])), (q0, .inl (dA 0, 16, .inl (fl 4 (-1 : Int32)))), (q1, .inl (dA 0, 16, .inl (fl 4 (-1 : Int32)))), (q2, .inl (dA 0, 16, .inl (fun _ => 0))), (q3, .inl (dA 0, 16, .inl (fun _ => 0))), (q4, .inl (dA 0, 16, .inl (fun _ => 0))), (q5, .inl (dA 0, 16, .inl (fun _ => 0)))] rfl (fun H locs hw => ?_)
  refine lv_iinc (v := (4 : Int32)) (lv' := [(2, .int (4 : Int32)), (0, .ref h0), (1, .ref h1)]) hx hb dX8_init_79 hl (k := 0) rfl (by decide) (by decide) rfl (fun ls hl => ?_)
  refine lv_goto (tgt := 59) hx hb dX8_init_82 (by decide) ?_
  refine lv_iload_n hx hb dX8_init_59 rfl (lv_at hl 0 rfl) ?_
  refine lv_bipush (v := (16 : Int32)) hx hb dX8_init_60 (by decide) ?_
  refine lv_icmp_ge (tgt := 85) hx hb dX8_init_62 (by decide) (fun c => absurd c (by decide)) (fun _ => ?_)
  refine lv_aload_n hx hb dX8_init_65 rfl (lv_at hl 1 rfl) ?_
  refine k_get C hw 0 rfl rfl wiX8 1 (by decide) wfX8_9 rfl dX8_init_66 ?_
  refine lv_iload_n hx hb dX8_init_69 rfl (lv_at hl 0 rfl) ?_
  refine lv_iconst (v := (-1 : Int32)) hx hb dX8_init_70 (by decide) ?_
  refine k_iast C hw 1 rfl (by unfold vp_in; decide) dX8_init_71 (fl 5 (-1 : Int32)) (fl_s 4 (-1 : Int32)) [(h0, .inr (8, [.ref h1, .ref q0, .ref q1, .ref q2, .ref q3, .ref q4, .ref q5])), (q0, .inl (dA 0, 16, .inl (fl 5 (-1 : Int32)))), (q1, .inl (dA 0, 16, .inl (fl 4 (-1 : Int32)))), (q2, .inl (dA 0, 16, .inl (fun _ => 0))), (q3, .inl (dA 0, 16, .inl (fun _ => 0))), (q4, .inl (dA 0, 16, .inl (fun _ => 0))), (q5, .inl (dA 0, 16, .inl (fun _ => 0)))] rfl (fun H locs hw => ?_)
  refine lv_aload_n hx hb dX8_init_72 rfl (lv_at hl 1 rfl) ?_
  refine k_get C hw 0 rfl rfl wiX8 2 (by decide) wfX8_15 rfl dX8_init_73 ?_
  refine lv_iload_n hx hb dX8_init_76 rfl (lv_at hl 0 rfl) ?_
  refine lv_iconst (v := (-1 : Int32)) hx hb dX8_init_77 (by decide) ?_
  refine k_iast C hw 2 rfl (by unfold vp_in; decide) dX8_init_78 (fl 5 (-1 : Int32)) (fl_s 4 (-1 : Int32)) [(h0, .inr (8, [.ref h1, .ref q0, .ref q1, .ref q2, .ref q3, .ref q4, .ref q5])), (q0, .inl (dA 0, 16, .inl (fl 5 (-1 : Int32)))), (q1, .inl (dA 0, 16, .inl (fl 5 (-1 : Int32)))), (q2, .inl (dA 0, 16, .inl (fun _ => 0))), (q3, .inl (dA 0, 16, .inl (fun _ => 0))), (q4, .inl (dA 0, 16, .inl (fun _ => 0))), (q5, .inl (dA 0, 16, .inl (fun _ => 0)))] rfl (fun H locs hw => ?_)
  refine lv_iinc (v := (5 : Int32)) (lv' := [(2, .int (5 : Int32)), (0, .ref h0), (1, .ref h1)]) hx hb dX8_init_79 hl (k := 0) rfl (by decide) (by decide) rfl (fun ls hl => ?_)
  refine lv_goto (tgt := 59) hx hb dX8_init_82 (by decide) ?_
  refine lv_iload_n hx hb dX8_init_59 rfl (lv_at hl 0 rfl) ?_
  refine lv_bipush (v := (16 : Int32)) hx hb dX8_init_60 (by decide) ?_
  refine lv_icmp_ge (tgt := 85) hx hb dX8_init_62 (by decide) (fun c => absurd c (by decide)) (fun _ => ?_)
  refine lv_aload_n hx hb dX8_init_65 rfl (lv_at hl 1 rfl) ?_
  refine k_get C hw 0 rfl rfl wiX8 1 (by decide) wfX8_9 rfl dX8_init_66 ?_
  refine lv_iload_n hx hb dX8_init_69 rfl (lv_at hl 0 rfl) ?_
  refine lv_iconst (v := (-1 : Int32)) hx hb dX8_init_70 (by decide) ?_
  refine k_iast C hw 1 rfl (by unfold vp_in; decide) dX8_init_71 (fl 6 (-1 : Int32)) (fl_s 5 (-1 : Int32)) [(h0, .inr (8, [.ref h1, .ref q0, .ref q1, .ref q2, .ref q3, .ref q4, .ref q5])), (q0, .inl (dA 0, 16, .inl (fl 6 (-1 : Int32)))), (q1, .inl (dA 0, 16, .inl (fl 5 (-1 : Int32)))), (q2, .inl (dA 0, 16, .inl (fun _ => 0))), (q3, .inl (dA 0, 16, .inl (fun _ => 0))), (q4, .inl (dA 0, 16, .inl (fun _ => 0))), (q5, .inl (dA 0, 16, .inl (fun _ => 0)))] rfl (fun H locs hw => ?_)
  refine lv_aload_n hx hb dX8_init_72 rfl (lv_at hl 1 rfl) ?_
  refine k_get C hw 0 rfl rfl wiX8 2 (by decide) wfX8_15 rfl dX8_init_73 ?_
  refine lv_iload_n hx hb dX8_init_76 rfl (lv_at hl 0 rfl) ?_
  refine lv_iconst (v := (-1 : Int32)) hx hb dX8_init_77 (by decide) ?_
  refine k_iast C hw 2 rfl (by unfold vp_in; decide) dX8_init_78 (fl 6 (-1 : Int32)) (fl_s 5 (-1 : Int32)) [(h0, .inr (8, [.ref h1, .ref q0, .ref q1, .ref q2, .ref q3, .ref q4, .ref q5])), (q0, .inl (dA 0, 16, .inl (fl 6 (-1 : Int32)))), (q1, .inl (dA 0, 16, .inl (fl 6 (-1 : Int32)))), (q2, .inl (dA 0, 16, .inl (fun _ => 0))), (q3, .inl (dA 0, 16, .inl (fun _ => 0))), (q4, .inl (dA 0, 16, .inl (fun _ => 0))), (q5, .inl (dA 0, 16, .inl (fun _ => 0)))] rfl (fun H locs hw => ?_)
  refine lv_iinc (v := (6 : Int32)) (lv' := [(2, .int (6 : Int32)), (0, .ref h0), (1, .ref h1)]) hx hb dX8_init_79 hl (k := 0) rfl (by decide) (by decide) rfl (fun ls hl => ?_)
  refine lv_goto (tgt := 59) hx hb dX8_init_82 (by decide) ?_
  refine lv_iload_n hx hb dX8_init_59 rfl (lv_at hl 0 rfl) ?_
  refine lv_bipush (v := (16 : Int32)) hx hb dX8_init_60 (by decide) ?_
  refine lv_icmp_ge (tgt := 85) hx hb dX8_init_62 (by decide) (fun c => absurd c (by decide)) (fun _ => ?_)
  refine lv_aload_n hx hb dX8_init_65 rfl (lv_at hl 1 rfl) ?_
  refine k_get C hw 0 rfl rfl wiX8 1 (by decide) wfX8_9 rfl dX8_init_66 ?_
  refine lv_iload_n hx hb dX8_init_69 rfl (lv_at hl 0 rfl) ?_
  refine lv_iconst (v := (-1 : Int32)) hx hb dX8_init_70 (by decide) ?_
  refine k_iast C hw 1 rfl (by unfold vp_in; decide) dX8_init_71 (fl 7 (-1 : Int32)) (fl_s 6 (-1 : Int32)) [(h0, .inr (8, [.ref h1, .ref q0, .ref q1, .ref q2, .ref q3, .ref q4, .ref q5])), (q0, .inl (dA 0, 16, .inl (fl 7 (-1 : Int32)))), (q1, .inl (dA 0, 16, .inl (fl 6 (-1 : Int32)))), (q2, .inl (dA 0, 16, .inl (fun _ => 0))), (q3, .inl (dA 0, 16, .inl (fun _ => 0))), (q4, .inl (dA 0, 16, .inl (fun _ => 0))), (q5, .inl (dA 0, 16, .inl (fun _ => 0)))] rfl (fun H locs hw => ?_)
  refine lv_aload_n hx hb dX8_init_72 rfl (lv_at hl 1 rfl) ?_
  refine k_get C hw 0 rfl rfl wiX8 2 (by decide) wfX8_15 rfl dX8_init_73 ?_
  refine lv_iload_n hx hb dX8_init_76 rfl (lv_at hl 0 rfl) ?_
  refine lv_iconst (v := (-1 : Int32)) hx hb dX8_init_77 (by decide) ?_
  refine k_iast C hw 2 rfl (by unfold vp_in; decide) dX8_init_78 (fl 7 (-1 : Int32)) (fl_s 6 (-1 : Int32)) [(h0, .inr (8, [.ref h1, .ref q0, .ref q1, .ref q2, .ref q3, .ref q4, .ref q5])), (q0, .inl (dA 0, 16, .inl (fl 7 (-1 : Int32)))), (q1, .inl (dA 0, 16, .inl (fl 7 (-1 : Int32)))), (q2, .inl (dA 0, 16, .inl (fun _ => 0))), (q3, .inl (dA 0, 16, .inl (fun _ => 0))), (q4, .inl (dA 0, 16, .inl (fun _ => 0))), (q5, .inl (dA 0, 16, .inl (fun _ => 0)))] rfl (fun H locs hw => ?_)
  refine lv_iinc (v := (7 : Int32)) (lv' := [(2, .int (7 : Int32)), (0, .ref h0), (1, .ref h1)]) hx hb dX8_init_79 hl (k := 0) rfl (by decide) (by decide) rfl (fun ls hl => ?_)
  refine lv_goto (tgt := 59) hx hb dX8_init_82 (by decide) ?_
  refine lv_iload_n hx hb dX8_init_59 rfl (lv_at hl 0 rfl) ?_
  refine lv_bipush (v := (16 : Int32)) hx hb dX8_init_60 (by decide) ?_
  refine lv_icmp_ge (tgt := 85) hx hb dX8_init_62 (by decide) (fun c => absurd c (by decide)) (fun _ => ?_)
  refine lv_aload_n hx hb dX8_init_65 rfl (lv_at hl 1 rfl) ?_
  refine k_get C hw 0 rfl rfl wiX8 1 (by decide) wfX8_9 rfl dX8_init_66 ?_
  refine lv_iload_n hx hb dX8_init_69 rfl (lv_at hl 0 rfl) ?_
  refine lv_iconst (v := (-1 : Int32)) hx hb dX8_init_70 (by decide) ?_
  refine k_iast C hw 1 rfl (by unfold vp_in; decide) dX8_init_71 (fl 8 (-1 : Int32)) (fl_s 7 (-1 : Int32)) [(h0, .inr (8, [.ref h1, .ref q0, .ref q1, .ref q2, .ref q3, .ref q4, .ref q5])), (q0, .inl (dA 0, 16, .inl (fl 8 (-1 : Int32)))), (q1, .inl (dA 0, 16, .inl (fl 7 (-1 : Int32)))), (q2, .inl (dA 0, 16, .inl (fun _ => 0))), (q3, .inl (dA 0, 16, .inl (fun _ => 0))), (q4, .inl (dA 0, 16, .inl (fun _ => 0))), (q5, .inl (dA 0, 16, .inl (fun _ => 0)))] rfl (fun H locs hw => ?_)
  refine lv_aload_n hx hb dX8_init_72 rfl (lv_at hl 1 rfl) ?_
  refine k_get C hw 0 rfl rfl wiX8 2 (by decide) wfX8_15 rfl dX8_init_73 ?_
  refine lv_iload_n hx hb dX8_init_76 rfl (lv_at hl 0 rfl) ?_
  refine lv_iconst (v := (-1 : Int32)) hx hb dX8_init_77 (by decide) ?_
  refine k_iast C hw 2 rfl (by unfold vp_in; decide) dX8_init_78 (fl 8 (-1 : Int32)) (fl_s 7 (-1 : Int32)) [(h0, .inr (8, [.ref h1, .ref q0, .ref q1, .ref q2, .ref q3, .ref q4, .ref q5])), (q0, .inl (dA 0, 16, .inl (fl 8 (-1 : Int32)))), (q1, .inl (dA 0, 16, .inl (fl 8 (-1 : Int32)))), (q2, .inl (dA 0, 16, .inl (fun _ => 0))), (q3, .inl (dA 0, 16, .inl (fun _ => 0))), (q4, .inl (dA 0, 16, .inl (fun _ => 0))), (q5, .inl (dA 0, 16, .inl (fun _ => 0)))] rfl (fun H locs hw => ?_)
  refine lv_iinc (v := (8 : Int32)) (lv' := [(2, .int (8 : Int32)), (0, .ref h0), (1, .ref h1)]) hx hb dX8_init_79 hl (k := 0) rfl (by decide) (by decide) rfl (fun ls hl => ?_)
  refine lv_goto (tgt := 59) hx hb dX8_init_82 (by decide) ?_
  refine lv_iload_n hx hb dX8_init_59 rfl (lv_at hl 0 rfl) ?_
  refine lv_bipush (v := (16 : Int32)) hx hb dX8_init_60 (by decide) ?_
  refine lv_icmp_ge (tgt := 85) hx hb dX8_init_62 (by decide) (fun c => absurd c (by decide)) (fun _ => ?_)
  refine lv_aload_n hx hb dX8_init_65 rfl (lv_at hl 1 rfl) ?_
  refine k_get C hw 0 rfl rfl wiX8 1 (by decide) wfX8_9 rfl dX8_init_66 ?_
  refine lv_iload_n hx hb dX8_init_69 rfl (lv_at hl 0 rfl) ?_
  refine lv_iconst (v := (-1 : Int32)) hx hb dX8_init_70 (by decide) ?_
  refine k_iast C hw 1 rfl (by unfold vp_in; decide) dX8_init_71 (fl 9 (-1 : Int32)) (fl_s 8 (-1 : Int32)) [(h0, .inr (8, [.ref h1, .ref q0, .ref q1, .ref q2, .ref q3, .ref q4, .ref q5])), (q0, .inl (dA 0, 16, .inl (fl 9 (-1 : Int32)))), (q1, .inl (dA 0, 16, .inl (fl 8 (-1 : Int32)))), (q2, .inl (dA 0, 16, .inl (fun _ => 0))), (q3, .inl (dA 0, 16, .inl (fun _ => 0))), (q4, .inl (dA 0, 16, .inl (fun _ => 0))), (q5, .inl (dA 0, 16, .inl (fun _ => 0)))] rfl (fun H locs hw => ?_)
  refine lv_aload_n hx hb dX8_init_72 rfl (lv_at hl 1 rfl) ?_
  refine k_get C hw 0 rfl rfl wiX8 2 (by decide) wfX8_15 rfl dX8_init_73 ?_
  refine lv_iload_n hx hb dX8_init_76 rfl (lv_at hl 0 rfl) ?_
  refine lv_iconst (v := (-1 : Int32)) hx hb dX8_init_77 (by decide) ?_
  refine k_iast C hw 2 rfl (by unfold vp_in; decide) dX8_init_78 (fl 9 (-1 : Int32)) (fl_s 8 (-1 : Int32)) [(h0, .inr (8, [.ref h1, .ref q0, .ref q1, .ref q2, .ref q3, .ref q4, .ref q5])), (q0, .inl (dA 0, 16, .inl (fl 9 (-1 : Int32)))), (q1, .inl (dA 0, 16, .inl (fl 9 (-1 : Int32)))), (q2, .inl (dA 0, 16, .inl (fun _ => 0))), (q3, .inl (dA 0, 16, .inl (fun _ => 0))), (q4, .inl (dA 0, 16, .inl (fun _ => 0))), (q5, .inl (dA 0, 16, .inl (fun _ => 0)))] rfl (fun H locs hw => ?_)
  refine lv_iinc (v := (9 : Int32)) (lv' := [(2, .int (9 : Int32)), (0, .ref h0), (1, .ref h1)]) hx hb dX8_init_79 hl (k := 0) rfl (by decide) (by decide) rfl (fun ls hl => ?_)
  refine lv_goto (tgt := 59) hx hb dX8_init_82 (by decide) ?_
  refine lv_iload_n hx hb dX8_init_59 rfl (lv_at hl 0 rfl) ?_
  refine lv_bipush (v := (16 : Int32)) hx hb dX8_init_60 (by decide) ?_
  refine lv_icmp_ge (tgt := 85) hx hb dX8_init_62 (by decide) (fun c => absurd c (by decide)) (fun _ => ?_)
  refine lv_aload_n hx hb dX8_init_65 rfl (lv_at hl 1 rfl) ?_
  refine k_get C hw 0 rfl rfl wiX8 1 (by decide) wfX8_9 rfl dX8_init_66 ?_
  refine lv_iload_n hx hb dX8_init_69 rfl (lv_at hl 0 rfl) ?_
  refine lv_iconst (v := (-1 : Int32)) hx hb dX8_init_70 (by decide) ?_
  refine k_iast C hw 1 rfl (by unfold vp_in; decide) dX8_init_71 (fl 10 (-1 : Int32)) (fl_s 9 (-1 : Int32)) [(h0, .inr (8, [.ref h1, .ref q0, .ref q1, .ref q2, .ref q3, .ref q4, .ref q5])), (q0, .inl (dA 0, 16, .inl (fl 10 (-1 : Int32)))), (q1, .inl (dA 0, 16, .inl (fl 9 (-1 : Int32)))), (q2, .inl (dA 0, 16, .inl (fun _ => 0))), (q3, .inl (dA 0, 16, .inl (fun _ => 0))), (q4, .inl (dA 0, 16, .inl (fun _ => 0))), (q5, .inl (dA 0, 16, .inl (fun _ => 0)))] rfl (fun H locs hw => ?_)
  refine lv_aload_n hx hb dX8_init_72 rfl (lv_at hl 1 rfl) ?_
  refine k_get C hw 0 rfl rfl wiX8 2 (by decide) wfX8_15 rfl dX8_init_73 ?_
  refine lv_iload_n hx hb dX8_init_76 rfl (lv_at hl 0 rfl) ?_
  refine lv_iconst (v := (-1 : Int32)) hx hb dX8_init_77 (by decide) ?_
  refine k_iast C hw 2 rfl (by unfold vp_in; decide) dX8_init_78 (fl 10 (-1 : Int32)) (fl_s 9 (-1 : Int32)) [(h0, .inr (8, [.ref h1, .ref q0, .ref q1, .ref q2, .ref q3, .ref q4, .ref q5])), (q0, .inl (dA 0, 16, .inl (fl 10 (-1 : Int32)))), (q1, .inl (dA 0, 16, .inl (fl 10 (-1 : Int32)))), (q2, .inl (dA 0, 16, .inl (fun _ => 0))), (q3, .inl (dA 0, 16, .inl (fun _ => 0))), (q4, .inl (dA 0, 16, .inl (fun _ => 0))), (q5, .inl (dA 0, 16, .inl (fun _ => 0)))] rfl (fun H locs hw => ?_)
  refine lv_iinc (v := (10 : Int32)) (lv' := [(2, .int (10 : Int32)), (0, .ref h0), (1, .ref h1)]) hx hb dX8_init_79 hl (k := 0) rfl (by decide) (by decide) rfl (fun ls hl => ?_)
  refine lv_goto (tgt := 59) hx hb dX8_init_82 (by decide) ?_
  refine lv_iload_n hx hb dX8_init_59 rfl (lv_at hl 0 rfl) ?_
  refine lv_bipush (v := (16 : Int32)) hx hb dX8_init_60 (by decide) ?_
  refine lv_icmp_ge (tgt := 85) hx hb dX8_init_62 (by decide) (fun c => absurd c (by decide)) (fun _ => ?_)
  refine lv_aload_n hx hb dX8_init_65 rfl (lv_at hl 1 rfl) ?_
  refine k_get C hw 0 rfl rfl wiX8 1 (by decide) wfX8_9 rfl dX8_init_66 ?_
  refine lv_iload_n hx hb dX8_init_69 rfl (lv_at hl 0 rfl) ?_
  refine lv_iconst (v := (-1 : Int32)) hx hb dX8_init_70 (by decide) ?_
  refine k_iast C hw 1 rfl (by unfold vp_in; decide) dX8_init_71 (fl 11 (-1 : Int32)) (fl_s 10 (-1 : Int32)) [(h0, .inr (8, [.ref h1, .ref q0, .ref q1, .ref q2, .ref q3, .ref q4, .ref q5])), (q0, .inl (dA 0, 16, .inl (fl 11 (-1 : Int32)))), (q1, .inl (dA 0, 16, .inl (fl 10 (-1 : Int32)))), (q2, .inl (dA 0, 16, .inl (fun _ => 0))), (q3, .inl (dA 0, 16, .inl (fun _ => 0))), (q4, .inl (dA 0, 16, .inl (fun _ => 0))), (q5, .inl (dA 0, 16, .inl (fun _ => 0)))] rfl (fun H locs hw => ?_)
  refine lv_aload_n hx hb dX8_init_72 rfl (lv_at hl 1 rfl) ?_
  refine k_get C hw 0 rfl rfl wiX8 2 (by decide) wfX8_15 rfl dX8_init_73 ?_
  refine lv_iload_n hx hb dX8_init_76 rfl (lv_at hl 0 rfl) ?_
  refine lv_iconst (v := (-1 : Int32)) hx hb dX8_init_77 (by decide) ?_
  refine k_iast C hw 2 rfl (by unfold vp_in; decide) dX8_init_78 (fl 11 (-1 : Int32)) (fl_s 10 (-1 : Int32)) [(h0, .inr (8, [.ref h1, .ref q0, .ref q1, .ref q2, .ref q3, .ref q4, .ref q5])), (q0, .inl (dA 0, 16, .inl (fl 11 (-1 : Int32)))), (q1, .inl (dA 0, 16, .inl (fl 11 (-1 : Int32)))), (q2, .inl (dA 0, 16, .inl (fun _ => 0))), (q3, .inl (dA 0, 16, .inl (fun _ => 0))), (q4, .inl (dA 0, 16, .inl (fun _ => 0))), (q5, .inl (dA 0, 16, .inl (fun _ => 0)))] rfl (fun H locs hw => ?_)
  refine lv_iinc (v := (11 : Int32)) (lv' := [(2, .int (11 : Int32)), (0, .ref h0), (1, .ref h1)]) hx hb dX8_init_79 hl (k := 0) rfl (by decide) (by decide) rfl (fun ls hl => ?_)
  refine lv_goto (tgt := 59) hx hb dX8_init_82 (by decide) ?_
  refine lv_iload_n hx hb dX8_init_59 rfl (lv_at hl 0 rfl) ?_
  refine lv_bipush (v := (16 : Int32)) hx hb dX8_init_60 (by decide) ?_
  refine lv_icmp_ge (tgt := 85) hx hb dX8_init_62 (by decide) (fun c => absurd c (by decide)) (fun _ => ?_)
  refine lv_aload_n hx hb dX8_init_65 rfl (lv_at hl 1 rfl) ?_
  refine k_get C hw 0 rfl rfl wiX8 1 (by decide) wfX8_9 rfl dX8_init_66 ?_
  refine lv_iload_n hx hb dX8_init_69 rfl (lv_at hl 0 rfl) ?_
  refine lv_iconst (v := (-1 : Int32)) hx hb dX8_init_70 (by decide) ?_
  refine k_iast C hw 1 rfl (by unfold vp_in; decide) dX8_init_71 (fl 12 (-1 : Int32)) (fl_s 11 (-1 : Int32)) [(h0, .inr (8, [.ref h1, .ref q0, .ref q1, .ref q2, .ref q3, .ref q4, .ref q5])), (q0, .inl (dA 0, 16, .inl (fl 12 (-1 : Int32)))), (q1, .inl (dA 0, 16, .inl (fl 11 (-1 : Int32)))), (q2, .inl (dA 0, 16, .inl (fun _ => 0))), (q3, .inl (dA 0, 16, .inl (fun _ => 0))), (q4, .inl (dA 0, 16, .inl (fun _ => 0))), (q5, .inl (dA 0, 16, .inl (fun _ => 0)))] rfl (fun H locs hw => ?_)
  refine lv_aload_n hx hb dX8_init_72 rfl (lv_at hl 1 rfl) ?_
  refine k_get C hw 0 rfl rfl wiX8 2 (by decide) wfX8_15 rfl dX8_init_73 ?_
  refine lv_iload_n hx hb dX8_init_76 rfl (lv_at hl 0 rfl) ?_
  refine lv_iconst (v := (-1 : Int32)) hx hb dX8_init_77 (by decide) ?_
  refine k_iast C hw 2 rfl (by unfold vp_in; decide) dX8_init_78 (fl 12 (-1 : Int32)) (fl_s 11 (-1 : Int32)) [(h0, .inr (8, [.ref h1, .ref q0, .ref q1, .ref q2, .ref q3, .ref q4, .ref q5])), (q0, .inl (dA 0, 16, .inl (fl 12 (-1 : Int32)))), (q1, .inl (dA 0, 16, .inl (fl 12 (-1 : Int32)))), (q2, .inl (dA 0, 16, .inl (fun _ => 0))), (q3, .inl (dA 0, 16, .inl (fun _ => 0))), (q4, .inl (dA 0, 16, .inl (fun _ => 0))), (q5, .inl (dA 0, 16, .inl (fun _ => 0)))] rfl (fun H locs hw => ?_)
  refine lv_iinc (v := (12 : Int32)) (lv' := [(2, .int (12 : Int32)), (0, .ref h0), (1, .ref h1)]) hx hb dX8_init_79 hl (k := 0) rfl (by decide) (by decide) rfl (fun ls hl => ?_)
  refine lv_goto (tgt := 59) hx hb dX8_init_82 (by decide) ?_
  refine lv_iload_n hx hb dX8_init_59 rfl (lv_at hl 0 rfl) ?_
  refine lv_bipush (v := (16 : Int32)) hx hb dX8_init_60 (by decide) ?_
  refine lv_icmp_ge (tgt := 85) hx hb dX8_init_62 (by decide) (fun c => absurd c (by decide)) (fun _ => ?_)
  refine lv_aload_n hx hb dX8_init_65 rfl (lv_at hl 1 rfl) ?_
  refine k_get C hw 0 rfl rfl wiX8 1 (by decide) wfX8_9 rfl dX8_init_66 ?_
  refine lv_iload_n hx hb dX8_init_69 rfl (lv_at hl 0 rfl) ?_
  refine lv_iconst (v := (-1 : Int32)) hx hb dX8_init_70 (by decide) ?_
  refine k_iast C hw 1 rfl (by unfold vp_in; decide) dX8_init_71 (fl 13 (-1 : Int32)) (fl_s 12 (-1 : Int32)) [(h0, .inr (8, [.ref h1, .ref q0, .ref q1, .ref q2, .ref q3, .ref q4, .ref q5])), (q0, .inl (dA 0, 16, .inl (fl 13 (-1 : Int32)))), (q1, .inl (dA 0, 16, .inl (fl 12 (-1 : Int32)))), (q2, .inl (dA 0, 16, .inl (fun _ => 0))), (q3, .inl (dA 0, 16, .inl (fun _ => 0))), (q4, .inl (dA 0, 16, .inl (fun _ => 0))), (q5, .inl (dA 0, 16, .inl (fun _ => 0)))] rfl (fun H locs hw => ?_)
  refine lv_aload_n hx hb dX8_init_72 rfl (lv_at hl 1 rfl) ?_
  refine k_get C hw 0 rfl rfl wiX8 2 (by decide) wfX8_15 rfl dX8_init_73 ?_
  refine lv_iload_n hx hb dX8_init_76 rfl (lv_at hl 0 rfl) ?_
  refine lv_iconst (v := (-1 : Int32)) hx hb dX8_init_77 (by decide) ?_
  refine k_iast C hw 2 rfl (by unfold vp_in; decide) dX8_init_78 (fl 13 (-1 : Int32)) (fl_s 12 (-1 : Int32)) [(h0, .inr (8, [.ref h1, .ref q0, .ref q1, .ref q2, .ref q3, .ref q4, .ref q5])), (q0, .inl (dA 0, 16, .inl (fl 13 (-1 : Int32)))), (q1, .inl (dA 0, 16, .inl (fl 13 (-1 : Int32)))), (q2, .inl (dA 0, 16, .inl (fun _ => 0))), (q3, .inl (dA 0, 16, .inl (fun _ => 0))), (q4, .inl (dA 0, 16, .inl (fun _ => 0))), (q5, .inl (dA 0, 16, .inl (fun _ => 0)))] rfl (fun H locs hw => ?_)
  refine lv_iinc (v := (13 : Int32)) (lv' := [(2, .int (13 : Int32)), (0, .ref h0), (1, .ref h1)]) hx hb dX8_init_79 hl (k := 0) rfl (by decide) (by decide) rfl (fun ls hl => ?_)
  refine lv_goto (tgt := 59) hx hb dX8_init_82 (by decide) ?_
  refine lv_iload_n hx hb dX8_init_59 rfl (lv_at hl 0 rfl) ?_
  refine lv_bipush (v := (16 : Int32)) hx hb dX8_init_60 (by decide) ?_
  refine lv_icmp_ge (tgt := 85) hx hb dX8_init_62 (by decide) (fun c => absurd c (by decide)) (fun _ => ?_)
  refine lv_aload_n hx hb dX8_init_65 rfl (lv_at hl 1 rfl) ?_
  refine k_get C hw 0 rfl rfl wiX8 1 (by decide) wfX8_9 rfl dX8_init_66 ?_
  refine lv_iload_n hx hb dX8_init_69 rfl (lv_at hl 0 rfl) ?_
  refine lv_iconst (v := (-1 : Int32)) hx hb dX8_init_70 (by decide) ?_
  refine k_iast C hw 1 rfl (by unfold vp_in; decide) dX8_init_71 (fl 14 (-1 : Int32)) (fl_s 13 (-1 : Int32)) [(h0, .inr (8, [.ref h1, .ref q0, .ref q1, .ref q2, .ref q3, .ref q4, .ref q5])), (q0, .inl (dA 0, 16, .inl (fl 14 (-1 : Int32)))), (q1, .inl (dA 0, 16, .inl (fl 13 (-1 : Int32)))), (q2, .inl (dA 0, 16, .inl (fun _ => 0))), (q3, .inl (dA 0, 16, .inl (fun _ => 0))), (q4, .inl (dA 0, 16, .inl (fun _ => 0))), (q5, .inl (dA 0, 16, .inl (fun _ => 0)))] rfl (fun H locs hw => ?_)
  refine lv_aload_n hx hb dX8_init_72 rfl (lv_at hl 1 rfl) ?_
  refine k_get C hw 0 rfl rfl wiX8 2 (by decide) wfX8_15 rfl dX8_init_73 ?_
  refine lv_iload_n hx hb dX8_init_76 rfl (lv_at hl 0 rfl) ?_
  refine lv_iconst (v := (-1 : Int32)) hx hb dX8_init_77 (by decide) ?_
  refine k_iast C hw 2 rfl (by unfold vp_in; decide) dX8_init_78 (fl 14 (-1 : Int32)) (fl_s 13 (-1 : Int32)) [(h0, .inr (8, [.ref h1, .ref q0, .ref q1, .ref q2, .ref q3, .ref q4, .ref q5])), (q0, .inl (dA 0, 16, .inl (fl 14 (-1 : Int32)))), (q1, .inl (dA 0, 16, .inl (fl 14 (-1 : Int32)))), (q2, .inl (dA 0, 16, .inl (fun _ => 0))), (q3, .inl (dA 0, 16, .inl (fun _ => 0))), (q4, .inl (dA 0, 16, .inl (fun _ => 0))), (q5, .inl (dA 0, 16, .inl (fun _ => 0)))] rfl (fun H locs hw => ?_)
  refine lv_iinc (v := (14 : Int32)) (lv' := [(2, .int (14 : Int32)), (0, .ref h0), (1, .ref h1)]) hx hb dX8_init_79 hl (k := 0) rfl (by decide) (by decide) rfl (fun ls hl => ?_)
  refine lv_goto (tgt := 59) hx hb dX8_init_82 (by decide) ?_
  refine lv_iload_n hx hb dX8_init_59 rfl (lv_at hl 0 rfl) ?_
  refine lv_bipush (v := (16 : Int32)) hx hb dX8_init_60 (by decide) ?_
  refine lv_icmp_ge (tgt := 85) hx hb dX8_init_62 (by decide) (fun c => absurd c (by decide)) (fun _ => ?_)
  refine lv_aload_n hx hb dX8_init_65 rfl (lv_at hl 1 rfl) ?_
  refine k_get C hw 0 rfl rfl wiX8 1 (by decide) wfX8_9 rfl dX8_init_66 ?_
  refine lv_iload_n hx hb dX8_init_69 rfl (lv_at hl 0 rfl) ?_
  refine lv_iconst (v := (-1 : Int32)) hx hb dX8_init_70 (by decide) ?_
  refine k_iast C hw 1 rfl (by unfold vp_in; decide) dX8_init_71 (fl 15 (-1 : Int32)) (fl_s 14 (-1 : Int32)) [(h0, .inr (8, [.ref h1, .ref q0, .ref q1, .ref q2, .ref q3, .ref q4, .ref q5])), (q0, .inl (dA 0, 16, .inl (fl 15 (-1 : Int32)))), (q1, .inl (dA 0, 16, .inl (fl 14 (-1 : Int32)))), (q2, .inl (dA 0, 16, .inl (fun _ => 0))), (q3, .inl (dA 0, 16, .inl (fun _ => 0))), (q4, .inl (dA 0, 16, .inl (fun _ => 0))), (q5, .inl (dA 0, 16, .inl (fun _ => 0)))] rfl (fun H locs hw => ?_)
  refine lv_aload_n hx hb dX8_init_72 rfl (lv_at hl 1 rfl) ?_
  refine k_get C hw 0 rfl rfl wiX8 2 (by decide) wfX8_15 rfl dX8_init_73 ?_
  refine lv_iload_n hx hb dX8_init_76 rfl (lv_at hl 0 rfl) ?_
  refine lv_iconst (v := (-1 : Int32)) hx hb dX8_init_77 (by decide) ?_
  refine k_iast C hw 2 rfl (by unfold vp_in; decide) dX8_init_78 (fl 15 (-1 : Int32)) (fl_s 14 (-1 : Int32)) [(h0, .inr (8, [.ref h1, .ref q0, .ref q1, .ref q2, .ref q3, .ref q4, .ref q5])), (q0, .inl (dA 0, 16, .inl (fl 15 (-1 : Int32)))), (q1, .inl (dA 0, 16, .inl (fl 15 (-1 : Int32)))), (q2, .inl (dA 0, 16, .inl (fun _ => 0))), (q3, .inl (dA 0, 16, .inl (fun _ => 0))), (q4, .inl (dA 0, 16, .inl (fun _ => 0))), (q5, .inl (dA 0, 16, .inl (fun _ => 0)))] rfl (fun H locs hw => ?_)
  refine lv_iinc (v := (15 : Int32)) (lv' := [(2, .int (15 : Int32)), (0, .ref h0), (1, .ref h1)]) hx hb dX8_init_79 hl (k := 0) rfl (by decide) (by decide) rfl (fun ls hl => ?_)
  refine lv_goto (tgt := 59) hx hb dX8_init_82 (by decide) ?_
  refine lv_iload_n hx hb dX8_init_59 rfl (lv_at hl 0 rfl) ?_
  refine lv_bipush (v := (16 : Int32)) hx hb dX8_init_60 (by decide) ?_
  refine lv_icmp_ge (tgt := 85) hx hb dX8_init_62 (by decide) (fun c => absurd c (by decide)) (fun _ => ?_)
  refine lv_aload_n hx hb dX8_init_65 rfl (lv_at hl 1 rfl) ?_
  refine k_get C hw 0 rfl rfl wiX8 1 (by decide) wfX8_9 rfl dX8_init_66 ?_
  refine lv_iload_n hx hb dX8_init_69 rfl (lv_at hl 0 rfl) ?_
  refine lv_iconst (v := (-1 : Int32)) hx hb dX8_init_70 (by decide) ?_
  refine k_iast C hw 1 rfl (by unfold vp_in; decide) dX8_init_71 (fl 16 (-1 : Int32)) (fl_s 15 (-1 : Int32)) [(h0, .inr (8, [.ref h1, .ref q0, .ref q1, .ref q2, .ref q3, .ref q4, .ref q5])), (q0, .inl (dA 0, 16, .inl (fl 16 (-1 : Int32)))), (q1, .inl (dA 0, 16, .inl (fl 15 (-1 : Int32)))), (q2, .inl (dA 0, 16, .inl (fun _ => 0))), (q3, .inl (dA 0, 16, .inl (fun _ => 0))), (q4, .inl (dA 0, 16, .inl (fun _ => 0))), (q5, .inl (dA 0, 16, .inl (fun _ => 0)))] rfl (fun H locs hw => ?_)
  refine lv_aload_n hx hb dX8_init_72 rfl (lv_at hl 1 rfl) ?_
  refine k_get C hw 0 rfl rfl wiX8 2 (by decide) wfX8_15 rfl dX8_init_73 ?_
  refine lv_iload_n hx hb dX8_init_76 rfl (lv_at hl 0 rfl) ?_
  refine lv_iconst (v := (-1 : Int32)) hx hb dX8_init_77 (by decide) ?_
  refine k_iast C hw 2 rfl (by unfold vp_in; decide) dX8_init_78 (fl 16 (-1 : Int32)) (fl_s 15 (-1 : Int32)) [(h0, .inr (8, [.ref h1, .ref q0, .ref q1, .ref q2, .ref q3, .ref q4, .ref q5])), (q0, .inl (dA 0, 16, .inl (fl 16 (-1 : Int32)))), (q1, .inl (dA 0, 16, .inl (fl 16 (-1 : Int32)))), (q2, .inl (dA 0, 16, .inl (fun _ => 0))), (q3, .inl (dA 0, 16, .inl (fun _ => 0))), (q4, .inl (dA 0, 16, .inl (fun _ => 0))), (q5, .inl (dA 0, 16, .inl (fun _ => 0)))] rfl (fun H locs hw => ?_)
  refine lv_iinc (v := (16 : Int32)) (lv' := [(2, .int (16 : Int32)), (0, .ref h0), (1, .ref h1)]) hx hb dX8_init_79 hl (k := 0) rfl (by decide) (by decide) rfl (fun ls hl => ?_)
  refine lv_goto (tgt := 59) hx hb dX8_init_82 (by decide) ?_
  refine lv_iload_n hx hb dX8_init_59 rfl (lv_at hl 0 rfl) ?_
  refine lv_bipush (v := (16 : Int32)) hx hb dX8_init_60 (by decide) ?_
  refine lv_icmp_ge (tgt := 85) hx hb dX8_init_62 (by decide) (fun _ => ?_) (fun c => absurd (by decide) c)
  exact k_vretA (fun i => ([q0, q1, q2, q3, q4, q5] : List Nat).getD i 0) C hw (Nat.le_of_ble_eq_true rfl) (Nat.le_of_ble_eq_true rfl) dX8_init_85

/-! RingPlaces$Orders.<init>(LRingPlaces$Ring;)V -/
set_option maxHeartbeats 4000000 in
set_option maxRecDepth 100000 in
theorem qX2_init (l : Launch) (D : va_G) (dA : Nat → ClassId) (h0 : Nat) (h1 : Nat) : Mc l D dA yX2_init (Cond.code yX2_init cX2_init 2 none :: wA) 1 20 4 33 [.ref h0, .ref h1] [(h0, .inr (2, [.null, .int 0, .null, .null, .null, .null, .int 0, .int 0]))] (fun u => [(h0, .inr (2, [.ref (u 0), .int (0 : Int32), .ref h1, .ref (u 1), .ref (u 2), .ref (u 3), .int (0 : Int32), .int (0 : Int32)])), ((u 0), .inl (dA 0, 7, .inl (fun _ => 0))), ((u 1), .inl (dA 0, 7, .inl (fun _ => 0))), ((u 2), .inl (dA 0, 7, .inl (fun _ => 0))), ((u 3), .inl (dA 0, 12, .inl (fun _ => 0)))]) := by
  intro sz
  refine M_ofI (cc := cX2_init) (nL := 2) (ret := none) (own := RX2) (by decide) rfl (Nat.le_of_ble_eq_true rfl) rfl ?_
  intro p e s m below meth c ls hsz C hin hw hl
  subst hsz
  have hl : lv_has ls 2 [(0, .ref h0), (1, .ref h1)] := hl
  have hx := C.1
  have hb := C.2.1
  have hml := C.2.2.1
  have hown := C.2.2.2.1
  have hts := C.2.2.2.2.1
  refine lv_aload_n hx hb dX2_init_0 rfl (lv_at hl 0 rfl) ?_
  refine W.objInit hx hb hown (hts _ wlX2_3) (hts _ wxoi) (hts _ wxoc) rfl (by rw [hml]; exact hl.1) rfl dX2_init_1 (Nat.le_of_ble_eq_true rfl) (Nat.le_of_ble_eq_true rfl) ?_
  refine W.eq (g2 := F0 m 4 ls []) rfl ?_
  refine lv_aload_n hx hb dX2_init_4 rfl (lv_at hl 0 rfl) ?_
  refine lv_bipush (v := (7 : Int32)) hx hb dX2_init_5 (by decide) ?_
  refine k_newI C hw wxaI 7 (by decide) (by decide) (by decide) (Nat.le_of_ble_eq_true rfl) (Nat.le_of_ble_eq_true rfl) dX2_init_7 (fun q0 H hw => ?_)
  refine W.widen (k := 1) (n := 7) (Nat.le_of_ble_eq_true rfl) (Nat.le_of_ble_eq_true rfl) ?_
  have hw : St D [(h0, .inr (2, [.null, .int 0, .null, .null, .null, .null, .int 0, .int 0]))] s [(h0, .inr (2, [.null, .int 0, .null, .null, .null, .null, .int 0, .int 0])), (q0, .inl (dA 0, 7, .inl (fun _ => 0)))] H _ := hw
  refine k_putF C hin hw 0 rfl rfl wiX2 tyX2 tyX2_ok nmX2 0 (by decide) wfX2_9 rfl rfl rfl rfl (Nat.le_of_ble_eq_true rfl) dX2_init_9 [(h0, .inr (2, [.ref q0, .int 0, .null, .null, .null, .null, .int 0, .int 0])), (q0, .inl (dA 0, 7, .inl (fun _ => 0)))] rfl (fun H locs hw => ?_)
  refine lv_aload_n hx hb dX2_init_12 rfl (lv_at hl 0 rfl) ?_
  refine lv_iconst (v := (0 : Int32)) hx hb dX2_init_13 (by decide) ?_
  refine k_put C hw 0 rfl rfl wiX2 tyX2 tyX2_ok nmX2 1 (by decide) wfX2_15 rfl rfl rfl (Nat.le_of_ble_eq_true rfl) dX2_init_14 [(h0, .inr (2, [.ref q0, .int (0 : Int32), .null, .null, .null, .null, .int 0, .int 0])), (q0, .inl (dA 0, 7, .inl (fun _ => 0)))] rfl (fun H locs hw => ?_)
  refine lv_aload_n hx hb dX2_init_17 rfl (lv_at hl 0 rfl) ?_
  refine lv_bipush (v := (7 : Int32)) hx hb dX2_init_18 (by decide) ?_
  refine k_newI C hw wxaI 7 (by decide) (by decide) (by decide) (Nat.le_of_ble_eq_true rfl) (Nat.le_of_ble_eq_true rfl) dX2_init_20 (fun q1 H hw => ?_)
  refine W.widen (k := 2) (n := 14) (Nat.le_of_ble_eq_true rfl) (Nat.le_of_ble_eq_true rfl) ?_
  have hw : St D [(h0, .inr (2, [.null, .int 0, .null, .null, .null, .null, .int 0, .int 0]))] s [(h0, .inr (2, [.ref q0, .int (0 : Int32), .null, .null, .null, .null, .int 0, .int 0])), (q0, .inl (dA 0, 7, .inl (fun _ => 0))), (q1, .inl (dA 0, 7, .inl (fun _ => 0)))] H _ := hw
  refine k_putF C hin hw 0 rfl rfl wiX2 tyX2 tyX2_ok nmX2 3 (by decide) wfX2_19 rfl rfl rfl rfl (Nat.le_of_ble_eq_true rfl) dX2_init_22 [(h0, .inr (2, [.ref q0, .int (0 : Int32), .null, .ref q1, .null, .null, .int 0, .int 0])), (q0, .inl (dA 0, 7, .inl (fun _ => 0))), (q1, .inl (dA 0, 7, .inl (fun _ => 0)))] rfl (fun H locs hw => ?_)
  refine lv_aload_n hx hb dX2_init_25 rfl (lv_at hl 0 rfl) ?_
  refine lv_bipush (v := (7 : Int32)) hx hb dX2_init_26 (by decide) ?_
  refine k_newI C hw wxaI 7 (by decide) (by decide) (by decide) (Nat.le_of_ble_eq_true rfl) (Nat.le_of_ble_eq_true rfl) dX2_init_28 (fun q2 H hw => ?_)
  refine W.widen (k := 3) (n := 21) (Nat.le_of_ble_eq_true rfl) (Nat.le_of_ble_eq_true rfl) ?_
  have hw : St D [(h0, .inr (2, [.null, .int 0, .null, .null, .null, .null, .int 0, .int 0]))] s [(h0, .inr (2, [.ref q0, .int (0 : Int32), .null, .ref q1, .null, .null, .int 0, .int 0])), (q0, .inl (dA 0, 7, .inl (fun _ => 0))), (q1, .inl (dA 0, 7, .inl (fun _ => 0))), (q2, .inl (dA 0, 7, .inl (fun _ => 0)))] H _ := hw
  refine k_putF C hin hw 0 rfl rfl wiX2 tyX2 tyX2_ok nmX2 4 (by decide) wfX2_22 rfl rfl rfl rfl (Nat.le_of_ble_eq_true rfl) dX2_init_30 [(h0, .inr (2, [.ref q0, .int (0 : Int32), .null, .ref q1, .ref q2, .null, .int 0, .int 0])), (q0, .inl (dA 0, 7, .inl (fun _ => 0))), (q1, .inl (dA 0, 7, .inl (fun _ => 0))), (q2, .inl (dA 0, 7, .inl (fun _ => 0)))] rfl (fun H locs hw => ?_)
  refine lv_aload_n hx hb dX2_init_33 rfl (lv_at hl 0 rfl) ?_
  refine lv_bipush (v := (12 : Int32)) hx hb dX2_init_34 (by decide) ?_
  refine k_newI C hw wxaI 12 (by decide) (by decide) (by decide) (Nat.le_of_ble_eq_true rfl) (Nat.le_of_ble_eq_true rfl) dX2_init_36 (fun q3 H hw => ?_)
  refine W.widen (k := 4) (n := 33) (Nat.le_of_ble_eq_true rfl) (Nat.le_of_ble_eq_true rfl) ?_
  have hw : St D [(h0, .inr (2, [.null, .int 0, .null, .null, .null, .null, .int 0, .int 0]))] s [(h0, .inr (2, [.ref q0, .int (0 : Int32), .null, .ref q1, .ref q2, .null, .int 0, .int 0])), (q0, .inl (dA 0, 7, .inl (fun _ => 0))), (q1, .inl (dA 0, 7, .inl (fun _ => 0))), (q2, .inl (dA 0, 7, .inl (fun _ => 0))), (q3, .inl (dA 0, 12, .inl (fun _ => 0)))] H _ := hw
  refine k_putF C hin hw 0 rfl rfl wiX2 tyX2 tyX2_ok nmX2 5 (by decide) wfX2_25 rfl rfl rfl rfl (Nat.le_of_ble_eq_true rfl) dX2_init_38 [(h0, .inr (2, [.ref q0, .int (0 : Int32), .null, .ref q1, .ref q2, .ref q3, .int 0, .int 0])), (q0, .inl (dA 0, 7, .inl (fun _ => 0))), (q1, .inl (dA 0, 7, .inl (fun _ => 0))), (q2, .inl (dA 0, 7, .inl (fun _ => 0))), (q3, .inl (dA 0, 12, .inl (fun _ => 0)))] rfl (fun H locs hw => ?_)
  refine lv_aload_n hx hb dX2_init_41 rfl (lv_at hl 0 rfl) ?_
  refine lv_iconst (v := (0 : Int32)) hx hb dX2_init_42 (by decide) ?_
  refine k_put C hw 0 rfl rfl wiX2 tyX2 tyX2_ok nmX2 6 (by decide) wfX2_28 rfl rfl rfl (Nat.le_of_ble_eq_true rfl) dX2_init_43 [(h0, .inr (2, [.ref q0, .int (0 : Int32), .null, .ref q1, .ref q2, .ref q3, .int (0 : Int32), .int 0])), (q0, .inl (dA 0, 7, .inl (fun _ => 0))), (q1, .inl (dA 0, 7, .inl (fun _ => 0))), (q2, .inl (dA 0, 7, .inl (fun _ => 0))), (q3, .inl (dA 0, 12, .inl (fun _ => 0)))] rfl (fun H locs hw => ?_)
  refine lv_aload_n hx hb dX2_init_46 rfl (lv_at hl 0 rfl) ?_
  refine lv_iconst (v := (0 : Int32)) hx hb dX2_init_47 (by decide) ?_
  refine k_put C hw 0 rfl rfl wiX2 tyX2 tyX2_ok nmX2 7 (by decide) wfX2_31 rfl rfl rfl (Nat.le_of_ble_eq_true rfl) dX2_init_48 [(h0, .inr (2, [.ref q0, .int (0 : Int32), .null, .ref q1, .ref q2, .ref q3, .int (0 : Int32), .int (0 : Int32)])), (q0, .inl (dA 0, 7, .inl (fun _ => 0))), (q1, .inl (dA 0, 7, .inl (fun _ => 0))), (q2, .inl (dA 0, 7, .inl (fun _ => 0))), (q3, .inl (dA 0, 12, .inl (fun _ => 0)))] rfl (fun H locs hw => ?_)
  refine lv_aload_n hx hb dX2_init_51 rfl (lv_at hl 0 rfl) ?_
  refine lv_aload_n hx hb dX2_init_52 rfl (lv_at hl 1 rfl) ?_
  refine k_putF C hin hw 0 rfl rfl wiX2 tyX2 tyX2_ok nmX2 2 (by decide) wfX2_34 rfl rfl rfl rfl (Nat.le_of_ble_eq_true rfl) dX2_init_53 [(h0, .inr (2, [.ref q0, .int (0 : Int32), .ref h1, .ref q1, .ref q2, .ref q3, .int (0 : Int32), .int (0 : Int32)])), (q0, .inl (dA 0, 7, .inl (fun _ => 0))), (q1, .inl (dA 0, 7, .inl (fun _ => 0))), (q2, .inl (dA 0, 7, .inl (fun _ => 0))), (q3, .inl (dA 0, 12, .inl (fun _ => 0)))] rfl (fun H locs hw => ?_)
  exact k_vretA (fun i => ([q0, q1, q2, q3] : List Nat).getD i 0) C hw (Nat.le_of_ble_eq_true rfl) (Nat.le_of_ble_eq_true rfl) dX2_init_56

/-! RingPlaces$Papers.<init>(LRingPlaces$Ring;)V -/
set_option maxHeartbeats 4000000 in
set_option maxRecDepth 100000 in
theorem qX3_init (l : Launch) (D : va_G) (dA : Nat → ClassId) (h0 : Nat) (h1 : Nat) : Mc l D dA yX3_init (Cond.code yX3_init cX3_init 2 none :: wA) 1 20 0 0 [.ref h0, .ref h1] [(h0, .inr (3, [.null]))] (fun u => [(h0, .inr (3, [.ref h1]))]) := by
  intro sz
  refine M_ofI (cc := cX3_init) (nL := 2) (ret := none) (own := RX3) (by decide) rfl (Nat.le_of_ble_eq_true rfl) rfl ?_
  intro p e s m below meth c ls hsz C hin hw hl
  subst hsz
  have hl : lv_has ls 2 [(0, .ref h0), (1, .ref h1)] := hl
  have hx := C.1
  have hb := C.2.1
  have hml := C.2.2.1
  have hown := C.2.2.2.1
  have hts := C.2.2.2.2.1
  refine lv_aload_n hx hb dX3_init_0 rfl (lv_at hl 0 rfl) ?_
  refine W.objInit hx hb hown (hts _ wlX3_3) (hts _ wxoi) (hts _ wxoc) rfl (by rw [hml]; exact hl.1) rfl dX3_init_1 (Nat.le_of_ble_eq_true rfl) (Nat.le_of_ble_eq_true rfl) ?_
  refine W.eq (g2 := F0 m 4 ls []) rfl ?_
  refine lv_aload_n hx hb dX3_init_4 rfl (lv_at hl 0 rfl) ?_
  refine lv_aload_n hx hb dX3_init_5 rfl (lv_at hl 1 rfl) ?_
  refine k_putF C hin hw 0 rfl rfl wiX3 tyX3 tyX3_ok nmX3 0 (by decide) wfX3_9 rfl rfl rfl rfl (Nat.le_of_ble_eq_true rfl) dX3_init_6 [(h0, .inr (3, [.ref h1]))] rfl (fun H locs hw => ?_)
  exact k_vretA (fun _ => 0) C hw (Nat.le_of_ble_eq_true rfl) (Nat.le_of_ble_eq_true rfl) dX3_init_9

/-! RingPlaces$Search.<init>(LRingPlaces$Standing;LRingPlaces$Standing;)V -/
set_option maxHeartbeats 4000000 in
set_option maxRecDepth 100000 in
theorem qX6_init (l : Launch) (D : va_G) (dA : Nat → ClassId) (h0 : Nat) (h1 : Nat) (h1_ring : Nat) (h1_degree : Nat) (h1_voice : Nat) (h1_loud : Nat) (h1_sharp : Nat) (h1_hears : Nat) (h1_tooNear : Nat) (h2 : Nat) : Mc l D dA yX6_init (Cond.code yX6_init cX6_init 3 none :: wA) 1 20 3 12 [.ref h0, .ref h1, .ref h2] [(h0, .inr (6, [.null, .null, .null, .null, .int 0, .int 0, .int 0, .null, .null])), (h1, .inr (8, [.ref h1_ring, .ref h1_degree, .ref h1_voice, .ref h1_loud, .ref h1_sharp, .ref h1_hears, .ref h1_tooNear]))] (fun u => [(h0, .inr (6, [.ref h1_ring, .ref h1, .ref h2, .ref (u 0), .int (0 : Int32), .int (0 : Int32), .int (-1 : Int32), .ref (u 1), .ref (u 2)])), (h1, .inr (8, [.ref h1_ring, .ref h1_degree, .ref h1_voice, .ref h1_loud, .ref h1_sharp, .ref h1_hears, .ref h1_tooNear])), ((u 0), .inl (dA 0, 4, .inl (fun _ => 0))), ((u 1), .inl (dA 0, 4, .inl (fun _ => 0))), ((u 2), .inl (dA 0, 4, .inl (fun _ => 0)))]) := by
  intro sz
  refine M_ofI (cc := cX6_init) (nL := 3) (ret := none) (own := RX6) (by decide) rfl (Nat.le_of_ble_eq_true rfl) rfl ?_
  intro p e s m below meth c ls hsz C hin hw hl
  subst hsz
  have hl : lv_has ls 3 [(0, .ref h0), (1, .ref h1), (2, .ref h2)] := hl
  have hx := C.1
  have hb := C.2.1
  have hml := C.2.2.1
  have hown := C.2.2.2.1
  have hts := C.2.2.2.2.1
  refine lv_aload_n hx hb dX6_init_0 rfl (lv_at hl 0 rfl) ?_
  refine W.objInit hx hb hown (hts _ wlX6_3) (hts _ wxoi) (hts _ wxoc) rfl (by rw [hml]; exact hl.1) rfl dX6_init_1 (Nat.le_of_ble_eq_true rfl) (Nat.le_of_ble_eq_true rfl) ?_
  refine W.eq (g2 := F0 m 4 ls []) rfl ?_
  refine lv_aload_n hx hb dX6_init_4 rfl (lv_at hl 0 rfl) ?_
  refine lv_iconst (v := (4 : Int32)) hx hb dX6_init_5 (by decide) ?_
  refine k_newI C hw wxaI 4 (by decide) (by decide) (by decide) (Nat.le_of_ble_eq_true rfl) (Nat.le_of_ble_eq_true rfl) dX6_init_6 (fun q0 H hw => ?_)
  refine W.widen (k := 1) (n := 4) (Nat.le_of_ble_eq_true rfl) (Nat.le_of_ble_eq_true rfl) ?_
  have hw : St D [(h0, .inr (6, [.null, .null, .null, .null, .int 0, .int 0, .int 0, .null, .null])), (h1, .inr (8, [.ref h1_ring, .ref h1_degree, .ref h1_voice, .ref h1_loud, .ref h1_sharp, .ref h1_hears, .ref h1_tooNear]))] s [(h0, .inr (6, [.null, .null, .null, .null, .int 0, .int 0, .int 0, .null, .null])), (h1, .inr (8, [.ref h1_ring, .ref h1_degree, .ref h1_voice, .ref h1_loud, .ref h1_sharp, .ref h1_hears, .ref h1_tooNear])), (q0, .inl (dA 0, 4, .inl (fun _ => 0)))] H _ := hw
  refine k_putF C hin hw 0 rfl rfl wiX6 tyX6 tyX6_ok nmX6 3 (by decide) wfX6_9 rfl rfl rfl rfl (Nat.le_of_ble_eq_true rfl) dX6_init_8 [(h0, .inr (6, [.null, .null, .null, .ref q0, .int 0, .int 0, .int 0, .null, .null])), (h1, .inr (8, [.ref h1_ring, .ref h1_degree, .ref h1_voice, .ref h1_loud, .ref h1_sharp, .ref h1_hears, .ref h1_tooNear])), (q0, .inl (dA 0, 4, .inl (fun _ => 0)))] rfl (fun H locs hw => ?_)
  refine lv_aload_n hx hb dX6_init_11 rfl (lv_at hl 0 rfl) ?_
  refine lv_iconst (v := (0 : Int32)) hx hb dX6_init_12 (by decide) ?_
  refine k_put C hw 0 rfl rfl wiX6 tyX6 tyX6_ok nmX6 4 (by decide) wfX6_15 rfl rfl rfl (Nat.le_of_ble_eq_true rfl) dX6_init_13 [(h0, .inr (6, [.null, .null, .null, .ref q0, .int (0 : Int32), .int 0, .int 0, .null, .null])), (h1, .inr (8, [.ref h1_ring, .ref h1_degree, .ref h1_voice, .ref h1_loud, .ref h1_sharp, .ref h1_hears, .ref h1_tooNear])), (q0, .inl (dA 0, 4, .inl (fun _ => 0)))] rfl (fun H locs hw => ?_)
  refine lv_aload_n hx hb dX6_init_16 rfl (lv_at hl 0 rfl) ?_
  refine lv_iconst (v := (0 : Int32)) hx hb dX6_init_17 (by decide) ?_
  refine k_put C hw 0 rfl rfl wiX6 tyX6 tyX6_ok nmX6 5 (by decide) wfX6_19 rfl (by decide) (by decide) (Nat.le_of_ble_eq_true rfl) dX6_init_18 [(h0, .inr (6, [.null, .null, .null, .ref q0, .int (0 : Int32), .int (0 : Int32), .int 0, .null, .null])), (h1, .inr (8, [.ref h1_ring, .ref h1_degree, .ref h1_voice, .ref h1_loud, .ref h1_sharp, .ref h1_hears, .ref h1_tooNear])), (q0, .inl (dA 0, 4, .inl (fun _ => 0)))] rfl (fun H locs hw => ?_)
  refine lv_aload_n hx hb dX6_init_21 rfl (lv_at hl 0 rfl) ?_
  refine lv_iconst (v := (-1 : Int32)) hx hb dX6_init_22 (by decide) ?_
  refine k_put C hw 0 rfl rfl wiX6 tyX6 tyX6_ok nmX6 6 (by decide) wfX6_23 rfl rfl rfl (Nat.le_of_ble_eq_true rfl) dX6_init_23 [(h0, .inr (6, [.null, .null, .null, .ref q0, .int (0 : Int32), .int (0 : Int32), .int (-1 : Int32), .null, .null])), (h1, .inr (8, [.ref h1_ring, .ref h1_degree, .ref h1_voice, .ref h1_loud, .ref h1_sharp, .ref h1_hears, .ref h1_tooNear])), (q0, .inl (dA 0, 4, .inl (fun _ => 0)))] rfl (fun H locs hw => ?_)
  refine lv_aload_n hx hb dX6_init_26 rfl (lv_at hl 0 rfl) ?_
  refine lv_iconst (v := (4 : Int32)) hx hb dX6_init_27 (by decide) ?_
  refine k_newI C hw wxaI 4 (by decide) (by decide) (by decide) (Nat.le_of_ble_eq_true rfl) (Nat.le_of_ble_eq_true rfl) dX6_init_28 (fun q1 H hw => ?_)
  refine W.widen (k := 2) (n := 8) (Nat.le_of_ble_eq_true rfl) (Nat.le_of_ble_eq_true rfl) ?_
  have hw : St D [(h0, .inr (6, [.null, .null, .null, .null, .int 0, .int 0, .int 0, .null, .null])), (h1, .inr (8, [.ref h1_ring, .ref h1_degree, .ref h1_voice, .ref h1_loud, .ref h1_sharp, .ref h1_hears, .ref h1_tooNear]))] s [(h0, .inr (6, [.null, .null, .null, .ref q0, .int (0 : Int32), .int (0 : Int32), .int (-1 : Int32), .null, .null])), (h1, .inr (8, [.ref h1_ring, .ref h1_degree, .ref h1_voice, .ref h1_loud, .ref h1_sharp, .ref h1_hears, .ref h1_tooNear])), (q0, .inl (dA 0, 4, .inl (fun _ => 0))), (q1, .inl (dA 0, 4, .inl (fun _ => 0)))] H _ := hw
  refine k_putF C hin hw 0 rfl rfl wiX6 tyX6 tyX6_ok nmX6 7 (by decide) wfX6_26 rfl rfl rfl rfl (Nat.le_of_ble_eq_true rfl) dX6_init_30 [(h0, .inr (6, [.null, .null, .null, .ref q0, .int (0 : Int32), .int (0 : Int32), .int (-1 : Int32), .ref q1, .null])), (h1, .inr (8, [.ref h1_ring, .ref h1_degree, .ref h1_voice, .ref h1_loud, .ref h1_sharp, .ref h1_hears, .ref h1_tooNear])), (q0, .inl (dA 0, 4, .inl (fun _ => 0))), (q1, .inl (dA 0, 4, .inl (fun _ => 0)))] rfl (fun H locs hw => ?_)
  refine lv_aload_n hx hb dX6_init_33 rfl (lv_at hl 0 rfl) ?_
  refine lv_iconst (v := (4 : Int32)) hx hb dX6_init_34 (by decide) ?_
  refine k_newI C hw wxaI 4 (by decide) (by decide) (by decide) (Nat.le_of_ble_eq_true rfl) (Nat.le_of_ble_eq_true rfl) dX6_init_35 (fun q2 H hw => ?_)
  refine W.widen (k := 3) (n := 12) (Nat.le_of_ble_eq_true rfl) (Nat.le_of_ble_eq_true rfl) ?_
  have hw : St D [(h0, .inr (6, [.null, .null, .null, .null, .int 0, .int 0, .int 0, .null, .null])), (h1, .inr (8, [.ref h1_ring, .ref h1_degree, .ref h1_voice, .ref h1_loud, .ref h1_sharp, .ref h1_hears, .ref h1_tooNear]))] s [(h0, .inr (6, [.null, .null, .null, .ref q0, .int (0 : Int32), .int (0 : Int32), .int (-1 : Int32), .ref q1, .null])), (h1, .inr (8, [.ref h1_ring, .ref h1_degree, .ref h1_voice, .ref h1_loud, .ref h1_sharp, .ref h1_hears, .ref h1_tooNear])), (q0, .inl (dA 0, 4, .inl (fun _ => 0))), (q1, .inl (dA 0, 4, .inl (fun _ => 0))), (q2, .inl (dA 0, 4, .inl (fun _ => 0)))] H _ := hw
  refine k_putF C hin hw 0 rfl rfl wiX6 tyX6 tyX6_ok nmX6 8 (by decide) wfX6_29 rfl rfl rfl rfl (Nat.le_of_ble_eq_true rfl) dX6_init_37 [(h0, .inr (6, [.null, .null, .null, .ref q0, .int (0 : Int32), .int (0 : Int32), .int (-1 : Int32), .ref q1, .ref q2])), (h1, .inr (8, [.ref h1_ring, .ref h1_degree, .ref h1_voice, .ref h1_loud, .ref h1_sharp, .ref h1_hears, .ref h1_tooNear])), (q0, .inl (dA 0, 4, .inl (fun _ => 0))), (q1, .inl (dA 0, 4, .inl (fun _ => 0))), (q2, .inl (dA 0, 4, .inl (fun _ => 0)))] rfl (fun H locs hw => ?_)
  refine lv_aload_n hx hb dX6_init_40 rfl (lv_at hl 0 rfl) ?_
  refine lv_aload_n hx hb dX6_init_41 rfl (lv_at hl 1 rfl) ?_
  refine k_get C hw 1 rfl rfl wiX8 0 (by decide) wfX6_32 rfl dX6_init_42 ?_
  refine k_putF C hin hw 0 rfl rfl wiX6 tyX6 tyX6_ok nmX6 0 (by decide) wfX6_38 rfl rfl rfl rfl (Nat.le_of_ble_eq_true rfl) dX6_init_45 [(h0, .inr (6, [.ref h1_ring, .null, .null, .ref q0, .int (0 : Int32), .int (0 : Int32), .int (-1 : Int32), .ref q1, .ref q2])), (h1, .inr (8, [.ref h1_ring, .ref h1_degree, .ref h1_voice, .ref h1_loud, .ref h1_sharp, .ref h1_hears, .ref h1_tooNear])), (q0, .inl (dA 0, 4, .inl (fun _ => 0))), (q1, .inl (dA 0, 4, .inl (fun _ => 0))), (q2, .inl (dA 0, 4, .inl (fun _ => 0)))] rfl (fun H locs hw => ?_)
  refine lv_aload_n hx hb dX6_init_48 rfl (lv_at hl 0 rfl) ?_
  refine lv_aload_n hx hb dX6_init_49 rfl (lv_at hl 1 rfl) ?_
  refine k_putF C hin hw 0 rfl rfl wiX6 tyX6 tyX6_ok nmX6 1 (by decide) wfX6_39 rfl rfl rfl rfl (Nat.le_of_ble_eq_true rfl) dX6_init_50 [(h0, .inr (6, [.ref h1_ring, .ref h1, .null, .ref q0, .int (0 : Int32), .int (0 : Int32), .int (-1 : Int32), .ref q1, .ref q2])), (h1, .inr (8, [.ref h1_ring, .ref h1_degree, .ref h1_voice, .ref h1_loud, .ref h1_sharp, .ref h1_hears, .ref h1_tooNear])), (q0, .inl (dA 0, 4, .inl (fun _ => 0))), (q1, .inl (dA 0, 4, .inl (fun _ => 0))), (q2, .inl (dA 0, 4, .inl (fun _ => 0)))] rfl (fun H locs hw => ?_)
  refine lv_aload_n hx hb dX6_init_53 rfl (lv_at hl 0 rfl) ?_
  refine lv_aload_n hx hb dX6_init_54 rfl (lv_at hl 2 rfl) ?_
  refine k_putF C hin hw 0 rfl rfl wiX6 tyX6 tyX6_ok nmX6 2 (by decide) wfX6_43 rfl rfl rfl rfl (Nat.le_of_ble_eq_true rfl) dX6_init_55 [(h0, .inr (6, [.ref h1_ring, .ref h1, .ref h2, .ref q0, .int (0 : Int32), .int (0 : Int32), .int (-1 : Int32), .ref q1, .ref q2])), (h1, .inr (8, [.ref h1_ring, .ref h1_degree, .ref h1_voice, .ref h1_loud, .ref h1_sharp, .ref h1_hears, .ref h1_tooNear])), (q0, .inl (dA 0, 4, .inl (fun _ => 0))), (q1, .inl (dA 0, 4, .inl (fun _ => 0))), (q2, .inl (dA 0, 4, .inl (fun _ => 0)))] rfl (fun H locs hw => ?_)
  exact k_vretA (fun i => ([q0, q1, q2] : List Nat).getD i 0) C hw (Nat.le_of_ble_eq_true rfl) (Nat.le_of_ble_eq_true rfl) dX6_init_58

/-! RingPlaces$Loudness.<init>(LRingPlaces$Standing;)V -/
set_option maxHeartbeats 4000000 in
set_option maxRecDepth 100000 in
theorem qX0_init (l : Launch) (D : va_G) (dA : Nat → ClassId) (h0 : Nat) (h1 : Nat) (h1_ring : Nat) (h1_degree : Nat) (h1_voice : Nat) (h1_loud : Nat) (h1_sharp : Nat) (h1_hears : Nat) (h1_tooNear : Nat) : Mc l D dA yX0_init (Cond.code yX0_init cX0_init 3 none :: wA) 1 20 3 48 [.ref h0, .ref h1] [(h0, .inr (0, [.null, .null, .null, .null, .null])), (h1, .inr (8, [.ref h1_ring, .ref h1_degree, .ref h1_voice, .ref h1_loud, .ref h1_sharp, .ref h1_hears, .ref h1_tooNear]))] (fun u => [(h0, .inr (0, [.ref (u 0), .ref h1_ring, .ref h1, .ref (u 1), .ref (u 2)])), (h1, .inr (8, [.ref h1_ring, .ref h1_degree, .ref h1_voice, .ref h1_loud, .ref h1_sharp, .ref h1_hears, .ref h1_tooNear])), ((u 0), .inl (dA 0, 16, .inl (fl 16 (-1 : Int32)))), ((u 1), .inl (dA 0, 16, .inl (fun _ => 0))), ((u 2), .inl (dA 0, 16, .inl (fun _ => 0)))]) := by
  intro sz
  refine M_ofI (cc := cX0_init) (nL := 3) (ret := none) (own := RX0) (by decide) rfl (Nat.le_of_ble_eq_true rfl) rfl ?_
  intro p e s m below meth c ls hsz C hin hw hl
  subst hsz
  have hl : lv_has ls 3 [(0, .ref h0), (1, .ref h1)] := hl
  have hx := C.1
  have hb := C.2.1
  have hml := C.2.2.1
  have hown := C.2.2.2.1
  have hts := C.2.2.2.2.1
  refine lv_aload_n hx hb dX0_init_0 rfl (lv_at hl 0 rfl) ?_
  refine W.objInit hx hb hown (hts _ wlX0_3) (hts _ wxoi) (hts _ wxoc) rfl (by rw [hml]; exact hl.1) rfl dX0_init_1 (Nat.le_of_ble_eq_true rfl) (Nat.le_of_ble_eq_true rfl) ?_
  refine W.eq (g2 := F0 m 4 ls []) rfl ?_
  refine lv_aload_n hx hb dX0_init_4 rfl (lv_at hl 0 rfl) ?_
  refine lv_bipush (v := (16 : Int32)) hx hb dX0_init_5 (by decide) ?_
  refine k_newI C hw wxaI 16 (by decide) (by decide) (by decide) (Nat.le_of_ble_eq_true rfl) (Nat.le_of_ble_eq_true rfl) dX0_init_7 (fun q0 H hw => ?_)
  refine W.widen (k := 1) (n := 16) (Nat.le_of_ble_eq_true rfl) (Nat.le_of_ble_eq_true rfl) ?_
  have hw : St D [(h0, .inr (0, [.null, .null, .null, .null, .null])), (h1, .inr (8, [.ref h1_ring, .ref h1_degree, .ref h1_voice, .ref h1_loud, .ref h1_sharp, .ref h1_hears, .ref h1_tooNear]))] s [(h0, .inr (0, [.null, .null, .null, .null, .null])), (h1, .inr (8, [.ref h1_ring, .ref h1_degree, .ref h1_voice, .ref h1_loud, .ref h1_sharp, .ref h1_hears, .ref h1_tooNear])), (q0, .inl (dA 0, 16, .inl (fun _ => 0)))] H _ := hw
  refine k_putF C hin hw 0 rfl rfl wiX0 tyX0 tyX0_ok nmX0 0 (by decide) wfX0_9 rfl rfl rfl rfl (Nat.le_of_ble_eq_true rfl) dX0_init_9 [(h0, .inr (0, [.ref q0, .null, .null, .null, .null])), (h1, .inr (8, [.ref h1_ring, .ref h1_degree, .ref h1_voice, .ref h1_loud, .ref h1_sharp, .ref h1_hears, .ref h1_tooNear])), (q0, .inl (dA 0, 16, .inl (fun _ => 0)))] rfl (fun H locs hw => ?_)
  refine lv_aload_n hx hb dX0_init_12 rfl (lv_at hl 0 rfl) ?_
  refine lv_bipush (v := (16 : Int32)) hx hb dX0_init_13 (by decide) ?_
  refine k_newI C hw wxaI 16 (by decide) (by decide) (by decide) (Nat.le_of_ble_eq_true rfl) (Nat.le_of_ble_eq_true rfl) dX0_init_15 (fun q1 H hw => ?_)
  refine W.widen (k := 2) (n := 32) (Nat.le_of_ble_eq_true rfl) (Nat.le_of_ble_eq_true rfl) ?_
  have hw : St D [(h0, .inr (0, [.null, .null, .null, .null, .null])), (h1, .inr (8, [.ref h1_ring, .ref h1_degree, .ref h1_voice, .ref h1_loud, .ref h1_sharp, .ref h1_hears, .ref h1_tooNear]))] s [(h0, .inr (0, [.ref q0, .null, .null, .null, .null])), (h1, .inr (8, [.ref h1_ring, .ref h1_degree, .ref h1_voice, .ref h1_loud, .ref h1_sharp, .ref h1_hears, .ref h1_tooNear])), (q0, .inl (dA 0, 16, .inl (fun _ => 0))), (q1, .inl (dA 0, 16, .inl (fun _ => 0)))] H _ := hw
  refine k_putF C hin hw 0 rfl rfl wiX0 tyX0 tyX0_ok nmX0 3 (by decide) wfX0_15 rfl rfl rfl rfl (Nat.le_of_ble_eq_true rfl) dX0_init_17 [(h0, .inr (0, [.ref q0, .null, .null, .ref q1, .null])), (h1, .inr (8, [.ref h1_ring, .ref h1_degree, .ref h1_voice, .ref h1_loud, .ref h1_sharp, .ref h1_hears, .ref h1_tooNear])), (q0, .inl (dA 0, 16, .inl (fun _ => 0))), (q1, .inl (dA 0, 16, .inl (fun _ => 0)))] rfl (fun H locs hw => ?_)
  refine lv_aload_n hx hb dX0_init_20 rfl (lv_at hl 0 rfl) ?_
  refine lv_bipush (v := (16 : Int32)) hx hb dX0_init_21 (by decide) ?_
  refine k_newI C hw wxaI 16 (by decide) (by decide) (by decide) (Nat.le_of_ble_eq_true rfl) (Nat.le_of_ble_eq_true rfl) dX0_init_23 (fun q2 H hw => ?_)
  refine W.widen (k := 3) (n := 48) (Nat.le_of_ble_eq_true rfl) (Nat.le_of_ble_eq_true rfl) ?_
  have hw : St D [(h0, .inr (0, [.null, .null, .null, .null, .null])), (h1, .inr (8, [.ref h1_ring, .ref h1_degree, .ref h1_voice, .ref h1_loud, .ref h1_sharp, .ref h1_hears, .ref h1_tooNear]))] s [(h0, .inr (0, [.ref q0, .null, .null, .ref q1, .null])), (h1, .inr (8, [.ref h1_ring, .ref h1_degree, .ref h1_voice, .ref h1_loud, .ref h1_sharp, .ref h1_hears, .ref h1_tooNear])), (q0, .inl (dA 0, 16, .inl (fun _ => 0))), (q1, .inl (dA 0, 16, .inl (fun _ => 0))), (q2, .inl (dA 0, 16, .inl (fun _ => 0)))] H _ := hw
  refine k_putF C hin hw 0 rfl rfl wiX0 tyX0 tyX0_ok nmX0 4 (by decide) wfX0_18 rfl rfl rfl rfl (Nat.le_of_ble_eq_true rfl) dX0_init_25 [(h0, .inr (0, [.ref q0, .null, .null, .ref q1, .ref q2])), (h1, .inr (8, [.ref h1_ring, .ref h1_degree, .ref h1_voice, .ref h1_loud, .ref h1_sharp, .ref h1_hears, .ref h1_tooNear])), (q0, .inl (dA 0, 16, .inl (fun _ => 0))), (q1, .inl (dA 0, 16, .inl (fun _ => 0))), (q2, .inl (dA 0, 16, .inl (fun _ => 0)))] rfl (fun H locs hw => ?_)
  refine lv_aload_n hx hb dX0_init_28 rfl (lv_at hl 0 rfl) ?_
  refine lv_aload_n hx hb dX0_init_29 rfl (lv_at hl 1 rfl) ?_
  refine k_get C hw 1 rfl rfl wiX8 0 (by decide) wfX0_21 rfl dX0_init_30 ?_
  refine k_putF C hin hw 0 rfl rfl wiX0 tyX0 tyX0_ok nmX0 1 (by decide) wfX0_27 rfl rfl rfl rfl (Nat.le_of_ble_eq_true rfl) dX0_init_33 [(h0, .inr (0, [.ref q0, .ref h1_ring, .null, .ref q1, .ref q2])), (h1, .inr (8, [.ref h1_ring, .ref h1_degree, .ref h1_voice, .ref h1_loud, .ref h1_sharp, .ref h1_hears, .ref h1_tooNear])), (q0, .inl (dA 0, 16, .inl (fun _ => 0))), (q1, .inl (dA 0, 16, .inl (fun _ => 0))), (q2, .inl (dA 0, 16, .inl (fun _ => 0)))] rfl (fun H locs hw => ?_)
  refine lv_aload_n hx hb dX0_init_36 rfl (lv_at hl 0 rfl) ?_
  refine lv_aload_n hx hb dX0_init_37 rfl (lv_at hl 1 rfl) ?_
  refine k_putF C hin hw 0 rfl rfl wiX0 tyX0 tyX0_ok nmX0 2 (by decide) wfX0_28 rfl rfl rfl rfl (Nat.le_of_ble_eq_true rfl) dX0_init_38 [(h0, .inr (0, [.ref q0, .ref h1_ring, .ref h1, .ref q1, .ref q2])), (h1, .inr (8, [.ref h1_ring, .ref h1_degree, .ref h1_voice, .ref h1_loud, .ref h1_sharp, .ref h1_hears, .ref h1_tooNear])), (q0, .inl (dA 0, 16, .inl (fun _ => 0))), (q1, .inl (dA 0, 16, .inl (fun _ => 0))), (q2, .inl (dA 0, 16, .inl (fun _ => 0)))] rfl (fun H locs hw => ?_)
  refine lv_iconst (v := (0 : Int32)) hx hb dX0_init_41 (by decide) ?_
  refine lv_istore_n (lv' := [(2, .int (0 : Int32)), (0, .ref h0), (1, .ref h1)]) hx hb dX0_init_42 rfl hl (by decide) rfl (fun ls hl => ?_)
  refine lv_iload_n hx hb dX0_init_43 rfl (lv_at hl 0 rfl) ?_
  refine lv_bipush (v := (16 : Int32)) hx hb dX0_init_44 (by decide) ?_
  refine lv_icmp_ge (tgt := 62) hx hb dX0_init_46 (by decide) (fun c => absurd c (by decide)) (fun _ => ?_)
  refine lv_aload_n hx hb dX0_init_49 rfl (lv_at hl 1 rfl) ?_
  refine k_get C hw 0 rfl rfl wiX0 0 (by decide) wfX0_9 rfl dX0_init_50 ?_
  refine lv_iload_n hx hb dX0_init_53 rfl (lv_at hl 0 rfl) ?_
  refine lv_iconst (v := (-1 : Int32)) hx hb dX0_init_54 (by decide) ?_
  refine k_iast C hw 2 rfl (by unfold vp_in; decide) dX0_init_55 (fl 1 (-1 : Int32)) ((fl_s 0 (-1 : Int32)).trans (by rw [fl_0]; rfl)) [(h0, .inr (0, [.ref q0, .ref h1_ring, .ref h1, .ref q1, .ref q2])), (h1, .inr (8, [.ref h1_ring, .ref h1_degree, .ref h1_voice, .ref h1_loud, .ref h1_sharp, .ref h1_hears, .ref h1_tooNear])), (q0, .inl (dA 0, 16, .inl (fl 1 (-1 : Int32)))), (q1, .inl (dA 0, 16, .inl (fun _ => 0))), (q2, .inl (dA 0, 16, .inl (fun _ => 0)))] rfl (fun H locs hw => ?_)
  refine lv_iinc (v := (1 : Int32)) (lv' := [(2, .int (1 : Int32)), (0, .ref h0), (1, .ref h1)]) hx hb dX0_init_56 hl (k := 0) rfl (by decide) (by decide) rfl (fun ls hl => ?_)
  refine lv_goto (tgt := 43) hx hb dX0_init_59 (by decide) ?_
  refine lv_iload_n hx hb dX0_init_43 rfl (lv_at hl 0 rfl) ?_
  refine lv_bipush (v := (16 : Int32)) hx hb dX0_init_44 (by decide) ?_
  refine lv_icmp_ge (tgt := 62) hx hb dX0_init_46 (by decide) (fun c => absurd c (by decide)) (fun _ => ?_)
  refine lv_aload_n hx hb dX0_init_49 rfl (lv_at hl 1 rfl) ?_
  refine k_get C hw 0 rfl rfl wiX0 0 (by decide) wfX0_9 rfl dX0_init_50 ?_
  refine lv_iload_n hx hb dX0_init_53 rfl (lv_at hl 0 rfl) ?_
  refine lv_iconst (v := (-1 : Int32)) hx hb dX0_init_54 (by decide) ?_
  refine k_iast C hw 2 rfl (by unfold vp_in; decide) dX0_init_55 (fl 2 (-1 : Int32)) (fl_s 1 (-1 : Int32)) [(h0, .inr (0, [.ref q0, .ref h1_ring, .ref h1, .ref q1, .ref q2])), (h1, .inr (8, [.ref h1_ring, .ref h1_degree, .ref h1_voice, .ref h1_loud, .ref h1_sharp, .ref h1_hears, .ref h1_tooNear])), (q0, .inl (dA 0, 16, .inl (fl 2 (-1 : Int32)))), (q1, .inl (dA 0, 16, .inl (fun _ => 0))), (q2, .inl (dA 0, 16, .inl (fun _ => 0)))] rfl (fun H locs hw => ?_)
  refine lv_iinc (v := (2 : Int32)) (lv' := [(2, .int (2 : Int32)), (0, .ref h0), (1, .ref h1)]) hx hb dX0_init_56 hl (k := 0) rfl (by decide) (by decide) rfl (fun ls hl => ?_)
  refine lv_goto (tgt := 43) hx hb dX0_init_59 (by decide) ?_
  refine lv_iload_n hx hb dX0_init_43 rfl (lv_at hl 0 rfl) ?_
  refine lv_bipush (v := (16 : Int32)) hx hb dX0_init_44 (by decide) ?_
  refine lv_icmp_ge (tgt := 62) hx hb dX0_init_46 (by decide) (fun c => absurd c (by decide)) (fun _ => ?_)
  refine lv_aload_n hx hb dX0_init_49 rfl (lv_at hl 1 rfl) ?_
  refine k_get C hw 0 rfl rfl wiX0 0 (by decide) wfX0_9 rfl dX0_init_50 ?_
  refine lv_iload_n hx hb dX0_init_53 rfl (lv_at hl 0 rfl) ?_
  refine lv_iconst (v := (-1 : Int32)) hx hb dX0_init_54 (by decide) ?_
  refine k_iast C hw 2 rfl (by unfold vp_in; decide) dX0_init_55 (fl 3 (-1 : Int32)) (fl_s 2 (-1 : Int32)) [(h0, .inr (0, [.ref q0, .ref h1_ring, .ref h1, .ref q1, .ref q2])), (h1, .inr (8, [.ref h1_ring, .ref h1_degree, .ref h1_voice, .ref h1_loud, .ref h1_sharp, .ref h1_hears, .ref h1_tooNear])), (q0, .inl (dA 0, 16, .inl (fl 3 (-1 : Int32)))), (q1, .inl (dA 0, 16, .inl (fun _ => 0))), (q2, .inl (dA 0, 16, .inl (fun _ => 0)))] rfl (fun H locs hw => ?_)
  refine lv_iinc (v := (3 : Int32)) (lv' := [(2, .int (3 : Int32)), (0, .ref h0), (1, .ref h1)]) hx hb dX0_init_56 hl (k := 0) rfl (by decide) (by decide) rfl (fun ls hl => ?_)
  refine lv_goto (tgt := 43) hx hb dX0_init_59 (by decide) ?_
  refine lv_iload_n hx hb dX0_init_43 rfl (lv_at hl 0 rfl) ?_
  refine lv_bipush (v := (16 : Int32)) hx hb dX0_init_44 (by decide) ?_
  refine lv_icmp_ge (tgt := 62) hx hb dX0_init_46 (by decide) (fun c => absurd c (by decide)) (fun _ => ?_)
  refine lv_aload_n hx hb dX0_init_49 rfl (lv_at hl 1 rfl) ?_
  refine k_get C hw 0 rfl rfl wiX0 0 (by decide) wfX0_9 rfl dX0_init_50 ?_
  refine lv_iload_n hx hb dX0_init_53 rfl (lv_at hl 0 rfl) ?_
  refine lv_iconst (v := (-1 : Int32)) hx hb dX0_init_54 (by decide) ?_
  refine k_iast C hw 2 rfl (by unfold vp_in; decide) dX0_init_55 (fl 4 (-1 : Int32)) (fl_s 3 (-1 : Int32)) [(h0, .inr (0, [.ref q0, .ref h1_ring, .ref h1, .ref q1, .ref q2])), (h1, .inr (8, [.ref h1_ring, .ref h1_degree, .ref h1_voice, .ref h1_loud, .ref h1_sharp, .ref h1_hears, .ref h1_tooNear])), (q0, .inl (dA 0, 16, .inl (fl 4 (-1 : Int32)))), (q1, .inl (dA 0, 16, .inl (fun _ => 0))), (q2, .inl (dA 0, 16, .inl (fun _ => 0)))] rfl (fun H locs hw => ?_)
  refine lv_iinc (v := (4 : Int32)) (lv' := [(2, .int (4 : Int32)), (0, .ref h0), (1, .ref h1)]) hx hb dX0_init_56 hl (k := 0) rfl (by decide) (by decide) rfl (fun ls hl => ?_)
  refine lv_goto (tgt := 43) hx hb dX0_init_59 (by decide) ?_
  refine lv_iload_n hx hb dX0_init_43 rfl (lv_at hl 0 rfl) ?_
  refine lv_bipush (v := (16 : Int32)) hx hb dX0_init_44 (by decide) ?_
  refine lv_icmp_ge (tgt := 62) hx hb dX0_init_46 (by decide) (fun c => absurd c (by decide)) (fun _ => ?_)
  refine lv_aload_n hx hb dX0_init_49 rfl (lv_at hl 1 rfl) ?_
  refine k_get C hw 0 rfl rfl wiX0 0 (by decide) wfX0_9 rfl dX0_init_50 ?_
  refine lv_iload_n hx hb dX0_init_53 rfl (lv_at hl 0 rfl) ?_
  refine lv_iconst (v := (-1 : Int32)) hx hb dX0_init_54 (by decide) ?_
  refine k_iast C hw 2 rfl (by unfold vp_in; decide) dX0_init_55 (fl 5 (-1 : Int32)) (fl_s 4 (-1 : Int32)) [(h0, .inr (0, [.ref q0, .ref h1_ring, .ref h1, .ref q1, .ref q2])), (h1, .inr (8, [.ref h1_ring, .ref h1_degree, .ref h1_voice, .ref h1_loud, .ref h1_sharp, .ref h1_hears, .ref h1_tooNear])), (q0, .inl (dA 0, 16, .inl (fl 5 (-1 : Int32)))), (q1, .inl (dA 0, 16, .inl (fun _ => 0))), (q2, .inl (dA 0, 16, .inl (fun _ => 0)))] rfl (fun H locs hw => ?_)
  refine lv_iinc (v := (5 : Int32)) (lv' := [(2, .int (5 : Int32)), (0, .ref h0), (1, .ref h1)]) hx hb dX0_init_56 hl (k := 0) rfl (by decide) (by decide) rfl (fun ls hl => ?_)
  refine lv_goto (tgt := 43) hx hb dX0_init_59 (by decide) ?_
  refine lv_iload_n hx hb dX0_init_43 rfl (lv_at hl 0 rfl) ?_
  refine lv_bipush (v := (16 : Int32)) hx hb dX0_init_44 (by decide) ?_
  refine lv_icmp_ge (tgt := 62) hx hb dX0_init_46 (by decide) (fun c => absurd c (by decide)) (fun _ => ?_)
  refine lv_aload_n hx hb dX0_init_49 rfl (lv_at hl 1 rfl) ?_
  refine k_get C hw 0 rfl rfl wiX0 0 (by decide) wfX0_9 rfl dX0_init_50 ?_
  refine lv_iload_n hx hb dX0_init_53 rfl (lv_at hl 0 rfl) ?_
  refine lv_iconst (v := (-1 : Int32)) hx hb dX0_init_54 (by decide) ?_
  refine k_iast C hw 2 rfl (by unfold vp_in; decide) dX0_init_55 (fl 6 (-1 : Int32)) (fl_s 5 (-1 : Int32)) [(h0, .inr (0, [.ref q0, .ref h1_ring, .ref h1, .ref q1, .ref q2])), (h1, .inr (8, [.ref h1_ring, .ref h1_degree, .ref h1_voice, .ref h1_loud, .ref h1_sharp, .ref h1_hears, .ref h1_tooNear])), (q0, .inl (dA 0, 16, .inl (fl 6 (-1 : Int32)))), (q1, .inl (dA 0, 16, .inl (fun _ => 0))), (q2, .inl (dA 0, 16, .inl (fun _ => 0)))] rfl (fun H locs hw => ?_)
  refine lv_iinc (v := (6 : Int32)) (lv' := [(2, .int (6 : Int32)), (0, .ref h0), (1, .ref h1)]) hx hb dX0_init_56 hl (k := 0) rfl (by decide) (by decide) rfl (fun ls hl => ?_)
  refine lv_goto (tgt := 43) hx hb dX0_init_59 (by decide) ?_
  refine lv_iload_n hx hb dX0_init_43 rfl (lv_at hl 0 rfl) ?_
  refine lv_bipush (v := (16 : Int32)) hx hb dX0_init_44 (by decide) ?_
  refine lv_icmp_ge (tgt := 62) hx hb dX0_init_46 (by decide) (fun c => absurd c (by decide)) (fun _ => ?_)
  refine lv_aload_n hx hb dX0_init_49 rfl (lv_at hl 1 rfl) ?_
  refine k_get C hw 0 rfl rfl wiX0 0 (by decide) wfX0_9 rfl dX0_init_50 ?_
  refine lv_iload_n hx hb dX0_init_53 rfl (lv_at hl 0 rfl) ?_
  refine lv_iconst (v := (-1 : Int32)) hx hb dX0_init_54 (by decide) ?_
  refine k_iast C hw 2 rfl (by unfold vp_in; decide) dX0_init_55 (fl 7 (-1 : Int32)) (fl_s 6 (-1 : Int32)) [(h0, .inr (0, [.ref q0, .ref h1_ring, .ref h1, .ref q1, .ref q2])), (h1, .inr (8, [.ref h1_ring, .ref h1_degree, .ref h1_voice, .ref h1_loud, .ref h1_sharp, .ref h1_hears, .ref h1_tooNear])), (q0, .inl (dA 0, 16, .inl (fl 7 (-1 : Int32)))), (q1, .inl (dA 0, 16, .inl (fun _ => 0))), (q2, .inl (dA 0, 16, .inl (fun _ => 0)))] rfl (fun H locs hw => ?_)
  refine lv_iinc (v := (7 : Int32)) (lv' := [(2, .int (7 : Int32)), (0, .ref h0), (1, .ref h1)]) hx hb dX0_init_56 hl (k := 0) rfl (by decide) (by decide) rfl (fun ls hl => ?_)
  refine lv_goto (tgt := 43) hx hb dX0_init_59 (by decide) ?_
  refine lv_iload_n hx hb dX0_init_43 rfl (lv_at hl 0 rfl) ?_
  refine lv_bipush (v := (16 : Int32)) hx hb dX0_init_44 (by decide) ?_
  refine lv_icmp_ge (tgt := 62) hx hb dX0_init_46 (by decide) (fun c => absurd c (by decide)) (fun _ => ?_)
  refine lv_aload_n hx hb dX0_init_49 rfl (lv_at hl 1 rfl) ?_
  refine k_get C hw 0 rfl rfl wiX0 0 (by decide) wfX0_9 rfl dX0_init_50 ?_
  refine lv_iload_n hx hb dX0_init_53 rfl (lv_at hl 0 rfl) ?_
  refine lv_iconst (v := (-1 : Int32)) hx hb dX0_init_54 (by decide) ?_
  refine k_iast C hw 2 rfl (by unfold vp_in; decide) dX0_init_55 (fl 8 (-1 : Int32)) (fl_s 7 (-1 : Int32)) [(h0, .inr (0, [.ref q0, .ref h1_ring, .ref h1, .ref q1, .ref q2])), (h1, .inr (8, [.ref h1_ring, .ref h1_degree, .ref h1_voice, .ref h1_loud, .ref h1_sharp, .ref h1_hears, .ref h1_tooNear])), (q0, .inl (dA 0, 16, .inl (fl 8 (-1 : Int32)))), (q1, .inl (dA 0, 16, .inl (fun _ => 0))), (q2, .inl (dA 0, 16, .inl (fun _ => 0)))] rfl (fun H locs hw => ?_)
  refine lv_iinc (v := (8 : Int32)) (lv' := [(2, .int (8 : Int32)), (0, .ref h0), (1, .ref h1)]) hx hb dX0_init_56 hl (k := 0) rfl (by decide) (by decide) rfl (fun ls hl => ?_)
  refine lv_goto (tgt := 43) hx hb dX0_init_59 (by decide) ?_
  refine lv_iload_n hx hb dX0_init_43 rfl (lv_at hl 0 rfl) ?_
  refine lv_bipush (v := (16 : Int32)) hx hb dX0_init_44 (by decide) ?_
  refine lv_icmp_ge (tgt := 62) hx hb dX0_init_46 (by decide) (fun c => absurd c (by decide)) (fun _ => ?_)
  refine lv_aload_n hx hb dX0_init_49 rfl (lv_at hl 1 rfl) ?_
  refine k_get C hw 0 rfl rfl wiX0 0 (by decide) wfX0_9 rfl dX0_init_50 ?_
  refine lv_iload_n hx hb dX0_init_53 rfl (lv_at hl 0 rfl) ?_
  refine lv_iconst (v := (-1 : Int32)) hx hb dX0_init_54 (by decide) ?_
  refine k_iast C hw 2 rfl (by unfold vp_in; decide) dX0_init_55 (fl 9 (-1 : Int32)) (fl_s 8 (-1 : Int32)) [(h0, .inr (0, [.ref q0, .ref h1_ring, .ref h1, .ref q1, .ref q2])), (h1, .inr (8, [.ref h1_ring, .ref h1_degree, .ref h1_voice, .ref h1_loud, .ref h1_sharp, .ref h1_hears, .ref h1_tooNear])), (q0, .inl (dA 0, 16, .inl (fl 9 (-1 : Int32)))), (q1, .inl (dA 0, 16, .inl (fun _ => 0))), (q2, .inl (dA 0, 16, .inl (fun _ => 0)))] rfl (fun H locs hw => ?_)
  refine lv_iinc (v := (9 : Int32)) (lv' := [(2, .int (9 : Int32)), (0, .ref h0), (1, .ref h1)]) hx hb dX0_init_56 hl (k := 0) rfl (by decide) (by decide) rfl (fun ls hl => ?_)
  refine lv_goto (tgt := 43) hx hb dX0_init_59 (by decide) ?_
  refine lv_iload_n hx hb dX0_init_43 rfl (lv_at hl 0 rfl) ?_
  refine lv_bipush (v := (16 : Int32)) hx hb dX0_init_44 (by decide) ?_
  refine lv_icmp_ge (tgt := 62) hx hb dX0_init_46 (by decide) (fun c => absurd c (by decide)) (fun _ => ?_)
  refine lv_aload_n hx hb dX0_init_49 rfl (lv_at hl 1 rfl) ?_
  refine k_get C hw 0 rfl rfl wiX0 0 (by decide) wfX0_9 rfl dX0_init_50 ?_
  refine lv_iload_n hx hb dX0_init_53 rfl (lv_at hl 0 rfl) ?_
  refine lv_iconst (v := (-1 : Int32)) hx hb dX0_init_54 (by decide) ?_
  refine k_iast C hw 2 rfl (by unfold vp_in; decide) dX0_init_55 (fl 10 (-1 : Int32)) (fl_s 9 (-1 : Int32)) [(h0, .inr (0, [.ref q0, .ref h1_ring, .ref h1, .ref q1, .ref q2])), (h1, .inr (8, [.ref h1_ring, .ref h1_degree, .ref h1_voice, .ref h1_loud, .ref h1_sharp, .ref h1_hears, .ref h1_tooNear])), (q0, .inl (dA 0, 16, .inl (fl 10 (-1 : Int32)))), (q1, .inl (dA 0, 16, .inl (fun _ => 0))), (q2, .inl (dA 0, 16, .inl (fun _ => 0)))] rfl (fun H locs hw => ?_)
  refine lv_iinc (v := (10 : Int32)) (lv' := [(2, .int (10 : Int32)), (0, .ref h0), (1, .ref h1)]) hx hb dX0_init_56 hl (k := 0) rfl (by decide) (by decide) rfl (fun ls hl => ?_)
  refine lv_goto (tgt := 43) hx hb dX0_init_59 (by decide) ?_
  refine lv_iload_n hx hb dX0_init_43 rfl (lv_at hl 0 rfl) ?_
  refine lv_bipush (v := (16 : Int32)) hx hb dX0_init_44 (by decide) ?_
  refine lv_icmp_ge (tgt := 62) hx hb dX0_init_46 (by decide) (fun c => absurd c (by decide)) (fun _ => ?_)
  refine lv_aload_n hx hb dX0_init_49 rfl (lv_at hl 1 rfl) ?_
  refine k_get C hw 0 rfl rfl wiX0 0 (by decide) wfX0_9 rfl dX0_init_50 ?_
  refine lv_iload_n hx hb dX0_init_53 rfl (lv_at hl 0 rfl) ?_
  refine lv_iconst (v := (-1 : Int32)) hx hb dX0_init_54 (by decide) ?_
  refine k_iast C hw 2 rfl (by unfold vp_in; decide) dX0_init_55 (fl 11 (-1 : Int32)) (fl_s 10 (-1 : Int32)) [(h0, .inr (0, [.ref q0, .ref h1_ring, .ref h1, .ref q1, .ref q2])), (h1, .inr (8, [.ref h1_ring, .ref h1_degree, .ref h1_voice, .ref h1_loud, .ref h1_sharp, .ref h1_hears, .ref h1_tooNear])), (q0, .inl (dA 0, 16, .inl (fl 11 (-1 : Int32)))), (q1, .inl (dA 0, 16, .inl (fun _ => 0))), (q2, .inl (dA 0, 16, .inl (fun _ => 0)))] rfl (fun H locs hw => ?_)
  refine lv_iinc (v := (11 : Int32)) (lv' := [(2, .int (11 : Int32)), (0, .ref h0), (1, .ref h1)]) hx hb dX0_init_56 hl (k := 0) rfl (by decide) (by decide) rfl (fun ls hl => ?_)
  refine lv_goto (tgt := 43) hx hb dX0_init_59 (by decide) ?_
  refine lv_iload_n hx hb dX0_init_43 rfl (lv_at hl 0 rfl) ?_
  refine lv_bipush (v := (16 : Int32)) hx hb dX0_init_44 (by decide) ?_
  refine lv_icmp_ge (tgt := 62) hx hb dX0_init_46 (by decide) (fun c => absurd c (by decide)) (fun _ => ?_)
  refine lv_aload_n hx hb dX0_init_49 rfl (lv_at hl 1 rfl) ?_
  refine k_get C hw 0 rfl rfl wiX0 0 (by decide) wfX0_9 rfl dX0_init_50 ?_
  refine lv_iload_n hx hb dX0_init_53 rfl (lv_at hl 0 rfl) ?_
  refine lv_iconst (v := (-1 : Int32)) hx hb dX0_init_54 (by decide) ?_
  refine k_iast C hw 2 rfl (by unfold vp_in; decide) dX0_init_55 (fl 12 (-1 : Int32)) (fl_s 11 (-1 : Int32)) [(h0, .inr (0, [.ref q0, .ref h1_ring, .ref h1, .ref q1, .ref q2])), (h1, .inr (8, [.ref h1_ring, .ref h1_degree, .ref h1_voice, .ref h1_loud, .ref h1_sharp, .ref h1_hears, .ref h1_tooNear])), (q0, .inl (dA 0, 16, .inl (fl 12 (-1 : Int32)))), (q1, .inl (dA 0, 16, .inl (fun _ => 0))), (q2, .inl (dA 0, 16, .inl (fun _ => 0)))] rfl (fun H locs hw => ?_)
  refine lv_iinc (v := (12 : Int32)) (lv' := [(2, .int (12 : Int32)), (0, .ref h0), (1, .ref h1)]) hx hb dX0_init_56 hl (k := 0) rfl (by decide) (by decide) rfl (fun ls hl => ?_)
  refine lv_goto (tgt := 43) hx hb dX0_init_59 (by decide) ?_
  refine lv_iload_n hx hb dX0_init_43 rfl (lv_at hl 0 rfl) ?_
  refine lv_bipush (v := (16 : Int32)) hx hb dX0_init_44 (by decide) ?_
  refine lv_icmp_ge (tgt := 62) hx hb dX0_init_46 (by decide) (fun c => absurd c (by decide)) (fun _ => ?_)
  refine lv_aload_n hx hb dX0_init_49 rfl (lv_at hl 1 rfl) ?_
  refine k_get C hw 0 rfl rfl wiX0 0 (by decide) wfX0_9 rfl dX0_init_50 ?_
  refine lv_iload_n hx hb dX0_init_53 rfl (lv_at hl 0 rfl) ?_
  refine lv_iconst (v := (-1 : Int32)) hx hb dX0_init_54 (by decide) ?_
  refine k_iast C hw 2 rfl (by unfold vp_in; decide) dX0_init_55 (fl 13 (-1 : Int32)) (fl_s 12 (-1 : Int32)) [(h0, .inr (0, [.ref q0, .ref h1_ring, .ref h1, .ref q1, .ref q2])), (h1, .inr (8, [.ref h1_ring, .ref h1_degree, .ref h1_voice, .ref h1_loud, .ref h1_sharp, .ref h1_hears, .ref h1_tooNear])), (q0, .inl (dA 0, 16, .inl (fl 13 (-1 : Int32)))), (q1, .inl (dA 0, 16, .inl (fun _ => 0))), (q2, .inl (dA 0, 16, .inl (fun _ => 0)))] rfl (fun H locs hw => ?_)
  refine lv_iinc (v := (13 : Int32)) (lv' := [(2, .int (13 : Int32)), (0, .ref h0), (1, .ref h1)]) hx hb dX0_init_56 hl (k := 0) rfl (by decide) (by decide) rfl (fun ls hl => ?_)
  refine lv_goto (tgt := 43) hx hb dX0_init_59 (by decide) ?_
  refine lv_iload_n hx hb dX0_init_43 rfl (lv_at hl 0 rfl) ?_
  refine lv_bipush (v := (16 : Int32)) hx hb dX0_init_44 (by decide) ?_
  refine lv_icmp_ge (tgt := 62) hx hb dX0_init_46 (by decide) (fun c => absurd c (by decide)) (fun _ => ?_)
  refine lv_aload_n hx hb dX0_init_49 rfl (lv_at hl 1 rfl) ?_
  refine k_get C hw 0 rfl rfl wiX0 0 (by decide) wfX0_9 rfl dX0_init_50 ?_
  refine lv_iload_n hx hb dX0_init_53 rfl (lv_at hl 0 rfl) ?_
  refine lv_iconst (v := (-1 : Int32)) hx hb dX0_init_54 (by decide) ?_
  refine k_iast C hw 2 rfl (by unfold vp_in; decide) dX0_init_55 (fl 14 (-1 : Int32)) (fl_s 13 (-1 : Int32)) [(h0, .inr (0, [.ref q0, .ref h1_ring, .ref h1, .ref q1, .ref q2])), (h1, .inr (8, [.ref h1_ring, .ref h1_degree, .ref h1_voice, .ref h1_loud, .ref h1_sharp, .ref h1_hears, .ref h1_tooNear])), (q0, .inl (dA 0, 16, .inl (fl 14 (-1 : Int32)))), (q1, .inl (dA 0, 16, .inl (fun _ => 0))), (q2, .inl (dA 0, 16, .inl (fun _ => 0)))] rfl (fun H locs hw => ?_)
  refine lv_iinc (v := (14 : Int32)) (lv' := [(2, .int (14 : Int32)), (0, .ref h0), (1, .ref h1)]) hx hb dX0_init_56 hl (k := 0) rfl (by decide) (by decide) rfl (fun ls hl => ?_)
  refine lv_goto (tgt := 43) hx hb dX0_init_59 (by decide) ?_
  refine lv_iload_n hx hb dX0_init_43 rfl (lv_at hl 0 rfl) ?_
  refine lv_bipush (v := (16 : Int32)) hx hb dX0_init_44 (by decide) ?_
  refine lv_icmp_ge (tgt := 62) hx hb dX0_init_46 (by decide) (fun c => absurd c (by decide)) (fun _ => ?_)
  refine lv_aload_n hx hb dX0_init_49 rfl (lv_at hl 1 rfl) ?_
  refine k_get C hw 0 rfl rfl wiX0 0 (by decide) wfX0_9 rfl dX0_init_50 ?_
  refine lv_iload_n hx hb dX0_init_53 rfl (lv_at hl 0 rfl) ?_
  refine lv_iconst (v := (-1 : Int32)) hx hb dX0_init_54 (by decide) ?_
  refine k_iast C hw 2 rfl (by unfold vp_in; decide) dX0_init_55 (fl 15 (-1 : Int32)) (fl_s 14 (-1 : Int32)) [(h0, .inr (0, [.ref q0, .ref h1_ring, .ref h1, .ref q1, .ref q2])), (h1, .inr (8, [.ref h1_ring, .ref h1_degree, .ref h1_voice, .ref h1_loud, .ref h1_sharp, .ref h1_hears, .ref h1_tooNear])), (q0, .inl (dA 0, 16, .inl (fl 15 (-1 : Int32)))), (q1, .inl (dA 0, 16, .inl (fun _ => 0))), (q2, .inl (dA 0, 16, .inl (fun _ => 0)))] rfl (fun H locs hw => ?_)
  refine lv_iinc (v := (15 : Int32)) (lv' := [(2, .int (15 : Int32)), (0, .ref h0), (1, .ref h1)]) hx hb dX0_init_56 hl (k := 0) rfl (by decide) (by decide) rfl (fun ls hl => ?_)
  refine lv_goto (tgt := 43) hx hb dX0_init_59 (by decide) ?_
  refine lv_iload_n hx hb dX0_init_43 rfl (lv_at hl 0 rfl) ?_
  refine lv_bipush (v := (16 : Int32)) hx hb dX0_init_44 (by decide) ?_
  refine lv_icmp_ge (tgt := 62) hx hb dX0_init_46 (by decide) (fun c => absurd c (by decide)) (fun _ => ?_)
  refine lv_aload_n hx hb dX0_init_49 rfl (lv_at hl 1 rfl) ?_
  refine k_get C hw 0 rfl rfl wiX0 0 (by decide) wfX0_9 rfl dX0_init_50 ?_
  refine lv_iload_n hx hb dX0_init_53 rfl (lv_at hl 0 rfl) ?_
  refine lv_iconst (v := (-1 : Int32)) hx hb dX0_init_54 (by decide) ?_
  refine k_iast C hw 2 rfl (by unfold vp_in; decide) dX0_init_55 (fl 16 (-1 : Int32)) (fl_s 15 (-1 : Int32)) [(h0, .inr (0, [.ref q0, .ref h1_ring, .ref h1, .ref q1, .ref q2])), (h1, .inr (8, [.ref h1_ring, .ref h1_degree, .ref h1_voice, .ref h1_loud, .ref h1_sharp, .ref h1_hears, .ref h1_tooNear])), (q0, .inl (dA 0, 16, .inl (fl 16 (-1 : Int32)))), (q1, .inl (dA 0, 16, .inl (fun _ => 0))), (q2, .inl (dA 0, 16, .inl (fun _ => 0)))] rfl (fun H locs hw => ?_)
  refine lv_iinc (v := (16 : Int32)) (lv' := [(2, .int (16 : Int32)), (0, .ref h0), (1, .ref h1)]) hx hb dX0_init_56 hl (k := 0) rfl (by decide) (by decide) rfl (fun ls hl => ?_)
  refine lv_goto (tgt := 43) hx hb dX0_init_59 (by decide) ?_
  refine lv_iload_n hx hb dX0_init_43 rfl (lv_at hl 0 rfl) ?_
  refine lv_bipush (v := (16 : Int32)) hx hb dX0_init_44 (by decide) ?_
  refine lv_icmp_ge (tgt := 62) hx hb dX0_init_46 (by decide) (fun _ => ?_) (fun c => absurd (by decide) c)
  exact k_vretA (fun i => ([q0, q1, q2] : List Nat).getD i 0) C hw (Nat.le_of_ble_eq_true rfl) (Nat.le_of_ble_eq_true rfl) dX0_init_62

/-! RingPlaces$Narrowing.<init>(LRingPlaces$Standing;LRingPlaces$Standing;)V -/
set_option maxHeartbeats 4000000 in
set_option maxRecDepth 100000 in
theorem qX1_init (l : Launch) (D : va_G) (dA : Nat → ClassId) (h0 : Nat) (h1 : Nat) (h1_ring : Nat) (h1_degree : Nat) (h1_voice : Nat) (h1_loud : Nat) (h1_sharp : Nat) (h1_hears : Nat) (h1_tooNear : Nat) (h2 : Nat) : Mc l D dA yX1_init (Cond.code yX1_init cX1_init 3 none :: wA) 1 20 1 6 [.ref h0, .ref h1, .ref h2] [(h0, .inr (1, [.int 0, .null, .null, .null, .null, .int 0])), (h1, .inr (8, [.ref h1_ring, .ref h1_degree, .ref h1_voice, .ref h1_loud, .ref h1_sharp, .ref h1_hears, .ref h1_tooNear]))] (fun u => [(h0, .inr (1, [.int (-1 : Int32), .ref h1_ring, .ref h1, .ref h2, .ref (u 0), .int (0 : Int32)])), (h1, .inr (8, [.ref h1_ring, .ref h1_degree, .ref h1_voice, .ref h1_loud, .ref h1_sharp, .ref h1_hears, .ref h1_tooNear])), ((u 0), .inl (dA 0, 6, .inl (fun _ => 0)))]) := by
  intro sz
  refine M_ofI (cc := cX1_init) (nL := 3) (ret := none) (own := RX1) (by decide) rfl (Nat.le_of_ble_eq_true rfl) rfl ?_
  intro p e s m below meth c ls hsz C hin hw hl
  subst hsz
  have hl : lv_has ls 3 [(0, .ref h0), (1, .ref h1), (2, .ref h2)] := hl
  have hx := C.1
  have hb := C.2.1
  have hml := C.2.2.1
  have hown := C.2.2.2.1
  have hts := C.2.2.2.2.1
  refine lv_aload_n hx hb dX1_init_0 rfl (lv_at hl 0 rfl) ?_
  refine W.objInit hx hb hown (hts _ wlX1_3) (hts _ wxoi) (hts _ wxoc) rfl (by rw [hml]; exact hl.1) rfl dX1_init_1 (Nat.le_of_ble_eq_true rfl) (Nat.le_of_ble_eq_true rfl) ?_
  refine W.eq (g2 := F0 m 4 ls []) rfl ?_
  refine lv_aload_n hx hb dX1_init_4 rfl (lv_at hl 0 rfl) ?_
  refine lv_iconst (v := (-1 : Int32)) hx hb dX1_init_5 (by decide) ?_
  refine k_put C hw 0 rfl rfl wiX1 tyX1 tyX1_ok nmX1 0 (by decide) wfX1_9 rfl rfl rfl (Nat.le_of_ble_eq_true rfl) dX1_init_6 [(h0, .inr (1, [.int (-1 : Int32), .null, .null, .null, .null, .int 0])), (h1, .inr (8, [.ref h1_ring, .ref h1_degree, .ref h1_voice, .ref h1_loud, .ref h1_sharp, .ref h1_hears, .ref h1_tooNear]))] rfl (fun H locs hw => ?_)
  refine lv_aload_n hx hb dX1_init_9 rfl (lv_at hl 0 rfl) ?_
  refine lv_bipush (v := (6 : Int32)) hx hb dX1_init_10 (by decide) ?_
  refine k_newI C hw wxaI 6 (by decide) (by decide) (by decide) (Nat.le_of_ble_eq_true rfl) (Nat.le_of_ble_eq_true rfl) dX1_init_12 (fun q0 H hw => ?_)
  refine W.widen (k := 1) (n := 6) (Nat.le_of_ble_eq_true rfl) (Nat.le_of_ble_eq_true rfl) ?_
  have hw : St D [(h0, .inr (1, [.int 0, .null, .null, .null, .null, .int 0])), (h1, .inr (8, [.ref h1_ring, .ref h1_degree, .ref h1_voice, .ref h1_loud, .ref h1_sharp, .ref h1_hears, .ref h1_tooNear]))] s [(h0, .inr (1, [.int (-1 : Int32), .null, .null, .null, .null, .int 0])), (h1, .inr (8, [.ref h1_ring, .ref h1_degree, .ref h1_voice, .ref h1_loud, .ref h1_sharp, .ref h1_hears, .ref h1_tooNear])), (q0, .inl (dA 0, 6, .inl (fun _ => 0)))] H _ := hw
  refine k_putF C hin hw 0 rfl rfl wiX1 tyX1 tyX1_ok nmX1 4 (by decide) wfX1_15 rfl rfl rfl rfl (Nat.le_of_ble_eq_true rfl) dX1_init_14 [(h0, .inr (1, [.int (-1 : Int32), .null, .null, .null, .ref q0, .int 0])), (h1, .inr (8, [.ref h1_ring, .ref h1_degree, .ref h1_voice, .ref h1_loud, .ref h1_sharp, .ref h1_hears, .ref h1_tooNear])), (q0, .inl (dA 0, 6, .inl (fun _ => 0)))] rfl (fun H locs hw => ?_)
  refine lv_aload_n hx hb dX1_init_17 rfl (lv_at hl 0 rfl) ?_
  refine lv_iconst (v := (0 : Int32)) hx hb dX1_init_18 (by decide) ?_
  refine k_put C hw 0 rfl rfl wiX1 tyX1 tyX1_ok nmX1 5 (by decide) wfX1_19 rfl rfl rfl (Nat.le_of_ble_eq_true rfl) dX1_init_19 [(h0, .inr (1, [.int (-1 : Int32), .null, .null, .null, .ref q0, .int (0 : Int32)])), (h1, .inr (8, [.ref h1_ring, .ref h1_degree, .ref h1_voice, .ref h1_loud, .ref h1_sharp, .ref h1_hears, .ref h1_tooNear])), (q0, .inl (dA 0, 6, .inl (fun _ => 0)))] rfl (fun H locs hw => ?_)
  refine lv_aload_n hx hb dX1_init_22 rfl (lv_at hl 0 rfl) ?_
  refine lv_aload_n hx hb dX1_init_23 rfl (lv_at hl 1 rfl) ?_
  refine k_get C hw 1 rfl rfl wiX8 0 (by decide) wfX1_22 rfl dX1_init_24 ?_
  refine k_putF C hin hw 0 rfl rfl wiX1 tyX1 tyX1_ok nmX1 1 (by decide) wfX1_28 rfl rfl rfl rfl (Nat.le_of_ble_eq_true rfl) dX1_init_27 [(h0, .inr (1, [.int (-1 : Int32), .ref h1_ring, .null, .null, .ref q0, .int (0 : Int32)])), (h1, .inr (8, [.ref h1_ring, .ref h1_degree, .ref h1_voice, .ref h1_loud, .ref h1_sharp, .ref h1_hears, .ref h1_tooNear])), (q0, .inl (dA 0, 6, .inl (fun _ => 0)))] rfl (fun H locs hw => ?_)
  refine lv_aload_n hx hb dX1_init_30 rfl (lv_at hl 0 rfl) ?_
  refine lv_aload_n hx hb dX1_init_31 rfl (lv_at hl 1 rfl) ?_
  refine k_putF C hin hw 0 rfl rfl wiX1 tyX1 tyX1_ok nmX1 2 (by decide) wfX1_29 rfl rfl rfl rfl (Nat.le_of_ble_eq_true rfl) dX1_init_32 [(h0, .inr (1, [.int (-1 : Int32), .ref h1_ring, .ref h1, .null, .ref q0, .int (0 : Int32)])), (h1, .inr (8, [.ref h1_ring, .ref h1_degree, .ref h1_voice, .ref h1_loud, .ref h1_sharp, .ref h1_hears, .ref h1_tooNear])), (q0, .inl (dA 0, 6, .inl (fun _ => 0)))] rfl (fun H locs hw => ?_)
  refine lv_aload_n hx hb dX1_init_35 rfl (lv_at hl 0 rfl) ?_
  refine lv_aload_n hx hb dX1_init_36 rfl (lv_at hl 2 rfl) ?_
  refine k_putF C hin hw 0 rfl rfl wiX1 tyX1 tyX1_ok nmX1 3 (by decide) wfX1_33 rfl rfl rfl rfl (Nat.le_of_ble_eq_true rfl) dX1_init_37 [(h0, .inr (1, [.int (-1 : Int32), .ref h1_ring, .ref h1, .ref h2, .ref q0, .int (0 : Int32)])), (h1, .inr (8, [.ref h1_ring, .ref h1_degree, .ref h1_voice, .ref h1_loud, .ref h1_sharp, .ref h1_hears, .ref h1_tooNear])), (q0, .inl (dA 0, 6, .inl (fun _ => 0)))] rfl (fun H locs hw => ?_)
  exact k_vretA (fun i => ([q0] : List Nat).getD i 0) C hw (Nat.le_of_ble_eq_true rfl) (Nat.le_of_ble_eq_true rfl) dX1_init_40

/-! RingPlaces$Shares.<init>(LRingPlaces$Standing;)V -/
set_option maxHeartbeats 4000000 in
set_option maxRecDepth 100000 in
theorem qX7_init (l : Launch) (D : va_G) (dA : Nat → ClassId) (h0 : Nat) (h1 : Nat) (h1_ring : Nat) (h1_degree : Nat) (h1_voice : Nat) (h1_loud : Nat) (h1_sharp : Nat) (h1_hears : Nat) (h1_tooNear : Nat) : Mc l D dA yX7_init (Cond.code yX7_init cX7_init 2 none :: wA) 1 20 2 70 [.ref h0, .ref h1] [(h0, .inr (7, [.int 0, .int 0, .null, .null, .null, .null])), (h1, .inr (8, [.ref h1_ring, .ref h1_degree, .ref h1_voice, .ref h1_loud, .ref h1_sharp, .ref h1_hears, .ref h1_tooNear]))] (fun u => [(h0, .inr (7, [.int (0 : Int32), .int (0 : Int32), .ref h1_ring, .ref h1, .ref (u 0), .ref (u 1)])), (h1, .inr (8, [.ref h1_ring, .ref h1_degree, .ref h1_voice, .ref h1_loud, .ref h1_sharp, .ref h1_hears, .ref h1_tooNear])), ((u 0), .inl (dA 0, 64, .inl (fun _ => 0))), ((u 1), .inl (dA 0, 6, .inl (fun _ => 0)))]) := by
  intro sz
  refine M_ofI (cc := cX7_init) (nL := 2) (ret := none) (own := RX7) (by decide) rfl (Nat.le_of_ble_eq_true rfl) rfl ?_
  intro p e s m below meth c ls hsz C hin hw hl
  subst hsz
  have hl : lv_has ls 2 [(0, .ref h0), (1, .ref h1)] := hl
  have hx := C.1
  have hb := C.2.1
  have hml := C.2.2.1
  have hown := C.2.2.2.1
  have hts := C.2.2.2.2.1
  refine lv_aload_n hx hb dX7_init_0 rfl (lv_at hl 0 rfl) ?_
  refine W.objInit hx hb hown (hts _ wlX7_3) (hts _ wxoi) (hts _ wxoc) rfl (by rw [hml]; exact hl.1) rfl dX7_init_1 (Nat.le_of_ble_eq_true rfl) (Nat.le_of_ble_eq_true rfl) ?_
  refine W.eq (g2 := F0 m 4 ls []) rfl ?_
  refine lv_aload_n hx hb dX7_init_4 rfl (lv_at hl 0 rfl) ?_
  refine lv_iconst (v := (0 : Int32)) hx hb dX7_init_5 (by decide) ?_
  refine k_put C hw 0 rfl rfl wiX7 tyX7 tyX7_ok nmX7 0 (by decide) wfX7_9 rfl rfl rfl (Nat.le_of_ble_eq_true rfl) dX7_init_6 [(h0, .inr (7, [.int (0 : Int32), .int 0, .null, .null, .null, .null])), (h1, .inr (8, [.ref h1_ring, .ref h1_degree, .ref h1_voice, .ref h1_loud, .ref h1_sharp, .ref h1_hears, .ref h1_tooNear]))] rfl (fun H locs hw => ?_)
  refine lv_aload_n hx hb dX7_init_9 rfl (lv_at hl 0 rfl) ?_
  refine lv_iconst (v := (0 : Int32)) hx hb dX7_init_10 (by decide) ?_
  refine k_put C hw 0 rfl rfl wiX7 tyX7 tyX7_ok nmX7 1 (by decide) wfX7_15 rfl rfl rfl (Nat.le_of_ble_eq_true rfl) dX7_init_11 [(h0, .inr (7, [.int (0 : Int32), .int (0 : Int32), .null, .null, .null, .null])), (h1, .inr (8, [.ref h1_ring, .ref h1_degree, .ref h1_voice, .ref h1_loud, .ref h1_sharp, .ref h1_hears, .ref h1_tooNear]))] rfl (fun H locs hw => ?_)
  refine lv_aload_n hx hb dX7_init_14 rfl (lv_at hl 0 rfl) ?_
  refine lv_bipush (v := (64 : Int32)) hx hb dX7_init_15 (by decide) ?_
  refine k_newI C hw wxaI 64 (by decide) (by decide) (by decide) (Nat.le_of_ble_eq_true rfl) (Nat.le_of_ble_eq_true rfl) dX7_init_17 (fun q0 H hw => ?_)
  refine W.widen (k := 1) (n := 64) (Nat.le_of_ble_eq_true rfl) (Nat.le_of_ble_eq_true rfl) ?_
  have hw : St D [(h0, .inr (7, [.int 0, .int 0, .null, .null, .null, .null])), (h1, .inr (8, [.ref h1_ring, .ref h1_degree, .ref h1_voice, .ref h1_loud, .ref h1_sharp, .ref h1_hears, .ref h1_tooNear]))] s [(h0, .inr (7, [.int (0 : Int32), .int (0 : Int32), .null, .null, .null, .null])), (h1, .inr (8, [.ref h1_ring, .ref h1_degree, .ref h1_voice, .ref h1_loud, .ref h1_sharp, .ref h1_hears, .ref h1_tooNear])), (q0, .inl (dA 0, 64, .inl (fun _ => 0)))] H _ := hw
  refine k_putF C hin hw 0 rfl rfl wiX7 tyX7 tyX7_ok nmX7 4 (by decide) wfX7_18 rfl rfl rfl rfl (Nat.le_of_ble_eq_true rfl) dX7_init_19 [(h0, .inr (7, [.int (0 : Int32), .int (0 : Int32), .null, .null, .ref q0, .null])), (h1, .inr (8, [.ref h1_ring, .ref h1_degree, .ref h1_voice, .ref h1_loud, .ref h1_sharp, .ref h1_hears, .ref h1_tooNear])), (q0, .inl (dA 0, 64, .inl (fun _ => 0)))] rfl (fun H locs hw => ?_)
  refine lv_aload_n hx hb dX7_init_22 rfl (lv_at hl 0 rfl) ?_
  refine lv_bipush (v := (6 : Int32)) hx hb dX7_init_23 (by decide) ?_
  refine k_newI C hw wxaI 6 (by decide) (by decide) (by decide) (Nat.le_of_ble_eq_true rfl) (Nat.le_of_ble_eq_true rfl) dX7_init_25 (fun q1 H hw => ?_)
  refine W.widen (k := 2) (n := 70) (Nat.le_of_ble_eq_true rfl) (Nat.le_of_ble_eq_true rfl) ?_
  have hw : St D [(h0, .inr (7, [.int 0, .int 0, .null, .null, .null, .null])), (h1, .inr (8, [.ref h1_ring, .ref h1_degree, .ref h1_voice, .ref h1_loud, .ref h1_sharp, .ref h1_hears, .ref h1_tooNear]))] s [(h0, .inr (7, [.int (0 : Int32), .int (0 : Int32), .null, .null, .ref q0, .null])), (h1, .inr (8, [.ref h1_ring, .ref h1_degree, .ref h1_voice, .ref h1_loud, .ref h1_sharp, .ref h1_hears, .ref h1_tooNear])), (q0, .inl (dA 0, 64, .inl (fun _ => 0))), (q1, .inl (dA 0, 6, .inl (fun _ => 0)))] H _ := hw
  refine k_putF C hin hw 0 rfl rfl wiX7 tyX7 tyX7_ok nmX7 5 (by decide) wfX7_22 rfl rfl rfl rfl (Nat.le_of_ble_eq_true rfl) dX7_init_27 [(h0, .inr (7, [.int (0 : Int32), .int (0 : Int32), .null, .null, .ref q0, .ref q1])), (h1, .inr (8, [.ref h1_ring, .ref h1_degree, .ref h1_voice, .ref h1_loud, .ref h1_sharp, .ref h1_hears, .ref h1_tooNear])), (q0, .inl (dA 0, 64, .inl (fun _ => 0))), (q1, .inl (dA 0, 6, .inl (fun _ => 0)))] rfl (fun H locs hw => ?_)
  refine lv_aload_n hx hb dX7_init_30 rfl (lv_at hl 0 rfl) ?_
  refine lv_aload_n hx hb dX7_init_31 rfl (lv_at hl 1 rfl) ?_
  refine k_get C hw 1 rfl rfl wiX8 0 (by decide) wfX7_25 rfl dX7_init_32 ?_
  refine k_putF C hin hw 0 rfl rfl wiX7 tyX7 tyX7_ok nmX7 2 (by decide) wfX7_31 rfl rfl rfl rfl (Nat.le_of_ble_eq_true rfl) dX7_init_35 [(h0, .inr (7, [.int (0 : Int32), .int (0 : Int32), .ref h1_ring, .null, .ref q0, .ref q1])), (h1, .inr (8, [.ref h1_ring, .ref h1_degree, .ref h1_voice, .ref h1_loud, .ref h1_sharp, .ref h1_hears, .ref h1_tooNear])), (q0, .inl (dA 0, 64, .inl (fun _ => 0))), (q1, .inl (dA 0, 6, .inl (fun _ => 0)))] rfl (fun H locs hw => ?_)
  refine lv_aload_n hx hb dX7_init_38 rfl (lv_at hl 0 rfl) ?_
  refine lv_aload_n hx hb dX7_init_39 rfl (lv_at hl 1 rfl) ?_
  refine k_putF C hin hw 0 rfl rfl wiX7 tyX7 tyX7_ok nmX7 3 (by decide) wfX7_32 rfl rfl rfl rfl (Nat.le_of_ble_eq_true rfl) dX7_init_40 [(h0, .inr (7, [.int (0 : Int32), .int (0 : Int32), .ref h1_ring, .ref h1, .ref q0, .ref q1])), (h1, .inr (8, [.ref h1_ring, .ref h1_degree, .ref h1_voice, .ref h1_loud, .ref h1_sharp, .ref h1_hears, .ref h1_tooNear])), (q0, .inl (dA 0, 64, .inl (fun _ => 0))), (q1, .inl (dA 0, 6, .inl (fun _ => 0)))] rfl (fun H locs hw => ?_)
  exact k_vretA (fun i => ([q0, q1] : List Nat).getD i 0) C hw (Nat.le_of_ble_eq_true rfl) (Nat.le_of_ble_eq_true rfl) dX7_init_43

/-! RingPlacesModel.<init>()V -/
set_option maxHeartbeats 4000000 in
set_option maxRecDepth 100000 in
theorem qX12_init (l : Launch) (D : va_G) (dA : Nat → ClassId) (h0 : Nat) : Mc l D dA yX12_init (Cond.code yX12_init cX12_init 1 none :: wA) 1 20 27 3410 [.ref h0] [(h0, .inr (12, [.int 0, .null, .int 0, .int 0, .int 0, .int 0, .int 0, .int 0, .int 0, .int 0, .long 0, .int 0, .null, .null, .null, .null, .null, .null, .null, .null, .int 0, .int 0, .null, .null, .null, .null, .null, .null, .int 0, .null, .null, .int 0, .int 0, .null, .null, .int 0, .null, .null, .int 0, .int 0, .null, .null, .null, .null, .null, .null]))] (fun u => [(h0, .inr (12, [.int 0, .ref (u 0), .int 0, .int 0, .int 0, .int 0, .int 0, .int 0, .int 0, .int 0, .long 0, .int 0, .ref (u 1), .ref (u 2), .ref (u 3), .ref (u 4), .ref (u 5), .ref (u 6), .ref (u 7), .ref (u 8), .int 0, .int 0, .ref (u 9), .ref (u 10), .ref (u 11), .ref (u 12), .ref (u 13), .ref (u 14), .int 0, .ref (u 15), .ref (u 16), .int 0, .int 0, .ref (u 17), .ref (u 18), .int 0, .ref (u 19), .ref (u 20), .int 0, .int (-1 : Int32), .ref (u 21), .ref (u 22), .ref (u 23), .ref (u 24), .ref (u 25), .ref (u 26)])), ((u 0), .inl (dA 0, 1240, .inl (fun _ => 0))), ((u 1), .inl (dA 0, 380, .inl (fun _ => 0))), ((u 2), .inl (dA 0, 340, .inl (fun _ => 0))), ((u 3), .inl (dA 0, 760, .inl (fun _ => 0))), ((u 4), .inl (dA 1, 16, .inr (.inl (fun _ => 0)))), ((u 5), .inl (dA 1, 16, .inr (.inl (fun _ => 0)))), ((u 6), .inl (dA 1, 32, .inr (.inl (fun _ => 0)))), ((u 7), .inl (dA 1, 24, .inr (.inl (fun _ => 0)))), ((u 8), .inl (dA 3, 2, .inl (fun _ => 0))), ((u 9), .inl (dA 0, 16, .inl (fun _ => 0))), ((u 10), .inl (dA 0, 16, .inl (fun _ => 0))), ((u 11), .inl (dA 0, 12, .inl (fun _ => 0))), ((u 12), .inl (dA 0, 12, .inl (fun _ => 0))), ((u 13), .inl (dA 0, 144, .inl (fun _ => 0))), ((u 14), .inl (dA 0, 7, .inl (fun _ => 0))), ((u 15), .inl (dA 0, 12, .inl (fun _ => 0))), ((u 16), .inl (dA 0, 7, .inl (fun _ => 0))), ((u 17), .inl (dA 0, 32, .inl (fun _ => 0))), ((u 18), .inl (dA 0, 32, .inl (fun _ => 0))), ((u 19), .inl (dA 0, 16, .inl (fun _ => 0))), ((u 20), .inl (dA 0, 16, .inl (fun _ => 0))), ((u 21), .inl (dA 0, 6, .inl (fun _ => 0))), ((u 22), .inl (dA 0, 16, .inl (fun _ => 0))), ((u 23), .inl (dA 0, 64, .inl (fun _ => 0))), ((u 24), .inl (dA 0, 64, .inl (fun _ => 0))), ((u 25), .inl (dA 0, 64, .inl (fun _ => 0))), ((u 26), .inl (dA 0, 64, .inl (fun _ => 0)))]) := by
  intro sz
  refine M_ofI (cc := cX12_init) (nL := 1) (ret := none) (own := RX12) (by decide) rfl (Nat.le_of_ble_eq_true rfl) rfl ?_
  intro p e s m below meth c ls hsz C hin hw hl
  subst hsz
  have hl : lv_has ls 1 [(0, .ref h0)] := hl
  have hx := C.1
  have hb := C.2.1
  have hml := C.2.2.1
  have hown := C.2.2.2.1
  have hts := C.2.2.2.2.1
  refine lv_aload_n hx hb dX12_init_0 rfl (lv_at hl 0 rfl) ?_
  refine W.objInit hx hb hown (hts _ wlX12_1) (hts _ wxoi) (hts _ wxoc) rfl (by rw [hml]; exact hl.1) rfl dX12_init_1 (Nat.le_of_ble_eq_true rfl) (Nat.le_of_ble_eq_true rfl) ?_
  refine W.eq (g2 := F0 m 4 ls []) rfl ?_
  refine lv_aload_n hx hb dX12_init_4 rfl (lv_at hl 0 rfl) ?_
  refine lv_sipush (v := (1240 : Int32)) hx hb dX12_init_5 (by decide) ?_
  refine k_newI C hw wxaI 1240 (by decide) (by decide) (by decide) (Nat.le_of_ble_eq_true rfl) (Nat.le_of_ble_eq_true rfl) dX12_init_8 (fun q0 H hw => ?_)
  refine W.widen (k := 1) (n := 1240) (Nat.le_of_ble_eq_true rfl) (Nat.le_of_ble_eq_true rfl) ?_
  have hw : St D [(h0, .inr (12, [.int 0, .null, .int 0, .int 0, .int 0, .int 0, .int 0, .int 0, .int 0, .int 0, .long 0, .int 0, .null, .null, .null, .null, .null, .null, .null, .null, .int 0, .int 0, .null, .null, .null, .null, .null, .null, .int 0, .null, .null, .int 0, .int 0, .null, .null, .int 0, .null, .null, .int 0, .int 0, .null, .null, .null, .null, .null, .null]))] s [(h0, .inr (12, [.int 0, .null, .int 0, .int 0, .int 0, .int 0, .int 0, .int 0, .int 0, .int 0, .long 0, .int 0, .null, .null, .null, .null, .null, .null, .null, .null, .int 0, .int 0, .null, .null, .null, .null, .null, .null, .int 0, .null, .null, .int 0, .int 0, .null, .null, .int 0, .null, .null, .int 0, .int 0, .null, .null, .null, .null, .null, .null])), (q0, .inl (dA 0, 1240, .inl (fun _ => 0)))] H _ := hw
  refine k_putF C hin hw 0 rfl rfl wiX12 tyX12 tyX12_ok nmX12 1 (by decide) wfX12_7 rfl rfl rfl rfl (Nat.le_of_ble_eq_true rfl) dX12_init_10 [(h0, .inr (12, [.int 0, .ref q0, .int 0, .int 0, .int 0, .int 0, .int 0, .int 0, .int 0, .int 0, .long 0, .int 0, .null, .null, .null, .null, .null, .null, .null, .null, .int 0, .int 0, .null, .null, .null, .null, .null, .null, .int 0, .null, .null, .int 0, .int 0, .null, .null, .int 0, .null, .null, .int 0, .int 0, .null, .null, .null, .null, .null, .null])), (q0, .inl (dA 0, 1240, .inl (fun _ => 0)))] rfl (fun H locs hw => ?_)
  refine lv_aload_n hx hb dX12_init_13 rfl (lv_at hl 0 rfl) ?_
  refine lv_sipush (v := (380 : Int32)) hx hb dX12_init_14 (by decide) ?_
  refine k_newI C hw wxaI 380 (by decide) (by decide) (by decide) (Nat.le_of_ble_eq_true rfl) (Nat.le_of_ble_eq_true rfl) dX12_init_17 (fun q1 H hw => ?_)
  refine W.widen (k := 2) (n := 1620) (Nat.le_of_ble_eq_true rfl) (Nat.le_of_ble_eq_true rfl) ?_
  have hw : St D [(h0, .inr (12, [.int 0, .null, .int 0, .int 0, .int 0, .int 0, .int 0, .int 0, .int 0, .int 0, .long 0, .int 0, .null, .null, .null, .null, .null, .null, .null, .null, .int 0, .int 0, .null, .null, .null, .null, .null, .null, .int 0, .null, .null, .int 0, .int 0, .null, .null, .int 0, .null, .null, .int 0, .int 0, .null, .null, .null, .null, .null, .null]))] s [(h0, .inr (12, [.int 0, .ref q0, .int 0, .int 0, .int 0, .int 0, .int 0, .int 0, .int 0, .int 0, .long 0, .int 0, .null, .null, .null, .null, .null, .null, .null, .null, .int 0, .int 0, .null, .null, .null, .null, .null, .null, .int 0, .null, .null, .int 0, .int 0, .null, .null, .int 0, .null, .null, .int 0, .int 0, .null, .null, .null, .null, .null, .null])), (q0, .inl (dA 0, 1240, .inl (fun _ => 0))), (q1, .inl (dA 0, 380, .inl (fun _ => 0)))] H _ := hw
  refine k_putF C hin hw 0 rfl rfl wiX12 tyX12 tyX12_ok nmX12 12 (by decide) wfX12_13 rfl rfl rfl rfl (Nat.le_of_ble_eq_true rfl) dX12_init_19 [(h0, .inr (12, [.int 0, .ref q0, .int 0, .int 0, .int 0, .int 0, .int 0, .int 0, .int 0, .int 0, .long 0, .int 0, .ref q1, .null, .null, .null, .null, .null, .null, .null, .int 0, .int 0, .null, .null, .null, .null, .null, .null, .int 0, .null, .null, .int 0, .int 0, .null, .null, .int 0, .null, .null, .int 0, .int 0, .null, .null, .null, .null, .null, .null])), (q0, .inl (dA 0, 1240, .inl (fun _ => 0))), (q1, .inl (dA 0, 380, .inl (fun _ => 0)))] rfl (fun H locs hw => ?_)
  refine lv_aload_n hx hb dX12_init_22 rfl (lv_at hl 0 rfl) ?_
  refine lv_sipush (v := (340 : Int32)) hx hb dX12_init_23 (by decide) ?_
  refine k_newI C hw wxaI 340 (by decide) (by decide) (by decide) (Nat.le_of_ble_eq_true rfl) (Nat.le_of_ble_eq_true rfl) dX12_init_26 (fun q2 H hw => ?_)
  refine W.widen (k := 3) (n := 1960) (Nat.le_of_ble_eq_true rfl) (Nat.le_of_ble_eq_true rfl) ?_
  have hw : St D [(h0, .inr (12, [.int 0, .null, .int 0, .int 0, .int 0, .int 0, .int 0, .int 0, .int 0, .int 0, .long 0, .int 0, .null, .null, .null, .null, .null, .null, .null, .null, .int 0, .int 0, .null, .null, .null, .null, .null, .null, .int 0, .null, .null, .int 0, .int 0, .null, .null, .int 0, .null, .null, .int 0, .int 0, .null, .null, .null, .null, .null, .null]))] s [(h0, .inr (12, [.int 0, .ref q0, .int 0, .int 0, .int 0, .int 0, .int 0, .int 0, .int 0, .int 0, .long 0, .int 0, .ref q1, .null, .null, .null, .null, .null, .null, .null, .int 0, .int 0, .null, .null, .null, .null, .null, .null, .int 0, .null, .null, .int 0, .int 0, .null, .null, .int 0, .null, .null, .int 0, .int 0, .null, .null, .null, .null, .null, .null])), (q0, .inl (dA 0, 1240, .inl (fun _ => 0))), (q1, .inl (dA 0, 380, .inl (fun _ => 0))), (q2, .inl (dA 0, 340, .inl (fun _ => 0)))] H _ := hw
  refine k_putF C hin hw 0 rfl rfl wiX12 tyX12 tyX12_ok nmX12 13 (by decide) wfX12_16 rfl rfl rfl rfl (Nat.le_of_ble_eq_true rfl) dX12_init_28 [(h0, .inr (12, [.int 0, .ref q0, .int 0, .int 0, .int 0, .int 0, .int 0, .int 0, .int 0, .int 0, .long 0, .int 0, .ref q1, .ref q2, .null, .null, .null, .null, .null, .null, .int 0, .int 0, .null, .null, .null, .null, .null, .null, .int 0, .null, .null, .int 0, .int 0, .null, .null, .int 0, .null, .null, .int 0, .int 0, .null, .null, .null, .null, .null, .null])), (q0, .inl (dA 0, 1240, .inl (fun _ => 0))), (q1, .inl (dA 0, 380, .inl (fun _ => 0))), (q2, .inl (dA 0, 340, .inl (fun _ => 0)))] rfl (fun H locs hw => ?_)
  refine lv_aload_n hx hb dX12_init_31 rfl (lv_at hl 0 rfl) ?_
  refine lv_sipush (v := (760 : Int32)) hx hb dX12_init_32 (by decide) ?_
  refine k_newI C hw wxaI 760 (by decide) (by decide) (by decide) (Nat.le_of_ble_eq_true rfl) (Nat.le_of_ble_eq_true rfl) dX12_init_35 (fun q3 H hw => ?_)
  refine W.widen (k := 4) (n := 2720) (Nat.le_of_ble_eq_true rfl) (Nat.le_of_ble_eq_true rfl) ?_
  have hw : St D [(h0, .inr (12, [.int 0, .null, .int 0, .int 0, .int 0, .int 0, .int 0, .int 0, .int 0, .int 0, .long 0, .int 0, .null, .null, .null, .null, .null, .null, .null, .null, .int 0, .int 0, .null, .null, .null, .null, .null, .null, .int 0, .null, .null, .int 0, .int 0, .null, .null, .int 0, .null, .null, .int 0, .int 0, .null, .null, .null, .null, .null, .null]))] s [(h0, .inr (12, [.int 0, .ref q0, .int 0, .int 0, .int 0, .int 0, .int 0, .int 0, .int 0, .int 0, .long 0, .int 0, .ref q1, .ref q2, .null, .null, .null, .null, .null, .null, .int 0, .int 0, .null, .null, .null, .null, .null, .null, .int 0, .null, .null, .int 0, .int 0, .null, .null, .int 0, .null, .null, .int 0, .int 0, .null, .null, .null, .null, .null, .null])), (q0, .inl (dA 0, 1240, .inl (fun _ => 0))), (q1, .inl (dA 0, 380, .inl (fun _ => 0))), (q2, .inl (dA 0, 340, .inl (fun _ => 0))), (q3, .inl (dA 0, 760, .inl (fun _ => 0)))] H _ := hw
  refine k_putF C hin hw 0 rfl rfl wiX12 tyX12 tyX12_ok nmX12 14 (by decide) wfX12_19 rfl rfl rfl rfl (Nat.le_of_ble_eq_true rfl) dX12_init_37 [(h0, .inr (12, [.int 0, .ref q0, .int 0, .int 0, .int 0, .int 0, .int 0, .int 0, .int 0, .int 0, .long 0, .int 0, .ref q1, .ref q2, .ref q3, .null, .null, .null, .null, .null, .int 0, .int 0, .null, .null, .null, .null, .null, .null, .int 0, .null, .null, .int 0, .int 0, .null, .null, .int 0, .null, .null, .int 0, .int 0, .null, .null, .null, .null, .null, .null])), (q0, .inl (dA 0, 1240, .inl (fun _ => 0))), (q1, .inl (dA 0, 380, .inl (fun _ => 0))), (q2, .inl (dA 0, 340, .inl (fun _ => 0))), (q3, .inl (dA 0, 760, .inl (fun _ => 0)))] rfl (fun H locs hw => ?_)
  refine lv_aload_n hx hb dX12_init_40 rfl (lv_at hl 0 rfl) ?_
  refine lv_bipush (v := (16 : Int32)) hx hb dX12_init_41 (by decide) ?_
  refine k_newJ C hw wxaJ 16 (by decide) (by decide) (by decide) (Nat.le_of_ble_eq_true rfl) (Nat.le_of_ble_eq_true rfl) dX12_init_43 (fun q4 H hw => ?_)
  refine W.widen (k := 5) (n := 2736) (Nat.le_of_ble_eq_true rfl) (Nat.le_of_ble_eq_true rfl) ?_
  have hw : St D [(h0, .inr (12, [.int 0, .null, .int 0, .int 0, .int 0, .int 0, .int 0, .int 0, .int 0, .int 0, .long 0, .int 0, .null, .null, .null, .null, .null, .null, .null, .null, .int 0, .int 0, .null, .null, .null, .null, .null, .null, .int 0, .null, .null, .int 0, .int 0, .null, .null, .int 0, .null, .null, .int 0, .int 0, .null, .null, .null, .null, .null, .null]))] s [(h0, .inr (12, [.int 0, .ref q0, .int 0, .int 0, .int 0, .int 0, .int 0, .int 0, .int 0, .int 0, .long 0, .int 0, .ref q1, .ref q2, .ref q3, .null, .null, .null, .null, .null, .int 0, .int 0, .null, .null, .null, .null, .null, .null, .int 0, .null, .null, .int 0, .int 0, .null, .null, .int 0, .null, .null, .int 0, .int 0, .null, .null, .null, .null, .null, .null])), (q0, .inl (dA 0, 1240, .inl (fun _ => 0))), (q1, .inl (dA 0, 380, .inl (fun _ => 0))), (q2, .inl (dA 0, 340, .inl (fun _ => 0))), (q3, .inl (dA 0, 760, .inl (fun _ => 0))), (q4, .inl (dA 1, 16, .inr (.inl (fun _ => 0))))] H _ := hw
  refine k_putF C hin hw 0 rfl rfl wiX12 tyX12 tyX12_ok nmX12 15 (by decide) wfX12_22 rfl rfl rfl rfl (Nat.le_of_ble_eq_true rfl) dX12_init_45 [(h0, .inr (12, [.int 0, .ref q0, .int 0, .int 0, .int 0, .int 0, .int 0, .int 0, .int 0, .int 0, .long 0, .int 0, .ref q1, .ref q2, .ref q3, .ref q4, .null, .null, .null, .null, .int 0, .int 0, .null, .null, .null, .null, .null, .null, .int 0, .null, .null, .int 0, .int 0, .null, .null, .int 0, .null, .null, .int 0, .int 0, .null, .null, .null, .null, .null, .null])), (q0, .inl (dA 0, 1240, .inl (fun _ => 0))), (q1, .inl (dA 0, 380, .inl (fun _ => 0))), (q2, .inl (dA 0, 340, .inl (fun _ => 0))), (q3, .inl (dA 0, 760, .inl (fun _ => 0))), (q4, .inl (dA 1, 16, .inr (.inl (fun _ => 0))))] rfl (fun H locs hw => ?_)
  refine lv_aload_n hx hb dX12_init_48 rfl (lv_at hl 0 rfl) ?_
  refine lv_bipush (v := (16 : Int32)) hx hb dX12_init_49 (by decide) ?_
  refine k_newJ C hw wxaJ 16 (by decide) (by decide) (by decide) (Nat.le_of_ble_eq_true rfl) (Nat.le_of_ble_eq_true rfl) dX12_init_51 (fun q5 H hw => ?_)
  refine W.widen (k := 6) (n := 2752) (Nat.le_of_ble_eq_true rfl) (Nat.le_of_ble_eq_true rfl) ?_
  have hw : St D [(h0, .inr (12, [.int 0, .null, .int 0, .int 0, .int 0, .int 0, .int 0, .int 0, .int 0, .int 0, .long 0, .int 0, .null, .null, .null, .null, .null, .null, .null, .null, .int 0, .int 0, .null, .null, .null, .null, .null, .null, .int 0, .null, .null, .int 0, .int 0, .null, .null, .int 0, .null, .null, .int 0, .int 0, .null, .null, .null, .null, .null, .null]))] s [(h0, .inr (12, [.int 0, .ref q0, .int 0, .int 0, .int 0, .int 0, .int 0, .int 0, .int 0, .int 0, .long 0, .int 0, .ref q1, .ref q2, .ref q3, .ref q4, .null, .null, .null, .null, .int 0, .int 0, .null, .null, .null, .null, .null, .null, .int 0, .null, .null, .int 0, .int 0, .null, .null, .int 0, .null, .null, .int 0, .int 0, .null, .null, .null, .null, .null, .null])), (q0, .inl (dA 0, 1240, .inl (fun _ => 0))), (q1, .inl (dA 0, 380, .inl (fun _ => 0))), (q2, .inl (dA 0, 340, .inl (fun _ => 0))), (q3, .inl (dA 0, 760, .inl (fun _ => 0))), (q4, .inl (dA 1, 16, .inr (.inl (fun _ => 0)))), (q5, .inl (dA 1, 16, .inr (.inl (fun _ => 0))))] H _ := hw
  refine k_putF C hin hw 0 rfl rfl wiX12 tyX12 tyX12_ok nmX12 16 (by decide) wfX12_26 rfl rfl rfl rfl (Nat.le_of_ble_eq_true rfl) dX12_init_53 [(h0, .inr (12, [.int 0, .ref q0, .int 0, .int 0, .int 0, .int 0, .int 0, .int 0, .int 0, .int 0, .long 0, .int 0, .ref q1, .ref q2, .ref q3, .ref q4, .ref q5, .null, .null, .null, .int 0, .int 0, .null, .null, .null, .null, .null, .null, .int 0, .null, .null, .int 0, .int 0, .null, .null, .int 0, .null, .null, .int 0, .int 0, .null, .null, .null, .null, .null, .null])), (q0, .inl (dA 0, 1240, .inl (fun _ => 0))), (q1, .inl (dA 0, 380, .inl (fun _ => 0))), (q2, .inl (dA 0, 340, .inl (fun _ => 0))), (q3, .inl (dA 0, 760, .inl (fun _ => 0))), (q4, .inl (dA 1, 16, .inr (.inl (fun _ => 0)))), (q5, .inl (dA 1, 16, .inr (.inl (fun _ => 0))))] rfl (fun H locs hw => ?_)
  refine lv_aload_n hx hb dX12_init_56 rfl (lv_at hl 0 rfl) ?_
  refine lv_bipush (v := (32 : Int32)) hx hb dX12_init_57 (by decide) ?_
  refine k_newJ C hw wxaJ 32 (by decide) (by decide) (by decide) (Nat.le_of_ble_eq_true rfl) (Nat.le_of_ble_eq_true rfl) dX12_init_59 (fun q6 H hw => ?_)
  refine W.widen (k := 7) (n := 2784) (Nat.le_of_ble_eq_true rfl) (Nat.le_of_ble_eq_true rfl) ?_
  have hw : St D [(h0, .inr (12, [.int 0, .null, .int 0, .int 0, .int 0, .int 0, .int 0, .int 0, .int 0, .int 0, .long 0, .int 0, .null, .null, .null, .null, .null, .null, .null, .null, .int 0, .int 0, .null, .null, .null, .null, .null, .null, .int 0, .null, .null, .int 0, .int 0, .null, .null, .int 0, .null, .null, .int 0, .int 0, .null, .null, .null, .null, .null, .null]))] s [(h0, .inr (12, [.int 0, .ref q0, .int 0, .int 0, .int 0, .int 0, .int 0, .int 0, .int 0, .int 0, .long 0, .int 0, .ref q1, .ref q2, .ref q3, .ref q4, .ref q5, .null, .null, .null, .int 0, .int 0, .null, .null, .null, .null, .null, .null, .int 0, .null, .null, .int 0, .int 0, .null, .null, .int 0, .null, .null, .int 0, .int 0, .null, .null, .null, .null, .null, .null])), (q0, .inl (dA 0, 1240, .inl (fun _ => 0))), (q1, .inl (dA 0, 380, .inl (fun _ => 0))), (q2, .inl (dA 0, 340, .inl (fun _ => 0))), (q3, .inl (dA 0, 760, .inl (fun _ => 0))), (q4, .inl (dA 1, 16, .inr (.inl (fun _ => 0)))), (q5, .inl (dA 1, 16, .inr (.inl (fun _ => 0)))), (q6, .inl (dA 1, 32, .inr (.inl (fun _ => 0))))] H _ := hw
  refine k_putF C hin hw 0 rfl rfl wiX12 tyX12 tyX12_ok nmX12 17 (by decide) wfX12_29 rfl rfl rfl rfl (Nat.le_of_ble_eq_true rfl) dX12_init_61 [(h0, .inr (12, [.int 0, .ref q0, .int 0, .int 0, .int 0, .int 0, .int 0, .int 0, .int 0, .int 0, .long 0, .int 0, .ref q1, .ref q2, .ref q3, .ref q4, .ref q5, .ref q6, .null, .null, .int 0, .int 0, .null, .null, .null, .null, .null, .null, .int 0, .null, .null, .int 0, .int 0, .null, .null, .int 0, .null, .null, .int 0, .int 0, .null, .null, .null, .null, .null, .null])), (q0, .inl (dA 0, 1240, .inl (fun _ => 0))), (q1, .inl (dA 0, 380, .inl (fun _ => 0))), (q2, .inl (dA 0, 340, .inl (fun _ => 0))), (q3, .inl (dA 0, 760, .inl (fun _ => 0))), (q4, .inl (dA 1, 16, .inr (.inl (fun _ => 0)))), (q5, .inl (dA 1, 16, .inr (.inl (fun _ => 0)))), (q6, .inl (dA 1, 32, .inr (.inl (fun _ => 0))))] rfl (fun H locs hw => ?_)
  refine lv_aload_n hx hb dX12_init_64 rfl (lv_at hl 0 rfl) ?_
  refine lv_bipush (v := (24 : Int32)) hx hb dX12_init_65 (by decide) ?_
  refine k_newJ C hw wxaJ 24 (by decide) (by decide) (by decide) (Nat.le_of_ble_eq_true rfl) (Nat.le_of_ble_eq_true rfl) dX12_init_67 (fun q7 H hw => ?_)
  refine W.widen (k := 8) (n := 2808) (Nat.le_of_ble_eq_true rfl) (Nat.le_of_ble_eq_true rfl) ?_
  have hw : St D [(h0, .inr (12, [.int 0, .null, .int 0, .int 0, .int 0, .int 0, .int 0, .int 0, .int 0, .int 0, .long 0, .int 0, .null, .null, .null, .null, .null, .null, .null, .null, .int 0, .int 0, .null, .null, .null, .null, .null, .null, .int 0, .null, .null, .int 0, .int 0, .null, .null, .int 0, .null, .null, .int 0, .int 0, .null, .null, .null, .null, .null, .null]))] s [(h0, .inr (12, [.int 0, .ref q0, .int 0, .int 0, .int 0, .int 0, .int 0, .int 0, .int 0, .int 0, .long 0, .int 0, .ref q1, .ref q2, .ref q3, .ref q4, .ref q5, .ref q6, .null, .null, .int 0, .int 0, .null, .null, .null, .null, .null, .null, .int 0, .null, .null, .int 0, .int 0, .null, .null, .int 0, .null, .null, .int 0, .int 0, .null, .null, .null, .null, .null, .null])), (q0, .inl (dA 0, 1240, .inl (fun _ => 0))), (q1, .inl (dA 0, 380, .inl (fun _ => 0))), (q2, .inl (dA 0, 340, .inl (fun _ => 0))), (q3, .inl (dA 0, 760, .inl (fun _ => 0))), (q4, .inl (dA 1, 16, .inr (.inl (fun _ => 0)))), (q5, .inl (dA 1, 16, .inr (.inl (fun _ => 0)))), (q6, .inl (dA 1, 32, .inr (.inl (fun _ => 0)))), (q7, .inl (dA 1, 24, .inr (.inl (fun _ => 0))))] H _ := hw
  refine k_putF C hin hw 0 rfl rfl wiX12 tyX12 tyX12_ok nmX12 18 (by decide) wfX12_32 rfl rfl rfl rfl (Nat.le_of_ble_eq_true rfl) dX12_init_69 [(h0, .inr (12, [.int 0, .ref q0, .int 0, .int 0, .int 0, .int 0, .int 0, .int 0, .int 0, .int 0, .long 0, .int 0, .ref q1, .ref q2, .ref q3, .ref q4, .ref q5, .ref q6, .ref q7, .null, .int 0, .int 0, .null, .null, .null, .null, .null, .null, .int 0, .null, .null, .int 0, .int 0, .null, .null, .int 0, .null, .null, .int 0, .int 0, .null, .null, .null, .null, .null, .null])), (q0, .inl (dA 0, 1240, .inl (fun _ => 0))), (q1, .inl (dA 0, 380, .inl (fun _ => 0))), (q2, .inl (dA 0, 340, .inl (fun _ => 0))), (q3, .inl (dA 0, 760, .inl (fun _ => 0))), (q4, .inl (dA 1, 16, .inr (.inl (fun _ => 0)))), (q5, .inl (dA 1, 16, .inr (.inl (fun _ => 0)))), (q6, .inl (dA 1, 32, .inr (.inl (fun _ => 0)))), (q7, .inl (dA 1, 24, .inr (.inl (fun _ => 0))))] rfl (fun H locs hw => ?_)
  refine lv_aload_n hx hb dX12_init_72 rfl (lv_at hl 0 rfl) ?_
  refine lv_iconst (v := (2 : Int32)) hx hb dX12_init_73 (by decide) ?_
  refine k_newZ C hw wxaZ 2 (by decide) (by decide) (by decide) (Nat.le_of_ble_eq_true rfl) (Nat.le_of_ble_eq_true rfl) dX12_init_74 (fun q8 H hw => ?_)
  refine W.widen (k := 9) (n := 2810) (Nat.le_of_ble_eq_true rfl) (Nat.le_of_ble_eq_true rfl) ?_
  have hw : St D [(h0, .inr (12, [.int 0, .null, .int 0, .int 0, .int 0, .int 0, .int 0, .int 0, .int 0, .int 0, .long 0, .int 0, .null, .null, .null, .null, .null, .null, .null, .null, .int 0, .int 0, .null, .null, .null, .null, .null, .null, .int 0, .null, .null, .int 0, .int 0, .null, .null, .int 0, .null, .null, .int 0, .int 0, .null, .null, .null, .null, .null, .null]))] s [(h0, .inr (12, [.int 0, .ref q0, .int 0, .int 0, .int 0, .int 0, .int 0, .int 0, .int 0, .int 0, .long 0, .int 0, .ref q1, .ref q2, .ref q3, .ref q4, .ref q5, .ref q6, .ref q7, .null, .int 0, .int 0, .null, .null, .null, .null, .null, .null, .int 0, .null, .null, .int 0, .int 0, .null, .null, .int 0, .null, .null, .int 0, .int 0, .null, .null, .null, .null, .null, .null])), (q0, .inl (dA 0, 1240, .inl (fun _ => 0))), (q1, .inl (dA 0, 380, .inl (fun _ => 0))), (q2, .inl (dA 0, 340, .inl (fun _ => 0))), (q3, .inl (dA 0, 760, .inl (fun _ => 0))), (q4, .inl (dA 1, 16, .inr (.inl (fun _ => 0)))), (q5, .inl (dA 1, 16, .inr (.inl (fun _ => 0)))), (q6, .inl (dA 1, 32, .inr (.inl (fun _ => 0)))), (q7, .inl (dA 1, 24, .inr (.inl (fun _ => 0)))), (q8, .inl (dA 3, 2, .inl (fun _ => 0)))] H _ := hw
  refine k_putF C hin hw 0 rfl rfl wiX12 tyX12 tyX12_ok nmX12 19 (by decide) wfX12_35 rfl rfl rfl rfl (Nat.le_of_ble_eq_true rfl) dX12_init_76 [(h0, .inr (12, [.int 0, .ref q0, .int 0, .int 0, .int 0, .int 0, .int 0, .int 0, .int 0, .int 0, .long 0, .int 0, .ref q1, .ref q2, .ref q3, .ref q4, .ref q5, .ref q6, .ref q7, .ref q8, .int 0, .int 0, .null, .null, .null, .null, .null, .null, .int 0, .null, .null, .int 0, .int 0, .null, .null, .int 0, .null, .null, .int 0, .int 0, .null, .null, .null, .null, .null, .null])), (q0, .inl (dA 0, 1240, .inl (fun _ => 0))), (q1, .inl (dA 0, 380, .inl (fun _ => 0))), (q2, .inl (dA 0, 340, .inl (fun _ => 0))), (q3, .inl (dA 0, 760, .inl (fun _ => 0))), (q4, .inl (dA 1, 16, .inr (.inl (fun _ => 0)))), (q5, .inl (dA 1, 16, .inr (.inl (fun _ => 0)))), (q6, .inl (dA 1, 32, .inr (.inl (fun _ => 0)))), (q7, .inl (dA 1, 24, .inr (.inl (fun _ => 0)))), (q8, .inl (dA 3, 2, .inl (fun _ => 0)))] rfl (fun H locs hw => ?_)
  refine lv_aload_n hx hb dX12_init_79 rfl (lv_at hl 0 rfl) ?_
  refine lv_bipush (v := (16 : Int32)) hx hb dX12_init_80 (by decide) ?_
  refine k_newI C hw wxaI 16 (by decide) (by decide) (by decide) (Nat.le_of_ble_eq_true rfl) (Nat.le_of_ble_eq_true rfl) dX12_init_82 (fun q9 H hw => ?_)
  refine W.widen (k := 10) (n := 2826) (Nat.le_of_ble_eq_true rfl) (Nat.le_of_ble_eq_true rfl) ?_
  have hw : St D [(h0, .inr (12, [.int 0, .null, .int 0, .int 0, .int 0, .int 0, .int 0, .int 0, .int 0, .int 0, .long 0, .int 0, .null, .null, .null, .null, .null, .null, .null, .null, .int 0, .int 0, .null, .null, .null, .null, .null, .null, .int 0, .null, .null, .int 0, .int 0, .null, .null, .int 0, .null, .null, .int 0, .int 0, .null, .null, .null, .null, .null, .null]))] s [(h0, .inr (12, [.int 0, .ref q0, .int 0, .int 0, .int 0, .int 0, .int 0, .int 0, .int 0, .int 0, .long 0, .int 0, .ref q1, .ref q2, .ref q3, .ref q4, .ref q5, .ref q6, .ref q7, .ref q8, .int 0, .int 0, .null, .null, .null, .null, .null, .null, .int 0, .null, .null, .int 0, .int 0, .null, .null, .int 0, .null, .null, .int 0, .int 0, .null, .null, .null, .null, .null, .null])), (q0, .inl (dA 0, 1240, .inl (fun _ => 0))), (q1, .inl (dA 0, 380, .inl (fun _ => 0))), (q2, .inl (dA 0, 340, .inl (fun _ => 0))), (q3, .inl (dA 0, 760, .inl (fun _ => 0))), (q4, .inl (dA 1, 16, .inr (.inl (fun _ => 0)))), (q5, .inl (dA 1, 16, .inr (.inl (fun _ => 0)))), (q6, .inl (dA 1, 32, .inr (.inl (fun _ => 0)))), (q7, .inl (dA 1, 24, .inr (.inl (fun _ => 0)))), (q8, .inl (dA 3, 2, .inl (fun _ => 0))), (q9, .inl (dA 0, 16, .inl (fun _ => 0)))] H _ := hw
  refine k_putF C hin hw 0 rfl rfl wiX12 tyX12 tyX12_ok nmX12 22 (by decide) wfX12_39 rfl rfl rfl rfl (Nat.le_of_ble_eq_true rfl) dX12_init_84 [(h0, .inr (12, [.int 0, .ref q0, .int 0, .int 0, .int 0, .int 0, .int 0, .int 0, .int 0, .int 0, .long 0, .int 0, .ref q1, .ref q2, .ref q3, .ref q4, .ref q5, .ref q6, .ref q7, .ref q8, .int 0, .int 0, .ref q9, .null, .null, .null, .null, .null, .int 0, .null, .null, .int 0, .int 0, .null, .null, .int 0, .null, .null, .int 0, .int 0, .null, .null, .null, .null, .null, .null])), (q0, .inl (dA 0, 1240, .inl (fun _ => 0))), (q1, .inl (dA 0, 380, .inl (fun _ => 0))), (q2, .inl (dA 0, 340, .inl (fun _ => 0))), (q3, .inl (dA 0, 760, .inl (fun _ => 0))), (q4, .inl (dA 1, 16, .inr (.inl (fun _ => 0)))), (q5, .inl (dA 1, 16, .inr (.inl (fun _ => 0)))), (q6, .inl (dA 1, 32, .inr (.inl (fun _ => 0)))), (q7, .inl (dA 1, 24, .inr (.inl (fun _ => 0)))), (q8, .inl (dA 3, 2, .inl (fun _ => 0))), (q9, .inl (dA 0, 16, .inl (fun _ => 0)))] rfl (fun H locs hw => ?_)
  refine lv_aload_n hx hb dX12_init_87 rfl (lv_at hl 0 rfl) ?_
  refine lv_bipush (v := (16 : Int32)) hx hb dX12_init_88 (by decide) ?_
  refine k_newI C hw wxaI 16 (by decide) (by decide) (by decide) (Nat.le_of_ble_eq_true rfl) (Nat.le_of_ble_eq_true rfl) dX12_init_90 (fun q10 H hw => ?_)
  refine W.widen (k := 11) (n := 2842) (Nat.le_of_ble_eq_true rfl) (Nat.le_of_ble_eq_true rfl) ?_
  have hw : St D [(h0, .inr (12, [.int 0, .null, .int 0, .int 0, .int 0, .int 0, .int 0, .int 0, .int 0, .int 0, .long 0, .int 0, .null, .null, .null, .null, .null, .null, .null, .null, .int 0, .int 0, .null, .null, .null, .null, .null, .null, .int 0, .null, .null, .int 0, .int 0, .null, .null, .int 0, .null, .null, .int 0, .int 0, .null, .null, .null, .null, .null, .null]))] s [(h0, .inr (12, [.int 0, .ref q0, .int 0, .int 0, .int 0, .int 0, .int 0, .int 0, .int 0, .int 0, .long 0, .int 0, .ref q1, .ref q2, .ref q3, .ref q4, .ref q5, .ref q6, .ref q7, .ref q8, .int 0, .int 0, .ref q9, .null, .null, .null, .null, .null, .int 0, .null, .null, .int 0, .int 0, .null, .null, .int 0, .null, .null, .int 0, .int 0, .null, .null, .null, .null, .null, .null])), (q0, .inl (dA 0, 1240, .inl (fun _ => 0))), (q1, .inl (dA 0, 380, .inl (fun _ => 0))), (q2, .inl (dA 0, 340, .inl (fun _ => 0))), (q3, .inl (dA 0, 760, .inl (fun _ => 0))), (q4, .inl (dA 1, 16, .inr (.inl (fun _ => 0)))), (q5, .inl (dA 1, 16, .inr (.inl (fun _ => 0)))), (q6, .inl (dA 1, 32, .inr (.inl (fun _ => 0)))), (q7, .inl (dA 1, 24, .inr (.inl (fun _ => 0)))), (q8, .inl (dA 3, 2, .inl (fun _ => 0))), (q9, .inl (dA 0, 16, .inl (fun _ => 0))), (q10, .inl (dA 0, 16, .inl (fun _ => 0)))] H _ := hw
  refine k_putF C hin hw 0 rfl rfl wiX12 tyX12 tyX12_ok nmX12 23 (by decide) wfX12_42 rfl rfl rfl rfl (Nat.le_of_ble_eq_true rfl) dX12_init_92 [(h0, .inr (12, [.int 0, .ref q0, .int 0, .int 0, .int 0, .int 0, .int 0, .int 0, .int 0, .int 0, .long 0, .int 0, .ref q1, .ref q2, .ref q3, .ref q4, .ref q5, .ref q6, .ref q7, .ref q8, .int 0, .int 0, .ref q9, .ref q10, .null, .null, .null, .null, .int 0, .null, .null, .int 0, .int 0, .null, .null, .int 0, .null, .null, .int 0, .int 0, .null, .null, .null, .null, .null, .null])), (q0, .inl (dA 0, 1240, .inl (fun _ => 0))), (q1, .inl (dA 0, 380, .inl (fun _ => 0))), (q2, .inl (dA 0, 340, .inl (fun _ => 0))), (q3, .inl (dA 0, 760, .inl (fun _ => 0))), (q4, .inl (dA 1, 16, .inr (.inl (fun _ => 0)))), (q5, .inl (dA 1, 16, .inr (.inl (fun _ => 0)))), (q6, .inl (dA 1, 32, .inr (.inl (fun _ => 0)))), (q7, .inl (dA 1, 24, .inr (.inl (fun _ => 0)))), (q8, .inl (dA 3, 2, .inl (fun _ => 0))), (q9, .inl (dA 0, 16, .inl (fun _ => 0))), (q10, .inl (dA 0, 16, .inl (fun _ => 0)))] rfl (fun H locs hw => ?_)
  refine lv_aload_n hx hb dX12_init_95 rfl (lv_at hl 0 rfl) ?_
  refine lv_bipush (v := (12 : Int32)) hx hb dX12_init_96 (by decide) ?_
  refine k_newI C hw wxaI 12 (by decide) (by decide) (by decide) (Nat.le_of_ble_eq_true rfl) (Nat.le_of_ble_eq_true rfl) dX12_init_98 (fun q11 H hw => ?_)
  refine W.widen (k := 12) (n := 2854) (Nat.le_of_ble_eq_true rfl) (Nat.le_of_ble_eq_true rfl) ?_
  have hw : St D [(h0, .inr (12, [.int 0, .null, .int 0, .int 0, .int 0, .int 0, .int 0, .int 0, .int 0, .int 0, .long 0, .int 0, .null, .null, .null, .null, .null, .null, .null, .null, .int 0, .int 0, .null, .null, .null, .null, .null, .null, .int 0, .null, .null, .int 0, .int 0, .null, .null, .int 0, .null, .null, .int 0, .int 0, .null, .null, .null, .null, .null, .null]))] s [(h0, .inr (12, [.int 0, .ref q0, .int 0, .int 0, .int 0, .int 0, .int 0, .int 0, .int 0, .int 0, .long 0, .int 0, .ref q1, .ref q2, .ref q3, .ref q4, .ref q5, .ref q6, .ref q7, .ref q8, .int 0, .int 0, .ref q9, .ref q10, .null, .null, .null, .null, .int 0, .null, .null, .int 0, .int 0, .null, .null, .int 0, .null, .null, .int 0, .int 0, .null, .null, .null, .null, .null, .null])), (q0, .inl (dA 0, 1240, .inl (fun _ => 0))), (q1, .inl (dA 0, 380, .inl (fun _ => 0))), (q2, .inl (dA 0, 340, .inl (fun _ => 0))), (q3, .inl (dA 0, 760, .inl (fun _ => 0))), (q4, .inl (dA 1, 16, .inr (.inl (fun _ => 0)))), (q5, .inl (dA 1, 16, .inr (.inl (fun _ => 0)))), (q6, .inl (dA 1, 32, .inr (.inl (fun _ => 0)))), (q7, .inl (dA 1, 24, .inr (.inl (fun _ => 0)))), (q8, .inl (dA 3, 2, .inl (fun _ => 0))), (q9, .inl (dA 0, 16, .inl (fun _ => 0))), (q10, .inl (dA 0, 16, .inl (fun _ => 0))), (q11, .inl (dA 0, 12, .inl (fun _ => 0)))] H _ := hw
  refine k_putF C hin hw 0 rfl rfl wiX12 tyX12 tyX12_ok nmX12 24 (by decide) wfX12_45 rfl rfl rfl rfl (Nat.le_of_ble_eq_true rfl) dX12_init_100 [(h0, .inr (12, [.int 0, .ref q0, .int 0, .int 0, .int 0, .int 0, .int 0, .int 0, .int 0, .int 0, .long 0, .int 0, .ref q1, .ref q2, .ref q3, .ref q4, .ref q5, .ref q6, .ref q7, .ref q8, .int 0, .int 0, .ref q9, .ref q10, .ref q11, .null, .null, .null, .int 0, .null, .null, .int 0, .int 0, .null, .null, .int 0, .null, .null, .int 0, .int 0, .null, .null, .null, .null, .null, .null])), (q0, .inl (dA 0, 1240, .inl (fun _ => 0))), (q1, .inl (dA 0, 380, .inl (fun _ => 0))), (q2, .inl (dA 0, 340, .inl (fun _ => 0))), (q3, .inl (dA 0, 760, .inl (fun _ => 0))), (q4, .inl (dA 1, 16, .inr (.inl (fun _ => 0)))), (q5, .inl (dA 1, 16, .inr (.inl (fun _ => 0)))), (q6, .inl (dA 1, 32, .inr (.inl (fun _ => 0)))), (q7, .inl (dA 1, 24, .inr (.inl (fun _ => 0)))), (q8, .inl (dA 3, 2, .inl (fun _ => 0))), (q9, .inl (dA 0, 16, .inl (fun _ => 0))), (q10, .inl (dA 0, 16, .inl (fun _ => 0))), (q11, .inl (dA 0, 12, .inl (fun _ => 0)))] rfl (fun H locs hw => ?_)
  refine lv_aload_n hx hb dX12_init_103 rfl (lv_at hl 0 rfl) ?_
  refine lv_bipush (v := (12 : Int32)) hx hb dX12_init_104 (by decide) ?_
  refine k_newI C hw wxaI 12 (by decide) (by decide) (by decide) (Nat.le_of_ble_eq_true rfl) (Nat.le_of_ble_eq_true rfl) dX12_init_106 (fun q12 H hw => ?_)
  refine W.widen (k := 13) (n := 2866) (Nat.le_of_ble_eq_true rfl) (Nat.le_of_ble_eq_true rfl) ?_
  have hw : St D [(h0, .inr (12, [.int 0, .null, .int 0, .int 0, .int 0, .int 0, .int 0, .int 0, .int 0, .int 0, .long 0, .int 0, .null, .null, .null, .null, .null, .null, .null, .null, .int 0, .int 0, .null, .null, .null, .null, .null, .null, .int 0, .null, .null, .int 0, .int 0, .null, .null, .int 0, .null, .null, .int 0, .int 0, .null, .null, .null, .null, .null, .null]))] s [(h0, .inr (12, [.int 0, .ref q0, .int 0, .int 0, .int 0, .int 0, .int 0, .int 0, .int 0, .int 0, .long 0, .int 0, .ref q1, .ref q2, .ref q3, .ref q4, .ref q5, .ref q6, .ref q7, .ref q8, .int 0, .int 0, .ref q9, .ref q10, .ref q11, .null, .null, .null, .int 0, .null, .null, .int 0, .int 0, .null, .null, .int 0, .null, .null, .int 0, .int 0, .null, .null, .null, .null, .null, .null])), (q0, .inl (dA 0, 1240, .inl (fun _ => 0))), (q1, .inl (dA 0, 380, .inl (fun _ => 0))), (q2, .inl (dA 0, 340, .inl (fun _ => 0))), (q3, .inl (dA 0, 760, .inl (fun _ => 0))), (q4, .inl (dA 1, 16, .inr (.inl (fun _ => 0)))), (q5, .inl (dA 1, 16, .inr (.inl (fun _ => 0)))), (q6, .inl (dA 1, 32, .inr (.inl (fun _ => 0)))), (q7, .inl (dA 1, 24, .inr (.inl (fun _ => 0)))), (q8, .inl (dA 3, 2, .inl (fun _ => 0))), (q9, .inl (dA 0, 16, .inl (fun _ => 0))), (q10, .inl (dA 0, 16, .inl (fun _ => 0))), (q11, .inl (dA 0, 12, .inl (fun _ => 0))), (q12, .inl (dA 0, 12, .inl (fun _ => 0)))] H _ := hw
  refine k_putF C hin hw 0 rfl rfl wiX12 tyX12 tyX12_ok nmX12 25 (by decide) wfX12_48 rfl rfl rfl rfl (Nat.le_of_ble_eq_true rfl) dX12_init_108 [(h0, .inr (12, [.int 0, .ref q0, .int 0, .int 0, .int 0, .int 0, .int 0, .int 0, .int 0, .int 0, .long 0, .int 0, .ref q1, .ref q2, .ref q3, .ref q4, .ref q5, .ref q6, .ref q7, .ref q8, .int 0, .int 0, .ref q9, .ref q10, .ref q11, .ref q12, .null, .null, .int 0, .null, .null, .int 0, .int 0, .null, .null, .int 0, .null, .null, .int 0, .int 0, .null, .null, .null, .null, .null, .null])), (q0, .inl (dA 0, 1240, .inl (fun _ => 0))), (q1, .inl (dA 0, 380, .inl (fun _ => 0))), (q2, .inl (dA 0, 340, .inl (fun _ => 0))), (q3, .inl (dA 0, 760, .inl (fun _ => 0))), (q4, .inl (dA 1, 16, .inr (.inl (fun _ => 0)))), (q5, .inl (dA 1, 16, .inr (.inl (fun _ => 0)))), (q6, .inl (dA 1, 32, .inr (.inl (fun _ => 0)))), (q7, .inl (dA 1, 24, .inr (.inl (fun _ => 0)))), (q8, .inl (dA 3, 2, .inl (fun _ => 0))), (q9, .inl (dA 0, 16, .inl (fun _ => 0))), (q10, .inl (dA 0, 16, .inl (fun _ => 0))), (q11, .inl (dA 0, 12, .inl (fun _ => 0))), (q12, .inl (dA 0, 12, .inl (fun _ => 0)))] rfl (fun H locs hw => ?_)
  refine lv_aload_n hx hb dX12_init_111 rfl (lv_at hl 0 rfl) ?_
  refine lv_sipush (v := (144 : Int32)) hx hb dX12_init_112 (by decide) ?_
  refine k_newI C hw wxaI 144 (by decide) (by decide) (by decide) (Nat.le_of_ble_eq_true rfl) (Nat.le_of_ble_eq_true rfl) dX12_init_115 (fun q13 H hw => ?_)
  refine W.widen (k := 14) (n := 3010) (Nat.le_of_ble_eq_true rfl) (Nat.le_of_ble_eq_true rfl) ?_
  have hw : St D [(h0, .inr (12, [.int 0, .null, .int 0, .int 0, .int 0, .int 0, .int 0, .int 0, .int 0, .int 0, .long 0, .int 0, .null, .null, .null, .null, .null, .null, .null, .null, .int 0, .int 0, .null, .null, .null, .null, .null, .null, .int 0, .null, .null, .int 0, .int 0, .null, .null, .int 0, .null, .null, .int 0, .int 0, .null, .null, .null, .null, .null, .null]))] s [(h0, .inr (12, [.int 0, .ref q0, .int 0, .int 0, .int 0, .int 0, .int 0, .int 0, .int 0, .int 0, .long 0, .int 0, .ref q1, .ref q2, .ref q3, .ref q4, .ref q5, .ref q6, .ref q7, .ref q8, .int 0, .int 0, .ref q9, .ref q10, .ref q11, .ref q12, .null, .null, .int 0, .null, .null, .int 0, .int 0, .null, .null, .int 0, .null, .null, .int 0, .int 0, .null, .null, .null, .null, .null, .null])), (q0, .inl (dA 0, 1240, .inl (fun _ => 0))), (q1, .inl (dA 0, 380, .inl (fun _ => 0))), (q2, .inl (dA 0, 340, .inl (fun _ => 0))), (q3, .inl (dA 0, 760, .inl (fun _ => 0))), (q4, .inl (dA 1, 16, .inr (.inl (fun _ => 0)))), (q5, .inl (dA 1, 16, .inr (.inl (fun _ => 0)))), (q6, .inl (dA 1, 32, .inr (.inl (fun _ => 0)))), (q7, .inl (dA 1, 24, .inr (.inl (fun _ => 0)))), (q8, .inl (dA 3, 2, .inl (fun _ => 0))), (q9, .inl (dA 0, 16, .inl (fun _ => 0))), (q10, .inl (dA 0, 16, .inl (fun _ => 0))), (q11, .inl (dA 0, 12, .inl (fun _ => 0))), (q12, .inl (dA 0, 12, .inl (fun _ => 0))), (q13, .inl (dA 0, 144, .inl (fun _ => 0)))] H _ := hw
  refine k_putF C hin hw 0 rfl rfl wiX12 tyX12 tyX12_ok nmX12 26 (by decide) wfX12_51 rfl rfl rfl rfl (Nat.le_of_ble_eq_true rfl) dX12_init_117 [(h0, .inr (12, [.int 0, .ref q0, .int 0, .int 0, .int 0, .int 0, .int 0, .int 0, .int 0, .int 0, .long 0, .int 0, .ref q1, .ref q2, .ref q3, .ref q4, .ref q5, .ref q6, .ref q7, .ref q8, .int 0, .int 0, .ref q9, .ref q10, .ref q11, .ref q12, .ref q13, .null, .int 0, .null, .null, .int 0, .int 0, .null, .null, .int 0, .null, .null, .int 0, .int 0, .null, .null, .null, .null, .null, .null])), (q0, .inl (dA 0, 1240, .inl (fun _ => 0))), (q1, .inl (dA 0, 380, .inl (fun _ => 0))), (q2, .inl (dA 0, 340, .inl (fun _ => 0))), (q3, .inl (dA 0, 760, .inl (fun _ => 0))), (q4, .inl (dA 1, 16, .inr (.inl (fun _ => 0)))), (q5, .inl (dA 1, 16, .inr (.inl (fun _ => 0)))), (q6, .inl (dA 1, 32, .inr (.inl (fun _ => 0)))), (q7, .inl (dA 1, 24, .inr (.inl (fun _ => 0)))), (q8, .inl (dA 3, 2, .inl (fun _ => 0))), (q9, .inl (dA 0, 16, .inl (fun _ => 0))), (q10, .inl (dA 0, 16, .inl (fun _ => 0))), (q11, .inl (dA 0, 12, .inl (fun _ => 0))), (q12, .inl (dA 0, 12, .inl (fun _ => 0))), (q13, .inl (dA 0, 144, .inl (fun _ => 0)))] rfl (fun H locs hw => ?_)
  refine lv_aload_n hx hb dX12_init_120 rfl (lv_at hl 0 rfl) ?_
  refine lv_bipush (v := (7 : Int32)) hx hb dX12_init_121 (by decide) ?_
  refine k_newI C hw wxaI 7 (by decide) (by decide) (by decide) (Nat.le_of_ble_eq_true rfl) (Nat.le_of_ble_eq_true rfl) dX12_init_123 (fun q14 H hw => ?_)
  refine W.widen (k := 15) (n := 3017) (Nat.le_of_ble_eq_true rfl) (Nat.le_of_ble_eq_true rfl) ?_
  have hw : St D [(h0, .inr (12, [.int 0, .null, .int 0, .int 0, .int 0, .int 0, .int 0, .int 0, .int 0, .int 0, .long 0, .int 0, .null, .null, .null, .null, .null, .null, .null, .null, .int 0, .int 0, .null, .null, .null, .null, .null, .null, .int 0, .null, .null, .int 0, .int 0, .null, .null, .int 0, .null, .null, .int 0, .int 0, .null, .null, .null, .null, .null, .null]))] s [(h0, .inr (12, [.int 0, .ref q0, .int 0, .int 0, .int 0, .int 0, .int 0, .int 0, .int 0, .int 0, .long 0, .int 0, .ref q1, .ref q2, .ref q3, .ref q4, .ref q5, .ref q6, .ref q7, .ref q8, .int 0, .int 0, .ref q9, .ref q10, .ref q11, .ref q12, .ref q13, .null, .int 0, .null, .null, .int 0, .int 0, .null, .null, .int 0, .null, .null, .int 0, .int 0, .null, .null, .null, .null, .null, .null])), (q0, .inl (dA 0, 1240, .inl (fun _ => 0))), (q1, .inl (dA 0, 380, .inl (fun _ => 0))), (q2, .inl (dA 0, 340, .inl (fun _ => 0))), (q3, .inl (dA 0, 760, .inl (fun _ => 0))), (q4, .inl (dA 1, 16, .inr (.inl (fun _ => 0)))), (q5, .inl (dA 1, 16, .inr (.inl (fun _ => 0)))), (q6, .inl (dA 1, 32, .inr (.inl (fun _ => 0)))), (q7, .inl (dA 1, 24, .inr (.inl (fun _ => 0)))), (q8, .inl (dA 3, 2, .inl (fun _ => 0))), (q9, .inl (dA 0, 16, .inl (fun _ => 0))), (q10, .inl (dA 0, 16, .inl (fun _ => 0))), (q11, .inl (dA 0, 12, .inl (fun _ => 0))), (q12, .inl (dA 0, 12, .inl (fun _ => 0))), (q13, .inl (dA 0, 144, .inl (fun _ => 0))), (q14, .inl (dA 0, 7, .inl (fun _ => 0)))] H _ := hw
  refine k_putF C hin hw 0 rfl rfl wiX12 tyX12 tyX12_ok nmX12 27 (by decide) wfX12_54 rfl rfl rfl rfl (Nat.le_of_ble_eq_true rfl) dX12_init_125 [(h0, .inr (12, [.int 0, .ref q0, .int 0, .int 0, .int 0, .int 0, .int 0, .int 0, .int 0, .int 0, .long 0, .int 0, .ref q1, .ref q2, .ref q3, .ref q4, .ref q5, .ref q6, .ref q7, .ref q8, .int 0, .int 0, .ref q9, .ref q10, .ref q11, .ref q12, .ref q13, .ref q14, .int 0, .null, .null, .int 0, .int 0, .null, .null, .int 0, .null, .null, .int 0, .int 0, .null, .null, .null, .null, .null, .null])), (q0, .inl (dA 0, 1240, .inl (fun _ => 0))), (q1, .inl (dA 0, 380, .inl (fun _ => 0))), (q2, .inl (dA 0, 340, .inl (fun _ => 0))), (q3, .inl (dA 0, 760, .inl (fun _ => 0))), (q4, .inl (dA 1, 16, .inr (.inl (fun _ => 0)))), (q5, .inl (dA 1, 16, .inr (.inl (fun _ => 0)))), (q6, .inl (dA 1, 32, .inr (.inl (fun _ => 0)))), (q7, .inl (dA 1, 24, .inr (.inl (fun _ => 0)))), (q8, .inl (dA 3, 2, .inl (fun _ => 0))), (q9, .inl (dA 0, 16, .inl (fun _ => 0))), (q10, .inl (dA 0, 16, .inl (fun _ => 0))), (q11, .inl (dA 0, 12, .inl (fun _ => 0))), (q12, .inl (dA 0, 12, .inl (fun _ => 0))), (q13, .inl (dA 0, 144, .inl (fun _ => 0))), (q14, .inl (dA 0, 7, .inl (fun _ => 0)))] rfl (fun H locs hw => ?_)
  refine lv_aload_n hx hb dX12_init_128 rfl (lv_at hl 0 rfl) ?_
  refine lv_bipush (v := (12 : Int32)) hx hb dX12_init_129 (by decide) ?_
  refine k_newI C hw wxaI 12 (by decide) (by decide) (by decide) (Nat.le_of_ble_eq_true rfl) (Nat.le_of_ble_eq_true rfl) dX12_init_131 (fun q15 H hw => ?_)
  refine W.widen (k := 16) (n := 3029) (Nat.le_of_ble_eq_true rfl) (Nat.le_of_ble_eq_true rfl) ?_
  have hw : St D [(h0, .inr (12, [.int 0, .null, .int 0, .int 0, .int 0, .int 0, .int 0, .int 0, .int 0, .int 0, .long 0, .int 0, .null, .null, .null, .null, .null, .null, .null, .null, .int 0, .int 0, .null, .null, .null, .null, .null, .null, .int 0, .null, .null, .int 0, .int 0, .null, .null, .int 0, .null, .null, .int 0, .int 0, .null, .null, .null, .null, .null, .null]))] s [(h0, .inr (12, [.int 0, .ref q0, .int 0, .int 0, .int 0, .int 0, .int 0, .int 0, .int 0, .int 0, .long 0, .int 0, .ref q1, .ref q2, .ref q3, .ref q4, .ref q5, .ref q6, .ref q7, .ref q8, .int 0, .int 0, .ref q9, .ref q10, .ref q11, .ref q12, .ref q13, .ref q14, .int 0, .null, .null, .int 0, .int 0, .null, .null, .int 0, .null, .null, .int 0, .int 0, .null, .null, .null, .null, .null, .null])), (q0, .inl (dA 0, 1240, .inl (fun _ => 0))), (q1, .inl (dA 0, 380, .inl (fun _ => 0))), (q2, .inl (dA 0, 340, .inl (fun _ => 0))), (q3, .inl (dA 0, 760, .inl (fun _ => 0))), (q4, .inl (dA 1, 16, .inr (.inl (fun _ => 0)))), (q5, .inl (dA 1, 16, .inr (.inl (fun _ => 0)))), (q6, .inl (dA 1, 32, .inr (.inl (fun _ => 0)))), (q7, .inl (dA 1, 24, .inr (.inl (fun _ => 0)))), (q8, .inl (dA 3, 2, .inl (fun _ => 0))), (q9, .inl (dA 0, 16, .inl (fun _ => 0))), (q10, .inl (dA 0, 16, .inl (fun _ => 0))), (q11, .inl (dA 0, 12, .inl (fun _ => 0))), (q12, .inl (dA 0, 12, .inl (fun _ => 0))), (q13, .inl (dA 0, 144, .inl (fun _ => 0))), (q14, .inl (dA 0, 7, .inl (fun _ => 0))), (q15, .inl (dA 0, 12, .inl (fun _ => 0)))] H _ := hw
  refine k_putF C hin hw 0 rfl rfl wiX12 tyX12 tyX12_ok nmX12 29 (by decide) wfX12_57 rfl rfl rfl rfl (Nat.le_of_ble_eq_true rfl) dX12_init_133 [(h0, .inr (12, [.int 0, .ref q0, .int 0, .int 0, .int 0, .int 0, .int 0, .int 0, .int 0, .int 0, .long 0, .int 0, .ref q1, .ref q2, .ref q3, .ref q4, .ref q5, .ref q6, .ref q7, .ref q8, .int 0, .int 0, .ref q9, .ref q10, .ref q11, .ref q12, .ref q13, .ref q14, .int 0, .ref q15, .null, .int 0, .int 0, .null, .null, .int 0, .null, .null, .int 0, .int 0, .null, .null, .null, .null, .null, .null])), (q0, .inl (dA 0, 1240, .inl (fun _ => 0))), (q1, .inl (dA 0, 380, .inl (fun _ => 0))), (q2, .inl (dA 0, 340, .inl (fun _ => 0))), (q3, .inl (dA 0, 760, .inl (fun _ => 0))), (q4, .inl (dA 1, 16, .inr (.inl (fun _ => 0)))), (q5, .inl (dA 1, 16, .inr (.inl (fun _ => 0)))), (q6, .inl (dA 1, 32, .inr (.inl (fun _ => 0)))), (q7, .inl (dA 1, 24, .inr (.inl (fun _ => 0)))), (q8, .inl (dA 3, 2, .inl (fun _ => 0))), (q9, .inl (dA 0, 16, .inl (fun _ => 0))), (q10, .inl (dA 0, 16, .inl (fun _ => 0))), (q11, .inl (dA 0, 12, .inl (fun _ => 0))), (q12, .inl (dA 0, 12, .inl (fun _ => 0))), (q13, .inl (dA 0, 144, .inl (fun _ => 0))), (q14, .inl (dA 0, 7, .inl (fun _ => 0))), (q15, .inl (dA 0, 12, .inl (fun _ => 0)))] rfl (fun H locs hw => ?_)
  refine lv_aload_n hx hb dX12_init_136 rfl (lv_at hl 0 rfl) ?_
  refine lv_bipush (v := (7 : Int32)) hx hb dX12_init_137 (by decide) ?_
  refine k_newI C hw wxaI 7 (by decide) (by decide) (by decide) (Nat.le_of_ble_eq_true rfl) (Nat.le_of_ble_eq_true rfl) dX12_init_139 (fun q16 H hw => ?_)
  refine W.widen (k := 17) (n := 3036) (Nat.le_of_ble_eq_true rfl) (Nat.le_of_ble_eq_true rfl) ?_
  have hw : St D [(h0, .inr (12, [.int 0, .null, .int 0, .int 0, .int 0, .int 0, .int 0, .int 0, .int 0, .int 0, .long 0, .int 0, .null, .null, .null, .null, .null, .null, .null, .null, .int 0, .int 0, .null, .null, .null, .null, .null, .null, .int 0, .null, .null, .int 0, .int 0, .null, .null, .int 0, .null, .null, .int 0, .int 0, .null, .null, .null, .null, .null, .null]))] s [(h0, .inr (12, [.int 0, .ref q0, .int 0, .int 0, .int 0, .int 0, .int 0, .int 0, .int 0, .int 0, .long 0, .int 0, .ref q1, .ref q2, .ref q3, .ref q4, .ref q5, .ref q6, .ref q7, .ref q8, .int 0, .int 0, .ref q9, .ref q10, .ref q11, .ref q12, .ref q13, .ref q14, .int 0, .ref q15, .null, .int 0, .int 0, .null, .null, .int 0, .null, .null, .int 0, .int 0, .null, .null, .null, .null, .null, .null])), (q0, .inl (dA 0, 1240, .inl (fun _ => 0))), (q1, .inl (dA 0, 380, .inl (fun _ => 0))), (q2, .inl (dA 0, 340, .inl (fun _ => 0))), (q3, .inl (dA 0, 760, .inl (fun _ => 0))), (q4, .inl (dA 1, 16, .inr (.inl (fun _ => 0)))), (q5, .inl (dA 1, 16, .inr (.inl (fun _ => 0)))), (q6, .inl (dA 1, 32, .inr (.inl (fun _ => 0)))), (q7, .inl (dA 1, 24, .inr (.inl (fun _ => 0)))), (q8, .inl (dA 3, 2, .inl (fun _ => 0))), (q9, .inl (dA 0, 16, .inl (fun _ => 0))), (q10, .inl (dA 0, 16, .inl (fun _ => 0))), (q11, .inl (dA 0, 12, .inl (fun _ => 0))), (q12, .inl (dA 0, 12, .inl (fun _ => 0))), (q13, .inl (dA 0, 144, .inl (fun _ => 0))), (q14, .inl (dA 0, 7, .inl (fun _ => 0))), (q15, .inl (dA 0, 12, .inl (fun _ => 0))), (q16, .inl (dA 0, 7, .inl (fun _ => 0)))] H _ := hw
  refine k_putF C hin hw 0 rfl rfl wiX12 tyX12 tyX12_ok nmX12 30 (by decide) wfX12_60 rfl rfl rfl rfl (Nat.le_of_ble_eq_true rfl) dX12_init_141 [(h0, .inr (12, [.int 0, .ref q0, .int 0, .int 0, .int 0, .int 0, .int 0, .int 0, .int 0, .int 0, .long 0, .int 0, .ref q1, .ref q2, .ref q3, .ref q4, .ref q5, .ref q6, .ref q7, .ref q8, .int 0, .int 0, .ref q9, .ref q10, .ref q11, .ref q12, .ref q13, .ref q14, .int 0, .ref q15, .ref q16, .int 0, .int 0, .null, .null, .int 0, .null, .null, .int 0, .int 0, .null, .null, .null, .null, .null, .null])), (q0, .inl (dA 0, 1240, .inl (fun _ => 0))), (q1, .inl (dA 0, 380, .inl (fun _ => 0))), (q2, .inl (dA 0, 340, .inl (fun _ => 0))), (q3, .inl (dA 0, 760, .inl (fun _ => 0))), (q4, .inl (dA 1, 16, .inr (.inl (fun _ => 0)))), (q5, .inl (dA 1, 16, .inr (.inl (fun _ => 0)))), (q6, .inl (dA 1, 32, .inr (.inl (fun _ => 0)))), (q7, .inl (dA 1, 24, .inr (.inl (fun _ => 0)))), (q8, .inl (dA 3, 2, .inl (fun _ => 0))), (q9, .inl (dA 0, 16, .inl (fun _ => 0))), (q10, .inl (dA 0, 16, .inl (fun _ => 0))), (q11, .inl (dA 0, 12, .inl (fun _ => 0))), (q12, .inl (dA 0, 12, .inl (fun _ => 0))), (q13, .inl (dA 0, 144, .inl (fun _ => 0))), (q14, .inl (dA 0, 7, .inl (fun _ => 0))), (q15, .inl (dA 0, 12, .inl (fun _ => 0))), (q16, .inl (dA 0, 7, .inl (fun _ => 0)))] rfl (fun H locs hw => ?_)
  refine lv_aload_n hx hb dX12_init_144 rfl (lv_at hl 0 rfl) ?_
  refine lv_bipush (v := (32 : Int32)) hx hb dX12_init_145 (by decide) ?_
  refine k_newI C hw wxaI 32 (by decide) (by decide) (by decide) (Nat.le_of_ble_eq_true rfl) (Nat.le_of_ble_eq_true rfl) dX12_init_147 (fun q17 H hw => ?_)
  refine W.widen (k := 18) (n := 3068) (Nat.le_of_ble_eq_true rfl) (Nat.le_of_ble_eq_true rfl) ?_
  have hw : St D [(h0, .inr (12, [.int 0, .null, .int 0, .int 0, .int 0, .int 0, .int 0, .int 0, .int 0, .int 0, .long 0, .int 0, .null, .null, .null, .null, .null, .null, .null, .null, .int 0, .int 0, .null, .null, .null, .null, .null, .null, .int 0, .null, .null, .int 0, .int 0, .null, .null, .int 0, .null, .null, .int 0, .int 0, .null, .null, .null, .null, .null, .null]))] s [(h0, .inr (12, [.int 0, .ref q0, .int 0, .int 0, .int 0, .int 0, .int 0, .int 0, .int 0, .int 0, .long 0, .int 0, .ref q1, .ref q2, .ref q3, .ref q4, .ref q5, .ref q6, .ref q7, .ref q8, .int 0, .int 0, .ref q9, .ref q10, .ref q11, .ref q12, .ref q13, .ref q14, .int 0, .ref q15, .ref q16, .int 0, .int 0, .null, .null, .int 0, .null, .null, .int 0, .int 0, .null, .null, .null, .null, .null, .null])), (q0, .inl (dA 0, 1240, .inl (fun _ => 0))), (q1, .inl (dA 0, 380, .inl (fun _ => 0))), (q2, .inl (dA 0, 340, .inl (fun _ => 0))), (q3, .inl (dA 0, 760, .inl (fun _ => 0))), (q4, .inl (dA 1, 16, .inr (.inl (fun _ => 0)))), (q5, .inl (dA 1, 16, .inr (.inl (fun _ => 0)))), (q6, .inl (dA 1, 32, .inr (.inl (fun _ => 0)))), (q7, .inl (dA 1, 24, .inr (.inl (fun _ => 0)))), (q8, .inl (dA 3, 2, .inl (fun _ => 0))), (q9, .inl (dA 0, 16, .inl (fun _ => 0))), (q10, .inl (dA 0, 16, .inl (fun _ => 0))), (q11, .inl (dA 0, 12, .inl (fun _ => 0))), (q12, .inl (dA 0, 12, .inl (fun _ => 0))), (q13, .inl (dA 0, 144, .inl (fun _ => 0))), (q14, .inl (dA 0, 7, .inl (fun _ => 0))), (q15, .inl (dA 0, 12, .inl (fun _ => 0))), (q16, .inl (dA 0, 7, .inl (fun _ => 0))), (q17, .inl (dA 0, 32, .inl (fun _ => 0)))] H _ := hw
  refine k_putF C hin hw 0 rfl rfl wiX12 tyX12 tyX12_ok nmX12 33 (by decide) wfX12_63 rfl rfl rfl rfl (Nat.le_of_ble_eq_true rfl) dX12_init_149 [(h0, .inr (12, [.int 0, .ref q0, .int 0, .int 0, .int 0, .int 0, .int 0, .int 0, .int 0, .int 0, .long 0, .int 0, .ref q1, .ref q2, .ref q3, .ref q4, .ref q5, .ref q6, .ref q7, .ref q8, .int 0, .int 0, .ref q9, .ref q10, .ref q11, .ref q12, .ref q13, .ref q14, .int 0, .ref q15, .ref q16, .int 0, .int 0, .ref q17, .null, .int 0, .null, .null, .int 0, .int 0, .null, .null, .null, .null, .null, .null])), (q0, .inl (dA 0, 1240, .inl (fun _ => 0))), (q1, .inl (dA 0, 380, .inl (fun _ => 0))), (q2, .inl (dA 0, 340, .inl (fun _ => 0))), (q3, .inl (dA 0, 760, .inl (fun _ => 0))), (q4, .inl (dA 1, 16, .inr (.inl (fun _ => 0)))), (q5, .inl (dA 1, 16, .inr (.inl (fun _ => 0)))), (q6, .inl (dA 1, 32, .inr (.inl (fun _ => 0)))), (q7, .inl (dA 1, 24, .inr (.inl (fun _ => 0)))), (q8, .inl (dA 3, 2, .inl (fun _ => 0))), (q9, .inl (dA 0, 16, .inl (fun _ => 0))), (q10, .inl (dA 0, 16, .inl (fun _ => 0))), (q11, .inl (dA 0, 12, .inl (fun _ => 0))), (q12, .inl (dA 0, 12, .inl (fun _ => 0))), (q13, .inl (dA 0, 144, .inl (fun _ => 0))), (q14, .inl (dA 0, 7, .inl (fun _ => 0))), (q15, .inl (dA 0, 12, .inl (fun _ => 0))), (q16, .inl (dA 0, 7, .inl (fun _ => 0))), (q17, .inl (dA 0, 32, .inl (fun _ => 0)))] rfl (fun H locs hw => ?_)
  refine lv_aload_n hx hb dX12_init_152 rfl (lv_at hl 0 rfl) ?_
  refine lv_bipush (v := (32 : Int32)) hx hb dX12_init_153 (by decide) ?_
  refine k_newI C hw wxaI 32 (by decide) (by decide) (by decide) (Nat.le_of_ble_eq_true rfl) (Nat.le_of_ble_eq_true rfl) dX12_init_155 (fun q18 H hw => ?_)
  refine W.widen (k := 19) (n := 3100) (Nat.le_of_ble_eq_true rfl) (Nat.le_of_ble_eq_true rfl) ?_
  have hw : St D [(h0, .inr (12, [.int 0, .null, .int 0, .int 0, .int 0, .int 0, .int 0, .int 0, .int 0, .int 0, .long 0, .int 0, .null, .null, .null, .null, .null, .null, .null, .null, .int 0, .int 0, .null, .null, .null, .null, .null, .null, .int 0, .null, .null, .int 0, .int 0, .null, .null, .int 0, .null, .null, .int 0, .int 0, .null, .null, .null, .null, .null, .null]))] s [(h0, .inr (12, [.int 0, .ref q0, .int 0, .int 0, .int 0, .int 0, .int 0, .int 0, .int 0, .int 0, .long 0, .int 0, .ref q1, .ref q2, .ref q3, .ref q4, .ref q5, .ref q6, .ref q7, .ref q8, .int 0, .int 0, .ref q9, .ref q10, .ref q11, .ref q12, .ref q13, .ref q14, .int 0, .ref q15, .ref q16, .int 0, .int 0, .ref q17, .null, .int 0, .null, .null, .int 0, .int 0, .null, .null, .null, .null, .null, .null])), (q0, .inl (dA 0, 1240, .inl (fun _ => 0))), (q1, .inl (dA 0, 380, .inl (fun _ => 0))), (q2, .inl (dA 0, 340, .inl (fun _ => 0))), (q3, .inl (dA 0, 760, .inl (fun _ => 0))), (q4, .inl (dA 1, 16, .inr (.inl (fun _ => 0)))), (q5, .inl (dA 1, 16, .inr (.inl (fun _ => 0)))), (q6, .inl (dA 1, 32, .inr (.inl (fun _ => 0)))), (q7, .inl (dA 1, 24, .inr (.inl (fun _ => 0)))), (q8, .inl (dA 3, 2, .inl (fun _ => 0))), (q9, .inl (dA 0, 16, .inl (fun _ => 0))), (q10, .inl (dA 0, 16, .inl (fun _ => 0))), (q11, .inl (dA 0, 12, .inl (fun _ => 0))), (q12, .inl (dA 0, 12, .inl (fun _ => 0))), (q13, .inl (dA 0, 144, .inl (fun _ => 0))), (q14, .inl (dA 0, 7, .inl (fun _ => 0))), (q15, .inl (dA 0, 12, .inl (fun _ => 0))), (q16, .inl (dA 0, 7, .inl (fun _ => 0))), (q17, .inl (dA 0, 32, .inl (fun _ => 0))), (q18, .inl (dA 0, 32, .inl (fun _ => 0)))] H _ := hw
  refine k_putF C hin hw 0 rfl rfl wiX12 tyX12 tyX12_ok nmX12 34 (by decide) wfX12_66 rfl rfl rfl rfl (Nat.le_of_ble_eq_true rfl) dX12_init_157 [(h0, .inr (12, [.int 0, .ref q0, .int 0, .int 0, .int 0, .int 0, .int 0, .int 0, .int 0, .int 0, .long 0, .int 0, .ref q1, .ref q2, .ref q3, .ref q4, .ref q5, .ref q6, .ref q7, .ref q8, .int 0, .int 0, .ref q9, .ref q10, .ref q11, .ref q12, .ref q13, .ref q14, .int 0, .ref q15, .ref q16, .int 0, .int 0, .ref q17, .ref q18, .int 0, .null, .null, .int 0, .int 0, .null, .null, .null, .null, .null, .null])), (q0, .inl (dA 0, 1240, .inl (fun _ => 0))), (q1, .inl (dA 0, 380, .inl (fun _ => 0))), (q2, .inl (dA 0, 340, .inl (fun _ => 0))), (q3, .inl (dA 0, 760, .inl (fun _ => 0))), (q4, .inl (dA 1, 16, .inr (.inl (fun _ => 0)))), (q5, .inl (dA 1, 16, .inr (.inl (fun _ => 0)))), (q6, .inl (dA 1, 32, .inr (.inl (fun _ => 0)))), (q7, .inl (dA 1, 24, .inr (.inl (fun _ => 0)))), (q8, .inl (dA 3, 2, .inl (fun _ => 0))), (q9, .inl (dA 0, 16, .inl (fun _ => 0))), (q10, .inl (dA 0, 16, .inl (fun _ => 0))), (q11, .inl (dA 0, 12, .inl (fun _ => 0))), (q12, .inl (dA 0, 12, .inl (fun _ => 0))), (q13, .inl (dA 0, 144, .inl (fun _ => 0))), (q14, .inl (dA 0, 7, .inl (fun _ => 0))), (q15, .inl (dA 0, 12, .inl (fun _ => 0))), (q16, .inl (dA 0, 7, .inl (fun _ => 0))), (q17, .inl (dA 0, 32, .inl (fun _ => 0))), (q18, .inl (dA 0, 32, .inl (fun _ => 0)))] rfl (fun H locs hw => ?_)
  refine lv_aload_n hx hb dX12_init_160 rfl (lv_at hl 0 rfl) ?_
  refine lv_bipush (v := (16 : Int32)) hx hb dX12_init_161 (by decide) ?_
  refine k_newI C hw wxaI 16 (by decide) (by decide) (by decide) (Nat.le_of_ble_eq_true rfl) (Nat.le_of_ble_eq_true rfl) dX12_init_163 (fun q19 H hw => ?_)
  refine W.widen (k := 20) (n := 3116) (Nat.le_of_ble_eq_true rfl) (Nat.le_of_ble_eq_true rfl) ?_
  have hw : St D [(h0, .inr (12, [.int 0, .null, .int 0, .int 0, .int 0, .int 0, .int 0, .int 0, .int 0, .int 0, .long 0, .int 0, .null, .null, .null, .null, .null, .null, .null, .null, .int 0, .int 0, .null, .null, .null, .null, .null, .null, .int 0, .null, .null, .int 0, .int 0, .null, .null, .int 0, .null, .null, .int 0, .int 0, .null, .null, .null, .null, .null, .null]))] s [(h0, .inr (12, [.int 0, .ref q0, .int 0, .int 0, .int 0, .int 0, .int 0, .int 0, .int 0, .int 0, .long 0, .int 0, .ref q1, .ref q2, .ref q3, .ref q4, .ref q5, .ref q6, .ref q7, .ref q8, .int 0, .int 0, .ref q9, .ref q10, .ref q11, .ref q12, .ref q13, .ref q14, .int 0, .ref q15, .ref q16, .int 0, .int 0, .ref q17, .ref q18, .int 0, .null, .null, .int 0, .int 0, .null, .null, .null, .null, .null, .null])), (q0, .inl (dA 0, 1240, .inl (fun _ => 0))), (q1, .inl (dA 0, 380, .inl (fun _ => 0))), (q2, .inl (dA 0, 340, .inl (fun _ => 0))), (q3, .inl (dA 0, 760, .inl (fun _ => 0))), (q4, .inl (dA 1, 16, .inr (.inl (fun _ => 0)))), (q5, .inl (dA 1, 16, .inr (.inl (fun _ => 0)))), (q6, .inl (dA 1, 32, .inr (.inl (fun _ => 0)))), (q7, .inl (dA 1, 24, .inr (.inl (fun _ => 0)))), (q8, .inl (dA 3, 2, .inl (fun _ => 0))), (q9, .inl (dA 0, 16, .inl (fun _ => 0))), (q10, .inl (dA 0, 16, .inl (fun _ => 0))), (q11, .inl (dA 0, 12, .inl (fun _ => 0))), (q12, .inl (dA 0, 12, .inl (fun _ => 0))), (q13, .inl (dA 0, 144, .inl (fun _ => 0))), (q14, .inl (dA 0, 7, .inl (fun _ => 0))), (q15, .inl (dA 0, 12, .inl (fun _ => 0))), (q16, .inl (dA 0, 7, .inl (fun _ => 0))), (q17, .inl (dA 0, 32, .inl (fun _ => 0))), (q18, .inl (dA 0, 32, .inl (fun _ => 0))), (q19, .inl (dA 0, 16, .inl (fun _ => 0)))] H _ := hw
  refine k_putF C hin hw 0 rfl rfl wiX12 tyX12 tyX12_ok nmX12 36 (by decide) wfX12_69 rfl rfl rfl rfl (Nat.le_of_ble_eq_true rfl) dX12_init_165 [(h0, .inr (12, [.int 0, .ref q0, .int 0, .int 0, .int 0, .int 0, .int 0, .int 0, .int 0, .int 0, .long 0, .int 0, .ref q1, .ref q2, .ref q3, .ref q4, .ref q5, .ref q6, .ref q7, .ref q8, .int 0, .int 0, .ref q9, .ref q10, .ref q11, .ref q12, .ref q13, .ref q14, .int 0, .ref q15, .ref q16, .int 0, .int 0, .ref q17, .ref q18, .int 0, .ref q19, .null, .int 0, .int 0, .null, .null, .null, .null, .null, .null])), (q0, .inl (dA 0, 1240, .inl (fun _ => 0))), (q1, .inl (dA 0, 380, .inl (fun _ => 0))), (q2, .inl (dA 0, 340, .inl (fun _ => 0))), (q3, .inl (dA 0, 760, .inl (fun _ => 0))), (q4, .inl (dA 1, 16, .inr (.inl (fun _ => 0)))), (q5, .inl (dA 1, 16, .inr (.inl (fun _ => 0)))), (q6, .inl (dA 1, 32, .inr (.inl (fun _ => 0)))), (q7, .inl (dA 1, 24, .inr (.inl (fun _ => 0)))), (q8, .inl (dA 3, 2, .inl (fun _ => 0))), (q9, .inl (dA 0, 16, .inl (fun _ => 0))), (q10, .inl (dA 0, 16, .inl (fun _ => 0))), (q11, .inl (dA 0, 12, .inl (fun _ => 0))), (q12, .inl (dA 0, 12, .inl (fun _ => 0))), (q13, .inl (dA 0, 144, .inl (fun _ => 0))), (q14, .inl (dA 0, 7, .inl (fun _ => 0))), (q15, .inl (dA 0, 12, .inl (fun _ => 0))), (q16, .inl (dA 0, 7, .inl (fun _ => 0))), (q17, .inl (dA 0, 32, .inl (fun _ => 0))), (q18, .inl (dA 0, 32, .inl (fun _ => 0))), (q19, .inl (dA 0, 16, .inl (fun _ => 0)))] rfl (fun H locs hw => ?_)
  refine lv_aload_n hx hb dX12_init_168 rfl (lv_at hl 0 rfl) ?_
  refine lv_bipush (v := (16 : Int32)) hx hb dX12_init_169 (by decide) ?_
  refine k_newI C hw wxaI 16 (by decide) (by decide) (by decide) (Nat.le_of_ble_eq_true rfl) (Nat.le_of_ble_eq_true rfl) dX12_init_171 (fun q20 H hw => ?_)
  refine W.widen (k := 21) (n := 3132) (Nat.le_of_ble_eq_true rfl) (Nat.le_of_ble_eq_true rfl) ?_
  have hw : St D [(h0, .inr (12, [.int 0, .null, .int 0, .int 0, .int 0, .int 0, .int 0, .int 0, .int 0, .int 0, .long 0, .int 0, .null, .null, .null, .null, .null, .null, .null, .null, .int 0, .int 0, .null, .null, .null, .null, .null, .null, .int 0, .null, .null, .int 0, .int 0, .null, .null, .int 0, .null, .null, .int 0, .int 0, .null, .null, .null, .null, .null, .null]))] s [(h0, .inr (12, [.int 0, .ref q0, .int 0, .int 0, .int 0, .int 0, .int 0, .int 0, .int 0, .int 0, .long 0, .int 0, .ref q1, .ref q2, .ref q3, .ref q4, .ref q5, .ref q6, .ref q7, .ref q8, .int 0, .int 0, .ref q9, .ref q10, .ref q11, .ref q12, .ref q13, .ref q14, .int 0, .ref q15, .ref q16, .int 0, .int 0, .ref q17, .ref q18, .int 0, .ref q19, .null, .int 0, .int 0, .null, .null, .null, .null, .null, .null])), (q0, .inl (dA 0, 1240, .inl (fun _ => 0))), (q1, .inl (dA 0, 380, .inl (fun _ => 0))), (q2, .inl (dA 0, 340, .inl (fun _ => 0))), (q3, .inl (dA 0, 760, .inl (fun _ => 0))), (q4, .inl (dA 1, 16, .inr (.inl (fun _ => 0)))), (q5, .inl (dA 1, 16, .inr (.inl (fun _ => 0)))), (q6, .inl (dA 1, 32, .inr (.inl (fun _ => 0)))), (q7, .inl (dA 1, 24, .inr (.inl (fun _ => 0)))), (q8, .inl (dA 3, 2, .inl (fun _ => 0))), (q9, .inl (dA 0, 16, .inl (fun _ => 0))), (q10, .inl (dA 0, 16, .inl (fun _ => 0))), (q11, .inl (dA 0, 12, .inl (fun _ => 0))), (q12, .inl (dA 0, 12, .inl (fun _ => 0))), (q13, .inl (dA 0, 144, .inl (fun _ => 0))), (q14, .inl (dA 0, 7, .inl (fun _ => 0))), (q15, .inl (dA 0, 12, .inl (fun _ => 0))), (q16, .inl (dA 0, 7, .inl (fun _ => 0))), (q17, .inl (dA 0, 32, .inl (fun _ => 0))), (q18, .inl (dA 0, 32, .inl (fun _ => 0))), (q19, .inl (dA 0, 16, .inl (fun _ => 0))), (q20, .inl (dA 0, 16, .inl (fun _ => 0)))] H _ := hw
  refine k_putF C hin hw 0 rfl rfl wiX12 tyX12 tyX12_ok nmX12 37 (by decide) wfX12_72 rfl rfl rfl rfl (Nat.le_of_ble_eq_true rfl) dX12_init_173 [(h0, .inr (12, [.int 0, .ref q0, .int 0, .int 0, .int 0, .int 0, .int 0, .int 0, .int 0, .int 0, .long 0, .int 0, .ref q1, .ref q2, .ref q3, .ref q4, .ref q5, .ref q6, .ref q7, .ref q8, .int 0, .int 0, .ref q9, .ref q10, .ref q11, .ref q12, .ref q13, .ref q14, .int 0, .ref q15, .ref q16, .int 0, .int 0, .ref q17, .ref q18, .int 0, .ref q19, .ref q20, .int 0, .int 0, .null, .null, .null, .null, .null, .null])), (q0, .inl (dA 0, 1240, .inl (fun _ => 0))), (q1, .inl (dA 0, 380, .inl (fun _ => 0))), (q2, .inl (dA 0, 340, .inl (fun _ => 0))), (q3, .inl (dA 0, 760, .inl (fun _ => 0))), (q4, .inl (dA 1, 16, .inr (.inl (fun _ => 0)))), (q5, .inl (dA 1, 16, .inr (.inl (fun _ => 0)))), (q6, .inl (dA 1, 32, .inr (.inl (fun _ => 0)))), (q7, .inl (dA 1, 24, .inr (.inl (fun _ => 0)))), (q8, .inl (dA 3, 2, .inl (fun _ => 0))), (q9, .inl (dA 0, 16, .inl (fun _ => 0))), (q10, .inl (dA 0, 16, .inl (fun _ => 0))), (q11, .inl (dA 0, 12, .inl (fun _ => 0))), (q12, .inl (dA 0, 12, .inl (fun _ => 0))), (q13, .inl (dA 0, 144, .inl (fun _ => 0))), (q14, .inl (dA 0, 7, .inl (fun _ => 0))), (q15, .inl (dA 0, 12, .inl (fun _ => 0))), (q16, .inl (dA 0, 7, .inl (fun _ => 0))), (q17, .inl (dA 0, 32, .inl (fun _ => 0))), (q18, .inl (dA 0, 32, .inl (fun _ => 0))), (q19, .inl (dA 0, 16, .inl (fun _ => 0))), (q20, .inl (dA 0, 16, .inl (fun _ => 0)))] rfl (fun H locs hw => ?_)
  refine lv_aload_n hx hb dX12_init_176 rfl (lv_at hl 0 rfl) ?_
  refine lv_iconst (v := (-1 : Int32)) hx hb dX12_init_177 (by decide) ?_
  refine k_put C hw 0 rfl rfl wiX12 tyX12 tyX12_ok nmX12 39 (by decide) wfX12_75 rfl rfl rfl (Nat.le_of_ble_eq_true rfl) dX12_init_178 [(h0, .inr (12, [.int 0, .ref q0, .int 0, .int 0, .int 0, .int 0, .int 0, .int 0, .int 0, .int 0, .long 0, .int 0, .ref q1, .ref q2, .ref q3, .ref q4, .ref q5, .ref q6, .ref q7, .ref q8, .int 0, .int 0, .ref q9, .ref q10, .ref q11, .ref q12, .ref q13, .ref q14, .int 0, .ref q15, .ref q16, .int 0, .int 0, .ref q17, .ref q18, .int 0, .ref q19, .ref q20, .int 0, .int (-1 : Int32), .null, .null, .null, .null, .null, .null])), (q0, .inl (dA 0, 1240, .inl (fun _ => 0))), (q1, .inl (dA 0, 380, .inl (fun _ => 0))), (q2, .inl (dA 0, 340, .inl (fun _ => 0))), (q3, .inl (dA 0, 760, .inl (fun _ => 0))), (q4, .inl (dA 1, 16, .inr (.inl (fun _ => 0)))), (q5, .inl (dA 1, 16, .inr (.inl (fun _ => 0)))), (q6, .inl (dA 1, 32, .inr (.inl (fun _ => 0)))), (q7, .inl (dA 1, 24, .inr (.inl (fun _ => 0)))), (q8, .inl (dA 3, 2, .inl (fun _ => 0))), (q9, .inl (dA 0, 16, .inl (fun _ => 0))), (q10, .inl (dA 0, 16, .inl (fun _ => 0))), (q11, .inl (dA 0, 12, .inl (fun _ => 0))), (q12, .inl (dA 0, 12, .inl (fun _ => 0))), (q13, .inl (dA 0, 144, .inl (fun _ => 0))), (q14, .inl (dA 0, 7, .inl (fun _ => 0))), (q15, .inl (dA 0, 12, .inl (fun _ => 0))), (q16, .inl (dA 0, 7, .inl (fun _ => 0))), (q17, .inl (dA 0, 32, .inl (fun _ => 0))), (q18, .inl (dA 0, 32, .inl (fun _ => 0))), (q19, .inl (dA 0, 16, .inl (fun _ => 0))), (q20, .inl (dA 0, 16, .inl (fun _ => 0)))] rfl (fun H locs hw => ?_)
  refine lv_aload_n hx hb dX12_init_181 rfl (lv_at hl 0 rfl) ?_
  refine lv_bipush (v := (6 : Int32)) hx hb dX12_init_182 (by decide) ?_
  refine k_newI C hw wxaI 6 (by decide) (by decide) (by decide) (Nat.le_of_ble_eq_true rfl) (Nat.le_of_ble_eq_true rfl) dX12_init_184 (fun q21 H hw => ?_)
  refine W.widen (k := 22) (n := 3138) (Nat.le_of_ble_eq_true rfl) (Nat.le_of_ble_eq_true rfl) ?_
  have hw : St D [(h0, .inr (12, [.int 0, .null, .int 0, .int 0, .int 0, .int 0, .int 0, .int 0, .int 0, .int 0, .long 0, .int 0, .null, .null, .null, .null, .null, .null, .null, .null, .int 0, .int 0, .null, .null, .null, .null, .null, .null, .int 0, .null, .null, .int 0, .int 0, .null, .null, .int 0, .null, .null, .int 0, .int 0, .null, .null, .null, .null, .null, .null]))] s [(h0, .inr (12, [.int 0, .ref q0, .int 0, .int 0, .int 0, .int 0, .int 0, .int 0, .int 0, .int 0, .long 0, .int 0, .ref q1, .ref q2, .ref q3, .ref q4, .ref q5, .ref q6, .ref q7, .ref q8, .int 0, .int 0, .ref q9, .ref q10, .ref q11, .ref q12, .ref q13, .ref q14, .int 0, .ref q15, .ref q16, .int 0, .int 0, .ref q17, .ref q18, .int 0, .ref q19, .ref q20, .int 0, .int (-1 : Int32), .null, .null, .null, .null, .null, .null])), (q0, .inl (dA 0, 1240, .inl (fun _ => 0))), (q1, .inl (dA 0, 380, .inl (fun _ => 0))), (q2, .inl (dA 0, 340, .inl (fun _ => 0))), (q3, .inl (dA 0, 760, .inl (fun _ => 0))), (q4, .inl (dA 1, 16, .inr (.inl (fun _ => 0)))), (q5, .inl (dA 1, 16, .inr (.inl (fun _ => 0)))), (q6, .inl (dA 1, 32, .inr (.inl (fun _ => 0)))), (q7, .inl (dA 1, 24, .inr (.inl (fun _ => 0)))), (q8, .inl (dA 3, 2, .inl (fun _ => 0))), (q9, .inl (dA 0, 16, .inl (fun _ => 0))), (q10, .inl (dA 0, 16, .inl (fun _ => 0))), (q11, .inl (dA 0, 12, .inl (fun _ => 0))), (q12, .inl (dA 0, 12, .inl (fun _ => 0))), (q13, .inl (dA 0, 144, .inl (fun _ => 0))), (q14, .inl (dA 0, 7, .inl (fun _ => 0))), (q15, .inl (dA 0, 12, .inl (fun _ => 0))), (q16, .inl (dA 0, 7, .inl (fun _ => 0))), (q17, .inl (dA 0, 32, .inl (fun _ => 0))), (q18, .inl (dA 0, 32, .inl (fun _ => 0))), (q19, .inl (dA 0, 16, .inl (fun _ => 0))), (q20, .inl (dA 0, 16, .inl (fun _ => 0))), (q21, .inl (dA 0, 6, .inl (fun _ => 0)))] H _ := hw
  refine k_putF C hin hw 0 rfl rfl wiX12 tyX12 tyX12_ok nmX12 40 (by decide) wfX12_79 rfl rfl rfl rfl (Nat.le_of_ble_eq_true rfl) dX12_init_186 [(h0, .inr (12, [.int 0, .ref q0, .int 0, .int 0, .int 0, .int 0, .int 0, .int 0, .int 0, .int 0, .long 0, .int 0, .ref q1, .ref q2, .ref q3, .ref q4, .ref q5, .ref q6, .ref q7, .ref q8, .int 0, .int 0, .ref q9, .ref q10, .ref q11, .ref q12, .ref q13, .ref q14, .int 0, .ref q15, .ref q16, .int 0, .int 0, .ref q17, .ref q18, .int 0, .ref q19, .ref q20, .int 0, .int (-1 : Int32), .ref q21, .null, .null, .null, .null, .null])), (q0, .inl (dA 0, 1240, .inl (fun _ => 0))), (q1, .inl (dA 0, 380, .inl (fun _ => 0))), (q2, .inl (dA 0, 340, .inl (fun _ => 0))), (q3, .inl (dA 0, 760, .inl (fun _ => 0))), (q4, .inl (dA 1, 16, .inr (.inl (fun _ => 0)))), (q5, .inl (dA 1, 16, .inr (.inl (fun _ => 0)))), (q6, .inl (dA 1, 32, .inr (.inl (fun _ => 0)))), (q7, .inl (dA 1, 24, .inr (.inl (fun _ => 0)))), (q8, .inl (dA 3, 2, .inl (fun _ => 0))), (q9, .inl (dA 0, 16, .inl (fun _ => 0))), (q10, .inl (dA 0, 16, .inl (fun _ => 0))), (q11, .inl (dA 0, 12, .inl (fun _ => 0))), (q12, .inl (dA 0, 12, .inl (fun _ => 0))), (q13, .inl (dA 0, 144, .inl (fun _ => 0))), (q14, .inl (dA 0, 7, .inl (fun _ => 0))), (q15, .inl (dA 0, 12, .inl (fun _ => 0))), (q16, .inl (dA 0, 7, .inl (fun _ => 0))), (q17, .inl (dA 0, 32, .inl (fun _ => 0))), (q18, .inl (dA 0, 32, .inl (fun _ => 0))), (q19, .inl (dA 0, 16, .inl (fun _ => 0))), (q20, .inl (dA 0, 16, .inl (fun _ => 0))), (q21, .inl (dA 0, 6, .inl (fun _ => 0)))] rfl (fun H locs hw => ?_)
  refine lv_aload_n hx hb dX12_init_189 rfl (lv_at hl 0 rfl) ?_
  refine lv_bipush (v := (16 : Int32)) hx hb dX12_init_190 (by decide) ?_
  refine k_newI C hw wxaI 16 (by decide) (by decide) (by decide) (Nat.le_of_ble_eq_true rfl) (Nat.le_of_ble_eq_true rfl) dX12_init_192 (fun q22 H hw => ?_)
  refine W.widen (k := 23) (n := 3154) (Nat.le_of_ble_eq_true rfl) (Nat.le_of_ble_eq_true rfl) ?_
  have hw : St D [(h0, .inr (12, [.int 0, .null, .int 0, .int 0, .int 0, .int 0, .int 0, .int 0, .int 0, .int 0, .long 0, .int 0, .null, .null, .null, .null, .null, .null, .null, .null, .int 0, .int 0, .null, .null, .null, .null, .null, .null, .int 0, .null, .null, .int 0, .int 0, .null, .null, .int 0, .null, .null, .int 0, .int 0, .null, .null, .null, .null, .null, .null]))] s [(h0, .inr (12, [.int 0, .ref q0, .int 0, .int 0, .int 0, .int 0, .int 0, .int 0, .int 0, .int 0, .long 0, .int 0, .ref q1, .ref q2, .ref q3, .ref q4, .ref q5, .ref q6, .ref q7, .ref q8, .int 0, .int 0, .ref q9, .ref q10, .ref q11, .ref q12, .ref q13, .ref q14, .int 0, .ref q15, .ref q16, .int 0, .int 0, .ref q17, .ref q18, .int 0, .ref q19, .ref q20, .int 0, .int (-1 : Int32), .ref q21, .null, .null, .null, .null, .null])), (q0, .inl (dA 0, 1240, .inl (fun _ => 0))), (q1, .inl (dA 0, 380, .inl (fun _ => 0))), (q2, .inl (dA 0, 340, .inl (fun _ => 0))), (q3, .inl (dA 0, 760, .inl (fun _ => 0))), (q4, .inl (dA 1, 16, .inr (.inl (fun _ => 0)))), (q5, .inl (dA 1, 16, .inr (.inl (fun _ => 0)))), (q6, .inl (dA 1, 32, .inr (.inl (fun _ => 0)))), (q7, .inl (dA 1, 24, .inr (.inl (fun _ => 0)))), (q8, .inl (dA 3, 2, .inl (fun _ => 0))), (q9, .inl (dA 0, 16, .inl (fun _ => 0))), (q10, .inl (dA 0, 16, .inl (fun _ => 0))), (q11, .inl (dA 0, 12, .inl (fun _ => 0))), (q12, .inl (dA 0, 12, .inl (fun _ => 0))), (q13, .inl (dA 0, 144, .inl (fun _ => 0))), (q14, .inl (dA 0, 7, .inl (fun _ => 0))), (q15, .inl (dA 0, 12, .inl (fun _ => 0))), (q16, .inl (dA 0, 7, .inl (fun _ => 0))), (q17, .inl (dA 0, 32, .inl (fun _ => 0))), (q18, .inl (dA 0, 32, .inl (fun _ => 0))), (q19, .inl (dA 0, 16, .inl (fun _ => 0))), (q20, .inl (dA 0, 16, .inl (fun _ => 0))), (q21, .inl (dA 0, 6, .inl (fun _ => 0))), (q22, .inl (dA 0, 16, .inl (fun _ => 0)))] H _ := hw
  refine k_putF C hin hw 0 rfl rfl wiX12 tyX12 tyX12_ok nmX12 41 (by decide) wfX12_82 rfl rfl rfl rfl (Nat.le_of_ble_eq_true rfl) dX12_init_194 [(h0, .inr (12, [.int 0, .ref q0, .int 0, .int 0, .int 0, .int 0, .int 0, .int 0, .int 0, .int 0, .long 0, .int 0, .ref q1, .ref q2, .ref q3, .ref q4, .ref q5, .ref q6, .ref q7, .ref q8, .int 0, .int 0, .ref q9, .ref q10, .ref q11, .ref q12, .ref q13, .ref q14, .int 0, .ref q15, .ref q16, .int 0, .int 0, .ref q17, .ref q18, .int 0, .ref q19, .ref q20, .int 0, .int (-1 : Int32), .ref q21, .ref q22, .null, .null, .null, .null])), (q0, .inl (dA 0, 1240, .inl (fun _ => 0))), (q1, .inl (dA 0, 380, .inl (fun _ => 0))), (q2, .inl (dA 0, 340, .inl (fun _ => 0))), (q3, .inl (dA 0, 760, .inl (fun _ => 0))), (q4, .inl (dA 1, 16, .inr (.inl (fun _ => 0)))), (q5, .inl (dA 1, 16, .inr (.inl (fun _ => 0)))), (q6, .inl (dA 1, 32, .inr (.inl (fun _ => 0)))), (q7, .inl (dA 1, 24, .inr (.inl (fun _ => 0)))), (q8, .inl (dA 3, 2, .inl (fun _ => 0))), (q9, .inl (dA 0, 16, .inl (fun _ => 0))), (q10, .inl (dA 0, 16, .inl (fun _ => 0))), (q11, .inl (dA 0, 12, .inl (fun _ => 0))), (q12, .inl (dA 0, 12, .inl (fun _ => 0))), (q13, .inl (dA 0, 144, .inl (fun _ => 0))), (q14, .inl (dA 0, 7, .inl (fun _ => 0))), (q15, .inl (dA 0, 12, .inl (fun _ => 0))), (q16, .inl (dA 0, 7, .inl (fun _ => 0))), (q17, .inl (dA 0, 32, .inl (fun _ => 0))), (q18, .inl (dA 0, 32, .inl (fun _ => 0))), (q19, .inl (dA 0, 16, .inl (fun _ => 0))), (q20, .inl (dA 0, 16, .inl (fun _ => 0))), (q21, .inl (dA 0, 6, .inl (fun _ => 0))), (q22, .inl (dA 0, 16, .inl (fun _ => 0)))] rfl (fun H locs hw => ?_)
  refine lv_aload_n hx hb dX12_init_197 rfl (lv_at hl 0 rfl) ?_
  refine lv_bipush (v := (64 : Int32)) hx hb dX12_init_198 (by decide) ?_
  refine k_newI C hw wxaI 64 (by decide) (by decide) (by decide) (Nat.le_of_ble_eq_true rfl) (Nat.le_of_ble_eq_true rfl) dX12_init_200 (fun q23 H hw => ?_)
  refine W.widen (k := 24) (n := 3218) (Nat.le_of_ble_eq_true rfl) (Nat.le_of_ble_eq_true rfl) ?_
  have hw : St D [(h0, .inr (12, [.int 0, .null, .int 0, .int 0, .int 0, .int 0, .int 0, .int 0, .int 0, .int 0, .long 0, .int 0, .null, .null, .null, .null, .null, .null, .null, .null, .int 0, .int 0, .null, .null, .null, .null, .null, .null, .int 0, .null, .null, .int 0, .int 0, .null, .null, .int 0, .null, .null, .int 0, .int 0, .null, .null, .null, .null, .null, .null]))] s [(h0, .inr (12, [.int 0, .ref q0, .int 0, .int 0, .int 0, .int 0, .int 0, .int 0, .int 0, .int 0, .long 0, .int 0, .ref q1, .ref q2, .ref q3, .ref q4, .ref q5, .ref q6, .ref q7, .ref q8, .int 0, .int 0, .ref q9, .ref q10, .ref q11, .ref q12, .ref q13, .ref q14, .int 0, .ref q15, .ref q16, .int 0, .int 0, .ref q17, .ref q18, .int 0, .ref q19, .ref q20, .int 0, .int (-1 : Int32), .ref q21, .ref q22, .null, .null, .null, .null])), (q0, .inl (dA 0, 1240, .inl (fun _ => 0))), (q1, .inl (dA 0, 380, .inl (fun _ => 0))), (q2, .inl (dA 0, 340, .inl (fun _ => 0))), (q3, .inl (dA 0, 760, .inl (fun _ => 0))), (q4, .inl (dA 1, 16, .inr (.inl (fun _ => 0)))), (q5, .inl (dA 1, 16, .inr (.inl (fun _ => 0)))), (q6, .inl (dA 1, 32, .inr (.inl (fun _ => 0)))), (q7, .inl (dA 1, 24, .inr (.inl (fun _ => 0)))), (q8, .inl (dA 3, 2, .inl (fun _ => 0))), (q9, .inl (dA 0, 16, .inl (fun _ => 0))), (q10, .inl (dA 0, 16, .inl (fun _ => 0))), (q11, .inl (dA 0, 12, .inl (fun _ => 0))), (q12, .inl (dA 0, 12, .inl (fun _ => 0))), (q13, .inl (dA 0, 144, .inl (fun _ => 0))), (q14, .inl (dA 0, 7, .inl (fun _ => 0))), (q15, .inl (dA 0, 12, .inl (fun _ => 0))), (q16, .inl (dA 0, 7, .inl (fun _ => 0))), (q17, .inl (dA 0, 32, .inl (fun _ => 0))), (q18, .inl (dA 0, 32, .inl (fun _ => 0))), (q19, .inl (dA 0, 16, .inl (fun _ => 0))), (q20, .inl (dA 0, 16, .inl (fun _ => 0))), (q21, .inl (dA 0, 6, .inl (fun _ => 0))), (q22, .inl (dA 0, 16, .inl (fun _ => 0))), (q23, .inl (dA 0, 64, .inl (fun _ => 0)))] H _ := hw
  refine k_putF C hin hw 0 rfl rfl wiX12 tyX12 tyX12_ok nmX12 42 (by decide) wfX12_85 rfl rfl rfl rfl (Nat.le_of_ble_eq_true rfl) dX12_init_202 [(h0, .inr (12, [.int 0, .ref q0, .int 0, .int 0, .int 0, .int 0, .int 0, .int 0, .int 0, .int 0, .long 0, .int 0, .ref q1, .ref q2, .ref q3, .ref q4, .ref q5, .ref q6, .ref q7, .ref q8, .int 0, .int 0, .ref q9, .ref q10, .ref q11, .ref q12, .ref q13, .ref q14, .int 0, .ref q15, .ref q16, .int 0, .int 0, .ref q17, .ref q18, .int 0, .ref q19, .ref q20, .int 0, .int (-1 : Int32), .ref q21, .ref q22, .ref q23, .null, .null, .null])), (q0, .inl (dA 0, 1240, .inl (fun _ => 0))), (q1, .inl (dA 0, 380, .inl (fun _ => 0))), (q2, .inl (dA 0, 340, .inl (fun _ => 0))), (q3, .inl (dA 0, 760, .inl (fun _ => 0))), (q4, .inl (dA 1, 16, .inr (.inl (fun _ => 0)))), (q5, .inl (dA 1, 16, .inr (.inl (fun _ => 0)))), (q6, .inl (dA 1, 32, .inr (.inl (fun _ => 0)))), (q7, .inl (dA 1, 24, .inr (.inl (fun _ => 0)))), (q8, .inl (dA 3, 2, .inl (fun _ => 0))), (q9, .inl (dA 0, 16, .inl (fun _ => 0))), (q10, .inl (dA 0, 16, .inl (fun _ => 0))), (q11, .inl (dA 0, 12, .inl (fun _ => 0))), (q12, .inl (dA 0, 12, .inl (fun _ => 0))), (q13, .inl (dA 0, 144, .inl (fun _ => 0))), (q14, .inl (dA 0, 7, .inl (fun _ => 0))), (q15, .inl (dA 0, 12, .inl (fun _ => 0))), (q16, .inl (dA 0, 7, .inl (fun _ => 0))), (q17, .inl (dA 0, 32, .inl (fun _ => 0))), (q18, .inl (dA 0, 32, .inl (fun _ => 0))), (q19, .inl (dA 0, 16, .inl (fun _ => 0))), (q20, .inl (dA 0, 16, .inl (fun _ => 0))), (q21, .inl (dA 0, 6, .inl (fun _ => 0))), (q22, .inl (dA 0, 16, .inl (fun _ => 0))), (q23, .inl (dA 0, 64, .inl (fun _ => 0)))] rfl (fun H locs hw => ?_)
  refine lv_aload_n hx hb dX12_init_205 rfl (lv_at hl 0 rfl) ?_
  refine lv_bipush (v := (64 : Int32)) hx hb dX12_init_206 (by decide) ?_
  refine k_newI C hw wxaI 64 (by decide) (by decide) (by decide) (Nat.le_of_ble_eq_true rfl) (Nat.le_of_ble_eq_true rfl) dX12_init_208 (fun q24 H hw => ?_)
  refine W.widen (k := 25) (n := 3282) (Nat.le_of_ble_eq_true rfl) (Nat.le_of_ble_eq_true rfl) ?_
  have hw : St D [(h0, .inr (12, [.int 0, .null, .int 0, .int 0, .int 0, .int 0, .int 0, .int 0, .int 0, .int 0, .long 0, .int 0, .null, .null, .null, .null, .null, .null, .null, .null, .int 0, .int 0, .null, .null, .null, .null, .null, .null, .int 0, .null, .null, .int 0, .int 0, .null, .null, .int 0, .null, .null, .int 0, .int 0, .null, .null, .null, .null, .null, .null]))] s [(h0, .inr (12, [.int 0, .ref q0, .int 0, .int 0, .int 0, .int 0, .int 0, .int 0, .int 0, .int 0, .long 0, .int 0, .ref q1, .ref q2, .ref q3, .ref q4, .ref q5, .ref q6, .ref q7, .ref q8, .int 0, .int 0, .ref q9, .ref q10, .ref q11, .ref q12, .ref q13, .ref q14, .int 0, .ref q15, .ref q16, .int 0, .int 0, .ref q17, .ref q18, .int 0, .ref q19, .ref q20, .int 0, .int (-1 : Int32), .ref q21, .ref q22, .ref q23, .null, .null, .null])), (q0, .inl (dA 0, 1240, .inl (fun _ => 0))), (q1, .inl (dA 0, 380, .inl (fun _ => 0))), (q2, .inl (dA 0, 340, .inl (fun _ => 0))), (q3, .inl (dA 0, 760, .inl (fun _ => 0))), (q4, .inl (dA 1, 16, .inr (.inl (fun _ => 0)))), (q5, .inl (dA 1, 16, .inr (.inl (fun _ => 0)))), (q6, .inl (dA 1, 32, .inr (.inl (fun _ => 0)))), (q7, .inl (dA 1, 24, .inr (.inl (fun _ => 0)))), (q8, .inl (dA 3, 2, .inl (fun _ => 0))), (q9, .inl (dA 0, 16, .inl (fun _ => 0))), (q10, .inl (dA 0, 16, .inl (fun _ => 0))), (q11, .inl (dA 0, 12, .inl (fun _ => 0))), (q12, .inl (dA 0, 12, .inl (fun _ => 0))), (q13, .inl (dA 0, 144, .inl (fun _ => 0))), (q14, .inl (dA 0, 7, .inl (fun _ => 0))), (q15, .inl (dA 0, 12, .inl (fun _ => 0))), (q16, .inl (dA 0, 7, .inl (fun _ => 0))), (q17, .inl (dA 0, 32, .inl (fun _ => 0))), (q18, .inl (dA 0, 32, .inl (fun _ => 0))), (q19, .inl (dA 0, 16, .inl (fun _ => 0))), (q20, .inl (dA 0, 16, .inl (fun _ => 0))), (q21, .inl (dA 0, 6, .inl (fun _ => 0))), (q22, .inl (dA 0, 16, .inl (fun _ => 0))), (q23, .inl (dA 0, 64, .inl (fun _ => 0))), (q24, .inl (dA 0, 64, .inl (fun _ => 0)))] H _ := hw
  refine k_putF C hin hw 0 rfl rfl wiX12 tyX12 tyX12_ok nmX12 43 (by decide) wfX12_88 rfl rfl rfl rfl (Nat.le_of_ble_eq_true rfl) dX12_init_210 [(h0, .inr (12, [.int 0, .ref q0, .int 0, .int 0, .int 0, .int 0, .int 0, .int 0, .int 0, .int 0, .long 0, .int 0, .ref q1, .ref q2, .ref q3, .ref q4, .ref q5, .ref q6, .ref q7, .ref q8, .int 0, .int 0, .ref q9, .ref q10, .ref q11, .ref q12, .ref q13, .ref q14, .int 0, .ref q15, .ref q16, .int 0, .int 0, .ref q17, .ref q18, .int 0, .ref q19, .ref q20, .int 0, .int (-1 : Int32), .ref q21, .ref q22, .ref q23, .ref q24, .null, .null])), (q0, .inl (dA 0, 1240, .inl (fun _ => 0))), (q1, .inl (dA 0, 380, .inl (fun _ => 0))), (q2, .inl (dA 0, 340, .inl (fun _ => 0))), (q3, .inl (dA 0, 760, .inl (fun _ => 0))), (q4, .inl (dA 1, 16, .inr (.inl (fun _ => 0)))), (q5, .inl (dA 1, 16, .inr (.inl (fun _ => 0)))), (q6, .inl (dA 1, 32, .inr (.inl (fun _ => 0)))), (q7, .inl (dA 1, 24, .inr (.inl (fun _ => 0)))), (q8, .inl (dA 3, 2, .inl (fun _ => 0))), (q9, .inl (dA 0, 16, .inl (fun _ => 0))), (q10, .inl (dA 0, 16, .inl (fun _ => 0))), (q11, .inl (dA 0, 12, .inl (fun _ => 0))), (q12, .inl (dA 0, 12, .inl (fun _ => 0))), (q13, .inl (dA 0, 144, .inl (fun _ => 0))), (q14, .inl (dA 0, 7, .inl (fun _ => 0))), (q15, .inl (dA 0, 12, .inl (fun _ => 0))), (q16, .inl (dA 0, 7, .inl (fun _ => 0))), (q17, .inl (dA 0, 32, .inl (fun _ => 0))), (q18, .inl (dA 0, 32, .inl (fun _ => 0))), (q19, .inl (dA 0, 16, .inl (fun _ => 0))), (q20, .inl (dA 0, 16, .inl (fun _ => 0))), (q21, .inl (dA 0, 6, .inl (fun _ => 0))), (q22, .inl (dA 0, 16, .inl (fun _ => 0))), (q23, .inl (dA 0, 64, .inl (fun _ => 0))), (q24, .inl (dA 0, 64, .inl (fun _ => 0)))] rfl (fun H locs hw => ?_)
  refine lv_aload_n hx hb dX12_init_213 rfl (lv_at hl 0 rfl) ?_
  refine lv_bipush (v := (64 : Int32)) hx hb dX12_init_214 (by decide) ?_
  refine k_newI C hw wxaI 64 (by decide) (by decide) (by decide) (Nat.le_of_ble_eq_true rfl) (Nat.le_of_ble_eq_true rfl) dX12_init_216 (fun q25 H hw => ?_)
  refine W.widen (k := 26) (n := 3346) (Nat.le_of_ble_eq_true rfl) (Nat.le_of_ble_eq_true rfl) ?_
  have hw : St D [(h0, .inr (12, [.int 0, .null, .int 0, .int 0, .int 0, .int 0, .int 0, .int 0, .int 0, .int 0, .long 0, .int 0, .null, .null, .null, .null, .null, .null, .null, .null, .int 0, .int 0, .null, .null, .null, .null, .null, .null, .int 0, .null, .null, .int 0, .int 0, .null, .null, .int 0, .null, .null, .int 0, .int 0, .null, .null, .null, .null, .null, .null]))] s [(h0, .inr (12, [.int 0, .ref q0, .int 0, .int 0, .int 0, .int 0, .int 0, .int 0, .int 0, .int 0, .long 0, .int 0, .ref q1, .ref q2, .ref q3, .ref q4, .ref q5, .ref q6, .ref q7, .ref q8, .int 0, .int 0, .ref q9, .ref q10, .ref q11, .ref q12, .ref q13, .ref q14, .int 0, .ref q15, .ref q16, .int 0, .int 0, .ref q17, .ref q18, .int 0, .ref q19, .ref q20, .int 0, .int (-1 : Int32), .ref q21, .ref q22, .ref q23, .ref q24, .null, .null])), (q0, .inl (dA 0, 1240, .inl (fun _ => 0))), (q1, .inl (dA 0, 380, .inl (fun _ => 0))), (q2, .inl (dA 0, 340, .inl (fun _ => 0))), (q3, .inl (dA 0, 760, .inl (fun _ => 0))), (q4, .inl (dA 1, 16, .inr (.inl (fun _ => 0)))), (q5, .inl (dA 1, 16, .inr (.inl (fun _ => 0)))), (q6, .inl (dA 1, 32, .inr (.inl (fun _ => 0)))), (q7, .inl (dA 1, 24, .inr (.inl (fun _ => 0)))), (q8, .inl (dA 3, 2, .inl (fun _ => 0))), (q9, .inl (dA 0, 16, .inl (fun _ => 0))), (q10, .inl (dA 0, 16, .inl (fun _ => 0))), (q11, .inl (dA 0, 12, .inl (fun _ => 0))), (q12, .inl (dA 0, 12, .inl (fun _ => 0))), (q13, .inl (dA 0, 144, .inl (fun _ => 0))), (q14, .inl (dA 0, 7, .inl (fun _ => 0))), (q15, .inl (dA 0, 12, .inl (fun _ => 0))), (q16, .inl (dA 0, 7, .inl (fun _ => 0))), (q17, .inl (dA 0, 32, .inl (fun _ => 0))), (q18, .inl (dA 0, 32, .inl (fun _ => 0))), (q19, .inl (dA 0, 16, .inl (fun _ => 0))), (q20, .inl (dA 0, 16, .inl (fun _ => 0))), (q21, .inl (dA 0, 6, .inl (fun _ => 0))), (q22, .inl (dA 0, 16, .inl (fun _ => 0))), (q23, .inl (dA 0, 64, .inl (fun _ => 0))), (q24, .inl (dA 0, 64, .inl (fun _ => 0))), (q25, .inl (dA 0, 64, .inl (fun _ => 0)))] H _ := hw
  refine k_putF C hin hw 0 rfl rfl wiX12 tyX12 tyX12_ok nmX12 44 (by decide) wfX12_91 rfl rfl rfl rfl (Nat.le_of_ble_eq_true rfl) dX12_init_218 [(h0, .inr (12, [.int 0, .ref q0, .int 0, .int 0, .int 0, .int 0, .int 0, .int 0, .int 0, .int 0, .long 0, .int 0, .ref q1, .ref q2, .ref q3, .ref q4, .ref q5, .ref q6, .ref q7, .ref q8, .int 0, .int 0, .ref q9, .ref q10, .ref q11, .ref q12, .ref q13, .ref q14, .int 0, .ref q15, .ref q16, .int 0, .int 0, .ref q17, .ref q18, .int 0, .ref q19, .ref q20, .int 0, .int (-1 : Int32), .ref q21, .ref q22, .ref q23, .ref q24, .ref q25, .null])), (q0, .inl (dA 0, 1240, .inl (fun _ => 0))), (q1, .inl (dA 0, 380, .inl (fun _ => 0))), (q2, .inl (dA 0, 340, .inl (fun _ => 0))), (q3, .inl (dA 0, 760, .inl (fun _ => 0))), (q4, .inl (dA 1, 16, .inr (.inl (fun _ => 0)))), (q5, .inl (dA 1, 16, .inr (.inl (fun _ => 0)))), (q6, .inl (dA 1, 32, .inr (.inl (fun _ => 0)))), (q7, .inl (dA 1, 24, .inr (.inl (fun _ => 0)))), (q8, .inl (dA 3, 2, .inl (fun _ => 0))), (q9, .inl (dA 0, 16, .inl (fun _ => 0))), (q10, .inl (dA 0, 16, .inl (fun _ => 0))), (q11, .inl (dA 0, 12, .inl (fun _ => 0))), (q12, .inl (dA 0, 12, .inl (fun _ => 0))), (q13, .inl (dA 0, 144, .inl (fun _ => 0))), (q14, .inl (dA 0, 7, .inl (fun _ => 0))), (q15, .inl (dA 0, 12, .inl (fun _ => 0))), (q16, .inl (dA 0, 7, .inl (fun _ => 0))), (q17, .inl (dA 0, 32, .inl (fun _ => 0))), (q18, .inl (dA 0, 32, .inl (fun _ => 0))), (q19, .inl (dA 0, 16, .inl (fun _ => 0))), (q20, .inl (dA 0, 16, .inl (fun _ => 0))), (q21, .inl (dA 0, 6, .inl (fun _ => 0))), (q22, .inl (dA 0, 16, .inl (fun _ => 0))), (q23, .inl (dA 0, 64, .inl (fun _ => 0))), (q24, .inl (dA 0, 64, .inl (fun _ => 0))), (q25, .inl (dA 0, 64, .inl (fun _ => 0)))] rfl (fun H locs hw => ?_)
  refine lv_aload_n hx hb dX12_init_221 rfl (lv_at hl 0 rfl) ?_
  refine lv_bipush (v := (64 : Int32)) hx hb dX12_init_222 (by decide) ?_
  refine k_newI C hw wxaI 64 (by decide) (by decide) (by decide) (Nat.le_of_ble_eq_true rfl) (Nat.le_of_ble_eq_true rfl) dX12_init_224 (fun q26 H hw => ?_)
  refine W.widen (k := 27) (n := 3410) (Nat.le_of_ble_eq_true rfl) (Nat.le_of_ble_eq_true rfl) ?_
  have hw : St D [(h0, .inr (12, [.int 0, .null, .int 0, .int 0, .int 0, .int 0, .int 0, .int 0, .int 0, .int 0, .long 0, .int 0, .null, .null, .null, .null, .null, .null, .null, .null, .int 0, .int 0, .null, .null, .null, .null, .null, .null, .int 0, .null, .null, .int 0, .int 0, .null, .null, .int 0, .null, .null, .int 0, .int 0, .null, .null, .null, .null, .null, .null]))] s [(h0, .inr (12, [.int 0, .ref q0, .int 0, .int 0, .int 0, .int 0, .int 0, .int 0, .int 0, .int 0, .long 0, .int 0, .ref q1, .ref q2, .ref q3, .ref q4, .ref q5, .ref q6, .ref q7, .ref q8, .int 0, .int 0, .ref q9, .ref q10, .ref q11, .ref q12, .ref q13, .ref q14, .int 0, .ref q15, .ref q16, .int 0, .int 0, .ref q17, .ref q18, .int 0, .ref q19, .ref q20, .int 0, .int (-1 : Int32), .ref q21, .ref q22, .ref q23, .ref q24, .ref q25, .null])), (q0, .inl (dA 0, 1240, .inl (fun _ => 0))), (q1, .inl (dA 0, 380, .inl (fun _ => 0))), (q2, .inl (dA 0, 340, .inl (fun _ => 0))), (q3, .inl (dA 0, 760, .inl (fun _ => 0))), (q4, .inl (dA 1, 16, .inr (.inl (fun _ => 0)))), (q5, .inl (dA 1, 16, .inr (.inl (fun _ => 0)))), (q6, .inl (dA 1, 32, .inr (.inl (fun _ => 0)))), (q7, .inl (dA 1, 24, .inr (.inl (fun _ => 0)))), (q8, .inl (dA 3, 2, .inl (fun _ => 0))), (q9, .inl (dA 0, 16, .inl (fun _ => 0))), (q10, .inl (dA 0, 16, .inl (fun _ => 0))), (q11, .inl (dA 0, 12, .inl (fun _ => 0))), (q12, .inl (dA 0, 12, .inl (fun _ => 0))), (q13, .inl (dA 0, 144, .inl (fun _ => 0))), (q14, .inl (dA 0, 7, .inl (fun _ => 0))), (q15, .inl (dA 0, 12, .inl (fun _ => 0))), (q16, .inl (dA 0, 7, .inl (fun _ => 0))), (q17, .inl (dA 0, 32, .inl (fun _ => 0))), (q18, .inl (dA 0, 32, .inl (fun _ => 0))), (q19, .inl (dA 0, 16, .inl (fun _ => 0))), (q20, .inl (dA 0, 16, .inl (fun _ => 0))), (q21, .inl (dA 0, 6, .inl (fun _ => 0))), (q22, .inl (dA 0, 16, .inl (fun _ => 0))), (q23, .inl (dA 0, 64, .inl (fun _ => 0))), (q24, .inl (dA 0, 64, .inl (fun _ => 0))), (q25, .inl (dA 0, 64, .inl (fun _ => 0))), (q26, .inl (dA 0, 64, .inl (fun _ => 0)))] H _ := hw
  refine k_putF C hin hw 0 rfl rfl wiX12 tyX12 tyX12_ok nmX12 45 (by decide) wfX12_94 rfl rfl rfl rfl (Nat.le_of_ble_eq_true rfl) dX12_init_226 [(h0, .inr (12, [.int 0, .ref q0, .int 0, .int 0, .int 0, .int 0, .int 0, .int 0, .int 0, .int 0, .long 0, .int 0, .ref q1, .ref q2, .ref q3, .ref q4, .ref q5, .ref q6, .ref q7, .ref q8, .int 0, .int 0, .ref q9, .ref q10, .ref q11, .ref q12, .ref q13, .ref q14, .int 0, .ref q15, .ref q16, .int 0, .int 0, .ref q17, .ref q18, .int 0, .ref q19, .ref q20, .int 0, .int (-1 : Int32), .ref q21, .ref q22, .ref q23, .ref q24, .ref q25, .ref q26])), (q0, .inl (dA 0, 1240, .inl (fun _ => 0))), (q1, .inl (dA 0, 380, .inl (fun _ => 0))), (q2, .inl (dA 0, 340, .inl (fun _ => 0))), (q3, .inl (dA 0, 760, .inl (fun _ => 0))), (q4, .inl (dA 1, 16, .inr (.inl (fun _ => 0)))), (q5, .inl (dA 1, 16, .inr (.inl (fun _ => 0)))), (q6, .inl (dA 1, 32, .inr (.inl (fun _ => 0)))), (q7, .inl (dA 1, 24, .inr (.inl (fun _ => 0)))), (q8, .inl (dA 3, 2, .inl (fun _ => 0))), (q9, .inl (dA 0, 16, .inl (fun _ => 0))), (q10, .inl (dA 0, 16, .inl (fun _ => 0))), (q11, .inl (dA 0, 12, .inl (fun _ => 0))), (q12, .inl (dA 0, 12, .inl (fun _ => 0))), (q13, .inl (dA 0, 144, .inl (fun _ => 0))), (q14, .inl (dA 0, 7, .inl (fun _ => 0))), (q15, .inl (dA 0, 12, .inl (fun _ => 0))), (q16, .inl (dA 0, 7, .inl (fun _ => 0))), (q17, .inl (dA 0, 32, .inl (fun _ => 0))), (q18, .inl (dA 0, 32, .inl (fun _ => 0))), (q19, .inl (dA 0, 16, .inl (fun _ => 0))), (q20, .inl (dA 0, 16, .inl (fun _ => 0))), (q21, .inl (dA 0, 6, .inl (fun _ => 0))), (q22, .inl (dA 0, 16, .inl (fun _ => 0))), (q23, .inl (dA 0, 64, .inl (fun _ => 0))), (q24, .inl (dA 0, 64, .inl (fun _ => 0))), (q25, .inl (dA 0, 64, .inl (fun _ => 0))), (q26, .inl (dA 0, 64, .inl (fun _ => 0)))] rfl (fun H locs hw => ?_)
  exact k_vretA (fun i => ([q0, q1, q2, q3, q4, q5, q6, q7, q8, q9, q10, q11, q12, q13, q14, q15, q16, q17, q18, q19, q20, q21, q22, q23, q24, q25, q26] : List Nat).getD i 0) C hw (Nat.le_of_ble_eq_true rfl) (Nat.le_of_ble_eq_true rfl) dX12_init_229
