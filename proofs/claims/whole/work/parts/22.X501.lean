/-! RingPlaces$Ring.driftOf(III)I -/
abbrev wX5_driftOf (dA : Nat → ClassId) (ht ht_cells ht_places ht_facts : Nat) (t_lands : Int32) (t_things : Int32) (t_placeCount : Int32) (t_apart : Int32) (t_thereFirst : Int32) (t_facts : (Nat → Int32)) : va_W := [(ht, .inr (5, [.ref ht_cells, .ref ht_places, .int t_lands, .int t_things, .int t_placeCount, .int t_apart, .int t_thereFirst, .ref ht_facts])), (ht_facts, .inl (dA 0, 224, .inl t_facts))]
def fX5_driftOf_j80 (N : Nat) (t_facts : (Nat → Int32)) (v2 : Int32) (v7 : Int32) : Option (Int32) := (fJ9_floorMod_7cf53  (v2 + v7) (3600 : Int32)).bind fun o10 => some o10
def fX5_driftOf (N : Nat) (t_facts : (Nat → Int32)) (x1_ : Int32) (x2_ : Int32) (x3_ : Int32) : Option (Int32) := (fX5_told t_facts x1_ (8 : Int32)).bind fun o1 => (fX5_told t_facts x1_ (9 : Int32)).bind fun o2 => bnd (if (1 : Int32) < o2 then o2 else (1 : Int32)) fun x3 => gdz x3 (gdz x3 (bnd ((((4 : Int32) * o1) * (x3_ - x3_ / x3 * x3)) / x3) fun x6 => (if o1 < x6 then (if ((3 : Int32) * o1) < x6 then bnd (x6 - ((4 : Int32) * o1)) fun x9 => fX5_driftOf_j80 N t_facts x2_ x9 else bnd (((2 : Int32) * o1) - x6) fun x11 => fX5_driftOf_j80 N t_facts x2_ x11) else fX5_driftOf_j80 N t_facts x2_ x6)))
set_option maxHeartbeats 4000000 in
set_option maxRecDepth 100000 in
theorem tX5_driftOf_j80 {p : Program} {l : Launch} {e : Env} {R : Room} {s : State} {m : MethodId} {args : Array Value} {below : List Frame} {meth : Method} {c : Code} {D : va_G} {dA : Nat → ClassId} {w0 : va_W} {Q : State → Prop} {H : Heap} {locs : List Loc} {ls : Array Slot} {cells slots : Nat} (C : CX p s m args meth c cX5_driftOf 8 (some .int) RX5 D dA) (ht ht_cells ht_places ht_facts : Nat) (hR : 1 ≤ R.frames ∧ 23 ≤ R.locals ∧ cells ≤ R.cells ∧ slots ≤ R.slots)  (t_lands : Int32) (t_things : Int32) (t_placeCount : Int32) (t_apart : Int32) (t_thereFirst : Int32) (t_facts : (Nat → Int32)) (v2 : Int32) (v7 : Int32) (N : Nat) (res : (Int32)) (hf : fX5_driftOf_j80 N t_facts v2 v7 = some res) (hK : (∀ (H : Heap) (locs : List Loc) (pc : Nat) (ls : Array Slot), decode cX5_driftOf pc = .ok (.ireturn, 1) → St D w0 s (wX5_driftOf dA ht ht_cells ht_places ht_facts t_lands t_things t_placeCount t_apart t_thereFirst t_facts) H locs → W p l e R s m args below meth c H locs cells slots Q (F0 m pc ls [.int res]))) (hl : lv_has ls 8 [(2, .int v2), (7, .int v7)]) (hw : St D w0 s (wX5_driftOf dA ht ht_cells ht_places ht_facts t_lands t_things t_placeCount t_apart t_thereFirst t_facts) H locs) : W p l e R s m args below meth c H locs cells slots Q (F0 m 80 ls []) := by
  have hx := C.1
  have hb := C.2.1
  have hml := C.2.2.1
  have hown := C.2.2.2.1
  have hts := C.2.2.2.2.1
  unfold fX5_driftOf_j80 at hf
  refine lv_iload_n hx hb dX5_driftOf_80 rfl (lv_at hl 0 rfl) ?_
  refine lv_iload hx hb dX5_driftOf_81 (lv_at hl 1 rfl) ?_
  refine lv_iadd hx hb dX5_driftOf_83 ?_
  refine lv_sipush (v := (3600 : Int32)) hx hb dX5_driftOf_84 (by decide) ?_
  obtain ⟨o10, ho10, hf⟩ := bind_r hf
  refine k_callSi C hw (n := 2) (As := [.int (v2 + v7), .int (3600 : Int32)]) (w1 := (wX5_driftOf dA ht ht_cells ht_places ht_facts t_lands t_things t_placeCount t_apart t_thereFirst t_facts)) (wr := [(ht, .inr (5, [.ref ht_cells, .ref ht_places, .int t_lands, .int t_things, .int t_placeCount, .int t_apart, .int t_thereFirst, .ref ht_facts])), (ht_facts, .inl (dA 0, 224, .inl t_facts))]) [] [0, 1] [0, 1] rfl rfl (by decide) (by decide) (by decide) rfl (by decide) (qJ9_floorMod_7cf53 l D dA  (v2 + v7) (3600 : Int32) _ ho10) wlX5_53 wsJ9_floorMod_7cf53_t wnJ9 wcJ9_floorMod_7cf53 (by decide +kernel) ⟨Nat.le_trans (by decide) hR.1, Nat.le_trans (by decide) hR.2.1⟩ hR.2.2 rfl hl.1 (Nat.le_of_ble_eq_true rfl) dX5_driftOf_87 rfl (fun H locs hw => ?_)
  obtain rfl := some_r hf
  exact hK _ _ _ _ dX5_driftOf_90 hw
set_option maxHeartbeats 4000000 in
set_option maxRecDepth 100000 in
theorem qX5_driftOf (l : Launch) (D : va_G) (dA : Nat → ClassId) (ht ht_cells ht_places ht_facts : Nat) (t_lands : Int32) (t_things : Int32) (t_placeCount : Int32) (t_apart : Int32) (t_thereFirst : Int32) (t_facts : (Nat → Int32)) (x1_ : Int32) (x2_ : Int32) (x3_ : Int32) (N : Nat) (o : Int32) (hf : fX5_driftOf N t_facts x1_ x2_ x3_ = some o) : Mi l D dA yX5_driftOf (Cond.code yX5_driftOf cX5_driftOf 8 (some .int) :: wA) 1 23 [.ref ht, .int x1_, .int x2_, .int x3_] (wX5_driftOf dA ht ht_cells ht_places ht_facts t_lands t_things t_placeCount t_apart t_thereFirst t_facts) (wX5_driftOf dA ht ht_cells ht_places ht_facts t_lands t_things t_placeCount t_apart t_thereFirst t_facts) o := by
  intro sz
  refine M_of (cc := cX5_driftOf) (nL := 8) (ret := (some .int)) (own := RX5) (by decide +kernel) rfl (Nat.le_of_ble_eq_true rfl) ?_
  intro p e s m below meth c ls hsz C hw hl
  subst hsz
  have hR : 1 ≤ (rmm 1 23).frames ∧ 23 ≤ (rmm 1 23).locals ∧ 0 ≤ (rmm 1 23).cells ∧ 0 ≤ (rmm 1 23).slots := ⟨Nat.le_refl _, Nat.le_refl _, Nat.le_refl _, Nat.le_refl _⟩
  have hl : lv_has ls 8 [(0, .ref ht), (1, .int x1_), (2, .int x2_), (3, .int x3_)] := hl
  have hx := C.1
  have hb := C.2.1
  have hml := C.2.2.1
  have hown := C.2.2.2.1
  have hts := C.2.2.2.2.1
  have hK : ∀ (H : Heap) (locs : List Loc) (pc : Nat) (ls : Array Slot), decode cX5_driftOf pc = .ok (.ireturn, 1) → St D (wX5_driftOf dA ht ht_cells ht_places ht_facts t_lands t_things t_placeCount t_apart t_thereFirst t_facts) s (wX5_driftOf dA ht ht_cells ht_places ht_facts t_lands t_things t_placeCount t_apart t_thereFirst t_facts) H locs → W p l e (rmm 1 23) s m [.ref ht, .int x1_, .int x2_, .int x3_].toArray below meth c H locs 0 0 (MQ below (Qi D (wX5_driftOf dA ht ht_cells ht_places ht_facts t_lands t_things t_placeCount t_apart t_thereFirst t_facts) (wX5_driftOf dA ht ht_cells ht_places ht_facts t_lands t_things t_placeCount t_apart t_thereFirst t_facts) o s.heap.size) [.ref ht, .int x1_, .int x2_, .int x3_].toArray s 0 0 (va_A (wX5_driftOf dA ht ht_cells ht_places ht_facts t_lands t_things t_placeCount t_apart t_thereFirst t_facts) s.heap.size)) (F0 m pc ls [.int o]) := fun H locs pc ls hd hw => k_iret C hw hd
  unfold fX5_driftOf at hf
  refine lv_aload_n hx hb dX5_driftOf_0 rfl (lv_at hl 0 rfl) ?_
  refine lv_iload_n hx hb dX5_driftOf_1 rfl (lv_at hl 1 rfl) ?_
  refine lv_bipush (v := (8 : Int32)) hx hb dX5_driftOf_2 (by decide) ?_
  obtain ⟨o1, ho1, hf⟩ := bind_r hf
  refine k_callVi C hw (n := 2) (As := [.int x1_, .int (8 : Int32)]) (w1 := (wX5_driftOf dA ht ht_cells ht_places ht_facts t_lands t_things t_placeCount t_apart t_thereFirst t_facts)) (wr := []) [0, 1] [] [0, 1] rfl rfl (by decide) (by decide) (by decide) rfl (by decide) (qX5_told l D dA ht ht_cells ht_places ht_facts t_lands t_things t_placeCount t_apart t_thereFirst t_facts x1_ (8 : Int32) _ ho1) wlX5_49 wmX5_told wvX5_told wnX5 wcX5_told rfl (by decide +kernel) ⟨Nat.le_trans (by decide) hR.1, Nat.le_trans (by decide) hR.2.1⟩ hR.2.2 rfl 0 rfl rfl hl.1 (Nat.le_of_ble_eq_true rfl) dX5_driftOf_4 rfl (fun H locs hw => ?_)
  refine lv_istore (lv' := [(4, .int o1), (0, .ref ht), (1, .int x1_), (2, .int x2_), (3, .int x3_)]) hx hb dX5_driftOf_7 hl (by decide) rfl (fun ls hl => ?_)
  refine lv_iconst (v := (1 : Int32)) hx hb dX5_driftOf_9 (by decide) ?_
  refine lv_aload_n hx hb dX5_driftOf_10 rfl (lv_at hl 1 rfl) ?_
  refine lv_iload_n hx hb dX5_driftOf_11 rfl (lv_at hl 2 rfl) ?_
  refine lv_bipush (v := (9 : Int32)) hx hb dX5_driftOf_12 (by decide) ?_
  obtain ⟨o2, ho2, hf⟩ := bind_r hf
  refine k_callVi C hw (n := 2) (As := [.int x1_, .int (9 : Int32)]) (w1 := (wX5_driftOf dA ht ht_cells ht_places ht_facts t_lands t_things t_placeCount t_apart t_thereFirst t_facts)) (wr := []) [0, 1] [] [0, 1] rfl rfl (by decide) (by decide) (by decide) rfl (by decide) (qX5_told l D dA ht ht_cells ht_places ht_facts t_lands t_things t_placeCount t_apart t_thereFirst t_facts x1_ (9 : Int32) _ ho2) wlX5_49 wmX5_told wvX5_told wnX5 wcX5_told rfl (by decide +kernel) ⟨Nat.le_trans (by decide) hR.1, Nat.le_trans (by decide) hR.2.1⟩ hR.2.2 rfl 0 rfl rfl hl.1 (Nat.le_of_ble_eq_true rfl) dX5_driftOf_14 rfl (fun H locs hw => ?_)
  refine va_mmax hx hb (hml.trans hl.1.symm) hown (hts _ wlX5_65) (hts _ wxsmax) (hts _ wxmi) (hts _ wxcmax) (Nat.le_trans (by decide) hR.1) (Nat.le_trans (Nat.le_of_ble_eq_true rfl) hR.2.1) hR.2.2.1 hR.2.2.2 dX5_driftOf_17 ?_
  refine lv_topi (fun x3 ex3 => ?_)
  have hf := bnd_r ex3 hf
  refine lv_istore (lv' := [(5, .int x3), (4, .int o1), (0, .ref ht), (1, .int x1_), (2, .int x2_), (3, .int x3_)]) hx hb dX5_driftOf_20 hl (by decide) rfl (fun ls hl => ?_)
  refine lv_iconst (v := (4 : Int32)) hx hb dX5_driftOf_22 (by decide) ?_
  refine lv_iload hx hb dX5_driftOf_23 (lv_at hl 1 rfl) ?_
  refine lv_imul hx hb dX5_driftOf_25 ?_
  refine lv_iload_n hx hb dX5_driftOf_26 rfl (lv_at hl 5 rfl) ?_
  refine lv_iload hx hb dX5_driftOf_27 (lv_at hl 0 rfl) ?_
  obtain ⟨g4, hf⟩ := gdz_r hf
  refine lv_irem hx hb dX5_driftOf_29 g4 ?_
  refine lv_imul hx hb dX5_driftOf_30 ?_
  refine lv_iload hx hb dX5_driftOf_31 (lv_at hl 0 rfl) ?_
  obtain ⟨g5, hf⟩ := gdz_r hf
  refine lv_idiv hx hb dX5_driftOf_33 g5 ?_
  refine lv_topi (fun x6 ex6 => ?_)
  have hf := bnd_r ex6 hf
  refine lv_istore (lv' := [(6, .int x6), (5, .int x3), (4, .int o1), (0, .ref ht), (1, .int x1_), (2, .int x2_), (3, .int x3_)]) hx hb dX5_driftOf_34 hl (by decide) rfl (fun ls hl => ?_)
  refine lv_iload hx hb dX5_driftOf_36 (lv_at hl 0 rfl) ?_
  refine lv_iload hx hb dX5_driftOf_38 (lv_at hl 2 rfl) ?_
  refine lv_icmp_gt (tgt := 50) hx hb dX5_driftOf_40 (by decide) (fun c7 => ?_) (fun c7 => ?_)
  · have hf := ite_t c7 hf
    refine lv_iload hx hb dX5_driftOf_50 (lv_at hl 0 rfl) ?_
    refine lv_iconst (v := (3 : Int32)) hx hb dX5_driftOf_52 (by decide) ?_
    refine lv_iload hx hb dX5_driftOf_53 (lv_at hl 2 rfl) ?_
    refine lv_imul hx hb dX5_driftOf_55 ?_
    refine lv_icmp_gt (tgt := 71) hx hb dX5_driftOf_56 (by decide) (fun c8 => ?_) (fun c8 => ?_)
    · have hf := ite_t c8 hf
      refine lv_iload hx hb dX5_driftOf_71 (lv_at hl 0 rfl) ?_
      refine lv_iconst (v := (4 : Int32)) hx hb dX5_driftOf_73 (by decide) ?_
      refine lv_iload hx hb dX5_driftOf_74 (lv_at hl 2 rfl) ?_
      refine lv_imul hx hb dX5_driftOf_76 ?_
      refine lv_isub hx hb dX5_driftOf_77 ?_
      refine lv_topi (fun x9 ex9 => ?_)
      have hf := bnd_r ex9 hf
      refine lv_istore (lv' := [(7, .int x9), (6, .int x6), (5, .int x3), (4, .int o1), (0, .ref ht), (1, .int x1_), (2, .int x2_), (3, .int x3_)]) hx hb dX5_driftOf_78 hl (by decide) rfl (fun ls hl => ?_)
      exact tX5_driftOf_j80 C ht ht_cells ht_places ht_facts hR t_lands t_things t_placeCount t_apart t_thereFirst t_facts x2_ x9 N _ hf hK (lv_sub hl [6, 0] rfl) hw
    · have hf := ite_f c8 hf
      refine lv_iconst (v := (2 : Int32)) hx hb dX5_driftOf_59 (by decide) ?_
      refine lv_iload hx hb dX5_driftOf_60 (lv_at hl 2 rfl) ?_
      refine lv_imul hx hb dX5_driftOf_62 ?_
      refine lv_iload hx hb dX5_driftOf_63 (lv_at hl 0 rfl) ?_
      refine lv_isub hx hb dX5_driftOf_65 ?_
      refine lv_topi (fun x11 ex11 => ?_)
      have hf := bnd_r ex11 hf
      refine lv_istore (lv' := [(7, .int x11), (6, .int x6), (5, .int x3), (4, .int o1), (0, .ref ht), (1, .int x1_), (2, .int x2_), (3, .int x3_)]) hx hb dX5_driftOf_66 hl (by decide) rfl (fun ls hl => ?_)
      refine lv_goto (tgt := 80) hx hb dX5_driftOf_68 (by decide) ?_
      exact tX5_driftOf_j80 C ht ht_cells ht_places ht_facts hR t_lands t_things t_placeCount t_apart t_thereFirst t_facts x2_ x11 N _ hf hK (lv_sub hl [6, 0] rfl) hw
  · have hf := ite_f c7 hf
    refine lv_iload hx hb dX5_driftOf_43 (lv_at hl 0 rfl) ?_
    refine lv_istore (lv' := [(7, .int x6), (6, .int x6), (5, .int x3), (4, .int o1), (0, .ref ht), (1, .int x1_), (2, .int x2_), (3, .int x3_)]) hx hb dX5_driftOf_45 hl (by decide) rfl (fun ls hl => ?_)
    refine lv_goto (tgt := 80) hx hb dX5_driftOf_47 (by decide) ?_
    exact tX5_driftOf_j80 C ht ht_cells ht_places ht_facts hR t_lands t_things t_placeCount t_apart t_thereFirst t_facts x2_ x6 N _ hf hK (lv_sub hl [6, 0] rfl) hw
