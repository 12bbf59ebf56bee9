/-! RingPlaces$Shares.movesOf(II)I -/
abbrev wX7_movesOf (dA : Nat → ClassId) (ht ht_ring ht_standing ht_fewest ht_movesTo ht_ring_cells ht_ring_places ht_ring_facts ht_standing_degree ht_standing_voice ht_standing_loud ht_standing_sharp ht_standing_hears ht_standing_tooNear : Nat) (t_lands : Int32) (t_moves : Int32) (t_ring_lands : Int32) (t_ring_things : Int32) (t_ring_placeCount : Int32) (t_ring_apart : Int32) (t_ring_thereFirst : Int32) (t_ring_places : (Nat → Int32)) (t_ring_facts : (Nat → Int32)) (t_standing_degree : (Nat → Int32)) : va_W := [(ht, .inr (7, [.int t_lands, .int t_moves, .ref ht_ring, .ref ht_standing, .ref ht_fewest, .ref ht_movesTo])), (ht_ring, .inr (5, [.ref ht_ring_cells, .ref ht_ring_places, .int t_ring_lands, .int t_ring_things, .int t_ring_placeCount, .int t_ring_apart, .int t_ring_thereFirst, .ref ht_ring_facts])), (ht_ring_places, .inl (dA 0, 6, .inl t_ring_places)), (ht_ring_facts, .inl (dA 0, 224, .inl t_ring_facts)), (ht_standing, .inr (8, [.ref ht_ring, .ref ht_standing_degree, .ref ht_standing_voice, .ref ht_standing_loud, .ref ht_standing_sharp, .ref ht_standing_hears, .ref ht_standing_tooNear])), (ht_standing_degree, .inl (dA 0, 16, .inl t_standing_degree))]
def fX7_movesOf_l16b (N : Nat) (t_ring_things : Int32) (t_ring_places : (Nat → Int32)) (t_ring_facts : (Nat → Int32)) (t_standing_degree : (Nat → Int32)) (v1 : Int32) (v3 : Int32) (v4 : Int32) (v5 : Int32) : Option ((Int32 × Int32) ⊕ ((Int32) ⊕ (Int32))) := (if t_ring_things ≤ v5 then some (.inr (.inl v4)) else (fX5_told t_ring_facts v5 (0 : Int32)).bind fun o4 => (if o4 = v1 then (fX5_isDead t_ring_facts v5).bind fun o7 => (if o7 = 0 then (fX5_isInArc t_ring_facts v5 v3).bind fun o10 => (if o10 = 0 then bnd (v5 + (1 : Int32)) fun x15 => some (.inl (v4, x15)) else gdi v5 16 ((if (t_standing_degree v5.toNatClampNeg) = v3 then some (.inr (.inr (0 : Int32))) else bnd (v5 + (1 : Int32)) fun x14 => some (.inl ((1 : Int32), x14))))) else bnd (v5 + (1 : Int32)) fun x9 => some (.inl (v4, x9))) else bnd (v5 + (1 : Int32)) fun x6 => some (.inl (v4, x6))))
def fX7_movesOf (N : Nat) (t_ring_things : Int32) (t_ring_places : (Nat → Int32)) (t_ring_facts : (Nat → Int32)) (t_standing_degree : (Nat → Int32)) (x1_ : Int32) (x2_ : Int32) : Option (Int32) := gdi x2_ 6 (bnd (t_ring_places x2_.toNatClampNeg) fun x2 => (itr (fun z => fX7_movesOf_l16b N t_ring_things t_ring_places t_ring_facts t_standing_degree x1_ x2 z.1 z.2) N ((-1 : Int32), (0 : Int32))).bind fun q16 => Sum.elim (fun q16 => some q16) (fun q16 => some q16) q16)
set_option maxHeartbeats 4000000 in
set_option maxRecDepth 100000 in
theorem tX7_movesOf_l16b {p : Program} {l : Launch} {e : Env} {R : Room} {s : State} {m : MethodId} {args : Array Value} {below : List Frame} {meth : Method} {c : Code} {D : va_G} {dA : Nat → ClassId} {w0 : va_W} {Q : State → Prop} {H : Heap} {locs : List Loc} {ls : Array Slot} {cells slots : Nat} (C : CX p s m args meth c cX7_movesOf 6 (some .int) RX7 D dA) (ht ht_ring ht_standing ht_fewest ht_movesTo ht_ring_cells ht_ring_places ht_ring_facts ht_standing_degree ht_standing_voice ht_standing_loud ht_standing_sharp ht_standing_hears ht_standing_tooNear : Nat) (hR : 1 ≤ R.frames ∧ 24 ≤ R.locals ∧ cells ≤ R.cells ∧ slots ≤ R.slots)  (t_lands : Int32) (t_moves : Int32) (t_ring_lands : Int32) (t_ring_things : Int32) (t_ring_placeCount : Int32) (t_ring_apart : Int32) (t_ring_thereFirst : Int32) (t_ring_places : (Nat → Int32)) (t_ring_facts : (Nat → Int32)) (t_standing_degree : (Nat → Int32)) (v1 : Int32) (v3 : Int32) (v4 : Int32) (v5 : Int32) (N : Nat) (res : ((Int32 × Int32) ⊕ ((Int32) ⊕ (Int32)))) (hf : fX7_movesOf_l16b N t_ring_things t_ring_places t_ring_facts t_standing_degree v1 v3 v4 v5 = some res) (hK : Sum.elim (fun z => (∀ (H : Heap) (locs : List Loc) (ls : Array Slot), lv_has ls 6 [(0, .ref ht), (1, .int v1), (3, .int v3), (4, .int z.1), (5, .int z.2)] → St D w0 s (wX7_movesOf dA ht ht_ring ht_standing ht_fewest ht_movesTo ht_ring_cells ht_ring_places ht_ring_facts ht_standing_degree ht_standing_voice ht_standing_loud ht_standing_sharp ht_standing_hears ht_standing_tooNear t_lands t_moves t_ring_lands t_ring_things t_ring_placeCount t_ring_apart t_ring_thereFirst t_ring_places t_ring_facts t_standing_degree) H locs → W p l e R s m args below meth c H locs cells slots Q (F0 m 16 ls []))) (fun r => Sum.elim (fun q => (∀ (H : Heap) (locs : List Loc) (ls : Array Slot), lv_has ls 6 [(4, .int q)] → St D w0 s (wX7_movesOf dA ht ht_ring ht_standing ht_fewest ht_movesTo ht_ring_cells ht_ring_places ht_ring_facts ht_standing_degree ht_standing_voice ht_standing_loud ht_standing_sharp ht_standing_hears ht_standing_tooNear t_lands t_moves t_ring_lands t_ring_things t_ring_placeCount t_ring_apart t_ring_thereFirst t_ring_places t_ring_facts t_standing_degree) H locs → W p l e R s m args below meth c H locs cells slots Q (F0 m 95 ls []))) (fun o => (∀ (H : Heap) (locs : List Loc) (pc : Nat) (ls : Array Slot), decode cX7_movesOf pc = .ok (.ireturn, 1) → St D w0 s (wX7_movesOf dA ht ht_ring ht_standing ht_fewest ht_movesTo ht_ring_cells ht_ring_places ht_ring_facts ht_standing_degree ht_standing_voice ht_standing_loud ht_standing_sharp ht_standing_hears ht_standing_tooNear t_lands t_moves t_ring_lands t_ring_things t_ring_placeCount t_ring_apart t_ring_thereFirst t_ring_places t_ring_facts t_standing_degree) H locs → W p l e R s m args below meth c H locs cells slots Q (F0 m pc ls [.int o]))) r) res) (hl : lv_has ls 6 [(0, .ref ht), (1, .int v1), (3, .int v3), (4, .int v4), (5, .int v5)]) (hw : St D w0 s (wX7_movesOf dA ht ht_ring ht_standing ht_fewest ht_movesTo ht_ring_cells ht_ring_places ht_ring_facts ht_standing_degree ht_standing_voice ht_standing_loud ht_standing_sharp ht_standing_hears ht_standing_tooNear t_lands t_moves t_ring_lands t_ring_things t_ring_placeCount t_ring_apart t_ring_thereFirst t_ring_places t_ring_facts t_standing_degree) H locs) : W p l e R s m args below meth c H locs cells slots Q (F0 m 16 ls []) := by
  have hx := C.1
  have hb := C.2.1
  have hml := C.2.2.1
  have hown := C.2.2.2.1
  have hts := C.2.2.2.2.1
  unfold fX7_movesOf_l16b at hf
  refine lv_iload hx hb dX7_movesOf_16 (lv_at hl 4 rfl) ?_
  refine lv_aload_n hx hb dX7_movesOf_18 rfl (lv_at hl 0 rfl) ?_
  refine k_get C hw 0 rfl rfl wiX7 2 (by decide) wfX7_31 rfl dX7_movesOf_19 ?_
  refine k_get C hw 1 rfl rfl wiX5 3 (by decide) wfX7_59 rfl dX7_movesOf_22 ?_
  refine lv_icmp_ge (tgt := 95) hx hb dX7_movesOf_25 (by decide) (fun c3 => ?_) (fun c3 => ?_)
  · have hf := ite_t c3 hf
    obtain rfl := some_r hf
    exact hK _ _ _ (lv_sub hl [3] rfl) hw
  · have hf := ite_f c3 hf
    refine lv_aload_n hx hb dX7_movesOf_28 rfl (lv_at hl 0 rfl) ?_
    refine k_get C hw 0 rfl rfl wiX7 2 (by decide) wfX7_31 rfl dX7_movesOf_29 ?_
    refine lv_iload hx hb dX7_movesOf_32 (lv_at hl 4 rfl) ?_
    refine lv_iconst (v := (0 : Int32)) hx hb dX7_movesOf_34 (by decide) ?_
    obtain ⟨o4, ho4, hf⟩ := bind_r hf
    refine k_callVi C hw (n := 2) (As := [.int v5, .int (0 : Int32)]) (w1 := (wX7_movesOf dA ht ht_ring ht_standing ht_fewest ht_movesTo ht_ring_cells ht_ring_places ht_ring_facts ht_standing_degree ht_standing_voice ht_standing_loud ht_standing_sharp ht_standing_hears ht_standing_tooNear t_lands t_moves t_ring_lands t_ring_things t_ring_placeCount t_ring_apart t_ring_thereFirst t_ring_places t_ring_facts t_standing_degree)) (wr := [(ht, .inr (7, [.int t_lands, .int t_moves, .ref ht_ring, .ref ht_standing, .ref ht_fewest, .ref ht_movesTo])), (ht_ring_places, .inl (dA 0, 6, .inl t_ring_places)), (ht_standing, .inr (8, [.ref ht_ring, .ref ht_standing_degree, .ref ht_standing_voice, .ref ht_standing_loud, .ref ht_standing_sharp, .ref ht_standing_hears, .ref ht_standing_tooNear])), (ht_standing_degree, .inl (dA 0, 16, .inl t_standing_degree))]) [1, 3] [0, 2, 4, 5] [0, 4, 1, 5, 2, 3] rfl rfl (by decide) (by decide) (by decide) rfl (by decide) (qX5_told l D dA ht_ring ht_ring_cells ht_ring_places ht_ring_facts t_ring_lands t_ring_things t_ring_placeCount t_ring_apart t_ring_thereFirst t_ring_facts v5 (0 : Int32) _ ho4) wlX7_62 wmX5_told wvX5_told wnX5 wcX5_told rfl (by decide +kernel) ⟨Nat.le_trans (by decide) hR.1, Nat.le_trans (by decide) hR.2.1⟩ hR.2.2 rfl 0 rfl rfl hl.1 (Nat.le_of_ble_eq_true rfl) dX7_movesOf_35 rfl (fun H locs hw => ?_)
    refine lv_iload_n hx hb dX7_movesOf_38 rfl (lv_at hl 1 rfl) ?_
    refine lv_icmp_ne (tgt := 89) hx hb dX7_movesOf_39 (by decide) (fun c5 => ?_) (fun c5 => ?_)
    · have hf := ite_f c5 hf
      obtain ⟨x6, ex6⟩ : ∃ y : Int32, y = v5 + (1 : Int32) := ⟨_, rfl⟩
      have hf := bnd_r ex6 hf
      refine lv_iinc (v := x6) (lv' := [(5, .int x6), (0, .ref ht), (1, .int v1), (3, .int v3), (4, .int v4)]) hx hb dX7_movesOf_89 hl (k := 4) rfl (by rw [ex6]; rfl) (by decide) rfl (fun ls hl => ?_)
      refine lv_goto (tgt := 16) hx hb dX7_movesOf_92 (by decide) ?_
      obtain rfl := some_r hf
      exact hK _ _ _ (lv_sub hl [1, 2, 3, 4, 0] rfl) hw
    · have hf := ite_t c5 hf
      refine lv_aload_n hx hb dX7_movesOf_42 rfl (lv_at hl 0 rfl) ?_
      refine k_get C hw 0 rfl rfl wiX7 2 (by decide) wfX7_31 rfl dX7_movesOf_43 ?_
      refine lv_iload hx hb dX7_movesOf_46 (lv_at hl 4 rfl) ?_
      obtain ⟨o7, ho7, hf⟩ := bind_r hf
      refine k_callVi C hw (n := 1) (As := [.int v5]) (w1 := (wX7_movesOf dA ht ht_ring ht_standing ht_fewest ht_movesTo ht_ring_cells ht_ring_places ht_ring_facts ht_standing_degree ht_standing_voice ht_standing_loud ht_standing_sharp ht_standing_hears ht_standing_tooNear t_lands t_moves t_ring_lands t_ring_things t_ring_placeCount t_ring_apart t_ring_thereFirst t_ring_places t_ring_facts t_standing_degree)) (wr := [(ht, .inr (7, [.int t_lands, .int t_moves, .ref ht_ring, .ref ht_standing, .ref ht_fewest, .ref ht_movesTo])), (ht_ring_places, .inl (dA 0, 6, .inl t_ring_places)), (ht_standing, .inr (8, [.ref ht_ring, .ref ht_standing_degree, .ref ht_standing_voice, .ref ht_standing_loud, .ref ht_standing_sharp, .ref ht_standing_hears, .ref ht_standing_tooNear])), (ht_standing_degree, .inl (dA 0, 16, .inl t_standing_degree))]) [1, 3] [0, 2, 4, 5] [0, 4, 1, 5, 2, 3] rfl rfl (by decide) (by decide) (by decide) rfl (by decide) (qX5_isDead l D dA ht_ring ht_ring_cells ht_ring_places ht_ring_facts t_ring_lands t_ring_things t_ring_placeCount t_ring_apart t_ring_thereFirst t_ring_facts v5 _ ho7) wlX7_65 wmX5_isDead wvX5_isDead wnX5 wcX5_isDead rfl (by decide +kernel) ⟨Nat.le_trans (by decide) hR.1, Nat.le_trans (by decide) hR.2.1⟩ hR.2.2 rfl 0 rfl rfl hl.1 (Nat.le_of_ble_eq_true rfl) dX7_movesOf_48 rfl (fun H locs hw => ?_)
      refine lv_if_ne (tgt := 89) hx hb dX7_movesOf_51 (by decide) (fun c8 => ?_) (fun c8 => ?_)
      · have hf := ite_f c8 hf
        obtain ⟨x9, ex9⟩ : ∃ y : Int32, y = v5 + (1 : Int32) := ⟨_, rfl⟩
        have hf := bnd_r ex9 hf
        refine lv_iinc (v := x9) (lv' := [(5, .int x9), (0, .ref ht), (1, .int v1), (3, .int v3), (4, .int v4)]) hx hb dX7_movesOf_89 hl (k := 4) rfl (by rw [ex9]; rfl) (by decide) rfl (fun ls hl => ?_)
        refine lv_goto (tgt := 16) hx hb dX7_movesOf_92 (by decide) ?_
        obtain rfl := some_r hf
        exact hK _ _ _ (lv_sub hl [1, 2, 3, 4, 0] rfl) hw
      · have hf := ite_t c8 hf
        refine lv_aload_n hx hb dX7_movesOf_54 rfl (lv_at hl 0 rfl) ?_
        refine k_get C hw 0 rfl rfl wiX7 2 (by decide) wfX7_31 rfl dX7_movesOf_55 ?_
        refine lv_iload hx hb dX7_movesOf_58 (lv_at hl 4 rfl) ?_
        refine lv_iload_n hx hb dX7_movesOf_60 rfl (lv_at hl 2 rfl) ?_
        obtain ⟨o10, ho10, hf⟩ := bind_r hf
        refine k_callVi C hw (n := 2) (As := [.int v5, .int v3]) (w1 := (wX7_movesOf dA ht ht_ring ht_standing ht_fewest ht_movesTo ht_ring_cells ht_ring_places ht_ring_facts ht_standing_degree ht_standing_voice ht_standing_loud ht_standing_sharp ht_standing_hears ht_standing_tooNear t_lands t_moves t_ring_lands t_ring_things t_ring_placeCount t_ring_apart t_ring_thereFirst t_ring_places t_ring_facts t_standing_degree)) (wr := [(ht, .inr (7, [.int t_lands, .int t_moves, .ref ht_ring, .ref ht_standing, .ref ht_fewest, .ref ht_movesTo])), (ht_ring_places, .inl (dA 0, 6, .inl t_ring_places)), (ht_standing, .inr (8, [.ref ht_ring, .ref ht_standing_degree, .ref ht_standing_voice, .ref ht_standing_loud, .ref ht_standing_sharp, .ref ht_standing_hears, .ref ht_standing_tooNear])), (ht_standing_degree, .inl (dA 0, 16, .inl t_standing_degree))]) [1, 3] [0, 2, 4, 5] [0, 4, 1, 5, 2, 3] rfl rfl (by decide) (by decide) (by decide) rfl (by decide) (qX5_isInArc l D dA ht_ring ht_ring_cells ht_ring_places ht_ring_facts t_ring_lands t_ring_things t_ring_placeCount t_ring_apart t_ring_thereFirst t_ring_facts v5 v3 _ ho10) wlX7_69 wmX5_isInArc wvX5_isInArc wnX5 wcX5_isInArc rfl (by decide +kernel) ⟨Nat.le_trans (by decide) hR.1, Nat.le_trans (by decide) hR.2.1⟩ hR.2.2 rfl 0 rfl rfl hl.1 (Nat.le_of_ble_eq_true rfl) dX7_movesOf_61 rfl (fun H locs hw => ?_)
        refine lv_if_ne (tgt := 70) hx hb dX7_movesOf_64 (by decide) (fun c11 => ?_) (fun c11 => ?_)
        · have hf := ite_f c11 hf
          refine lv_aload_n hx hb dX7_movesOf_70 rfl (lv_at hl 0 rfl) ?_
          refine k_get C hw 0 rfl rfl wiX7 3 (by decide) wfX7_32 rfl dX7_movesOf_71 ?_
          refine k_get C hw 4 rfl rfl wiX8 1 (by decide) wfX7_73 rfl dX7_movesOf_74 ?_
          refine lv_iload hx hb dX7_movesOf_77 (lv_at hl 4 rfl) ?_
          obtain ⟨g12, hf⟩ := gdi_r hf
          refine k_iald C hw 5 rfl g12 dX7_movesOf_79 ?_
          refine lv_iload_n hx hb dX7_movesOf_80 rfl (lv_at hl 2 rfl) ?_
          refine lv_icmp_ne (tgt := 86) hx hb dX7_movesOf_81 (by decide) (fun c13 => ?_) (fun c13 => ?_)
          · have hf := ite_f c13 hf
            refine lv_iconst (v := (1 : Int32)) hx hb dX7_movesOf_86 (by decide) ?_
            refine lv_istore (lv' := [(4, .int (1 : Int32)), (0, .ref ht), (1, .int v1), (3, .int v3), (5, .int v5)]) hx hb dX7_movesOf_87 hl (by decide) rfl (fun ls hl => ?_)
            obtain ⟨x14, ex14⟩ : ∃ y : Int32, y = v5 + (1 : Int32) := ⟨_, rfl⟩
            have hf := bnd_r ex14 hf
            refine lv_iinc (v := x14) (lv' := [(5, .int x14), (4, .int (1 : Int32)), (0, .ref ht), (1, .int v1), (3, .int v3)]) hx hb dX7_movesOf_89 hl (k := 4) rfl (by rw [ex14]; rfl) (by decide) rfl (fun ls hl => ?_)
            refine lv_goto (tgt := 16) hx hb dX7_movesOf_92 (by decide) ?_
            obtain rfl := some_r hf
            exact hK _ _ _ (lv_sub hl [2, 3, 4, 1, 0] rfl) hw
          · have hf := ite_t c13 hf
            refine lv_iconst (v := (0 : Int32)) hx hb dX7_movesOf_84 (by decide) ?_
            obtain rfl := some_r hf
            exact hK _ _ _ _ dX7_movesOf_85 hw
        · have hf := ite_t c11 hf
          refine lv_goto (tgt := 89) hx hb dX7_movesOf_67 (by decide) ?_
          obtain ⟨x15, ex15⟩ : ∃ y : Int32, y = v5 + (1 : Int32) := ⟨_, rfl⟩
          have hf := bnd_r ex15 hf
          refine lv_iinc (v := x15) (lv' := [(5, .int x15), (0, .ref ht), (1, .int v1), (3, .int v3), (4, .int v4)]) hx hb dX7_movesOf_89 hl (k := 4) rfl (by rw [ex15]; rfl) (by decide) rfl (fun ls hl => ?_)
          refine lv_goto (tgt := 16) hx hb dX7_movesOf_92 (by decide) ?_
          obtain rfl := some_r hf
          exact hK _ _ _ (lv_sub hl [1, 2, 3, 4, 0] rfl) hw
set_option maxHeartbeats 4000000 in
theorem tX7_movesOf_l16 {p : Program} {l : Launch} {e : Env} {R : Room} {s : State} {m : MethodId} {args : Array Value} {below : List Frame} {meth : Method} {c : Code} {D : va_G} {dA : Nat → ClassId} {w0 : va_W} {Q : State → Prop} {H : Heap} {locs : List Loc} {ls : Array Slot} {cells slots : Nat} (C : CX p s m args meth c cX7_movesOf 6 (some .int) RX7 D dA) (ht ht_ring ht_standing ht_fewest ht_movesTo ht_ring_cells ht_ring_places ht_ring_facts ht_standing_degree ht_standing_voice ht_standing_loud ht_standing_sharp ht_standing_hears ht_standing_tooNear : Nat) (hR : 1 ≤ R.frames ∧ 24 ≤ R.locals ∧ cells ≤ R.cells ∧ slots ≤ R.slots)  (t_lands : Int32) (t_moves : Int32) (t_ring_lands : Int32) (t_ring_things : Int32) (t_ring_placeCount : Int32) (t_ring_apart : Int32) (t_ring_thereFirst : Int32) (t_ring_places : (Nat → Int32)) (t_ring_facts : (Nat → Int32)) (t_standing_degree : (Nat → Int32)) (v1 : Int32) (v3 : Int32) (v4 : Int32) (v5 : Int32) (N n : Nat) (res : ((Int32) ⊕ (Int32))) (hf : itr (fun z => fX7_movesOf_l16b N t_ring_things t_ring_places t_ring_facts t_standing_degree v1 v3 z.1 z.2) n (v4, v5) = some res) (hK : Sum.elim (fun q => (∀ (H : Heap) (locs : List Loc) (ls : Array Slot), lv_has ls 6 [(4, .int q)] → St D w0 s (wX7_movesOf dA ht ht_ring ht_standing ht_fewest ht_movesTo ht_ring_cells ht_ring_places ht_ring_facts ht_standing_degree ht_standing_voice ht_standing_loud ht_standing_sharp ht_standing_hears ht_standing_tooNear t_lands t_moves t_ring_lands t_ring_things t_ring_placeCount t_ring_apart t_ring_thereFirst t_ring_places t_ring_facts t_standing_degree) H locs → W p l e R s m args below meth c H locs cells slots Q (F0 m 95 ls []))) (fun o => (∀ (H : Heap) (locs : List Loc) (pc : Nat) (ls : Array Slot), decode cX7_movesOf pc = .ok (.ireturn, 1) → St D w0 s (wX7_movesOf dA ht ht_ring ht_standing ht_fewest ht_movesTo ht_ring_cells ht_ring_places ht_ring_facts ht_standing_degree ht_standing_voice ht_standing_loud ht_standing_sharp ht_standing_hears ht_standing_tooNear t_lands t_moves t_ring_lands t_ring_things t_ring_placeCount t_ring_apart t_ring_thereFirst t_ring_places t_ring_facts t_standing_degree) H locs → W p l e R s m args below meth c H locs cells slots Q (F0 m pc ls [.int o]))) res) (hl : lv_has ls 6 [(0, .ref ht), (1, .int v1), (3, .int v3), (4, .int v4), (5, .int v5)]) (hw : St D w0 s (wX7_movesOf dA ht ht_ring ht_standing ht_fewest ht_movesTo ht_ring_cells ht_ring_places ht_ring_facts ht_standing_degree ht_standing_voice ht_standing_loud ht_standing_sharp ht_standing_hears ht_standing_tooNear t_lands t_moves t_ring_lands t_ring_things t_ring_placeCount t_ring_apart t_ring_thereFirst t_ring_places t_ring_facts t_standing_degree) H locs) : W p l e R s m args below meth c H locs cells slots Q (F0 m 16 ls []) :=
  itr_W (P := fun (z : (Int32 × Int32)) => (∀ (H : Heap) (locs : List Loc) (ls : Array Slot), lv_has ls 6 [(0, .ref ht), (1, .int v1), (3, .int v3), (4, .int z.1), (5, .int z.2)] → St D w0 s (wX7_movesOf dA ht ht_ring ht_standing ht_fewest ht_movesTo ht_ring_cells ht_ring_places ht_ring_facts ht_standing_degree ht_standing_voice ht_standing_loud ht_standing_sharp ht_standing_hears ht_standing_tooNear t_lands t_moves t_ring_lands t_ring_things t_ring_placeCount t_ring_apart t_ring_thereFirst t_ring_places t_ring_facts t_standing_degree) H locs → W p l e R s m args below meth c H locs cells slots Q (F0 m 16 ls []))) (K := fun res => Sum.elim (fun q => (∀ (H : Heap) (locs : List Loc) (ls : Array Slot), lv_has ls 6 [(4, .int q)] → St D w0 s (wX7_movesOf dA ht ht_ring ht_standing ht_fewest ht_movesTo ht_ring_cells ht_ring_places ht_ring_facts ht_standing_degree ht_standing_voice ht_standing_loud ht_standing_sharp ht_standing_hears ht_standing_tooNear t_lands t_moves t_ring_lands t_ring_things t_ring_placeCount t_ring_apart t_ring_thereFirst t_ring_places t_ring_facts t_standing_degree) H locs → W p l e R s m args below meth c H locs cells slots Q (F0 m 95 ls []))) (fun o => (∀ (H : Heap) (locs : List Loc) (pc : Nat) (ls : Array Slot), decode cX7_movesOf pc = .ok (.ireturn, 1) → St D w0 s (wX7_movesOf dA ht ht_ring ht_standing ht_fewest ht_movesTo ht_ring_cells ht_ring_places ht_ring_facts ht_standing_degree ht_standing_voice ht_standing_loud ht_standing_sharp ht_standing_hears ht_standing_tooNear t_lands t_moves t_ring_lands t_ring_things t_ring_placeCount t_ring_apart t_ring_thereFirst t_ring_places t_ring_facts t_standing_degree) H locs → W p l e R s m args below meth c H locs cells slots Q (F0 m pc ls [.int o]))) res) (fun z r hf hK H locs ls hl hw => tX7_movesOf_l16b C ht ht_ring ht_standing ht_fewest ht_movesTo ht_ring_cells ht_ring_places ht_ring_facts ht_standing_degree ht_standing_voice ht_standing_loud ht_standing_sharp ht_standing_hears ht_standing_tooNear hR t_lands t_moves t_ring_lands t_ring_things t_ring_placeCount t_ring_apart t_ring_thereFirst t_ring_places t_ring_facts t_standing_degree v1 v3 z.1 z.2 N r hf (by cases r with
    | inl r => exact hK
    | inr r => exact hK) hl hw) n _ res hf hK H locs ls hl hw
set_option maxHeartbeats 4000000 in
set_option maxRecDepth 100000 in
theorem qX7_movesOf (l : Launch) (D : va_G) (dA : Nat → ClassId) (ht ht_ring ht_standing ht_fewest ht_movesTo ht_ring_cells ht_ring_places ht_ring_facts ht_standing_degree ht_standing_voice ht_standing_loud ht_standing_sharp ht_standing_hears ht_standing_tooNear : Nat) (t_lands : Int32) (t_moves : Int32) (t_ring_lands : Int32) (t_ring_things : Int32) (t_ring_placeCount : Int32) (t_ring_apart : Int32) (t_ring_thereFirst : Int32) (t_ring_places : (Nat → Int32)) (t_ring_facts : (Nat → Int32)) (t_standing_degree : (Nat → Int32)) (x1_ : Int32) (x2_ : Int32) (N : Nat) (o : Int32) (hf : fX7_movesOf N t_ring_things t_ring_places t_ring_facts t_standing_degree x1_ x2_ = some o) : Mi l D dA yX7_movesOf (Cond.code yX7_movesOf cX7_movesOf 6 (some .int) :: wA) 1 24 [.ref ht, .int x1_, .int x2_] (wX7_movesOf dA ht ht_ring ht_standing ht_fewest ht_movesTo ht_ring_cells ht_ring_places ht_ring_facts ht_standing_degree ht_standing_voice ht_standing_loud ht_standing_sharp ht_standing_hears ht_standing_tooNear t_lands t_moves t_ring_lands t_ring_things t_ring_placeCount t_ring_apart t_ring_thereFirst t_ring_places t_ring_facts t_standing_degree) (wX7_movesOf dA ht ht_ring ht_standing ht_fewest ht_movesTo ht_ring_cells ht_ring_places ht_ring_facts ht_standing_degree ht_standing_voice ht_standing_loud ht_standing_sharp ht_standing_hears ht_standing_tooNear t_lands t_moves t_ring_lands t_ring_things t_ring_placeCount t_ring_apart t_ring_thereFirst t_ring_places t_ring_facts t_standing_degree) o := by
  intro sz
  refine M_of (cc := cX7_movesOf) (nL := 6) (ret := (some .int)) (own := RX7) (by decide +kernel) rfl (Nat.le_of_ble_eq_true rfl) ?_
  intro p e s m below meth c ls hsz C hw hl
  subst hsz
  have hR : 1 ≤ (rmm 1 24).frames ∧ 24 ≤ (rmm 1 24).locals ∧ 0 ≤ (rmm 1 24).cells ∧ 0 ≤ (rmm 1 24).slots := ⟨Nat.le_refl _, Nat.le_refl _, Nat.le_refl _, Nat.le_refl _⟩
  have hl : lv_has ls 6 [(0, .ref ht), (1, .int x1_), (2, .int x2_)] := hl
  have hx := C.1
  have hb := C.2.1
  have hml := C.2.2.1
  have hown := C.2.2.2.1
  have hts := C.2.2.2.2.1
  have hK : ∀ (H : Heap) (locs : List Loc) (pc : Nat) (ls : Array Slot), decode cX7_movesOf pc = .ok (.ireturn, 1) → St D (wX7_movesOf dA ht ht_ring ht_standing ht_fewest ht_movesTo ht_ring_cells ht_ring_places ht_ring_facts ht_standing_degree ht_standing_voice ht_standing_loud ht_standing_sharp ht_standing_hears ht_standing_tooNear t_lands t_moves t_ring_lands t_ring_things t_ring_placeCount t_ring_apart t_ring_thereFirst t_ring_places t_ring_facts t_standing_degree) s (wX7_movesOf dA ht ht_ring ht_standing ht_fewest ht_movesTo ht_ring_cells ht_ring_places ht_ring_facts ht_standing_degree ht_standing_voice ht_standing_loud ht_standing_sharp ht_standing_hears ht_standing_tooNear t_lands t_moves t_ring_lands t_ring_things t_ring_placeCount t_ring_apart t_ring_thereFirst t_ring_places t_ring_facts t_standing_degree) H locs → W p l e (rmm 1 24) s m [.ref ht, .int x1_, .int x2_].toArray below meth c H locs 0 0 (MQ below (Qi D (wX7_movesOf dA ht ht_ring ht_standing ht_fewest ht_movesTo ht_ring_cells ht_ring_places ht_ring_facts ht_standing_degree ht_standing_voice ht_standing_loud ht_standing_sharp ht_standing_hears ht_standing_tooNear t_lands t_moves t_ring_lands t_ring_things t_ring_placeCount t_ring_apart t_ring_thereFirst t_ring_places t_ring_facts t_standing_degree) (wX7_movesOf dA ht ht_ring ht_standing ht_fewest ht_movesTo ht_ring_cells ht_ring_places ht_ring_facts ht_standing_degree ht_standing_voice ht_standing_loud ht_standing_sharp ht_standing_hears ht_standing_tooNear t_lands t_moves t_ring_lands t_ring_things t_ring_placeCount t_ring_apart t_ring_thereFirst t_ring_places t_ring_facts t_standing_degree) o s.heap.size) [.ref ht, .int x1_, .int x2_].toArray s 0 0 (va_A (wX7_movesOf dA ht ht_ring ht_standing ht_fewest ht_movesTo ht_ring_cells ht_ring_places ht_ring_facts ht_standing_degree ht_standing_voice ht_standing_loud ht_standing_sharp ht_standing_hears ht_standing_tooNear t_lands t_moves t_ring_lands t_ring_things t_ring_placeCount t_ring_apart t_ring_thereFirst t_ring_places t_ring_facts t_standing_degree) s.heap.size)) (F0 m pc ls [.int o]) := fun H locs pc ls hd hw => k_iret C hw hd
  unfold fX7_movesOf at hf
  refine lv_aload_n hx hb dX7_movesOf_0 rfl (lv_at hl 0 rfl) ?_
  refine k_get C hw 0 rfl rfl wiX7 2 (by decide) wfX7_31 rfl dX7_movesOf_1 ?_
  refine k_get C hw 1 rfl rfl wiX5 1 (by decide) wfX7_56 rfl dX7_movesOf_4 ?_
  refine lv_iload_n hx hb dX7_movesOf_7 rfl (lv_at hl 2 rfl) ?_
  obtain ⟨g1, hf⟩ := gdi_r hf
  refine k_iald C hw 2 rfl g1 dX7_movesOf_8 ?_
  refine lv_topi (fun x2 ex2 => ?_)
  have hf := bnd_r ex2 hf
  refine lv_istore_n (lv' := [(3, .int x2), (0, .ref ht), (1, .int x1_), (2, .int x2_)]) hx hb dX7_movesOf_9 rfl hl (by decide) rfl (fun ls hl => ?_)
  refine lv_iconst (v := (-1 : Int32)) hx hb dX7_movesOf_10 (by decide) ?_
  refine lv_istore (lv' := [(4, .int (-1 : Int32)), (3, .int x2), (0, .ref ht), (1, .int x1_), (2, .int x2_)]) hx hb dX7_movesOf_11 hl (by decide) rfl (fun ls hl => ?_)
  refine lv_iconst (v := (0 : Int32)) hx hb dX7_movesOf_13 (by decide) ?_
  refine lv_istore (lv' := [(5, .int (0 : Int32)), (4, .int (-1 : Int32)), (3, .int x2), (0, .ref ht), (1, .int x1_), (2, .int x2_)]) hx hb dX7_movesOf_14 hl (by decide) rfl (fun ls hl => ?_)
  obtain ⟨q16, hq16, hf⟩ := bind_r hf
  cases q16 with
  | inl q16 =>
    refine tX7_movesOf_l16 C ht ht_ring ht_standing ht_fewest ht_movesTo ht_ring_cells ht_ring_places ht_ring_facts ht_standing_degree ht_standing_voice ht_standing_loud ht_standing_sharp ht_standing_hears ht_standing_tooNear hR t_lands t_moves t_ring_lands t_ring_things t_ring_placeCount t_ring_apart t_ring_thereFirst t_ring_places t_ring_facts t_standing_degree x1_ x2 (-1 : Int32) (0 : Int32) N _ _ hq16 ?_ (lv_sub hl [3, 4, 2, 1, 0] rfl) hw
    have hf := elim_l hf
    intro H locs ls hl hw
    refine lv_iload hx hb dX7_movesOf_95 (lv_at hl 0 rfl) ?_
    obtain rfl := some_r hf
    exact hK _ _ _ _ dX7_movesOf_97 hw
  | inr q16 =>
    refine tX7_movesOf_l16 C ht ht_ring ht_standing ht_fewest ht_movesTo ht_ring_cells ht_ring_places ht_ring_facts ht_standing_degree ht_standing_voice ht_standing_loud ht_standing_sharp ht_standing_hears ht_standing_tooNear hR t_lands t_moves t_ring_lands t_ring_things t_ring_placeCount t_ring_apart t_ring_thereFirst t_ring_places t_ring_facts t_standing_degree x1_ x2 (-1 : Int32) (0 : Int32) N _ _ hq16 ?_ (lv_sub hl [3, 4, 2, 1, 0] rfl) hw
    have hf := elim_r hf
    obtain rfl := some_r hf
    exact hK

/-! RingPlaces$Shares.offer(III)V -/
abbrev wX7_offer (dA : Nat → ClassId) (ht ht_ring ht_standing ht_fewest ht_movesTo : Nat) (t_lands : Int32) (t_moves : Int32) (t_fewest : (Nat → Int32)) : va_W := [(ht, .inr (7, [.int t_lands, .int t_moves, .ref ht_ring, .ref ht_standing, .ref ht_fewest, .ref ht_movesTo])), (ht_fewest, .inl (dA 0, 64, .inl t_fewest))]
def fX7_offer (t_fewest : (Nat → Int32)) (x1_ : Int32) (x2_ : Int32) (x3_ : Int32) : Option ((Nat → Int32)) := (if x3_ = (-1 : Int32) then some t_fewest else gdi x2_ 64 ((if (t_fewest x2_.toNatClampNeg) = (-1 : Int32) then some t_fewest else gdi x2_ 64 (bnd ((t_fewest x2_.toNatClampNeg) + x3_) fun x5 => gdi x1_ 64 ((if (t_fewest x1_.toNatClampNeg) = (-1 : Int32) then gdi x1_ 64 (bnd (upd t_fewest x1_.toNatClampNeg x5) fun y9 => some y9) else gdi x1_ 64 ((if (t_fewest x1_.toNatClampNeg) ≤ x5 then some t_fewest else gdi x1_ 64 (bnd (upd t_fewest x1_.toNatClampNeg x5) fun y13 => some y13)))))))))
set_option maxHeartbeats 4000000 in
set_option maxRecDepth 100000 in
theorem qX7_offer (l : Launch) (D : va_G) (dA : Nat → ClassId) (ht ht_ring ht_standing ht_fewest ht_movesTo : Nat) (t_lands : Int32) (t_moves : Int32) (t_fewest : (Nat → Int32)) (x1_ : Int32) (x2_ : Int32) (x3_ : Int32) (o : (Nat → Int32)) (hf : fX7_offer t_fewest x1_ x2_ x3_ = some o) : Mv l D dA yX7_offer (Cond.code yX7_offer cX7_offer 5 none :: wA) 0 0 [.ref ht, .int x1_, .int x2_, .int x3_] (wX7_offer dA ht ht_ring ht_standing ht_fewest ht_movesTo t_lands t_moves t_fewest) (wX7_offer dA ht ht_ring ht_standing ht_fewest ht_movesTo t_lands t_moves o) := by
  intro sz
  refine M_of (cc := cX7_offer) (nL := 5) (ret := none) (own := RX7) (by decide +kernel) rfl (Nat.le_of_ble_eq_true rfl) ?_
  intro p e s m below meth c ls hsz C hw hl
  subst hsz
  have hR : 0 ≤ (rmm 0 0).frames ∧ 0 ≤ (rmm 0 0).locals ∧ 0 ≤ (rmm 0 0).cells ∧ 0 ≤ (rmm 0 0).slots := ⟨Nat.le_refl _, Nat.le_refl _, Nat.le_refl _, Nat.le_refl _⟩
  have hl : lv_has ls 5 [(0, .ref ht), (1, .int x1_), (2, .int x2_), (3, .int x3_)] := hl
  have hx := C.1
  have hb := C.2.1
  have hml := C.2.2.1
  have hown := C.2.2.2.1
  have hts := C.2.2.2.2.1
  have hK : ∀ (H : Heap) (locs : List Loc) (pc : Nat) (ls : Array Slot), decode cX7_offer pc = .ok (.return_, 1) → St D (wX7_offer dA ht ht_ring ht_standing ht_fewest ht_movesTo t_lands t_moves t_fewest) s (wX7_offer dA ht ht_ring ht_standing ht_fewest ht_movesTo t_lands t_moves o) H locs → W p l e (rmm 0 0) s m [.ref ht, .int x1_, .int x2_, .int x3_].toArray below meth c H locs 0 0 (MQ below (Qv D (wX7_offer dA ht ht_ring ht_standing ht_fewest ht_movesTo t_lands t_moves t_fewest) (wX7_offer dA ht ht_ring ht_standing ht_fewest ht_movesTo t_lands t_moves o) s.heap.size) [.ref ht, .int x1_, .int x2_, .int x3_].toArray s 0 0 (va_A (wX7_offer dA ht ht_ring ht_standing ht_fewest ht_movesTo t_lands t_moves t_fewest) s.heap.size)) (F0 m pc ls []) := fun H locs pc ls hd hw => k_vret C hw hd
  unfold fX7_offer at hf
  refine lv_iload_n hx hb dX7_offer_0 rfl (lv_at hl 3 rfl) ?_
  refine lv_iconst (v := (-1 : Int32)) hx hb dX7_offer_1 (by decide) ?_
  refine lv_icmp_eq (tgt := 15) hx hb dX7_offer_2 (by decide) (fun c1 => ?_) (fun c1 => ?_)
  · have hf := ite_t c1 hf
    obtain rfl := some_r hf
    exact hK _ _ _ _ dX7_offer_15 hw
  · have hf := ite_f c1 hf
    refine lv_aload_n hx hb dX7_offer_5 rfl (lv_at hl 0 rfl) ?_
    refine k_get C hw 0 rfl rfl wiX7 4 (by decide) wfX7_18 rfl dX7_offer_6 ?_
    refine lv_iload_n hx hb dX7_offer_9 rfl (lv_at hl 2 rfl) ?_
    obtain ⟨g2, hf⟩ := gdi_r hf
    refine k_iald C hw 1 rfl g2 dX7_offer_10 ?_
    refine lv_iconst (v := (-1 : Int32)) hx hb dX7_offer_11 (by decide) ?_
    refine lv_icmp_ne (tgt := 16) hx hb dX7_offer_12 (by decide) (fun c3 => ?_) (fun c3 => ?_)
    · have hf := ite_f c3 hf
      refine lv_aload_n hx hb dX7_offer_16 rfl (lv_at hl 0 rfl) ?_
      refine k_get C hw 0 rfl rfl wiX7 4 (by decide) wfX7_18 rfl dX7_offer_17 ?_
      refine lv_iload_n hx hb dX7_offer_20 rfl (lv_at hl 2 rfl) ?_
      obtain ⟨g4, hf⟩ := gdi_r hf
      refine k_iald C hw 1 rfl g4 dX7_offer_21 ?_
      refine lv_iload_n hx hb dX7_offer_22 rfl (lv_at hl 3 rfl) ?_
      refine lv_iadd hx hb dX7_offer_23 ?_
      refine lv_topi (fun x5 ex5 => ?_)
      have hf := bnd_r ex5 hf
      refine lv_istore (lv' := [(4, .int x5), (0, .ref ht), (1, .int x1_), (2, .int x2_), (3, .int x3_)]) hx hb dX7_offer_24 hl (by decide) rfl (fun ls hl => ?_)
      refine lv_aload_n hx hb dX7_offer_26 rfl (lv_at hl 1 rfl) ?_
      refine k_get C hw 0 rfl rfl wiX7 4 (by decide) wfX7_18 rfl dX7_offer_27 ?_
      refine lv_iload_n hx hb dX7_offer_30 rfl (lv_at hl 2 rfl) ?_
      obtain ⟨g6, hf⟩ := gdi_r hf
      refine k_iald C hw 1 rfl g6 dX7_offer_31 ?_
      refine lv_iconst (v := (-1 : Int32)) hx hb dX7_offer_32 (by decide) ?_
      refine lv_icmp_eq (tgt := 47) hx hb dX7_offer_33 (by decide) (fun c7 => ?_) (fun c7 => ?_)
      · have hf := ite_t c7 hf
        refine lv_aload_n hx hb dX7_offer_47 rfl (lv_at hl 1 rfl) ?_
        refine k_get C hw 0 rfl rfl wiX7 4 (by decide) wfX7_18 rfl dX7_offer_48 ?_
        refine lv_iload_n hx hb dX7_offer_51 rfl (lv_at hl 2 rfl) ?_
        refine lv_iload hx hb dX7_offer_52 (lv_at hl 0 rfl) ?_
        obtain ⟨g8, hf⟩ := gdi_r hf
        obtain ⟨y9, ey9⟩ : ∃ z : Nat → Int32, z = upd t_fewest x1_.toNatClampNeg x5 := ⟨_, rfl⟩
        have hf := bnd_r ey9 hf
        refine k_iast C hw 1 rfl g8 dX7_offer_54 y9 ey9 (wX7_offer dA ht ht_ring ht_standing ht_fewest ht_movesTo t_lands t_moves y9) rfl (fun H locs hw => ?_)
        obtain rfl := some_r hf
        exact hK _ _ _ _ dX7_offer_55 hw
      · have hf := ite_f c7 hf
        refine lv_iload hx hb dX7_offer_36 (lv_at hl 0 rfl) ?_
        refine lv_aload_n hx hb dX7_offer_38 rfl (lv_at hl 1 rfl) ?_
        refine k_get C hw 0 rfl rfl wiX7 4 (by decide) wfX7_18 rfl dX7_offer_39 ?_
        refine lv_iload_n hx hb dX7_offer_42 rfl (lv_at hl 2 rfl) ?_
        obtain ⟨g10, hf⟩ := gdi_r hf
        refine k_iald C hw 1 rfl g10 dX7_offer_43 ?_
        refine lv_icmp_ge (tgt := 55) hx hb dX7_offer_44 (by decide) (fun c11 => ?_) (fun c11 => ?_)
        · have hf := ite_t c11 hf
          obtain rfl := some_r hf
          exact hK _ _ _ _ dX7_offer_55 hw
        · have hf := ite_f c11 hf
          refine lv_aload_n hx hb dX7_offer_47 rfl (lv_at hl 1 rfl) ?_
          refine k_get C hw 0 rfl rfl wiX7 4 (by decide) wfX7_18 rfl dX7_offer_48 ?_
          refine lv_iload_n hx hb dX7_offer_51 rfl (lv_at hl 2 rfl) ?_
          refine lv_iload hx hb dX7_offer_52 (lv_at hl 0 rfl) ?_
          obtain ⟨g12, hf⟩ := gdi_r hf
          obtain ⟨y13, ey13⟩ : ∃ z : Nat → Int32, z = upd t_fewest x1_.toNatClampNeg x5 := ⟨_, rfl⟩
          have hf := bnd_r ey13 hf
          refine k_iast C hw 1 rfl g12 dX7_offer_54 y13 ey13 (wX7_offer dA ht ht_ring ht_standing ht_fewest ht_movesTo t_lands t_moves y13) rfl (fun H locs hw => ?_)
          obtain rfl := some_r hf
          exact hK _ _ _ _ dX7_offer_55 hw
    · have hf := ite_t c3 hf
      obtain rfl := some_r hf
      exact hK _ _ _ _ dX7_offer_15 hw

/-! RingPlaces$Shares.addLand()V -/
abbrev wX7_addLand (dA : Nat → ClassId) (ht ht_ring ht_standing ht_fewest ht_movesTo ht_ring_cells ht_ring_places ht_ring_facts : Nat) (t_lands : Int32) (t_moves : Int32) (t_ring_lands : Int32) (t_ring_things : Int32) (t_ring_placeCount : Int32) (t_ring_apart : Int32) (t_ring_thereFirst : Int32) (t_movesTo : (Nat → Int32)) (t_fewest : (Nat → Int32)) : va_W := [(ht, .inr (7, [.int t_lands, .int t_moves, .ref ht_ring, .ref ht_standing, .ref ht_fewest, .ref ht_movesTo])), (ht_ring, .inr (5, [.ref ht_ring_cells, .ref ht_ring_places, .int t_ring_lands, .int t_ring_things, .int t_ring_placeCount, .int t_ring_apart, .int t_ring_thereFirst, .ref ht_ring_facts])), (ht_movesTo, .inl (dA 0, 6, .inl t_movesTo)), (ht_fewest, .inl (dA 0, 64, .inl t_fewest))]
def fX7_addLand_l9b (N : Nat) (t_ring_placeCount : Int32) (t_movesTo : (Nat → Int32)) (v1 : Int32) (t_fewest : (Nat → Int32)) (v2 : Int32) : Option (((Nat → Int32) × Int32) ⊕ ((Nat → Int32))) := (if t_ring_placeCount ≤ v2 then some (.inr t_fewest) else (if ((v1 >>> (v2 &&& 31)) &&& (1 : Int32)) = 0 then bnd (v2 + (1 : Int32)) fun x4 => some (.inl (t_fewest, x4)) else gdi v2 6 ((fX7_offer t_fewest v1 (v1 ^^^ ((1 : Int32) <<< (v2 &&& 31))) (t_movesTo v2.toNatClampNeg)).bind fun o6 => bnd (v2 + (1 : Int32)) fun x7 => some (.inl (o6, x7)))))
def fX7_addLand_l3b (N : Nat) (t_ring_placeCount : Int32) (t_movesTo : (Nat → Int32)) (t_fewest : (Nat → Int32)) (v1 : Int32) : Option (((Nat → Int32) × Int32) ⊕ ((Nat → Int32))) := (if v1 ≤ 0 then some (.inr t_fewest) else (itr (fun z => fX7_addLand_l9b N t_ring_placeCount t_movesTo v1 z.1 z.2) N (t_fewest, (0 : Int32))).bind fun q8 => bnd (v1 + (-1 : Int32)) fun x9 => some (.inl (q8, x9)))
def fX7_addLand (N : Nat) (t_ring_placeCount : Int32) (t_movesTo : (Nat → Int32)) (t_fewest : (Nat → Int32))  : Option ((Nat → Int32)) := (itr (fun z => fX7_addLand_l3b N t_ring_placeCount t_movesTo z.1 z.2) N (t_fewest, (63 : Int32))).bind fun q10 => some q10
set_option maxHeartbeats 4000000 in
set_option maxRecDepth 100000 in
theorem tX7_addLand_l9b {p : Program} {l : Launch} {e : Env} {R : Room} {s : State} {m : MethodId} {args : Array Value} {below : List Frame} {meth : Method} {c : Code} {D : va_G} {dA : Nat → ClassId} {w0 : va_W} {Q : State → Prop} {H : Heap} {locs : List Loc} {ls : Array Slot} {cells slots : Nat} (C : CX p s m args meth c cX7_addLand 3 none RX7 D dA) (ht ht_ring ht_standing ht_fewest ht_movesTo ht_ring_cells ht_ring_places ht_ring_facts : Nat) (hR : 1 ≤ R.frames ∧ 24 ≤ R.locals ∧ cells ≤ R.cells ∧ slots ≤ R.slots)  (t_lands : Int32) (t_moves : Int32) (t_ring_lands : Int32) (t_ring_things : Int32) (t_ring_placeCount : Int32) (t_ring_apart : Int32) (t_ring_thereFirst : Int32) (t_movesTo : (Nat → Int32)) (t_fewest : (Nat → Int32)) (v1 : Int32) (v2 : Int32) (N : Nat) (res : (((Nat → Int32) × Int32) ⊕ ((Nat → Int32)))) (hf : fX7_addLand_l9b N t_ring_placeCount t_movesTo v1 t_fewest v2 = some res) (hK : Sum.elim (fun z => (∀ (H : Heap) (locs : List Loc) (ls : Array Slot), lv_has ls 3 [(0, .ref ht), (1, .int v1), (2, .int z.2)] → St D w0 s (wX7_addLand dA ht ht_ring ht_standing ht_fewest ht_movesTo ht_ring_cells ht_ring_places ht_ring_facts t_lands t_moves t_ring_lands t_ring_things t_ring_placeCount t_ring_apart t_ring_thereFirst t_movesTo z.1) H locs → W p l e R s m args below meth c H locs cells slots Q (F0 m 9 ls []))) (fun r => (∀ (H : Heap) (locs : List Loc) (ls : Array Slot), lv_has ls 3 [(0, .ref ht), (1, .int v1)] → St D w0 s (wX7_addLand dA ht ht_ring ht_standing ht_fewest ht_movesTo ht_ring_cells ht_ring_places ht_ring_facts t_lands t_moves t_ring_lands t_ring_things t_ring_placeCount t_ring_apart t_ring_thereFirst t_movesTo r) H locs → W p l e R s m args below meth c H locs cells slots Q (F0 m 50 ls []))) res) (hl : lv_has ls 3 [(0, .ref ht), (1, .int v1), (2, .int v2)]) (hw : St D w0 s (wX7_addLand dA ht ht_ring ht_standing ht_fewest ht_movesTo ht_ring_cells ht_ring_places ht_ring_facts t_lands t_moves t_ring_lands t_ring_things t_ring_placeCount t_ring_apart t_ring_thereFirst t_movesTo t_fewest) H locs) : W p l e R s m args below meth c H locs cells slots Q (F0 m 9 ls []) := by
  have hx := C.1
  have hb := C.2.1
  have hml := C.2.2.1
  have hown := C.2.2.2.1
  have hts := C.2.2.2.2.1
  unfold fX7_addLand_l9b at hf
  refine lv_iload_n hx hb dX7_addLand_9 rfl (lv_at hl 2 rfl) ?_
  refine lv_aload_n hx hb dX7_addLand_10 rfl (lv_at hl 0 rfl) ?_
  refine k_get C hw 0 rfl rfl wiX7 2 (by decide) wfX7_31 rfl dX7_addLand_11 ?_
  refine k_get C hw 1 rfl rfl wiX5 4 (by decide) wfX7_39 rfl dX7_addLand_14 ?_
  refine lv_icmp_ge (tgt := 50) hx hb dX7_addLand_17 (by decide) (fun c2 => ?_) (fun c2 => ?_)
  · have hf := ite_t c2 hf
    obtain rfl := some_r hf
    exact hK _ _ _ (lv_sub hl [0, 1] rfl) hw
  · have hf := ite_f c2 hf
    refine lv_iload_n hx hb dX7_addLand_20 rfl (lv_at hl 1 rfl) ?_
    refine lv_iload_n hx hb dX7_addLand_21 rfl (lv_at hl 2 rfl) ?_
    refine lv_ishr hx hb dX7_addLand_22 ?_
    refine lv_iconst (v := (1 : Int32)) hx hb dX7_addLand_23 (by decide) ?_
    refine lv_iand hx hb dX7_addLand_24 ?_
    refine lv_if_eq (tgt := 44) hx hb dX7_addLand_25 (by decide) (fun c3 => ?_) (fun c3 => ?_)
    · have hf := ite_t c3 hf
      obtain ⟨x4, ex4⟩ : ∃ y : Int32, y = v2 + (1 : Int32) := ⟨_, rfl⟩
      have hf := bnd_r ex4 hf
      refine lv_iinc (v := x4) (lv' := [(2, .int x4), (0, .ref ht), (1, .int v1)]) hx hb dX7_addLand_44 hl (k := 2) rfl (by rw [ex4]; rfl) (by decide) rfl (fun ls hl => ?_)
      refine lv_goto (tgt := 9) hx hb dX7_addLand_47 (by decide) ?_
      obtain rfl := some_r hf
      exact hK _ _ _ (lv_sub hl [1, 2, 0] rfl) hw
    · have hf := ite_f c3 hf
      refine lv_aload_n hx hb dX7_addLand_28 rfl (lv_at hl 0 rfl) ?_
      refine lv_iload_n hx hb dX7_addLand_29 rfl (lv_at hl 1 rfl) ?_
      refine lv_iload_n hx hb dX7_addLand_30 rfl (lv_at hl 1 rfl) ?_
      refine lv_iconst (v := (1 : Int32)) hx hb dX7_addLand_31 (by decide) ?_
      refine lv_iload_n hx hb dX7_addLand_32 rfl (lv_at hl 2 rfl) ?_
      refine lv_ishl hx hb dX7_addLand_33 ?_
      refine lv_ixor hx hb dX7_addLand_34 ?_
      refine lv_aload_n hx hb dX7_addLand_35 rfl (lv_at hl 0 rfl) ?_
      refine k_get C hw 0 rfl rfl wiX7 5 (by decide) wfX7_22 rfl dX7_addLand_36 ?_
      refine lv_iload_n hx hb dX7_addLand_39 rfl (lv_at hl 2 rfl) ?_
      obtain ⟨g5, hf⟩ := gdi_r hf
      refine k_iald C hw 2 rfl g5 dX7_addLand_40 ?_
      obtain ⟨o6, ho6, hf⟩ := bind_r hf
      refine k_callVv C hw (n := 3) (As := [.int v1, .int (v1 ^^^ ((1 : Int32) <<< (v2 &&& 31))), .int (t_movesTo v2.toNatClampNeg)]) (w1 := (wX7_addLand dA ht ht_ring ht_standing ht_fewest ht_movesTo ht_ring_cells ht_ring_places ht_ring_facts t_lands t_moves t_ring_lands t_ring_things t_ring_placeCount t_ring_apart t_ring_thereFirst t_movesTo o6)) (wr := [(ht_ring, .inr (5, [.ref ht_ring_cells, .ref ht_ring_places, .int t_ring_lands, .int t_ring_things, .int t_ring_placeCount, .int t_ring_apart, .int t_ring_thereFirst, .ref ht_ring_facts])), (ht_movesTo, .inl (dA 0, 6, .inl t_movesTo))]) [0, 3] [1, 2] [2, 0, 1, 3] rfl rfl (by decide) (by decide) (by decide) rfl (by decide) (qX7_offer l D dA ht ht_ring ht_standing ht_fewest ht_movesTo t_lands t_moves t_fewest v1 (v1 ^^^ ((1 : Int32) <<< (v2 &&& 31))) (t_movesTo v2.toNatClampNeg) _ ho6) wlX7_52 wmX7_offer wvX7_offer wnX7 wcX7_offer rfl (by decide +kernel) ⟨Nat.le_trans (by decide) hR.1, Nat.le_trans (by decide) hR.2.1⟩ hR.2.2 rfl 0 rfl rfl hl.1 (Nat.le_of_ble_eq_true rfl) dX7_addLand_41 rfl (fun H locs hw => ?_)
      obtain ⟨x7, ex7⟩ : ∃ y : Int32, y = v2 + (1 : Int32) := ⟨_, rfl⟩
      have hf := bnd_r ex7 hf
      refine lv_iinc (v := x7) (lv' := [(2, .int x7), (0, .ref ht), (1, .int v1)]) hx hb dX7_addLand_44 hl (k := 2) rfl (by rw [ex7]; rfl) (by decide) rfl (fun ls hl => ?_)
      refine lv_goto (tgt := 9) hx hb dX7_addLand_47 (by decide) ?_
      obtain rfl := some_r hf
      exact hK _ _ _ (lv_sub hl [1, 2, 0] rfl) hw
set_option maxHeartbeats 4000000 in
theorem tX7_addLand_l9 {p : Program} {l : Launch} {e : Env} {R : Room} {s : State} {m : MethodId} {args : Array Value} {below : List Frame} {meth : Method} {c : Code} {D : va_G} {dA : Nat → ClassId} {w0 : va_W} {Q : State → Prop} {H : Heap} {locs : List Loc} {ls : Array Slot} {cells slots : Nat} (C : CX p s m args meth c cX7_addLand 3 none RX7 D dA) (ht ht_ring ht_standing ht_fewest ht_movesTo ht_ring_cells ht_ring_places ht_ring_facts : Nat) (hR : 1 ≤ R.frames ∧ 24 ≤ R.locals ∧ cells ≤ R.cells ∧ slots ≤ R.slots)  (t_lands : Int32) (t_moves : Int32) (t_ring_lands : Int32) (t_ring_things : Int32) (t_ring_placeCount : Int32) (t_ring_apart : Int32) (t_ring_thereFirst : Int32) (t_movesTo : (Nat → Int32)) (t_fewest : (Nat → Int32)) (v1 : Int32) (v2 : Int32) (N n : Nat) (res : ((Nat → Int32))) (hf : itr (fun z => fX7_addLand_l9b N t_ring_placeCount t_movesTo v1 z.1 z.2) n (t_fewest, v2) = some res) (hK : (∀ (H : Heap) (locs : List Loc) (ls : Array Slot), lv_has ls 3 [(0, .ref ht), (1, .int v1)] → St D w0 s (wX7_addLand dA ht ht_ring ht_standing ht_fewest ht_movesTo ht_ring_cells ht_ring_places ht_ring_facts t_lands t_moves t_ring_lands t_ring_things t_ring_placeCount t_ring_apart t_ring_thereFirst t_movesTo res) H locs → W p l e R s m args below meth c H locs cells slots Q (F0 m 50 ls []))) (hl : lv_has ls 3 [(0, .ref ht), (1, .int v1), (2, .int v2)]) (hw : St D w0 s (wX7_addLand dA ht ht_ring ht_standing ht_fewest ht_movesTo ht_ring_cells ht_ring_places ht_ring_facts t_lands t_moves t_ring_lands t_ring_things t_ring_placeCount t_ring_apart t_ring_thereFirst t_movesTo t_fewest) H locs) : W p l e R s m args below meth c H locs cells slots Q (F0 m 9 ls []) :=
  itr_W (P := fun (z : ((Nat → Int32) × Int32)) => (∀ (H : Heap) (locs : List Loc) (ls : Array Slot), lv_has ls 3 [(0, .ref ht), (1, .int v1), (2, .int z.2)] → St D w0 s (wX7_addLand dA ht ht_ring ht_standing ht_fewest ht_movesTo ht_ring_cells ht_ring_places ht_ring_facts t_lands t_moves t_ring_lands t_ring_things t_ring_placeCount t_ring_apart t_ring_thereFirst t_movesTo z.1) H locs → W p l e R s m args below meth c H locs cells slots Q (F0 m 9 ls []))) (K := fun res => (∀ (H : Heap) (locs : List Loc) (ls : Array Slot), lv_has ls 3 [(0, .ref ht), (1, .int v1)] → St D w0 s (wX7_addLand dA ht ht_ring ht_standing ht_fewest ht_movesTo ht_ring_cells ht_ring_places ht_ring_facts t_lands t_moves t_ring_lands t_ring_things t_ring_placeCount t_ring_apart t_ring_thereFirst t_movesTo res) H locs → W p l e R s m args below meth c H locs cells slots Q (F0 m 50 ls []))) (fun z r hf hK H locs ls hl hw => tX7_addLand_l9b C ht ht_ring ht_standing ht_fewest ht_movesTo ht_ring_cells ht_ring_places ht_ring_facts hR t_lands t_moves t_ring_lands t_ring_things t_ring_placeCount t_ring_apart t_ring_thereFirst t_movesTo z.1 v1 z.2 N r hf (by cases r with
    | inl r => exact hK
    | inr r => exact hK) hl hw) n _ res hf hK H locs ls hl hw
set_option maxHeartbeats 4000000 in
set_option maxRecDepth 100000 in
theorem tX7_addLand_l3b {p : Program} {l : Launch} {e : Env} {R : Room} {s : State} {m : MethodId} {args : Array Value} {below : List Frame} {meth : Method} {c : Code} {D : va_G} {dA : Nat → ClassId} {w0 : va_W} {Q : State → Prop} {H : Heap} {locs : List Loc} {ls : Array Slot} {cells slots : Nat} (C : CX p s m args meth c cX7_addLand 3 none RX7 D dA) (ht ht_ring ht_standing ht_fewest ht_movesTo ht_ring_cells ht_ring_places ht_ring_facts : Nat) (hR : 1 ≤ R.frames ∧ 24 ≤ R.locals ∧ cells ≤ R.cells ∧ slots ≤ R.slots)  (t_lands : Int32) (t_moves : Int32) (t_ring_lands : Int32) (t_ring_things : Int32) (t_ring_placeCount : Int32) (t_ring_apart : Int32) (t_ring_thereFirst : Int32) (t_movesTo : (Nat → Int32)) (t_fewest : (Nat → Int32)) (v1 : Int32) (N : Nat) (res : (((Nat → Int32) × Int32) ⊕ ((Nat → Int32)))) (hf : fX7_addLand_l3b N t_ring_placeCount t_movesTo t_fewest v1 = some res) (hK : Sum.elim (fun z => (∀ (H : Heap) (locs : List Loc) (ls : Array Slot), lv_has ls 3 [(0, .ref ht), (1, .int z.2)] → St D w0 s (wX7_addLand dA ht ht_ring ht_standing ht_fewest ht_movesTo ht_ring_cells ht_ring_places ht_ring_facts t_lands t_moves t_ring_lands t_ring_things t_ring_placeCount t_ring_apart t_ring_thereFirst t_movesTo z.1) H locs → W p l e R s m args below meth c H locs cells slots Q (F0 m 3 ls []))) (fun r => (∀ (H : Heap) (locs : List Loc) (ls : Array Slot), lv_has ls 3 [] → St D w0 s (wX7_addLand dA ht ht_ring ht_standing ht_fewest ht_movesTo ht_ring_cells ht_ring_places ht_ring_facts t_lands t_moves t_ring_lands t_ring_things t_ring_placeCount t_ring_apart t_ring_thereFirst t_movesTo r) H locs → W p l e R s m args below meth c H locs cells slots Q (F0 m 56 ls []))) res) (hl : lv_has ls 3 [(0, .ref ht), (1, .int v1)]) (hw : St D w0 s (wX7_addLand dA ht ht_ring ht_standing ht_fewest ht_movesTo ht_ring_cells ht_ring_places ht_ring_facts t_lands t_moves t_ring_lands t_ring_things t_ring_placeCount t_ring_apart t_ring_thereFirst t_movesTo t_fewest) H locs) : W p l e R s m args below meth c H locs cells slots Q (F0 m 3 ls []) := by
  have hx := C.1
  have hb := C.2.1
  have hml := C.2.2.1
  have hown := C.2.2.2.1
  have hts := C.2.2.2.2.1
  unfold fX7_addLand_l3b at hf
  refine lv_iload_n hx hb dX7_addLand_3 rfl (lv_at hl 1 rfl) ?_
  refine lv_if_le (tgt := 56) hx hb dX7_addLand_4 (by decide) (fun c1 => ?_) (fun c1 => ?_)
  · have hf := ite_t c1 hf
    obtain rfl := some_r hf
    exact hK _ _ _ (lv_sub hl [] rfl) hw
  · have hf := ite_f c1 hf
    refine lv_iconst (v := (0 : Int32)) hx hb dX7_addLand_7 (by decide) ?_
    refine lv_istore_n (lv' := [(2, .int (0 : Int32)), (0, .ref ht), (1, .int v1)]) hx hb dX7_addLand_8 rfl hl (by decide) rfl (fun ls hl => ?_)
    obtain ⟨q8, hq8, hf⟩ := bind_r hf
    refine tX7_addLand_l9 C ht ht_ring ht_standing ht_fewest ht_movesTo ht_ring_cells ht_ring_places ht_ring_facts hR t_lands t_moves t_ring_lands t_ring_things t_ring_placeCount t_ring_apart t_ring_thereFirst t_movesTo t_fewest v1 (0 : Int32) N _ _ hq8 ?_ (lv_sub hl [1, 2, 0] rfl) hw
    intro H locs ls hl hw
    obtain ⟨x9, ex9⟩ : ∃ y : Int32, y = v1 + (-1 : Int32) := ⟨_, rfl⟩
    have hf := bnd_r ex9 hf
    refine lv_iinc (v := x9) (lv' := [(1, .int x9), (0, .ref ht)]) hx hb dX7_addLand_50 hl (k := 1) rfl (by rw [ex9]; rfl) (by decide) rfl (fun ls hl => ?_)
    refine lv_goto (tgt := 3) hx hb dX7_addLand_53 (by decide) ?_
    obtain rfl := some_r hf
    exact hK _ _ _ (lv_sub hl [1, 0] rfl) hw
set_option maxHeartbeats 4000000 in
theorem tX7_addLand_l3 {p : Program} {l : Launch} {e : Env} {R : Room} {s : State} {m : MethodId} {args : Array Value} {below : List Frame} {meth : Method} {c : Code} {D : va_G} {dA : Nat → ClassId} {w0 : va_W} {Q : State → Prop} {H : Heap} {locs : List Loc} {ls : Array Slot} {cells slots : Nat} (C : CX p s m args meth c cX7_addLand 3 none RX7 D dA) (ht ht_ring ht_standing ht_fewest ht_movesTo ht_ring_cells ht_ring_places ht_ring_facts : Nat) (hR : 1 ≤ R.frames ∧ 24 ≤ R.locals ∧ cells ≤ R.cells ∧ slots ≤ R.slots)  (t_lands : Int32) (t_moves : Int32) (t_ring_lands : Int32) (t_ring_things : Int32) (t_ring_placeCount : Int32) (t_ring_apart : Int32) (t_ring_thereFirst : Int32) (t_movesTo : (Nat → Int32)) (t_fewest : (Nat → Int32)) (v1 : Int32) (N n : Nat) (res : ((Nat → Int32))) (hf : itr (fun z => fX7_addLand_l3b N t_ring_placeCount t_movesTo z.1 z.2) n (t_fewest, v1) = some res) (hK : (∀ (H : Heap) (locs : List Loc) (ls : Array Slot), lv_has ls 3 [] → St D w0 s (wX7_addLand dA ht ht_ring ht_standing ht_fewest ht_movesTo ht_ring_cells ht_ring_places ht_ring_facts t_lands t_moves t_ring_lands t_ring_things t_ring_placeCount t_ring_apart t_ring_thereFirst t_movesTo res) H locs → W p l e R s m args below meth c H locs cells slots Q (F0 m 56 ls []))) (hl : lv_has ls 3 [(0, .ref ht), (1, .int v1)]) (hw : St D w0 s (wX7_addLand dA ht ht_ring ht_standing ht_fewest ht_movesTo ht_ring_cells ht_ring_places ht_ring_facts t_lands t_moves t_ring_lands t_ring_things t_ring_placeCount t_ring_apart t_ring_thereFirst t_movesTo t_fewest) H locs) : W p l e R s m args below meth c H locs cells slots Q (F0 m 3 ls []) :=
  itr_W (P := fun (z : ((Nat → Int32) × Int32)) => (∀ (H : Heap) (locs : List Loc) (ls : Array Slot), lv_has ls 3 [(0, .ref ht), (1, .int z.2)] → St D w0 s (wX7_addLand dA ht ht_ring ht_standing ht_fewest ht_movesTo ht_ring_cells ht_ring_places ht_ring_facts t_lands t_moves t_ring_lands t_ring_things t_ring_placeCount t_ring_apart t_ring_thereFirst t_movesTo z.1) H locs → W p l e R s m args below meth c H locs cells slots Q (F0 m 3 ls []))) (K := fun res => (∀ (H : Heap) (locs : List Loc) (ls : Array Slot), lv_has ls 3 [] → St D w0 s (wX7_addLand dA ht ht_ring ht_standing ht_fewest ht_movesTo ht_ring_cells ht_ring_places ht_ring_facts t_lands t_moves t_ring_lands t_ring_things t_ring_placeCount t_ring_apart t_ring_thereFirst t_movesTo res) H locs → W p l e R s m args below meth c H locs cells slots Q (F0 m 56 ls []))) (fun z r hf hK H locs ls hl hw => tX7_addLand_l3b C ht ht_ring ht_standing ht_fewest ht_movesTo ht_ring_cells ht_ring_places ht_ring_facts hR t_lands t_moves t_ring_lands t_ring_things t_ring_placeCount t_ring_apart t_ring_thereFirst t_movesTo z.1 z.2 N r hf (by cases r with
    | inl r => exact hK
    | inr r => exact hK) hl hw) n _ res hf hK H locs ls hl hw
set_option maxHeartbeats 4000000 in
set_option maxRecDepth 100000 in
theorem qX7_addLand (l : Launch) (D : va_G) (dA : Nat → ClassId) (ht ht_ring ht_standing ht_fewest ht_movesTo ht_ring_cells ht_ring_places ht_ring_facts : Nat) (t_lands : Int32) (t_moves : Int32) (t_ring_lands : Int32) (t_ring_things : Int32) (t_ring_placeCount : Int32) (t_ring_apart : Int32) (t_ring_thereFirst : Int32) (t_movesTo : (Nat → Int32)) (t_fewest : (Nat → Int32))  (N : Nat) (o : (Nat → Int32)) (hf : fX7_addLand N t_ring_placeCount t_movesTo t_fewest = some o) : Mv l D dA yX7_addLand (Cond.code yX7_addLand cX7_addLand 3 none :: wA) 1 24 [.ref ht] (wX7_addLand dA ht ht_ring ht_standing ht_fewest ht_movesTo ht_ring_cells ht_ring_places ht_ring_facts t_lands t_moves t_ring_lands t_ring_things t_ring_placeCount t_ring_apart t_ring_thereFirst t_movesTo t_fewest) (wX7_addLand dA ht ht_ring ht_standing ht_fewest ht_movesTo ht_ring_cells ht_ring_places ht_ring_facts t_lands t_moves t_ring_lands t_ring_things t_ring_placeCount t_ring_apart t_ring_thereFirst t_movesTo o) := by
  intro sz
  refine M_of (cc := cX7_addLand) (nL := 3) (ret := none) (own := RX7) (by decide +kernel) rfl (Nat.le_of_ble_eq_true rfl) ?_
  intro p e s m below meth c ls hsz C hw hl
  subst hsz
  have hR : 1 ≤ (rmm 1 24).frames ∧ 24 ≤ (rmm 1 24).locals ∧ 0 ≤ (rmm 1 24).cells ∧ 0 ≤ (rmm 1 24).slots := ⟨Nat.le_refl _, Nat.le_refl _, Nat.le_refl _, Nat.le_refl _⟩
  have hl : lv_has ls 3 [(0, .ref ht)] := hl
  have hx := C.1
  have hb := C.2.1
  have hml := C.2.2.1
  have hown := C.2.2.2.1
  have hts := C.2.2.2.2.1
  have hK : ∀ (H : Heap) (locs : List Loc) (pc : Nat) (ls : Array Slot), decode cX7_addLand pc = .ok (.return_, 1) → St D (wX7_addLand dA ht ht_ring ht_standing ht_fewest ht_movesTo ht_ring_cells ht_ring_places ht_ring_facts t_lands t_moves t_ring_lands t_ring_things t_ring_placeCount t_ring_apart t_ring_thereFirst t_movesTo t_fewest) s (wX7_addLand dA ht ht_ring ht_standing ht_fewest ht_movesTo ht_ring_cells ht_ring_places ht_ring_facts t_lands t_moves t_ring_lands t_ring_things t_ring_placeCount t_ring_apart t_ring_thereFirst t_movesTo o) H locs → W p l e (rmm 1 24) s m [.ref ht].toArray below meth c H locs 0 0 (MQ below (Qv D (wX7_addLand dA ht ht_ring ht_standing ht_fewest ht_movesTo ht_ring_cells ht_ring_places ht_ring_facts t_lands t_moves t_ring_lands t_ring_things t_ring_placeCount t_ring_apart t_ring_thereFirst t_movesTo t_fewest) (wX7_addLand dA ht ht_ring ht_standing ht_fewest ht_movesTo ht_ring_cells ht_ring_places ht_ring_facts t_lands t_moves t_ring_lands t_ring_things t_ring_placeCount t_ring_apart t_ring_thereFirst t_movesTo o) s.heap.size) [.ref ht].toArray s 0 0 (va_A (wX7_addLand dA ht ht_ring ht_standing ht_fewest ht_movesTo ht_ring_cells ht_ring_places ht_ring_facts t_lands t_moves t_ring_lands t_ring_things t_ring_placeCount t_ring_apart t_ring_thereFirst t_movesTo t_fewest) s.heap.size)) (F0 m pc ls []) := fun H locs pc ls hd hw => k_vret C hw hd
  unfold fX7_addLand at hf
  refine lv_bipush (v := (63 : Int32)) hx hb dX7_addLand_0 (by decide) ?_
  refine lv_istore_n (lv' := [(1, .int (63 : Int32)), (0, .ref ht)]) hx hb dX7_addLand_2 rfl hl (by decide) rfl (fun ls hl => ?_)
  obtain ⟨q10, hq10, hf⟩ := bind_r hf
  refine tX7_addLand_l3 C ht ht_ring ht_standing ht_fewest ht_movesTo ht_ring_cells ht_ring_places ht_ring_facts hR t_lands t_moves t_ring_lands t_ring_things t_ring_placeCount t_ring_apart t_ring_thereFirst t_movesTo t_fewest (63 : Int32) N _ _ hq10 ?_ (lv_sub hl [1, 0] rfl) hw
  intro H locs ls hl hw
  obtain rfl := some_r hf
  exact hK _ _ _ _ dX7_addLand_56 hw

/-! RingPlaces$Shares.pickBest()V -/
abbrev wX7_pickBest (dA : Nat → ClassId) (ht ht_ring ht_standing ht_fewest ht_movesTo : Nat) (t_lands : Int32) (t_moves : Int32) (t_fewest : (Nat → Int32)) : va_W := [(ht, .inr (7, [.int t_lands, .int t_moves, .ref ht_ring, .ref ht_standing, .ref ht_fewest, .ref ht_movesTo])), (ht_fewest, .inl (dA 0, 64, .inl t_fewest))]
def fX7_pickBest_j65 (N : Nat) (t_lands : Int32) (t_moves : Int32) (t_fewest : (Nat → Int32)) (v1 : Int32) (v2 : Int32) : Option ((Int32 × Int32 × Int32) ⊕ (Int32 × Int32)) := gdi v1 64 (bnd (t_fewest v1.toNatClampNeg) fun x9 => bnd (v1 + (1 : Int32)) fun x10 => some (.inl (v2, x9, x10)))
def fX7_pickBest_l12b (N : Nat) (t_fewest : (Nat → Int32)) (t_lands : Int32) (t_moves : Int32) (v1 : Int32) : Option ((Int32 × Int32 × Int32) ⊕ (Int32 × Int32)) := (if (64 : Int32) ≤ v1 then some (.inr (t_lands, t_moves)) else (fJ6_bitCount_0f7a4  v1).bind fun o2 => gdi v1 64 ((if (t_fewest v1.toNatClampNeg) = (-1 : Int32) then bnd (v1 + (1 : Int32)) fun x5 => some (.inl (t_lands, t_moves, x5)) else (if t_lands ≤ o2 then (if t_lands < o2 then fX7_pickBest_j65 N t_lands t_moves t_fewest v1 o2 else gdi v1 64 ((if t_moves ≤ (t_fewest v1.toNatClampNeg) then bnd (v1 + (1 : Int32)) fun x13 => some (.inl (t_lands, t_moves, x13)) else fX7_pickBest_j65 N t_lands t_moves t_fewest v1 o2))) else bnd (v1 + (1 : Int32)) fun x14 => some (.inl (t_lands, t_moves, x14))))))
def fX7_pickBest (N : Nat) (t_lands : Int32) (t_moves : Int32) (t_fewest : (Nat → Int32))  : Option (Int32 × Int32) := (itr (fun z => fX7_pickBest_l12b N t_fewest z.1 z.2.1 z.2.2) N ((0 : Int32), (0 : Int32), (1 : Int32))).bind fun q15 => some (q15.1, q15.2)
set_option maxHeartbeats 4000000 in
set_option maxRecDepth 100000 in
theorem tX7_pickBest_j65 {p : Program} {l : Launch} {e : Env} {R : Room} {s : State} {m : MethodId} {args : Array Value} {below : List Frame} {meth : Method} {c : Code} {D : va_G} {dA : Nat → ClassId} {w0 : va_W} {Q : State → Prop} {H : Heap} {locs : List Loc} {ls : Array Slot} {cells slots : Nat} (C : CX p s m args meth c cX7_pickBest 3 none RX7 D dA) (ht ht_ring ht_standing ht_fewest ht_movesTo : Nat) (hR : 1 ≤ R.frames ∧ 20 ≤ R.locals ∧ cells ≤ R.cells ∧ slots ≤ R.slots)  (t_lands : Int32) (t_moves : Int32) (t_fewest : (Nat → Int32)) (v1 : Int32) (v2 : Int32) (N : Nat) (res : ((Int32 × Int32 × Int32) ⊕ (Int32 × Int32))) (hf : fX7_pickBest_j65 N t_lands t_moves t_fewest v1 v2 = some res) (hK : Sum.elim (fun z => (∀ (H : Heap) (locs : List Loc) (ls : Array Slot), lv_has ls 3 [(0, .ref ht), (1, .int z.2.2)] → St D w0 s (wX7_pickBest dA ht ht_ring ht_standing ht_fewest ht_movesTo z.1 z.2.1 t_fewest) H locs → W p l e R s m args below meth c H locs cells slots Q (F0 m 12 ls []))) (fun r => (∀ (H : Heap) (locs : List Loc) (ls : Array Slot), lv_has ls 3 [] → St D w0 s (wX7_pickBest dA ht ht_ring ht_standing ht_fewest ht_movesTo r.1 r.2 t_fewest) H locs → W p l e R s m args below meth c H locs cells slots Q (F0 m 86 ls []))) res) (hl : lv_has ls 3 [(0, .ref ht), (1, .int v1), (2, .int v2)]) (hw : St D w0 s (wX7_pickBest dA ht ht_ring ht_standing ht_fewest ht_movesTo t_lands t_moves t_fewest) H locs) : W p l e R s m args below meth c H locs cells slots Q (F0 m 65 ls []) := by
  have hx := C.1
  have hb := C.2.1
  have hml := C.2.2.1
  have hown := C.2.2.2.1
  have hts := C.2.2.2.2.1
  unfold fX7_pickBest_j65 at hf
  refine lv_aload_n hx hb dX7_pickBest_65 rfl (lv_at hl 0 rfl) ?_
  refine lv_iload_n hx hb dX7_pickBest_66 rfl (lv_at hl 2 rfl) ?_
  refine k_put C hw 0 rfl rfl wiX7 tyX7 tyX7_ok nmX7 0 (by decide) wfX7_9 rfl rfl rfl (Nat.le_of_ble_eq_true rfl) dX7_pickBest_67 (wX7_pickBest dA ht ht_ring ht_standing ht_fewest ht_movesTo v2 t_moves t_fewest) rfl (fun H locs hw => ?_)
  refine lv_aload_n hx hb dX7_pickBest_70 rfl (lv_at hl 0 rfl) ?_
  refine lv_aload_n hx hb dX7_pickBest_71 rfl (lv_at hl 0 rfl) ?_
  refine k_get C hw 0 rfl rfl wiX7 4 (by decide) wfX7_18 rfl dX7_pickBest_72 ?_
  refine lv_iload_n hx hb dX7_pickBest_75 rfl (lv_at hl 1 rfl) ?_
  obtain ⟨g8, hf⟩ := gdi_r hf
  refine k_iald C hw 1 rfl g8 dX7_pickBest_76 ?_
  refine lv_topi (fun x9 ex9 => ?_)
  have hf := bnd_r ex9 hf
  refine k_put C hw 0 rfl rfl wiX7 tyX7 tyX7_ok nmX7 1 (by decide) wfX7_15 rfl rfl rfl (Nat.le_of_ble_eq_true rfl) dX7_pickBest_77 (wX7_pickBest dA ht ht_ring ht_standing ht_fewest ht_movesTo v2 x9 t_fewest) rfl (fun H locs hw => ?_)
  obtain ⟨x10, ex10⟩ : ∃ y : Int32, y = v1 + (1 : Int32) := ⟨_, rfl⟩
  have hf := bnd_r ex10 hf
  refine lv_iinc (v := x10) (lv' := [(1, .int x10), (0, .ref ht), (2, .int v2)]) hx hb dX7_pickBest_80 hl (k := 1) rfl (by rw [ex10]; rfl) (by decide) rfl (fun ls hl => ?_)
  refine lv_goto (tgt := 12) hx hb dX7_pickBest_83 (by decide) ?_
  obtain rfl := some_r hf
  exact hK _ _ _ (lv_sub hl [1, 0] rfl) hw
set_option maxHeartbeats 4000000 in
set_option maxRecDepth 100000 in
theorem tX7_pickBest_l12b {p : Program} {l : Launch} {e : Env} {R : Room} {s : State} {m : MethodId} {args : Array Value} {below : List Frame} {meth : Method} {c : Code} {D : va_G} {dA : Nat → ClassId} {w0 : va_W} {Q : State → Prop} {H : Heap} {locs : List Loc} {ls : Array Slot} {cells slots : Nat} (C : CX p s m args meth c cX7_pickBest 3 none RX7 D dA) (ht ht_ring ht_standing ht_fewest ht_movesTo : Nat) (hR : 1 ≤ R.frames ∧ 20 ≤ R.locals ∧ cells ≤ R.cells ∧ slots ≤ R.slots)  (t_lands : Int32) (t_moves : Int32) (t_fewest : (Nat → Int32)) (v1 : Int32) (N : Nat) (res : ((Int32 × Int32 × Int32) ⊕ (Int32 × Int32))) (hf : fX7_pickBest_l12b N t_fewest t_lands t_moves v1 = some res) (hK : Sum.elim (fun z => (∀ (H : Heap) (locs : List Loc) (ls : Array Slot), lv_has ls 3 [(0, .ref ht), (1, .int z.2.2)] → St D w0 s (wX7_pickBest dA ht ht_ring ht_standing ht_fewest ht_movesTo z.1 z.2.1 t_fewest) H locs → W p l e R s m args below meth c H locs cells slots Q (F0 m 12 ls []))) (fun r => (∀ (H : Heap) (locs : List Loc) (ls : Array Slot), lv_has ls 3 [] → St D w0 s (wX7_pickBest dA ht ht_ring ht_standing ht_fewest ht_movesTo r.1 r.2 t_fewest) H locs → W p l e R s m args below meth c H locs cells slots Q (F0 m 86 ls []))) res) (hl : lv_has ls 3 [(0, .ref ht), (1, .int v1)]) (hw : St D w0 s (wX7_pickBest dA ht ht_ring ht_standing ht_fewest ht_movesTo t_lands t_moves t_fewest) H locs) : W p l e R s m args below meth c H locs cells slots Q (F0 m 12 ls []) := by
  have hx := C.1
  have hb := C.2.1
  have hml := C.2.2.1
  have hown := C.2.2.2.1
  have hts := C.2.2.2.2.1
  unfold fX7_pickBest_l12b at hf
  refine lv_iload_n hx hb dX7_pickBest_12 rfl (lv_at hl 1 rfl) ?_
  refine lv_bipush (v := (64 : Int32)) hx hb dX7_pickBest_13 (by decide) ?_
  refine lv_icmp_ge (tgt := 86) hx hb dX7_pickBest_15 (by decide) (fun c1 => ?_) (fun c1 => ?_)
  · have hf := ite_t c1 hf
    obtain rfl := some_r hf
    exact hK _ _ _ (lv_sub hl [] rfl) hw
  · have hf := ite_f c1 hf
    refine lv_iload_n hx hb dX7_pickBest_18 rfl (lv_at hl 1 rfl) ?_
    obtain ⟨o2, ho2, hf⟩ := bind_r hf
    refine k_callSi C hw (n := 1) (As := [.int v1]) (w1 := (wX7_pickBest dA ht ht_ring ht_standing ht_fewest ht_movesTo t_lands t_moves t_fewest)) (wr := [(ht, .inr (7, [.int t_lands, .int t_moves, .ref ht_ring, .ref ht_standing, .ref ht_fewest, .ref ht_movesTo])), (ht_fewest, .inl (dA 0, 64, .inl t_fewest))]) [] [0, 1] [0, 1] rfl rfl (by decide) (by decide) (by decide) rfl (by decide) (qJ6_bitCount_0f7a4 l D dA  v1 _ ho2) wlX7_76 wsJ6_bitCount_0f7a4_t wnJ6 wcJ6_bitCount_0f7a4 (by decide +kernel) ⟨Nat.le_trans (by decide) hR.1, Nat.le_trans (by decide) hR.2.1⟩ hR.2.2 rfl hl.1 (Nat.le_of_ble_eq_true rfl) dX7_pickBest_19 rfl (fun H locs hw => ?_)
    refine lv_istore_n (lv' := [(2, .int o2), (0, .ref ht), (1, .int v1)]) hx hb dX7_pickBest_22 rfl hl (by decide) rfl (fun ls hl => ?_)
    refine lv_aload_n hx hb dX7_pickBest_23 rfl (lv_at hl 1 rfl) ?_
    refine k_get C hw 0 rfl rfl wiX7 4 (by decide) wfX7_18 rfl dX7_pickBest_24 ?_
    refine lv_iload_n hx hb dX7_pickBest_27 rfl (lv_at hl 2 rfl) ?_
    obtain ⟨g3, hf⟩ := gdi_r hf
    refine k_iald C hw 1 rfl g3 dX7_pickBest_28 ?_
    refine lv_iconst (v := (-1 : Int32)) hx hb dX7_pickBest_29 (by decide) ?_
    refine lv_icmp_eq (tgt := 80) hx hb dX7_pickBest_30 (by decide) (fun c4 => ?_) (fun c4 => ?_)
    · have hf := ite_t c4 hf
      obtain ⟨x5, ex5⟩ : ∃ y : Int32, y = v1 + (1 : Int32) := ⟨_, rfl⟩
      have hf := bnd_r ex5 hf
      refine lv_iinc (v := x5) (lv' := [(1, .int x5), (2, .int o2), (0, .ref ht)]) hx hb dX7_pickBest_80 hl (k := 2) rfl (by rw [ex5]; rfl) (by decide) rfl (fun ls hl => ?_)
      refine lv_goto (tgt := 12) hx hb dX7_pickBest_83 (by decide) ?_
      obtain rfl := some_r hf
      exact hK _ _ _ (lv_sub hl [2, 0] rfl) hw
    · have hf := ite_f c4 hf
      refine lv_iload_n hx hb dX7_pickBest_33 rfl (lv_at hl 0 rfl) ?_
      refine lv_aload_n hx hb dX7_pickBest_34 rfl (lv_at hl 1 rfl) ?_
      refine k_get C hw 0 rfl rfl wiX7 0 (by decide) wfX7_9 rfl dX7_pickBest_35 ?_
      refine lv_icmp_ge (tgt := 44) hx hb dX7_pickBest_38 (by decide) (fun c6 => ?_) (fun c6 => ?_)
      · have hf := ite_t c6 hf
        refine lv_iload_n hx hb dX7_pickBest_44 rfl (lv_at hl 0 rfl) ?_
        refine lv_aload_n hx hb dX7_pickBest_45 rfl (lv_at hl 1 rfl) ?_
        refine k_get C hw 0 rfl rfl wiX7 0 (by decide) wfX7_9 rfl dX7_pickBest_46 ?_
        refine lv_icmp_gt (tgt := 65) hx hb dX7_pickBest_49 (by decide) (fun c7 => ?_) (fun c7 => ?_)
        · have hf := ite_t c7 hf
          exact tX7_pickBest_j65 C ht ht_ring ht_standing ht_fewest ht_movesTo hR t_lands t_moves t_fewest v1 o2 N _ hf hK (lv_sub hl [1, 2, 0] rfl) hw
        · have hf := ite_f c7 hf
          refine lv_aload_n hx hb dX7_pickBest_52 rfl (lv_at hl 1 rfl) ?_
          refine k_get C hw 0 rfl rfl wiX7 4 (by decide) wfX7_18 rfl dX7_pickBest_53 ?_
          refine lv_iload_n hx hb dX7_pickBest_56 rfl (lv_at hl 2 rfl) ?_
          obtain ⟨g11, hf⟩ := gdi_r hf
          refine k_iald C hw 1 rfl g11 dX7_pickBest_57 ?_
          refine lv_aload_n hx hb dX7_pickBest_58 rfl (lv_at hl 1 rfl) ?_
          refine k_get C hw 0 rfl rfl wiX7 1 (by decide) wfX7_15 rfl dX7_pickBest_59 ?_
          refine lv_icmp_ge (tgt := 80) hx hb dX7_pickBest_62 (by decide) (fun c12 => ?_) (fun c12 => ?_)
          · have hf := ite_t c12 hf
            obtain ⟨x13, ex13⟩ : ∃ y : Int32, y = v1 + (1 : Int32) := ⟨_, rfl⟩
            have hf := bnd_r ex13 hf
            refine lv_iinc (v := x13) (lv' := [(1, .int x13), (2, .int o2), (0, .ref ht)]) hx hb dX7_pickBest_80 hl (k := 2) rfl (by rw [ex13]; rfl) (by decide) rfl (fun ls hl => ?_)
            refine lv_goto (tgt := 12) hx hb dX7_pickBest_83 (by decide) ?_
            obtain rfl := some_r hf
            exact hK _ _ _ (lv_sub hl [2, 0] rfl) hw
          · have hf := ite_f c12 hf
            exact tX7_pickBest_j65 C ht ht_ring ht_standing ht_fewest ht_movesTo hR t_lands t_moves t_fewest v1 o2 N _ hf hK (lv_sub hl [1, 2, 0] rfl) hw
      · have hf := ite_f c6 hf
        refine lv_goto (tgt := 80) hx hb dX7_pickBest_41 (by decide) ?_
        obtain ⟨x14, ex14⟩ : ∃ y : Int32, y = v1 + (1 : Int32) := ⟨_, rfl⟩
        have hf := bnd_r ex14 hf
        refine lv_iinc (v := x14) (lv' := [(1, .int x14), (2, .int o2), (0, .ref ht)]) hx hb dX7_pickBest_80 hl (k := 2) rfl (by rw [ex14]; rfl) (by decide) rfl (fun ls hl => ?_)
        refine lv_goto (tgt := 12) hx hb dX7_pickBest_83 (by decide) ?_
        obtain rfl := some_r hf
        exact hK _ _ _ (lv_sub hl [2, 0] rfl) hw
set_option maxHeartbeats 4000000 in
theorem tX7_pickBest_l12 {p : Program} {l : Launch} {e : Env} {R : Room} {s : State} {m : MethodId} {args : Array Value} {below : List Frame} {meth : Method} {c : Code} {D : va_G} {dA : Nat → ClassId} {w0 : va_W} {Q : State → Prop} {H : Heap} {locs : List Loc} {ls : Array Slot} {cells slots : Nat} (C : CX p s m args meth c cX7_pickBest 3 none RX7 D dA) (ht ht_ring ht_standing ht_fewest ht_movesTo : Nat) (hR : 1 ≤ R.frames ∧ 20 ≤ R.locals ∧ cells ≤ R.cells ∧ slots ≤ R.slots)  (t_lands : Int32) (t_moves : Int32) (t_fewest : (Nat → Int32)) (v1 : Int32) (N n : Nat) (res : (Int32 × Int32)) (hf : itr (fun z => fX7_pickBest_l12b N t_fewest z.1 z.2.1 z.2.2) n (t_lands, t_moves, v1) = some res) (hK : (∀ (H : Heap) (locs : List Loc) (ls : Array Slot), lv_has ls 3 [] → St D w0 s (wX7_pickBest dA ht ht_ring ht_standing ht_fewest ht_movesTo res.1 res.2 t_fewest) H locs → W p l e R s m args below meth c H locs cells slots Q (F0 m 86 ls []))) (hl : lv_has ls 3 [(0, .ref ht), (1, .int v1)]) (hw : St D w0 s (wX7_pickBest dA ht ht_ring ht_standing ht_fewest ht_movesTo t_lands t_moves t_fewest) H locs) : W p l e R s m args below meth c H locs cells slots Q (F0 m 12 ls []) :=
  itr_W (P := fun (z : (Int32 × Int32 × Int32)) => (∀ (H : Heap) (locs : List Loc) (ls : Array Slot), lv_has ls 3 [(0, .ref ht), (1, .int z.2.2)] → St D w0 s (wX7_pickBest dA ht ht_ring ht_standing ht_fewest ht_movesTo z.1 z.2.1 t_fewest) H locs → W p l e R s m args below meth c H locs cells slots Q (F0 m 12 ls []))) (K := fun res => (∀ (H : Heap) (locs : List Loc) (ls : Array Slot), lv_has ls 3 [] → St D w0 s (wX7_pickBest dA ht ht_ring ht_standing ht_fewest ht_movesTo res.1 res.2 t_fewest) H locs → W p l e R s m args below meth c H locs cells slots Q (F0 m 86 ls []))) (fun z r hf hK H locs ls hl hw => tX7_pickBest_l12b C ht ht_ring ht_standing ht_fewest ht_movesTo hR z.1 z.2.1 t_fewest z.2.2 N r hf (by cases r with
    | inl r => exact hK
    | inr r => exact hK) hl hw) n _ res hf hK H locs ls hl hw
set_option maxHeartbeats 4000000 in
set_option maxRecDepth 100000 in
theorem qX7_pickBest (l : Launch) (D : va_G) (dA : Nat → ClassId) (ht ht_ring ht_standing ht_fewest ht_movesTo : Nat) (t_lands : Int32) (t_moves : Int32) (t_fewest : (Nat → Int32))  (N : Nat) (o : Int32 × Int32) (hf : fX7_pickBest N t_lands t_moves t_fewest = some o) : Mv l D dA yX7_pickBest (Cond.code yX7_pickBest cX7_pickBest 3 none :: wA) 1 20 [.ref ht] (wX7_pickBest dA ht ht_ring ht_standing ht_fewest ht_movesTo t_lands t_moves t_fewest) (wX7_pickBest dA ht ht_ring ht_standing ht_fewest ht_movesTo o.1 o.2 t_fewest) := by
  intro sz
  refine M_of (cc := cX7_pickBest) (nL := 3) (ret := none) (own := RX7) (by decide +kernel) rfl (Nat.le_of_ble_eq_true rfl) ?_
  intro p e s m below meth c ls hsz C hw hl
  subst hsz
  have hR : 1 ≤ (rmm 1 20).frames ∧ 20 ≤ (rmm 1 20).locals ∧ 0 ≤ (rmm 1 20).cells ∧ 0 ≤ (rmm 1 20).slots := ⟨Nat.le_refl _, Nat.le_refl _, Nat.le_refl _, Nat.le_refl _⟩
  have hl : lv_has ls 3 [(0, .ref ht)] := hl
  have hx := C.1
  have hb := C.2.1
  have hml := C.2.2.1
  have hown := C.2.2.2.1
  have hts := C.2.2.2.2.1
  have hK : ∀ (H : Heap) (locs : List Loc) (pc : Nat) (ls : Array Slot), decode cX7_pickBest pc = .ok (.return_, 1) → St D (wX7_pickBest dA ht ht_ring ht_standing ht_fewest ht_movesTo t_lands t_moves t_fewest) s (wX7_pickBest dA ht ht_ring ht_standing ht_fewest ht_movesTo o.1 o.2 t_fewest) H locs → W p l e (rmm 1 20) s m [.ref ht].toArray below meth c H locs 0 0 (MQ below (Qv D (wX7_pickBest dA ht ht_ring ht_standing ht_fewest ht_movesTo t_lands t_moves t_fewest) (wX7_pickBest dA ht ht_ring ht_standing ht_fewest ht_movesTo o.1 o.2 t_fewest) s.heap.size) [.ref ht].toArray s 0 0 (va_A (wX7_pickBest dA ht ht_ring ht_standing ht_fewest ht_movesTo t_lands t_moves t_fewest) s.heap.size)) (F0 m pc ls []) := fun H locs pc ls hd hw => k_vret C hw hd
  unfold fX7_pickBest at hf
  refine lv_aload_n hx hb dX7_pickBest_0 rfl (lv_at hl 0 rfl) ?_
  refine lv_iconst (v := (0 : Int32)) hx hb dX7_pickBest_1 (by decide) ?_
  refine k_put C hw 0 rfl rfl wiX7 tyX7 tyX7_ok nmX7 0 (by decide) wfX7_9 rfl rfl rfl (Nat.le_of_ble_eq_true rfl) dX7_pickBest_2 (wX7_pickBest dA ht ht_ring ht_standing ht_fewest ht_movesTo (0 : Int32) t_moves t_fewest) rfl (fun H locs hw => ?_)
  refine lv_aload_n hx hb dX7_pickBest_5 rfl (lv_at hl 0 rfl) ?_
  refine lv_iconst (v := (0 : Int32)) hx hb dX7_pickBest_6 (by decide) ?_
  refine k_put C hw 0 rfl rfl wiX7 tyX7 tyX7_ok nmX7 1 (by decide) wfX7_15 rfl rfl rfl (Nat.le_of_ble_eq_true rfl) dX7_pickBest_7 (wX7_pickBest dA ht ht_ring ht_standing ht_fewest ht_movesTo (0 : Int32) (0 : Int32) t_fewest) rfl (fun H locs hw => ?_)
  refine lv_iconst (v := (1 : Int32)) hx hb dX7_pickBest_10 (by decide) ?_
  refine lv_istore_n (lv' := [(1, .int (1 : Int32)), (0, .ref ht)]) hx hb dX7_pickBest_11 rfl hl (by decide) rfl (fun ls hl => ?_)
  obtain ⟨q15, hq15, hf⟩ := bind_r hf
  refine tX7_pickBest_l12 C ht ht_ring ht_standing ht_fewest ht_movesTo hR (0 : Int32) (0 : Int32) t_fewest (1 : Int32) N _ _ hq15 ?_ (lv_sub hl [1, 0] rfl) hw
  intro H locs ls hl hw
  obtain rfl := some_r hf
  exact hK _ _ _ _ dX7_pickBest_86 hw

/-! RingPlaces$Shares.divide()V -/
abbrev wX7_divide (dA : Nat → ClassId) (ht ht_ring ht_standing ht_fewest ht_movesTo ht_ring_cells ht_ring_places ht_ring_facts ht_standing_degree ht_standing_voice ht_standing_loud ht_standing_sharp ht_standing_hears ht_standing_tooNear : Nat) (t_lands : Int32) (t_moves : Int32) (t_fewest : (Nat → Int32)) (t_ring_lands : Int32) (t_ring_things : Int32) (t_ring_placeCount : Int32) (t_ring_apart : Int32) (t_ring_thereFirst : Int32) (t_ring_places : (Nat → Int32)) (t_ring_facts : (Nat → Int32)) (t_standing_degree : (Nat → Int32)) (t_movesTo : (Nat → Int32)) : va_W := [(ht, .inr (7, [.int t_lands, .int t_moves, .ref ht_ring, .ref ht_standing, .ref ht_fewest, .ref ht_movesTo])), (ht_fewest, .inl (dA 0, 64, .inl t_fewest)), (ht_ring, .inr (5, [.ref ht_ring_cells, .ref ht_ring_places, .int t_ring_lands, .int t_ring_things, .int t_ring_placeCount, .int t_ring_apart, .int t_ring_thereFirst, .ref ht_ring_facts])), (ht_ring_places, .inl (dA 0, 6, .inl t_ring_places)), (ht_ring_facts, .inl (dA 0, 224, .inl t_ring_facts)), (ht_standing, .inr (8, [.ref ht_ring, .ref ht_standing_degree, .ref ht_standing_voice, .ref ht_standing_loud, .ref ht_standing_sharp, .ref ht_standing_hears, .ref ht_standing_tooNear])), (ht_standing_degree, .inl (dA 0, 16, .inl t_standing_degree)), (ht_movesTo, .inl (dA 0, 6, .inl t_movesTo))]
def fX7_divide_l2b (N : Nat) (t_lands : Int32) (t_moves : Int32) (t_ring_lands : Int32) (t_ring_things : Int32) (t_ring_placeCount : Int32) (t_ring_places : (Nat → Int32)) (t_ring_facts : (Nat → Int32)) (t_standing_degree : (Nat → Int32)) (t_movesTo : (Nat → Int32)) (t_fewest : (Nat → Int32)) (v1 : Int32) : Option (((Nat → Int32) × Int32) ⊕ ((Nat → Int32))) := (if (64 : Int32) ≤ v1 then some (.inr t_fewest) else (if v1 = 0 then gdi v1 64 (bnd (upd t_fewest v1.toNatClampNeg (0 : Int32)) fun y7 => bnd (v1 + (1 : Int32)) fun x8 => some (.inl (y7, x8))) else gdi v1 64 (bnd (upd t_fewest v1.toNatClampNeg (-1 : Int32)) fun y4 => bnd (v1 + (1 : Int32)) fun x5 => some (.inl (y4, x5)))))
def fX7_divide_l44b (N : Nat) (t_lands : Int32) (t_moves : Int32) (t_fewest : (Nat → Int32)) (t_ring_lands : Int32) (t_ring_things : Int32) (t_ring_placeCount : Int32) (t_ring_places : (Nat → Int32)) (t_ring_facts : (Nat → Int32)) (t_standing_degree : (Nat → Int32)) (v1 : Int32) (t_movesTo : (Nat → Int32)) (v2 : Int32) : Option (((Nat → Int32) × Int32) ⊕ ((Nat → Int32))) := (if t_ring_placeCount ≤ v2 then some (.inr t_movesTo) else (fX7_movesOf N t_ring_things t_ring_places t_ring_facts t_standing_degree v1 v2).bind fun o12 => gdi v2 6 (bnd (upd t_movesTo v2.toNatClampNeg o12) fun y14 => bnd (v2 + (1 : Int32)) fun x15 => some (.inl (y14, x15))))
def fX7_divide_l31b (N : Nat) (t_lands : Int32) (t_moves : Int32) (t_ring_lands : Int32) (t_ring_things : Int32) (t_ring_placeCount : Int32) (t_ring_places : (Nat → Int32)) (t_ring_facts : (Nat → Int32)) (t_standing_degree : (Nat → Int32)) (t_fewest : (Nat → Int32)) (t_movesTo : (Nat → Int32)) (v1 : Int32) : Option (((Nat → Int32) × (Nat → Int32) × Int32) ⊕ ((Nat → Int32) × (Nat → Int32))) := (if t_ring_lands ≤ v1 then some (.inr (t_fewest, t_movesTo)) else (itr (fun z => fX7_divide_l44b N t_lands t_moves t_fewest t_ring_lands t_ring_things t_ring_placeCount t_ring_places t_ring_facts t_standing_degree v1 z.1 z.2) N (t_movesTo, (0 : Int32))).bind fun q16 => (fX7_addLand N t_ring_placeCount q16 t_fewest ).bind fun o17 => bnd (v1 + (1 : Int32)) fun x18 => some (.inl (o17, q16, x18)))
def fX7_divide (N : Nat) (t_lands : Int32) (t_moves : Int32) (t_fewest : (Nat → Int32)) (t_ring_lands : Int32) (t_ring_things : Int32) (t_ring_placeCount : Int32) (t_ring_places : (Nat → Int32)) (t_ring_facts : (Nat → Int32)) (t_standing_degree : (Nat → Int32)) (t_movesTo : (Nat → Int32))  : Option (Int32 × Int32 × (Nat → Int32) × (Nat → Int32)) := (itr (fun z => fX7_divide_l2b N t_lands t_moves t_ring_lands t_ring_things t_ring_placeCount t_ring_places t_ring_facts t_standing_degree t_movesTo z.1 z.2) N (t_fewest, (0 : Int32))).bind fun q9 => (itr (fun z => fX7_divide_l31b N t_lands t_moves t_ring_lands t_ring_things t_ring_placeCount t_ring_places t_ring_facts t_standing_degree z.1 z.2.1 z.2.2) N (q9, t_movesTo, (0 : Int32))).bind fun q19 => (fX7_pickBest N t_lands t_moves q19.1 ).bind fun o20 => some (o20.1, o20.2, q19.1, q19.2)
set_option maxHeartbeats 4000000 in
set_option maxRecDepth 100000 in
theorem tX7_divide_l2b {p : Program} {l : Launch} {e : Env} {R : Room} {s : State} {m : MethodId} {args : Array Value} {below : List Frame} {meth : Method} {c : Code} {D : va_G} {dA : Nat → ClassId} {w0 : va_W} {Q : State → Prop} {H : Heap} {locs : List Loc} {ls : Array Slot} {cells slots : Nat} (C : CX p s m args meth c cX7_divide 3 none RX7 D dA) (ht ht_ring ht_standing ht_fewest ht_movesTo ht_ring_cells ht_ring_places ht_ring_facts ht_standing_degree ht_standing_voice ht_standing_loud ht_standing_sharp ht_standing_hears ht_standing_tooNear : Nat) (hR : 2 ≤ R.frames ∧ 49 ≤ R.locals ∧ cells ≤ R.cells ∧ slots ≤ R.slots)  (t_lands : Int32) (t_moves : Int32) (t_fewest : (Nat → Int32)) (t_ring_lands : Int32) (t_ring_things : Int32) (t_ring_placeCount : Int32) (t_ring_apart : Int32) (t_ring_thereFirst : Int32) (t_ring_places : (Nat → Int32)) (t_ring_facts : (Nat → Int32)) (t_standing_degree : (Nat → Int32)) (t_movesTo : (Nat → Int32)) (v1 : Int32) (N : Nat) (res : (((Nat → Int32) × Int32) ⊕ ((Nat → Int32)))) (hf : fX7_divide_l2b N t_lands t_moves t_ring_lands t_ring_things t_ring_placeCount t_ring_places t_ring_facts t_standing_degree t_movesTo t_fewest v1 = some res) (hK : Sum.elim (fun z => (∀ (H : Heap) (locs : List Loc) (ls : Array Slot), lv_has ls 3 [(0, .ref ht), (1, .int z.2)] → St D w0 s (wX7_divide dA ht ht_ring ht_standing ht_fewest ht_movesTo ht_ring_cells ht_ring_places ht_ring_facts ht_standing_degree ht_standing_voice ht_standing_loud ht_standing_sharp ht_standing_hears ht_standing_tooNear t_lands t_moves z.1 t_ring_lands t_ring_things t_ring_placeCount t_ring_apart t_ring_thereFirst t_ring_places t_ring_facts t_standing_degree t_movesTo) H locs → W p l e R s m args below meth c H locs cells slots Q (F0 m 2 ls []))) (fun r => (∀ (H : Heap) (locs : List Loc) (ls : Array Slot), lv_has ls 3 [(0, .ref ht)] → St D w0 s (wX7_divide dA ht ht_ring ht_standing ht_fewest ht_movesTo ht_ring_cells ht_ring_places ht_ring_facts ht_standing_degree ht_standing_voice ht_standing_loud ht_standing_sharp ht_standing_hears ht_standing_tooNear t_lands t_moves r t_ring_lands t_ring_things t_ring_placeCount t_ring_apart t_ring_thereFirst t_ring_places t_ring_facts t_standing_degree t_movesTo) H locs → W p l e R s m args below meth c H locs cells slots Q (F0 m 29 ls []))) res) (hl : lv_has ls 3 [(0, .ref ht), (1, .int v1)]) (hw : St D w0 s (wX7_divide dA ht ht_ring ht_standing ht_fewest ht_movesTo ht_ring_cells ht_ring_places ht_ring_facts ht_standing_degree ht_standing_voice ht_standing_loud ht_standing_sharp ht_standing_hears ht_standing_tooNear t_lands t_moves t_fewest t_ring_lands t_ring_things t_ring_placeCount t_ring_apart t_ring_thereFirst t_ring_places t_ring_facts t_standing_degree t_movesTo) H locs) : W p l e R s m args below meth c H locs cells slots Q (F0 m 2 ls []) := by
  have hx := C.1
  have hb := C.2.1
  have hml := C.2.2.1
  have hown := C.2.2.2.1
  have hts := C.2.2.2.2.1
  unfold fX7_divide_l2b at hf
  refine lv_iload_n hx hb dX7_divide_2 rfl (lv_at hl 1 rfl) ?_
  refine lv_bipush (v := (64 : Int32)) hx hb dX7_divide_3 (by decide) ?_
  refine lv_icmp_ge (tgt := 29) hx hb dX7_divide_5 (by decide) (fun c1 => ?_) (fun c1 => ?_)
  · have hf := ite_t c1 hf
    obtain rfl := some_r hf
    exact hK _ _ _ (lv_sub hl [0] rfl) hw
  · have hf := ite_f c1 hf
    refine lv_aload_n hx hb dX7_divide_8 rfl (lv_at hl 0 rfl) ?_
    refine k_get C hw 0 rfl rfl wiX7 4 (by decide) wfX7_18 rfl dX7_divide_9 ?_
    refine lv_iload_n hx hb dX7_divide_12 rfl (lv_at hl 1 rfl) ?_
    refine lv_iload_n hx hb dX7_divide_13 rfl (lv_at hl 1 rfl) ?_
    refine lv_if_ne (tgt := 21) hx hb dX7_divide_14 (by decide) (fun c2 => ?_) (fun c2 => ?_)
    · have hf := ite_f c2 hf
      refine lv_iconst (v := (-1 : Int32)) hx hb dX7_divide_21 (by decide) ?_
      obtain ⟨g3, hf⟩ := gdi_r hf
      obtain ⟨y4, ey4⟩ : ∃ z : Nat → Int32, z = upd t_fewest v1.toNatClampNeg (-1 : Int32) := ⟨_, rfl⟩
      have hf := bnd_r ey4 hf
      refine k_iast C hw 1 rfl g3 dX7_divide_22 y4 ey4 (wX7_divide dA ht ht_ring ht_standing ht_fewest ht_movesTo ht_ring_cells ht_ring_places ht_ring_facts ht_standing_degree ht_standing_voice ht_standing_loud ht_standing_sharp ht_standing_hears ht_standing_tooNear t_lands t_moves y4 t_ring_lands t_ring_things t_ring_placeCount t_ring_apart t_ring_thereFirst t_ring_places t_ring_facts t_standing_degree t_movesTo) rfl (fun H locs hw => ?_)
      obtain ⟨x5, ex5⟩ : ∃ y : Int32, y = v1 + (1 : Int32) := ⟨_, rfl⟩
      have hf := bnd_r ex5 hf
      refine lv_iinc (v := x5) (lv' := [(1, .int x5), (0, .ref ht)]) hx hb dX7_divide_23 hl (k := 1) rfl (by rw [ex5]; rfl) (by decide) rfl (fun ls hl => ?_)
      refine lv_goto (tgt := 2) hx hb dX7_divide_26 (by decide) ?_
      obtain rfl := some_r hf
      exact hK _ _ _ (lv_sub hl [1, 0] rfl) hw
    · have hf := ite_t c2 hf
      refine lv_iconst (v := (0 : Int32)) hx hb dX7_divide_17 (by decide) ?_
      refine lv_goto (tgt := 22) hx hb dX7_divide_18 (by decide) ?_
      obtain ⟨g6, hf⟩ := gdi_r hf
      obtain ⟨y7, ey7⟩ : ∃ z : Nat → Int32, z = upd t_fewest v1.toNatClampNeg (0 : Int32) := ⟨_, rfl⟩
      have hf := bnd_r ey7 hf
      refine k_iast C hw 1 rfl g6 dX7_divide_22 y7 ey7 (wX7_divide dA ht ht_ring ht_standing ht_fewest ht_movesTo ht_ring_cells ht_ring_places ht_ring_facts ht_standing_degree ht_standing_voice ht_standing_loud ht_standing_sharp ht_standing_hears ht_standing_tooNear t_lands t_moves y7 t_ring_lands t_ring_things t_ring_placeCount t_ring_apart t_ring_thereFirst t_ring_places t_ring_facts t_standing_degree t_movesTo) rfl (fun H locs hw => ?_)
      obtain ⟨x8, ex8⟩ : ∃ y : Int32, y = v1 + (1 : Int32) := ⟨_, rfl⟩
      have hf := bnd_r ex8 hf
      refine lv_iinc (v := x8) (lv' := [(1, .int x8), (0, .ref ht)]) hx hb dX7_divide_23 hl (k := 1) rfl (by rw [ex8]; rfl) (by decide) rfl (fun ls hl => ?_)
      refine lv_goto (tgt := 2) hx hb dX7_divide_26 (by decide) ?_
      obtain rfl := some_r hf
      exact hK _ _ _ (lv_sub hl [1, 0] rfl) hw
set_option maxHeartbeats 4000000 in
theorem tX7_divide_l2 {p : Program} {l : Launch} {e : Env} {R : Room} {s : State} {m : MethodId} {args : Array Value} {below : List Frame} {meth : Method} {c : Code} {D : va_G} {dA : Nat → ClassId} {w0 : va_W} {Q : State → Prop} {H : Heap} {locs : List Loc} {ls : Array Slot} {cells slots : Nat} (C : CX p s m args meth c cX7_divide 3 none RX7 D dA) (ht ht_ring ht_standing ht_fewest ht_movesTo ht_ring_cells ht_ring_places ht_ring_facts ht_standing_degree ht_standing_voice ht_standing_loud ht_standing_sharp ht_standing_hears ht_standing_tooNear : Nat) (hR : 2 ≤ R.frames ∧ 49 ≤ R.locals ∧ cells ≤ R.cells ∧ slots ≤ R.slots)  (t_lands : Int32) (t_moves : Int32) (t_fewest : (Nat → Int32)) (t_ring_lands : Int32) (t_ring_things : Int32) (t_ring_placeCount : Int32) (t_ring_apart : Int32) (t_ring_thereFirst : Int32) (t_ring_places : (Nat → Int32)) (t_ring_facts : (Nat → Int32)) (t_standing_degree : (Nat → Int32)) (t_movesTo : (Nat → Int32)) (v1 : Int32) (N n : Nat) (res : ((Nat → Int32))) (hf : itr (fun z => fX7_divide_l2b N t_lands t_moves t_ring_lands t_ring_things t_ring_placeCount t_ring_places t_ring_facts t_standing_degree t_movesTo z.1 z.2) n (t_fewest, v1) = some res) (hK : (∀ (H : Heap) (locs : List Loc) (ls : Array Slot), lv_has ls 3 [(0, .ref ht)] → St D w0 s (wX7_divide dA ht ht_ring ht_standing ht_fewest ht_movesTo ht_ring_cells ht_ring_places ht_ring_facts ht_standing_degree ht_standing_voice ht_standing_loud ht_standing_sharp ht_standing_hears ht_standing_tooNear t_lands t_moves res t_ring_lands t_ring_things t_ring_placeCount t_ring_apart t_ring_thereFirst t_ring_places t_ring_facts t_standing_degree t_movesTo) H locs → W p l e R s m args below meth c H locs cells slots Q (F0 m 29 ls []))) (hl : lv_has ls 3 [(0, .ref ht), (1, .int v1)]) (hw : St D w0 s (wX7_divide dA ht ht_ring ht_standing ht_fewest ht_movesTo ht_ring_cells ht_ring_places ht_ring_facts ht_standing_degree ht_standing_voice ht_standing_loud ht_standing_sharp ht_standing_hears ht_standing_tooNear t_lands t_moves t_fewest t_ring_lands t_ring_things t_ring_placeCount t_ring_apart t_ring_thereFirst t_ring_places t_ring_facts t_standing_degree t_movesTo) H locs) : W p l e R s m args below meth c H locs cells slots Q (F0 m 2 ls []) :=
  itr_W (P := fun (z : ((Nat → Int32) × Int32)) => (∀ (H : Heap) (locs : List Loc) (ls : Array Slot), lv_has ls 3 [(0, .ref ht), (1, .int z.2)] → St D w0 s (wX7_divide dA ht ht_ring ht_standing ht_fewest ht_movesTo ht_ring_cells ht_ring_places ht_ring_facts ht_standing_degree ht_standing_voice ht_standing_loud ht_standing_sharp ht_standing_hears ht_standing_tooNear t_lands t_moves z.1 t_ring_lands t_ring_things t_ring_placeCount t_ring_apart t_ring_thereFirst t_ring_places t_ring_facts t_standing_degree t_movesTo) H locs → W p l e R s m args below meth c H locs cells slots Q (F0 m 2 ls []))) (K := fun res => (∀ (H : Heap) (locs : List Loc) (ls : Array Slot), lv_has ls 3 [(0, .ref ht)] → St D w0 s (wX7_divide dA ht ht_ring ht_standing ht_fewest ht_movesTo ht_ring_cells ht_ring_places ht_ring_facts ht_standing_degree ht_standing_voice ht_standing_loud ht_standing_sharp ht_standing_hears ht_standing_tooNear t_lands t_moves res t_ring_lands t_ring_things t_ring_placeCount t_ring_apart t_ring_thereFirst t_ring_places t_ring_facts t_standing_degree t_movesTo) H locs → W p l e R s m args below meth c H locs cells slots Q (F0 m 29 ls []))) (fun z r hf hK H locs ls hl hw => tX7_divide_l2b C ht ht_ring ht_standing ht_fewest ht_movesTo ht_ring_cells ht_ring_places ht_ring_facts ht_standing_degree ht_standing_voice ht_standing_loud ht_standing_sharp ht_standing_hears ht_standing_tooNear hR t_lands t_moves z.1 t_ring_lands t_ring_things t_ring_placeCount t_ring_apart t_ring_thereFirst t_ring_places t_ring_facts t_standing_degree t_movesTo z.2 N r hf (by cases r with
    | inl r => exact hK
    | inr r => exact hK) hl hw) n _ res hf hK H locs ls hl hw
set_option maxHeartbeats 4000000 in
set_option maxRecDepth 100000 in
theorem tX7_divide_l44b {p : Program} {l : Launch} {e : Env} {R : Room} {s : State} {m : MethodId} {args : Array Value} {below : List Frame} {meth : Method} {c : Code} {D : va_G} {dA : Nat → ClassId} {w0 : va_W} {Q : State → Prop} {H : Heap} {locs : List Loc} {ls : Array Slot} {cells slots : Nat} (C : CX p s m args meth c cX7_divide 3 none RX7 D dA) (ht ht_ring ht_standing ht_fewest ht_movesTo ht_ring_cells ht_ring_places ht_ring_facts ht_standing_degree ht_standing_voice ht_standing_loud ht_standing_sharp ht_standing_hears ht_standing_tooNear : Nat) (hR : 2 ≤ R.frames ∧ 49 ≤ R.locals ∧ cells ≤ R.cells ∧ slots ≤ R.slots)  (t_lands : Int32) (t_moves : Int32) (t_fewest : (Nat → Int32)) (t_ring_lands : Int32) (t_ring_things : Int32) (t_ring_placeCount : Int32) (t_ring_apart : Int32) (t_ring_thereFirst : Int32) (t_ring_places : (Nat → Int32)) (t_ring_facts : (Nat → Int32)) (t_standing_degree : (Nat → Int32)) (t_movesTo : (Nat → Int32)) (v1 : Int32) (v2 : Int32) (N : Nat) (res : (((Nat → Int32) × Int32) ⊕ ((Nat → Int32)))) (hf : fX7_divide_l44b N t_lands t_moves t_fewest t_ring_lands t_ring_things t_ring_placeCount t_ring_places t_ring_facts t_standing_degree v1 t_movesTo v2 = some res) (hK : Sum.elim (fun z => (∀ (H : Heap) (locs : List Loc) (ls : Array Slot), lv_has ls 3 [(0, .ref ht), (1, .int v1), (2, .int z.2)] → St D w0 s (wX7_divide dA ht ht_ring ht_standing ht_fewest ht_movesTo ht_ring_cells ht_ring_places ht_ring_facts ht_standing_degree ht_standing_voice ht_standing_loud ht_standing_sharp ht_standing_hears ht_standing_tooNear t_lands t_moves t_fewest t_ring_lands t_ring_things t_ring_placeCount t_ring_apart t_ring_thereFirst t_ring_places t_ring_facts t_standing_degree z.1) H locs → W p l e R s m args below meth c H locs cells slots Q (F0 m 44 ls []))) (fun r => (∀ (H : Heap) (locs : List Loc) (ls : Array Slot), lv_has ls 3 [(0, .ref ht), (1, .int v1)] → St D w0 s (wX7_divide dA ht ht_ring ht_standing ht_fewest ht_movesTo ht_ring_cells ht_ring_places ht_ring_facts ht_standing_degree ht_standing_voice ht_standing_loud ht_standing_sharp ht_standing_hears ht_standing_tooNear t_lands t_moves t_fewest t_ring_lands t_ring_things t_ring_placeCount t_ring_apart t_ring_thereFirst t_ring_places t_ring_facts t_standing_degree r) H locs → W p l e R s m args below meth c H locs cells slots Q (F0 m 73 ls []))) res) (hl : lv_has ls 3 [(0, .ref ht), (1, .int v1), (2, .int v2)]) (hw : St D w0 s (wX7_divide dA ht ht_ring ht_standing ht_fewest ht_movesTo ht_ring_cells ht_ring_places ht_ring_facts ht_standing_degree ht_standing_voice ht_standing_loud ht_standing_sharp ht_standing_hears ht_standing_tooNear t_lands t_moves t_fewest t_ring_lands t_ring_things t_ring_placeCount t_ring_apart t_ring_thereFirst t_ring_places t_ring_facts t_standing_degree t_movesTo) H locs) : W p l e R s m args below meth c H locs cells slots Q (F0 m 44 ls []) := by
  have hx := C.1
  have hb := C.2.1
  have hml := C.2.2.1
  have hown := C.2.2.2.1
  have hts := C.2.2.2.2.1
  unfold fX7_divide_l44b at hf
  refine lv_iload_n hx hb dX7_divide_44 rfl (lv_at hl 2 rfl) ?_
  refine lv_aload_n hx hb dX7_divide_45 rfl (lv_at hl 0 rfl) ?_
  refine k_get C hw 0 rfl rfl wiX7 2 (by decide) wfX7_31 rfl dX7_divide_46 ?_
  refine k_get C hw 2 rfl rfl wiX5 4 (by decide) wfX7_39 rfl dX7_divide_49 ?_
  refine lv_icmp_ge (tgt := 73) hx hb dX7_divide_52 (by decide) (fun c11 => ?_) (fun c11 => ?_)
  · have hf := ite_t c11 hf
    obtain rfl := some_r hf
    exact hK _ _ _ (lv_sub hl [0, 1] rfl) hw
  · have hf := ite_f c11 hf
    refine lv_aload_n hx hb dX7_divide_55 rfl (lv_at hl 0 rfl) ?_
    refine k_get C hw 0 rfl rfl wiX7 5 (by decide) wfX7_22 rfl dX7_divide_56 ?_
    refine lv_iload_n hx hb dX7_divide_59 rfl (lv_at hl 2 rfl) ?_
    refine lv_aload_n hx hb dX7_divide_60 rfl (lv_at hl 0 rfl) ?_
    refine lv_iload_n hx hb dX7_divide_61 rfl (lv_at hl 1 rfl) ?_
    refine lv_iload_n hx hb dX7_divide_62 rfl (lv_at hl 2 rfl) ?_
    obtain ⟨o12, ho12, hf⟩ := bind_r hf
    refine k_callVi C hw (n := 2) (As := [.int v1, .int v2]) (w1 := (wX7_divide dA ht ht_ring ht_standing ht_fewest ht_movesTo ht_ring_cells ht_ring_places ht_ring_facts ht_standing_degree ht_standing_voice ht_standing_loud ht_standing_sharp ht_standing_hears ht_standing_tooNear t_lands t_moves t_fewest t_ring_lands t_ring_things t_ring_placeCount t_ring_apart t_ring_thereFirst t_ring_places t_ring_facts t_standing_degree t_movesTo)) (wr := [(ht_fewest, .inl (dA 0, 64, .inl t_fewest)), (ht_movesTo, .inl (dA 0, 6, .inl t_movesTo))]) [0, 2, 3, 4, 5, 6] [1, 7] [2, 0, 3, 4, 5, 6, 7, 1] rfl rfl (by decide) (by decide) (by decide) rfl (by decide) (qX7_movesOf l D dA ht ht_ring ht_standing ht_fewest ht_movesTo ht_ring_cells ht_ring_places ht_ring_facts ht_standing_degree ht_standing_voice ht_standing_loud ht_standing_sharp ht_standing_hears ht_standing_tooNear t_lands t_moves t_ring_lands t_ring_things t_ring_placeCount t_ring_apart t_ring_thereFirst t_ring_places t_ring_facts t_standing_degree v1 v2 N _ ho12) wlX7_42 wmX7_movesOf wvX7_movesOf wnX7 wcX7_movesOf rfl (by decide +kernel) ⟨Nat.le_trans (by decide) hR.1, Nat.le_trans (by decide) hR.2.1⟩ hR.2.2 rfl 0 rfl rfl hl.1 (Nat.le_of_ble_eq_true rfl) dX7_divide_63 rfl (fun H locs hw => ?_)
    obtain ⟨g13, hf⟩ := gdi_r hf
    obtain ⟨y14, ey14⟩ : ∃ z : Nat → Int32, z = upd t_movesTo v2.toNatClampNeg o12 := ⟨_, rfl⟩
    have hf := bnd_r ey14 hf
    refine k_iast C hw 7 rfl g13 dX7_divide_66 y14 ey14 (wX7_divide dA ht ht_ring ht_standing ht_fewest ht_movesTo ht_ring_cells ht_ring_places ht_ring_facts ht_standing_degree ht_standing_voice ht_standing_loud ht_standing_sharp ht_standing_hears ht_standing_tooNear t_lands t_moves t_fewest t_ring_lands t_ring_things t_ring_placeCount t_ring_apart t_ring_thereFirst t_ring_places t_ring_facts t_standing_degree y14) rfl (fun H locs hw => ?_)
    obtain ⟨x15, ex15⟩ : ∃ y : Int32, y = v2 + (1 : Int32) := ⟨_, rfl⟩
    have hf := bnd_r ex15 hf
    refine lv_iinc (v := x15) (lv' := [(2, .int x15), (0, .ref ht), (1, .int v1)]) hx hb dX7_divide_67 hl (k := 2) rfl (by rw [ex15]; rfl) (by decide) rfl (fun ls hl => ?_)
    refine lv_goto (tgt := 44) hx hb dX7_divide_70 (by decide) ?_
    obtain rfl := some_r hf
    exact hK _ _ _ (lv_sub hl [1, 2, 0] rfl) hw
set_option maxHeartbeats 4000000 in
theorem tX7_divide_l44 {p : Program} {l : Launch} {e : Env} {R : Room} {s : State} {m : MethodId} {args : Array Value} {below : List Frame} {meth : Method} {c : Code} {D : va_G} {dA : Nat → ClassId} {w0 : va_W} {Q : State → Prop} {H : Heap} {locs : List Loc} {ls : Array Slot} {cells slots : Nat} (C : CX p s m args meth c cX7_divide 3 none RX7 D dA) (ht ht_ring ht_standing ht_fewest ht_movesTo ht_ring_cells ht_ring_places ht_ring_facts ht_standing_degree ht_standing_voice ht_standing_loud ht_standing_sharp ht_standing_hears ht_standing_tooNear : Nat) (hR : 2 ≤ R.frames ∧ 49 ≤ R.locals ∧ cells ≤ R.cells ∧ slots ≤ R.slots)  (t_lands : Int32) (t_moves : Int32) (t_fewest : (Nat → Int32)) (t_ring_lands : Int32) (t_ring_things : Int32) (t_ring_placeCount : Int32) (t_ring_apart : Int32) (t_ring_thereFirst : Int32) (t_ring_places : (Nat → Int32)) (t_ring_facts : (Nat → Int32)) (t_standing_degree : (Nat → Int32)) (t_movesTo : (Nat → Int32)) (v1 : Int32) (v2 : Int32) (N n : Nat) (res : ((Nat → Int32))) (hf : itr (fun z => fX7_divide_l44b N t_lands t_moves t_fewest t_ring_lands t_ring_things t_ring_placeCount t_ring_places t_ring_facts t_standing_degree v1 z.1 z.2) n (t_movesTo, v2) = some res) (hK : (∀ (H : Heap) (locs : List Loc) (ls : Array Slot), lv_has ls 3 [(0, .ref ht), (1, .int v1)] → St D w0 s (wX7_divide dA ht ht_ring ht_standing ht_fewest ht_movesTo ht_ring_cells ht_ring_places ht_ring_facts ht_standing_degree ht_standing_voice ht_standing_loud ht_standing_sharp ht_standing_hears ht_standing_tooNear t_lands t_moves t_fewest t_ring_lands t_ring_things t_ring_placeCount t_ring_apart t_ring_thereFirst t_ring_places t_ring_facts t_standing_degree res) H locs → W p l e R s m args below meth c H locs cells slots Q (F0 m 73 ls []))) (hl : lv_has ls 3 [(0, .ref ht), (1, .int v1), (2, .int v2)]) (hw : St D w0 s (wX7_divide dA ht ht_ring ht_standing ht_fewest ht_movesTo ht_ring_cells ht_ring_places ht_ring_facts ht_standing_degree ht_standing_voice ht_standing_loud ht_standing_sharp ht_standing_hears ht_standing_tooNear t_lands t_moves t_fewest t_ring_lands t_ring_things t_ring_placeCount t_ring_apart t_ring_thereFirst t_ring_places t_ring_facts t_standing_degree t_movesTo) H locs) : W p l e R s m args below meth c H locs cells slots Q (F0 m 44 ls []) :=
  itr_W (P := fun (z : ((Nat → Int32) × Int32)) => (∀ (H : Heap) (locs : List Loc) (ls : Array Slot), lv_has ls 3 [(0, .ref ht), (1, .int v1), (2, .int z.2)] → St D w0 s (wX7_divide dA ht ht_ring ht_standing ht_fewest ht_movesTo ht_ring_cells ht_ring_places ht_ring_facts ht_standing_degree ht_standing_voice ht_standing_loud ht_standing_sharp ht_standing_hears ht_standing_tooNear t_lands t_moves t_fewest t_ring_lands t_ring_things t_ring_placeCount t_ring_apart t_ring_thereFirst t_ring_places t_ring_facts t_standing_degree z.1) H locs → W p l e R s m args below meth c H locs cells slots Q (F0 m 44 ls []))) (K := fun res => (∀ (H : Heap) (locs : List Loc) (ls : Array Slot), lv_has ls 3 [(0, .ref ht), (1, .int v1)] → St D w0 s (wX7_divide dA ht ht_ring ht_standing ht_fewest ht_movesTo ht_ring_cells ht_ring_places ht_ring_facts ht_standing_degree ht_standing_voice ht_standing_loud ht_standing_sharp ht_standing_hears ht_standing_tooNear t_lands t_moves t_fewest t_ring_lands t_ring_things t_ring_placeCount t_ring_apart t_ring_thereFirst t_ring_places t_ring_facts t_standing_degree res) H locs → W p l e R s m args below meth c H locs cells slots Q (F0 m 73 ls []))) (fun z r hf hK H locs ls hl hw => tX7_divide_l44b C ht ht_ring ht_standing ht_fewest ht_movesTo ht_ring_cells ht_ring_places ht_ring_facts ht_standing_degree ht_standing_voice ht_standing_loud ht_standing_sharp ht_standing_hears ht_standing_tooNear hR t_lands t_moves t_fewest t_ring_lands t_ring_things t_ring_placeCount t_ring_apart t_ring_thereFirst t_ring_places t_ring_facts t_standing_degree z.1 v1 z.2 N r hf (by cases r with
    | inl r => exact hK
    | inr r => exact hK) hl hw) n _ res hf hK H locs ls hl hw
set_option maxHeartbeats 4000000 in
set_option maxRecDepth 100000 in
theorem tX7_divide_l31b {p : Program} {l : Launch} {e : Env} {R : Room} {s : State} {m : MethodId} {args : Array Value} {below : List Frame} {meth : Method} {c : Code} {D : va_G} {dA : Nat → ClassId} {w0 : va_W} {Q : State → Prop} {H : Heap} {locs : List Loc} {ls : Array Slot} {cells slots : Nat} (C : CX p s m args meth c cX7_divide 3 none RX7 D dA) (ht ht_ring ht_standing ht_fewest ht_movesTo ht_ring_cells ht_ring_places ht_ring_facts ht_standing_degree ht_standing_voice ht_standing_loud ht_standing_sharp ht_standing_hears ht_standing_tooNear : Nat) (hR : 2 ≤ R.frames ∧ 49 ≤ R.locals ∧ cells ≤ R.cells ∧ slots ≤ R.slots)  (t_lands : Int32) (t_moves : Int32) (t_fewest : (Nat → Int32)) (t_ring_lands : Int32) (t_ring_things : Int32) (t_ring_placeCount : Int32) (t_ring_apart : Int32) (t_ring_thereFirst : Int32) (t_ring_places : (Nat → Int32)) (t_ring_facts : (Nat → Int32)) (t_standing_degree : (Nat → Int32)) (t_movesTo : (Nat → Int32)) (v1 : Int32) (N : Nat) (res : (((Nat → Int32) × (Nat → Int32) × Int32) ⊕ ((Nat → Int32) × (Nat → Int32)))) (hf : fX7_divide_l31b N t_lands t_moves t_ring_lands t_ring_things t_ring_placeCount t_ring_places t_ring_facts t_standing_degree t_fewest t_movesTo v1 = some res) (hK : Sum.elim (fun z => (∀ (H : Heap) (locs : List Loc) (ls : Array Slot), lv_has ls 3 [(0, .ref ht), (1, .int z.2.2)] → St D w0 s (wX7_divide dA ht ht_ring ht_standing ht_fewest ht_movesTo ht_ring_cells ht_ring_places ht_ring_facts ht_standing_degree ht_standing_voice ht_standing_loud ht_standing_sharp ht_standing_hears ht_standing_tooNear t_lands t_moves z.1 t_ring_lands t_ring_things t_ring_placeCount t_ring_apart t_ring_thereFirst t_ring_places t_ring_facts t_standing_degree z.2.1) H locs → W p l e R s m args below meth c H locs cells slots Q (F0 m 31 ls []))) (fun r => (∀ (H : Heap) (locs : List Loc) (ls : Array Slot), lv_has ls 3 [(0, .ref ht)] → St D w0 s (wX7_divide dA ht ht_ring ht_standing ht_fewest ht_movesTo ht_ring_cells ht_ring_places ht_ring_facts ht_standing_degree ht_standing_voice ht_standing_loud ht_standing_sharp ht_standing_hears ht_standing_tooNear t_lands t_moves r.1 t_ring_lands t_ring_things t_ring_placeCount t_ring_apart t_ring_thereFirst t_ring_places t_ring_facts t_standing_degree r.2) H locs → W p l e R s m args below meth c H locs cells slots Q (F0 m 83 ls []))) res) (hl : lv_has ls 3 [(0, .ref ht), (1, .int v1)]) (hw : St D w0 s (wX7_divide dA ht ht_ring ht_standing ht_fewest ht_movesTo ht_ring_cells ht_ring_places ht_ring_facts ht_standing_degree ht_standing_voice ht_standing_loud ht_standing_sharp ht_standing_hears ht_standing_tooNear t_lands t_moves t_fewest t_ring_lands t_ring_things t_ring_placeCount t_ring_apart t_ring_thereFirst t_ring_places t_ring_facts t_standing_degree t_movesTo) H locs) : W p l e R s m args below meth c H locs cells slots Q (F0 m 31 ls []) := by
  have hx := C.1
  have hb := C.2.1
  have hml := C.2.2.1
  have hown := C.2.2.2.1
  have hts := C.2.2.2.2.1
  unfold fX7_divide_l31b at hf
  refine lv_iload_n hx hb dX7_divide_31 rfl (lv_at hl 1 rfl) ?_
  refine lv_aload_n hx hb dX7_divide_32 rfl (lv_at hl 0 rfl) ?_
  refine k_get C hw 0 rfl rfl wiX7 2 (by decide) wfX7_31 rfl dX7_divide_33 ?_
  refine k_get C hw 2 rfl rfl wiX5 2 (by decide) wfX7_36 rfl dX7_divide_36 ?_
  refine lv_icmp_ge (tgt := 83) hx hb dX7_divide_39 (by decide) (fun c10 => ?_) (fun c10 => ?_)
  · have hf := ite_t c10 hf
    obtain rfl := some_r hf
    exact hK _ _ _ (lv_sub hl [0] rfl) hw
  · have hf := ite_f c10 hf
    refine lv_iconst (v := (0 : Int32)) hx hb dX7_divide_42 (by decide) ?_
    refine lv_istore_n (lv' := [(2, .int (0 : Int32)), (0, .ref ht), (1, .int v1)]) hx hb dX7_divide_43 rfl hl (by decide) rfl (fun ls hl => ?_)
    obtain ⟨q16, hq16, hf⟩ := bind_r hf
    refine tX7_divide_l44 C ht ht_ring ht_standing ht_fewest ht_movesTo ht_ring_cells ht_ring_places ht_ring_facts ht_standing_degree ht_standing_voice ht_standing_loud ht_standing_sharp ht_standing_hears ht_standing_tooNear hR t_lands t_moves t_fewest t_ring_lands t_ring_things t_ring_placeCount t_ring_apart t_ring_thereFirst t_ring_places t_ring_facts t_standing_degree t_movesTo v1 (0 : Int32) N _ _ hq16 ?_ (lv_sub hl [1, 2, 0] rfl) hw
    intro H locs ls hl hw
    refine lv_aload_n hx hb dX7_divide_73 rfl (lv_at hl 0 rfl) ?_
    obtain ⟨o17, ho17, hf⟩ := bind_r hf
    refine k_callVv C hw (n := 0) (As := []) (w1 := (wX7_divide dA ht ht_ring ht_standing ht_fewest ht_movesTo ht_ring_cells ht_ring_places ht_ring_facts ht_standing_degree ht_standing_voice ht_standing_loud ht_standing_sharp ht_standing_hears ht_standing_tooNear t_lands t_moves o17 t_ring_lands t_ring_things t_ring_placeCount t_ring_apart t_ring_thereFirst t_ring_places t_ring_facts t_standing_degree q16)) (wr := [(ht_ring_places, .inl (dA 0, 6, .inl t_ring_places)), (ht_ring_facts, .inl (dA 0, 224, .inl t_ring_facts)), (ht_standing, .inr (8, [.ref ht_ring, .ref ht_standing_degree, .ref ht_standing_voice, .ref ht_standing_loud, .ref ht_standing_sharp, .ref ht_standing_hears, .ref ht_standing_tooNear])), (ht_standing_degree, .inl (dA 0, 16, .inl t_standing_degree))]) [0, 2, 7, 1] [3, 4, 5, 6] [4, 7, 5, 0, 1, 2, 3, 6] rfl rfl (by decide) (by decide) (by decide) rfl (by decide) (qX7_addLand l D dA ht ht_ring ht_standing ht_fewest ht_movesTo ht_ring_cells ht_ring_places ht_ring_facts t_lands t_moves t_ring_lands t_ring_things t_ring_placeCount t_ring_apart t_ring_thereFirst q16 t_fewest  N _ ho17) wlX7_46 wmX7_addLand wvX7_addLand wnX7 wcX7_addLand rfl (by decide +kernel) ⟨Nat.le_trans (by decide) hR.1, Nat.le_trans (by decide) hR.2.1⟩ hR.2.2 rfl 0 rfl rfl hl.1 (Nat.le_of_ble_eq_true rfl) dX7_divide_74 rfl (fun H locs hw => ?_)
    obtain ⟨x18, ex18⟩ : ∃ y : Int32, y = v1 + (1 : Int32) := ⟨_, rfl⟩
    have hf := bnd_r ex18 hf
    refine lv_iinc (v := x18) (lv' := [(1, .int x18), (0, .ref ht)]) hx hb dX7_divide_77 hl (k := 1) rfl (by rw [ex18]; rfl) (by decide) rfl (fun ls hl => ?_)
    refine lv_goto (tgt := 31) hx hb dX7_divide_80 (by decide) ?_
    obtain rfl := some_r hf
    exact hK _ _ _ (lv_sub hl [1, 0] rfl) hw
set_option maxHeartbeats 4000000 in
theorem tX7_divide_l31 {p : Program} {l : Launch} {e : Env} {R : Room} {s : State} {m : MethodId} {args : Array Value} {below : List Frame} {meth : Method} {c : Code} {D : va_G} {dA : Nat → ClassId} {w0 : va_W} {Q : State → Prop} {H : Heap} {locs : List Loc} {ls : Array Slot} {cells slots : Nat} (C : CX p s m args meth c cX7_divide 3 none RX7 D dA) (ht ht_ring ht_standing ht_fewest ht_movesTo ht_ring_cells ht_ring_places ht_ring_facts ht_standing_degree ht_standing_voice ht_standing_loud ht_standing_sharp ht_standing_hears ht_standing_tooNear : Nat) (hR : 2 ≤ R.frames ∧ 49 ≤ R.locals ∧ cells ≤ R.cells ∧ slots ≤ R.slots)  (t_lands : Int32) (t_moves : Int32) (t_fewest : (Nat → Int32)) (t_ring_lands : Int32) (t_ring_things : Int32) (t_ring_placeCount : Int32) (t_ring_apart : Int32) (t_ring_thereFirst : Int32) (t_ring_places : (Nat → Int32)) (t_ring_facts : (Nat → Int32)) (t_standing_degree : (Nat → Int32)) (t_movesTo : (Nat → Int32)) (v1 : Int32) (N n : Nat) (res : ((Nat → Int32) × (Nat → Int32))) (hf : itr (fun z => fX7_divide_l31b N t_lands t_moves t_ring_lands t_ring_things t_ring_placeCount t_ring_places t_ring_facts t_standing_degree z.1 z.2.1 z.2.2) n (t_fewest, t_movesTo, v1) = some res) (hK : (∀ (H : Heap) (locs : List Loc) (ls : Array Slot), lv_has ls 3 [(0, .ref ht)] → St D w0 s (wX7_divide dA ht ht_ring ht_standing ht_fewest ht_movesTo ht_ring_cells ht_ring_places ht_ring_facts ht_standing_degree ht_standing_voice ht_standing_loud ht_standing_sharp ht_standing_hears ht_standing_tooNear t_lands t_moves res.1 t_ring_lands t_ring_things t_ring_placeCount t_ring_apart t_ring_thereFirst t_ring_places t_ring_facts t_standing_degree res.2) H locs → W p l e R s m args below meth c H locs cells slots Q (F0 m 83 ls []))) (hl : lv_has ls 3 [(0, .ref ht), (1, .int v1)]) (hw : St D w0 s (wX7_divide dA ht ht_ring ht_standing ht_fewest ht_movesTo ht_ring_cells ht_ring_places ht_ring_facts ht_standing_degree ht_standing_voice ht_standing_loud ht_standing_sharp ht_standing_hears ht_standing_tooNear t_lands t_moves t_fewest t_ring_lands t_ring_things t_ring_placeCount t_ring_apart t_ring_thereFirst t_ring_places t_ring_facts t_standing_degree t_movesTo) H locs) : W p l e R s m args below meth c H locs cells slots Q (F0 m 31 ls []) :=
  itr_W (P := fun (z : ((Nat → Int32) × (Nat → Int32) × Int32)) => (∀ (H : Heap) (locs : List Loc) (ls : Array Slot), lv_has ls 3 [(0, .ref ht), (1, .int z.2.2)] → St D w0 s (wX7_divide dA ht ht_ring ht_standing ht_fewest ht_movesTo ht_ring_cells ht_ring_places ht_ring_facts ht_standing_degree ht_standing_voice ht_standing_loud ht_standing_sharp ht_standing_hears ht_standing_tooNear t_lands t_moves z.1 t_ring_lands t_ring_things t_ring_placeCount t_ring_apart t_ring_thereFirst t_ring_places t_ring_facts t_standing_degree z.2.1) H locs → W p l e R s m args below meth c H locs cells slots Q (F0 m 31 ls []))) (K := fun res => (∀ (H : Heap) (locs : List Loc) (ls : Array Slot), lv_has ls 3 [(0, .ref ht)] → St D w0 s (wX7_divide dA ht ht_ring ht_standing ht_fewest ht_movesTo ht_ring_cells ht_ring_places ht_ring_facts ht_standing_degree ht_standing_voice ht_standing_loud ht_standing_sharp ht_standing_hears ht_standing_tooNear t_lands t_moves res.1 t_ring_lands t_ring_things t_ring_placeCount t_ring_apart t_ring_thereFirst t_ring_places t_ring_facts t_standing_degree res.2) H locs → W p l e R s m args below meth c H locs cells slots Q (F0 m 83 ls []))) (fun z r hf hK H locs ls hl hw => tX7_divide_l31b C ht ht_ring ht_standing ht_fewest ht_movesTo ht_ring_cells ht_ring_places ht_ring_facts ht_standing_degree ht_standing_voice ht_standing_loud ht_standing_sharp ht_standing_hears ht_standing_tooNear hR t_lands t_moves z.1 t_ring_lands t_ring_things t_ring_placeCount t_ring_apart t_ring_thereFirst t_ring_places t_ring_facts t_standing_degree z.2.1 z.2.2 N r hf (by cases r with
    | inl r => exact hK
    | inr r => exact hK) hl hw) n _ res hf hK H locs ls hl hw
set_option maxHeartbeats 4000000 in
set_option maxRecDepth 100000 in
theorem qX7_divide (l : Launch) (D : va_G) (dA : Nat → ClassId) (ht ht_ring ht_standing ht_fewest ht_movesTo ht_ring_cells ht_ring_places ht_ring_facts ht_standing_degree ht_standing_voice ht_standing_loud ht_standing_sharp ht_standing_hears ht_standing_tooNear : Nat) (t_lands : Int32) (t_moves : Int32) (t_fewest : (Nat → Int32)) (t_ring_lands : Int32) (t_ring_things : Int32) (t_ring_placeCount : Int32) (t_ring_apart : Int32) (t_ring_thereFirst : Int32) (t_ring_places : (Nat → Int32)) (t_ring_facts : (Nat → Int32)) (t_standing_degree : (Nat → Int32)) (t_movesTo : (Nat → Int32))  (N : Nat) (o : Int32 × Int32 × (Nat → Int32) × (Nat → Int32)) (hf : fX7_divide N t_lands t_moves t_fewest t_ring_lands t_ring_things t_ring_placeCount t_ring_places t_ring_facts t_standing_degree t_movesTo = some o) : Mv l D dA yX7_divide (Cond.code yX7_divide cX7_divide 3 none :: wA) 2 49 [.ref ht] (wX7_divide dA ht ht_ring ht_standing ht_fewest ht_movesTo ht_ring_cells ht_ring_places ht_ring_facts ht_standing_degree ht_standing_voice ht_standing_loud ht_standing_sharp ht_standing_hears ht_standing_tooNear t_lands t_moves t_fewest t_ring_lands t_ring_things t_ring_placeCount t_ring_apart t_ring_thereFirst t_ring_places t_ring_facts t_standing_degree t_movesTo) (wX7_divide dA ht ht_ring ht_standing ht_fewest ht_movesTo ht_ring_cells ht_ring_places ht_ring_facts ht_standing_degree ht_standing_voice ht_standing_loud ht_standing_sharp ht_standing_hears ht_standing_tooNear o.1 o.2.1 o.2.2.1 t_ring_lands t_ring_things t_ring_placeCount t_ring_apart t_ring_thereFirst t_ring_places t_ring_facts t_standing_degree o.2.2.2) := by
  intro sz
  refine M_of (cc := cX7_divide) (nL := 3) (ret := none) (own := RX7) (by decide +kernel) rfl (Nat.le_of_ble_eq_true rfl) ?_
  intro p e s m below meth c ls hsz C hw hl
  subst hsz
  have hR : 2 ≤ (rmm 2 49).frames ∧ 49 ≤ (rmm 2 49).locals ∧ 0 ≤ (rmm 2 49).cells ∧ 0 ≤ (rmm 2 49).slots := ⟨Nat.le_refl _, Nat.le_refl _, Nat.le_refl _, Nat.le_refl _⟩
  have hl : lv_has ls 3 [(0, .ref ht)] := hl
  have hx := C.1
  have hb := C.2.1
  have hml := C.2.2.1
  have hown := C.2.2.2.1
  have hts := C.2.2.2.2.1
  have hK : ∀ (H : Heap) (locs : List Loc) (pc : Nat) (ls : Array Slot), decode cX7_divide pc = .ok (.return_, 1) → St D (wX7_divide dA ht ht_ring ht_standing ht_fewest ht_movesTo ht_ring_cells ht_ring_places ht_ring_facts ht_standing_degree ht_standing_voice ht_standing_loud ht_standing_sharp ht_standing_hears ht_standing_tooNear t_lands t_moves t_fewest t_ring_lands t_ring_things t_ring_placeCount t_ring_apart t_ring_thereFirst t_ring_places t_ring_facts t_standing_degree t_movesTo) s (wX7_divide dA ht ht_ring ht_standing ht_fewest ht_movesTo ht_ring_cells ht_ring_places ht_ring_facts ht_standing_degree ht_standing_voice ht_standing_loud ht_standing_sharp ht_standing_hears ht_standing_tooNear o.1 o.2.1 o.2.2.1 t_ring_lands t_ring_things t_ring_placeCount t_ring_apart t_ring_thereFirst t_ring_places t_ring_facts t_standing_degree o.2.2.2) H locs → W p l e (rmm 2 49) s m [.ref ht].toArray below meth c H locs 0 0 (MQ below (Qv D (wX7_divide dA ht ht_ring ht_standing ht_fewest ht_movesTo ht_ring_cells ht_ring_places ht_ring_facts ht_standing_degree ht_standing_voice ht_standing_loud ht_standing_sharp ht_standing_hears ht_standing_tooNear t_lands t_moves t_fewest t_ring_lands t_ring_things t_ring_placeCount t_ring_apart t_ring_thereFirst t_ring_places t_ring_facts t_standing_degree t_movesTo) (wX7_divide dA ht ht_ring ht_standing ht_fewest ht_movesTo ht_ring_cells ht_ring_places ht_ring_facts ht_standing_degree ht_standing_voice ht_standing_loud ht_standing_sharp ht_standing_hears ht_standing_tooNear o.1 o.2.1 o.2.2.1 t_ring_lands t_ring_things t_ring_placeCount t_ring_apart t_ring_thereFirst t_ring_places t_ring_facts t_standing_degree o.2.2.2) s.heap.size) [.ref ht].toArray s 0 0 (va_A (wX7_divide dA ht ht_ring ht_standing ht_fewest ht_movesTo ht_ring_cells ht_ring_places ht_ring_facts ht_standing_degree ht_standing_voice ht_standing_loud ht_standing_sharp ht_standing_hears ht_standing_tooNear t_lands t_moves t_fewest t_ring_lands t_ring_things t_ring_placeCount t_ring_apart t_ring_thereFirst t_ring_places t_ring_facts t_standing_degree t_movesTo) s.heap.size)) (F0 m pc ls []) := fun H locs pc ls hd hw => k_vret C hw hd
  unfold fX7_divide at hf
  refine lv_iconst (v := (0 : Int32)) hx hb dX7_divide_0 (by decide) ?_
  refine lv_istore_n (lv' := [(1, .int (0 : Int32)), (0, .ref ht)]) hx hb dX7_divide_1 rfl hl (by decide) rfl (fun ls hl => ?_)
  obtain ⟨q9, hq9, hf⟩ := bind_r hf
  refine tX7_divide_l2 C ht ht_ring ht_standing ht_fewest ht_movesTo ht_ring_cells ht_ring_places ht_ring_facts ht_standing_degree ht_standing_voice ht_standing_loud ht_standing_sharp ht_standing_hears ht_standing_tooNear hR t_lands t_moves t_fewest t_ring_lands t_ring_things t_ring_placeCount t_ring_apart t_ring_thereFirst t_ring_places t_ring_facts t_standing_degree t_movesTo (0 : Int32) N _ _ hq9 ?_ (lv_sub hl [1, 0] rfl) hw
  intro H locs ls hl hw
  refine lv_iconst (v := (0 : Int32)) hx hb dX7_divide_29 (by decide) ?_
  refine lv_istore_n (lv' := [(1, .int (0 : Int32)), (0, .ref ht)]) hx hb dX7_divide_30 rfl hl (by decide) rfl (fun ls hl => ?_)
  obtain ⟨q19, hq19, hf⟩ := bind_r hf
  refine tX7_divide_l31 C ht ht_ring ht_standing ht_fewest ht_movesTo ht_ring_cells ht_ring_places ht_ring_facts ht_standing_degree ht_standing_voice ht_standing_loud ht_standing_sharp ht_standing_hears ht_standing_tooNear hR t_lands t_moves q9 t_ring_lands t_ring_things t_ring_placeCount t_ring_apart t_ring_thereFirst t_ring_places t_ring_facts t_standing_degree t_movesTo (0 : Int32) N _ _ hq19 ?_ (lv_sub hl [1, 0] rfl) hw
  intro H locs ls hl hw
  refine lv_aload_n hx hb dX7_divide_83 rfl (lv_at hl 0 rfl) ?_
  obtain ⟨o20, ho20, hf⟩ := bind_r hf
  refine k_callVv C hw (n := 0) (As := []) (w1 := (wX7_divide dA ht ht_ring ht_standing ht_fewest ht_movesTo ht_ring_cells ht_ring_places ht_ring_facts ht_standing_degree ht_standing_voice ht_standing_loud ht_standing_sharp ht_standing_hears ht_standing_tooNear o20.1 o20.2 q19.1 t_ring_lands t_ring_things t_ring_placeCount t_ring_apart t_ring_thereFirst t_ring_places t_ring_facts t_standing_degree q19.2)) (wr := [(ht_ring, .inr (5, [.ref ht_ring_cells, .ref ht_ring_places, .int t_ring_lands, .int t_ring_things, .int t_ring_placeCount, .int t_ring_apart, .int t_ring_thereFirst, .ref ht_ring_facts])), (ht_ring_places, .inl (dA 0, 6, .inl t_ring_places)), (ht_ring_facts, .inl (dA 0, 224, .inl t_ring_facts)), (ht_standing, .inr (8, [.ref ht_ring, .ref ht_standing_degree, .ref ht_standing_voice, .ref ht_standing_loud, .ref ht_standing_sharp, .ref ht_standing_hears, .ref ht_standing_tooNear])), (ht_standing_degree, .inl (dA 0, 16, .inl t_standing_degree)), (ht_movesTo, .inl (dA 0, 6, .inl q19.2))]) [0, 1] [2, 3, 4, 5, 6, 7] [6, 7, 0, 1, 2, 3, 4, 5] rfl rfl (by decide) (by decide) (by decide) rfl (by decide) (qX7_pickBest l D dA ht ht_ring ht_standing ht_fewest ht_movesTo t_lands t_moves q19.1  N _ ho20) wlX7_49 wmX7_pickBest wvX7_pickBest wnX7 wcX7_pickBest rfl (by decide +kernel) ⟨Nat.le_trans (by decide) hR.1, Nat.le_trans (by decide) hR.2.1⟩ hR.2.2 rfl 0 rfl rfl hl.1 (Nat.le_of_ble_eq_true rfl) dX7_divide_84 rfl (fun H locs hw => ?_)
  obtain rfl := some_r hf
  exact hK _ _ _ _ dX7_divide_87 hw
