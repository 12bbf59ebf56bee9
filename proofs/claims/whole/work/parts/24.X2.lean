/-! RingPlaces$Orders.spotBehind([III)I -/
abbrev wX2_spotBehind (dA : Nat → ClassId) (ht ht_answer ht_ring ht_sorted ht_order ht_spot hq1 ht_ring_cells ht_ring_places ht_ring_facts nq1 : Nat) (t_answerLength : Int32) (t_length : Int32) (t_best : Int32) (q1 : (Nat → Int32)) (t_ring_lands : Int32) (t_ring_things : Int32) (t_ring_placeCount : Int32) (t_ring_apart : Int32) (t_ring_thereFirst : Int32) (t_ring_cells : (Nat → Int64)) (t_ring_facts : (Nat → Int32)) (t_spot : (Nat → Int32)) : va_W := [(ht, .inr (2, [.ref ht_answer, .int t_answerLength, .ref ht_ring, .ref ht_sorted, .ref ht_order, .ref ht_spot, .int t_length, .int t_best])), (hq1, .inl (dA 0, nq1, .inl q1)), (ht_ring, .inr (5, [.ref ht_ring_cells, .ref ht_ring_places, .int t_ring_lands, .int t_ring_things, .int t_ring_placeCount, .int t_ring_apart, .int t_ring_thereFirst, .ref ht_ring_facts])), (ht_ring_cells, .inl (dA 1, 16, .inr (.inl t_ring_cells))), (ht_ring_facts, .inl (dA 0, 224, .inl t_ring_facts)), (ht_spot, .inl (dA 0, 12, .inl t_spot))]
def fX2_spotBehind_l6b (N : Nat) (nq1 : Nat) (q1 : (Nat → Int32)) (t_ring_apart : Int32) (t_ring_cells : (Nat → Int64)) (t_ring_facts : (Nat → Int32)) (t_spot : (Nat → Int32)) (v2 : Int32) (v3 : Int32) (v4 : Int32) (v5 : Int32) : Option ((Int32 × Int32) ⊕ ((Int32) ⊕ (Int32))) := (if v2 ≤ v5 then some (.inr (.inl v4)) else gdi v5 nq1 ((fX5_needOf t_ring_apart t_ring_cells t_ring_facts (q1 v5.toNatClampNeg) v3).bind fun o3 => (if o3 = (-1 : Int32) then some (.inr (.inr (-1 : Int32))) else gdi v5 12 (bnd (if v4 < ((t_spot v5.toNatClampNeg) + o3) then ((t_spot v5.toNatClampNeg) + o3) else v4) fun x6 => bnd (v5 + (1 : Int32)) fun x7 => some (.inl (x6, x7))))))
def fX2_spotBehind (N : Nat) (nq1 : Nat) (q1 : (Nat → Int32)) (t_ring_apart : Int32) (t_ring_cells : (Nat → Int64)) (t_ring_facts : (Nat → Int32)) (t_spot : (Nat → Int32)) (x2_ : Int32) (x3_ : Int32) : Option (Int32) := (itr (fun z => fX2_spotBehind_l6b N nq1 q1 t_ring_apart t_ring_cells t_ring_facts t_spot x2_ x3_ z.1 z.2) N ((0 : Int32), (0 : Int32))).bind fun q8 => Sum.elim (fun q8 => some q8) (fun q8 => some q8) q8
set_option maxHeartbeats 4000000 in
set_option maxRecDepth 100000 in
theorem tX2_spotBehind_l6b {p : Program} {l : Launch} {e : Env} {R : Room} {s : State} {m : MethodId} {args : Array Value} {below : List Frame} {meth : Method} {c : Code} {D : va_G} {dA : Nat → ClassId} {w0 : va_W} {Q : State → Prop} {H : Heap} {locs : List Loc} {ls : Array Slot} {cells slots : Nat} (C : CX p s m args meth c cX2_spotBehind 7 (some .int) RX2 D dA) (ht ht_answer ht_ring ht_sorted ht_order ht_spot hq1 ht_ring_cells ht_ring_places ht_ring_facts nq1 : Nat) (hR : 3 ≤ R.frames ∧ 71 ≤ R.locals ∧ cells ≤ R.cells ∧ slots ≤ R.slots)  (t_answerLength : Int32) (t_length : Int32) (t_best : Int32) (q1 : (Nat → Int32)) (t_ring_lands : Int32) (t_ring_things : Int32) (t_ring_placeCount : Int32) (t_ring_apart : Int32) (t_ring_thereFirst : Int32) (t_ring_cells : (Nat → Int64)) (t_ring_facts : (Nat → Int32)) (t_spot : (Nat → Int32)) (v2 : Int32) (v3 : Int32) (v4 : Int32) (v5 : Int32) (N : Nat) (res : ((Int32 × Int32) ⊕ ((Int32) ⊕ (Int32)))) (hf : fX2_spotBehind_l6b N nq1 q1 t_ring_apart t_ring_cells t_ring_facts t_spot v2 v3 v4 v5 = some res) (hK : Sum.elim (fun z => (∀ (H : Heap) (locs : List Loc) (ls : Array Slot), lv_has ls 7 [(0, .ref ht), (1, .ref hq1), (2, .int v2), (3, .int v3), (4, .int z.1), (5, .int z.2)] → St D w0 s (wX2_spotBehind dA ht ht_answer ht_ring ht_sorted ht_order ht_spot hq1 ht_ring_cells ht_ring_places ht_ring_facts nq1 t_answerLength t_length t_best q1 t_ring_lands t_ring_things t_ring_placeCount t_ring_apart t_ring_thereFirst t_ring_cells t_ring_facts t_spot) H locs → W p l e R s m args below meth c H locs cells slots Q (F0 m 6 ls []))) (fun r => Sum.elim (fun q => (∀ (H : Heap) (locs : List Loc) (ls : Array Slot), lv_has ls 7 [(4, .int q)] → St D w0 s (wX2_spotBehind dA ht ht_answer ht_ring ht_sorted ht_order ht_spot hq1 ht_ring_cells ht_ring_places ht_ring_facts nq1 t_answerLength t_length t_best q1 t_ring_lands t_ring_things t_ring_placeCount t_ring_apart t_ring_thereFirst t_ring_cells t_ring_facts t_spot) H locs → W p l e R s m args below meth c H locs cells slots Q (F0 m 57 ls []))) (fun o => (∀ (H : Heap) (locs : List Loc) (pc : Nat) (ls : Array Slot), decode cX2_spotBehind pc = .ok (.ireturn, 1) → St D w0 s (wX2_spotBehind dA ht ht_answer ht_ring ht_sorted ht_order ht_spot hq1 ht_ring_cells ht_ring_places ht_ring_facts nq1 t_answerLength t_length t_best q1 t_ring_lands t_ring_things t_ring_placeCount t_ring_apart t_ring_thereFirst t_ring_cells t_ring_facts t_spot) H locs → W p l e R s m args below meth c H locs cells slots Q (F0 m pc ls [.int o]))) r) res) (hl : lv_has ls 7 [(0, .ref ht), (1, .ref hq1), (2, .int v2), (3, .int v3), (4, .int v4), (5, .int v5)]) (hw : St D w0 s (wX2_spotBehind dA ht ht_answer ht_ring ht_sorted ht_order ht_spot hq1 ht_ring_cells ht_ring_places ht_ring_facts nq1 t_answerLength t_length t_best q1 t_ring_lands t_ring_things t_ring_placeCount t_ring_apart t_ring_thereFirst t_ring_cells t_ring_facts t_spot) H locs) : W p l e R s m args below meth c H locs cells slots Q (F0 m 6 ls []) := by
  have hx := C.1
  have hb := C.2.1
  have hml := C.2.2.1
  have hown := C.2.2.2.1
  have hts := C.2.2.2.2.1
  unfold fX2_spotBehind_l6b at hf
  refine lv_iload hx hb dX2_spotBehind_6 (lv_at hl 5 rfl) ?_
  refine lv_iload_n hx hb dX2_spotBehind_8 rfl (lv_at hl 2 rfl) ?_
  refine lv_icmp_ge (tgt := 57) hx hb dX2_spotBehind_9 (by decide) (fun c1 => ?_) (fun c1 => ?_)
  · have hf := ite_t c1 hf
    obtain rfl := some_r hf
    exact hK _ _ _ (lv_sub hl [4] rfl) hw
  · have hf := ite_f c1 hf
    refine lv_aload_n hx hb dX2_spotBehind_12 rfl (lv_at hl 0 rfl) ?_
    refine k_get C hw 0 rfl rfl wiX2 2 (by decide) wfX2_34 rfl dX2_spotBehind_13 ?_
    refine lv_aload_n hx hb dX2_spotBehind_16 rfl (lv_at hl 1 rfl) ?_
    refine lv_iload hx hb dX2_spotBehind_17 (lv_at hl 5 rfl) ?_
    obtain ⟨g2, hf⟩ := gdi_r hf
    refine k_iald C hw 1 rfl g2 dX2_spotBehind_19 ?_
    refine lv_iload_n hx hb dX2_spotBehind_20 rfl (lv_at hl 3 rfl) ?_
    obtain ⟨o3, ho3, hf⟩ := bind_r hf
    refine k_callVi C hw (n := 2) (As := [.int (q1 v5.toNatClampNeg), .int v3]) (w1 := (wX2_spotBehind dA ht ht_answer ht_ring ht_sorted ht_order ht_spot hq1 ht_ring_cells ht_ring_places ht_ring_facts nq1 t_answerLength t_length t_best q1 t_ring_lands t_ring_things t_ring_placeCount t_ring_apart t_ring_thereFirst t_ring_cells t_ring_facts t_spot)) (wr := [(ht, .inr (2, [.ref ht_answer, .int t_answerLength, .ref ht_ring, .ref ht_sorted, .ref ht_order, .ref ht_spot, .int t_length, .int t_best])), (hq1, .inl (dA 0, nq1, .inl q1)), (ht_spot, .inl (dA 0, 12, .inl t_spot))]) [2, 3, 4] [0, 1, 5] [0, 1, 3, 4, 5, 2] rfl rfl (by decide) (by decide) (by decide) rfl (by decide) (qX5_needOf l D dA ht_ring ht_ring_cells ht_ring_places ht_ring_facts t_ring_lands t_ring_things t_ring_placeCount t_ring_apart t_ring_thereFirst t_ring_cells t_ring_facts (q1 v5.toNatClampNeg) v3 _ ho3) wlX2_42 wmX5_needOf wvX5_needOf wnX5 wcX5_needOf rfl (by decide +kernel) ⟨Nat.le_trans (by decide) hR.1, Nat.le_trans (by decide) hR.2.1⟩ hR.2.2 rfl 0 rfl rfl hl.1 (Nat.le_of_ble_eq_true rfl) dX2_spotBehind_21 rfl (fun H locs hw => ?_)
    refine lv_istore (lv' := [(6, .int o3), (0, .ref ht), (1, .ref hq1), (2, .int v2), (3, .int v3), (4, .int v4), (5, .int v5)]) hx hb dX2_spotBehind_24 hl (by decide) rfl (fun ls hl => ?_)
    refine lv_iload hx hb dX2_spotBehind_26 (lv_at hl 0 rfl) ?_
    refine lv_iconst (v := (-1 : Int32)) hx hb dX2_spotBehind_28 (by decide) ?_
    refine lv_icmp_ne (tgt := 34) hx hb dX2_spotBehind_29 (by decide) (fun c4 => ?_) (fun c4 => ?_)
    · have hf := ite_f c4 hf
      refine lv_iload hx hb dX2_spotBehind_34 (lv_at hl 5 rfl) ?_
      refine lv_aload_n hx hb dX2_spotBehind_36 rfl (lv_at hl 1 rfl) ?_
      refine k_get C hw 0 rfl rfl wiX2 5 (by decide) wfX2_25 rfl dX2_spotBehind_37 ?_
      refine lv_iload hx hb dX2_spotBehind_40 (lv_at hl 6 rfl) ?_
      obtain ⟨g5, hf⟩ := gdi_r hf
      refine k_iald C hw 5 rfl g5 dX2_spotBehind_42 ?_
      refine lv_iload hx hb dX2_spotBehind_43 (lv_at hl 0 rfl) ?_
      refine lv_iadd hx hb dX2_spotBehind_45 ?_
      refine va_mmax hx hb (hml.trans hl.1.symm) hown (hts _ wlX2_48) (hts _ wxsmax) (hts _ wxmi) (hts _ wxcmax) (Nat.le_trans (by decide) hR.1) (Nat.le_trans (Nat.le_of_ble_eq_true rfl) hR.2.1) hR.2.2.1 hR.2.2.2 dX2_spotBehind_46 ?_
      refine lv_topi (fun x6 ex6 => ?_)
      have hf := bnd_r ex6 hf
      refine lv_istore (lv' := [(4, .int x6), (6, .int o3), (0, .ref ht), (1, .ref hq1), (2, .int v2), (3, .int v3), (5, .int v5)]) hx hb dX2_spotBehind_49 hl (by decide) rfl (fun ls hl => ?_)
      obtain ⟨x7, ex7⟩ : ∃ y : Int32, y = v5 + (1 : Int32) := ⟨_, rfl⟩
      have hf := bnd_r ex7 hf
      refine lv_iinc (v := x7) (lv' := [(5, .int x7), (4, .int x6), (6, .int o3), (0, .ref ht), (1, .ref hq1), (2, .int v2), (3, .int v3)]) hx hb dX2_spotBehind_51 hl (k := 6) rfl (by rw [ex7]; rfl) (by decide) rfl (fun ls hl => ?_)
      refine lv_goto (tgt := 6) hx hb dX2_spotBehind_54 (by decide) ?_
      obtain rfl := some_r hf
      exact hK _ _ _ (lv_sub hl [3, 4, 5, 6, 1, 0] rfl) hw
    · have hf := ite_t c4 hf
      refine lv_iconst (v := (-1 : Int32)) hx hb dX2_spotBehind_32 (by decide) ?_
      obtain rfl := some_r hf
      exact hK _ _ _ _ dX2_spotBehind_33 hw
set_option maxHeartbeats 4000000 in
theorem tX2_spotBehind_l6 {p : Program} {l : Launch} {e : Env} {R : Room} {s : State} {m : MethodId} {args : Array Value} {below : List Frame} {meth : Method} {c : Code} {D : va_G} {dA : Nat → ClassId} {w0 : va_W} {Q : State → Prop} {H : Heap} {locs : List Loc} {ls : Array Slot} {cells slots : Nat} (C : CX p s m args meth c cX2_spotBehind 7 (some .int) RX2 D dA) (ht ht_answer ht_ring ht_sorted ht_order ht_spot hq1 ht_ring_cells ht_ring_places ht_ring_facts nq1 : Nat) (hR : 3 ≤ R.frames ∧ 71 ≤ R.locals ∧ cells ≤ R.cells ∧ slots ≤ R.slots)  (t_answerLength : Int32) (t_length : Int32) (t_best : Int32) (q1 : (Nat → Int32)) (t_ring_lands : Int32) (t_ring_things : Int32) (t_ring_placeCount : Int32) (t_ring_apart : Int32) (t_ring_thereFirst : Int32) (t_ring_cells : (Nat → Int64)) (t_ring_facts : (Nat → Int32)) (t_spot : (Nat → Int32)) (v2 : Int32) (v3 : Int32) (v4 : Int32) (v5 : Int32) (N n : Nat) (res : ((Int32) ⊕ (Int32))) (hf : itr (fun z => fX2_spotBehind_l6b N nq1 q1 t_ring_apart t_ring_cells t_ring_facts t_spot v2 v3 z.1 z.2) n (v4, v5) = some res) (hK : Sum.elim (fun q => (∀ (H : Heap) (locs : List Loc) (ls : Array Slot), lv_has ls 7 [(4, .int q)] → St D w0 s (wX2_spotBehind dA ht ht_answer ht_ring ht_sorted ht_order ht_spot hq1 ht_ring_cells ht_ring_places ht_ring_facts nq1 t_answerLength t_length t_best q1 t_ring_lands t_ring_things t_ring_placeCount t_ring_apart t_ring_thereFirst t_ring_cells t_ring_facts t_spot) H locs → W p l e R s m args below meth c H locs cells slots Q (F0 m 57 ls []))) (fun o => (∀ (H : Heap) (locs : List Loc) (pc : Nat) (ls : Array Slot), decode cX2_spotBehind pc = .ok (.ireturn, 1) → St D w0 s (wX2_spotBehind dA ht ht_answer ht_ring ht_sorted ht_order ht_spot hq1 ht_ring_cells ht_ring_places ht_ring_facts nq1 t_answerLength t_length t_best q1 t_ring_lands t_ring_things t_ring_placeCount t_ring_apart t_ring_thereFirst t_ring_cells t_ring_facts t_spot) H locs → W p l e R s m args below meth c H locs cells slots Q (F0 m pc ls [.int o]))) res) (hl : lv_has ls 7 [(0, .ref ht), (1, .ref hq1), (2, .int v2), (3, .int v3), (4, .int v4), (5, .int v5)]) (hw : St D w0 s (wX2_spotBehind dA ht ht_answer ht_ring ht_sorted ht_order ht_spot hq1 ht_ring_cells ht_ring_places ht_ring_facts nq1 t_answerLength t_length t_best q1 t_ring_lands t_ring_things t_ring_placeCount t_ring_apart t_ring_thereFirst t_ring_cells t_ring_facts t_spot) H locs) : W p l e R s m args below meth c H locs cells slots Q (F0 m 6 ls []) :=
  itr_W (P := fun (z : (Int32 × Int32)) => (∀ (H : Heap) (locs : List Loc) (ls : Array Slot), lv_has ls 7 [(0, .ref ht), (1, .ref hq1), (2, .int v2), (3, .int v3), (4, .int z.1), (5, .int z.2)] → St D w0 s (wX2_spotBehind dA ht ht_answer ht_ring ht_sorted ht_order ht_spot hq1 ht_ring_cells ht_ring_places ht_ring_facts nq1 t_answerLength t_length t_best q1 t_ring_lands t_ring_things t_ring_placeCount t_ring_apart t_ring_thereFirst t_ring_cells t_ring_facts t_spot) H locs → W p l e R s m args below meth c H locs cells slots Q (F0 m 6 ls []))) (K := fun res => Sum.elim (fun q => (∀ (H : Heap) (locs : List Loc) (ls : Array Slot), lv_has ls 7 [(4, .int q)] → St D w0 s (wX2_spotBehind dA ht ht_answer ht_ring ht_sorted ht_order ht_spot hq1 ht_ring_cells ht_ring_places ht_ring_facts nq1 t_answerLength t_length t_best q1 t_ring_lands t_ring_things t_ring_placeCount t_ring_apart t_ring_thereFirst t_ring_cells t_ring_facts t_spot) H locs → W p l e R s m args below meth c H locs cells slots Q (F0 m 57 ls []))) (fun o => (∀ (H : Heap) (locs : List Loc) (pc : Nat) (ls : Array Slot), decode cX2_spotBehind pc = .ok (.ireturn, 1) → St D w0 s (wX2_spotBehind dA ht ht_answer ht_ring ht_sorted ht_order ht_spot hq1 ht_ring_cells ht_ring_places ht_ring_facts nq1 t_answerLength t_length t_best q1 t_ring_lands t_ring_things t_ring_placeCount t_ring_apart t_ring_thereFirst t_ring_cells t_ring_facts t_spot) H locs → W p l e R s m args below meth c H locs cells slots Q (F0 m pc ls [.int o]))) res) (fun z r hf hK H locs ls hl hw => tX2_spotBehind_l6b C ht ht_answer ht_ring ht_sorted ht_order ht_spot hq1 ht_ring_cells ht_ring_places ht_ring_facts nq1 hR t_answerLength t_length t_best q1 t_ring_lands t_ring_things t_ring_placeCount t_ring_apart t_ring_thereFirst t_ring_cells t_ring_facts t_spot v2 v3 z.1 z.2 N r hf (by cases r with
    | inl r => exact hK
    | inr r => exact hK) hl hw) n _ res hf hK H locs ls hl hw
set_option maxHeartbeats 4000000 in
set_option maxRecDepth 100000 in
theorem qX2_spotBehind (l : Launch) (D : va_G) (dA : Nat → ClassId) (ht ht_answer ht_ring ht_sorted ht_order ht_spot hq1 ht_ring_cells ht_ring_places ht_ring_facts nq1 : Nat) (t_answerLength : Int32) (t_length : Int32) (t_best : Int32) (q1 : (Nat → Int32)) (t_ring_lands : Int32) (t_ring_things : Int32) (t_ring_placeCount : Int32) (t_ring_apart : Int32) (t_ring_thereFirst : Int32) (t_ring_cells : (Nat → Int64)) (t_ring_facts : (Nat → Int32)) (t_spot : (Nat → Int32)) (x2_ : Int32) (x3_ : Int32) (N : Nat) (o : Int32) (hf : fX2_spotBehind N nq1 q1 t_ring_apart t_ring_cells t_ring_facts t_spot x2_ x3_ = some o) : Mi l D dA yX2_spotBehind (Cond.code yX2_spotBehind cX2_spotBehind 7 (some .int) :: wA) 3 71 [.ref ht, .ref hq1, .int x2_, .int x3_] (wX2_spotBehind dA ht ht_answer ht_ring ht_sorted ht_order ht_spot hq1 ht_ring_cells ht_ring_places ht_ring_facts nq1 t_answerLength t_length t_best q1 t_ring_lands t_ring_things t_ring_placeCount t_ring_apart t_ring_thereFirst t_ring_cells t_ring_facts t_spot) (wX2_spotBehind dA ht ht_answer ht_ring ht_sorted ht_order ht_spot hq1 ht_ring_cells ht_ring_places ht_ring_facts nq1 t_answerLength t_length t_best q1 t_ring_lands t_ring_things t_ring_placeCount t_ring_apart t_ring_thereFirst t_ring_cells t_ring_facts t_spot) o := by
  intro sz
  refine M_of (cc := cX2_spotBehind) (nL := 7) (ret := (some .int)) (own := RX2) (by decide +kernel) rfl (Nat.le_of_ble_eq_true rfl) ?_
  intro p e s m below meth c ls hsz C hw hl
  subst hsz
  have hR : 3 ≤ (rmm 3 71).frames ∧ 71 ≤ (rmm 3 71).locals ∧ 0 ≤ (rmm 3 71).cells ∧ 0 ≤ (rmm 3 71).slots := ⟨Nat.le_refl _, Nat.le_refl _, Nat.le_refl _, Nat.le_refl _⟩
  have hl : lv_has ls 7 [(0, .ref ht), (1, .ref hq1), (2, .int x2_), (3, .int x3_)] := hl
  have hx := C.1
  have hb := C.2.1
  have hml := C.2.2.1
  have hown := C.2.2.2.1
  have hts := C.2.2.2.2.1
  have hK : ∀ (H : Heap) (locs : List Loc) (pc : Nat) (ls : Array Slot), decode cX2_spotBehind pc = .ok (.ireturn, 1) → St D (wX2_spotBehind dA ht ht_answer ht_ring ht_sorted ht_order ht_spot hq1 ht_ring_cells ht_ring_places ht_ring_facts nq1 t_answerLength t_length t_best q1 t_ring_lands t_ring_things t_ring_placeCount t_ring_apart t_ring_thereFirst t_ring_cells t_ring_facts t_spot) s (wX2_spotBehind dA ht ht_answer ht_ring ht_sorted ht_order ht_spot hq1 ht_ring_cells ht_ring_places ht_ring_facts nq1 t_answerLength t_length t_best q1 t_ring_lands t_ring_things t_ring_placeCount t_ring_apart t_ring_thereFirst t_ring_cells t_ring_facts t_spot) H locs → W p l e (rmm 3 71) s m [.ref ht, .ref hq1, .int x2_, .int x3_].toArray below meth c H locs 0 0 (MQ below (Qi D (wX2_spotBehind dA ht ht_answer ht_ring ht_sorted ht_order ht_spot hq1 ht_ring_cells ht_ring_places ht_ring_facts nq1 t_answerLength t_length t_best q1 t_ring_lands t_ring_things t_ring_placeCount t_ring_apart t_ring_thereFirst t_ring_cells t_ring_facts t_spot) (wX2_spotBehind dA ht ht_answer ht_ring ht_sorted ht_order ht_spot hq1 ht_ring_cells ht_ring_places ht_ring_facts nq1 t_answerLength t_length t_best q1 t_ring_lands t_ring_things t_ring_placeCount t_ring_apart t_ring_thereFirst t_ring_cells t_ring_facts t_spot) o s.heap.size) [.ref ht, .ref hq1, .int x2_, .int x3_].toArray s 0 0 (va_A (wX2_spotBehind dA ht ht_answer ht_ring ht_sorted ht_order ht_spot hq1 ht_ring_cells ht_ring_places ht_ring_facts nq1 t_answerLength t_length t_best q1 t_ring_lands t_ring_things t_ring_placeCount t_ring_apart t_ring_thereFirst t_ring_cells t_ring_facts t_spot) s.heap.size)) (F0 m pc ls [.int o]) := fun H locs pc ls hd hw => k_iret C hw hd
  unfold fX2_spotBehind at hf
  refine lv_iconst (v := (0 : Int32)) hx hb dX2_spotBehind_0 (by decide) ?_
  refine lv_istore (lv' := [(4, .int (0 : Int32)), (0, .ref ht), (1, .ref hq1), (2, .int x2_), (3, .int x3_)]) hx hb dX2_spotBehind_1 hl (by decide) rfl (fun ls hl => ?_)
  refine lv_iconst (v := (0 : Int32)) hx hb dX2_spotBehind_3 (by decide) ?_
  refine lv_istore (lv' := [(5, .int (0 : Int32)), (4, .int (0 : Int32)), (0, .ref ht), (1, .ref hq1), (2, .int x2_), (3, .int x3_)]) hx hb dX2_spotBehind_4 hl (by decide) rfl (fun ls hl => ?_)
  obtain ⟨q8, hq8, hf⟩ := bind_r hf
  cases q8 with
  | inl q8 =>
    refine tX2_spotBehind_l6 C ht ht_answer ht_ring ht_sorted ht_order ht_spot hq1 ht_ring_cells ht_ring_places ht_ring_facts nq1 hR t_answerLength t_length t_best q1 t_ring_lands t_ring_things t_ring_placeCount t_ring_apart t_ring_thereFirst t_ring_cells t_ring_facts t_spot x2_ x3_ (0 : Int32) (0 : Int32) N _ _ hq8 ?_ (lv_sub hl [2, 3, 4, 5, 1, 0] rfl) hw
    have hf := elim_l hf
    intro H locs ls hl hw
    refine lv_iload hx hb dX2_spotBehind_57 (lv_at hl 0 rfl) ?_
    obtain rfl := some_r hf
    exact hK _ _ _ _ dX2_spotBehind_59 hw
  | inr q8 =>
    refine tX2_spotBehind_l6 C ht ht_answer ht_ring ht_sorted ht_order ht_spot hq1 ht_ring_cells ht_ring_places ht_ring_facts nq1 hR t_answerLength t_length t_best q1 t_ring_lands t_ring_things t_ring_placeCount t_ring_apart t_ring_thereFirst t_ring_cells t_ring_facts t_spot x2_ x3_ (0 : Int32) (0 : Int32) N _ _ hq8 ?_ (lv_sub hl [2, 3, 4, 5, 1, 0] rfl) hw
    have hf := elim_r hf
    obtain rfl := some_r hf
    exact hK

/-! RingPlaces$Orders.arcOf([II)I -/
abbrev wX2_arcOf (dA : Nat → ClassId) (ht ht_answer ht_ring ht_sorted ht_order ht_spot hq1 ht_ring_cells ht_ring_places ht_ring_facts nq1 : Nat) (t_answerLength : Int32) (t_length : Int32) (t_best : Int32) (q1 : (Nat → Int32)) (t_ring_lands : Int32) (t_ring_things : Int32) (t_ring_placeCount : Int32) (t_ring_apart : Int32) (t_ring_thereFirst : Int32) (t_ring_cells : (Nat → Int64)) (t_ring_facts : (Nat → Int32)) (t_spot : (Nat → Int32)) : va_W := [(ht, .inr (2, [.ref ht_answer, .int t_answerLength, .ref ht_ring, .ref ht_sorted, .ref ht_order, .ref ht_spot, .int t_length, .int t_best])), (hq1, .inl (dA 0, nq1, .inl q1)), (ht_ring, .inr (5, [.ref ht_ring_cells, .ref ht_ring_places, .int t_ring_lands, .int t_ring_things, .int t_ring_placeCount, .int t_ring_apart, .int t_ring_thereFirst, .ref ht_ring_facts])), (ht_ring_cells, .inl (dA 1, 16, .inr (.inl t_ring_cells))), (ht_ring_facts, .inl (dA 0, 224, .inl t_ring_facts)), (ht_spot, .inl (dA 0, 12, .inl t_spot))]
def fX2_arcOf_l2b (N : Nat) (nq1 : Nat) (q1 : (Nat → Int32)) (t_ring_apart : Int32) (t_ring_cells : (Nat → Int64)) (t_ring_facts : (Nat → Int32)) (v2 : Int32) (t_spot : (Nat → Int32)) (v3 : Int32) : Option (((Nat → Int32) × Int32) ⊕ (((Nat → Int32)) ⊕ ((Nat → Int32) × Int32))) := (if v2 ≤ v3 then some (.inr (.inl t_spot)) else gdi v3 nq1 ((fX2_spotBehind N nq1 q1 t_ring_apart t_ring_cells t_ring_facts t_spot v3 (q1 v3.toNatClampNeg)).bind fun o3 => gdi v3 12 (bnd (upd t_spot v3.toNatClampNeg o3) fun y5 => gdi v3 12 ((if (y5 v3.toNatClampNeg) = (-1 : Int32) then some (.inr (.inr (y5, (-1 : Int32)))) else bnd (v3 + (1 : Int32)) fun x8 => some (.inl (y5, x8)))))))
def fX2_arcOf (N : Nat) (nq1 : Nat) (q1 : (Nat → Int32)) (t_ring_apart : Int32) (t_ring_cells : (Nat → Int64)) (t_ring_facts : (Nat → Int32)) (t_spot : (Nat → Int32)) (x2_ : Int32) : Option ((Nat → Int32) × Int32) := (itr (fun z => fX2_arcOf_l2b N nq1 q1 t_ring_apart t_ring_cells t_ring_facts x2_ z.1 z.2) N (t_spot, (0 : Int32))).bind fun q9 => Sum.elim (fun q9 => (if x2_ ≤ 0 then some (q9, (0 : Int32)) else gdi (x2_ - (1 : Int32)) 12 (some (q9, (q9 (x2_ - (1 : Int32)).toNatClampNeg))))) (fun q9 => some q9) q9
set_option maxHeartbeats 4000000 in
set_option maxRecDepth 100000 in
theorem tX2_arcOf_l2b {p : Program} {l : Launch} {e : Env} {R : Room} {s : State} {m : MethodId} {args : Array Value} {below : List Frame} {meth : Method} {c : Code} {D : va_G} {dA : Nat → ClassId} {w0 : va_W} {Q : State → Prop} {H : Heap} {locs : List Loc} {ls : Array Slot} {cells slots : Nat} (C : CX p s m args meth c cX2_arcOf 4 (some .int) RX2 D dA) (ht ht_answer ht_ring ht_sorted ht_order ht_spot hq1 ht_ring_cells ht_ring_places ht_ring_facts nq1 : Nat) (hR : 4 ≤ R.frames ∧ 97 ≤ R.locals ∧ cells ≤ R.cells ∧ slots ≤ R.slots)  (t_answerLength : Int32) (t_length : Int32) (t_best : Int32) (q1 : (Nat → Int32)) (t_ring_lands : Int32) (t_ring_things : Int32) (t_ring_placeCount : Int32) (t_ring_apart : Int32) (t_ring_thereFirst : Int32) (t_ring_cells : (Nat → Int64)) (t_ring_facts : (Nat → Int32)) (t_spot : (Nat → Int32)) (v2 : Int32) (v3 : Int32) (N : Nat) (res : (((Nat → Int32) × Int32) ⊕ (((Nat → Int32)) ⊕ ((Nat → Int32) × Int32)))) (hf : fX2_arcOf_l2b N nq1 q1 t_ring_apart t_ring_cells t_ring_facts v2 t_spot v3 = some res) (hK : Sum.elim (fun z => (∀ (H : Heap) (locs : List Loc) (ls : Array Slot), lv_has ls 4 [(0, .ref ht), (1, .ref hq1), (2, .int v2), (3, .int z.2)] → St D w0 s (wX2_arcOf dA ht ht_answer ht_ring ht_sorted ht_order ht_spot hq1 ht_ring_cells ht_ring_places ht_ring_facts nq1 t_answerLength t_length t_best q1 t_ring_lands t_ring_things t_ring_placeCount t_ring_apart t_ring_thereFirst t_ring_cells t_ring_facts z.1) H locs → W p l e R s m args below meth c H locs cells slots Q (F0 m 2 ls []))) (fun r => Sum.elim (fun q => (∀ (H : Heap) (locs : List Loc) (ls : Array Slot), lv_has ls 4 [(0, .ref ht), (2, .int v2)] → St D w0 s (wX2_arcOf dA ht ht_answer ht_ring ht_sorted ht_order ht_spot hq1 ht_ring_cells ht_ring_places ht_ring_facts nq1 t_answerLength t_length t_best q1 t_ring_lands t_ring_things t_ring_placeCount t_ring_apart t_ring_thereFirst t_ring_cells t_ring_facts q) H locs → W p l e R s m args below meth c H locs cells slots Q (F0 m 40 ls []))) (fun o => (∀ (H : Heap) (locs : List Loc) (pc : Nat) (ls : Array Slot), decode cX2_arcOf pc = .ok (.ireturn, 1) → St D w0 s (wX2_arcOf dA ht ht_answer ht_ring ht_sorted ht_order ht_spot hq1 ht_ring_cells ht_ring_places ht_ring_facts nq1 t_answerLength t_length t_best q1 t_ring_lands t_ring_things t_ring_placeCount t_ring_apart t_ring_thereFirst t_ring_cells t_ring_facts o.1) H locs → W p l e R s m args below meth c H locs cells slots Q (F0 m pc ls [.int o.2]))) r) res) (hl : lv_has ls 4 [(0, .ref ht), (1, .ref hq1), (2, .int v2), (3, .int v3)]) (hw : St D w0 s (wX2_arcOf dA ht ht_answer ht_ring ht_sorted ht_order ht_spot hq1 ht_ring_cells ht_ring_places ht_ring_facts nq1 t_answerLength t_length t_best q1 t_ring_lands t_ring_things t_ring_placeCount t_ring_apart t_ring_thereFirst t_ring_cells t_ring_facts t_spot) H locs) : W p l e R s m args below meth c H locs cells slots Q (F0 m 2 ls []) := by
  have hx := C.1
  have hb := C.2.1
  have hml := C.2.2.1
  have hown := C.2.2.2.1
  have hts := C.2.2.2.2.1
  unfold fX2_arcOf_l2b at hf
  refine lv_iload_n hx hb dX2_arcOf_2 rfl (lv_at hl 3 rfl) ?_
  refine lv_iload_n hx hb dX2_arcOf_3 rfl (lv_at hl 2 rfl) ?_
  refine lv_icmp_ge (tgt := 40) hx hb dX2_arcOf_4 (by decide) (fun c1 => ?_) (fun c1 => ?_)
  · have hf := ite_t c1 hf
    obtain rfl := some_r hf
    exact hK _ _ _ (lv_sub hl [0, 2] rfl) hw
  · have hf := ite_f c1 hf
    refine lv_aload_n hx hb dX2_arcOf_7 rfl (lv_at hl 0 rfl) ?_
    refine k_get C hw 0 rfl rfl wiX2 5 (by decide) wfX2_25 rfl dX2_arcOf_8 ?_
    refine lv_iload_n hx hb dX2_arcOf_11 rfl (lv_at hl 3 rfl) ?_
    refine lv_aload_n hx hb dX2_arcOf_12 rfl (lv_at hl 0 rfl) ?_
    refine lv_aload_n hx hb dX2_arcOf_13 rfl (lv_at hl 1 rfl) ?_
    refine lv_iload_n hx hb dX2_arcOf_14 rfl (lv_at hl 3 rfl) ?_
    refine lv_aload_n hx hb dX2_arcOf_15 rfl (lv_at hl 1 rfl) ?_
    refine lv_iload_n hx hb dX2_arcOf_16 rfl (lv_at hl 3 rfl) ?_
    obtain ⟨g2, hf⟩ := gdi_r hf
    refine k_iald C hw 1 rfl g2 dX2_arcOf_17 ?_
    obtain ⟨o3, ho3, hf⟩ := bind_r hf
    refine k_callVi C hw (n := 3) (As := [.ref hq1, .int v3, .int (q1 v3.toNatClampNeg)]) (w1 := (wX2_arcOf dA ht ht_answer ht_ring ht_sorted ht_order ht_spot hq1 ht_ring_cells ht_ring_places ht_ring_facts nq1 t_answerLength t_length t_best q1 t_ring_lands t_ring_things t_ring_placeCount t_ring_apart t_ring_thereFirst t_ring_cells t_ring_facts t_spot)) (wr := []) [0, 1, 2, 3, 4, 5] [] [0, 1, 2, 3, 4, 5] rfl rfl (by decide) (by decide) (by decide) rfl (by decide) (qX2_spotBehind l D dA ht ht_answer ht_ring ht_sorted ht_order ht_spot hq1 ht_ring_cells ht_ring_places ht_ring_facts nq1 t_answerLength t_length t_best q1 t_ring_lands t_ring_things t_ring_placeCount t_ring_apart t_ring_thereFirst t_ring_cells t_ring_facts t_spot v3 (q1 v3.toNatClampNeg) N _ ho3) wlX2_38 wmX2_spotBehind wvX2_spotBehind wnX2 wcX2_spotBehind rfl (by decide +kernel) ⟨Nat.le_trans (by decide) hR.1, Nat.le_trans (by decide) hR.2.1⟩ hR.2.2 rfl 0 rfl rfl hl.1 (Nat.le_of_ble_eq_true rfl) dX2_arcOf_18 rfl (fun H locs hw => ?_)
    obtain ⟨g4, hf⟩ := gdi_r hf
    obtain ⟨y5, ey5⟩ : ∃ z : Nat → Int32, z = upd t_spot v3.toNatClampNeg o3 := ⟨_, rfl⟩
    have hf := bnd_r ey5 hf
    refine k_iast C hw 5 rfl g4 dX2_arcOf_21 y5 ey5 (wX2_arcOf dA ht ht_answer ht_ring ht_sorted ht_order ht_spot hq1 ht_ring_cells ht_ring_places ht_ring_facts nq1 t_answerLength t_length t_best q1 t_ring_lands t_ring_things t_ring_placeCount t_ring_apart t_ring_thereFirst t_ring_cells t_ring_facts y5) rfl (fun H locs hw => ?_)
    refine lv_aload_n hx hb dX2_arcOf_22 rfl (lv_at hl 0 rfl) ?_
    refine k_get C hw 0 rfl rfl wiX2 5 (by decide) wfX2_25 rfl dX2_arcOf_23 ?_
    refine lv_iload_n hx hb dX2_arcOf_26 rfl (lv_at hl 3 rfl) ?_
    obtain ⟨g6, hf⟩ := gdi_r hf
    refine k_iald C hw 5 rfl g6 dX2_arcOf_27 ?_
    refine lv_iconst (v := (-1 : Int32)) hx hb dX2_arcOf_28 (by decide) ?_
    refine lv_icmp_ne (tgt := 34) hx hb dX2_arcOf_29 (by decide) (fun c7 => ?_) (fun c7 => ?_)
    · have hf := ite_f c7 hf
      obtain ⟨x8, ex8⟩ : ∃ y : Int32, y = v3 + (1 : Int32) := ⟨_, rfl⟩
      have hf := bnd_r ex8 hf
      refine lv_iinc (v := x8) (lv' := [(3, .int x8), (0, .ref ht), (1, .ref hq1), (2, .int v2)]) hx hb dX2_arcOf_34 hl (k := 3) rfl (by rw [ex8]; rfl) (by decide) rfl (fun ls hl => ?_)
      refine lv_goto (tgt := 2) hx hb dX2_arcOf_37 (by decide) ?_
      obtain rfl := some_r hf
      exact hK _ _ _ (lv_sub hl [1, 2, 3, 0] rfl) hw
    · have hf := ite_t c7 hf
      refine lv_iconst (v := (-1 : Int32)) hx hb dX2_arcOf_32 (by decide) ?_
      obtain rfl := some_r hf
      exact hK _ _ _ _ dX2_arcOf_33 hw
set_option maxHeartbeats 4000000 in
theorem tX2_arcOf_l2 {p : Program} {l : Launch} {e : Env} {R : Room} {s : State} {m : MethodId} {args : Array Value} {below : List Frame} {meth : Method} {c : Code} {D : va_G} {dA : Nat → ClassId} {w0 : va_W} {Q : State → Prop} {H : Heap} {locs : List Loc} {ls : Array Slot} {cells slots : Nat} (C : CX p s m args meth c cX2_arcOf 4 (some .int) RX2 D dA) (ht ht_answer ht_ring ht_sorted ht_order ht_spot hq1 ht_ring_cells ht_ring_places ht_ring_facts nq1 : Nat) (hR : 4 ≤ R.frames ∧ 97 ≤ R.locals ∧ cells ≤ R.cells ∧ slots ≤ R.slots)  (t_answerLength : Int32) (t_length : Int32) (t_best : Int32) (q1 : (Nat → Int32)) (t_ring_lands : Int32) (t_ring_things : Int32) (t_ring_placeCount : Int32) (t_ring_apart : Int32) (t_ring_thereFirst : Int32) (t_ring_cells : (Nat → Int64)) (t_ring_facts : (Nat → Int32)) (t_spot : (Nat → Int32)) (v2 : Int32) (v3 : Int32) (N n : Nat) (res : (((Nat → Int32)) ⊕ ((Nat → Int32) × Int32))) (hf : itr (fun z => fX2_arcOf_l2b N nq1 q1 t_ring_apart t_ring_cells t_ring_facts v2 z.1 z.2) n (t_spot, v3) = some res) (hK : Sum.elim (fun q => (∀ (H : Heap) (locs : List Loc) (ls : Array Slot), lv_has ls 4 [(0, .ref ht), (2, .int v2)] → St D w0 s (wX2_arcOf dA ht ht_answer ht_ring ht_sorted ht_order ht_spot hq1 ht_ring_cells ht_ring_places ht_ring_facts nq1 t_answerLength t_length t_best q1 t_ring_lands t_ring_things t_ring_placeCount t_ring_apart t_ring_thereFirst t_ring_cells t_ring_facts q) H locs → W p l e R s m args below meth c H locs cells slots Q (F0 m 40 ls []))) (fun o => (∀ (H : Heap) (locs : List Loc) (pc : Nat) (ls : Array Slot), decode cX2_arcOf pc = .ok (.ireturn, 1) → St D w0 s (wX2_arcOf dA ht ht_answer ht_ring ht_sorted ht_order ht_spot hq1 ht_ring_cells ht_ring_places ht_ring_facts nq1 t_answerLength t_length t_best q1 t_ring_lands t_ring_things t_ring_placeCount t_ring_apart t_ring_thereFirst t_ring_cells t_ring_facts o.1) H locs → W p l e R s m args below meth c H locs cells slots Q (F0 m pc ls [.int o.2]))) res) (hl : lv_has ls 4 [(0, .ref ht), (1, .ref hq1), (2, .int v2), (3, .int v3)]) (hw : St D w0 s (wX2_arcOf dA ht ht_answer ht_ring ht_sorted ht_order ht_spot hq1 ht_ring_cells ht_ring_places ht_ring_facts nq1 t_answerLength t_length t_best q1 t_ring_lands t_ring_things t_ring_placeCount t_ring_apart t_ring_thereFirst t_ring_cells t_ring_facts t_spot) H locs) : W p l e R s m args below meth c H locs cells slots Q (F0 m 2 ls []) :=
  itr_W (P := fun (z : ((Nat → Int32) × Int32)) => (∀ (H : Heap) (locs : List Loc) (ls : Array Slot), lv_has ls 4 [(0, .ref ht), (1, .ref hq1), (2, .int v2), (3, .int z.2)] → St D w0 s (wX2_arcOf dA ht ht_answer ht_ring ht_sorted ht_order ht_spot hq1 ht_ring_cells ht_ring_places ht_ring_facts nq1 t_answerLength t_length t_best q1 t_ring_lands t_ring_things t_ring_placeCount t_ring_apart t_ring_thereFirst t_ring_cells t_ring_facts z.1) H locs → W p l e R s m args below meth c H locs cells slots Q (F0 m 2 ls []))) (K := fun res => Sum.elim (fun q => (∀ (H : Heap) (locs : List Loc) (ls : Array Slot), lv_has ls 4 [(0, .ref ht), (2, .int v2)] → St D w0 s (wX2_arcOf dA ht ht_answer ht_ring ht_sorted ht_order ht_spot hq1 ht_ring_cells ht_ring_places ht_ring_facts nq1 t_answerLength t_length t_best q1 t_ring_lands t_ring_things t_ring_placeCount t_ring_apart t_ring_thereFirst t_ring_cells t_ring_facts q) H locs → W p l e R s m args below meth c H locs cells slots Q (F0 m 40 ls []))) (fun o => (∀ (H : Heap) (locs : List Loc) (pc : Nat) (ls : Array Slot), decode cX2_arcOf pc = .ok (.ireturn, 1) → St D w0 s (wX2_arcOf dA ht ht_answer ht_ring ht_sorted ht_order ht_spot hq1 ht_ring_cells ht_ring_places ht_ring_facts nq1 t_answerLength t_length t_best q1 t_ring_lands t_ring_things t_ring_placeCount t_ring_apart t_ring_thereFirst t_ring_cells t_ring_facts o.1) H locs → W p l e R s m args below meth c H locs cells slots Q (F0 m pc ls [.int o.2]))) res) (fun z r hf hK H locs ls hl hw => tX2_arcOf_l2b C ht ht_answer ht_ring ht_sorted ht_order ht_spot hq1 ht_ring_cells ht_ring_places ht_ring_facts nq1 hR t_answerLength t_length t_best q1 t_ring_lands t_ring_things t_ring_placeCount t_ring_apart t_ring_thereFirst t_ring_cells t_ring_facts z.1 v2 z.2 N r hf (by cases r with
    | inl r => exact hK
    | inr r => exact hK) hl hw) n _ res hf hK H locs ls hl hw
set_option maxHeartbeats 4000000 in
set_option maxRecDepth 100000 in
theorem qX2_arcOf (l : Launch) (D : va_G) (dA : Nat → ClassId) (ht ht_answer ht_ring ht_sorted ht_order ht_spot hq1 ht_ring_cells ht_ring_places ht_ring_facts nq1 : Nat) (t_answerLength : Int32) (t_length : Int32) (t_best : Int32) (q1 : (Nat → Int32)) (t_ring_lands : Int32) (t_ring_things : Int32) (t_ring_placeCount : Int32) (t_ring_apart : Int32) (t_ring_thereFirst : Int32) (t_ring_cells : (Nat → Int64)) (t_ring_facts : (Nat → Int32)) (t_spot : (Nat → Int32)) (x2_ : Int32) (N : Nat) (o : (Nat → Int32) × Int32) (hf : fX2_arcOf N nq1 q1 t_ring_apart t_ring_cells t_ring_facts t_spot x2_ = some o) : Mi l D dA yX2_arcOf (Cond.code yX2_arcOf cX2_arcOf 4 (some .int) :: wA) 4 97 [.ref ht, .ref hq1, .int x2_] (wX2_arcOf dA ht ht_answer ht_ring ht_sorted ht_order ht_spot hq1 ht_ring_cells ht_ring_places ht_ring_facts nq1 t_answerLength t_length t_best q1 t_ring_lands t_ring_things t_ring_placeCount t_ring_apart t_ring_thereFirst t_ring_cells t_ring_facts t_spot) (wX2_arcOf dA ht ht_answer ht_ring ht_sorted ht_order ht_spot hq1 ht_ring_cells ht_ring_places ht_ring_facts nq1 t_answerLength t_length t_best q1 t_ring_lands t_ring_things t_ring_placeCount t_ring_apart t_ring_thereFirst t_ring_cells t_ring_facts o.1) o.2 := by
  intro sz
  refine M_of (cc := cX2_arcOf) (nL := 4) (ret := (some .int)) (own := RX2) (by decide +kernel) rfl (Nat.le_of_ble_eq_true rfl) ?_
  intro p e s m below meth c ls hsz C hw hl
  subst hsz
  have hR : 4 ≤ (rmm 4 97).frames ∧ 97 ≤ (rmm 4 97).locals ∧ 0 ≤ (rmm 4 97).cells ∧ 0 ≤ (rmm 4 97).slots := ⟨Nat.le_refl _, Nat.le_refl _, Nat.le_refl _, Nat.le_refl _⟩
  have hl : lv_has ls 4 [(0, .ref ht), (1, .ref hq1), (2, .int x2_)] := hl
  have hx := C.1
  have hb := C.2.1
  have hml := C.2.2.1
  have hown := C.2.2.2.1
  have hts := C.2.2.2.2.1
  have hK : ∀ (H : Heap) (locs : List Loc) (pc : Nat) (ls : Array Slot), decode cX2_arcOf pc = .ok (.ireturn, 1) → St D (wX2_arcOf dA ht ht_answer ht_ring ht_sorted ht_order ht_spot hq1 ht_ring_cells ht_ring_places ht_ring_facts nq1 t_answerLength t_length t_best q1 t_ring_lands t_ring_things t_ring_placeCount t_ring_apart t_ring_thereFirst t_ring_cells t_ring_facts t_spot) s (wX2_arcOf dA ht ht_answer ht_ring ht_sorted ht_order ht_spot hq1 ht_ring_cells ht_ring_places ht_ring_facts nq1 t_answerLength t_length t_best q1 t_ring_lands t_ring_things t_ring_placeCount t_ring_apart t_ring_thereFirst t_ring_cells t_ring_facts o.1) H locs → W p l e (rmm 4 97) s m [.ref ht, .ref hq1, .int x2_].toArray below meth c H locs 0 0 (MQ below (Qi D (wX2_arcOf dA ht ht_answer ht_ring ht_sorted ht_order ht_spot hq1 ht_ring_cells ht_ring_places ht_ring_facts nq1 t_answerLength t_length t_best q1 t_ring_lands t_ring_things t_ring_placeCount t_ring_apart t_ring_thereFirst t_ring_cells t_ring_facts t_spot) (wX2_arcOf dA ht ht_answer ht_ring ht_sorted ht_order ht_spot hq1 ht_ring_cells ht_ring_places ht_ring_facts nq1 t_answerLength t_length t_best q1 t_ring_lands t_ring_things t_ring_placeCount t_ring_apart t_ring_thereFirst t_ring_cells t_ring_facts o.1) o.2 s.heap.size) [.ref ht, .ref hq1, .int x2_].toArray s 0 0 (va_A (wX2_arcOf dA ht ht_answer ht_ring ht_sorted ht_order ht_spot hq1 ht_ring_cells ht_ring_places ht_ring_facts nq1 t_answerLength t_length t_best q1 t_ring_lands t_ring_things t_ring_placeCount t_ring_apart t_ring_thereFirst t_ring_cells t_ring_facts t_spot) s.heap.size)) (F0 m pc ls [.int o.2]) := fun H locs pc ls hd hw => k_iret C hw hd
  unfold fX2_arcOf at hf
  refine lv_iconst (v := (0 : Int32)) hx hb dX2_arcOf_0 (by decide) ?_
  refine lv_istore_n (lv' := [(3, .int (0 : Int32)), (0, .ref ht), (1, .ref hq1), (2, .int x2_)]) hx hb dX2_arcOf_1 rfl hl (by decide) rfl (fun ls hl => ?_)
  obtain ⟨q9, hq9, hf⟩ := bind_r hf
  cases q9 with
  | inl q9 =>
    refine tX2_arcOf_l2 C ht ht_answer ht_ring ht_sorted ht_order ht_spot hq1 ht_ring_cells ht_ring_places ht_ring_facts nq1 hR t_answerLength t_length t_best q1 t_ring_lands t_ring_things t_ring_placeCount t_ring_apart t_ring_thereFirst t_ring_cells t_ring_facts t_spot x2_ (0 : Int32) N _ _ hq9 ?_ (lv_sub hl [1, 2, 3, 0] rfl) hw
    have hf := elim_l hf
    intro H locs ls hl hw
    refine lv_iload_n hx hb dX2_arcOf_40 rfl (lv_at hl 1 rfl) ?_
    refine lv_if_le (tgt := 55) hx hb dX2_arcOf_41 (by decide) (fun c10 => ?_) (fun c10 => ?_)
    · have hf := ite_t c10 hf
      refine lv_iconst (v := (0 : Int32)) hx hb dX2_arcOf_55 (by decide) ?_
      obtain rfl := some_r hf
      exact hK _ _ _ _ dX2_arcOf_56 hw
    · have hf := ite_f c10 hf
      refine lv_aload_n hx hb dX2_arcOf_44 rfl (lv_at hl 0 rfl) ?_
      refine k_get C hw 0 rfl rfl wiX2 5 (by decide) wfX2_25 rfl dX2_arcOf_45 ?_
      refine lv_iload_n hx hb dX2_arcOf_48 rfl (lv_at hl 1 rfl) ?_
      refine lv_iconst (v := (1 : Int32)) hx hb dX2_arcOf_49 (by decide) ?_
      refine lv_isub hx hb dX2_arcOf_50 ?_
      obtain ⟨g11, hf⟩ := gdi_r hf
      refine k_iald C hw 5 rfl g11 dX2_arcOf_51 ?_
      refine lv_goto (tgt := 56) hx hb dX2_arcOf_52 (by decide) ?_
      obtain rfl := some_r hf
      exact hK _ _ _ _ dX2_arcOf_56 hw
  | inr q9 =>
    refine tX2_arcOf_l2 C ht ht_answer ht_ring ht_sorted ht_order ht_spot hq1 ht_ring_cells ht_ring_places ht_ring_facts nq1 hR t_answerLength t_length t_best q1 t_ring_lands t_ring_things t_ring_placeCount t_ring_apart t_ring_thereFirst t_ring_cells t_ring_facts t_spot x2_ (0 : Int32) N _ _ hq9 ?_ (lv_sub hl [1, 2, 3, 0] rfl) hw
    have hf := elim_r hf
    obtain rfl := some_r hf
    exact hK

/-! RingPlaces$Orders.sortRow([I)V -/
abbrev wX2_sortRow (dA : Nat → ClassId) (ht ht_answer ht_ring ht_sorted ht_order ht_spot hq1 nq1 : Nat) (t_answerLength : Int32) (t_length : Int32) (t_best : Int32) (t_sorted : (Nat → Int32)) (q1 : (Nat → Int32)) : va_W := [(ht, .inr (2, [.ref ht_answer, .int t_answerLength, .ref ht_ring, .ref ht_sorted, .ref ht_order, .ref ht_spot, .int t_length, .int t_best])), (ht_sorted, .inl (dA 0, 7, .inl t_sorted)), (hq1, .inl (dA 0, nq1, .inl q1))]
def fX2_sortRow_l12b (N : Nat) (nq1 : Nat) (t_length : Int32) (q1 : (Nat → Int32)) (v2 : Int32) (t_sorted : (Nat → Int32)) (v3 : Int32) : Option (((Nat → Int32) × Int32) ⊕ ((Nat → Int32) × Int32)) := (if v3 ≤ 0 then some (.inr (t_sorted, v3)) else gdi (v3 - (1 : Int32)) 7 (gdi v2 nq1 ((if (t_sorted (v3 - (1 : Int32)).toNatClampNeg) ≤ (q1 v2.toNatClampNeg) then some (.inr (t_sorted, v3)) else gdi (v3 - (1 : Int32)) 7 (gdi v3 7 (bnd (upd t_sorted v3.toNatClampNeg (t_sorted (v3 - (1 : Int32)).toNatClampNeg)) fun y8 => bnd (v3 + (-1 : Int32)) fun x9 => some (.inl (y8, x9))))))))
def fX2_sortRow_l2b (N : Nat) (nq1 : Nat) (t_length : Int32) (q1 : (Nat → Int32)) (t_sorted : (Nat → Int32)) (v2 : Int32) : Option (((Nat → Int32) × Int32) ⊕ ((Nat → Int32))) := (if t_length ≤ v2 then some (.inr t_sorted) else (itr (fun z => fX2_sortRow_l12b N nq1 t_length q1 v2 z.1 z.2) N (t_sorted, v2)).bind fun q10 => gdi v2 nq1 (gdi q10.2 7 (bnd (upd q10.1 q10.2.toNatClampNeg (q1 v2.toNatClampNeg)) fun y13 => bnd (v2 + (1 : Int32)) fun x14 => some (.inl (y13, x14)))))
def fX2_sortRow (N : Nat) (nq1 : Nat) (t_length : Int32) (t_sorted : (Nat → Int32)) (q1 : (Nat → Int32))  : Option ((Nat → Int32)) := (itr (fun z => fX2_sortRow_l2b N nq1 t_length q1 z.1 z.2) N (t_sorted, (0 : Int32))).bind fun q15 => some q15
set_option maxHeartbeats 4000000 in
set_option maxRecDepth 100000 in
theorem tX2_sortRow_l12b {p : Program} {l : Launch} {e : Env} {R : Room} {s : State} {m : MethodId} {args : Array Value} {below : List Frame} {meth : Method} {c : Code} {D : va_G} {dA : Nat → ClassId} {w0 : va_W} {Q : State → Prop} {H : Heap} {locs : List Loc} {ls : Array Slot} {cells slots : Nat} (C : CX p s m args meth c cX2_sortRow 4 none RX2 D dA) (ht ht_answer ht_ring ht_sorted ht_order ht_spot hq1 nq1 : Nat) (hR : 0 ≤ R.frames ∧ 0 ≤ R.locals ∧ cells ≤ R.cells ∧ slots ≤ R.slots)  (t_answerLength : Int32) (t_length : Int32) (t_best : Int32) (t_sorted : (Nat → Int32)) (q1 : (Nat → Int32)) (v2 : Int32) (v3 : Int32) (N : Nat) (res : (((Nat → Int32) × Int32) ⊕ ((Nat → Int32) × Int32))) (hf : fX2_sortRow_l12b N nq1 t_length q1 v2 t_sorted v3 = some res) (hK : Sum.elim (fun z => (∀ (H : Heap) (locs : List Loc) (ls : Array Slot), lv_has ls 4 [(0, .ref ht), (1, .ref hq1), (2, .int v2), (3, .int z.2)] → St D w0 s (wX2_sortRow dA ht ht_answer ht_ring ht_sorted ht_order ht_spot hq1 nq1 t_answerLength t_length t_best z.1 q1) H locs → W p l e R s m args below meth c H locs cells slots Q (F0 m 12 ls []))) (fun r => (∀ (H : Heap) (locs : List Loc) (ls : Array Slot), lv_has ls 4 [(0, .ref ht), (1, .ref hq1), (2, .int v2), (3, .int r.2)] → St D w0 s (wX2_sortRow dA ht ht_answer ht_ring ht_sorted ht_order ht_spot hq1 nq1 t_answerLength t_length t_best r.1 q1) H locs → W p l e R s m args below meth c H locs cells slots Q (F0 m 50 ls []))) res) (hl : lv_has ls 4 [(0, .ref ht), (1, .ref hq1), (2, .int v2), (3, .int v3)]) (hw : St D w0 s (wX2_sortRow dA ht ht_answer ht_ring ht_sorted ht_order ht_spot hq1 nq1 t_answerLength t_length t_best t_sorted q1) H locs) : W p l e R s m args below meth c H locs cells slots Q (F0 m 12 ls []) := by
  have hx := C.1
  have hb := C.2.1
  have hml := C.2.2.1
  have hown := C.2.2.2.1
  have hts := C.2.2.2.2.1
  unfold fX2_sortRow_l12b at hf
  refine lv_iload_n hx hb dX2_sortRow_12 rfl (lv_at hl 3 rfl) ?_
  refine lv_if_le (tgt := 50) hx hb dX2_sortRow_13 (by decide) (fun c2 => ?_) (fun c2 => ?_)
  · have hf := ite_t c2 hf
    obtain rfl := some_r hf
    exact hK _ _ _ (lv_sub hl [0, 1, 2, 3] rfl) hw
  · have hf := ite_f c2 hf
    refine lv_aload_n hx hb dX2_sortRow_16 rfl (lv_at hl 0 rfl) ?_
    refine k_get C hw 0 rfl rfl wiX2 3 (by decide) wfX2_19 rfl dX2_sortRow_17 ?_
    refine lv_iload_n hx hb dX2_sortRow_20 rfl (lv_at hl 3 rfl) ?_
    refine lv_iconst (v := (1 : Int32)) hx hb dX2_sortRow_21 (by decide) ?_
    refine lv_isub hx hb dX2_sortRow_22 ?_
    obtain ⟨g3, hf⟩ := gdi_r hf
    refine k_iald C hw 1 rfl g3 dX2_sortRow_23 ?_
    refine lv_aload_n hx hb dX2_sortRow_24 rfl (lv_at hl 1 rfl) ?_
    refine lv_iload_n hx hb dX2_sortRow_25 rfl (lv_at hl 2 rfl) ?_
    obtain ⟨g4, hf⟩ := gdi_r hf
    refine k_iald C hw 2 rfl g4 dX2_sortRow_26 ?_
    refine lv_icmp_le (tgt := 50) hx hb dX2_sortRow_27 (by decide) (fun c5 => ?_) (fun c5 => ?_)
    · have hf := ite_t c5 hf
      obtain rfl := some_r hf
      exact hK _ _ _ (lv_sub hl [0, 1, 2, 3] rfl) hw
    · have hf := ite_f c5 hf
      refine lv_aload_n hx hb dX2_sortRow_30 rfl (lv_at hl 0 rfl) ?_
      refine k_get C hw 0 rfl rfl wiX2 3 (by decide) wfX2_19 rfl dX2_sortRow_31 ?_
      refine lv_iload_n hx hb dX2_sortRow_34 rfl (lv_at hl 3 rfl) ?_
      refine lv_aload_n hx hb dX2_sortRow_35 rfl (lv_at hl 0 rfl) ?_
      refine k_get C hw 0 rfl rfl wiX2 3 (by decide) wfX2_19 rfl dX2_sortRow_36 ?_
      refine lv_iload_n hx hb dX2_sortRow_39 rfl (lv_at hl 3 rfl) ?_
      refine lv_iconst (v := (1 : Int32)) hx hb dX2_sortRow_40 (by decide) ?_
      refine lv_isub hx hb dX2_sortRow_41 ?_
      obtain ⟨g6, hf⟩ := gdi_r hf
      refine k_iald C hw 1 rfl g6 dX2_sortRow_42 ?_
      obtain ⟨g7, hf⟩ := gdi_r hf
      obtain ⟨y8, ey8⟩ : ∃ z : Nat → Int32, z = upd t_sorted v3.toNatClampNeg (t_sorted (v3 - (1 : Int32)).toNatClampNeg) := ⟨_, rfl⟩
      have hf := bnd_r ey8 hf
      refine k_iast C hw 1 rfl g7 dX2_sortRow_43 y8 ey8 (wX2_sortRow dA ht ht_answer ht_ring ht_sorted ht_order ht_spot hq1 nq1 t_answerLength t_length t_best y8 q1) rfl (fun H locs hw => ?_)
      obtain ⟨x9, ex9⟩ : ∃ y : Int32, y = v3 + (-1 : Int32) := ⟨_, rfl⟩
      have hf := bnd_r ex9 hf
      refine lv_iinc (v := x9) (lv' := [(3, .int x9), (0, .ref ht), (1, .ref hq1), (2, .int v2)]) hx hb dX2_sortRow_44 hl (k := 3) rfl (by rw [ex9]; rfl) (by decide) rfl (fun ls hl => ?_)
      refine lv_goto (tgt := 12) hx hb dX2_sortRow_47 (by decide) ?_
      obtain rfl := some_r hf
      exact hK _ _ _ (lv_sub hl [1, 2, 3, 0] rfl) hw
set_option maxHeartbeats 4000000 in
theorem tX2_sortRow_l12 {p : Program} {l : Launch} {e : Env} {R : Room} {s : State} {m : MethodId} {args : Array Value} {below : List Frame} {meth : Method} {c : Code} {D : va_G} {dA : Nat → ClassId} {w0 : va_W} {Q : State → Prop} {H : Heap} {locs : List Loc} {ls : Array Slot} {cells slots : Nat} (C : CX p s m args meth c cX2_sortRow 4 none RX2 D dA) (ht ht_answer ht_ring ht_sorted ht_order ht_spot hq1 nq1 : Nat) (hR : 0 ≤ R.frames ∧ 0 ≤ R.locals ∧ cells ≤ R.cells ∧ slots ≤ R.slots)  (t_answerLength : Int32) (t_length : Int32) (t_best : Int32) (t_sorted : (Nat → Int32)) (q1 : (Nat → Int32)) (v2 : Int32) (v3 : Int32) (N n : Nat) (res : ((Nat → Int32) × Int32)) (hf : itr (fun z => fX2_sortRow_l12b N nq1 t_length q1 v2 z.1 z.2) n (t_sorted, v3) = some res) (hK : (∀ (H : Heap) (locs : List Loc) (ls : Array Slot), lv_has ls 4 [(0, .ref ht), (1, .ref hq1), (2, .int v2), (3, .int res.2)] → St D w0 s (wX2_sortRow dA ht ht_answer ht_ring ht_sorted ht_order ht_spot hq1 nq1 t_answerLength t_length t_best res.1 q1) H locs → W p l e R s m args below meth c H locs cells slots Q (F0 m 50 ls []))) (hl : lv_has ls 4 [(0, .ref ht), (1, .ref hq1), (2, .int v2), (3, .int v3)]) (hw : St D w0 s (wX2_sortRow dA ht ht_answer ht_ring ht_sorted ht_order ht_spot hq1 nq1 t_answerLength t_length t_best t_sorted q1) H locs) : W p l e R s m args below meth c H locs cells slots Q (F0 m 12 ls []) :=
  itr_W (P := fun (z : ((Nat → Int32) × Int32)) => (∀ (H : Heap) (locs : List Loc) (ls : Array Slot), lv_has ls 4 [(0, .ref ht), (1, .ref hq1), (2, .int v2), (3, .int z.2)] → St D w0 s (wX2_sortRow dA ht ht_answer ht_ring ht_sorted ht_order ht_spot hq1 nq1 t_answerLength t_length t_best z.1 q1) H locs → W p l e R s m args below meth c H locs cells slots Q (F0 m 12 ls []))) (K := fun res => (∀ (H : Heap) (locs : List Loc) (ls : Array Slot), lv_has ls 4 [(0, .ref ht), (1, .ref hq1), (2, .int v2), (3, .int res.2)] → St D w0 s (wX2_sortRow dA ht ht_answer ht_ring ht_sorted ht_order ht_spot hq1 nq1 t_answerLength t_length t_best res.1 q1) H locs → W p l e R s m args below meth c H locs cells slots Q (F0 m 50 ls []))) (fun z r hf hK H locs ls hl hw => tX2_sortRow_l12b C ht ht_answer ht_ring ht_sorted ht_order ht_spot hq1 nq1 hR t_answerLength t_length t_best z.1 q1 v2 z.2 N r hf (by cases r with
    | inl r => exact hK
    | inr r => exact hK) hl hw) n _ res hf hK H locs ls hl hw
set_option maxHeartbeats 4000000 in
set_option maxRecDepth 100000 in
theorem tX2_sortRow_l2b {p : Program} {l : Launch} {e : Env} {R : Room} {s : State} {m : MethodId} {args : Array Value} {below : List Frame} {meth : Method} {c : Code} {D : va_G} {dA : Nat → ClassId} {w0 : va_W} {Q : State → Prop} {H : Heap} {locs : List Loc} {ls : Array Slot} {cells slots : Nat} (C : CX p s m args meth c cX2_sortRow 4 none RX2 D dA) (ht ht_answer ht_ring ht_sorted ht_order ht_spot hq1 nq1 : Nat) (hR : 0 ≤ R.frames ∧ 0 ≤ R.locals ∧ cells ≤ R.cells ∧ slots ≤ R.slots)  (t_answerLength : Int32) (t_length : Int32) (t_best : Int32) (t_sorted : (Nat → Int32)) (q1 : (Nat → Int32)) (v2 : Int32) (N : Nat) (res : (((Nat → Int32) × Int32) ⊕ ((Nat → Int32)))) (hf : fX2_sortRow_l2b N nq1 t_length q1 t_sorted v2 = some res) (hK : Sum.elim (fun z => (∀ (H : Heap) (locs : List Loc) (ls : Array Slot), lv_has ls 4 [(0, .ref ht), (1, .ref hq1), (2, .int z.2)] → St D w0 s (wX2_sortRow dA ht ht_answer ht_ring ht_sorted ht_order ht_spot hq1 nq1 t_answerLength t_length t_best z.1 q1) H locs → W p l e R s m args below meth c H locs cells slots Q (F0 m 2 ls []))) (fun r => (∀ (H : Heap) (locs : List Loc) (ls : Array Slot), lv_has ls 4 [] → St D w0 s (wX2_sortRow dA ht ht_answer ht_ring ht_sorted ht_order ht_spot hq1 nq1 t_answerLength t_length t_best r q1) H locs → W p l e R s m args below meth c H locs cells slots Q (F0 m 65 ls []))) res) (hl : lv_has ls 4 [(0, .ref ht), (1, .ref hq1), (2, .int v2)]) (hw : St D w0 s (wX2_sortRow dA ht ht_answer ht_ring ht_sorted ht_order ht_spot hq1 nq1 t_answerLength t_length t_best t_sorted q1) H locs) : W p l e R s m args below meth c H locs cells slots Q (F0 m 2 ls []) := by
  have hx := C.1
  have hb := C.2.1
  have hml := C.2.2.1
  have hown := C.2.2.2.1
  have hts := C.2.2.2.2.1
  unfold fX2_sortRow_l2b at hf
  refine lv_iload_n hx hb dX2_sortRow_2 rfl (lv_at hl 2 rfl) ?_
  refine lv_aload_n hx hb dX2_sortRow_3 rfl (lv_at hl 0 rfl) ?_
  refine k_get C hw 0 rfl rfl wiX2 6 (by decide) wfX2_28 rfl dX2_sortRow_4 ?_
  refine lv_icmp_ge (tgt := 65) hx hb dX2_sortRow_7 (by decide) (fun c1 => ?_) (fun c1 => ?_)
  · have hf := ite_t c1 hf
    obtain rfl := some_r hf
    exact hK _ _ _ (lv_sub hl [] rfl) hw
  · have hf := ite_f c1 hf
    refine lv_iload_n hx hb dX2_sortRow_10 rfl (lv_at hl 2 rfl) ?_
    refine lv_istore_n (lv' := [(3, .int v2), (0, .ref ht), (1, .ref hq1), (2, .int v2)]) hx hb dX2_sortRow_11 rfl hl (by decide) rfl (fun ls hl => ?_)
    obtain ⟨q10, hq10, hf⟩ := bind_r hf
    refine tX2_sortRow_l12 C ht ht_answer ht_ring ht_sorted ht_order ht_spot hq1 nq1 hR t_answerLength t_length t_best t_sorted q1 v2 v2 N _ _ hq10 ?_ (lv_sub hl [1, 2, 3, 0] rfl) hw
    intro H locs ls hl hw
    refine lv_aload_n hx hb dX2_sortRow_50 rfl (lv_at hl 0 rfl) ?_
    refine k_get C hw 0 rfl rfl wiX2 3 (by decide) wfX2_19 rfl dX2_sortRow_51 ?_
    refine lv_iload_n hx hb dX2_sortRow_54 rfl (lv_at hl 3 rfl) ?_
    refine lv_aload_n hx hb dX2_sortRow_55 rfl (lv_at hl 1 rfl) ?_
    refine lv_iload_n hx hb dX2_sortRow_56 rfl (lv_at hl 2 rfl) ?_
    obtain ⟨g11, hf⟩ := gdi_r hf
    refine k_iald C hw 2 rfl g11 dX2_sortRow_57 ?_
    obtain ⟨g12, hf⟩ := gdi_r hf
    obtain ⟨y13, ey13⟩ : ∃ z : Nat → Int32, z = upd q10.1 q10.2.toNatClampNeg (q1 v2.toNatClampNeg) := ⟨_, rfl⟩
    have hf := bnd_r ey13 hf
    refine k_iast C hw 1 rfl g12 dX2_sortRow_58 y13 ey13 (wX2_sortRow dA ht ht_answer ht_ring ht_sorted ht_order ht_spot hq1 nq1 t_answerLength t_length t_best y13 q1) rfl (fun H locs hw => ?_)
    obtain ⟨x14, ex14⟩ : ∃ y : Int32, y = v2 + (1 : Int32) := ⟨_, rfl⟩
    have hf := bnd_r ex14 hf
    refine lv_iinc (v := x14) (lv' := [(2, .int x14), (0, .ref ht), (1, .ref hq1), (3, .int q10.2)]) hx hb dX2_sortRow_59 hl (k := 2) rfl (by rw [ex14]; rfl) (by decide) rfl (fun ls hl => ?_)
    refine lv_goto (tgt := 2) hx hb dX2_sortRow_62 (by decide) ?_
    obtain rfl := some_r hf
    exact hK _ _ _ (lv_sub hl [1, 2, 0] rfl) hw
set_option maxHeartbeats 4000000 in
theorem tX2_sortRow_l2 {p : Program} {l : Launch} {e : Env} {R : Room} {s : State} {m : MethodId} {args : Array Value} {below : List Frame} {meth : Method} {c : Code} {D : va_G} {dA : Nat → ClassId} {w0 : va_W} {Q : State → Prop} {H : Heap} {locs : List Loc} {ls : Array Slot} {cells slots : Nat} (C : CX p s m args meth c cX2_sortRow 4 none RX2 D dA) (ht ht_answer ht_ring ht_sorted ht_order ht_spot hq1 nq1 : Nat) (hR : 0 ≤ R.frames ∧ 0 ≤ R.locals ∧ cells ≤ R.cells ∧ slots ≤ R.slots)  (t_answerLength : Int32) (t_length : Int32) (t_best : Int32) (t_sorted : (Nat → Int32)) (q1 : (Nat → Int32)) (v2 : Int32) (N n : Nat) (res : ((Nat → Int32))) (hf : itr (fun z => fX2_sortRow_l2b N nq1 t_length q1 z.1 z.2) n (t_sorted, v2) = some res) (hK : (∀ (H : Heap) (locs : List Loc) (ls : Array Slot), lv_has ls 4 [] → St D w0 s (wX2_sortRow dA ht ht_answer ht_ring ht_sorted ht_order ht_spot hq1 nq1 t_answerLength t_length t_best res q1) H locs → W p l e R s m args below meth c H locs cells slots Q (F0 m 65 ls []))) (hl : lv_has ls 4 [(0, .ref ht), (1, .ref hq1), (2, .int v2)]) (hw : St D w0 s (wX2_sortRow dA ht ht_answer ht_ring ht_sorted ht_order ht_spot hq1 nq1 t_answerLength t_length t_best t_sorted q1) H locs) : W p l e R s m args below meth c H locs cells slots Q (F0 m 2 ls []) :=
  itr_W (P := fun (z : ((Nat → Int32) × Int32)) => (∀ (H : Heap) (locs : List Loc) (ls : Array Slot), lv_has ls 4 [(0, .ref ht), (1, .ref hq1), (2, .int z.2)] → St D w0 s (wX2_sortRow dA ht ht_answer ht_ring ht_sorted ht_order ht_spot hq1 nq1 t_answerLength t_length t_best z.1 q1) H locs → W p l e R s m args below meth c H locs cells slots Q (F0 m 2 ls []))) (K := fun res => (∀ (H : Heap) (locs : List Loc) (ls : Array Slot), lv_has ls 4 [] → St D w0 s (wX2_sortRow dA ht ht_answer ht_ring ht_sorted ht_order ht_spot hq1 nq1 t_answerLength t_length t_best res q1) H locs → W p l e R s m args below meth c H locs cells slots Q (F0 m 65 ls []))) (fun z r hf hK H locs ls hl hw => tX2_sortRow_l2b C ht ht_answer ht_ring ht_sorted ht_order ht_spot hq1 nq1 hR t_answerLength t_length t_best z.1 q1 z.2 N r hf (by cases r with
    | inl r => exact hK
    | inr r => exact hK) hl hw) n _ res hf hK H locs ls hl hw
set_option maxHeartbeats 4000000 in
set_option maxRecDepth 100000 in
theorem qX2_sortRow (l : Launch) (D : va_G) (dA : Nat → ClassId) (ht ht_answer ht_ring ht_sorted ht_order ht_spot hq1 nq1 : Nat) (t_answerLength : Int32) (t_length : Int32) (t_best : Int32) (t_sorted : (Nat → Int32)) (q1 : (Nat → Int32))  (N : Nat) (o : (Nat → Int32)) (hf : fX2_sortRow N nq1 t_length t_sorted q1 = some o) : Mv l D dA yX2_sortRow (Cond.code yX2_sortRow cX2_sortRow 4 none :: wA) 0 0 [.ref ht, .ref hq1] (wX2_sortRow dA ht ht_answer ht_ring ht_sorted ht_order ht_spot hq1 nq1 t_answerLength t_length t_best t_sorted q1) (wX2_sortRow dA ht ht_answer ht_ring ht_sorted ht_order ht_spot hq1 nq1 t_answerLength t_length t_best o q1) := by
  intro sz
  refine M_of (cc := cX2_sortRow) (nL := 4) (ret := none) (own := RX2) (by decide +kernel) rfl (Nat.le_of_ble_eq_true rfl) ?_
  intro p e s m below meth c ls hsz C hw hl
  subst hsz
  have hR : 0 ≤ (rmm 0 0).frames ∧ 0 ≤ (rmm 0 0).locals ∧ 0 ≤ (rmm 0 0).cells ∧ 0 ≤ (rmm 0 0).slots := ⟨Nat.le_refl _, Nat.le_refl _, Nat.le_refl _, Nat.le_refl _⟩
  have hl : lv_has ls 4 [(0, .ref ht), (1, .ref hq1)] := hl
  have hx := C.1
  have hb := C.2.1
  have hml := C.2.2.1
  have hown := C.2.2.2.1
  have hts := C.2.2.2.2.1
  have hK : ∀ (H : Heap) (locs : List Loc) (pc : Nat) (ls : Array Slot), decode cX2_sortRow pc = .ok (.return_, 1) → St D (wX2_sortRow dA ht ht_answer ht_ring ht_sorted ht_order ht_spot hq1 nq1 t_answerLength t_length t_best t_sorted q1) s (wX2_sortRow dA ht ht_answer ht_ring ht_sorted ht_order ht_spot hq1 nq1 t_answerLength t_length t_best o q1) H locs → W p l e (rmm 0 0) s m [.ref ht, .ref hq1].toArray below meth c H locs 0 0 (MQ below (Qv D (wX2_sortRow dA ht ht_answer ht_ring ht_sorted ht_order ht_spot hq1 nq1 t_answerLength t_length t_best t_sorted q1) (wX2_sortRow dA ht ht_answer ht_ring ht_sorted ht_order ht_spot hq1 nq1 t_answerLength t_length t_best o q1) s.heap.size) [.ref ht, .ref hq1].toArray s 0 0 (va_A (wX2_sortRow dA ht ht_answer ht_ring ht_sorted ht_order ht_spot hq1 nq1 t_answerLength t_length t_best t_sorted q1) s.heap.size)) (F0 m pc ls []) := fun H locs pc ls hd hw => k_vret C hw hd
  unfold fX2_sortRow at hf
  refine lv_iconst (v := (0 : Int32)) hx hb dX2_sortRow_0 (by decide) ?_
  refine lv_istore_n (lv' := [(2, .int (0 : Int32)), (0, .ref ht), (1, .ref hq1)]) hx hb dX2_sortRow_1 rfl hl (by decide) rfl (fun ls hl => ?_)
  obtain ⟨q15, hq15, hf⟩ := bind_r hf
  refine tX2_sortRow_l2 C ht ht_answer ht_ring ht_sorted ht_order ht_spot hq1 nq1 hR t_answerLength t_length t_best t_sorted q1 (0 : Int32) N _ _ hq15 ?_ (lv_sub hl [1, 2, 0] rfl) hw
  intro H locs ls hl hw
  obtain rfl := some_r hf
  exact hK _ _ _ _ dX2_sortRow_65 hw

/-! RingPlaces$Orders.tryOrders(II)V -/
abbrev wX2_tryOrders (dA : Nat → ClassId) (ht ht_answer ht_ring ht_sorted ht_order ht_spot ht_ring_cells ht_ring_places ht_ring_facts : Nat) (t_answerLength : Int32) (t_length : Int32) (t_best : Int32) (t_spot : (Nat → Int32)) (t_order : (Nat → Int32)) (t_answer : (Nat → Int32)) (t_sorted : (Nat → Int32)) (t_ring_lands : Int32) (t_ring_things : Int32) (t_ring_placeCount : Int32) (t_ring_apart : Int32) (t_ring_thereFirst : Int32) (t_ring_cells : (Nat → Int64)) (t_ring_facts : (Nat → Int32)) : va_W := [(ht, .inr (2, [.ref ht_answer, .int t_answerLength, .ref ht_ring, .ref ht_sorted, .ref ht_order, .ref ht_spot, .int t_length, .int t_best])), (ht_spot, .inl (dA 0, 12, .inl t_spot)), (ht_order, .inl (dA 0, 7, .inl t_order)), (ht_answer, .inl (dA 0, 7, .inl t_answer)), (ht_sorted, .inl (dA 0, 7, .inl t_sorted)), (ht_ring, .inr (5, [.ref ht_ring_cells, .ref ht_ring_places, .int t_ring_lands, .int t_ring_things, .int t_ring_placeCount, .int t_ring_apart, .int t_ring_thereFirst, .ref ht_ring_facts])), (ht_ring_cells, .inl (dA 1, 16, .inr (.inl t_ring_cells))), (ht_ring_facts, .inl (dA 0, 224, .inl t_ring_facts))]
def fX2_tryOrders_l51b (N : Nat) (rc : Int32 → Int32 → Int32 → (Nat → Int32) → (Nat → Int32) → (Nat → Int32) → (Nat → Int32) → Int32 → (Nat → Int64) → (Nat → Int32) → Int32 → Int32 → Option (Int32 × Int32 × (Nat → Int32) × (Nat → Int32) × (Nat → Int32))) (t_length : Int32) (t_sorted : (Nat → Int32)) (t_ring_apart : Int32) (t_ring_cells : (Nat → Int64)) (t_ring_facts : (Nat → Int32)) (v1 : Int32) (v2 : Int32) (t_answerLength : Int32) (t_best : Int32) (t_spot : (Nat → Int32)) (t_order : (Nat → Int32)) (t_answer : (Nat → Int32)) (v3 : Int32) : Option ((Int32 × Int32 × (Nat → Int32) × (Nat → Int32) × (Nat → Int32) × Int32) ⊕ (Int32 × Int32 × (Nat → Int32) × (Nat → Int32) × (Nat → Int32))) := (if t_length ≤ v3 then some (.inr (t_answerLength, t_best, t_spot, t_order, t_answer)) else (if ((v2 >>> (v3 &&& 31)) &&& (1 : Int32)) = 0 then gdi v3 7 ((fX2_spotBehind N 7 t_order t_ring_apart t_ring_cells t_ring_facts t_spot v1 (t_sorted v3.toNatClampNeg)).bind fun o5 => (if t_best ≤ o5 then bnd (v3 + (1 : Int32)) fun x7 => some (.inl (t_answerLength, t_best, t_spot, t_order, t_answer, x7)) else gdi v1 12 (bnd (upd t_spot v1.toNatClampNeg o5) fun y9 => gdi v3 7 (gdi v1 7 (bnd (upd t_order v1.toNatClampNeg (t_sorted v3.toNatClampNeg)) fun y12 => (rc t_answerLength t_length t_best y9 y12 t_answer t_sorted t_ring_apart t_ring_cells t_ring_facts (v1 + (1 : Int32)) (v2 ||| ((1 : Int32) <<< (v3 &&& 31)))).bind fun o13 => bnd (v3 + (1 : Int32)) fun x14 => some (.inl (o13.1, o13.2.1, o13.2.2.1, o13.2.2.2.1, o13.2.2.2.2, x14))))))) else bnd (v3 + (1 : Int32)) fun x15 => some (.inl (t_answerLength, t_best, t_spot, t_order, t_answer, x15))))
def fX2_tryOrders_m (N : Nat) (rc : Int32 → Int32 → Int32 → (Nat → Int32) → (Nat → Int32) → (Nat → Int32) → (Nat → Int32) → Int32 → (Nat → Int64) → (Nat → Int32) → Int32 → Int32 → Option (Int32 × Int32 × (Nat → Int32) × (Nat → Int32) × (Nat → Int32))) (t_answerLength : Int32) (t_length : Int32) (t_best : Int32) (t_spot : (Nat → Int32)) (t_order : (Nat → Int32)) (t_answer : (Nat → Int32)) (t_sorted : (Nat → Int32)) (t_ring_apart : Int32) (t_ring_cells : (Nat → Int64)) (t_ring_facts : (Nat → Int32)) (x1_ : Int32) (x2_ : Int32) : Option (Int32 × Int32 × (Nat → Int32) × (Nat → Int32) × (Nat → Int32)) := (if x1_ < t_length then (itr (fun z => fX2_tryOrders_l51b N rc t_length t_sorted t_ring_apart t_ring_cells t_ring_facts x1_ x2_ z.1 z.2.1 z.2.2.1 z.2.2.2.1 z.2.2.2.2.1 z.2.2.2.2.2) N (t_answerLength, t_best, t_spot, t_order, t_answer, (0 : Int32))).bind fun q16 => some (q16.1, q16.2.1, q16.2.2.1, q16.2.2.2.1, q16.2.2.2.2) else gdi (t_length - (1 : Int32)) 12 (bnd (t_spot (t_length - (1 : Int32)).toNatClampNeg) fun x18 => gdc (0 : Int32) (0 : Int32) t_length 7 7 (bnd (va_cpy t_order t_answer (0 : Int32).toNatClampNeg (0 : Int32).toNatClampNeg t_length.toNatClampNeg) fun y20 => some (t_length, x18, t_spot, t_order, y20))))
def fX2_tryOrders (N : Nat) : Nat → Int32 → Int32 → Int32 → (Nat → Int32) → (Nat → Int32) → (Nat → Int32) → (Nat → Int32) → Int32 → (Nat → Int64) → (Nat → Int32) → Int32 → Int32 → Option (Int32 × Int32 × (Nat → Int32) × (Nat → Int32) × (Nat → Int32))
  | 0 => fun _ _ _ _ _ _ _ _ _ _ _ _ => none
  | d + 1 => fun t_answerLength t_length t_best t_spot t_order t_answer t_sorted t_ring_apart t_ring_cells t_ring_facts x1_ x2_ => fX2_tryOrders_m N (fX2_tryOrders N d) t_answerLength t_length t_best t_spot t_order t_answer t_sorted t_ring_apart t_ring_cells t_ring_facts x1_ x2_
set_option maxHeartbeats 4000000 in
set_option maxRecDepth 100000 in
theorem tX2_tryOrders_l51b {p : Program} {l : Launch} {e : Env} {R : Room} {s : State} {m : MethodId} {args : Array Value} {below : List Frame} {meth : Method} {c : Code} {D : va_G} {dA : Nat → ClassId} {w0 : va_W} {Q : State → Prop} {H : Heap} {locs : List Loc} {ls : Array Slot} {cells slots : Nat} (C : CX p s m args meth c cX2_tryOrders 5 none RX2 D dA) {rc : Int32 → Int32 → Int32 → (Nat → Int32) → (Nat → Int32) → (Nat → Int32) → (Nat → Int32) → Int32 → (Nat → Int64) → (Nat → Int32) → Int32 → Int32 → Option (Int32 × Int32 × (Nat → Int32) × (Nat → Int32) × (Nat → Int32))} (ht ht_answer ht_ring ht_sorted ht_order ht_spot ht_ring_cells ht_ring_places ht_ring_facts : Nat) {frr lor : Nat} (hR : 4 ≤ R.frames ∧ 97 ≤ R.locals ∧ cells ≤ R.cells ∧ slots ≤ R.slots) (hrc : ∀ (t_answerLength : Int32) (t_length : Int32) (t_best : Int32) (t_spot : (Nat → Int32)) (t_order : (Nat → Int32)) (t_answer : (Nat → Int32)) (t_sorted : (Nat → Int32)) (t_ring_lands : Int32) (t_ring_things : Int32) (t_ring_placeCount : Int32) (t_ring_apart : Int32) (t_ring_thereFirst : Int32) (t_ring_cells : (Nat → Int64)) (t_ring_facts : (Nat → Int32)) (x1 : Int32) (x2 : Int32) (o : Int32 × Int32 × (Nat → Int32) × (Nat → Int32) × (Nat → Int32)), rc t_answerLength t_length t_best t_spot t_order t_answer t_sorted t_ring_apart t_ring_cells t_ring_facts x1 x2 = some o → Mv l D dA yX2_tryOrders (Cond.code yX2_tryOrders cX2_tryOrders 5 none :: wA) frr lor [.ref ht, .int x1, .int x2] (wX2_tryOrders dA ht ht_answer ht_ring ht_sorted ht_order ht_spot ht_ring_cells ht_ring_places ht_ring_facts t_answerLength t_length t_best t_spot t_order t_answer t_sorted t_ring_lands t_ring_things t_ring_placeCount t_ring_apart t_ring_thereFirst t_ring_cells t_ring_facts) (wX2_tryOrders dA ht ht_answer ht_ring ht_sorted ht_order ht_spot ht_ring_cells ht_ring_places ht_ring_facts o.1 t_length o.2.1 o.2.2.1 o.2.2.2.1 o.2.2.2.2 t_sorted t_ring_lands t_ring_things t_ring_placeCount t_ring_apart t_ring_thereFirst t_ring_cells t_ring_facts)) (hRr : frr + 1 ≤ R.frames ∧ 8 + (5 + 11) + lor ≤ R.locals)  (t_answerLength : Int32) (t_length : Int32) (t_best : Int32) (t_spot : (Nat → Int32)) (t_order : (Nat → Int32)) (t_answer : (Nat → Int32)) (t_sorted : (Nat → Int32)) (t_ring_lands : Int32) (t_ring_things : Int32) (t_ring_placeCount : Int32) (t_ring_apart : Int32) (t_ring_thereFirst : Int32) (t_ring_cells : (Nat → Int64)) (t_ring_facts : (Nat → Int32)) (v1 : Int32) (v2 : Int32) (v3 : Int32) (N : Nat) (res : ((Int32 × Int32 × (Nat → Int32) × (Nat → Int32) × (Nat → Int32) × Int32) ⊕ (Int32 × Int32 × (Nat → Int32) × (Nat → Int32) × (Nat → Int32)))) (hf : fX2_tryOrders_l51b N rc t_length t_sorted t_ring_apart t_ring_cells t_ring_facts v1 v2 t_answerLength t_best t_spot t_order t_answer v3 = some res) (hK : Sum.elim (fun z => (∀ (H : Heap) (locs : List Loc) (ls : Array Slot), lv_has ls 5 [(0, .ref ht), (1, .int v1), (2, .int v2), (3, .int z.2.2.2.2.2)] → St D w0 s (wX2_tryOrders dA ht ht_answer ht_ring ht_sorted ht_order ht_spot ht_ring_cells ht_ring_places ht_ring_facts z.1 t_length z.2.1 z.2.2.1 z.2.2.2.1 z.2.2.2.2.1 t_sorted t_ring_lands t_ring_things t_ring_placeCount t_ring_apart t_ring_thereFirst t_ring_cells t_ring_facts) H locs → W p l e R s m args below meth c H locs cells slots Q (F0 m 51 ls []))) (fun r => (∀ (H : Heap) (locs : List Loc) (ls : Array Slot), lv_has ls 5 [] → St D w0 s (wX2_tryOrders dA ht ht_answer ht_ring ht_sorted ht_order ht_spot ht_ring_cells ht_ring_places ht_ring_facts r.1 t_length r.2.1 r.2.2.1 r.2.2.2.1 r.2.2.2.2 t_sorted t_ring_lands t_ring_things t_ring_placeCount t_ring_apart t_ring_thereFirst t_ring_cells t_ring_facts) H locs → W p l e R s m args below meth c H locs cells slots Q (F0 m 134 ls []))) res) (hl : lv_has ls 5 [(0, .ref ht), (1, .int v1), (2, .int v2), (3, .int v3)]) (hw : St D w0 s (wX2_tryOrders dA ht ht_answer ht_ring ht_sorted ht_order ht_spot ht_ring_cells ht_ring_places ht_ring_facts t_answerLength t_length t_best t_spot t_order t_answer t_sorted t_ring_lands t_ring_things t_ring_placeCount t_ring_apart t_ring_thereFirst t_ring_cells t_ring_facts) H locs) : W p l e R s m args below meth c H locs cells slots Q (F0 m 51 ls []) := by
  have hx := C.1
  have hb := C.2.1
  have hml := C.2.2.1
  have hown := C.2.2.2.1
  have hts := C.2.2.2.2.1
  unfold fX2_tryOrders_l51b at hf
  refine lv_iload_n hx hb dX2_tryOrders_51 rfl (lv_at hl 3 rfl) ?_
  refine lv_aload_n hx hb dX2_tryOrders_52 rfl (lv_at hl 0 rfl) ?_
  refine k_get C hw 0 rfl rfl wiX2 6 (by decide) wfX2_28 rfl dX2_tryOrders_53 ?_
  refine lv_icmp_ge (tgt := 134) hx hb dX2_tryOrders_56 (by decide) (fun c2 => ?_) (fun c2 => ?_)
  · have hf := ite_t c2 hf
    obtain rfl := some_r hf
    exact hK _ _ _ (lv_sub hl [] rfl) hw
  · have hf := ite_f c2 hf
    refine lv_iload_n hx hb dX2_tryOrders_59 rfl (lv_at hl 2 rfl) ?_
    refine lv_iload_n hx hb dX2_tryOrders_60 rfl (lv_at hl 3 rfl) ?_
    refine lv_ishr hx hb dX2_tryOrders_61 ?_
    refine lv_iconst (v := (1 : Int32)) hx hb dX2_tryOrders_62 (by decide) ?_
    refine lv_iand hx hb dX2_tryOrders_63 ?_
    refine lv_if_eq (tgt := 70) hx hb dX2_tryOrders_64 (by decide) (fun c3 => ?_) (fun c3 => ?_)
    · have hf := ite_t c3 hf
      refine lv_aload_n hx hb dX2_tryOrders_70 rfl (lv_at hl 0 rfl) ?_
      refine lv_aload_n hx hb dX2_tryOrders_71 rfl (lv_at hl 0 rfl) ?_
      refine k_get C hw 0 rfl rfl wiX2 4 (by decide) wfX2_22 rfl dX2_tryOrders_72 ?_
      refine lv_iload_n hx hb dX2_tryOrders_75 rfl (lv_at hl 1 rfl) ?_
      refine lv_aload_n hx hb dX2_tryOrders_76 rfl (lv_at hl 0 rfl) ?_
      refine k_get C hw 0 rfl rfl wiX2 3 (by decide) wfX2_19 rfl dX2_tryOrders_77 ?_
      refine lv_iload_n hx hb dX2_tryOrders_80 rfl (lv_at hl 3 rfl) ?_
      obtain ⟨g4, hf⟩ := gdi_r hf
      refine k_iald C hw 4 rfl g4 dX2_tryOrders_81 ?_
      obtain ⟨o5, ho5, hf⟩ := bind_r hf
      refine k_callVi C hw (n := 3) (As := [.ref ht_order, .int v1, .int (t_sorted v3.toNatClampNeg)]) (w1 := (wX2_tryOrders dA ht ht_answer ht_ring ht_sorted ht_order ht_spot ht_ring_cells ht_ring_places ht_ring_facts t_answerLength t_length t_best t_spot t_order t_answer t_sorted t_ring_lands t_ring_things t_ring_placeCount t_ring_apart t_ring_thereFirst t_ring_cells t_ring_facts)) (wr := [(ht_answer, .inl (dA 0, 7, .inl t_answer)), (ht_sorted, .inl (dA 0, 7, .inl t_sorted))]) [0, 2, 5, 6, 7, 1] [3, 4] [2, 7, 3, 0, 1, 4, 5, 6] rfl rfl (by decide) (by decide) (by decide) rfl (by decide) (qX2_spotBehind l D dA ht ht_answer ht_ring ht_sorted ht_order ht_spot ht_order ht_ring_cells ht_ring_places ht_ring_facts 7 t_answerLength t_length t_best t_order t_ring_lands t_ring_things t_ring_placeCount t_ring_apart t_ring_thereFirst t_ring_cells t_ring_facts t_spot v1 (t_sorted v3.toNatClampNeg) N _ ho5) wlX2_38 wmX2_spotBehind wvX2_spotBehind wnX2 wcX2_spotBehind rfl (by decide +kernel) ⟨Nat.le_trans (by decide) hR.1, Nat.le_trans (by decide) hR.2.1⟩ hR.2.2 rfl 0 rfl rfl hl.1 (Nat.le_of_ble_eq_true rfl) dX2_tryOrders_82 rfl (fun H locs hw => ?_)
      refine lv_istore (lv' := [(4, .int o5), (0, .ref ht), (1, .int v1), (2, .int v2), (3, .int v3)]) hx hb dX2_tryOrders_85 hl (by decide) rfl (fun ls hl => ?_)
      refine lv_iload hx hb dX2_tryOrders_87 (lv_at hl 0 rfl) ?_
      refine lv_aload_n hx hb dX2_tryOrders_89 rfl (lv_at hl 1 rfl) ?_
      refine k_get C hw 0 rfl rfl wiX2 7 (by decide) wfX2_31 rfl dX2_tryOrders_90 ?_
      refine lv_icmp_ge (tgt := 128) hx hb dX2_tryOrders_93 (by decide) (fun c6 => ?_) (fun c6 => ?_)
      · have hf := ite_t c6 hf
        obtain ⟨x7, ex7⟩ : ∃ y : Int32, y = v3 + (1 : Int32) := ⟨_, rfl⟩
        have hf := bnd_r ex7 hf
        refine lv_iinc (v := x7) (lv' := [(3, .int x7), (4, .int o5), (0, .ref ht), (1, .int v1), (2, .int v2)]) hx hb dX2_tryOrders_128 hl (k := 4) rfl (by rw [ex7]; rfl) (by decide) rfl (fun ls hl => ?_)
        refine lv_goto (tgt := 51) hx hb dX2_tryOrders_131 (by decide) ?_
        obtain rfl := some_r hf
        exact hK _ _ _ (lv_sub hl [2, 3, 4, 0] rfl) hw
      · have hf := ite_f c6 hf
        refine lv_aload_n hx hb dX2_tryOrders_96 rfl (lv_at hl 1 rfl) ?_
        refine k_get C hw 0 rfl rfl wiX2 5 (by decide) wfX2_25 rfl dX2_tryOrders_97 ?_
        refine lv_iload_n hx hb dX2_tryOrders_100 rfl (lv_at hl 2 rfl) ?_
        refine lv_iload hx hb dX2_tryOrders_101 (lv_at hl 0 rfl) ?_
        obtain ⟨g8, hf⟩ := gdi_r hf
        obtain ⟨y9, ey9⟩ : ∃ z : Nat → Int32, z = upd t_spot v1.toNatClampNeg o5 := ⟨_, rfl⟩
        have hf := bnd_r ey9 hf
        refine k_iast C hw 1 rfl g8 dX2_tryOrders_103 y9 ey9 (wX2_tryOrders dA ht ht_answer ht_ring ht_sorted ht_order ht_spot ht_ring_cells ht_ring_places ht_ring_facts t_answerLength t_length t_best y9 t_order t_answer t_sorted t_ring_lands t_ring_things t_ring_placeCount t_ring_apart t_ring_thereFirst t_ring_cells t_ring_facts) rfl (fun H locs hw => ?_)
        refine lv_aload_n hx hb dX2_tryOrders_104 rfl (lv_at hl 1 rfl) ?_
        refine k_get C hw 0 rfl rfl wiX2 4 (by decide) wfX2_22 rfl dX2_tryOrders_105 ?_
        refine lv_iload_n hx hb dX2_tryOrders_108 rfl (lv_at hl 2 rfl) ?_
        refine lv_aload_n hx hb dX2_tryOrders_109 rfl (lv_at hl 1 rfl) ?_
        refine k_get C hw 0 rfl rfl wiX2 3 (by decide) wfX2_19 rfl dX2_tryOrders_110 ?_
        refine lv_iload_n hx hb dX2_tryOrders_113 rfl (lv_at hl 4 rfl) ?_
        obtain ⟨g10, hf⟩ := gdi_r hf
        refine k_iald C hw 4 rfl g10 dX2_tryOrders_114 ?_
        obtain ⟨g11, hf⟩ := gdi_r hf
        obtain ⟨y12, ey12⟩ : ∃ z : Nat → Int32, z = upd t_order v1.toNatClampNeg (t_sorted v3.toNatClampNeg) := ⟨_, rfl⟩
        have hf := bnd_r ey12 hf
        refine k_iast C hw 2 rfl g11 dX2_tryOrders_115 y12 ey12 (wX2_tryOrders dA ht ht_answer ht_ring ht_sorted ht_order ht_spot ht_ring_cells ht_ring_places ht_ring_facts t_answerLength t_length t_best y9 y12 t_answer t_sorted t_ring_lands t_ring_things t_ring_placeCount t_ring_apart t_ring_thereFirst t_ring_cells t_ring_facts) rfl (fun H locs hw => ?_)
        refine lv_aload_n hx hb dX2_tryOrders_116 rfl (lv_at hl 1 rfl) ?_
        refine lv_iload_n hx hb dX2_tryOrders_117 rfl (lv_at hl 2 rfl) ?_
        refine lv_iconst (v := (1 : Int32)) hx hb dX2_tryOrders_118 (by decide) ?_
        refine lv_iadd hx hb dX2_tryOrders_119 ?_
        refine lv_iload_n hx hb dX2_tryOrders_120 rfl (lv_at hl 3 rfl) ?_
        refine lv_iconst (v := (1 : Int32)) hx hb dX2_tryOrders_121 (by decide) ?_
        refine lv_iload_n hx hb dX2_tryOrders_122 rfl (lv_at hl 4 rfl) ?_
        refine lv_ishl hx hb dX2_tryOrders_123 ?_
        refine lv_ior hx hb dX2_tryOrders_124 ?_
        obtain ⟨o13, ho13, hf⟩ := bind_r hf
        refine k_callVv C hw (n := 2) (As := [.int (v1 + (1 : Int32)), .int (v2 ||| ((1 : Int32) <<< (v3 &&& 31)))]) (w1 := (wX2_tryOrders dA ht ht_answer ht_ring ht_sorted ht_order ht_spot ht_ring_cells ht_ring_places ht_ring_facts o13.1 t_length o13.2.1 o13.2.2.1 o13.2.2.2.1 o13.2.2.2.2 t_sorted t_ring_lands t_ring_things t_ring_placeCount t_ring_apart t_ring_thereFirst t_ring_cells t_ring_facts)) (wr := []) [0, 1, 2, 3, 4, 5, 6, 7] [] [0, 1, 2, 3, 4, 5, 6, 7] rfl rfl (by decide) (by decide) (by decide) rfl (by decide) (hrc t_answerLength t_length t_best y9 y12 t_answer t_sorted t_ring_lands t_ring_things t_ring_placeCount t_ring_apart t_ring_thereFirst t_ring_cells t_ring_facts (v1 + (1 : Int32)) (v2 ||| ((1 : Int32) <<< (v3 &&& 31))) _ ho13) wlX2_61 wmX2_tryOrders wvX2_tryOrders wnX2 wcX2_tryOrders rfl (by decide +kernel) hRr hR.2.2 rfl 0 rfl rfl hl.1 (Nat.le_of_ble_eq_true rfl) dX2_tryOrders_125 rfl (fun H locs hw => ?_)
        obtain ⟨x14, ex14⟩ : ∃ y : Int32, y = v3 + (1 : Int32) := ⟨_, rfl⟩
        have hf := bnd_r ex14 hf
        refine lv_iinc (v := x14) (lv' := [(3, .int x14), (4, .int o5), (0, .ref ht), (1, .int v1), (2, .int v2)]) hx hb dX2_tryOrders_128 hl (k := 4) rfl (by rw [ex14]; rfl) (by decide) rfl (fun ls hl => ?_)
        refine lv_goto (tgt := 51) hx hb dX2_tryOrders_131 (by decide) ?_
        obtain rfl := some_r hf
        exact hK _ _ _ (lv_sub hl [2, 3, 4, 0] rfl) hw
    · have hf := ite_f c3 hf
      refine lv_goto (tgt := 128) hx hb dX2_tryOrders_67 (by decide) ?_
      obtain ⟨x15, ex15⟩ : ∃ y : Int32, y = v3 + (1 : Int32) := ⟨_, rfl⟩
      have hf := bnd_r ex15 hf
      refine lv_iinc (v := x15) (lv' := [(3, .int x15), (0, .ref ht), (1, .int v1), (2, .int v2)]) hx hb dX2_tryOrders_128 hl (k := 3) rfl (by rw [ex15]; rfl) (by decide) rfl (fun ls hl => ?_)
      refine lv_goto (tgt := 51) hx hb dX2_tryOrders_131 (by decide) ?_
      obtain rfl := some_r hf
      exact hK _ _ _ (lv_sub hl [1, 2, 3, 0] rfl) hw
set_option maxHeartbeats 4000000 in
theorem tX2_tryOrders_l51 {p : Program} {l : Launch} {e : Env} {R : Room} {s : State} {m : MethodId} {args : Array Value} {below : List Frame} {meth : Method} {c : Code} {D : va_G} {dA : Nat → ClassId} {w0 : va_W} {Q : State → Prop} {H : Heap} {locs : List Loc} {ls : Array Slot} {cells slots : Nat} (C : CX p s m args meth c cX2_tryOrders 5 none RX2 D dA) {rc : Int32 → Int32 → Int32 → (Nat → Int32) → (Nat → Int32) → (Nat → Int32) → (Nat → Int32) → Int32 → (Nat → Int64) → (Nat → Int32) → Int32 → Int32 → Option (Int32 × Int32 × (Nat → Int32) × (Nat → Int32) × (Nat → Int32))} (ht ht_answer ht_ring ht_sorted ht_order ht_spot ht_ring_cells ht_ring_places ht_ring_facts : Nat) {frr lor : Nat} (hR : 4 ≤ R.frames ∧ 97 ≤ R.locals ∧ cells ≤ R.cells ∧ slots ≤ R.slots) (hrc : ∀ (t_answerLength : Int32) (t_length : Int32) (t_best : Int32) (t_spot : (Nat → Int32)) (t_order : (Nat → Int32)) (t_answer : (Nat → Int32)) (t_sorted : (Nat → Int32)) (t_ring_lands : Int32) (t_ring_things : Int32) (t_ring_placeCount : Int32) (t_ring_apart : Int32) (t_ring_thereFirst : Int32) (t_ring_cells : (Nat → Int64)) (t_ring_facts : (Nat → Int32)) (x1 : Int32) (x2 : Int32) (o : Int32 × Int32 × (Nat → Int32) × (Nat → Int32) × (Nat → Int32)), rc t_answerLength t_length t_best t_spot t_order t_answer t_sorted t_ring_apart t_ring_cells t_ring_facts x1 x2 = some o → Mv l D dA yX2_tryOrders (Cond.code yX2_tryOrders cX2_tryOrders 5 none :: wA) frr lor [.ref ht, .int x1, .int x2] (wX2_tryOrders dA ht ht_answer ht_ring ht_sorted ht_order ht_spot ht_ring_cells ht_ring_places ht_ring_facts t_answerLength t_length t_best t_spot t_order t_answer t_sorted t_ring_lands t_ring_things t_ring_placeCount t_ring_apart t_ring_thereFirst t_ring_cells t_ring_facts) (wX2_tryOrders dA ht ht_answer ht_ring ht_sorted ht_order ht_spot ht_ring_cells ht_ring_places ht_ring_facts o.1 t_length o.2.1 o.2.2.1 o.2.2.2.1 o.2.2.2.2 t_sorted t_ring_lands t_ring_things t_ring_placeCount t_ring_apart t_ring_thereFirst t_ring_cells t_ring_facts)) (hRr : frr + 1 ≤ R.frames ∧ 8 + (5 + 11) + lor ≤ R.locals)  (t_answerLength : Int32) (t_length : Int32) (t_best : Int32) (t_spot : (Nat → Int32)) (t_order : (Nat → Int32)) (t_answer : (Nat → Int32)) (t_sorted : (Nat → Int32)) (t_ring_lands : Int32) (t_ring_things : Int32) (t_ring_placeCount : Int32) (t_ring_apart : Int32) (t_ring_thereFirst : Int32) (t_ring_cells : (Nat → Int64)) (t_ring_facts : (Nat → Int32)) (v1 : Int32) (v2 : Int32) (v3 : Int32) (N n : Nat) (res : (Int32 × Int32 × (Nat → Int32) × (Nat → Int32) × (Nat → Int32))) (hf : itr (fun z => fX2_tryOrders_l51b N rc t_length t_sorted t_ring_apart t_ring_cells t_ring_facts v1 v2 z.1 z.2.1 z.2.2.1 z.2.2.2.1 z.2.2.2.2.1 z.2.2.2.2.2) n (t_answerLength, t_best, t_spot, t_order, t_answer, v3) = some res) (hK : (∀ (H : Heap) (locs : List Loc) (ls : Array Slot), lv_has ls 5 [] → St D w0 s (wX2_tryOrders dA ht ht_answer ht_ring ht_sorted ht_order ht_spot ht_ring_cells ht_ring_places ht_ring_facts res.1 t_length res.2.1 res.2.2.1 res.2.2.2.1 res.2.2.2.2 t_sorted t_ring_lands t_ring_things t_ring_placeCount t_ring_apart t_ring_thereFirst t_ring_cells t_ring_facts) H locs → W p l e R s m args below meth c H locs cells slots Q (F0 m 134 ls []))) (hl : lv_has ls 5 [(0, .ref ht), (1, .int v1), (2, .int v2), (3, .int v3)]) (hw : St D w0 s (wX2_tryOrders dA ht ht_answer ht_ring ht_sorted ht_order ht_spot ht_ring_cells ht_ring_places ht_ring_facts t_answerLength t_length t_best t_spot t_order t_answer t_sorted t_ring_lands t_ring_things t_ring_placeCount t_ring_apart t_ring_thereFirst t_ring_cells t_ring_facts) H locs) : W p l e R s m args below meth c H locs cells slots Q (F0 m 51 ls []) :=
  itr_W (P := fun (z : (Int32 × Int32 × (Nat → Int32) × (Nat → Int32) × (Nat → Int32) × Int32)) => (∀ (H : Heap) (locs : List Loc) (ls : Array Slot), lv_has ls 5 [(0, .ref ht), (1, .int v1), (2, .int v2), (3, .int z.2.2.2.2.2)] → St D w0 s (wX2_tryOrders dA ht ht_answer ht_ring ht_sorted ht_order ht_spot ht_ring_cells ht_ring_places ht_ring_facts z.1 t_length z.2.1 z.2.2.1 z.2.2.2.1 z.2.2.2.2.1 t_sorted t_ring_lands t_ring_things t_ring_placeCount t_ring_apart t_ring_thereFirst t_ring_cells t_ring_facts) H locs → W p l e R s m args below meth c H locs cells slots Q (F0 m 51 ls []))) (K := fun res => (∀ (H : Heap) (locs : List Loc) (ls : Array Slot), lv_has ls 5 [] → St D w0 s (wX2_tryOrders dA ht ht_answer ht_ring ht_sorted ht_order ht_spot ht_ring_cells ht_ring_places ht_ring_facts res.1 t_length res.2.1 res.2.2.1 res.2.2.2.1 res.2.2.2.2 t_sorted t_ring_lands t_ring_things t_ring_placeCount t_ring_apart t_ring_thereFirst t_ring_cells t_ring_facts) H locs → W p l e R s m args below meth c H locs cells slots Q (F0 m 134 ls []))) (fun z r hf hK H locs ls hl hw => tX2_tryOrders_l51b C ht ht_answer ht_ring ht_sorted ht_order ht_spot ht_ring_cells ht_ring_places ht_ring_facts hR hrc hRr z.1 t_length z.2.1 z.2.2.1 z.2.2.2.1 z.2.2.2.2.1 t_sorted t_ring_lands t_ring_things t_ring_placeCount t_ring_apart t_ring_thereFirst t_ring_cells t_ring_facts v1 v2 z.2.2.2.2.2 N r hf (by cases r with
    | inl r => exact hK
    | inr r => exact hK) hl hw) n _ res hf hK H locs ls hl hw
set_option maxHeartbeats 4000000 in
set_option maxRecDepth 100000 in
theorem qX2_tryOrders_all (l : Launch) (D : va_G) (dA : Nat → ClassId) (ht ht_answer ht_ring ht_sorted ht_order ht_spot ht_ring_cells ht_ring_places ht_ring_facts : Nat) (N : Nat) : ∀ (d : Nat) (t_answerLength : Int32) (t_length : Int32) (t_best : Int32) (t_spot : (Nat → Int32)) (t_order : (Nat → Int32)) (t_answer : (Nat → Int32)) (t_sorted : (Nat → Int32)) (t_ring_lands : Int32) (t_ring_things : Int32) (t_ring_placeCount : Int32) (t_ring_apart : Int32) (t_ring_thereFirst : Int32) (t_ring_cells : (Nat → Int64)) (t_ring_facts : (Nat → Int32)) (x1_ : Int32) (x2_ : Int32) (o : Int32 × Int32 × (Nat → Int32) × (Nat → Int32) × (Nat → Int32)), fX2_tryOrders N d t_answerLength t_length t_best t_spot t_order t_answer t_sorted t_ring_apart t_ring_cells t_ring_facts x1_ x2_ = some o → Mv l D dA yX2_tryOrders (Cond.code yX2_tryOrders cX2_tryOrders 5 none :: wA) (4 + d) (97 + d * 24) [.ref ht, .int x1_, .int x2_] (wX2_tryOrders dA ht ht_answer ht_ring ht_sorted ht_order ht_spot ht_ring_cells ht_ring_places ht_ring_facts t_answerLength t_length t_best t_spot t_order t_answer t_sorted t_ring_lands t_ring_things t_ring_placeCount t_ring_apart t_ring_thereFirst t_ring_cells t_ring_facts) (wX2_tryOrders dA ht ht_answer ht_ring ht_sorted ht_order ht_spot ht_ring_cells ht_ring_places ht_ring_facts o.1 t_length o.2.1 o.2.2.1 o.2.2.2.1 o.2.2.2.2 t_sorted t_ring_lands t_ring_things t_ring_placeCount t_ring_apart t_ring_thereFirst t_ring_cells t_ring_facts) := by
  intro d
  induction d with
  | zero =>
    intro t_answerLength t_length t_best t_spot t_order t_answer t_sorted t_ring_lands t_ring_things t_ring_placeCount t_ring_apart t_ring_thereFirst t_ring_cells t_ring_facts x1_ x2_ o hf
    cases hf
  | succ d ih =>
    intro t_answerLength t_length t_best t_spot t_order t_answer t_sorted t_ring_lands t_ring_things t_ring_placeCount t_ring_apart t_ring_thereFirst t_ring_cells t_ring_facts x1_ x2_ o hf
    intro sz
    refine M_of (cc := cX2_tryOrders) (nL := 5) (ret := none) (own := RX2) (by decide +kernel) rfl (Nat.le_of_ble_eq_true rfl) ?_
    intro p e s m below meth c ls hsz C hw hl
    subst hsz
    have hR : 4 ≤ (rmm (4 + (d + 1)) (97 + (d + 1) * 24)).frames ∧ 97 ≤ (rmm (4 + (d + 1)) (97 + (d + 1) * 24)).locals ∧ 0 ≤ (rmm (4 + (d + 1)) (97 + (d + 1) * 24)).cells ∧ 0 ≤ (rmm (4 + (d + 1)) (97 + (d + 1) * 24)).slots := ⟨Nat.le_add_right _ _, Nat.le_add_right _ _, Nat.le_refl _, Nat.le_refl _⟩
    have hl : lv_has ls 5 [(0, .ref ht), (1, .int x1_), (2, .int x2_)] := hl
    have hx := C.1
    have hb := C.2.1
    have hml := C.2.2.1
    have hown := C.2.2.2.1
    have hts := C.2.2.2.2.1
    have hK : ∀ (H : Heap) (locs : List Loc) (pc : Nat) (ls : Array Slot), decode cX2_tryOrders pc = .ok (.return_, 1) → St D (wX2_tryOrders dA ht ht_answer ht_ring ht_sorted ht_order ht_spot ht_ring_cells ht_ring_places ht_ring_facts t_answerLength t_length t_best t_spot t_order t_answer t_sorted t_ring_lands t_ring_things t_ring_placeCount t_ring_apart t_ring_thereFirst t_ring_cells t_ring_facts) s (wX2_tryOrders dA ht ht_answer ht_ring ht_sorted ht_order ht_spot ht_ring_cells ht_ring_places ht_ring_facts o.1 t_length o.2.1 o.2.2.1 o.2.2.2.1 o.2.2.2.2 t_sorted t_ring_lands t_ring_things t_ring_placeCount t_ring_apart t_ring_thereFirst t_ring_cells t_ring_facts) H locs → W p l e (rmm (4 + (d + 1)) (97 + (d + 1) * 24)) s m [.ref ht, .int x1_, .int x2_].toArray below meth c H locs 0 0 (MQ below (Qv D (wX2_tryOrders dA ht ht_answer ht_ring ht_sorted ht_order ht_spot ht_ring_cells ht_ring_places ht_ring_facts t_answerLength t_length t_best t_spot t_order t_answer t_sorted t_ring_lands t_ring_things t_ring_placeCount t_ring_apart t_ring_thereFirst t_ring_cells t_ring_facts) (wX2_tryOrders dA ht ht_answer ht_ring ht_sorted ht_order ht_spot ht_ring_cells ht_ring_places ht_ring_facts o.1 t_length o.2.1 o.2.2.1 o.2.2.2.1 o.2.2.2.2 t_sorted t_ring_lands t_ring_things t_ring_placeCount t_ring_apart t_ring_thereFirst t_ring_cells t_ring_facts) s.heap.size) [.ref ht, .int x1_, .int x2_].toArray s 0 0 (va_A (wX2_tryOrders dA ht ht_answer ht_ring ht_sorted ht_order ht_spot ht_ring_cells ht_ring_places ht_ring_facts t_answerLength t_length t_best t_spot t_order t_answer t_sorted t_ring_lands t_ring_things t_ring_placeCount t_ring_apart t_ring_thereFirst t_ring_cells t_ring_facts) s.heap.size)) (F0 m pc ls []) := fun H locs pc ls hd hw => k_vret C hw hd
    have hrc := ih
    have hRr : (4 + d) + 1 ≤ (rmm (4 + (d + 1)) (97 + (d + 1) * 24)).frames ∧ 8 + (5 + 11) + (97 + d * 24) ≤ (rmm (4 + (d + 1)) (97 + (d + 1) * 24)).locals := ⟨by show (4 + d) + 1 ≤ (4 + (d + 1)); omega, by show 8 + (5 + 11) + (97 + d * 24) ≤ (97 + (d + 1) * 24); omega⟩
    change fX2_tryOrders_m N (fX2_tryOrders N d) t_answerLength t_length t_best t_spot t_order t_answer t_sorted t_ring_apart t_ring_cells t_ring_facts x1_ x2_ = some o at hf
    unfold fX2_tryOrders_m at hf
    refine lv_iload_n hx hb dX2_tryOrders_0 rfl (lv_at hl 1 rfl) ?_
    refine lv_aload_n hx hb dX2_tryOrders_1 rfl (lv_at hl 0 rfl) ?_
    refine k_get C hw 0 rfl rfl wiX2 6 (by decide) wfX2_28 rfl dX2_tryOrders_2 ?_
    refine lv_icmp_lt (tgt := 49) hx hb dX2_tryOrders_5 (by decide) (fun c1 => ?_) (fun c1 => ?_)
    · have hf := ite_t c1 hf
      refine lv_iconst (v := (0 : Int32)) hx hb dX2_tryOrders_49 (by decide) ?_
      refine lv_istore_n (lv' := [(3, .int (0 : Int32)), (0, .ref ht), (1, .int x1_), (2, .int x2_)]) hx hb dX2_tryOrders_50 rfl hl (by decide) rfl (fun ls hl => ?_)
      obtain ⟨q16, hq16, hf⟩ := bind_r hf
      refine tX2_tryOrders_l51 C ht ht_answer ht_ring ht_sorted ht_order ht_spot ht_ring_cells ht_ring_places ht_ring_facts hR hrc hRr t_answerLength t_length t_best t_spot t_order t_answer t_sorted t_ring_lands t_ring_things t_ring_placeCount t_ring_apart t_ring_thereFirst t_ring_cells t_ring_facts x1_ x2_ (0 : Int32) N _ _ hq16 ?_ (lv_sub hl [1, 2, 3, 0] rfl) hw
      intro H locs ls hl hw
      obtain rfl := some_r hf
      exact hK _ _ _ _ dX2_tryOrders_134 hw
    · have hf := ite_f c1 hf
      refine lv_aload_n hx hb dX2_tryOrders_8 rfl (lv_at hl 0 rfl) ?_
      refine lv_aload_n hx hb dX2_tryOrders_9 rfl (lv_at hl 0 rfl) ?_
      refine k_get C hw 0 rfl rfl wiX2 5 (by decide) wfX2_25 rfl dX2_tryOrders_10 ?_
      refine lv_aload_n hx hb dX2_tryOrders_13 rfl (lv_at hl 0 rfl) ?_
      refine k_get C hw 0 rfl rfl wiX2 6 (by decide) wfX2_28 rfl dX2_tryOrders_14 ?_
      refine lv_iconst (v := (1 : Int32)) hx hb dX2_tryOrders_17 (by decide) ?_
      refine lv_isub hx hb dX2_tryOrders_18 ?_
      obtain ⟨g17, hf⟩ := gdi_r hf
      refine k_iald C hw 1 rfl g17 dX2_tryOrders_19 ?_
      refine lv_topi (fun x18 ex18 => ?_)
      have hf := bnd_r ex18 hf
      refine k_put C hw 0 rfl rfl wiX2 tyX2 tyX2_ok nmX2 7 (by decide) wfX2_31 rfl rfl rfl (Nat.le_of_ble_eq_true rfl) dX2_tryOrders_20 (wX2_tryOrders dA ht ht_answer ht_ring ht_sorted ht_order ht_spot ht_ring_cells ht_ring_places ht_ring_facts t_answerLength t_length x18 t_spot t_order t_answer t_sorted t_ring_lands t_ring_things t_ring_placeCount t_ring_apart t_ring_thereFirst t_ring_cells t_ring_facts) rfl (fun H locs hw => ?_)
      refine lv_aload_n hx hb dX2_tryOrders_23 rfl (lv_at hl 0 rfl) ?_
      refine lv_aload_n hx hb dX2_tryOrders_24 rfl (lv_at hl 0 rfl) ?_
      refine k_get C hw 0 rfl rfl wiX2 6 (by decide) wfX2_28 rfl dX2_tryOrders_25 ?_
      refine k_put C hw 0 rfl rfl wiX2 tyX2 tyX2_ok nmX2 1 (by decide) wfX2_15 rfl rfl rfl (Nat.le_of_ble_eq_true rfl) dX2_tryOrders_28 (wX2_tryOrders dA ht ht_answer ht_ring ht_sorted ht_order ht_spot ht_ring_cells ht_ring_places ht_ring_facts t_length t_length x18 t_spot t_order t_answer t_sorted t_ring_lands t_ring_things t_ring_placeCount t_ring_apart t_ring_thereFirst t_ring_cells t_ring_facts) rfl (fun H locs hw => ?_)
      refine lv_aload_n hx hb dX2_tryOrders_31 rfl (lv_at hl 0 rfl) ?_
      refine k_get C hw 0 rfl rfl wiX2 4 (by decide) wfX2_22 rfl dX2_tryOrders_32 ?_
      refine lv_iconst (v := (0 : Int32)) hx hb dX2_tryOrders_35 (by decide) ?_
      refine lv_aload_n hx hb dX2_tryOrders_36 rfl (lv_at hl 0 rfl) ?_
      refine k_get C hw 0 rfl rfl wiX2 0 (by decide) wfX2_9 rfl dX2_tryOrders_37 ?_
      refine lv_iconst (v := (0 : Int32)) hx hb dX2_tryOrders_40 (by decide) ?_
      refine lv_aload_n hx hb dX2_tryOrders_41 rfl (lv_at hl 0 rfl) ?_
      refine k_get C hw 0 rfl rfl wiX2 6 (by decide) wfX2_28 rfl dX2_tryOrders_42 ?_
      obtain ⟨g19, hf⟩ := gdc_r hf
      obtain ⟨y20, ey20⟩ : ∃ z : Nat → Int32, z = va_cpy t_order t_answer (0 : Int32).toNatClampNeg (0 : Int32).toNatClampNeg t_length.toNatClampNeg := ⟨_, rfl⟩
      have hf := bnd_r ey20 hf
      refine k_copyi C hw wlX2_65 wxnc wxsc wxsi hl.1 2 3 rfl rfl g19 (Nat.le_trans (by decide) hR.1) (Nat.le_trans (Nat.le_of_ble_eq_true rfl) hR.2.1) dX2_tryOrders_45 y20 ey20 (wX2_tryOrders dA ht ht_answer ht_ring ht_sorted ht_order ht_spot ht_ring_cells ht_ring_places ht_ring_facts t_length t_length x18 t_spot t_order y20 t_sorted t_ring_lands t_ring_things t_ring_placeCount t_ring_apart t_ring_thereFirst t_ring_cells t_ring_facts) rfl (fun H locs hw => ?_)
      obtain rfl := some_r hf
      exact hK _ _ _ _ dX2_tryOrders_48 hw
theorem qX2_tryOrders (l : Launch) (D : va_G) (dA : Nat → ClassId) (ht ht_answer ht_ring ht_sorted ht_order ht_spot ht_ring_cells ht_ring_places ht_ring_facts : Nat) (t_answerLength : Int32) (t_length : Int32) (t_best : Int32) (t_spot : (Nat → Int32)) (t_order : (Nat → Int32)) (t_answer : (Nat → Int32)) (t_sorted : (Nat → Int32)) (t_ring_lands : Int32) (t_ring_things : Int32) (t_ring_placeCount : Int32) (t_ring_apart : Int32) (t_ring_thereFirst : Int32) (t_ring_cells : (Nat → Int64)) (t_ring_facts : (Nat → Int32)) (x1_ : Int32) (x2_ : Int32) (N d : Nat) (o : Int32 × Int32 × (Nat → Int32) × (Nat → Int32) × (Nat → Int32)) (hf : fX2_tryOrders N d t_answerLength t_length t_best t_spot t_order t_answer t_sorted t_ring_apart t_ring_cells t_ring_facts x1_ x2_ = some o) : Mv l D dA yX2_tryOrders (Cond.code yX2_tryOrders cX2_tryOrders 5 none :: wA) (4 + d) (97 + d * 24) [.ref ht, .int x1_, .int x2_] (wX2_tryOrders dA ht ht_answer ht_ring ht_sorted ht_order ht_spot ht_ring_cells ht_ring_places ht_ring_facts t_answerLength t_length t_best t_spot t_order t_answer t_sorted t_ring_lands t_ring_things t_ring_placeCount t_ring_apart t_ring_thereFirst t_ring_cells t_ring_facts) (wX2_tryOrders dA ht ht_answer ht_ring ht_sorted ht_order ht_spot ht_ring_cells ht_ring_places ht_ring_facts o.1 t_length o.2.1 o.2.2.1 o.2.2.2.1 o.2.2.2.2 t_sorted t_ring_lands t_ring_things t_ring_placeCount t_ring_apart t_ring_thereFirst t_ring_cells t_ring_facts) := qX2_tryOrders_all l D dA ht ht_answer ht_ring ht_sorted ht_order ht_spot ht_ring_cells ht_ring_places ht_ring_facts N d t_answerLength t_length t_best t_spot t_order t_answer t_sorted t_ring_lands t_ring_things t_ring_placeCount t_ring_apart t_ring_thereFirst t_ring_cells t_ring_facts x1_ x2_ o hf

/-! RingPlaces$Orders.shortestOf([II)I -/
abbrev wX2_shortestOf (dA : Nat → ClassId) (ht ht_answer ht_ring ht_sorted ht_order ht_spot hq1 ht_ring_cells ht_ring_places ht_ring_facts nq1 : Nat) (t_answerLength : Int32) (t_length : Int32) (t_best : Int32) (q1 : (Nat → Int32)) (t_ring_lands : Int32) (t_ring_things : Int32) (t_ring_placeCount : Int32) (t_ring_apart : Int32) (t_ring_thereFirst : Int32) (t_ring_cells : (Nat → Int64)) (t_ring_facts : (Nat → Int32)) (t_spot : (Nat → Int32)) (t_sorted : (Nat → Int32)) (t_order : (Nat → Int32)) (t_answer : (Nat → Int32)) : va_W := [(ht, .inr (2, [.ref ht_answer, .int t_answerLength, .ref ht_ring, .ref ht_sorted, .ref ht_order, .ref ht_spot, .int t_length, .int t_best])), (hq1, .inl (dA 0, nq1, .inl q1)), (ht_ring, .inr (5, [.ref ht_ring_cells, .ref ht_ring_places, .int t_ring_lands, .int t_ring_things, .int t_ring_placeCount, .int t_ring_apart, .int t_ring_thereFirst, .ref ht_ring_facts])), (ht_ring_cells, .inl (dA 1, 16, .inr (.inl t_ring_cells))), (ht_ring_facts, .inl (dA 0, 224, .inl t_ring_facts)), (ht_spot, .inl (dA 0, 12, .inl t_spot)), (ht_sorted, .inl (dA 0, 7, .inl t_sorted)), (ht_order, .inl (dA 0, 7, .inl t_order)), (ht_answer, .inl (dA 0, 7, .inl t_answer))]
def fX2_shortestOf (N : Nat) (nq1 : Nat) (t_answerLength : Int32) (t_length : Int32) (t_best : Int32) (q1 : (Nat → Int32)) (t_ring_apart : Int32) (t_ring_cells : (Nat → Int64)) (t_ring_facts : (Nat → Int32)) (t_spot : (Nat → Int32)) (t_sorted : (Nat → Int32)) (t_order : (Nat → Int32)) (t_answer : (Nat → Int32)) (x2_ : Int32) : Option (Int32 × Int32 × Int32 × (Nat → Int32) × (Nat → Int32) × (Nat → Int32) × (Nat → Int32) × Int32) := (fX2_arcOf N nq1 q1 t_ring_apart t_ring_cells t_ring_facts t_spot x2_).bind fun o1 => (if o1.2 = (-1 : Int32) then some (t_answerLength, t_length, o1.2, o1.1, t_sorted, t_order, t_answer, (-1 : Int32)) else (if x2_ ≤ (7 : Int32) then (fX2_sortRow N nq1 x2_ t_sorted q1 ).bind fun o4 => bnd (o1.2 + (1 : Int32)) fun x5 => (fX2_tryOrders N 10 t_answerLength x2_ x5 o1.1 t_order t_answer o4 t_ring_apart t_ring_cells t_ring_facts (0 : Int32) (0 : Int32)).bind fun o6 => some (o6.1, x2_, o6.2.1, o6.2.2.1, o4, o6.2.2.2.1, o6.2.2.2.2, o6.2.1) else some (t_answerLength, t_length, o1.2, o1.1, t_sorted, t_order, t_answer, (-1 : Int32))))
set_option maxHeartbeats 4000000 in
set_option maxRecDepth 100000 in
theorem qX2_shortestOf (l : Launch) (D : va_G) (dA : Nat → ClassId) (ht ht_answer ht_ring ht_sorted ht_order ht_spot hq1 ht_ring_cells ht_ring_places ht_ring_facts nq1 : Nat) (t_answerLength : Int32) (t_length : Int32) (t_best : Int32) (q1 : (Nat → Int32)) (t_ring_lands : Int32) (t_ring_things : Int32) (t_ring_placeCount : Int32) (t_ring_apart : Int32) (t_ring_thereFirst : Int32) (t_ring_cells : (Nat → Int64)) (t_ring_facts : (Nat → Int32)) (t_spot : (Nat → Int32)) (t_sorted : (Nat → Int32)) (t_order : (Nat → Int32)) (t_answer : (Nat → Int32)) (x2_ : Int32) (N : Nat) (o : Int32 × Int32 × Int32 × (Nat → Int32) × (Nat → Int32) × (Nat → Int32) × (Nat → Int32) × Int32) (hf : fX2_shortestOf N nq1 t_answerLength t_length t_best q1 t_ring_apart t_ring_cells t_ring_facts t_spot t_sorted t_order t_answer x2_ = some o) : Mi l D dA yX2_shortestOf (Cond.code yX2_shortestOf cX2_shortestOf 3 (some .int) :: wA) 15 361 [.ref ht, .ref hq1, .int x2_] (wX2_shortestOf dA ht ht_answer ht_ring ht_sorted ht_order ht_spot hq1 ht_ring_cells ht_ring_places ht_ring_facts nq1 t_answerLength t_length t_best q1 t_ring_lands t_ring_things t_ring_placeCount t_ring_apart t_ring_thereFirst t_ring_cells t_ring_facts t_spot t_sorted t_order t_answer) (wX2_shortestOf dA ht ht_answer ht_ring ht_sorted ht_order ht_spot hq1 ht_ring_cells ht_ring_places ht_ring_facts nq1 o.1 o.2.1 o.2.2.1 q1 t_ring_lands t_ring_things t_ring_placeCount t_ring_apart t_ring_thereFirst t_ring_cells t_ring_facts o.2.2.2.1 o.2.2.2.2.1 o.2.2.2.2.2.1 o.2.2.2.2.2.2.1) o.2.2.2.2.2.2.2 := by
  intro sz
  refine M_of (cc := cX2_shortestOf) (nL := 3) (ret := (some .int)) (own := RX2) (by decide +kernel) rfl (Nat.le_of_ble_eq_true rfl) ?_
  intro p e s m below meth c ls hsz C hw hl
  subst hsz
  have hR : 15 ≤ (rmm 15 361).frames ∧ 361 ≤ (rmm 15 361).locals ∧ 0 ≤ (rmm 15 361).cells ∧ 0 ≤ (rmm 15 361).slots := ⟨Nat.le_refl _, Nat.le_refl _, Nat.le_refl _, Nat.le_refl _⟩
  have hl : lv_has ls 3 [(0, .ref ht), (1, .ref hq1), (2, .int x2_)] := hl
  have hx := C.1
  have hb := C.2.1
  have hml := C.2.2.1
  have hown := C.2.2.2.1
  have hts := C.2.2.2.2.1
  have hK : ∀ (H : Heap) (locs : List Loc) (pc : Nat) (ls : Array Slot), decode cX2_shortestOf pc = .ok (.ireturn, 1) → St D (wX2_shortestOf dA ht ht_answer ht_ring ht_sorted ht_order ht_spot hq1 ht_ring_cells ht_ring_places ht_ring_facts nq1 t_answerLength t_length t_best q1 t_ring_lands t_ring_things t_ring_placeCount t_ring_apart t_ring_thereFirst t_ring_cells t_ring_facts t_spot t_sorted t_order t_answer) s (wX2_shortestOf dA ht ht_answer ht_ring ht_sorted ht_order ht_spot hq1 ht_ring_cells ht_ring_places ht_ring_facts nq1 o.1 o.2.1 o.2.2.1 q1 t_ring_lands t_ring_things t_ring_placeCount t_ring_apart t_ring_thereFirst t_ring_cells t_ring_facts o.2.2.2.1 o.2.2.2.2.1 o.2.2.2.2.2.1 o.2.2.2.2.2.2.1) H locs → W p l e (rmm 15 361) s m [.ref ht, .ref hq1, .int x2_].toArray below meth c H locs 0 0 (MQ below (Qi D (wX2_shortestOf dA ht ht_answer ht_ring ht_sorted ht_order ht_spot hq1 ht_ring_cells ht_ring_places ht_ring_facts nq1 t_answerLength t_length t_best q1 t_ring_lands t_ring_things t_ring_placeCount t_ring_apart t_ring_thereFirst t_ring_cells t_ring_facts t_spot t_sorted t_order t_answer) (wX2_shortestOf dA ht ht_answer ht_ring ht_sorted ht_order ht_spot hq1 ht_ring_cells ht_ring_places ht_ring_facts nq1 o.1 o.2.1 o.2.2.1 q1 t_ring_lands t_ring_things t_ring_placeCount t_ring_apart t_ring_thereFirst t_ring_cells t_ring_facts o.2.2.2.1 o.2.2.2.2.1 o.2.2.2.2.2.1 o.2.2.2.2.2.2.1) o.2.2.2.2.2.2.2 s.heap.size) [.ref ht, .ref hq1, .int x2_].toArray s 0 0 (va_A (wX2_shortestOf dA ht ht_answer ht_ring ht_sorted ht_order ht_spot hq1 ht_ring_cells ht_ring_places ht_ring_facts nq1 t_answerLength t_length t_best q1 t_ring_lands t_ring_things t_ring_placeCount t_ring_apart t_ring_thereFirst t_ring_cells t_ring_facts t_spot t_sorted t_order t_answer) s.heap.size)) (F0 m pc ls [.int o.2.2.2.2.2.2.2]) := fun H locs pc ls hd hw => k_iret C hw hd
  unfold fX2_shortestOf at hf
  refine lv_aload_n hx hb dX2_shortestOf_0 rfl (lv_at hl 0 rfl) ?_
  refine lv_aload_n hx hb dX2_shortestOf_1 rfl (lv_at hl 0 rfl) ?_
  refine lv_aload_n hx hb dX2_shortestOf_2 rfl (lv_at hl 1 rfl) ?_
  refine lv_iload_n hx hb dX2_shortestOf_3 rfl (lv_at hl 2 rfl) ?_
  obtain ⟨o1, ho1, hf⟩ := bind_r hf
  refine k_callVi C hw (n := 2) (As := [.ref hq1, .int x2_]) (w1 := (wX2_shortestOf dA ht ht_answer ht_ring ht_sorted ht_order ht_spot hq1 ht_ring_cells ht_ring_places ht_ring_facts nq1 t_answerLength t_length t_best q1 t_ring_lands t_ring_things t_ring_placeCount t_ring_apart t_ring_thereFirst t_ring_cells t_ring_facts o1.1 t_sorted t_order t_answer)) (wr := [(ht_sorted, .inl (dA 0, 7, .inl t_sorted)), (ht_order, .inl (dA 0, 7, .inl t_order)), (ht_answer, .inl (dA 0, 7, .inl t_answer))]) [0, 1, 2, 3, 4, 5] [6, 7, 8] [3, 4, 5, 6, 7, 8, 0, 1, 2] rfl rfl (by decide) (by decide) (by decide) rfl (by decide) (qX2_arcOf l D dA ht ht_answer ht_ring ht_sorted ht_order ht_spot hq1 ht_ring_cells ht_ring_places ht_ring_facts nq1 t_answerLength t_length t_best q1 t_ring_lands t_ring_things t_ring_placeCount t_ring_apart t_ring_thereFirst t_ring_cells t_ring_facts t_spot x2_ N _ ho1) wlX2_53 wmX2_arcOf wvX2_arcOf wnX2 wcX2_arcOf rfl (by decide +kernel) ⟨Nat.le_trans (by decide) hR.1, Nat.le_trans (by decide) hR.2.1⟩ hR.2.2 rfl 0 rfl rfl hl.1 (Nat.le_of_ble_eq_true rfl) dX2_shortestOf_4 rfl (fun H locs hw => ?_)
  refine k_put C hw 0 rfl rfl wiX2 tyX2 tyX2_ok nmX2 7 (by decide) wfX2_31 rfl rfl rfl (Nat.le_of_ble_eq_true rfl) dX2_shortestOf_7 (wX2_shortestOf dA ht ht_answer ht_ring ht_sorted ht_order ht_spot hq1 ht_ring_cells ht_ring_places ht_ring_facts nq1 t_answerLength t_length o1.2 q1 t_ring_lands t_ring_things t_ring_placeCount t_ring_apart t_ring_thereFirst t_ring_cells t_ring_facts o1.1 t_sorted t_order t_answer) rfl (fun H locs hw => ?_)
  refine lv_aload_n hx hb dX2_shortestOf_10 rfl (lv_at hl 0 rfl) ?_
  refine k_get C hw 0 rfl rfl wiX2 7 (by decide) wfX2_31 rfl dX2_shortestOf_11 ?_
  refine lv_iconst (v := (-1 : Int32)) hx hb dX2_shortestOf_14 (by decide) ?_
  refine lv_icmp_eq (tgt := 24) hx hb dX2_shortestOf_15 (by decide) (fun c2 => ?_) (fun c2 => ?_)
  · have hf := ite_t c2 hf
    refine lv_iconst (v := (-1 : Int32)) hx hb dX2_shortestOf_24 (by decide) ?_
    obtain rfl := some_r hf
    exact hK _ _ _ _ dX2_shortestOf_25 hw
  · have hf := ite_f c2 hf
    refine lv_iload_n hx hb dX2_shortestOf_18 rfl (lv_at hl 2 rfl) ?_
    refine lv_bipush (v := (7 : Int32)) hx hb dX2_shortestOf_19 (by decide) ?_
    refine lv_icmp_le (tgt := 26) hx hb dX2_shortestOf_21 (by decide) (fun c3 => ?_) (fun c3 => ?_)
    · have hf := ite_t c3 hf
      refine lv_aload_n hx hb dX2_shortestOf_26 rfl (lv_at hl 0 rfl) ?_
      refine lv_iload_n hx hb dX2_shortestOf_27 rfl (lv_at hl 2 rfl) ?_
      refine k_put C hw 0 rfl rfl wiX2 tyX2 tyX2_ok nmX2 6 (by decide) wfX2_28 rfl rfl rfl (Nat.le_of_ble_eq_true rfl) dX2_shortestOf_28 (wX2_shortestOf dA ht ht_answer ht_ring ht_sorted ht_order ht_spot hq1 ht_ring_cells ht_ring_places ht_ring_facts nq1 t_answerLength x2_ o1.2 q1 t_ring_lands t_ring_things t_ring_placeCount t_ring_apart t_ring_thereFirst t_ring_cells t_ring_facts o1.1 t_sorted t_order t_answer) rfl (fun H locs hw => ?_)
      refine lv_aload_n hx hb dX2_shortestOf_31 rfl (lv_at hl 0 rfl) ?_
      refine lv_aload_n hx hb dX2_shortestOf_32 rfl (lv_at hl 1 rfl) ?_
      obtain ⟨o4, ho4, hf⟩ := bind_r hf
      refine k_callVv C hw (n := 1) (As := [.ref hq1]) (w1 := (wX2_shortestOf dA ht ht_answer ht_ring ht_sorted ht_order ht_spot hq1 ht_ring_cells ht_ring_places ht_ring_facts nq1 t_answerLength x2_ o1.2 q1 t_ring_lands t_ring_things t_ring_placeCount t_ring_apart t_ring_thereFirst t_ring_cells t_ring_facts o1.1 o4 t_order t_answer)) (wr := [(ht_ring, .inr (5, [.ref ht_ring_cells, .ref ht_ring_places, .int t_ring_lands, .int t_ring_things, .int t_ring_placeCount, .int t_ring_apart, .int t_ring_thereFirst, .ref ht_ring_facts])), (ht_ring_cells, .inl (dA 1, 16, .inr (.inl t_ring_cells))), (ht_ring_facts, .inl (dA 0, 224, .inl t_ring_facts)), (ht_spot, .inl (dA 0, 12, .inl o1.1)), (ht_order, .inl (dA 0, 7, .inl t_order)), (ht_answer, .inl (dA 0, 7, .inl t_answer))]) [0, 6, 1] [2, 3, 4, 5, 7, 8] [6, 8, 0, 1, 2, 3, 7, 4, 5] rfl rfl (by decide) (by decide) (by decide) rfl (by decide) (qX2_sortRow l D dA ht ht_answer ht_ring ht_sorted ht_order ht_spot hq1 nq1 t_answerLength x2_ o1.2 t_sorted q1  N _ ho4) wlX2_57 wmX2_sortRow wvX2_sortRow wnX2 wcX2_sortRow rfl (by decide +kernel) ⟨Nat.le_trans (by decide) hR.1, Nat.le_trans (by decide) hR.2.1⟩ hR.2.2 rfl 0 rfl rfl hl.1 (Nat.le_of_ble_eq_true rfl) dX2_shortestOf_33 rfl (fun H locs hw => ?_)
      refine lv_aload_n hx hb dX2_shortestOf_36 rfl (lv_at hl 0 rfl) ?_
      refine lv_dup hx hb dX2_shortestOf_37 rfl ?_
      refine k_get C hw 0 rfl rfl wiX2 7 (by decide) wfX2_31 rfl dX2_shortestOf_38 ?_
      refine lv_iconst (v := (1 : Int32)) hx hb dX2_shortestOf_41 (by decide) ?_
      refine lv_iadd hx hb dX2_shortestOf_42 ?_
      refine lv_topi (fun x5 ex5 => ?_)
      have hf := bnd_r ex5 hf
      refine k_put C hw 0 rfl rfl wiX2 tyX2 tyX2_ok nmX2 7 (by decide) wfX2_31 rfl rfl rfl (Nat.le_of_ble_eq_true rfl) dX2_shortestOf_43 (wX2_shortestOf dA ht ht_answer ht_ring ht_sorted ht_order ht_spot hq1 ht_ring_cells ht_ring_places ht_ring_facts nq1 t_answerLength x2_ x5 q1 t_ring_lands t_ring_things t_ring_placeCount t_ring_apart t_ring_thereFirst t_ring_cells t_ring_facts o1.1 o4 t_order t_answer) rfl (fun H locs hw => ?_)
      refine lv_aload_n hx hb dX2_shortestOf_46 rfl (lv_at hl 0 rfl) ?_
      refine lv_iconst (v := (0 : Int32)) hx hb dX2_shortestOf_47 (by decide) ?_
      refine lv_iconst (v := (0 : Int32)) hx hb dX2_shortestOf_48 (by decide) ?_
      obtain ⟨o6, ho6, hf⟩ := bind_r hf
      refine k_callVv C hw (n := 2) (As := [.int (0 : Int32), .int (0 : Int32)]) (w1 := (wX2_shortestOf dA ht ht_answer ht_ring ht_sorted ht_order ht_spot hq1 ht_ring_cells ht_ring_places ht_ring_facts nq1 o6.1 x2_ o6.2.1 q1 t_ring_lands t_ring_things t_ring_placeCount t_ring_apart t_ring_thereFirst t_ring_cells t_ring_facts o6.2.2.1 o4 o6.2.2.2.1 o6.2.2.2.2)) (wr := [(hq1, .inl (dA 0, nq1, .inl q1))]) [0, 5, 7, 8, 6, 2, 3, 4] [1] [1, 0, 6, 7, 8, 2, 5, 3, 4] rfl rfl (by decide) (by decide) (by decide) rfl (by decide) (qX2_tryOrders l D dA ht ht_answer ht_ring ht_sorted ht_order ht_spot ht_ring_cells ht_ring_places ht_ring_facts t_answerLength x2_ x5 o1.1 t_order t_answer o4 t_ring_lands t_ring_things t_ring_placeCount t_ring_apart t_ring_thereFirst t_ring_cells t_ring_facts (0 : Int32) (0 : Int32) N 10 _ ho6) wlX2_61 wmX2_tryOrders wvX2_tryOrders wnX2 wcX2_tryOrders rfl (by decide +kernel) ⟨Nat.le_trans (by decide) hR.1, Nat.le_trans (by decide) hR.2.1⟩ hR.2.2 rfl 0 rfl rfl hl.1 (Nat.le_of_ble_eq_true rfl) dX2_shortestOf_49 rfl (fun H locs hw => ?_)
      refine lv_aload_n hx hb dX2_shortestOf_52 rfl (lv_at hl 0 rfl) ?_
      refine k_get C hw 0 rfl rfl wiX2 7 (by decide) wfX2_31 rfl dX2_shortestOf_53 ?_
      obtain rfl := some_r hf
      exact hK _ _ _ _ dX2_shortestOf_56 hw
    · have hf := ite_f c3 hf
      refine lv_iconst (v := (-1 : Int32)) hx hb dX2_shortestOf_24 (by decide) ?_
      obtain rfl := some_r hf
      exact hK _ _ _ _ dX2_shortestOf_25 hw
