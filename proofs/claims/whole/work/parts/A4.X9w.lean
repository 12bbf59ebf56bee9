theorem wq_what : (RX10, "what", "I", wwh) ∈ wFl := List.mem_cons_self
theorem wq_least : (RX10, "least", "I", wle) ∈ wFl := List.mem_cons_of_mem _ List.mem_cons_self
theorem wq_greatest : (RX10, "greatest", "I", wgr) ∈ wFl := List.mem_cons_of_mem _ (List.mem_cons_of_mem _ List.mem_cons_self)
theorem okw_num {x : Int32} (h : ¬ (x < 0 ∨ 15 ≤ x.toNatClampNeg)) : okw x := Or.inr h
/-! RingPlaces$Tokens.isLetter(B)Z -/
abbrev wX9_isLetter (dA : Nat → ClassId)   : va_W := []
def fX9_isLetter  (x0_ : Int32) : Option (Int32) := (if x0_ < (97 : Int32) then some (0 : Int32) else (if (122 : Int32) < x0_ then some (0 : Int32) else some (1 : Int32)))
set_option maxHeartbeats 4000000 in
set_option maxRecDepth 100000 in
theorem qX9_isLetter (l : Launch) (D : va_G) (dA : Nat → ClassId)   (x0_ : Int32) (o : Int32) (hf : fX9_isLetter x0_ = some o) : Mi l D dA yX9_isLetter (Cond.code yX9_isLetter cX9_isLetter 1 (some .boolean) :: wA) 0 0 [.int x0_] (wX9_isLetter dA ) (wX9_isLetter dA ) o := by
  intro sz
  refine M_of (cc := cX9_isLetter) (nL := 1) (ret := (some .boolean)) (own := RX9) (by decide +kernel) rfl (Nat.le_of_ble_eq_true rfl) ?_
  intro p e s m below meth c ls hsz C hw hl
  subst hsz
  have hR : 0 ≤ (rmm 0 0).frames ∧ 0 ≤ (rmm 0 0).locals ∧ 0 ≤ (rmm 0 0).cells ∧ 0 ≤ (rmm 0 0).slots := ⟨Nat.le_refl _, Nat.le_refl _, Nat.le_refl _, Nat.le_refl _⟩
  have hl : lv_has ls 1 [(0, .int x0_)] := hl
  have hx := C.1
  have hb := C.2.1
  have hml := C.2.2.1
  have hown := C.2.2.2.1
  have hts := C.2.2.2.2.1
  have hK : ∀ (H : Heap) (locs : List Loc) (pc : Nat) (ls : Array Slot), (o = 0 ∨ o = 1) → decode cX9_isLetter pc = .ok (.ireturn, 1) → St D (wX9_isLetter dA ) s (wX9_isLetter dA ) H locs → W p l e (rmm 0 0) s m [.int x0_].toArray below meth c H locs 0 0 (MQ below (Qi D (wX9_isLetter dA ) (wX9_isLetter dA ) o s.heap.size) [.int x0_].toArray s 0 0 (va_A (wX9_isLetter dA ) s.heap.size)) (F0 m pc ls [.int o]) := fun H locs pc ls hz hd hw => k_zret C hw hz hd
  unfold fX9_isLetter at hf
  refine lv_iload_n hx hb dX9_isLetter_0 rfl (lv_at hl 0 rfl) ?_
  refine lv_bipush (v := (97 : Int32)) hx hb dX9_isLetter_1 (by decide) ?_
  refine lv_icmp_lt (tgt := 16) hx hb dX9_isLetter_3 (by decide) (fun c1 => ?_) (fun c1 => ?_)
  · have hf := ite_t c1 hf
    refine lv_iconst (v := (0 : Int32)) hx hb dX9_isLetter_16 (by decide) ?_
    obtain rfl := some_r hf
    exact hK _ _ _ _ (Or.inl rfl) dX9_isLetter_17 hw
  · have hf := ite_f c1 hf
    refine lv_iload_n hx hb dX9_isLetter_6 rfl (lv_at hl 0 rfl) ?_
    refine lv_bipush (v := (122 : Int32)) hx hb dX9_isLetter_7 (by decide) ?_
    refine lv_icmp_gt (tgt := 16) hx hb dX9_isLetter_9 (by decide) (fun c2 => ?_) (fun c2 => ?_)
    · have hf := ite_t c2 hf
      refine lv_iconst (v := (0 : Int32)) hx hb dX9_isLetter_16 (by decide) ?_
      obtain rfl := some_r hf
      exact hK _ _ _ _ (Or.inl rfl) dX9_isLetter_17 hw
    · have hf := ite_f c2 hf
      refine lv_iconst (v := (1 : Int32)) hx hb dX9_isLetter_12 (by decide) ?_
      refine lv_goto (tgt := 17) hx hb dX9_isLetter_13 (by decide) ?_
      obtain rfl := some_r hf
      exact hK _ _ _ _ (Or.inr rfl) dX9_isLetter_17 hw

/-! RingPlaces$Tokens.isDigit(B)Z -/
abbrev wX9_isDigit (dA : Nat → ClassId)   : va_W := []
def fX9_isDigit  (x0_ : Int32) : Option (Int32) := (if x0_ < (48 : Int32) then some (0 : Int32) else (if (57 : Int32) < x0_ then some (0 : Int32) else some (1 : Int32)))
set_option maxHeartbeats 4000000 in
set_option maxRecDepth 100000 in
theorem qX9_isDigit (l : Launch) (D : va_G) (dA : Nat → ClassId)   (x0_ : Int32) (o : Int32) (hf : fX9_isDigit x0_ = some o) : Mi l D dA yX9_isDigit (Cond.code yX9_isDigit cX9_isDigit 1 (some .boolean) :: wA) 0 0 [.int x0_] (wX9_isDigit dA ) (wX9_isDigit dA ) o := by
  intro sz
  refine M_of (cc := cX9_isDigit) (nL := 1) (ret := (some .boolean)) (own := RX9) (by decide +kernel) rfl (Nat.le_of_ble_eq_true rfl) ?_
  intro p e s m below meth c ls hsz C hw hl
  subst hsz
  have hR : 0 ≤ (rmm 0 0).frames ∧ 0 ≤ (rmm 0 0).locals ∧ 0 ≤ (rmm 0 0).cells ∧ 0 ≤ (rmm 0 0).slots := ⟨Nat.le_refl _, Nat.le_refl _, Nat.le_refl _, Nat.le_refl _⟩
  have hl : lv_has ls 1 [(0, .int x0_)] := hl
  have hx := C.1
  have hb := C.2.1
  have hml := C.2.2.1
  have hown := C.2.2.2.1
  have hts := C.2.2.2.2.1
  have hK : ∀ (H : Heap) (locs : List Loc) (pc : Nat) (ls : Array Slot), (o = 0 ∨ o = 1) → decode cX9_isDigit pc = .ok (.ireturn, 1) → St D (wX9_isDigit dA ) s (wX9_isDigit dA ) H locs → W p l e (rmm 0 0) s m [.int x0_].toArray below meth c H locs 0 0 (MQ below (Qi D (wX9_isDigit dA ) (wX9_isDigit dA ) o s.heap.size) [.int x0_].toArray s 0 0 (va_A (wX9_isDigit dA ) s.heap.size)) (F0 m pc ls [.int o]) := fun H locs pc ls hz hd hw => k_zret C hw hz hd
  unfold fX9_isDigit at hf
  refine lv_iload_n hx hb dX9_isDigit_0 rfl (lv_at hl 0 rfl) ?_
  refine lv_bipush (v := (48 : Int32)) hx hb dX9_isDigit_1 (by decide) ?_
  refine lv_icmp_lt (tgt := 16) hx hb dX9_isDigit_3 (by decide) (fun c1 => ?_) (fun c1 => ?_)
  · have hf := ite_t c1 hf
    refine lv_iconst (v := (0 : Int32)) hx hb dX9_isDigit_16 (by decide) ?_
    obtain rfl := some_r hf
    exact hK _ _ _ _ (Or.inl rfl) dX9_isDigit_17 hw
  · have hf := ite_f c1 hf
    refine lv_iload_n hx hb dX9_isDigit_6 rfl (lv_at hl 0 rfl) ?_
    refine lv_bipush (v := (57 : Int32)) hx hb dX9_isDigit_7 (by decide) ?_
    refine lv_icmp_gt (tgt := 16) hx hb dX9_isDigit_9 (by decide) (fun c2 => ?_) (fun c2 => ?_)
    · have hf := ite_t c2 hf
      refine lv_iconst (v := (0 : Int32)) hx hb dX9_isDigit_16 (by decide) ?_
      obtain rfl := some_r hf
      exact hK _ _ _ _ (Or.inl rfl) dX9_isDigit_17 hw
    · have hf := ite_f c2 hf
      refine lv_iconst (v := (1 : Int32)) hx hb dX9_isDigit_12 (by decide) ?_
      refine lv_goto (tgt := 17) hx hb dX9_isDigit_13 (by decide) ?_
      obtain rfl := some_r hf
      exact hK _ _ _ _ (Or.inr rfl) dX9_isDigit_17 hw

/-! RingPlaces$Tokens.cutRun()V -/
abbrev wX9_cutRun (dA : Nat → ClassId) (Z : ZA) (ht ht_kinds ht_starts ht_values ht_words ht_tape : Nat) (t_last : Int32) (t_length : Int32) (t_next : Int32) (t_tape : (Nat → Int32)) (t_values : (Nat → Int32)) (t_kinds : (Nat → Int32)) (t_words : (Nat → Int32)) : va_W := [(ht, .inr (9, [.ref ht_kinds, .ref ht_starts, .ref ht_values, .ref ht_words, .int t_last, .ref ht_tape, .int t_length, .int t_next])), (ht_tape, .inl (dA 2, 1240, .inl t_tape)), (ht_values, .inl (dA 0, 1201, .inl t_values)), (ht_kinds, .inl (dA 0, 1201, .inl t_kinds)), (ht_words, .inl (dA 4, 1201, .inr (.inr (.inr (.inr (fun i => we Z (t_words i)))))))]
def fX9_cutRun_j50 (N : Nat) (t_last : Int32) (t_length : Int32) (t_next : Int32) (t_tape : (Nat → Int32)) (t_values : (Nat → Int32)) (t_kinds : (Nat → Int32)) (t_words : (Nat → Int32)) (v1 : Int32) (v2 : Int32) (v3 : Int32) : Option ((Int32 × Int32 × Int32) ⊕ (Int32 × Int32 × Int32)) := gdi t_next 1240 ((fX9_isLetter  (t_tape t_next.toNatClampNeg)).bind fun o6 => (if o6 = 0 then gdi t_next 1240 (bnd (((v3 * (10 : Int32)) + (t_tape t_next.toNatClampNeg)) - (48 : Int32)) fun x9 => bnd (t_next + (1 : Int32)) fun x10 => some (.inl (x10, v2, x9))) else bnd (v2 + (1 : Int32)) fun x11 => gdi t_next 1240 (bnd ((((v3 * (27 : Int32)) + (t_tape t_next.toNatClampNeg)) - (97 : Int32)) + (1 : Int32)) fun x13 => bnd (t_next + (1 : Int32)) fun x14 => some (.inl (x14, x11, x13)))))
def fX9_cutRun_l9b (N : Nat) (t_last : Int32) (t_length : Int32) (t_tape : (Nat → Int32)) (t_values : (Nat → Int32)) (t_kinds : (Nat → Int32)) (t_words : (Nat → Int32)) (v1 : Int32) (t_next : Int32) (v2 : Int32) (v3 : Int32) : Option ((Int32 × Int32 × Int32) ⊕ (Int32 × Int32 × Int32)) := (if t_length ≤ t_next then some (.inr (t_next, v2, v3)) else gdi t_next 1240 ((fX9_isLetter  (t_tape t_next.toNatClampNeg)).bind fun o3 => (if o3 = 0 then gdi t_next 1240 ((fX9_isDigit  (t_tape t_next.toNatClampNeg)).bind fun o16 => (if o16 = 0 then some (.inr (t_next, v2, v3)) else fX9_cutRun_j50 N t_last t_length t_next t_tape t_values t_kinds t_words v1 v2 v3)) else fX9_cutRun_j50 N t_last t_length t_next t_tape t_values t_kinds t_words v1 v2 v3)))
def fX9_cutRun (N : Nat) (t_last : Int32) (t_length : Int32) (t_next : Int32) (t_tape : (Nat → Int32)) (t_values : (Nat → Int32)) (t_kinds : (Nat → Int32)) (t_words : (Nat → Int32))  : Option (Int32 × (Nat → Int32) × (Nat → Int32) × (Nat → Int32)) := (itr (fun z => fX9_cutRun_l9b N t_last t_length t_tape t_values t_kinds t_words t_next z.1 z.2.1 z.2.2) N (t_next, (0 : Int32), (0 : Int32))).bind fun q18 => gdi t_last 1201 (bnd (upd t_values t_last.toNatClampNeg q18.2.2) fun y20 => (if q18.2.1 = 0 then (if (4 : Int32) < (q18.1 - t_next) then gdi t_last 1201 (bnd (upd t_kinds t_last.toNatClampNeg (1 : Int32)) fun y39 => some (q18.1, y20, y39, t_words)) else gdi t_last 1201 (bnd (upd t_kinds t_last.toNatClampNeg (3 : Int32)) fun y41 => some (q18.1, y20, y41, t_words))) else (if q18.2.1 = (q18.1 - t_next) then (if (6 : Int32) < q18.2.1 then gdi t_last 1201 (bnd (upd t_kinds t_last.toNatClampNeg (1 : Int32)) fun y27 => some (q18.1, y20, y27, t_words)) else gdp (wok 1240 t_next q18.1) (gdi t_last 1201 (bnd (upd t_words t_last.toNatClampNeg (lya t_tape t_next.toNatClampNeg q18.1.toNatClampNeg)) fun y30 => gdi t_last 1201 ((if (y30 t_last.toNatClampNeg) = (-1 : Int32) then gdi t_last 1201 (bnd (upd t_kinds t_last.toNatClampNeg (4 : Int32)) fun y36 => some (q18.1, y20, y36, y30)) else gdi t_last 1201 (bnd (upd t_kinds t_last.toNatClampNeg (5 : Int32)) fun y34 => some (q18.1, y20, y34, y30))))))) else gdi t_last 1201 (bnd (upd t_kinds t_last.toNatClampNeg (1 : Int32)) fun y24 => some (q18.1, y20, y24, t_words)))))
set_option maxHeartbeats 4000000 in
set_option maxRecDepth 100000 in
theorem tX9_cutRun_j50 {p : Program} {l : Launch} {e : Env} {R : Room} {s : State} {m : MethodId} {args : Array Value} {below : List Frame} {meth : Method} {c : Code} {D : va_G} {dA : Nat → ClassId} {w0 : va_W} {Q : State → Prop} {H : Heap} {locs : List Loc} {ls : Array Slot} {cells slots : Nat} {Z : ZA} (C : CX p s m args meth c cX9_cutRun 4 none RX9 D dA) (hz : SW Z (va_A w0 s.heap.size) s s.heap) (ht ht_kinds ht_starts ht_values ht_words ht_tape : Nat) (hR : 6 ≤ R.frames ∧ 163 ≤ R.locals ∧ cells ≤ R.cells ∧ slots ≤ R.slots)  (t_last : Int32) (t_length : Int32) (t_next : Int32) (t_tape : (Nat → Int32)) (t_values : (Nat → Int32)) (t_kinds : (Nat → Int32)) (t_words : (Nat → Int32)) (v1 : Int32) (v2 : Int32) (v3 : Int32) (N : Nat) (res : ((Int32 × Int32 × Int32) ⊕ (Int32 × Int32 × Int32))) (hf : fX9_cutRun_j50 N t_last t_length t_next t_tape t_values t_kinds t_words v1 v2 v3 = some res) (hK : Sum.elim (fun z => (∀ (H : Heap) (locs : List Loc) (ls : Array Slot), lv_has ls 4 [(0, .ref ht), (1, .int v1), (2, .int z.2.1), (3, .int z.2.2)] → St D w0 s (wX9_cutRun dA Z ht ht_kinds ht_starts ht_values ht_words ht_tape t_last t_length z.1 t_tape t_values t_kinds t_words) H locs → W p l e R s m args below meth c H locs cells slots Q (F0 m 9 ls []))) (fun r => (∀ (H : Heap) (locs : List Loc) (ls : Array Slot), lv_has ls 4 [(0, .ref ht), (1, .int v1), (2, .int r.2.1), (3, .int r.2.2)] → St D w0 s (wX9_cutRun dA Z ht ht_kinds ht_starts ht_values ht_words ht_tape t_last t_length r.1 t_tape t_values t_kinds t_words) H locs → W p l e R s m args below meth c H locs cells slots Q (F0 m 122 ls []))) res) (hl : lv_has ls 4 [(0, .ref ht), (1, .int v1), (2, .int v2), (3, .int v3)]) (hw : St D w0 s (wX9_cutRun dA Z ht ht_kinds ht_starts ht_values ht_words ht_tape t_last t_length t_next t_tape t_values t_kinds t_words) H locs) : W p l e R s m args below meth c H locs cells slots Q (F0 m 50 ls []) := by
  have hx := C.1
  have hb := C.2.1
  have hml := C.2.2.1
  have hown := C.2.2.2.1
  have hts := C.2.2.2.2.1
  unfold fX9_cutRun_j50 at hf
  refine lv_aload_n hx hb dX9_cutRun_50 rfl (lv_at hl 0 rfl) ?_
  refine k_get C hw 0 rfl rfl wiX9 5 (by decide) wfX9_37 rfl dX9_cutRun_51 ?_
  refine lv_aload_n hx hb dX9_cutRun_54 rfl (lv_at hl 0 rfl) ?_
  refine k_get C hw 0 rfl rfl wiX9 7 (by decide) wfX9_34 rfl dX9_cutRun_55 ?_
  obtain ⟨g5, hf⟩ := gdi_r hf
  refine k_bald C hw 1 rfl g5 dX9_cutRun_58 ?_
  obtain ⟨o6, ho6, hf⟩ := bind_r hf
  refine k_callSi C hw (n := 1) (As := [.int (t_tape t_next.toNatClampNeg)]) (w1 := (wX9_cutRun dA Z ht ht_kinds ht_starts ht_values ht_words ht_tape t_last t_length t_next t_tape t_values t_kinds t_words)) (wr := [(ht, .inr (9, [.ref ht_kinds, .ref ht_starts, .ref ht_values, .ref ht_words, .int t_last, .ref ht_tape, .int t_length, .int t_next])), (ht_tape, .inl (dA 2, 1240, .inl t_tape)), (ht_values, .inl (dA 0, 1201, .inl t_values)), (ht_kinds, .inl (dA 0, 1201, .inl t_kinds)), (ht_words, .inl (dA 4, 1201, .inr (.inr (.inr (.inr (fun i => we Z (t_words i)))))))]) [] [0, 1, 2, 3, 4] [0, 1, 2, 3, 4] rfl rfl (by decide) (by decide) (by decide) rfl (by decide) (qX9_isLetter l D dA  (t_tape t_next.toNatClampNeg) _ ho6) wlX9_50 wsX9_isLetter_t wnX9 wcX9_isLetter (by decide +kernel) ⟨Nat.le_trans (by decide) hR.1, Nat.le_trans (by decide) hR.2.1⟩ hR.2.2 rfl hl.1 (Nat.le_of_ble_eq_true rfl) dX9_cutRun_59 rfl (fun H locs hw => ?_)
  refine lv_if_eq (tgt := 91) hx hb dX9_cutRun_62 (by decide) (fun c7 => ?_) (fun c7 => ?_)
  · have hf := ite_t c7 hf
    refine lv_iload_n hx hb dX9_cutRun_91 rfl (lv_at hl 3 rfl) ?_
    refine lv_bipush (v := (10 : Int32)) hx hb dX9_cutRun_92 (by decide) ?_
    refine lv_imul hx hb dX9_cutRun_94 ?_
    refine lv_aload_n hx hb dX9_cutRun_95 rfl (lv_at hl 0 rfl) ?_
    refine k_get C hw 0 rfl rfl wiX9 5 (by decide) wfX9_37 rfl dX9_cutRun_96 ?_
    refine lv_aload_n hx hb dX9_cutRun_99 rfl (lv_at hl 0 rfl) ?_
    refine k_get C hw 0 rfl rfl wiX9 7 (by decide) wfX9_34 rfl dX9_cutRun_100 ?_
    obtain ⟨g8, hf⟩ := gdi_r hf
    refine k_bald C hw 1 rfl g8 dX9_cutRun_103 ?_
    refine lv_iadd hx hb dX9_cutRun_104 ?_
    refine lv_bipush (v := (48 : Int32)) hx hb dX9_cutRun_105 (by decide) ?_
    refine lv_isub hx hb dX9_cutRun_107 ?_
    refine lv_topi (fun x9 ex9 => ?_)
    have hf := bnd_r ex9 hf
    refine lv_istore_n (lv' := [(3, .int x9), (0, .ref ht), (1, .int v1), (2, .int v2)]) hx hb dX9_cutRun_108 rfl hl (by decide) rfl (fun ls hl => ?_)
    refine lv_aload_n hx hb dX9_cutRun_109 rfl (lv_at hl 1 rfl) ?_
    refine lv_dup hx hb dX9_cutRun_110 rfl ?_
    refine k_get C hw 0 rfl rfl wiX9 7 (by decide) wfX9_34 rfl dX9_cutRun_111 ?_
    refine lv_iconst (v := (1 : Int32)) hx hb dX9_cutRun_114 (by decide) ?_
    refine lv_iadd hx hb dX9_cutRun_115 ?_
    refine lv_topi (fun x10 ex10 => ?_)
    have hf := bnd_r ex10 hf
    refine k_put C hw 0 rfl rfl wiX9 tyX9 tyX9_ok nmX9 7 (by decide) wfX9_34 rfl rfl rfl (Nat.le_of_ble_eq_true rfl) dX9_cutRun_116 (wX9_cutRun dA Z ht ht_kinds ht_starts ht_values ht_words ht_tape t_last t_length x10 t_tape t_values t_kinds t_words) rfl (fun H locs hw => ?_)
    refine lv_goto (tgt := 9) hx hb dX9_cutRun_119 (by decide) ?_
    obtain rfl := some_r hf
    exact hK _ _ _ (lv_sub hl [1, 2, 3, 0] rfl) hw
  · have hf := ite_f c7 hf
    obtain ⟨x11, ex11⟩ : ∃ y : Int32, y = v2 + (1 : Int32) := ⟨_, rfl⟩
    have hf := bnd_r ex11 hf
    refine lv_iinc (v := x11) (lv' := [(2, .int x11), (0, .ref ht), (1, .int v1), (3, .int v3)]) hx hb dX9_cutRun_65 hl (k := 2) rfl (by rw [ex11]; rfl) (by decide) rfl (fun ls hl => ?_)
    refine lv_iload_n hx hb dX9_cutRun_68 rfl (lv_at hl 3 rfl) ?_
    refine lv_bipush (v := (27 : Int32)) hx hb dX9_cutRun_69 (by decide) ?_
    refine lv_imul hx hb dX9_cutRun_71 ?_
    refine lv_aload_n hx hb dX9_cutRun_72 rfl (lv_at hl 1 rfl) ?_
    refine k_get C hw 0 rfl rfl wiX9 5 (by decide) wfX9_37 rfl dX9_cutRun_73 ?_
    refine lv_aload_n hx hb dX9_cutRun_76 rfl (lv_at hl 1 rfl) ?_
    refine k_get C hw 0 rfl rfl wiX9 7 (by decide) wfX9_34 rfl dX9_cutRun_77 ?_
    obtain ⟨g12, hf⟩ := gdi_r hf
    refine k_bald C hw 1 rfl g12 dX9_cutRun_80 ?_
    refine lv_iadd hx hb dX9_cutRun_81 ?_
    refine lv_bipush (v := (97 : Int32)) hx hb dX9_cutRun_82 (by decide) ?_
    refine lv_isub hx hb dX9_cutRun_84 ?_
    refine lv_iconst (v := (1 : Int32)) hx hb dX9_cutRun_85 (by decide) ?_
    refine lv_iadd hx hb dX9_cutRun_86 ?_
    refine lv_topi (fun x13 ex13 => ?_)
    have hf := bnd_r ex13 hf
    refine lv_istore_n (lv' := [(3, .int x13), (2, .int x11), (0, .ref ht), (1, .int v1)]) hx hb dX9_cutRun_87 rfl hl (by decide) rfl (fun ls hl => ?_)
    refine lv_goto (tgt := 109) hx hb dX9_cutRun_88 (by decide) ?_
    refine lv_aload_n hx hb dX9_cutRun_109 rfl (lv_at hl 2 rfl) ?_
    refine lv_dup hx hb dX9_cutRun_110 rfl ?_
    refine k_get C hw 0 rfl rfl wiX9 7 (by decide) wfX9_34 rfl dX9_cutRun_111 ?_
    refine lv_iconst (v := (1 : Int32)) hx hb dX9_cutRun_114 (by decide) ?_
    refine lv_iadd hx hb dX9_cutRun_115 ?_
    refine lv_topi (fun x14 ex14 => ?_)
    have hf := bnd_r ex14 hf
    refine k_put C hw 0 rfl rfl wiX9 tyX9 tyX9_ok nmX9 7 (by decide) wfX9_34 rfl rfl rfl (Nat.le_of_ble_eq_true rfl) dX9_cutRun_116 (wX9_cutRun dA Z ht ht_kinds ht_starts ht_values ht_words ht_tape t_last t_length x14 t_tape t_values t_kinds t_words) rfl (fun H locs hw => ?_)
    refine lv_goto (tgt := 9) hx hb dX9_cutRun_119 (by decide) ?_
    obtain rfl := some_r hf
    exact hK _ _ _ (lv_sub hl [2, 3, 1, 0] rfl) hw
set_option maxHeartbeats 4000000 in
set_option maxRecDepth 100000 in
theorem tX9_cutRun_l9b {p : Program} {l : Launch} {e : Env} {R : Room} {s : State} {m : MethodId} {args : Array Value} {below : List Frame} {meth : Method} {c : Code} {D : va_G} {dA : Nat → ClassId} {w0 : va_W} {Q : State → Prop} {H : Heap} {locs : List Loc} {ls : Array Slot} {cells slots : Nat} {Z : ZA} (C : CX p s m args meth c cX9_cutRun 4 none RX9 D dA) (hz : SW Z (va_A w0 s.heap.size) s s.heap) (ht ht_kinds ht_starts ht_values ht_words ht_tape : Nat) (hR : 6 ≤ R.frames ∧ 163 ≤ R.locals ∧ cells ≤ R.cells ∧ slots ≤ R.slots)  (t_last : Int32) (t_length : Int32) (t_next : Int32) (t_tape : (Nat → Int32)) (t_values : (Nat → Int32)) (t_kinds : (Nat → Int32)) (t_words : (Nat → Int32)) (v1 : Int32) (v2 : Int32) (v3 : Int32) (N : Nat) (res : ((Int32 × Int32 × Int32) ⊕ (Int32 × Int32 × Int32))) (hf : fX9_cutRun_l9b N t_last t_length t_tape t_values t_kinds t_words v1 t_next v2 v3 = some res) (hK : Sum.elim (fun z => (∀ (H : Heap) (locs : List Loc) (ls : Array Slot), lv_has ls 4 [(0, .ref ht), (1, .int v1), (2, .int z.2.1), (3, .int z.2.2)] → St D w0 s (wX9_cutRun dA Z ht ht_kinds ht_starts ht_values ht_words ht_tape t_last t_length z.1 t_tape t_values t_kinds t_words) H locs → W p l e R s m args below meth c H locs cells slots Q (F0 m 9 ls []))) (fun r => (∀ (H : Heap) (locs : List Loc) (ls : Array Slot), lv_has ls 4 [(0, .ref ht), (1, .int v1), (2, .int r.2.1), (3, .int r.2.2)] → St D w0 s (wX9_cutRun dA Z ht ht_kinds ht_starts ht_values ht_words ht_tape t_last t_length r.1 t_tape t_values t_kinds t_words) H locs → W p l e R s m args below meth c H locs cells slots Q (F0 m 122 ls []))) res) (hl : lv_has ls 4 [(0, .ref ht), (1, .int v1), (2, .int v2), (3, .int v3)]) (hw : St D w0 s (wX9_cutRun dA Z ht ht_kinds ht_starts ht_values ht_words ht_tape t_last t_length t_next t_tape t_values t_kinds t_words) H locs) : W p l e R s m args below meth c H locs cells slots Q (F0 m 9 ls []) := by
  have hx := C.1
  have hb := C.2.1
  have hml := C.2.2.1
  have hown := C.2.2.2.1
  have hts := C.2.2.2.2.1
  unfold fX9_cutRun_l9b at hf
  refine lv_aload_n hx hb dX9_cutRun_9 rfl (lv_at hl 0 rfl) ?_
  refine k_get C hw 0 rfl rfl wiX9 7 (by decide) wfX9_34 rfl dX9_cutRun_10 ?_
  refine lv_aload_n hx hb dX9_cutRun_13 rfl (lv_at hl 0 rfl) ?_
  refine k_get C hw 0 rfl rfl wiX9 6 (by decide) wfX9_31 rfl dX9_cutRun_14 ?_
  refine lv_icmp_ge (tgt := 122) hx hb dX9_cutRun_17 (by decide) (fun c1 => ?_) (fun c1 => ?_)
  · have hf := ite_t c1 hf
    obtain rfl := some_r hf
    exact hK _ _ _ (lv_sub hl [0, 1, 2, 3] rfl) hw
  · have hf := ite_f c1 hf
    refine lv_aload_n hx hb dX9_cutRun_20 rfl (lv_at hl 0 rfl) ?_
    refine k_get C hw 0 rfl rfl wiX9 5 (by decide) wfX9_37 rfl dX9_cutRun_21 ?_
    refine lv_aload_n hx hb dX9_cutRun_24 rfl (lv_at hl 0 rfl) ?_
    refine k_get C hw 0 rfl rfl wiX9 7 (by decide) wfX9_34 rfl dX9_cutRun_25 ?_
    obtain ⟨g2, hf⟩ := gdi_r hf
    refine k_bald C hw 1 rfl g2 dX9_cutRun_28 ?_
    obtain ⟨o3, ho3, hf⟩ := bind_r hf
    refine k_callSi C hw (n := 1) (As := [.int (t_tape t_next.toNatClampNeg)]) (w1 := (wX9_cutRun dA Z ht ht_kinds ht_starts ht_values ht_words ht_tape t_last t_length t_next t_tape t_values t_kinds t_words)) (wr := [(ht, .inr (9, [.ref ht_kinds, .ref ht_starts, .ref ht_values, .ref ht_words, .int t_last, .ref ht_tape, .int t_length, .int t_next])), (ht_tape, .inl (dA 2, 1240, .inl t_tape)), (ht_values, .inl (dA 0, 1201, .inl t_values)), (ht_kinds, .inl (dA 0, 1201, .inl t_kinds)), (ht_words, .inl (dA 4, 1201, .inr (.inr (.inr (.inr (fun i => we Z (t_words i)))))))]) [] [0, 1, 2, 3, 4] [0, 1, 2, 3, 4] rfl rfl (by decide) (by decide) (by decide) rfl (by decide) (qX9_isLetter l D dA  (t_tape t_next.toNatClampNeg) _ ho3) wlX9_50 wsX9_isLetter_t wnX9 wcX9_isLetter (by decide +kernel) ⟨Nat.le_trans (by decide) hR.1, Nat.le_trans (by decide) hR.2.1⟩ hR.2.2 rfl hl.1 (Nat.le_of_ble_eq_true rfl) dX9_cutRun_29 rfl (fun H locs hw => ?_)
    refine lv_if_ne (tgt := 50) hx hb dX9_cutRun_32 (by decide) (fun c4 => ?_) (fun c4 => ?_)
    · have hf := ite_f c4 hf
      exact tX9_cutRun_j50 C hz ht ht_kinds ht_starts ht_values ht_words ht_tape hR t_last t_length t_next t_tape t_values t_kinds t_words v1 v2 v3 N _ hf hK (lv_sub hl [0, 1, 2, 3] rfl) hw
    · have hf := ite_t c4 hf
      refine lv_aload_n hx hb dX9_cutRun_35 rfl (lv_at hl 0 rfl) ?_
      refine k_get C hw 0 rfl rfl wiX9 5 (by decide) wfX9_37 rfl dX9_cutRun_36 ?_
      refine lv_aload_n hx hb dX9_cutRun_39 rfl (lv_at hl 0 rfl) ?_
      refine k_get C hw 0 rfl rfl wiX9 7 (by decide) wfX9_34 rfl dX9_cutRun_40 ?_
      obtain ⟨g15, hf⟩ := gdi_r hf
      refine k_bald C hw 1 rfl g15 dX9_cutRun_43 ?_
      obtain ⟨o16, ho16, hf⟩ := bind_r hf
      refine k_callSi C hw (n := 1) (As := [.int (t_tape t_next.toNatClampNeg)]) (w1 := (wX9_cutRun dA Z ht ht_kinds ht_starts ht_values ht_words ht_tape t_last t_length t_next t_tape t_values t_kinds t_words)) (wr := [(ht, .inr (9, [.ref ht_kinds, .ref ht_starts, .ref ht_values, .ref ht_words, .int t_last, .ref ht_tape, .int t_length, .int t_next])), (ht_tape, .inl (dA 2, 1240, .inl t_tape)), (ht_values, .inl (dA 0, 1201, .inl t_values)), (ht_kinds, .inl (dA 0, 1201, .inl t_kinds)), (ht_words, .inl (dA 4, 1201, .inr (.inr (.inr (.inr (fun i => we Z (t_words i)))))))]) [] [0, 1, 2, 3, 4] [0, 1, 2, 3, 4] rfl rfl (by decide) (by decide) (by decide) rfl (by decide) (qX9_isDigit l D dA  (t_tape t_next.toNatClampNeg) _ ho16) wlX9_54 wsX9_isDigit_t wnX9 wcX9_isDigit (by decide +kernel) ⟨Nat.le_trans (by decide) hR.1, Nat.le_trans (by decide) hR.2.1⟩ hR.2.2 rfl hl.1 (Nat.le_of_ble_eq_true rfl) dX9_cutRun_44 rfl (fun H locs hw => ?_)
      refine lv_if_eq (tgt := 122) hx hb dX9_cutRun_47 (by decide) (fun c17 => ?_) (fun c17 => ?_)
      · have hf := ite_t c17 hf
        obtain rfl := some_r hf
        exact hK _ _ _ (lv_sub hl [0, 1, 2, 3] rfl) hw
      · have hf := ite_f c17 hf
        exact tX9_cutRun_j50 C hz ht ht_kinds ht_starts ht_values ht_words ht_tape hR t_last t_length t_next t_tape t_values t_kinds t_words v1 v2 v3 N _ hf hK (lv_sub hl [0, 1, 2, 3] rfl) hw
set_option maxHeartbeats 4000000 in
theorem tX9_cutRun_l9 {p : Program} {l : Launch} {e : Env} {R : Room} {s : State} {m : MethodId} {args : Array Value} {below : List Frame} {meth : Method} {c : Code} {D : va_G} {dA : Nat → ClassId} {w0 : va_W} {Q : State → Prop} {H : Heap} {locs : List Loc} {ls : Array Slot} {cells slots : Nat} {Z : ZA} (C : CX p s m args meth c cX9_cutRun 4 none RX9 D dA) (hz : SW Z (va_A w0 s.heap.size) s s.heap) (ht ht_kinds ht_starts ht_values ht_words ht_tape : Nat) (hR : 6 ≤ R.frames ∧ 163 ≤ R.locals ∧ cells ≤ R.cells ∧ slots ≤ R.slots)  (t_last : Int32) (t_length : Int32) (t_next : Int32) (t_tape : (Nat → Int32)) (t_values : (Nat → Int32)) (t_kinds : (Nat → Int32)) (t_words : (Nat → Int32)) (v1 : Int32) (v2 : Int32) (v3 : Int32) (N n : Nat) (res : (Int32 × Int32 × Int32)) (hf : itr (fun z => fX9_cutRun_l9b N t_last t_length t_tape t_values t_kinds t_words v1 z.1 z.2.1 z.2.2) n (t_next, v2, v3) = some res) (hK : (∀ (H : Heap) (locs : List Loc) (ls : Array Slot), lv_has ls 4 [(0, .ref ht), (1, .int v1), (2, .int res.2.1), (3, .int res.2.2)] → St D w0 s (wX9_cutRun dA Z ht ht_kinds ht_starts ht_values ht_words ht_tape t_last t_length res.1 t_tape t_values t_kinds t_words) H locs → W p l e R s m args below meth c H locs cells slots Q (F0 m 122 ls []))) (hl : lv_has ls 4 [(0, .ref ht), (1, .int v1), (2, .int v2), (3, .int v3)]) (hw : St D w0 s (wX9_cutRun dA Z ht ht_kinds ht_starts ht_values ht_words ht_tape t_last t_length t_next t_tape t_values t_kinds t_words) H locs) : W p l e R s m args below meth c H locs cells slots Q (F0 m 9 ls []) :=
  itr_W (P := fun (z : (Int32 × Int32 × Int32)) => (∀ (H : Heap) (locs : List Loc) (ls : Array Slot), lv_has ls 4 [(0, .ref ht), (1, .int v1), (2, .int z.2.1), (3, .int z.2.2)] → St D w0 s (wX9_cutRun dA Z ht ht_kinds ht_starts ht_values ht_words ht_tape t_last t_length z.1 t_tape t_values t_kinds t_words) H locs → W p l e R s m args below meth c H locs cells slots Q (F0 m 9 ls []))) (K := fun res => (∀ (H : Heap) (locs : List Loc) (ls : Array Slot), lv_has ls 4 [(0, .ref ht), (1, .int v1), (2, .int res.2.1), (3, .int res.2.2)] → St D w0 s (wX9_cutRun dA Z ht ht_kinds ht_starts ht_values ht_words ht_tape t_last t_length res.1 t_tape t_values t_kinds t_words) H locs → W p l e R s m args below meth c H locs cells slots Q (F0 m 122 ls []))) (fun z r hf hK H locs ls hl hw => tX9_cutRun_l9b C hz ht ht_kinds ht_starts ht_values ht_words ht_tape hR t_last t_length z.1 t_tape t_values t_kinds t_words v1 z.2.1 z.2.2 N r hf (by cases r with
    | inl r => exact hK
    | inr r => exact hK) hl hw) n _ res hf hK H locs ls hl hw
set_option maxHeartbeats 4000000 in
set_option maxRecDepth 100000 in
theorem qX9_cutRun (l : Launch) (D : va_G) (dA : Nat → ClassId) (Z : ZA) (ht ht_kinds ht_starts ht_values ht_words ht_tape : Nat) (t_last : Int32) (t_length : Int32) (t_next : Int32) (t_tape : (Nat → Int32)) (t_values : (Nat → Int32)) (t_kinds : (Nat → Int32)) (t_words : (Nat → Int32))  (N : Nat) (o : Int32 × (Nat → Int32) × (Nat → Int32) × (Nat → Int32)) (hf : fX9_cutRun N t_last t_length t_next t_tape t_values t_kinds t_words = some o) : MvS l D dA Z yX9_cutRun (Cond.code yX9_cutRun cX9_cutRun 4 none :: wA) 6 163 [.ref ht] (wX9_cutRun dA Z ht ht_kinds ht_starts ht_values ht_words ht_tape t_last t_length t_next t_tape t_values t_kinds t_words) (wX9_cutRun dA Z ht ht_kinds ht_starts ht_values ht_words ht_tape t_last t_length o.1 t_tape o.2.1 o.2.2.1 o.2.2.2) := by
  intro sz
  refine M_ofS (cc := cX9_cutRun) (nL := 4) (ret := none) (own := RX9) (by decide +kernel) rfl (Nat.le_of_ble_eq_true rfl) ?_
  intro p e s m below meth c ls hsz C hw hz hl
  subst hsz
  have hR : 6 ≤ (rmm 6 163).frames ∧ 163 ≤ (rmm 6 163).locals ∧ 0 ≤ (rmm 6 163).cells ∧ 0 ≤ (rmm 6 163).slots := ⟨Nat.le_refl _, Nat.le_refl _, Nat.le_refl _, Nat.le_refl _⟩
  have hl : lv_has ls 4 [(0, .ref ht)] := hl
  have hx := C.1
  have hb := C.2.1
  have hml := C.2.2.1
  have hown := C.2.2.2.1
  have hts := C.2.2.2.2.1
  have hK : ∀ (H : Heap) (locs : List Loc) (pc : Nat) (ls : Array Slot), decode cX9_cutRun pc = .ok (.return_, 1) → St D (wX9_cutRun dA Z ht ht_kinds ht_starts ht_values ht_words ht_tape t_last t_length t_next t_tape t_values t_kinds t_words) s (wX9_cutRun dA Z ht ht_kinds ht_starts ht_values ht_words ht_tape t_last t_length o.1 t_tape o.2.1 o.2.2.1 o.2.2.2) H locs → W p l e (rmm 6 163) s m [.ref ht].toArray below meth c H locs 0 0 (MQ below (Qv D (wX9_cutRun dA Z ht ht_kinds ht_starts ht_values ht_words ht_tape t_last t_length t_next t_tape t_values t_kinds t_words) (wX9_cutRun dA Z ht ht_kinds ht_starts ht_values ht_words ht_tape t_last t_length o.1 t_tape o.2.1 o.2.2.1 o.2.2.2) s.heap.size) [.ref ht].toArray s 0 0 (va_A (wX9_cutRun dA Z ht ht_kinds ht_starts ht_values ht_words ht_tape t_last t_length t_next t_tape t_values t_kinds t_words) s.heap.size)) (F0 m pc ls []) := fun H locs pc ls hd hw => k_vret C hw hd
  unfold fX9_cutRun at hf
  refine lv_aload_n hx hb dX9_cutRun_0 rfl (lv_at hl 0 rfl) ?_
  refine k_get C hw 0 rfl rfl wiX9 7 (by decide) wfX9_34 rfl dX9_cutRun_1 ?_
  refine lv_istore_n (lv' := [(1, .int t_next), (0, .ref ht)]) hx hb dX9_cutRun_4 rfl hl (by decide) rfl (fun ls hl => ?_)
  refine lv_iconst (v := (0 : Int32)) hx hb dX9_cutRun_5 (by decide) ?_
  refine lv_istore_n (lv' := [(2, .int (0 : Int32)), (1, .int t_next), (0, .ref ht)]) hx hb dX9_cutRun_6 rfl hl (by decide) rfl (fun ls hl => ?_)
  refine lv_iconst (v := (0 : Int32)) hx hb dX9_cutRun_7 (by decide) ?_
  refine lv_istore_n (lv' := [(3, .int (0 : Int32)), (2, .int (0 : Int32)), (1, .int t_next), (0, .ref ht)]) hx hb dX9_cutRun_8 rfl hl (by decide) rfl (fun ls hl => ?_)
  obtain ⟨q18, hq18, hf⟩ := bind_r hf
  refine tX9_cutRun_l9 C hz ht ht_kinds ht_starts ht_values ht_words ht_tape hR t_last t_length t_next t_tape t_values t_kinds t_words t_next (0 : Int32) (0 : Int32) N _ _ hq18 ?_ (lv_sub hl [3, 2, 1, 0] rfl) hw
  intro H locs ls hl hw
  refine lv_aload_n hx hb dX9_cutRun_122 rfl (lv_at hl 0 rfl) ?_
  refine k_get C hw 0 rfl rfl wiX9 2 (by decide) wfX9_18 rfl dX9_cutRun_123 ?_
  refine lv_aload_n hx hb dX9_cutRun_126 rfl (lv_at hl 0 rfl) ?_
  refine k_get C hw 0 rfl rfl wiX9 4 (by decide) wfX9_27 rfl dX9_cutRun_127 ?_
  refine lv_iload_n hx hb dX9_cutRun_130 rfl (lv_at hl 3 rfl) ?_
  obtain ⟨g19, hf⟩ := gdi_r hf
  obtain ⟨y20, ey20⟩ : ∃ z : Nat → Int32, z = upd t_values t_last.toNatClampNeg q18.2.2 := ⟨_, rfl⟩
  have hf := bnd_r ey20 hf
  refine k_iast C hw 2 rfl g19 dX9_cutRun_131 y20 ey20 (wX9_cutRun dA Z ht ht_kinds ht_starts ht_values ht_words ht_tape t_last t_length q18.1 t_tape y20 t_kinds t_words) rfl (fun H locs hw => ?_)
  refine lv_iload_n hx hb dX9_cutRun_132 rfl (lv_at hl 2 rfl) ?_
  refine lv_if_ne (tgt := 163) hx hb dX9_cutRun_133 (by decide) (fun c21 => ?_) (fun c21 => ?_)
  · have hf := ite_f c21 hf
    refine lv_iload_n hx hb dX9_cutRun_163 rfl (lv_at hl 2 rfl) ?_
    refine lv_aload_n hx hb dX9_cutRun_164 rfl (lv_at hl 0 rfl) ?_
    refine k_get C hw 0 rfl rfl wiX9 7 (by decide) wfX9_34 rfl dX9_cutRun_165 ?_
    refine lv_iload_n hx hb dX9_cutRun_168 rfl (lv_at hl 1 rfl) ?_
    refine lv_isub hx hb dX9_cutRun_169 ?_
    refine lv_icmp_ne (tgt := 229) hx hb dX9_cutRun_170 (by decide) (fun c22 => ?_) (fun c22 => ?_)
    · have hf := ite_f c22 hf
      refine lv_aload_n hx hb dX9_cutRun_229 rfl (lv_at hl 0 rfl) ?_
      refine k_get C hw 0 rfl rfl wiX9 0 (by decide) wfX9_11 rfl dX9_cutRun_230 ?_
      refine lv_aload_n hx hb dX9_cutRun_233 rfl (lv_at hl 0 rfl) ?_
      refine k_get C hw 0 rfl rfl wiX9 4 (by decide) wfX9_27 rfl dX9_cutRun_234 ?_
      refine lv_iconst (v := (1 : Int32)) hx hb dX9_cutRun_237 (by decide) ?_
      obtain ⟨g23, hf⟩ := gdi_r hf
      obtain ⟨y24, ey24⟩ : ∃ z : Nat → Int32, z = upd t_kinds t_last.toNatClampNeg (1 : Int32) := ⟨_, rfl⟩
      have hf := bnd_r ey24 hf
      refine k_iast C hw 3 rfl g23 dX9_cutRun_238 y24 ey24 (wX9_cutRun dA Z ht ht_kinds ht_starts ht_values ht_words ht_tape t_last t_length q18.1 t_tape y20 y24 t_words) rfl (fun H locs hw => ?_)
      obtain rfl := some_r hf
      exact hK _ _ _ _ dX9_cutRun_239 hw
    · have hf := ite_t c22 hf
      refine lv_iload_n hx hb dX9_cutRun_173 rfl (lv_at hl 2 rfl) ?_
      refine lv_bipush (v := (6 : Int32)) hx hb dX9_cutRun_174 (by decide) ?_
      refine lv_icmp_gt (tgt := 229) hx hb dX9_cutRun_176 (by decide) (fun c25 => ?_) (fun c25 => ?_)
      · have hf := ite_t c25 hf
        refine lv_aload_n hx hb dX9_cutRun_229 rfl (lv_at hl 0 rfl) ?_
        refine k_get C hw 0 rfl rfl wiX9 0 (by decide) wfX9_11 rfl dX9_cutRun_230 ?_
        refine lv_aload_n hx hb dX9_cutRun_233 rfl (lv_at hl 0 rfl) ?_
        refine k_get C hw 0 rfl rfl wiX9 4 (by decide) wfX9_27 rfl dX9_cutRun_234 ?_
        refine lv_iconst (v := (1 : Int32)) hx hb dX9_cutRun_237 (by decide) ?_
        obtain ⟨g26, hf⟩ := gdi_r hf
        obtain ⟨y27, ey27⟩ : ∃ z : Nat → Int32, z = upd t_kinds t_last.toNatClampNeg (1 : Int32) := ⟨_, rfl⟩
        have hf := bnd_r ey27 hf
        refine k_iast C hw 3 rfl g26 dX9_cutRun_238 y27 ey27 (wX9_cutRun dA Z ht ht_kinds ht_starts ht_values ht_words ht_tape t_last t_length q18.1 t_tape y20 y27 t_words) rfl (fun H locs hw => ?_)
        obtain rfl := some_r hf
        exact hK _ _ _ _ dX9_cutRun_239 hw
      · have hf := ite_f c25 hf
        refine lv_aload_n hx hb dX9_cutRun_179 rfl (lv_at hl 0 rfl) ?_
        refine k_get C hw 0 rfl rfl wiX9 3 (by decide) wfX9_23 rfl dX9_cutRun_180 ?_
        refine lv_aload_n hx hb dX9_cutRun_183 rfl (lv_at hl 0 rfl) ?_
        refine k_get C hw 0 rfl rfl wiX9 4 (by decide) wfX9_27 rfl dX9_cutRun_184 ?_
        refine lv_aload_n hx hb dX9_cutRun_187 rfl (lv_at hl 0 rfl) ?_
        refine k_get C hw 0 rfl rfl wiX9 5 (by decide) wfX9_37 rfl dX9_cutRun_188 ?_
        refine lv_iload_n hx hb dX9_cutRun_191 rfl (lv_at hl 1 rfl) ?_
        refine lv_aload_n hx hb dX9_cutRun_192 rfl (lv_at hl 0 rfl) ?_
        refine k_get C hw 0 rfl rfl wiX9 7 (by decide) wfX9_34 rfl dX9_cutRun_193 ?_
        obtain ⟨g28, hf⟩ := gdp_r hf
        refine k_zcallSq C hw hz (n := 3) (As := [.ref ht_tape, .int t_next, .int q18.1]) (w1 := (wX9_cutRun dA Z ht ht_kinds ht_starts ht_values ht_words ht_tape t_last t_length q18.1 t_tape y20 t_kinds t_words)) (wr := [(ht, .inr (9, [.ref ht_kinds, .ref ht_starts, .ref ht_values, .ref ht_words, .int t_last, .ref ht_tape, .int t_length, .int q18.1])), (ht_values, .inl (dA 0, 1201, .inl y20)), (ht_kinds, .inl (dA 0, 1201, .inl t_kinds)), (ht_words, .inl (dA 4, 1201, .inr (.inr (.inr (.inr (fun i => we Z (t_words i)))))))]) [1] [0, 2, 3, 4] [0, 4, 1, 2, 3] rfl rfl (by decide) (by decide) (by decide) rfl (by decide) (zX10_lyingA l D dA Z ht_tape 1240 t_tape (by decide) g28) wlX9_60 wsX10_lyingAt_t wnX10 wcX10_lyingAt (by decide +kernel) ⟨Nat.le_trans (by decide) hR.1, Nat.le_trans (by decide) hR.2.1⟩ hR.2.2 rfl hl.1 (Nat.le_of_ble_eq_true rfl) dX9_cutRun_196 rfl (fun H locs hw => ?_)
        obtain ⟨g29, hf⟩ := gdi_r hf
        obtain ⟨y30, ey30⟩ : ∃ z : Nat → Int32, z = upd t_words t_last.toNatClampNeg (lya t_tape t_next.toNatClampNeg q18.1.toNatClampNeg) := ⟨_, rfl⟩
        have hf := bnd_r ey30 hf
        refine kw_aast C hw hz 4 rfl (okw_lya _ _ _) g29 dX9_cutRun_199 y30 ey30 (wX9_cutRun dA Z ht ht_kinds ht_starts ht_values ht_words ht_tape t_last t_length q18.1 t_tape y20 t_kinds y30) rfl (fun H locs hw => ?_)
        refine lv_aload_n hx hb dX9_cutRun_200 rfl (lv_at hl 0 rfl) ?_
        refine k_get C hw 0 rfl rfl wiX9 0 (by decide) wfX9_11 rfl dX9_cutRun_201 ?_
        refine lv_aload_n hx hb dX9_cutRun_204 rfl (lv_at hl 0 rfl) ?_
        refine k_get C hw 0 rfl rfl wiX9 4 (by decide) wfX9_27 rfl dX9_cutRun_205 ?_
        refine lv_aload_n hx hb dX9_cutRun_208 rfl (lv_at hl 0 rfl) ?_
        refine k_get C hw 0 rfl rfl wiX9 3 (by decide) wfX9_23 rfl dX9_cutRun_209 ?_
        refine lv_aload_n hx hb dX9_cutRun_212 rfl (lv_at hl 0 rfl) ?_
        refine k_get C hw 0 rfl rfl wiX9 4 (by decide) wfX9_27 rfl dX9_cutRun_213 ?_
        obtain ⟨g31, hf⟩ := gdi_r hf
        refine kw_aald C hw 4 rfl g31 dX9_cutRun_216 ?_
        refine kw_ifnonnull (tgt := 224) hx hb dX9_cutRun_217 (by decide) (fun c32 => ?_) (fun c32 => ?_)
        · have hf := ite_f c32 hf
          refine lv_iconst (v := (5 : Int32)) hx hb dX9_cutRun_224 (by decide) ?_
          obtain ⟨g33, hf⟩ := gdi_r hf
          obtain ⟨y34, ey34⟩ : ∃ z : Nat → Int32, z = upd t_kinds t_last.toNatClampNeg (5 : Int32) := ⟨_, rfl⟩
          have hf := bnd_r ey34 hf
          refine k_iast C hw 3 rfl g33 dX9_cutRun_225 y34 ey34 (wX9_cutRun dA Z ht ht_kinds ht_starts ht_values ht_words ht_tape t_last t_length q18.1 t_tape y20 y34 y30) rfl (fun H locs hw => ?_)
          refine lv_goto (tgt := 239) hx hb dX9_cutRun_226 (by decide) ?_
          obtain rfl := some_r hf
          exact hK _ _ _ _ dX9_cutRun_239 hw
        · have hf := ite_t c32 hf
          refine lv_iconst (v := (4 : Int32)) hx hb dX9_cutRun_220 (by decide) ?_
          refine lv_goto (tgt := 225) hx hb dX9_cutRun_221 (by decide) ?_
          obtain ⟨g35, hf⟩ := gdi_r hf
          obtain ⟨y36, ey36⟩ : ∃ z : Nat → Int32, z = upd t_kinds t_last.toNatClampNeg (4 : Int32) := ⟨_, rfl⟩
          have hf := bnd_r ey36 hf
          refine k_iast C hw 3 rfl g35 dX9_cutRun_225 y36 ey36 (wX9_cutRun dA Z ht ht_kinds ht_starts ht_values ht_words ht_tape t_last t_length q18.1 t_tape y20 y36 y30) rfl (fun H locs hw => ?_)
          refine lv_goto (tgt := 239) hx hb dX9_cutRun_226 (by decide) ?_
          obtain rfl := some_r hf
          exact hK _ _ _ _ dX9_cutRun_239 hw
  · have hf := ite_t c21 hf
    refine lv_aload_n hx hb dX9_cutRun_136 rfl (lv_at hl 0 rfl) ?_
    refine k_get C hw 0 rfl rfl wiX9 0 (by decide) wfX9_11 rfl dX9_cutRun_137 ?_
    refine lv_aload_n hx hb dX9_cutRun_140 rfl (lv_at hl 0 rfl) ?_
    refine k_get C hw 0 rfl rfl wiX9 4 (by decide) wfX9_27 rfl dX9_cutRun_141 ?_
    refine lv_aload_n hx hb dX9_cutRun_144 rfl (lv_at hl 0 rfl) ?_
    refine k_get C hw 0 rfl rfl wiX9 7 (by decide) wfX9_34 rfl dX9_cutRun_145 ?_
    refine lv_iload_n hx hb dX9_cutRun_148 rfl (lv_at hl 1 rfl) ?_
    refine lv_isub hx hb dX9_cutRun_149 ?_
    refine lv_iconst (v := (4 : Int32)) hx hb dX9_cutRun_150 (by decide) ?_
    refine lv_icmp_gt (tgt := 158) hx hb dX9_cutRun_151 (by decide) (fun c37 => ?_) (fun c37 => ?_)
    · have hf := ite_t c37 hf
      refine lv_iconst (v := (1 : Int32)) hx hb dX9_cutRun_158 (by decide) ?_
      obtain ⟨g38, hf⟩ := gdi_r hf
      obtain ⟨y39, ey39⟩ : ∃ z : Nat → Int32, z = upd t_kinds t_last.toNatClampNeg (1 : Int32) := ⟨_, rfl⟩
      have hf := bnd_r ey39 hf
      refine k_iast C hw 3 rfl g38 dX9_cutRun_159 y39 ey39 (wX9_cutRun dA Z ht ht_kinds ht_starts ht_values ht_words ht_tape t_last t_length q18.1 t_tape y20 y39 t_words) rfl (fun H locs hw => ?_)
      refine lv_goto (tgt := 239) hx hb dX9_cutRun_160 (by decide) ?_
      obtain rfl := some_r hf
      exact hK _ _ _ _ dX9_cutRun_239 hw
    · have hf := ite_f c37 hf
      refine lv_iconst (v := (3 : Int32)) hx hb dX9_cutRun_154 (by decide) ?_
      refine lv_goto (tgt := 159) hx hb dX9_cutRun_155 (by decide) ?_
      obtain ⟨g40, hf⟩ := gdi_r hf
      obtain ⟨y41, ey41⟩ : ∃ z : Nat → Int32, z = upd t_kinds t_last.toNatClampNeg (3 : Int32) := ⟨_, rfl⟩
      have hf := bnd_r ey41 hf
      refine k_iast C hw 3 rfl g40 dX9_cutRun_159 y41 ey41 (wX9_cutRun dA Z ht ht_kinds ht_starts ht_values ht_words ht_tape t_last t_length q18.1 t_tape y20 y41 t_words) rfl (fun H locs hw => ?_)
      refine lv_goto (tgt := 239) hx hb dX9_cutRun_160 (by decide) ?_
      obtain rfl := some_r hf
      exact hK _ _ _ _ dX9_cutRun_239 hw

/-! RingPlaces$Tokens.cutOne()V -/
abbrev wX9_cutOne (dA : Nat → ClassId) (Z : ZA) (ht ht_kinds ht_starts ht_values ht_words ht_tape : Nat) (t_last : Int32) (t_length : Int32) (t_next : Int32) (t_starts : (Nat → Int32)) (t_words : (Nat → Int32)) (t_tape : (Nat → Int32)) (t_values : (Nat → Int32)) (t_kinds : (Nat → Int32)) : va_W := [(ht, .inr (9, [.ref ht_kinds, .ref ht_starts, .ref ht_values, .ref ht_words, .int t_last, .ref ht_tape, .int t_length, .int t_next])), (ht_starts, .inl (dA 0, 1201, .inl t_starts)), (ht_words, .inl (dA 4, 1201, .inr (.inr (.inr (.inr (fun i => we Z (t_words i))))))), (ht_tape, .inl (dA 2, 1240, .inl t_tape)), (ht_values, .inl (dA 0, 1201, .inl t_values)), (ht_kinds, .inl (dA 0, 1201, .inl t_kinds))]
def fX9_cutOne_j53 (N : Nat) (t_last : Int32) (t_length : Int32) (t_next : Int32) (t_starts : (Nat → Int32)) (t_words : (Nat → Int32)) (t_tape : (Nat → Int32)) (t_values : (Nat → Int32)) (t_kinds : (Nat → Int32))  : Option (Int32 × (Nat → Int32) × (Nat → Int32) × (Nat → Int32) × (Nat → Int32)) := (fX9_cutRun N t_last t_length t_next t_tape t_values t_kinds t_words ).bind fun o8 => some (o8.1, t_starts, o8.2.2.2, o8.2.1, o8.2.2.1)
def fX9_cutOne_j87_t_kinds (N : Nat) (t_last : Int32) (t_length : Int32) (t_next : Int32) (t_starts : (Nat → Int32)) (t_words : (Nat → Int32)) (t_tape : (Nat → Int32)) (t_values : (Nat → Int32)) (t_kinds : (Nat → Int32)) (u1 : Int32) (u2 : Int32) : Option (Int32 × (Nat → Int32) × (Nat → Int32) × (Nat → Int32) × (Nat → Int32)) := gdi u1 1201 (bnd (upd t_kinds u1.toNatClampNeg u2) fun y15 => bnd (t_next + (1 : Int32)) fun x16 => some (x16, t_starts, t_words, t_values, y15))
def fX9_cutOne (N : Nat) (t_last : Int32) (t_length : Int32) (t_next : Int32) (t_starts : (Nat → Int32)) (t_words : (Nat → Int32)) (t_tape : (Nat → Int32)) (t_values : (Nat → Int32)) (t_kinds : (Nat → Int32))  : Option (Int32 × (Nat → Int32) × (Nat → Int32) × (Nat → Int32) × (Nat → Int32)) := gdi t_last 1201 (bnd (upd t_starts t_last.toNatClampNeg t_next) fun y2 => gdi t_last 1201 (bnd (upd t_words t_last.toNatClampNeg (-1 : Int32)) fun y4 => gdi t_next 1240 ((fX9_isLetter  (t_tape t_next.toNatClampNeg)).bind fun o6 => (if o6 = 0 then gdi t_next 1240 ((fX9_isDigit  (t_tape t_next.toNatClampNeg)).bind fun o10 => (if o10 = 0 then gdi t_next 1240 ((if (t_tape t_next.toNatClampNeg) = (59 : Int32) then fX9_cutOne_j87_t_kinds N t_last t_length t_next y2 y4 t_tape t_values t_kinds t_last (2 : Int32) else fX9_cutOne_j87_t_kinds N t_last t_length t_next y2 y4 t_tape t_values t_kinds t_last (1 : Int32))) else fX9_cutOne_j53 N t_last t_length t_next y2 y4 t_tape t_values t_kinds)) else fX9_cutOne_j53 N t_last t_length t_next y2 y4 t_tape t_values t_kinds))))
set_option maxHeartbeats 4000000 in
set_option maxRecDepth 100000 in
theorem tX9_cutOne_j53 {p : Program} {l : Launch} {e : Env} {R : Room} {s : State} {m : MethodId} {args : Array Value} {below : List Frame} {meth : Method} {c : Code} {D : va_G} {dA : Nat → ClassId} {w0 : va_W} {Q : State → Prop} {H : Heap} {locs : List Loc} {ls : Array Slot} {cells slots : Nat} {Z : ZA} (C : CX p s m args meth c cX9_cutOne 1 none RX9 D dA) (hz : SW Z (va_A w0 s.heap.size) s s.heap) (ht ht_kinds ht_starts ht_values ht_words ht_tape : Nat) (hR : 7 ≤ R.frames ∧ 186 ≤ R.locals ∧ cells ≤ R.cells ∧ slots ≤ R.slots)  (t_last : Int32) (t_length : Int32) (t_next : Int32) (t_starts : (Nat → Int32)) (t_words : (Nat → Int32)) (t_tape : (Nat → Int32)) (t_values : (Nat → Int32)) (t_kinds : (Nat → Int32))  (N : Nat) (res : (Int32 × (Nat → Int32) × (Nat → Int32) × (Nat → Int32) × (Nat → Int32))) (hf : fX9_cutOne_j53 N t_last t_length t_next t_starts t_words t_tape t_values t_kinds = some res) (hK : (∀ (H : Heap) (locs : List Loc) (pc : Nat) (ls : Array Slot), decode cX9_cutOne pc = .ok (.return_, 1) → St D w0 s (wX9_cutOne dA Z ht ht_kinds ht_starts ht_values ht_words ht_tape t_last t_length res.1 res.2.1 res.2.2.1 t_tape res.2.2.2.1 res.2.2.2.2) H locs → W p l e R s m args below meth c H locs cells slots Q (F0 m pc ls []))) (hl : lv_has ls 1 [(0, .ref ht)]) (hw : St D w0 s (wX9_cutOne dA Z ht ht_kinds ht_starts ht_values ht_words ht_tape t_last t_length t_next t_starts t_words t_tape t_values t_kinds) H locs) : W p l e R s m args below meth c H locs cells slots Q (F0 m 53 ls []) := by
  have hx := C.1
  have hb := C.2.1
  have hml := C.2.2.1
  have hown := C.2.2.2.1
  have hts := C.2.2.2.2.1
  unfold fX9_cutOne_j53 at hf
  refine lv_aload_n hx hb dX9_cutOne_53 rfl (lv_at hl 0 rfl) ?_
  obtain ⟨o8, ho8, hf⟩ := bind_r hf
  refine k_zcallVv C hw hz (n := 0) (As := []) (w1 := (wX9_cutOne dA Z ht ht_kinds ht_starts ht_values ht_words ht_tape t_last t_length o8.1 t_starts o8.2.2.2 t_tape o8.2.1 o8.2.2.1)) (wr := [(ht_starts, .inl (dA 0, 1201, .inl t_starts))]) [0, 3, 4, 5, 2] [1] [1, 0, 5, 2, 3, 4] rfl rfl (by decide) (by decide) (by decide) rfl (by decide) (qX9_cutRun l D dA Z ht ht_kinds ht_starts ht_values ht_words ht_tape t_last t_length t_next t_tape t_values t_kinds t_words  N _ ho8) wlX9_57 wmX9_cutRun wvX9_cutRun wnX9 wcX9_cutRun rfl (by decide +kernel) ⟨Nat.le_trans (by decide) hR.1, Nat.le_trans (by decide) hR.2.1⟩ hR.2.2 rfl 0 rfl rfl hl.1 (Nat.le_of_ble_eq_true rfl) dX9_cutOne_54 rfl (fun H locs hw => ?_)
  refine lv_goto (tgt := 98) hx hb dX9_cutOne_57 (by decide) ?_
  obtain rfl := some_r hf
  exact hK _ _ _ _ dX9_cutOne_98 hw
set_option maxHeartbeats 4000000 in
set_option maxRecDepth 100000 in
theorem tX9_cutOne_j87_t_kinds {p : Program} {l : Launch} {e : Env} {R : Room} {s : State} {m : MethodId} {args : Array Value} {below : List Frame} {meth : Method} {c : Code} {D : va_G} {dA : Nat → ClassId} {w0 : va_W} {Q : State → Prop} {H : Heap} {locs : List Loc} {ls : Array Slot} {cells slots : Nat} {Z : ZA} (C : CX p s m args meth c cX9_cutOne 1 none RX9 D dA) (hz : SW Z (va_A w0 s.heap.size) s s.heap) (ht ht_kinds ht_starts ht_values ht_words ht_tape : Nat) (hR : 7 ≤ R.frames ∧ 186 ≤ R.locals ∧ cells ≤ R.cells ∧ slots ≤ R.slots)  (t_last : Int32) (t_length : Int32) (t_next : Int32) (t_starts : (Nat → Int32)) (t_words : (Nat → Int32)) (t_tape : (Nat → Int32)) (t_values : (Nat → Int32)) (t_kinds : (Nat → Int32)) (u1 : Int32) (u2 : Int32) (N : Nat) (res : (Int32 × (Nat → Int32) × (Nat → Int32) × (Nat → Int32) × (Nat → Int32))) (hf : fX9_cutOne_j87_t_kinds N t_last t_length t_next t_starts t_words t_tape t_values t_kinds u1 u2 = some res) (hK : (∀ (H : Heap) (locs : List Loc) (pc : Nat) (ls : Array Slot), decode cX9_cutOne pc = .ok (.return_, 1) → St D w0 s (wX9_cutOne dA Z ht ht_kinds ht_starts ht_values ht_words ht_tape t_last t_length res.1 res.2.1 res.2.2.1 t_tape res.2.2.2.1 res.2.2.2.2) H locs → W p l e R s m args below meth c H locs cells slots Q (F0 m pc ls []))) (hl : lv_has ls 1 [(0, .ref ht)]) (hw : St D w0 s (wX9_cutOne dA Z ht ht_kinds ht_starts ht_values ht_words ht_tape t_last t_length t_next t_starts t_words t_tape t_values t_kinds) H locs) : W p l e R s m args below meth c H locs cells slots Q (F0 m 87 ls [.int u2, .int u1, .ref ht_kinds]) := by
  have hx := C.1
  have hb := C.2.1
  have hml := C.2.2.1
  have hown := C.2.2.2.1
  have hts := C.2.2.2.2.1
  unfold fX9_cutOne_j87_t_kinds at hf
  obtain ⟨g14, hf⟩ := gdi_r hf
  obtain ⟨y15, ey15⟩ : ∃ z : Nat → Int32, z = upd t_kinds u1.toNatClampNeg u2 := ⟨_, rfl⟩
  have hf := bnd_r ey15 hf
  refine k_iast C hw 5 rfl g14 dX9_cutOne_87 y15 ey15 (wX9_cutOne dA Z ht ht_kinds ht_starts ht_values ht_words ht_tape t_last t_length t_next t_starts t_words t_tape t_values y15) rfl (fun H locs hw => ?_)
  refine lv_aload_n hx hb dX9_cutOne_88 rfl (lv_at hl 0 rfl) ?_
  refine lv_dup hx hb dX9_cutOne_89 rfl ?_
  refine k_get C hw 0 rfl rfl wiX9 7 (by decide) wfX9_34 rfl dX9_cutOne_90 ?_
  refine lv_iconst (v := (1 : Int32)) hx hb dX9_cutOne_93 (by decide) ?_
  refine lv_iadd hx hb dX9_cutOne_94 ?_
  refine lv_topi (fun x16 ex16 => ?_)
  have hf := bnd_r ex16 hf
  refine k_put C hw 0 rfl rfl wiX9 tyX9 tyX9_ok nmX9 7 (by decide) wfX9_34 rfl rfl rfl (Nat.le_of_ble_eq_true rfl) dX9_cutOne_95 (wX9_cutOne dA Z ht ht_kinds ht_starts ht_values ht_words ht_tape t_last t_length x16 t_starts t_words t_tape t_values y15) rfl (fun H locs hw => ?_)
  obtain rfl := some_r hf
  exact hK _ _ _ _ dX9_cutOne_98 hw
set_option maxHeartbeats 4000000 in
set_option maxRecDepth 100000 in
theorem qX9_cutOne (l : Launch) (D : va_G) (dA : Nat → ClassId) (Z : ZA) (ht ht_kinds ht_starts ht_values ht_words ht_tape : Nat) (t_last : Int32) (t_length : Int32) (t_next : Int32) (t_starts : (Nat → Int32)) (t_words : (Nat → Int32)) (t_tape : (Nat → Int32)) (t_values : (Nat → Int32)) (t_kinds : (Nat → Int32))  (N : Nat) (o : Int32 × (Nat → Int32) × (Nat → Int32) × (Nat → Int32) × (Nat → Int32)) (hf : fX9_cutOne N t_last t_length t_next t_starts t_words t_tape t_values t_kinds = some o) : MvS l D dA Z yX9_cutOne (Cond.code yX9_cutOne cX9_cutOne 1 none :: wA) 7 186 [.ref ht] (wX9_cutOne dA Z ht ht_kinds ht_starts ht_values ht_words ht_tape t_last t_length t_next t_starts t_words t_tape t_values t_kinds) (wX9_cutOne dA Z ht ht_kinds ht_starts ht_values ht_words ht_tape t_last t_length o.1 o.2.1 o.2.2.1 t_tape o.2.2.2.1 o.2.2.2.2) := by
  intro sz
  refine M_ofS (cc := cX9_cutOne) (nL := 1) (ret := none) (own := RX9) (by decide +kernel) rfl (Nat.le_of_ble_eq_true rfl) ?_
  intro p e s m below meth c ls hsz C hw hz hl
  subst hsz
  have hR : 7 ≤ (rmm 7 186).frames ∧ 186 ≤ (rmm 7 186).locals ∧ 0 ≤ (rmm 7 186).cells ∧ 0 ≤ (rmm 7 186).slots := ⟨Nat.le_refl _, Nat.le_refl _, Nat.le_refl _, Nat.le_refl _⟩
  have hl : lv_has ls 1 [(0, .ref ht)] := hl
  have hx := C.1
  have hb := C.2.1
  have hml := C.2.2.1
  have hown := C.2.2.2.1
  have hts := C.2.2.2.2.1
  have hK : ∀ (H : Heap) (locs : List Loc) (pc : Nat) (ls : Array Slot), decode cX9_cutOne pc = .ok (.return_, 1) → St D (wX9_cutOne dA Z ht ht_kinds ht_starts ht_values ht_words ht_tape t_last t_length t_next t_starts t_words t_tape t_values t_kinds) s (wX9_cutOne dA Z ht ht_kinds ht_starts ht_values ht_words ht_tape t_last t_length o.1 o.2.1 o.2.2.1 t_tape o.2.2.2.1 o.2.2.2.2) H locs → W p l e (rmm 7 186) s m [.ref ht].toArray below meth c H locs 0 0 (MQ below (Qv D (wX9_cutOne dA Z ht ht_kinds ht_starts ht_values ht_words ht_tape t_last t_length t_next t_starts t_words t_tape t_values t_kinds) (wX9_cutOne dA Z ht ht_kinds ht_starts ht_values ht_words ht_tape t_last t_length o.1 o.2.1 o.2.2.1 t_tape o.2.2.2.1 o.2.2.2.2) s.heap.size) [.ref ht].toArray s 0 0 (va_A (wX9_cutOne dA Z ht ht_kinds ht_starts ht_values ht_words ht_tape t_last t_length t_next t_starts t_words t_tape t_values t_kinds) s.heap.size)) (F0 m pc ls []) := fun H locs pc ls hd hw => k_vret C hw hd
  unfold fX9_cutOne at hf
  refine lv_aload_n hx hb dX9_cutOne_0 rfl (lv_at hl 0 rfl) ?_
  refine k_get C hw 0 rfl rfl wiX9 1 (by decide) wfX9_15 rfl dX9_cutOne_1 ?_
  refine lv_aload_n hx hb dX9_cutOne_4 rfl (lv_at hl 0 rfl) ?_
  refine k_get C hw 0 rfl rfl wiX9 4 (by decide) wfX9_27 rfl dX9_cutOne_5 ?_
  refine lv_aload_n hx hb dX9_cutOne_8 rfl (lv_at hl 0 rfl) ?_
  refine k_get C hw 0 rfl rfl wiX9 7 (by decide) wfX9_34 rfl dX9_cutOne_9 ?_
  obtain ⟨g1, hf⟩ := gdi_r hf
  obtain ⟨y2, ey2⟩ : ∃ z : Nat → Int32, z = upd t_starts t_last.toNatClampNeg t_next := ⟨_, rfl⟩
  have hf := bnd_r ey2 hf
  refine k_iast C hw 1 rfl g1 dX9_cutOne_12 y2 ey2 (wX9_cutOne dA Z ht ht_kinds ht_starts ht_values ht_words ht_tape t_last t_length t_next y2 t_words t_tape t_values t_kinds) rfl (fun H locs hw => ?_)
  refine lv_aload_n hx hb dX9_cutOne_13 rfl (lv_at hl 0 rfl) ?_
  refine k_get C hw 0 rfl rfl wiX9 3 (by decide) wfX9_23 rfl dX9_cutOne_14 ?_
  refine lv_aload_n hx hb dX9_cutOne_17 rfl (lv_at hl 0 rfl) ?_
  refine k_get C hw 0 rfl rfl wiX9 4 (by decide) wfX9_27 rfl dX9_cutOne_18 ?_
  refine kw_null (Z := Z) hx hb dX9_cutOne_21 ?_
  obtain ⟨g3, hf⟩ := gdi_r hf
  obtain ⟨y4, ey4⟩ : ∃ z : Nat → Int32, z = upd t_words t_last.toNatClampNeg (-1 : Int32) := ⟨_, rfl⟩
  have hf := bnd_r ey4 hf
  refine kw_aast C hw hz 2 rfl (Or.inl rfl) g3 dX9_cutOne_22 y4 ey4 (wX9_cutOne dA Z ht ht_kinds ht_starts ht_values ht_words ht_tape t_last t_length t_next y2 y4 t_tape t_values t_kinds) rfl (fun H locs hw => ?_)
  refine lv_aload_n hx hb dX9_cutOne_23 rfl (lv_at hl 0 rfl) ?_
  refine k_get C hw 0 rfl rfl wiX9 5 (by decide) wfX9_37 rfl dX9_cutOne_24 ?_
  refine lv_aload_n hx hb dX9_cutOne_27 rfl (lv_at hl 0 rfl) ?_
  refine k_get C hw 0 rfl rfl wiX9 7 (by decide) wfX9_34 rfl dX9_cutOne_28 ?_
  obtain ⟨g5, hf⟩ := gdi_r hf
  refine k_bald C hw 3 rfl g5 dX9_cutOne_31 ?_
  obtain ⟨o6, ho6, hf⟩ := bind_r hf
  refine k_callSi C hw (n := 1) (As := [.int (t_tape t_next.toNatClampNeg)]) (w1 := (wX9_cutOne dA Z ht ht_kinds ht_starts ht_values ht_words ht_tape t_last t_length t_next y2 y4 t_tape t_values t_kinds)) (wr := [(ht, .inr (9, [.ref ht_kinds, .ref ht_starts, .ref ht_values, .ref ht_words, .int t_last, .ref ht_tape, .int t_length, .int t_next])), (ht_starts, .inl (dA 0, 1201, .inl y2)), (ht_words, .inl (dA 4, 1201, .inr (.inr (.inr (.inr (fun i => we Z (y4 i))))))), (ht_tape, .inl (dA 2, 1240, .inl t_tape)), (ht_values, .inl (dA 0, 1201, .inl t_values)), (ht_kinds, .inl (dA 0, 1201, .inl t_kinds))]) [] [0, 1, 2, 3, 4, 5] [0, 1, 2, 3, 4, 5] rfl rfl (by decide) (by decide) (by decide) rfl (by decide) (qX9_isLetter l D dA  (t_tape t_next.toNatClampNeg) _ ho6) wlX9_50 wsX9_isLetter_t wnX9 wcX9_isLetter (by decide +kernel) ⟨Nat.le_trans (by decide) hR.1, Nat.le_trans (by decide) hR.2.1⟩ hR.2.2 rfl hl.1 (Nat.le_of_ble_eq_true rfl) dX9_cutOne_32 rfl (fun H locs hw => ?_)
  refine lv_if_ne (tgt := 53) hx hb dX9_cutOne_35 (by decide) (fun c7 => ?_) (fun c7 => ?_)
  · have hf := ite_f c7 hf
    exact tX9_cutOne_j53 C hz ht ht_kinds ht_starts ht_values ht_words ht_tape hR t_last t_length t_next y2 y4 t_tape t_values t_kinds N _ hf hK (lv_sub hl [0] rfl) hw
  · have hf := ite_t c7 hf
    refine lv_aload_n hx hb dX9_cutOne_38 rfl (lv_at hl 0 rfl) ?_
    refine k_get C hw 0 rfl rfl wiX9 5 (by decide) wfX9_37 rfl dX9_cutOne_39 ?_
    refine lv_aload_n hx hb dX9_cutOne_42 rfl (lv_at hl 0 rfl) ?_
    refine k_get C hw 0 rfl rfl wiX9 7 (by decide) wfX9_34 rfl dX9_cutOne_43 ?_
    obtain ⟨g9, hf⟩ := gdi_r hf
    refine k_bald C hw 3 rfl g9 dX9_cutOne_46 ?_
    obtain ⟨o10, ho10, hf⟩ := bind_r hf
    refine k_callSi C hw (n := 1) (As := [.int (t_tape t_next.toNatClampNeg)]) (w1 := (wX9_cutOne dA Z ht ht_kinds ht_starts ht_values ht_words ht_tape t_last t_length t_next y2 y4 t_tape t_values t_kinds)) (wr := [(ht, .inr (9, [.ref ht_kinds, .ref ht_starts, .ref ht_values, .ref ht_words, .int t_last, .ref ht_tape, .int t_length, .int t_next])), (ht_starts, .inl (dA 0, 1201, .inl y2)), (ht_words, .inl (dA 4, 1201, .inr (.inr (.inr (.inr (fun i => we Z (y4 i))))))), (ht_tape, .inl (dA 2, 1240, .inl t_tape)), (ht_values, .inl (dA 0, 1201, .inl t_values)), (ht_kinds, .inl (dA 0, 1201, .inl t_kinds))]) [] [0, 1, 2, 3, 4, 5] [0, 1, 2, 3, 4, 5] rfl rfl (by decide) (by decide) (by decide) rfl (by decide) (qX9_isDigit l D dA  (t_tape t_next.toNatClampNeg) _ ho10) wlX9_54 wsX9_isDigit_t wnX9 wcX9_isDigit (by decide +kernel) ⟨Nat.le_trans (by decide) hR.1, Nat.le_trans (by decide) hR.2.1⟩ hR.2.2 rfl hl.1 (Nat.le_of_ble_eq_true rfl) dX9_cutOne_47 rfl (fun H locs hw => ?_)
    refine lv_if_eq (tgt := 60) hx hb dX9_cutOne_50 (by decide) (fun c11 => ?_) (fun c11 => ?_)
    · have hf := ite_t c11 hf
      refine lv_aload_n hx hb dX9_cutOne_60 rfl (lv_at hl 0 rfl) ?_
      refine k_get C hw 0 rfl rfl wiX9 0 (by decide) wfX9_11 rfl dX9_cutOne_61 ?_
      refine lv_aload_n hx hb dX9_cutOne_64 rfl (lv_at hl 0 rfl) ?_
      refine k_get C hw 0 rfl rfl wiX9 4 (by decide) wfX9_27 rfl dX9_cutOne_65 ?_
      refine lv_aload_n hx hb dX9_cutOne_68 rfl (lv_at hl 0 rfl) ?_
      refine k_get C hw 0 rfl rfl wiX9 5 (by decide) wfX9_37 rfl dX9_cutOne_69 ?_
      refine lv_aload_n hx hb dX9_cutOne_72 rfl (lv_at hl 0 rfl) ?_
      refine k_get C hw 0 rfl rfl wiX9 7 (by decide) wfX9_34 rfl dX9_cutOne_73 ?_
      obtain ⟨g12, hf⟩ := gdi_r hf
      refine k_bald C hw 3 rfl g12 dX9_cutOne_76 ?_
      refine lv_bipush (v := (59 : Int32)) hx hb dX9_cutOne_77 (by decide) ?_
      refine lv_icmp_ne (tgt := 86) hx hb dX9_cutOne_79 (by decide) (fun c13 => ?_) (fun c13 => ?_)
      · have hf := ite_f c13 hf
        refine lv_iconst (v := (1 : Int32)) hx hb dX9_cutOne_86 (by decide) ?_
        exact tX9_cutOne_j87_t_kinds C hz ht ht_kinds ht_starts ht_values ht_words ht_tape hR t_last t_length t_next y2 y4 t_tape t_values t_kinds t_last (1 : Int32) N _ hf hK (lv_sub hl [0] rfl) hw
      · have hf := ite_t c13 hf
        refine lv_iconst (v := (2 : Int32)) hx hb dX9_cutOne_82 (by decide) ?_
        refine lv_goto (tgt := 87) hx hb dX9_cutOne_83 (by decide) ?_
        exact tX9_cutOne_j87_t_kinds C hz ht ht_kinds ht_starts ht_values ht_words ht_tape hR t_last t_length t_next y2 y4 t_tape t_values t_kinds t_last (2 : Int32) N _ hf hK (lv_sub hl [0] rfl) hw
    · have hf := ite_f c11 hf
      exact tX9_cutOne_j53 C hz ht ht_kinds ht_starts ht_values ht_words ht_tape hR t_last t_length t_next y2 y4 t_tape t_values t_kinds N _ hf hK (lv_sub hl [0] rfl) hw

/-! RingPlaces$Tokens.cut(I)V -/
abbrev wX9_cut (dA : Nat → ClassId) (Z : ZA) (ht ht_kinds ht_starts ht_values ht_words ht_tape : Nat) (t_last : Int32) (t_length : Int32) (t_next : Int32) (t_tape : (Nat → Int32)) (t_starts : (Nat → Int32)) (t_words : (Nat → Int32)) (t_values : (Nat → Int32)) (t_kinds : (Nat → Int32)) : va_W := [(ht, .inr (9, [.ref ht_kinds, .ref ht_starts, .ref ht_values, .ref ht_words, .int t_last, .ref ht_tape, .int t_length, .int t_next])), (ht_tape, .inl (dA 2, 1240, .inl t_tape)), (ht_starts, .inl (dA 0, 1201, .inl t_starts)), (ht_words, .inl (dA 4, 1201, .inr (.inr (.inr (.inr (fun i => we Z (t_words i))))))), (ht_values, .inl (dA 0, 1201, .inl t_values)), (ht_kinds, .inl (dA 0, 1201, .inl t_kinds))]
def fX9_cut_l34b (N : Nat) (t_length : Int32) (t_tape : (Nat → Int32)) (v2 : Int32) (t_last : Int32) (t_next : Int32) (t_starts : (Nat → Int32)) (t_words : (Nat → Int32)) (t_values : (Nat → Int32)) (t_kinds : (Nat → Int32)) : Option ((Int32 × Int32 × (Nat → Int32) × (Nat → Int32) × (Nat → Int32) × (Nat → Int32)) ⊕ (Int32 × Int32 × (Nat → Int32) × (Nat → Int32) × (Nat → Int32) × (Nat → Int32))) := (if v2 ≤ t_next then some (.inr (t_last, t_next, t_starts, t_words, t_values, t_kinds)) else (if (1200 : Int32) ≤ t_last then some (.inr (t_last, t_next, t_starts, t_words, t_values, t_kinds)) else gdi t_next 1240 ((if (t_tape t_next.toNatClampNeg) = (32 : Int32) then bnd (t_next + (1 : Int32)) fun x7 => some (.inl (t_last, x7, t_starts, t_words, t_values, t_kinds)) else gdi t_next 1240 ((if (t_tape t_next.toNatClampNeg) = (10 : Int32) then bnd (t_next + (1 : Int32)) fun x12 => some (.inl (t_last, x12, t_starts, t_words, t_values, t_kinds)) else (fX9_cutOne N t_last t_length t_next t_starts t_words t_tape t_values t_kinds ).bind fun o10 => bnd (t_last + (1 : Int32)) fun x11 => some (.inl (x11, o10.1, o10.2.1, o10.2.2.1, o10.2.2.2.1, o10.2.2.2.2))))))))
def fX9_cut (N : Nat) (t_last : Int32) (t_length : Int32) (t_next : Int32) (t_tape : (Nat → Int32)) (t_starts : (Nat → Int32)) (t_words : (Nat → Int32)) (t_values : (Nat → Int32)) (t_kinds : (Nat → Int32)) (x1_ : Int32) : Option (Int32 × Int32 × Int32 × (Nat → Int32) × (Nat → Int32) × (Nat → Int32) × (Nat → Int32)) := bnd (if (1240 : Int32) < x1_ then (1240 : Int32) else x1_) fun x1 => bnd (if (1200 : Int32) < x1 then (1200 : Int32) else x1) fun x2 => (itr (fun z => fX9_cut_l34b N x1 t_tape x2 z.1 z.2.1 z.2.2.1 z.2.2.2.1 z.2.2.2.2.1 z.2.2.2.2.2) N ((0 : Int32), (0 : Int32), t_starts, t_words, t_values, t_kinds)).bind fun q13 => gdi q13.1 1201 (bnd (upd q13.2.2.1 q13.1.toNatClampNeg x2) fun y15 => gdi q13.1 1201 (bnd (upd q13.2.2.2.2.2 q13.1.toNatClampNeg (0 : Int32)) fun y17 => gdi q13.1 1201 (bnd (upd q13.2.2.2.1 q13.1.toNatClampNeg (-1 : Int32)) fun y19 => some (q13.1, x1, q13.2.1, y15, y19, q13.2.2.2.2.1, y17))))
set_option maxHeartbeats 4000000 in
set_option maxRecDepth 100000 in
theorem tX9_cut_l34b {p : Program} {l : Launch} {e : Env} {R : Room} {s : State} {m : MethodId} {args : Array Value} {below : List Frame} {meth : Method} {c : Code} {D : va_G} {dA : Nat → ClassId} {w0 : va_W} {Q : State → Prop} {H : Heap} {locs : List Loc} {ls : Array Slot} {cells slots : Nat} {Z : ZA} (C : CX p s m args meth c cX9_cut 3 none RX9 D dA) (hz : SW Z (va_A w0 s.heap.size) s s.heap) (ht ht_kinds ht_starts ht_values ht_words ht_tape : Nat) (hR : 8 ≤ R.frames ∧ 206 ≤ R.locals ∧ cells ≤ R.cells ∧ slots ≤ R.slots)  (t_last : Int32) (t_length : Int32) (t_next : Int32) (t_tape : (Nat → Int32)) (t_starts : (Nat → Int32)) (t_words : (Nat → Int32)) (t_values : (Nat → Int32)) (t_kinds : (Nat → Int32)) (v2 : Int32) (N : Nat) (res : ((Int32 × Int32 × (Nat → Int32) × (Nat → Int32) × (Nat → Int32) × (Nat → Int32)) ⊕ (Int32 × Int32 × (Nat → Int32) × (Nat → Int32) × (Nat → Int32) × (Nat → Int32)))) (hf : fX9_cut_l34b N t_length t_tape v2 t_last t_next t_starts t_words t_values t_kinds = some res) (hK : Sum.elim (fun z => (∀ (H : Heap) (locs : List Loc) (ls : Array Slot), lv_has ls 3 [(0, .ref ht), (2, .int v2)] → St D w0 s (wX9_cut dA Z ht ht_kinds ht_starts ht_values ht_words ht_tape z.1 t_length z.2.1 t_tape z.2.2.1 z.2.2.2.1 z.2.2.2.2.1 z.2.2.2.2.2) H locs → W p l e R s m args below meth c H locs cells slots Q (F0 m 34 ls []))) (fun r => (∀ (H : Heap) (locs : List Loc) (ls : Array Slot), lv_has ls 3 [(0, .ref ht), (2, .int v2)] → St D w0 s (wX9_cut dA Z ht ht_kinds ht_starts ht_values ht_words ht_tape r.1 t_length r.2.1 t_tape r.2.2.1 r.2.2.2.1 r.2.2.2.2.1 r.2.2.2.2.2) H locs → W p l e R s m args below meth c H locs cells slots Q (F0 m 110 ls []))) res) (hl : lv_has ls 3 [(0, .ref ht), (2, .int v2)]) (hw : St D w0 s (wX9_cut dA Z ht ht_kinds ht_starts ht_values ht_words ht_tape t_last t_length t_next t_tape t_starts t_words t_values t_kinds) H locs) : W p l e R s m args below meth c H locs cells slots Q (F0 m 34 ls []) := by
  have hx := C.1
  have hb := C.2.1
  have hml := C.2.2.1
  have hown := C.2.2.2.1
  have hts := C.2.2.2.2.1
  unfold fX9_cut_l34b at hf
  refine lv_aload_n hx hb dX9_cut_34 rfl (lv_at hl 0 rfl) ?_
  refine k_get C hw 0 rfl rfl wiX9 7 (by decide) wfX9_34 rfl dX9_cut_35 ?_
  refine lv_iload_n hx hb dX9_cut_38 rfl (lv_at hl 1 rfl) ?_
  refine lv_icmp_ge (tgt := 110) hx hb dX9_cut_39 (by decide) (fun c3 => ?_) (fun c3 => ?_)
  · have hf := ite_t c3 hf
    obtain rfl := some_r hf
    exact hK _ _ _ (lv_sub hl [0, 1] rfl) hw
  · have hf := ite_f c3 hf
    refine lv_aload_n hx hb dX9_cut_42 rfl (lv_at hl 0 rfl) ?_
    refine k_get C hw 0 rfl rfl wiX9 4 (by decide) wfX9_27 rfl dX9_cut_43 ?_
    refine lv_sipush (v := (1200 : Int32)) hx hb dX9_cut_46 (by decide) ?_
    refine lv_icmp_ge (tgt := 110) hx hb dX9_cut_49 (by decide) (fun c4 => ?_) (fun c4 => ?_)
    · have hf := ite_t c4 hf
      obtain rfl := some_r hf
      exact hK _ _ _ (lv_sub hl [0, 1] rfl) hw
    · have hf := ite_f c4 hf
      refine lv_aload_n hx hb dX9_cut_52 rfl (lv_at hl 0 rfl) ?_
      refine k_get C hw 0 rfl rfl wiX9 5 (by decide) wfX9_37 rfl dX9_cut_53 ?_
      refine lv_aload_n hx hb dX9_cut_56 rfl (lv_at hl 0 rfl) ?_
      refine k_get C hw 0 rfl rfl wiX9 7 (by decide) wfX9_34 rfl dX9_cut_57 ?_
      obtain ⟨g5, hf⟩ := gdi_r hf
      refine k_bald C hw 1 rfl g5 dX9_cut_60 ?_
      refine lv_bipush (v := (32 : Int32)) hx hb dX9_cut_61 (by decide) ?_
      refine lv_icmp_eq (tgt := 80) hx hb dX9_cut_63 (by decide) (fun c6 => ?_) (fun c6 => ?_)
      · have hf := ite_t c6 hf
        refine lv_aload_n hx hb dX9_cut_80 rfl (lv_at hl 0 rfl) ?_
        refine lv_dup hx hb dX9_cut_81 rfl ?_
        refine k_get C hw 0 rfl rfl wiX9 7 (by decide) wfX9_34 rfl dX9_cut_82 ?_
        refine lv_iconst (v := (1 : Int32)) hx hb dX9_cut_85 (by decide) ?_
        refine lv_iadd hx hb dX9_cut_86 ?_
        refine lv_topi (fun x7 ex7 => ?_)
        have hf := bnd_r ex7 hf
        refine k_put C hw 0 rfl rfl wiX9 tyX9 tyX9_ok nmX9 7 (by decide) wfX9_34 rfl rfl rfl (Nat.le_of_ble_eq_true rfl) dX9_cut_87 (wX9_cut dA Z ht ht_kinds ht_starts ht_values ht_words ht_tape t_last t_length x7 t_tape t_starts t_words t_values t_kinds) rfl (fun H locs hw => ?_)
        refine lv_goto (tgt := 34) hx hb dX9_cut_90 (by decide) ?_
        obtain rfl := some_r hf
        exact hK _ _ _ (lv_sub hl [0, 1] rfl) hw
      · have hf := ite_f c6 hf
        refine lv_aload_n hx hb dX9_cut_66 rfl (lv_at hl 0 rfl) ?_
        refine k_get C hw 0 rfl rfl wiX9 5 (by decide) wfX9_37 rfl dX9_cut_67 ?_
        refine lv_aload_n hx hb dX9_cut_70 rfl (lv_at hl 0 rfl) ?_
        refine k_get C hw 0 rfl rfl wiX9 7 (by decide) wfX9_34 rfl dX9_cut_71 ?_
        obtain ⟨g8, hf⟩ := gdi_r hf
        refine k_bald C hw 1 rfl g8 dX9_cut_74 ?_
        refine lv_bipush (v := (10 : Int32)) hx hb dX9_cut_75 (by decide) ?_
        refine lv_icmp_ne (tgt := 93) hx hb dX9_cut_77 (by decide) (fun c9 => ?_) (fun c9 => ?_)
        · have hf := ite_f c9 hf
          refine lv_aload_n hx hb dX9_cut_93 rfl (lv_at hl 0 rfl) ?_
          obtain ⟨o10, ho10, hf⟩ := bind_r hf
          refine k_zcallVv C hw hz (n := 0) (As := []) (w1 := (wX9_cut dA Z ht ht_kinds ht_starts ht_values ht_words ht_tape t_last t_length o10.1 t_tape o10.2.1 o10.2.2.1 o10.2.2.2.1 o10.2.2.2.2)) (wr := []) [0, 2, 3, 1, 4, 5] [] [0, 3, 1, 2, 4, 5] rfl rfl (by decide) (by decide) (by decide) rfl (by decide) (qX9_cutOne l D dA Z ht ht_kinds ht_starts ht_values ht_words ht_tape t_last t_length t_next t_starts t_words t_tape t_values t_kinds  N _ ho10) wlX9_47 wmX9_cutOne wvX9_cutOne wnX9 wcX9_cutOne rfl (by decide +kernel) ⟨Nat.le_trans (by decide) hR.1, Nat.le_trans (by decide) hR.2.1⟩ hR.2.2 rfl 0 rfl rfl hl.1 (Nat.le_of_ble_eq_true rfl) dX9_cut_94 rfl (fun H locs hw => ?_)
          refine lv_aload_n hx hb dX9_cut_97 rfl (lv_at hl 0 rfl) ?_
          refine lv_dup hx hb dX9_cut_98 rfl ?_
          refine k_get C hw 0 rfl rfl wiX9 4 (by decide) wfX9_27 rfl dX9_cut_99 ?_
          refine lv_iconst (v := (1 : Int32)) hx hb dX9_cut_102 (by decide) ?_
          refine lv_iadd hx hb dX9_cut_103 ?_
          refine lv_topi (fun x11 ex11 => ?_)
          have hf := bnd_r ex11 hf
          refine k_put C hw 0 rfl rfl wiX9 tyX9 tyX9_ok nmX9 4 (by decide) wfX9_27 rfl rfl rfl (Nat.le_of_ble_eq_true rfl) dX9_cut_104 (wX9_cut dA Z ht ht_kinds ht_starts ht_values ht_words ht_tape x11 t_length o10.1 t_tape o10.2.1 o10.2.2.1 o10.2.2.2.1 o10.2.2.2.2) rfl (fun H locs hw => ?_)
          refine lv_goto (tgt := 34) hx hb dX9_cut_107 (by decide) ?_
          obtain rfl := some_r hf
          exact hK _ _ _ (lv_sub hl [0, 1] rfl) hw
        · have hf := ite_t c9 hf
          refine lv_aload_n hx hb dX9_cut_80 rfl (lv_at hl 0 rfl) ?_
          refine lv_dup hx hb dX9_cut_81 rfl ?_
          refine k_get C hw 0 rfl rfl wiX9 7 (by decide) wfX9_34 rfl dX9_cut_82 ?_
          refine lv_iconst (v := (1 : Int32)) hx hb dX9_cut_85 (by decide) ?_
          refine lv_iadd hx hb dX9_cut_86 ?_
          refine lv_topi (fun x12 ex12 => ?_)
          have hf := bnd_r ex12 hf
          refine k_put C hw 0 rfl rfl wiX9 tyX9 tyX9_ok nmX9 7 (by decide) wfX9_34 rfl rfl rfl (Nat.le_of_ble_eq_true rfl) dX9_cut_87 (wX9_cut dA Z ht ht_kinds ht_starts ht_values ht_words ht_tape t_last t_length x12 t_tape t_starts t_words t_values t_kinds) rfl (fun H locs hw => ?_)
          refine lv_goto (tgt := 34) hx hb dX9_cut_90 (by decide) ?_
          obtain rfl := some_r hf
          exact hK _ _ _ (lv_sub hl [0, 1] rfl) hw
set_option maxHeartbeats 4000000 in
theorem tX9_cut_l34 {p : Program} {l : Launch} {e : Env} {R : Room} {s : State} {m : MethodId} {args : Array Value} {below : List Frame} {meth : Method} {c : Code} {D : va_G} {dA : Nat → ClassId} {w0 : va_W} {Q : State → Prop} {H : Heap} {locs : List Loc} {ls : Array Slot} {cells slots : Nat} {Z : ZA} (C : CX p s m args meth c cX9_cut 3 none RX9 D dA) (hz : SW Z (va_A w0 s.heap.size) s s.heap) (ht ht_kinds ht_starts ht_values ht_words ht_tape : Nat) (hR : 8 ≤ R.frames ∧ 206 ≤ R.locals ∧ cells ≤ R.cells ∧ slots ≤ R.slots)  (t_last : Int32) (t_length : Int32) (t_next : Int32) (t_tape : (Nat → Int32)) (t_starts : (Nat → Int32)) (t_words : (Nat → Int32)) (t_values : (Nat → Int32)) (t_kinds : (Nat → Int32)) (v2 : Int32) (N n : Nat) (res : (Int32 × Int32 × (Nat → Int32) × (Nat → Int32) × (Nat → Int32) × (Nat → Int32))) (hf : itr (fun z => fX9_cut_l34b N t_length t_tape v2 z.1 z.2.1 z.2.2.1 z.2.2.2.1 z.2.2.2.2.1 z.2.2.2.2.2) n (t_last, t_next, t_starts, t_words, t_values, t_kinds) = some res) (hK : (∀ (H : Heap) (locs : List Loc) (ls : Array Slot), lv_has ls 3 [(0, .ref ht), (2, .int v2)] → St D w0 s (wX9_cut dA Z ht ht_kinds ht_starts ht_values ht_words ht_tape res.1 t_length res.2.1 t_tape res.2.2.1 res.2.2.2.1 res.2.2.2.2.1 res.2.2.2.2.2) H locs → W p l e R s m args below meth c H locs cells slots Q (F0 m 110 ls []))) (hl : lv_has ls 3 [(0, .ref ht), (2, .int v2)]) (hw : St D w0 s (wX9_cut dA Z ht ht_kinds ht_starts ht_values ht_words ht_tape t_last t_length t_next t_tape t_starts t_words t_values t_kinds) H locs) : W p l e R s m args below meth c H locs cells slots Q (F0 m 34 ls []) :=
  itr_W (P := fun (z : (Int32 × Int32 × (Nat → Int32) × (Nat → Int32) × (Nat → Int32) × (Nat → Int32))) => (∀ (H : Heap) (locs : List Loc) (ls : Array Slot), lv_has ls 3 [(0, .ref ht), (2, .int v2)] → St D w0 s (wX9_cut dA Z ht ht_kinds ht_starts ht_values ht_words ht_tape z.1 t_length z.2.1 t_tape z.2.2.1 z.2.2.2.1 z.2.2.2.2.1 z.2.2.2.2.2) H locs → W p l e R s m args below meth c H locs cells slots Q (F0 m 34 ls []))) (K := fun res => (∀ (H : Heap) (locs : List Loc) (ls : Array Slot), lv_has ls 3 [(0, .ref ht), (2, .int v2)] → St D w0 s (wX9_cut dA Z ht ht_kinds ht_starts ht_values ht_words ht_tape res.1 t_length res.2.1 t_tape res.2.2.1 res.2.2.2.1 res.2.2.2.2.1 res.2.2.2.2.2) H locs → W p l e R s m args below meth c H locs cells slots Q (F0 m 110 ls []))) (fun z r hf hK H locs ls hl hw => tX9_cut_l34b C hz ht ht_kinds ht_starts ht_values ht_words ht_tape hR z.1 t_length z.2.1 t_tape z.2.2.1 z.2.2.2.1 z.2.2.2.2.1 z.2.2.2.2.2 v2 N r hf (by cases r with
    | inl r => exact hK
    | inr r => exact hK) hl hw) n _ res hf hK H locs ls hl hw
set_option maxHeartbeats 4000000 in
set_option maxRecDepth 100000 in
theorem qX9_cut (l : Launch) (D : va_G) (dA : Nat → ClassId) (Z : ZA) (ht ht_kinds ht_starts ht_values ht_words ht_tape : Nat) (t_last : Int32) (t_length : Int32) (t_next : Int32) (t_tape : (Nat → Int32)) (t_starts : (Nat → Int32)) (t_words : (Nat → Int32)) (t_values : (Nat → Int32)) (t_kinds : (Nat → Int32)) (x1_ : Int32) (N : Nat) (o : Int32 × Int32 × Int32 × (Nat → Int32) × (Nat → Int32) × (Nat → Int32) × (Nat → Int32)) (hf : fX9_cut N t_last t_length t_next t_tape t_starts t_words t_values t_kinds x1_ = some o) : MvS l D dA Z yX9_cut (Cond.code yX9_cut cX9_cut 3 none :: wA) 8 206 [.ref ht, .int x1_] (wX9_cut dA Z ht ht_kinds ht_starts ht_values ht_words ht_tape t_last t_length t_next t_tape t_starts t_words t_values t_kinds) (wX9_cut dA Z ht ht_kinds ht_starts ht_values ht_words ht_tape o.1 o.2.1 o.2.2.1 t_tape o.2.2.2.1 o.2.2.2.2.1 o.2.2.2.2.2.1 o.2.2.2.2.2.2) := by
  intro sz
  refine M_ofS (cc := cX9_cut) (nL := 3) (ret := none) (own := RX9) (by decide +kernel) rfl (Nat.le_of_ble_eq_true rfl) ?_
  intro p e s m below meth c ls hsz C hw hz hl
  subst hsz
  have hR : 8 ≤ (rmm 8 206).frames ∧ 206 ≤ (rmm 8 206).locals ∧ 0 ≤ (rmm 8 206).cells ∧ 0 ≤ (rmm 8 206).slots := ⟨Nat.le_refl _, Nat.le_refl _, Nat.le_refl _, Nat.le_refl _⟩
  have hl : lv_has ls 3 [(0, .ref ht), (1, .int x1_)] := hl
  have hx := C.1
  have hb := C.2.1
  have hml := C.2.2.1
  have hown := C.2.2.2.1
  have hts := C.2.2.2.2.1
  have hK : ∀ (H : Heap) (locs : List Loc) (pc : Nat) (ls : Array Slot), decode cX9_cut pc = .ok (.return_, 1) → St D (wX9_cut dA Z ht ht_kinds ht_starts ht_values ht_words ht_tape t_last t_length t_next t_tape t_starts t_words t_values t_kinds) s (wX9_cut dA Z ht ht_kinds ht_starts ht_values ht_words ht_tape o.1 o.2.1 o.2.2.1 t_tape o.2.2.2.1 o.2.2.2.2.1 o.2.2.2.2.2.1 o.2.2.2.2.2.2) H locs → W p l e (rmm 8 206) s m [.ref ht, .int x1_].toArray below meth c H locs 0 0 (MQ below (Qv D (wX9_cut dA Z ht ht_kinds ht_starts ht_values ht_words ht_tape t_last t_length t_next t_tape t_starts t_words t_values t_kinds) (wX9_cut dA Z ht ht_kinds ht_starts ht_values ht_words ht_tape o.1 o.2.1 o.2.2.1 t_tape o.2.2.2.1 o.2.2.2.2.1 o.2.2.2.2.2.1 o.2.2.2.2.2.2) s.heap.size) [.ref ht, .int x1_].toArray s 0 0 (va_A (wX9_cut dA Z ht ht_kinds ht_starts ht_values ht_words ht_tape t_last t_length t_next t_tape t_starts t_words t_values t_kinds) s.heap.size)) (F0 m pc ls []) := fun H locs pc ls hd hw => k_vret C hw hd
  unfold fX9_cut at hf
  refine lv_aload_n hx hb dX9_cut_0 rfl (lv_at hl 0 rfl) ?_
  refine lv_iload_n hx hb dX9_cut_1 rfl (lv_at hl 1 rfl) ?_
  refine lv_aload_n hx hb dX9_cut_2 rfl (lv_at hl 0 rfl) ?_
  refine k_get C hw 0 rfl rfl wiX9 5 (by decide) wfX9_37 rfl dX9_cut_3 ?_
  refine k_alen C hw 1 2 rfl rfl (v := (1240 : Int32)) (by first | rfl | decide) dX9_cut_6 ?_
  refine va_mmin hx hb (hml.trans hl.1.symm) hown (hts _ wlX9_41) (hts _ wxsmin) (hts _ wxmi) (hts _ wxcmin) (Nat.le_trans (by decide) hR.1) (Nat.le_trans (Nat.le_of_ble_eq_true rfl) hR.2.1) hR.2.2.1 hR.2.2.2 dX9_cut_7 ?_
  refine lv_topi (fun x1 ex1 => ?_)
  have hf := bnd_r ex1 hf
  refine k_put C hw 0 rfl rfl wiX9 tyX9 tyX9_ok nmX9 6 (by decide) wfX9_31 rfl rfl rfl (Nat.le_of_ble_eq_true rfl) dX9_cut_10 (wX9_cut dA Z ht ht_kinds ht_starts ht_values ht_words ht_tape t_last x1 t_next t_tape t_starts t_words t_values t_kinds) rfl (fun H locs hw => ?_)
  refine lv_aload_n hx hb dX9_cut_13 rfl (lv_at hl 0 rfl) ?_
  refine k_get C hw 0 rfl rfl wiX9 6 (by decide) wfX9_31 rfl dX9_cut_14 ?_
  refine lv_sipush (v := (1200 : Int32)) hx hb dX9_cut_17 (by decide) ?_
  refine va_mmin hx hb (hml.trans hl.1.symm) hown (hts _ wlX9_41) (hts _ wxsmin) (hts _ wxmi) (hts _ wxcmin) (Nat.le_trans (by decide) hR.1) (Nat.le_trans (Nat.le_of_ble_eq_true rfl) hR.2.1) hR.2.2.1 hR.2.2.2 dX9_cut_20 ?_
  refine lv_topi (fun x2 ex2 => ?_)
  have hf := bnd_r ex2 hf
  refine lv_istore_n (lv' := [(2, .int x2), (0, .ref ht), (1, .int x1_)]) hx hb dX9_cut_23 rfl hl (by decide) rfl (fun ls hl => ?_)
  refine lv_aload_n hx hb dX9_cut_24 rfl (lv_at hl 1 rfl) ?_
  refine lv_iconst (v := (0 : Int32)) hx hb dX9_cut_25 (by decide) ?_
  refine k_put C hw 0 rfl rfl wiX9 tyX9 tyX9_ok nmX9 4 (by decide) wfX9_27 rfl rfl rfl (Nat.le_of_ble_eq_true rfl) dX9_cut_26 (wX9_cut dA Z ht ht_kinds ht_starts ht_values ht_words ht_tape (0 : Int32) x1 t_next t_tape t_starts t_words t_values t_kinds) rfl (fun H locs hw => ?_)
  refine lv_aload_n hx hb dX9_cut_29 rfl (lv_at hl 1 rfl) ?_
  refine lv_iconst (v := (0 : Int32)) hx hb dX9_cut_30 (by decide) ?_
  refine k_put C hw 0 rfl rfl wiX9 tyX9 tyX9_ok nmX9 7 (by decide) wfX9_34 rfl rfl rfl (Nat.le_of_ble_eq_true rfl) dX9_cut_31 (wX9_cut dA Z ht ht_kinds ht_starts ht_values ht_words ht_tape (0 : Int32) x1 (0 : Int32) t_tape t_starts t_words t_values t_kinds) rfl (fun H locs hw => ?_)
  obtain ⟨q13, hq13, hf⟩ := bind_r hf
  refine tX9_cut_l34 C hz ht ht_kinds ht_starts ht_values ht_words ht_tape hR (0 : Int32) x1 (0 : Int32) t_tape t_starts t_words t_values t_kinds x2 N _ _ hq13 ?_ (lv_sub hl [1, 0] rfl) hw
  intro H locs ls hl hw
  refine lv_aload_n hx hb dX9_cut_110 rfl (lv_at hl 0 rfl) ?_
  refine k_get C hw 0 rfl rfl wiX9 1 (by decide) wfX9_15 rfl dX9_cut_111 ?_
  refine lv_aload_n hx hb dX9_cut_114 rfl (lv_at hl 0 rfl) ?_
  refine k_get C hw 0 rfl rfl wiX9 4 (by decide) wfX9_27 rfl dX9_cut_115 ?_
  refine lv_iload_n hx hb dX9_cut_118 rfl (lv_at hl 1 rfl) ?_
  obtain ⟨g14, hf⟩ := gdi_r hf
  obtain ⟨y15, ey15⟩ : ∃ z : Nat → Int32, z = upd q13.2.2.1 q13.1.toNatClampNeg x2 := ⟨_, rfl⟩
  have hf := bnd_r ey15 hf
  refine k_iast C hw 2 rfl g14 dX9_cut_119 y15 ey15 (wX9_cut dA Z ht ht_kinds ht_starts ht_values ht_words ht_tape q13.1 x1 q13.2.1 t_tape y15 q13.2.2.2.1 q13.2.2.2.2.1 q13.2.2.2.2.2) rfl (fun H locs hw => ?_)
  refine lv_aload_n hx hb dX9_cut_120 rfl (lv_at hl 0 rfl) ?_
  refine k_get C hw 0 rfl rfl wiX9 0 (by decide) wfX9_11 rfl dX9_cut_121 ?_
  refine lv_aload_n hx hb dX9_cut_124 rfl (lv_at hl 0 rfl) ?_
  refine k_get C hw 0 rfl rfl wiX9 4 (by decide) wfX9_27 rfl dX9_cut_125 ?_
  refine lv_iconst (v := (0 : Int32)) hx hb dX9_cut_128 (by decide) ?_
  obtain ⟨g16, hf⟩ := gdi_r hf
  obtain ⟨y17, ey17⟩ : ∃ z : Nat → Int32, z = upd q13.2.2.2.2.2 q13.1.toNatClampNeg (0 : Int32) := ⟨_, rfl⟩
  have hf := bnd_r ey17 hf
  refine k_iast C hw 5 rfl g16 dX9_cut_129 y17 ey17 (wX9_cut dA Z ht ht_kinds ht_starts ht_values ht_words ht_tape q13.1 x1 q13.2.1 t_tape y15 q13.2.2.2.1 q13.2.2.2.2.1 y17) rfl (fun H locs hw => ?_)
  refine lv_aload_n hx hb dX9_cut_130 rfl (lv_at hl 0 rfl) ?_
  refine k_get C hw 0 rfl rfl wiX9 3 (by decide) wfX9_23 rfl dX9_cut_131 ?_
  refine lv_aload_n hx hb dX9_cut_134 rfl (lv_at hl 0 rfl) ?_
  refine k_get C hw 0 rfl rfl wiX9 4 (by decide) wfX9_27 rfl dX9_cut_135 ?_
  refine kw_null (Z := Z) hx hb dX9_cut_138 ?_
  obtain ⟨g18, hf⟩ := gdi_r hf
  obtain ⟨y19, ey19⟩ : ∃ z : Nat → Int32, z = upd q13.2.2.2.1 q13.1.toNatClampNeg (-1 : Int32) := ⟨_, rfl⟩
  have hf := bnd_r ey19 hf
  refine kw_aast C hw hz 3 rfl (Or.inl rfl) g18 dX9_cut_139 y19 ey19 (wX9_cut dA Z ht ht_kinds ht_starts ht_values ht_words ht_tape q13.1 x1 q13.2.1 t_tape y15 y19 q13.2.2.2.2.1 y17) rfl (fun H locs hw => ?_)
  obtain rfl := some_r hf
  exact hK _ _ _ _ dX9_cut_140 hw
