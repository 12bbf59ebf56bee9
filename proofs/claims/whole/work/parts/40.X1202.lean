/-! RingPlacesModel.wordOf(I)J -/
abbrev wX12_wordOf (dA : Nat → ClassId)   : va_W := []
def fX12_wordOf  (x0_ : Int32) : Option (Int64) := (if x0_ = (0 : Int32) then (fX12_spelt  (108 : Int32) (97 : Int32) (110 : Int32) (100 : Int32)).bind fun o2 => some o2 else (if x0_ = (1 : Int32) then (fX12_spelt  (116 : Int32) (104 : Int32) (105 : Int32) (110 : Int32)).bind fun o4 => (fX12_on  o4 (103 : Int32) (0 : Int32)).bind fun o5 => some o5 else (if x0_ = (2 : Int32) then (fX12_spelt  (97 : Int32) (112 : Int32) (97 : Int32) (114 : Int32)).bind fun o7 => (fX12_on  o7 (116 : Int32) (0 : Int32)).bind fun o8 => some o8 else (if x0_ = (3 : Int32) then (fX12_spelt  (112 : Int32) (108 : Int32) (97 : Int32) (99 : Int32)).bind fun o10 => (fX12_on  o10 (101 : Int32) (0 : Int32)).bind fun o11 => some o11 else (if x0_ = (4 : Int32) then (fX12_spelt  (102 : Int32) (105 : Int32) (114 : Int32) (115 : Int32)).bind fun o13 => (fX12_on  o13 (116 : Int32) (0 : Int32)).bind fun o14 => some o14 else (if x0_ = (5 : Int32) then (fX12_spelt  (112 : Int32) (97 : Int32) (112 : Int32) (101 : Int32)).bind fun o16 => (fX12_on  o16 (114 : Int32) (0 : Int32)).bind fun o17 => some o17 else (if x0_ = (6 : Int32) then (fX12_spelt  (110 : Int32) (97 : Int32) (114 : Int32) (114 : Int32)).bind fun o19 => (fX12_on  o19 (111 : Int32) (119 : Int32)).bind fun o20 => some o20 else (if x0_ = (7 : Int32) then (fX12_spelt  (103 : Int32) (114 : Int32) (111 : Int32) (117 : Int32)).bind fun o22 => (fX12_on  o22 (110 : Int32) (100 : Int32)).bind fun o23 => some o23 else (if x0_ = (8 : Int32) then (fX12_spelt  (118 : Int32) (111 : Int32) (105 : Int32) (99 : Int32)).bind fun o25 => (fX12_on  o25 (101 : Int32) (0 : Int32)).bind fun o26 => some o26 else (if x0_ = (9 : Int32) then (fX12_spelt  (108 : Int32) (111 : Int32) (117 : Int32) (100 : Int32)).bind fun o28 => some o28 else (if x0_ = (10 : Int32) then (fX12_spelt  (115 : Int32) (104 : Int32) (97 : Int32) (114 : Int32)).bind fun o30 => (fX12_on  o30 (112 : Int32) (0 : Int32)).bind fun o31 => some o31 else (if x0_ = (11 : Int32) then (fX12_spelt  (98 : Int32) (101 : Int32) (97 : Int32) (114 : Int32)).bind fun o33 => some o33 else (if x0_ = (12 : Int32) then (fX12_spelt  (119 : Int32) (111 : Int32) (114 : Int32) (116 : Int32)).bind fun o35 => (fX12_on  o35 (104 : Int32) (0 : Int32)).bind fun o36 => some o36 else (if x0_ = (13 : Int32) then (fX12_spelt  (100 : Int32) (101 : Int32) (97 : Int32) (100 : Int32)).bind fun o38 => some o38 else (fX12_spelt  (116 : Int32) (104 : Int32) (101 : Int32) (114 : Int32)).bind fun o39 => (fX12_on  o39 (101 : Int32) (0 : Int32)).bind fun o40 => some o40))))))))))))))
set_option maxHeartbeats 4000000 in
set_option maxRecDepth 100000 in
theorem qX12_wordOf (l : Launch) (D : va_G) (dA : Nat → ClassId)   (x0_ : Int32) (o : Int64) (hf : fX12_wordOf x0_ = some o) : Ml l D dA yX12_wordOf (Cond.code yX12_wordOf cX12_wordOf 1 (some .long) :: wA) 1 25 [.int x0_] (wX12_wordOf dA ) (wX12_wordOf dA ) o := by
  intro sz
  refine M_of (cc := cX12_wordOf) (nL := 1) (ret := (some .long)) (own := RX12) (by decide +kernel) rfl (Nat.le_of_ble_eq_true rfl) ?_
  intro p e s m below meth c ls hsz C hw hl
  subst hsz
  have hR : 1 ≤ (rmm 1 25).frames ∧ 25 ≤ (rmm 1 25).locals ∧ 0 ≤ (rmm 1 25).cells ∧ 0 ≤ (rmm 1 25).slots := ⟨Nat.le_refl _, Nat.le_refl _, Nat.le_refl _, Nat.le_refl _⟩
  have hl : lv_has ls 1 [(0, .int x0_)] := hl
  have hx := C.1
  have hb := C.2.1
  have hml := C.2.2.1
  have hown := C.2.2.2.1
  have hts := C.2.2.2.2.1
  have hK : ∀ (H : Heap) (locs : List Loc) (pc : Nat) (ls : Array Slot), decode cX12_wordOf pc = .ok (.lreturn, 1) → St D (wX12_wordOf dA ) s (wX12_wordOf dA ) H locs → W p l e (rmm 1 25) s m [.int x0_].toArray below meth c H locs 0 0 (MQ below (Ql D (wX12_wordOf dA ) (wX12_wordOf dA ) o s.heap.size) [.int x0_].toArray s 0 0 (va_A (wX12_wordOf dA ) s.heap.size)) (F0 m pc ls [.long o]) := fun H locs pc ls hd hw => k_lret C hw hd
  unfold fX12_wordOf at hf
  refine lv_iload_n hx hb dX12_wordOf_0 rfl (lv_at hl 0 rfl) ?_
  by_cases c1 : x0_ = (0 : Int32)
  · have hf := ite_t c1 hf
    refine lv_tableIn (off := 71) (tgt := 72) hx hb dX12_wordOf_1 (by rw [c1]; decide) (by rw [c1]; decide) (by rw [c1]; rfl) (by decide) ?_
    refine lv_bipush (v := (108 : Int32)) hx hb dX12_wordOf_72 (by decide) ?_
    refine lv_bipush (v := (97 : Int32)) hx hb dX12_wordOf_74 (by decide) ?_
    refine lv_bipush (v := (110 : Int32)) hx hb dX12_wordOf_76 (by decide) ?_
    refine lv_bipush (v := (100 : Int32)) hx hb dX12_wordOf_78 (by decide) ?_
    obtain ⟨o2, ho2, hf⟩ := bind_r hf
    refine k_callSl C hw (n := 4) (As := [.int (108 : Int32), .int (97 : Int32), .int (110 : Int32), .int (100 : Int32)]) (w1 := (wX12_wordOf dA )) (wr := []) [] [] [] rfl rfl (by decide) (by decide) (by decide) rfl (by decide) (qX12_spelt l D dA  (108 : Int32) (97 : Int32) (110 : Int32) (100 : Int32) _ ho2) wlX12_141 wsX12_spelt_t wnX12 wcX12_spelt (by decide +kernel) ⟨Nat.le_trans (by decide) hR.1, Nat.le_trans (by decide) hR.2.1⟩ hR.2.2 rfl hl.1 (Nat.le_of_ble_eq_true rfl) dX12_wordOf_80 rfl (fun H locs hw => ?_)
    obtain rfl := some_r hf
    exact hK _ _ _ _ dX12_wordOf_83 hw
  have hf := ite_f c1 hf
  by_cases c3 : x0_ = (1 : Int32)
  · have hf := ite_t c3 hf
    refine lv_tableIn (off := 83) (tgt := 84) hx hb dX12_wordOf_1 (by rw [c3]; decide) (by rw [c3]; decide) (by rw [c3]; rfl) (by decide) ?_
    refine lv_bipush (v := (116 : Int32)) hx hb dX12_wordOf_84 (by decide) ?_
    refine lv_bipush (v := (104 : Int32)) hx hb dX12_wordOf_86 (by decide) ?_
    refine lv_bipush (v := (105 : Int32)) hx hb dX12_wordOf_88 (by decide) ?_
    refine lv_bipush (v := (110 : Int32)) hx hb dX12_wordOf_90 (by decide) ?_
    obtain ⟨o4, ho4, hf⟩ := bind_r hf
    refine k_callSl C hw (n := 4) (As := [.int (116 : Int32), .int (104 : Int32), .int (105 : Int32), .int (110 : Int32)]) (w1 := (wX12_wordOf dA )) (wr := []) [] [] [] rfl rfl (by decide) (by decide) (by decide) rfl (by decide) (qX12_spelt l D dA  (116 : Int32) (104 : Int32) (105 : Int32) (110 : Int32) _ ho4) wlX12_141 wsX12_spelt_t wnX12 wcX12_spelt (by decide +kernel) ⟨Nat.le_trans (by decide) hR.1, Nat.le_trans (by decide) hR.2.1⟩ hR.2.2 rfl hl.1 (Nat.le_of_ble_eq_true rfl) dX12_wordOf_92 rfl (fun H locs hw => ?_)
    refine lv_bipush (v := (103 : Int32)) hx hb dX12_wordOf_95 (by decide) ?_
    refine lv_iconst (v := (0 : Int32)) hx hb dX12_wordOf_97 (by decide) ?_
    obtain ⟨o5, ho5, hf⟩ := bind_r hf
    refine k_callSl C hw (n := 3) (As := [.long o4, .int (103 : Int32), .int (0 : Int32)]) (w1 := (wX12_wordOf dA )) (wr := []) [] [] [] rfl rfl (by decide) (by decide) (by decide) rfl (by decide) (qX12_on l D dA  o4 (103 : Int32) (0 : Int32) _ ho5) wlX12_145 wsX12_on_t wnX12 wcX12_on (by decide +kernel) ⟨Nat.le_trans (by decide) hR.1, Nat.le_trans (by decide) hR.2.1⟩ hR.2.2 rfl hl.1 (Nat.le_of_ble_eq_true rfl) dX12_wordOf_98 rfl (fun H locs hw => ?_)
    obtain rfl := some_r hf
    exact hK _ _ _ _ dX12_wordOf_101 hw
  have hf := ite_f c3 hf
  by_cases c6 : x0_ = (2 : Int32)
  · have hf := ite_t c6 hf
    refine lv_tableIn (off := 101) (tgt := 102) hx hb dX12_wordOf_1 (by rw [c6]; decide) (by rw [c6]; decide) (by rw [c6]; rfl) (by decide) ?_
    refine lv_bipush (v := (97 : Int32)) hx hb dX12_wordOf_102 (by decide) ?_
    refine lv_bipush (v := (112 : Int32)) hx hb dX12_wordOf_104 (by decide) ?_
    refine lv_bipush (v := (97 : Int32)) hx hb dX12_wordOf_106 (by decide) ?_
    refine lv_bipush (v := (114 : Int32)) hx hb dX12_wordOf_108 (by decide) ?_
    obtain ⟨o7, ho7, hf⟩ := bind_r hf
    refine k_callSl C hw (n := 4) (As := [.int (97 : Int32), .int (112 : Int32), .int (97 : Int32), .int (114 : Int32)]) (w1 := (wX12_wordOf dA )) (wr := []) [] [] [] rfl rfl (by decide) (by decide) (by decide) rfl (by decide) (qX12_spelt l D dA  (97 : Int32) (112 : Int32) (97 : Int32) (114 : Int32) _ ho7) wlX12_141 wsX12_spelt_t wnX12 wcX12_spelt (by decide +kernel) ⟨Nat.le_trans (by decide) hR.1, Nat.le_trans (by decide) hR.2.1⟩ hR.2.2 rfl hl.1 (Nat.le_of_ble_eq_true rfl) dX12_wordOf_110 rfl (fun H locs hw => ?_)
    refine lv_bipush (v := (116 : Int32)) hx hb dX12_wordOf_113 (by decide) ?_
    refine lv_iconst (v := (0 : Int32)) hx hb dX12_wordOf_115 (by decide) ?_
    obtain ⟨o8, ho8, hf⟩ := bind_r hf
    refine k_callSl C hw (n := 3) (As := [.long o7, .int (116 : Int32), .int (0 : Int32)]) (w1 := (wX12_wordOf dA )) (wr := []) [] [] [] rfl rfl (by decide) (by decide) (by decide) rfl (by decide) (qX12_on l D dA  o7 (116 : Int32) (0 : Int32) _ ho8) wlX12_145 wsX12_on_t wnX12 wcX12_on (by decide +kernel) ⟨Nat.le_trans (by decide) hR.1, Nat.le_trans (by decide) hR.2.1⟩ hR.2.2 rfl hl.1 (Nat.le_of_ble_eq_true rfl) dX12_wordOf_116 rfl (fun H locs hw => ?_)
    obtain rfl := some_r hf
    exact hK _ _ _ _ dX12_wordOf_119 hw
  have hf := ite_f c6 hf
  by_cases c9 : x0_ = (3 : Int32)
  · have hf := ite_t c9 hf
    refine lv_tableIn (off := 119) (tgt := 120) hx hb dX12_wordOf_1 (by rw [c9]; decide) (by rw [c9]; decide) (by rw [c9]; rfl) (by decide) ?_
    refine lv_bipush (v := (112 : Int32)) hx hb dX12_wordOf_120 (by decide) ?_
    refine lv_bipush (v := (108 : Int32)) hx hb dX12_wordOf_122 (by decide) ?_
    refine lv_bipush (v := (97 : Int32)) hx hb dX12_wordOf_124 (by decide) ?_
    refine lv_bipush (v := (99 : Int32)) hx hb dX12_wordOf_126 (by decide) ?_
    obtain ⟨o10, ho10, hf⟩ := bind_r hf
    refine k_callSl C hw (n := 4) (As := [.int (112 : Int32), .int (108 : Int32), .int (97 : Int32), .int (99 : Int32)]) (w1 := (wX12_wordOf dA )) (wr := []) [] [] [] rfl rfl (by decide) (by decide) (by decide) rfl (by decide) (qX12_spelt l D dA  (112 : Int32) (108 : Int32) (97 : Int32) (99 : Int32) _ ho10) wlX12_141 wsX12_spelt_t wnX12 wcX12_spelt (by decide +kernel) ⟨Nat.le_trans (by decide) hR.1, Nat.le_trans (by decide) hR.2.1⟩ hR.2.2 rfl hl.1 (Nat.le_of_ble_eq_true rfl) dX12_wordOf_128 rfl (fun H locs hw => ?_)
    refine lv_bipush (v := (101 : Int32)) hx hb dX12_wordOf_131 (by decide) ?_
    refine lv_iconst (v := (0 : Int32)) hx hb dX12_wordOf_133 (by decide) ?_
    obtain ⟨o11, ho11, hf⟩ := bind_r hf
    refine k_callSl C hw (n := 3) (As := [.long o10, .int (101 : Int32), .int (0 : Int32)]) (w1 := (wX12_wordOf dA )) (wr := []) [] [] [] rfl rfl (by decide) (by decide) (by decide) rfl (by decide) (qX12_on l D dA  o10 (101 : Int32) (0 : Int32) _ ho11) wlX12_145 wsX12_on_t wnX12 wcX12_on (by decide +kernel) ⟨Nat.le_trans (by decide) hR.1, Nat.le_trans (by decide) hR.2.1⟩ hR.2.2 rfl hl.1 (Nat.le_of_ble_eq_true rfl) dX12_wordOf_134 rfl (fun H locs hw => ?_)
    obtain rfl := some_r hf
    exact hK _ _ _ _ dX12_wordOf_137 hw
  have hf := ite_f c9 hf
  by_cases c12 : x0_ = (4 : Int32)
  · have hf := ite_t c12 hf
    refine lv_tableIn (off := 137) (tgt := 138) hx hb dX12_wordOf_1 (by rw [c12]; decide) (by rw [c12]; decide) (by rw [c12]; rfl) (by decide) ?_
    refine lv_bipush (v := (102 : Int32)) hx hb dX12_wordOf_138 (by decide) ?_
    refine lv_bipush (v := (105 : Int32)) hx hb dX12_wordOf_140 (by decide) ?_
    refine lv_bipush (v := (114 : Int32)) hx hb dX12_wordOf_142 (by decide) ?_
    refine lv_bipush (v := (115 : Int32)) hx hb dX12_wordOf_144 (by decide) ?_
    obtain ⟨o13, ho13, hf⟩ := bind_r hf
    refine k_callSl C hw (n := 4) (As := [.int (102 : Int32), .int (105 : Int32), .int (114 : Int32), .int (115 : Int32)]) (w1 := (wX12_wordOf dA )) (wr := []) [] [] [] rfl rfl (by decide) (by decide) (by decide) rfl (by decide) (qX12_spelt l D dA  (102 : Int32) (105 : Int32) (114 : Int32) (115 : Int32) _ ho13) wlX12_141 wsX12_spelt_t wnX12 wcX12_spelt (by decide +kernel) ⟨Nat.le_trans (by decide) hR.1, Nat.le_trans (by decide) hR.2.1⟩ hR.2.2 rfl hl.1 (Nat.le_of_ble_eq_true rfl) dX12_wordOf_146 rfl (fun H locs hw => ?_)
    refine lv_bipush (v := (116 : Int32)) hx hb dX12_wordOf_149 (by decide) ?_
    refine lv_iconst (v := (0 : Int32)) hx hb dX12_wordOf_151 (by decide) ?_
    obtain ⟨o14, ho14, hf⟩ := bind_r hf
    refine k_callSl C hw (n := 3) (As := [.long o13, .int (116 : Int32), .int (0 : Int32)]) (w1 := (wX12_wordOf dA )) (wr := []) [] [] [] rfl rfl (by decide) (by decide) (by decide) rfl (by decide) (qX12_on l D dA  o13 (116 : Int32) (0 : Int32) _ ho14) wlX12_145 wsX12_on_t wnX12 wcX12_on (by decide +kernel) ⟨Nat.le_trans (by decide) hR.1, Nat.le_trans (by decide) hR.2.1⟩ hR.2.2 rfl hl.1 (Nat.le_of_ble_eq_true rfl) dX12_wordOf_152 rfl (fun H locs hw => ?_)
    obtain rfl := some_r hf
    exact hK _ _ _ _ dX12_wordOf_155 hw
  have hf := ite_f c12 hf
  by_cases c15 : x0_ = (5 : Int32)
  · have hf := ite_t c15 hf
    refine lv_tableIn (off := 155) (tgt := 156) hx hb dX12_wordOf_1 (by rw [c15]; decide) (by rw [c15]; decide) (by rw [c15]; rfl) (by decide) ?_
    refine lv_bipush (v := (112 : Int32)) hx hb dX12_wordOf_156 (by decide) ?_
    refine lv_bipush (v := (97 : Int32)) hx hb dX12_wordOf_158 (by decide) ?_
    refine lv_bipush (v := (112 : Int32)) hx hb dX12_wordOf_160 (by decide) ?_
    refine lv_bipush (v := (101 : Int32)) hx hb dX12_wordOf_162 (by decide) ?_
    obtain ⟨o16, ho16, hf⟩ := bind_r hf
    refine k_callSl C hw (n := 4) (As := [.int (112 : Int32), .int (97 : Int32), .int (112 : Int32), .int (101 : Int32)]) (w1 := (wX12_wordOf dA )) (wr := []) [] [] [] rfl rfl (by decide) (by decide) (by decide) rfl (by decide) (qX12_spelt l D dA  (112 : Int32) (97 : Int32) (112 : Int32) (101 : Int32) _ ho16) wlX12_141 wsX12_spelt_t wnX12 wcX12_spelt (by decide +kernel) ⟨Nat.le_trans (by decide) hR.1, Nat.le_trans (by decide) hR.2.1⟩ hR.2.2 rfl hl.1 (Nat.le_of_ble_eq_true rfl) dX12_wordOf_164 rfl (fun H locs hw => ?_)
    refine lv_bipush (v := (114 : Int32)) hx hb dX12_wordOf_167 (by decide) ?_
    refine lv_iconst (v := (0 : Int32)) hx hb dX12_wordOf_169 (by decide) ?_
    obtain ⟨o17, ho17, hf⟩ := bind_r hf
    refine k_callSl C hw (n := 3) (As := [.long o16, .int (114 : Int32), .int (0 : Int32)]) (w1 := (wX12_wordOf dA )) (wr := []) [] [] [] rfl rfl (by decide) (by decide) (by decide) rfl (by decide) (qX12_on l D dA  o16 (114 : Int32) (0 : Int32) _ ho17) wlX12_145 wsX12_on_t wnX12 wcX12_on (by decide +kernel) ⟨Nat.le_trans (by decide) hR.1, Nat.le_trans (by decide) hR.2.1⟩ hR.2.2 rfl hl.1 (Nat.le_of_ble_eq_true rfl) dX12_wordOf_170 rfl (fun H locs hw => ?_)
    obtain rfl := some_r hf
    exact hK _ _ _ _ dX12_wordOf_173 hw
  have hf := ite_f c15 hf
  by_cases c18 : x0_ = (6 : Int32)
  · have hf := ite_t c18 hf
    refine lv_tableIn (off := 173) (tgt := 174) hx hb dX12_wordOf_1 (by rw [c18]; decide) (by rw [c18]; decide) (by rw [c18]; rfl) (by decide) ?_
    refine lv_bipush (v := (110 : Int32)) hx hb dX12_wordOf_174 (by decide) ?_
    refine lv_bipush (v := (97 : Int32)) hx hb dX12_wordOf_176 (by decide) ?_
    refine lv_bipush (v := (114 : Int32)) hx hb dX12_wordOf_178 (by decide) ?_
    refine lv_bipush (v := (114 : Int32)) hx hb dX12_wordOf_180 (by decide) ?_
    obtain ⟨o19, ho19, hf⟩ := bind_r hf
    refine k_callSl C hw (n := 4) (As := [.int (110 : Int32), .int (97 : Int32), .int (114 : Int32), .int (114 : Int32)]) (w1 := (wX12_wordOf dA )) (wr := []) [] [] [] rfl rfl (by decide) (by decide) (by decide) rfl (by decide) (qX12_spelt l D dA  (110 : Int32) (97 : Int32) (114 : Int32) (114 : Int32) _ ho19) wlX12_141 wsX12_spelt_t wnX12 wcX12_spelt (by decide +kernel) ⟨Nat.le_trans (by decide) hR.1, Nat.le_trans (by decide) hR.2.1⟩ hR.2.2 rfl hl.1 (Nat.le_of_ble_eq_true rfl) dX12_wordOf_182 rfl (fun H locs hw => ?_)
    refine lv_bipush (v := (111 : Int32)) hx hb dX12_wordOf_185 (by decide) ?_
    refine lv_bipush (v := (119 : Int32)) hx hb dX12_wordOf_187 (by decide) ?_
    obtain ⟨o20, ho20, hf⟩ := bind_r hf
    refine k_callSl C hw (n := 3) (As := [.long o19, .int (111 : Int32), .int (119 : Int32)]) (w1 := (wX12_wordOf dA )) (wr := []) [] [] [] rfl rfl (by decide) (by decide) (by decide) rfl (by decide) (qX12_on l D dA  o19 (111 : Int32) (119 : Int32) _ ho20) wlX12_145 wsX12_on_t wnX12 wcX12_on (by decide +kernel) ⟨Nat.le_trans (by decide) hR.1, Nat.le_trans (by decide) hR.2.1⟩ hR.2.2 rfl hl.1 (Nat.le_of_ble_eq_true rfl) dX12_wordOf_189 rfl (fun H locs hw => ?_)
    obtain rfl := some_r hf
    exact hK _ _ _ _ dX12_wordOf_192 hw
  have hf := ite_f c18 hf
  by_cases c21 : x0_ = (7 : Int32)
  · have hf := ite_t c21 hf
    refine lv_tableIn (off := 192) (tgt := 193) hx hb dX12_wordOf_1 (by rw [c21]; decide) (by rw [c21]; decide) (by rw [c21]; rfl) (by decide) ?_
    refine lv_bipush (v := (103 : Int32)) hx hb dX12_wordOf_193 (by decide) ?_
    refine lv_bipush (v := (114 : Int32)) hx hb dX12_wordOf_195 (by decide) ?_
    refine lv_bipush (v := (111 : Int32)) hx hb dX12_wordOf_197 (by decide) ?_
    refine lv_bipush (v := (117 : Int32)) hx hb dX12_wordOf_199 (by decide) ?_
    obtain ⟨o22, ho22, hf⟩ := bind_r hf
    refine k_callSl C hw (n := 4) (As := [.int (103 : Int32), .int (114 : Int32), .int (111 : Int32), .int (117 : Int32)]) (w1 := (wX12_wordOf dA )) (wr := []) [] [] [] rfl rfl (by decide) (by decide) (by decide) rfl (by decide) (qX12_spelt l D dA  (103 : Int32) (114 : Int32) (111 : Int32) (117 : Int32) _ ho22) wlX12_141 wsX12_spelt_t wnX12 wcX12_spelt (by decide +kernel) ⟨Nat.le_trans (by decide) hR.1, Nat.le_trans (by decide) hR.2.1⟩ hR.2.2 rfl hl.1 (Nat.le_of_ble_eq_true rfl) dX12_wordOf_201 rfl (fun H locs hw => ?_)
    refine lv_bipush (v := (110 : Int32)) hx hb dX12_wordOf_204 (by decide) ?_
    refine lv_bipush (v := (100 : Int32)) hx hb dX12_wordOf_206 (by decide) ?_
    obtain ⟨o23, ho23, hf⟩ := bind_r hf
    refine k_callSl C hw (n := 3) (As := [.long o22, .int (110 : Int32), .int (100 : Int32)]) (w1 := (wX12_wordOf dA )) (wr := []) [] [] [] rfl rfl (by decide) (by decide) (by decide) rfl (by decide) (qX12_on l D dA  o22 (110 : Int32) (100 : Int32) _ ho23) wlX12_145 wsX12_on_t wnX12 wcX12_on (by decide +kernel) ⟨Nat.le_trans (by decide) hR.1, Nat.le_trans (by decide) hR.2.1⟩ hR.2.2 rfl hl.1 (Nat.le_of_ble_eq_true rfl) dX12_wordOf_208 rfl (fun H locs hw => ?_)
    obtain rfl := some_r hf
    exact hK _ _ _ _ dX12_wordOf_211 hw
  have hf := ite_f c21 hf
  by_cases c24 : x0_ = (8 : Int32)
  · have hf := ite_t c24 hf
    refine lv_tableIn (off := 211) (tgt := 212) hx hb dX12_wordOf_1 (by rw [c24]; decide) (by rw [c24]; decide) (by rw [c24]; rfl) (by decide) ?_
    refine lv_bipush (v := (118 : Int32)) hx hb dX12_wordOf_212 (by decide) ?_
    refine lv_bipush (v := (111 : Int32)) hx hb dX12_wordOf_214 (by decide) ?_
    refine lv_bipush (v := (105 : Int32)) hx hb dX12_wordOf_216 (by decide) ?_
    refine lv_bipush (v := (99 : Int32)) hx hb dX12_wordOf_218 (by decide) ?_
    obtain ⟨o25, ho25, hf⟩ := bind_r hf
    refine k_callSl C hw (n := 4) (As := [.int (118 : Int32), .int (111 : Int32), .int (105 : Int32), .int (99 : Int32)]) (w1 := (wX12_wordOf dA )) (wr := []) [] [] [] rfl rfl (by decide) (by decide) (by decide) rfl (by decide) (qX12_spelt l D dA  (118 : Int32) (111 : Int32) (105 : Int32) (99 : Int32) _ ho25) wlX12_141 wsX12_spelt_t wnX12 wcX12_spelt (by decide +kernel) ⟨Nat.le_trans (by decide) hR.1, Nat.le_trans (by decide) hR.2.1⟩ hR.2.2 rfl hl.1 (Nat.le_of_ble_eq_true rfl) dX12_wordOf_220 rfl (fun H locs hw => ?_)
    refine lv_bipush (v := (101 : Int32)) hx hb dX12_wordOf_223 (by decide) ?_
    refine lv_iconst (v := (0 : Int32)) hx hb dX12_wordOf_225 (by decide) ?_
    obtain ⟨o26, ho26, hf⟩ := bind_r hf
    refine k_callSl C hw (n := 3) (As := [.long o25, .int (101 : Int32), .int (0 : Int32)]) (w1 := (wX12_wordOf dA )) (wr := []) [] [] [] rfl rfl (by decide) (by decide) (by decide) rfl (by decide) (qX12_on l D dA  o25 (101 : Int32) (0 : Int32) _ ho26) wlX12_145 wsX12_on_t wnX12 wcX12_on (by decide +kernel) ⟨Nat.le_trans (by decide) hR.1, Nat.le_trans (by decide) hR.2.1⟩ hR.2.2 rfl hl.1 (Nat.le_of_ble_eq_true rfl) dX12_wordOf_226 rfl (fun H locs hw => ?_)
    obtain rfl := some_r hf
    exact hK _ _ _ _ dX12_wordOf_229 hw
  have hf := ite_f c24 hf
  by_cases c27 : x0_ = (9 : Int32)
  · have hf := ite_t c27 hf
    refine lv_tableIn (off := 229) (tgt := 230) hx hb dX12_wordOf_1 (by rw [c27]; decide) (by rw [c27]; decide) (by rw [c27]; rfl) (by decide) ?_
    refine lv_bipush (v := (108 : Int32)) hx hb dX12_wordOf_230 (by decide) ?_
    refine lv_bipush (v := (111 : Int32)) hx hb dX12_wordOf_232 (by decide) ?_
    refine lv_bipush (v := (117 : Int32)) hx hb dX12_wordOf_234 (by decide) ?_
    refine lv_bipush (v := (100 : Int32)) hx hb dX12_wordOf_236 (by decide) ?_
    obtain ⟨o28, ho28, hf⟩ := bind_r hf
    refine k_callSl C hw (n := 4) (As := [.int (108 : Int32), .int (111 : Int32), .int (117 : Int32), .int (100 : Int32)]) (w1 := (wX12_wordOf dA )) (wr := []) [] [] [] rfl rfl (by decide) (by decide) (by decide) rfl (by decide) (qX12_spelt l D dA  (108 : Int32) (111 : Int32) (117 : Int32) (100 : Int32) _ ho28) wlX12_141 wsX12_spelt_t wnX12 wcX12_spelt (by decide +kernel) ⟨Nat.le_trans (by decide) hR.1, Nat.le_trans (by decide) hR.2.1⟩ hR.2.2 rfl hl.1 (Nat.le_of_ble_eq_true rfl) dX12_wordOf_238 rfl (fun H locs hw => ?_)
    obtain rfl := some_r hf
    exact hK _ _ _ _ dX12_wordOf_241 hw
  have hf := ite_f c27 hf
  by_cases c29 : x0_ = (10 : Int32)
  · have hf := ite_t c29 hf
    refine lv_tableIn (off := 241) (tgt := 242) hx hb dX12_wordOf_1 (by rw [c29]; decide) (by rw [c29]; decide) (by rw [c29]; rfl) (by decide) ?_
    refine lv_bipush (v := (115 : Int32)) hx hb dX12_wordOf_242 (by decide) ?_
    refine lv_bipush (v := (104 : Int32)) hx hb dX12_wordOf_244 (by decide) ?_
    refine lv_bipush (v := (97 : Int32)) hx hb dX12_wordOf_246 (by decide) ?_
    refine lv_bipush (v := (114 : Int32)) hx hb dX12_wordOf_248 (by decide) ?_
    obtain ⟨o30, ho30, hf⟩ := bind_r hf
    refine k_callSl C hw (n := 4) (As := [.int (115 : Int32), .int (104 : Int32), .int (97 : Int32), .int (114 : Int32)]) (w1 := (wX12_wordOf dA )) (wr := []) [] [] [] rfl rfl (by decide) (by decide) (by decide) rfl (by decide) (qX12_spelt l D dA  (115 : Int32) (104 : Int32) (97 : Int32) (114 : Int32) _ ho30) wlX12_141 wsX12_spelt_t wnX12 wcX12_spelt (by decide +kernel) ⟨Nat.le_trans (by decide) hR.1, Nat.le_trans (by decide) hR.2.1⟩ hR.2.2 rfl hl.1 (Nat.le_of_ble_eq_true rfl) dX12_wordOf_250 rfl (fun H locs hw => ?_)
    refine lv_bipush (v := (112 : Int32)) hx hb dX12_wordOf_253 (by decide) ?_
    refine lv_iconst (v := (0 : Int32)) hx hb dX12_wordOf_255 (by decide) ?_
    obtain ⟨o31, ho31, hf⟩ := bind_r hf
    refine k_callSl C hw (n := 3) (As := [.long o30, .int (112 : Int32), .int (0 : Int32)]) (w1 := (wX12_wordOf dA )) (wr := []) [] [] [] rfl rfl (by decide) (by decide) (by decide) rfl (by decide) (qX12_on l D dA  o30 (112 : Int32) (0 : Int32) _ ho31) wlX12_145 wsX12_on_t wnX12 wcX12_on (by decide +kernel) ⟨Nat.le_trans (by decide) hR.1, Nat.le_trans (by decide) hR.2.1⟩ hR.2.2 rfl hl.1 (Nat.le_of_ble_eq_true rfl) dX12_wordOf_256 rfl (fun H locs hw => ?_)
    obtain rfl := some_r hf
    exact hK _ _ _ _ dX12_wordOf_259 hw
  have hf := ite_f c29 hf
  by_cases c32 : x0_ = (11 : Int32)
  · have hf := ite_t c32 hf
    refine lv_tableIn (off := 259) (tgt := 260) hx hb dX12_wordOf_1 (by rw [c32]; decide) (by rw [c32]; decide) (by rw [c32]; rfl) (by decide) ?_
    refine lv_bipush (v := (98 : Int32)) hx hb dX12_wordOf_260 (by decide) ?_
    refine lv_bipush (v := (101 : Int32)) hx hb dX12_wordOf_262 (by decide) ?_
    refine lv_bipush (v := (97 : Int32)) hx hb dX12_wordOf_264 (by decide) ?_
    refine lv_bipush (v := (114 : Int32)) hx hb dX12_wordOf_266 (by decide) ?_
    obtain ⟨o33, ho33, hf⟩ := bind_r hf
    refine k_callSl C hw (n := 4) (As := [.int (98 : Int32), .int (101 : Int32), .int (97 : Int32), .int (114 : Int32)]) (w1 := (wX12_wordOf dA )) (wr := []) [] [] [] rfl rfl (by decide) (by decide) (by decide) rfl (by decide) (qX12_spelt l D dA  (98 : Int32) (101 : Int32) (97 : Int32) (114 : Int32) _ ho33) wlX12_141 wsX12_spelt_t wnX12 wcX12_spelt (by decide +kernel) ⟨Nat.le_trans (by decide) hR.1, Nat.le_trans (by decide) hR.2.1⟩ hR.2.2 rfl hl.1 (Nat.le_of_ble_eq_true rfl) dX12_wordOf_268 rfl (fun H locs hw => ?_)
    obtain rfl := some_r hf
    exact hK _ _ _ _ dX12_wordOf_271 hw
  have hf := ite_f c32 hf
  by_cases c34 : x0_ = (12 : Int32)
  · have hf := ite_t c34 hf
    refine lv_tableIn (off := 271) (tgt := 272) hx hb dX12_wordOf_1 (by rw [c34]; decide) (by rw [c34]; decide) (by rw [c34]; rfl) (by decide) ?_
    refine lv_bipush (v := (119 : Int32)) hx hb dX12_wordOf_272 (by decide) ?_
    refine lv_bipush (v := (111 : Int32)) hx hb dX12_wordOf_274 (by decide) ?_
    refine lv_bipush (v := (114 : Int32)) hx hb dX12_wordOf_276 (by decide) ?_
    refine lv_bipush (v := (116 : Int32)) hx hb dX12_wordOf_278 (by decide) ?_
    obtain ⟨o35, ho35, hf⟩ := bind_r hf
    refine k_callSl C hw (n := 4) (As := [.int (119 : Int32), .int (111 : Int32), .int (114 : Int32), .int (116 : Int32)]) (w1 := (wX12_wordOf dA )) (wr := []) [] [] [] rfl rfl (by decide) (by decide) (by decide) rfl (by decide) (qX12_spelt l D dA  (119 : Int32) (111 : Int32) (114 : Int32) (116 : Int32) _ ho35) wlX12_141 wsX12_spelt_t wnX12 wcX12_spelt (by decide +kernel) ⟨Nat.le_trans (by decide) hR.1, Nat.le_trans (by decide) hR.2.1⟩ hR.2.2 rfl hl.1 (Nat.le_of_ble_eq_true rfl) dX12_wordOf_280 rfl (fun H locs hw => ?_)
    refine lv_bipush (v := (104 : Int32)) hx hb dX12_wordOf_283 (by decide) ?_
    refine lv_iconst (v := (0 : Int32)) hx hb dX12_wordOf_285 (by decide) ?_
    obtain ⟨o36, ho36, hf⟩ := bind_r hf
    refine k_callSl C hw (n := 3) (As := [.long o35, .int (104 : Int32), .int (0 : Int32)]) (w1 := (wX12_wordOf dA )) (wr := []) [] [] [] rfl rfl (by decide) (by decide) (by decide) rfl (by decide) (qX12_on l D dA  o35 (104 : Int32) (0 : Int32) _ ho36) wlX12_145 wsX12_on_t wnX12 wcX12_on (by decide +kernel) ⟨Nat.le_trans (by decide) hR.1, Nat.le_trans (by decide) hR.2.1⟩ hR.2.2 rfl hl.1 (Nat.le_of_ble_eq_true rfl) dX12_wordOf_286 rfl (fun H locs hw => ?_)
    obtain rfl := some_r hf
    exact hK _ _ _ _ dX12_wordOf_289 hw
  have hf := ite_f c34 hf
  by_cases c37 : x0_ = (13 : Int32)
  · have hf := ite_t c37 hf
    refine lv_tableIn (off := 289) (tgt := 290) hx hb dX12_wordOf_1 (by rw [c37]; decide) (by rw [c37]; decide) (by rw [c37]; rfl) (by decide) ?_
    refine lv_bipush (v := (100 : Int32)) hx hb dX12_wordOf_290 (by decide) ?_
    refine lv_bipush (v := (101 : Int32)) hx hb dX12_wordOf_292 (by decide) ?_
    refine lv_bipush (v := (97 : Int32)) hx hb dX12_wordOf_294 (by decide) ?_
    refine lv_bipush (v := (100 : Int32)) hx hb dX12_wordOf_296 (by decide) ?_
    obtain ⟨o38, ho38, hf⟩ := bind_r hf
    refine k_callSl C hw (n := 4) (As := [.int (100 : Int32), .int (101 : Int32), .int (97 : Int32), .int (100 : Int32)]) (w1 := (wX12_wordOf dA )) (wr := []) [] [] [] rfl rfl (by decide) (by decide) (by decide) rfl (by decide) (qX12_spelt l D dA  (100 : Int32) (101 : Int32) (97 : Int32) (100 : Int32) _ ho38) wlX12_141 wsX12_spelt_t wnX12 wcX12_spelt (by decide +kernel) ⟨Nat.le_trans (by decide) hR.1, Nat.le_trans (by decide) hR.2.1⟩ hR.2.2 rfl hl.1 (Nat.le_of_ble_eq_true rfl) dX12_wordOf_298 rfl (fun H locs hw => ?_)
    obtain rfl := some_r hf
    exact hK _ _ _ _ dX12_wordOf_301 hw
  have hf := ite_f c37 hf
  refine lv_tableOut (tgt := 302) hx hb dX12_wordOf_1 (by have wc1 := lv_neT c1 (show (0 : Int32).toInt = 0 by decide); have wc3 := lv_neT c3 (show (1 : Int32).toInt = 1 by decide); have wc6 := lv_neT c6 (show (2 : Int32).toInt = 2 by decide); have wc9 := lv_neT c9 (show (3 : Int32).toInt = 3 by decide); have wc12 := lv_neT c12 (show (4 : Int32).toInt = 4 by decide); have wc15 := lv_neT c15 (show (5 : Int32).toInt = 5 by decide); have wc18 := lv_neT c18 (show (6 : Int32).toInt = 6 by decide); have wc21 := lv_neT c21 (show (7 : Int32).toInt = 7 by decide); have wc24 := lv_neT c24 (show (8 : Int32).toInt = 8 by decide); have wc27 := lv_neT c27 (show (9 : Int32).toInt = 9 by decide); have wc29 := lv_neT c29 (show (10 : Int32).toInt = 10 by decide); have wc32 := lv_neT c32 (show (11 : Int32).toInt = 11 by decide); have wc34 := lv_neT c34 (show (12 : Int32).toInt = 12 by decide); have wc37 := lv_neT c37 (show (13 : Int32).toInt = 13 by decide); omega) (by decide) ?_
  refine lv_bipush (v := (116 : Int32)) hx hb dX12_wordOf_302 (by decide) ?_
  refine lv_bipush (v := (104 : Int32)) hx hb dX12_wordOf_304 (by decide) ?_
  refine lv_bipush (v := (101 : Int32)) hx hb dX12_wordOf_306 (by decide) ?_
  refine lv_bipush (v := (114 : Int32)) hx hb dX12_wordOf_308 (by decide) ?_
  obtain ⟨o39, ho39, hf⟩ := bind_r hf
  refine k_callSl C hw (n := 4) (As := [.int (116 : Int32), .int (104 : Int32), .int (101 : Int32), .int (114 : Int32)]) (w1 := (wX12_wordOf dA )) (wr := []) [] [] [] rfl rfl (by decide) (by decide) (by decide) rfl (by decide) (qX12_spelt l D dA  (116 : Int32) (104 : Int32) (101 : Int32) (114 : Int32) _ ho39) wlX12_141 wsX12_spelt_t wnX12 wcX12_spelt (by decide +kernel) ⟨Nat.le_trans (by decide) hR.1, Nat.le_trans (by decide) hR.2.1⟩ hR.2.2 rfl hl.1 (Nat.le_of_ble_eq_true rfl) dX12_wordOf_310 rfl (fun H locs hw => ?_)
  refine lv_bipush (v := (101 : Int32)) hx hb dX12_wordOf_313 (by decide) ?_
  refine lv_iconst (v := (0 : Int32)) hx hb dX12_wordOf_315 (by decide) ?_
  obtain ⟨o40, ho40, hf⟩ := bind_r hf
  refine k_callSl C hw (n := 3) (As := [.long o39, .int (101 : Int32), .int (0 : Int32)]) (w1 := (wX12_wordOf dA )) (wr := []) [] [] [] rfl rfl (by decide) (by decide) (by decide) rfl (by decide) (qX12_on l D dA  o39 (101 : Int32) (0 : Int32) _ ho40) wlX12_145 wsX12_on_t wnX12 wcX12_on (by decide +kernel) ⟨Nat.le_trans (by decide) hR.1, Nat.le_trans (by decide) hR.2.1⟩ hR.2.2 rfl hl.1 (Nat.le_of_ble_eq_true rfl) dX12_wordOf_316 rfl (fun H locs hw => ?_)
  obtain rfl := some_r hf
  exact hK _ _ _ _ dX12_wordOf_319 hw

/-! RingPlacesModel.isWord(I)Z -/
abbrev wX12_isWord (dA : Nat → ClassId) (ht ht_tape ht_now ht_read ht_kept ht_ground ht_readGround ht_keptGround ht_name ht_isKept ht_louds ht_sharps ht_row ht_along ht_needs ht_best ht_order ht_shortRow ht_was ht_saved ht_next ht_fitted ht_beam ht_heardAhead ht_sharesMost ht_sharesMoved ht_nextMost ht_nextMoved : Nat) (t_thrown : Int32) (t_taped : Int32) (t_size : Int32) (t_to : Int32) (t_from : Int32) (t_kind : Int32) (t_number : Int32) (t_fault : Int32) (t_spot : Int32) (t_word : Int64) (t_told : Int32) (t_isBegun : Int32) (t_had : Int32) (t_rowMany : Int32) (t_least : Int32) (t_shortMany : Int32) (t_mostWorth : Int32) (t_fitMany : Int32) (t_narrowCost : Int32) : va_W := [(ht, .inr (12, [.int t_thrown, .ref ht_tape, .int t_taped, .int t_size, .int t_to, .int t_from, .int t_kind, .int t_number, .int t_fault, .int t_spot, .long t_word, .int t_told, .ref ht_now, .ref ht_read, .ref ht_kept, .ref ht_ground, .ref ht_readGround, .ref ht_keptGround, .ref ht_name, .ref ht_isKept, .int t_isBegun, .int t_had, .ref ht_louds, .ref ht_sharps, .ref ht_row, .ref ht_along, .ref ht_needs, .ref ht_best, .int t_rowMany, .ref ht_order, .ref ht_shortRow, .int t_least, .int t_shortMany, .ref ht_was, .ref ht_saved, .int t_mostWorth, .ref ht_next, .ref ht_fitted, .int t_fitMany, .int t_narrowCost, .ref ht_beam, .ref ht_heardAhead, .ref ht_sharesMost, .ref ht_sharesMoved, .ref ht_nextMost, .ref ht_nextMoved]))]
def fX12_isWord (t_kind : Int32) (t_word : Int64) (x1_ : Int32) : Option (Int32) := (if t_kind = (2 : Int32) then (fX12_wordOf  x1_).bind fun o2 => (if (lg_cmp t_word o2) = 0 then some (1 : Int32) else some (0 : Int32)) else some (0 : Int32))
set_option maxHeartbeats 4000000 in
set_option maxRecDepth 100000 in
theorem qX12_isWord (l : Launch) (D : va_G) (dA : Nat → ClassId) (ht ht_tape ht_now ht_read ht_kept ht_ground ht_readGround ht_keptGround ht_name ht_isKept ht_louds ht_sharps ht_row ht_along ht_needs ht_best ht_order ht_shortRow ht_was ht_saved ht_next ht_fitted ht_beam ht_heardAhead ht_sharesMost ht_sharesMoved ht_nextMost ht_nextMoved : Nat) (t_thrown : Int32) (t_taped : Int32) (t_size : Int32) (t_to : Int32) (t_from : Int32) (t_kind : Int32) (t_number : Int32) (t_fault : Int32) (t_spot : Int32) (t_word : Int64) (t_told : Int32) (t_isBegun : Int32) (t_had : Int32) (t_rowMany : Int32) (t_least : Int32) (t_shortMany : Int32) (t_mostWorth : Int32) (t_fitMany : Int32) (t_narrowCost : Int32) (x1_ : Int32) (o : Int32) (hf : fX12_isWord t_kind t_word x1_ = some o) : Mi l D dA yX12_isWord (Cond.code yX12_isWord cX12_isWord 2 (some .boolean) :: wA) 2 45 [.ref ht, .int x1_] (wX12_isWord dA ht ht_tape ht_now ht_read ht_kept ht_ground ht_readGround ht_keptGround ht_name ht_isKept ht_louds ht_sharps ht_row ht_along ht_needs ht_best ht_order ht_shortRow ht_was ht_saved ht_next ht_fitted ht_beam ht_heardAhead ht_sharesMost ht_sharesMoved ht_nextMost ht_nextMoved t_thrown t_taped t_size t_to t_from t_kind t_number t_fault t_spot t_word t_told t_isBegun t_had t_rowMany t_least t_shortMany t_mostWorth t_fitMany t_narrowCost) (wX12_isWord dA ht ht_tape ht_now ht_read ht_kept ht_ground ht_readGround ht_keptGround ht_name ht_isKept ht_louds ht_sharps ht_row ht_along ht_needs ht_best ht_order ht_shortRow ht_was ht_saved ht_next ht_fitted ht_beam ht_heardAhead ht_sharesMost ht_sharesMoved ht_nextMost ht_nextMoved t_thrown t_taped t_size t_to t_from t_kind t_number t_fault t_spot t_word t_told t_isBegun t_had t_rowMany t_least t_shortMany t_mostWorth t_fitMany t_narrowCost) o := by
  intro sz
  refine M_of (cc := cX12_isWord) (nL := 2) (ret := (some .boolean)) (own := RX12) (by decide +kernel) rfl (Nat.le_of_ble_eq_true rfl) ?_
  intro p e s m below meth c ls hsz C hw hl
  subst hsz
  have hR : 2 ≤ (rmm 2 45).frames ∧ 45 ≤ (rmm 2 45).locals ∧ 0 ≤ (rmm 2 45).cells ∧ 0 ≤ (rmm 2 45).slots := ⟨Nat.le_refl _, Nat.le_refl _, Nat.le_refl _, Nat.le_refl _⟩
  have hl : lv_has ls 2 [(0, .ref ht), (1, .int x1_)] := hl
  have hx := C.1
  have hb := C.2.1
  have hml := C.2.2.1
  have hown := C.2.2.2.1
  have hts := C.2.2.2.2.1
  have hK : ∀ (H : Heap) (locs : List Loc) (pc : Nat) (ls : Array Slot), (o = 0 ∨ o = 1) → decode cX12_isWord pc = .ok (.ireturn, 1) → St D (wX12_isWord dA ht ht_tape ht_now ht_read ht_kept ht_ground ht_readGround ht_keptGround ht_name ht_isKept ht_louds ht_sharps ht_row ht_along ht_needs ht_best ht_order ht_shortRow ht_was ht_saved ht_next ht_fitted ht_beam ht_heardAhead ht_sharesMost ht_sharesMoved ht_nextMost ht_nextMoved t_thrown t_taped t_size t_to t_from t_kind t_number t_fault t_spot t_word t_told t_isBegun t_had t_rowMany t_least t_shortMany t_mostWorth t_fitMany t_narrowCost) s (wX12_isWord dA ht ht_tape ht_now ht_read ht_kept ht_ground ht_readGround ht_keptGround ht_name ht_isKept ht_louds ht_sharps ht_row ht_along ht_needs ht_best ht_order ht_shortRow ht_was ht_saved ht_next ht_fitted ht_beam ht_heardAhead ht_sharesMost ht_sharesMoved ht_nextMost ht_nextMoved t_thrown t_taped t_size t_to t_from t_kind t_number t_fault t_spot t_word t_told t_isBegun t_had t_rowMany t_least t_shortMany t_mostWorth t_fitMany t_narrowCost) H locs → W p l e (rmm 2 45) s m [.ref ht, .int x1_].toArray below meth c H locs 0 0 (MQ below (Qi D (wX12_isWord dA ht ht_tape ht_now ht_read ht_kept ht_ground ht_readGround ht_keptGround ht_name ht_isKept ht_louds ht_sharps ht_row ht_along ht_needs ht_best ht_order ht_shortRow ht_was ht_saved ht_next ht_fitted ht_beam ht_heardAhead ht_sharesMost ht_sharesMoved ht_nextMost ht_nextMoved t_thrown t_taped t_size t_to t_from t_kind t_number t_fault t_spot t_word t_told t_isBegun t_had t_rowMany t_least t_shortMany t_mostWorth t_fitMany t_narrowCost) (wX12_isWord dA ht ht_tape ht_now ht_read ht_kept ht_ground ht_readGround ht_keptGround ht_name ht_isKept ht_louds ht_sharps ht_row ht_along ht_needs ht_best ht_order ht_shortRow ht_was ht_saved ht_next ht_fitted ht_beam ht_heardAhead ht_sharesMost ht_sharesMoved ht_nextMost ht_nextMoved t_thrown t_taped t_size t_to t_from t_kind t_number t_fault t_spot t_word t_told t_isBegun t_had t_rowMany t_least t_shortMany t_mostWorth t_fitMany t_narrowCost) o s.heap.size) [.ref ht, .int x1_].toArray s 0 0 (va_A (wX12_isWord dA ht ht_tape ht_now ht_read ht_kept ht_ground ht_readGround ht_keptGround ht_name ht_isKept ht_louds ht_sharps ht_row ht_along ht_needs ht_best ht_order ht_shortRow ht_was ht_saved ht_next ht_fitted ht_beam ht_heardAhead ht_sharesMost ht_sharesMoved ht_nextMost ht_nextMoved t_thrown t_taped t_size t_to t_from t_kind t_number t_fault t_spot t_word t_told t_isBegun t_had t_rowMany t_least t_shortMany t_mostWorth t_fitMany t_narrowCost) s.heap.size)) (F0 m pc ls [.int o]) := fun H locs pc ls hz hd hw => k_zret C hw hz hd
  unfold fX12_isWord at hf
  refine lv_aload_n hx hb dX12_isWord_0 rfl (lv_at hl 0 rfl) ?_
  refine k_get C hw 0 rfl rfl wiX12 6 (by decide) wfX12_116 rfl dX12_isWord_1 ?_
  refine lv_iconst (v := (2 : Int32)) hx hb dX12_isWord_4 (by decide) ?_
  refine lv_icmp_ne (tgt := 24) hx hb dX12_isWord_5 (by decide) (fun c1 => ?_) (fun c1 => ?_)
  · have hf := ite_f c1 hf
    refine lv_iconst (v := (0 : Int32)) hx hb dX12_isWord_24 (by decide) ?_
    obtain rfl := some_r hf
    exact hK _ _ _ _ (Or.inl rfl) dX12_isWord_25 hw
  · have hf := ite_t c1 hf
    refine lv_aload_n hx hb dX12_isWord_8 rfl (lv_at hl 0 rfl) ?_
    refine k_get C hw 0 rfl rfl wiX12 10 (by decide) wfX12_126 rfl dX12_isWord_9 ?_
    refine lv_iload_n hx hb dX12_isWord_12 rfl (lv_at hl 1 rfl) ?_
    obtain ⟨o2, ho2, hf⟩ := bind_r hf
    refine k_callSl C hw (n := 1) (As := [.int x1_]) (w1 := (wX12_isWord dA ht ht_tape ht_now ht_read ht_kept ht_ground ht_readGround ht_keptGround ht_name ht_isKept ht_louds ht_sharps ht_row ht_along ht_needs ht_best ht_order ht_shortRow ht_was ht_saved ht_next ht_fitted ht_beam ht_heardAhead ht_sharesMost ht_sharesMoved ht_nextMost ht_nextMoved t_thrown t_taped t_size t_to t_from t_kind t_number t_fault t_spot t_word t_told t_isBegun t_had t_rowMany t_least t_shortMany t_mostWorth t_fitMany t_narrowCost)) (wr := [(ht, .inr (12, [.int t_thrown, .ref ht_tape, .int t_taped, .int t_size, .int t_to, .int t_from, .int t_kind, .int t_number, .int t_fault, .int t_spot, .long t_word, .int t_told, .ref ht_now, .ref ht_read, .ref ht_kept, .ref ht_ground, .ref ht_readGround, .ref ht_keptGround, .ref ht_name, .ref ht_isKept, .int t_isBegun, .int t_had, .ref ht_louds, .ref ht_sharps, .ref ht_row, .ref ht_along, .ref ht_needs, .ref ht_best, .int t_rowMany, .ref ht_order, .ref ht_shortRow, .int t_least, .int t_shortMany, .ref ht_was, .ref ht_saved, .int t_mostWorth, .ref ht_next, .ref ht_fitted, .int t_fitMany, .int t_narrowCost, .ref ht_beam, .ref ht_heardAhead, .ref ht_sharesMost, .ref ht_sharesMoved, .ref ht_nextMost, .ref ht_nextMoved]))]) [] [0] [0] rfl rfl (by decide) (by decide) (by decide) rfl (by decide) (qX12_wordOf l D dA  x1_ _ ho2) wlX12_149 wsX12_wordOf_t wnX12 wcX12_wordOf (by decide +kernel) ⟨Nat.le_trans (by decide) hR.1, Nat.le_trans (by decide) hR.2.1⟩ hR.2.2 rfl hl.1 (Nat.le_of_ble_eq_true rfl) dX12_isWord_13 rfl (fun H locs hw => ?_)
    refine W.lcmp hx hb dX12_isWord_16 ?_
    refine lv_if_ne (tgt := 24) hx hb dX12_isWord_17 (by decide) (fun c3 => ?_) (fun c3 => ?_)
    · have hf := ite_f c3 hf
      refine lv_iconst (v := (0 : Int32)) hx hb dX12_isWord_24 (by decide) ?_
      obtain rfl := some_r hf
      exact hK _ _ _ _ (Or.inl rfl) dX12_isWord_25 hw
    · have hf := ite_t c3 hf
      refine lv_iconst (v := (1 : Int32)) hx hb dX12_isWord_20 (by decide) ?_
      refine lv_goto (tgt := 25) hx hb dX12_isWord_21 (by decide) ?_
      obtain rfl := some_r hf
      exact hK _ _ _ _ (Or.inr rfl) dX12_isWord_25 hw

/-! RingPlacesModel.isName()Z -/
abbrev wX12_isName (dA : Nat → ClassId) (ht ht_tape ht_now ht_read ht_kept ht_ground ht_readGround ht_keptGround ht_name ht_isKept ht_louds ht_sharps ht_row ht_along ht_needs ht_best ht_order ht_shortRow ht_was ht_saved ht_next ht_fitted ht_beam ht_heardAhead ht_sharesMost ht_sharesMoved ht_nextMost ht_nextMoved : Nat) (t_thrown : Int32) (t_taped : Int32) (t_size : Int32) (t_to : Int32) (t_from : Int32) (t_kind : Int32) (t_number : Int32) (t_fault : Int32) (t_spot : Int32) (t_word : Int64) (t_told : Int32) (t_isBegun : Int32) (t_had : Int32) (t_rowMany : Int32) (t_least : Int32) (t_shortMany : Int32) (t_mostWorth : Int32) (t_fitMany : Int32) (t_narrowCost : Int32) : va_W := [(ht, .inr (12, [.int t_thrown, .ref ht_tape, .int t_taped, .int t_size, .int t_to, .int t_from, .int t_kind, .int t_number, .int t_fault, .int t_spot, .long t_word, .int t_told, .ref ht_now, .ref ht_read, .ref ht_kept, .ref ht_ground, .ref ht_readGround, .ref ht_keptGround, .ref ht_name, .ref ht_isKept, .int t_isBegun, .int t_had, .ref ht_louds, .ref ht_sharps, .ref ht_row, .ref ht_along, .ref ht_needs, .ref ht_best, .int t_rowMany, .ref ht_order, .ref ht_shortRow, .int t_least, .int t_shortMany, .ref ht_was, .ref ht_saved, .int t_mostWorth, .ref ht_next, .ref ht_fitted, .int t_fitMany, .int t_narrowCost, .ref ht_beam, .ref ht_heardAhead, .ref ht_sharesMost, .ref ht_sharesMoved, .ref ht_nextMost, .ref ht_nextMoved]))]
def fX12_isName_l12b (N : Nat) (t_kind : Int32) (t_word : Int64) (v1 : Int32) : Option ((Int32) ⊕ ((Unit) ⊕ (Int32))) := (if (14 : Int32) < v1 then some (.inr (.inl ())) else (fX12_wordOf  v1).bind fun o3 => (if (lg_cmp t_word o3) = 0 then some (.inr (.inr (0 : Int32))) else bnd (v1 + (1 : Int32)) fun x5 => some (.inl x5)))
def fX12_isName (N : Nat) (t_kind : Int32) (t_word : Int64)  : Option (Int32) := (if t_kind = (2 : Int32) then (itr (fun z => fX12_isName_l12b N t_kind t_word z) N (0 : Int32)).bind fun q6 => Sum.elim (fun q6 => some (1 : Int32)) (fun q6 => some q6) q6 else some (0 : Int32))
set_option maxHeartbeats 4000000 in
set_option maxRecDepth 100000 in
theorem tX12_isName_l12b {p : Program} {l : Launch} {e : Env} {R : Room} {s : State} {m : MethodId} {args : Array Value} {below : List Frame} {meth : Method} {c : Code} {D : va_G} {dA : Nat → ClassId} {w0 : va_W} {Q : State → Prop} {H : Heap} {locs : List Loc} {ls : Array Slot} {cells slots : Nat} (C : CX p s m args meth c cX12_isName 2 (some .boolean) RX12 D dA) (ht ht_tape ht_now ht_read ht_kept ht_ground ht_readGround ht_keptGround ht_name ht_isKept ht_louds ht_sharps ht_row ht_along ht_needs ht_best ht_order ht_shortRow ht_was ht_saved ht_next ht_fitted ht_beam ht_heardAhead ht_sharesMost ht_sharesMoved ht_nextMost ht_nextMoved : Nat) (hR : 2 ≤ R.frames ∧ 45 ≤ R.locals ∧ cells ≤ R.cells ∧ slots ≤ R.slots)  (t_thrown : Int32) (t_taped : Int32) (t_size : Int32) (t_to : Int32) (t_from : Int32) (t_kind : Int32) (t_number : Int32) (t_fault : Int32) (t_spot : Int32) (t_word : Int64) (t_told : Int32) (t_isBegun : Int32) (t_had : Int32) (t_rowMany : Int32) (t_least : Int32) (t_shortMany : Int32) (t_mostWorth : Int32) (t_fitMany : Int32) (t_narrowCost : Int32) (v1 : Int32) (N : Nat) (res : ((Int32) ⊕ ((Unit) ⊕ (Int32)))) (hf : fX12_isName_l12b N t_kind t_word v1 = some res) (hK : Sum.elim (fun z => (∀ (H : Heap) (locs : List Loc) (ls : Array Slot), lv_has ls 2 [(0, .ref ht), (1, .int z)] → St D w0 s (wX12_isName dA ht ht_tape ht_now ht_read ht_kept ht_ground ht_readGround ht_keptGround ht_name ht_isKept ht_louds ht_sharps ht_row ht_along ht_needs ht_best ht_order ht_shortRow ht_was ht_saved ht_next ht_fitted ht_beam ht_heardAhead ht_sharesMost ht_sharesMoved ht_nextMost ht_nextMoved t_thrown t_taped t_size t_to t_from t_kind t_number t_fault t_spot t_word t_told t_isBegun t_had t_rowMany t_least t_shortMany t_mostWorth t_fitMany t_narrowCost) H locs → W p l e R s m args below meth c H locs cells slots Q (F0 m 12 ls []))) (fun r => Sum.elim (fun q => (∀ (H : Heap) (locs : List Loc) (ls : Array Slot), lv_has ls 2 [] → St D w0 s (wX12_isName dA ht ht_tape ht_now ht_read ht_kept ht_ground ht_readGround ht_keptGround ht_name ht_isKept ht_louds ht_sharps ht_row ht_along ht_needs ht_best ht_order ht_shortRow ht_was ht_saved ht_next ht_fitted ht_beam ht_heardAhead ht_sharesMost ht_sharesMoved ht_nextMost ht_nextMoved t_thrown t_taped t_size t_to t_from t_kind t_number t_fault t_spot t_word t_told t_isBegun t_had t_rowMany t_least t_shortMany t_mostWorth t_fitMany t_narrowCost) H locs → W p l e R s m args below meth c H locs cells slots Q (F0 m 38 ls []))) (fun o => (∀ (H : Heap) (locs : List Loc) (pc : Nat) (ls : Array Slot), (o = 0 ∨ o = 1) → decode cX12_isName pc = .ok (.ireturn, 1) → St D w0 s (wX12_isName dA ht ht_tape ht_now ht_read ht_kept ht_ground ht_readGround ht_keptGround ht_name ht_isKept ht_louds ht_sharps ht_row ht_along ht_needs ht_best ht_order ht_shortRow ht_was ht_saved ht_next ht_fitted ht_beam ht_heardAhead ht_sharesMost ht_sharesMoved ht_nextMost ht_nextMoved t_thrown t_taped t_size t_to t_from t_kind t_number t_fault t_spot t_word t_told t_isBegun t_had t_rowMany t_least t_shortMany t_mostWorth t_fitMany t_narrowCost) H locs → W p l e R s m args below meth c H locs cells slots Q (F0 m pc ls [.int o]))) r) res) (hl : lv_has ls 2 [(0, .ref ht), (1, .int v1)]) (hw : St D w0 s (wX12_isName dA ht ht_tape ht_now ht_read ht_kept ht_ground ht_readGround ht_keptGround ht_name ht_isKept ht_louds ht_sharps ht_row ht_along ht_needs ht_best ht_order ht_shortRow ht_was ht_saved ht_next ht_fitted ht_beam ht_heardAhead ht_sharesMost ht_sharesMoved ht_nextMost ht_nextMoved t_thrown t_taped t_size t_to t_from t_kind t_number t_fault t_spot t_word t_told t_isBegun t_had t_rowMany t_least t_shortMany t_mostWorth t_fitMany t_narrowCost) H locs) : W p l e R s m args below meth c H locs cells slots Q (F0 m 12 ls []) := by
  have hx := C.1
  have hb := C.2.1
  have hml := C.2.2.1
  have hown := C.2.2.2.1
  have hts := C.2.2.2.2.1
  unfold fX12_isName_l12b at hf
  refine lv_iload_n hx hb dX12_isName_12 rfl (lv_at hl 1 rfl) ?_
  refine lv_bipush (v := (14 : Int32)) hx hb dX12_isName_13 (by decide) ?_
  refine lv_icmp_gt (tgt := 38) hx hb dX12_isName_15 (by decide) (fun c2 => ?_) (fun c2 => ?_)
  · have hf := ite_t c2 hf
    obtain rfl := some_r hf
    exact hK _ _ _ (lv_sub hl [] rfl) hw
  · have hf := ite_f c2 hf
    refine lv_aload_n hx hb dX12_isName_18 rfl (lv_at hl 0 rfl) ?_
    refine k_get C hw 0 rfl rfl wiX12 10 (by decide) wfX12_126 rfl dX12_isName_19 ?_
    refine lv_iload_n hx hb dX12_isName_22 rfl (lv_at hl 1 rfl) ?_
    obtain ⟨o3, ho3, hf⟩ := bind_r hf
    refine k_callSl C hw (n := 1) (As := [.int v1]) (w1 := (wX12_isName dA ht ht_tape ht_now ht_read ht_kept ht_ground ht_readGround ht_keptGround ht_name ht_isKept ht_louds ht_sharps ht_row ht_along ht_needs ht_best ht_order ht_shortRow ht_was ht_saved ht_next ht_fitted ht_beam ht_heardAhead ht_sharesMost ht_sharesMoved ht_nextMost ht_nextMoved t_thrown t_taped t_size t_to t_from t_kind t_number t_fault t_spot t_word t_told t_isBegun t_had t_rowMany t_least t_shortMany t_mostWorth t_fitMany t_narrowCost)) (wr := [(ht, .inr (12, [.int t_thrown, .ref ht_tape, .int t_taped, .int t_size, .int t_to, .int t_from, .int t_kind, .int t_number, .int t_fault, .int t_spot, .long t_word, .int t_told, .ref ht_now, .ref ht_read, .ref ht_kept, .ref ht_ground, .ref ht_readGround, .ref ht_keptGround, .ref ht_name, .ref ht_isKept, .int t_isBegun, .int t_had, .ref ht_louds, .ref ht_sharps, .ref ht_row, .ref ht_along, .ref ht_needs, .ref ht_best, .int t_rowMany, .ref ht_order, .ref ht_shortRow, .int t_least, .int t_shortMany, .ref ht_was, .ref ht_saved, .int t_mostWorth, .ref ht_next, .ref ht_fitted, .int t_fitMany, .int t_narrowCost, .ref ht_beam, .ref ht_heardAhead, .ref ht_sharesMost, .ref ht_sharesMoved, .ref ht_nextMost, .ref ht_nextMoved]))]) [] [0] [0] rfl rfl (by decide) (by decide) (by decide) rfl (by decide) (qX12_wordOf l D dA  v1 _ ho3) wlX12_149 wsX12_wordOf_t wnX12 wcX12_wordOf (by decide +kernel) ⟨Nat.le_trans (by decide) hR.1, Nat.le_trans (by decide) hR.2.1⟩ hR.2.2 rfl hl.1 (Nat.le_of_ble_eq_true rfl) dX12_isName_23 rfl (fun H locs hw => ?_)
    refine W.lcmp hx hb dX12_isName_26 ?_
    refine lv_if_ne (tgt := 32) hx hb dX12_isName_27 (by decide) (fun c4 => ?_) (fun c4 => ?_)
    · have hf := ite_f c4 hf
      obtain ⟨x5, ex5⟩ : ∃ y : Int32, y = v1 + (1 : Int32) := ⟨_, rfl⟩
      have hf := bnd_r ex5 hf
      refine lv_iinc (v := x5) (lv' := [(1, .int x5), (0, .ref ht)]) hx hb dX12_isName_32 hl (k := 1) rfl (by rw [ex5]; rfl) (by decide) rfl (fun ls hl => ?_)
      refine lv_goto (tgt := 12) hx hb dX12_isName_35 (by decide) ?_
      obtain rfl := some_r hf
      exact hK _ _ _ (lv_sub hl [1, 0] rfl) hw
    · have hf := ite_t c4 hf
      refine lv_iconst (v := (0 : Int32)) hx hb dX12_isName_30 (by decide) ?_
      obtain rfl := some_r hf
      exact hK _ _ _ _ (Or.inl rfl) dX12_isName_31 hw
set_option maxHeartbeats 4000000 in
theorem tX12_isName_l12 {p : Program} {l : Launch} {e : Env} {R : Room} {s : State} {m : MethodId} {args : Array Value} {below : List Frame} {meth : Method} {c : Code} {D : va_G} {dA : Nat → ClassId} {w0 : va_W} {Q : State → Prop} {H : Heap} {locs : List Loc} {ls : Array Slot} {cells slots : Nat} (C : CX p s m args meth c cX12_isName 2 (some .boolean) RX12 D dA) (ht ht_tape ht_now ht_read ht_kept ht_ground ht_readGround ht_keptGround ht_name ht_isKept ht_louds ht_sharps ht_row ht_along ht_needs ht_best ht_order ht_shortRow ht_was ht_saved ht_next ht_fitted ht_beam ht_heardAhead ht_sharesMost ht_sharesMoved ht_nextMost ht_nextMoved : Nat) (hR : 2 ≤ R.frames ∧ 45 ≤ R.locals ∧ cells ≤ R.cells ∧ slots ≤ R.slots)  (t_thrown : Int32) (t_taped : Int32) (t_size : Int32) (t_to : Int32) (t_from : Int32) (t_kind : Int32) (t_number : Int32) (t_fault : Int32) (t_spot : Int32) (t_word : Int64) (t_told : Int32) (t_isBegun : Int32) (t_had : Int32) (t_rowMany : Int32) (t_least : Int32) (t_shortMany : Int32) (t_mostWorth : Int32) (t_fitMany : Int32) (t_narrowCost : Int32) (v1 : Int32) (N n : Nat) (res : ((Unit) ⊕ (Int32))) (hf : itr (fun z => fX12_isName_l12b N t_kind t_word z) n v1 = some res) (hK : Sum.elim (fun q => (∀ (H : Heap) (locs : List Loc) (ls : Array Slot), lv_has ls 2 [] → St D w0 s (wX12_isName dA ht ht_tape ht_now ht_read ht_kept ht_ground ht_readGround ht_keptGround ht_name ht_isKept ht_louds ht_sharps ht_row ht_along ht_needs ht_best ht_order ht_shortRow ht_was ht_saved ht_next ht_fitted ht_beam ht_heardAhead ht_sharesMost ht_sharesMoved ht_nextMost ht_nextMoved t_thrown t_taped t_size t_to t_from t_kind t_number t_fault t_spot t_word t_told t_isBegun t_had t_rowMany t_least t_shortMany t_mostWorth t_fitMany t_narrowCost) H locs → W p l e R s m args below meth c H locs cells slots Q (F0 m 38 ls []))) (fun o => (∀ (H : Heap) (locs : List Loc) (pc : Nat) (ls : Array Slot), (o = 0 ∨ o = 1) → decode cX12_isName pc = .ok (.ireturn, 1) → St D w0 s (wX12_isName dA ht ht_tape ht_now ht_read ht_kept ht_ground ht_readGround ht_keptGround ht_name ht_isKept ht_louds ht_sharps ht_row ht_along ht_needs ht_best ht_order ht_shortRow ht_was ht_saved ht_next ht_fitted ht_beam ht_heardAhead ht_sharesMost ht_sharesMoved ht_nextMost ht_nextMoved t_thrown t_taped t_size t_to t_from t_kind t_number t_fault t_spot t_word t_told t_isBegun t_had t_rowMany t_least t_shortMany t_mostWorth t_fitMany t_narrowCost) H locs → W p l e R s m args below meth c H locs cells slots Q (F0 m pc ls [.int o]))) res) (hl : lv_has ls 2 [(0, .ref ht), (1, .int v1)]) (hw : St D w0 s (wX12_isName dA ht ht_tape ht_now ht_read ht_kept ht_ground ht_readGround ht_keptGround ht_name ht_isKept ht_louds ht_sharps ht_row ht_along ht_needs ht_best ht_order ht_shortRow ht_was ht_saved ht_next ht_fitted ht_beam ht_heardAhead ht_sharesMost ht_sharesMoved ht_nextMost ht_nextMoved t_thrown t_taped t_size t_to t_from t_kind t_number t_fault t_spot t_word t_told t_isBegun t_had t_rowMany t_least t_shortMany t_mostWorth t_fitMany t_narrowCost) H locs) : W p l e R s m args below meth c H locs cells slots Q (F0 m 12 ls []) :=
  itr_W (P := fun (z : (Int32)) => (∀ (H : Heap) (locs : List Loc) (ls : Array Slot), lv_has ls 2 [(0, .ref ht), (1, .int z)] → St D w0 s (wX12_isName dA ht ht_tape ht_now ht_read ht_kept ht_ground ht_readGround ht_keptGround ht_name ht_isKept ht_louds ht_sharps ht_row ht_along ht_needs ht_best ht_order ht_shortRow ht_was ht_saved ht_next ht_fitted ht_beam ht_heardAhead ht_sharesMost ht_sharesMoved ht_nextMost ht_nextMoved t_thrown t_taped t_size t_to t_from t_kind t_number t_fault t_spot t_word t_told t_isBegun t_had t_rowMany t_least t_shortMany t_mostWorth t_fitMany t_narrowCost) H locs → W p l e R s m args below meth c H locs cells slots Q (F0 m 12 ls []))) (K := fun res => Sum.elim (fun q => (∀ (H : Heap) (locs : List Loc) (ls : Array Slot), lv_has ls 2 [] → St D w0 s (wX12_isName dA ht ht_tape ht_now ht_read ht_kept ht_ground ht_readGround ht_keptGround ht_name ht_isKept ht_louds ht_sharps ht_row ht_along ht_needs ht_best ht_order ht_shortRow ht_was ht_saved ht_next ht_fitted ht_beam ht_heardAhead ht_sharesMost ht_sharesMoved ht_nextMost ht_nextMoved t_thrown t_taped t_size t_to t_from t_kind t_number t_fault t_spot t_word t_told t_isBegun t_had t_rowMany t_least t_shortMany t_mostWorth t_fitMany t_narrowCost) H locs → W p l e R s m args below meth c H locs cells slots Q (F0 m 38 ls []))) (fun o => (∀ (H : Heap) (locs : List Loc) (pc : Nat) (ls : Array Slot), (o = 0 ∨ o = 1) → decode cX12_isName pc = .ok (.ireturn, 1) → St D w0 s (wX12_isName dA ht ht_tape ht_now ht_read ht_kept ht_ground ht_readGround ht_keptGround ht_name ht_isKept ht_louds ht_sharps ht_row ht_along ht_needs ht_best ht_order ht_shortRow ht_was ht_saved ht_next ht_fitted ht_beam ht_heardAhead ht_sharesMost ht_sharesMoved ht_nextMost ht_nextMoved t_thrown t_taped t_size t_to t_from t_kind t_number t_fault t_spot t_word t_told t_isBegun t_had t_rowMany t_least t_shortMany t_mostWorth t_fitMany t_narrowCost) H locs → W p l e R s m args below meth c H locs cells slots Q (F0 m pc ls [.int o]))) res) (fun z r hf hK H locs ls hl hw => tX12_isName_l12b C ht ht_tape ht_now ht_read ht_kept ht_ground ht_readGround ht_keptGround ht_name ht_isKept ht_louds ht_sharps ht_row ht_along ht_needs ht_best ht_order ht_shortRow ht_was ht_saved ht_next ht_fitted ht_beam ht_heardAhead ht_sharesMost ht_sharesMoved ht_nextMost ht_nextMoved hR t_thrown t_taped t_size t_to t_from t_kind t_number t_fault t_spot t_word t_told t_isBegun t_had t_rowMany t_least t_shortMany t_mostWorth t_fitMany t_narrowCost z N r hf (by cases r with
    | inl r => exact hK
    | inr r => exact hK) hl hw) n _ res hf hK H locs ls hl hw
set_option maxHeartbeats 4000000 in
set_option maxRecDepth 100000 in
theorem qX12_isName (l : Launch) (D : va_G) (dA : Nat → ClassId) (ht ht_tape ht_now ht_read ht_kept ht_ground ht_readGround ht_keptGround ht_name ht_isKept ht_louds ht_sharps ht_row ht_along ht_needs ht_best ht_order ht_shortRow ht_was ht_saved ht_next ht_fitted ht_beam ht_heardAhead ht_sharesMost ht_sharesMoved ht_nextMost ht_nextMoved : Nat) (t_thrown : Int32) (t_taped : Int32) (t_size : Int32) (t_to : Int32) (t_from : Int32) (t_kind : Int32) (t_number : Int32) (t_fault : Int32) (t_spot : Int32) (t_word : Int64) (t_told : Int32) (t_isBegun : Int32) (t_had : Int32) (t_rowMany : Int32) (t_least : Int32) (t_shortMany : Int32) (t_mostWorth : Int32) (t_fitMany : Int32) (t_narrowCost : Int32)  (N : Nat) (o : Int32) (hf : fX12_isName N t_kind t_word = some o) : Mi l D dA yX12_isName (Cond.code yX12_isName cX12_isName 2 (some .boolean) :: wA) 2 45 [.ref ht] (wX12_isName dA ht ht_tape ht_now ht_read ht_kept ht_ground ht_readGround ht_keptGround ht_name ht_isKept ht_louds ht_sharps ht_row ht_along ht_needs ht_best ht_order ht_shortRow ht_was ht_saved ht_next ht_fitted ht_beam ht_heardAhead ht_sharesMost ht_sharesMoved ht_nextMost ht_nextMoved t_thrown t_taped t_size t_to t_from t_kind t_number t_fault t_spot t_word t_told t_isBegun t_had t_rowMany t_least t_shortMany t_mostWorth t_fitMany t_narrowCost) (wX12_isName dA ht ht_tape ht_now ht_read ht_kept ht_ground ht_readGround ht_keptGround ht_name ht_isKept ht_louds ht_sharps ht_row ht_along ht_needs ht_best ht_order ht_shortRow ht_was ht_saved ht_next ht_fitted ht_beam ht_heardAhead ht_sharesMost ht_sharesMoved ht_nextMost ht_nextMoved t_thrown t_taped t_size t_to t_from t_kind t_number t_fault t_spot t_word t_told t_isBegun t_had t_rowMany t_least t_shortMany t_mostWorth t_fitMany t_narrowCost) o := by
  intro sz
  refine M_of (cc := cX12_isName) (nL := 2) (ret := (some .boolean)) (own := RX12) (by decide +kernel) rfl (Nat.le_of_ble_eq_true rfl) ?_
  intro p e s m below meth c ls hsz C hw hl
  subst hsz
  have hR : 2 ≤ (rmm 2 45).frames ∧ 45 ≤ (rmm 2 45).locals ∧ 0 ≤ (rmm 2 45).cells ∧ 0 ≤ (rmm 2 45).slots := ⟨Nat.le_refl _, Nat.le_refl _, Nat.le_refl _, Nat.le_refl _⟩
  have hl : lv_has ls 2 [(0, .ref ht)] := hl
  have hx := C.1
  have hb := C.2.1
  have hml := C.2.2.1
  have hown := C.2.2.2.1
  have hts := C.2.2.2.2.1
  have hK : ∀ (H : Heap) (locs : List Loc) (pc : Nat) (ls : Array Slot), (o = 0 ∨ o = 1) → decode cX12_isName pc = .ok (.ireturn, 1) → St D (wX12_isName dA ht ht_tape ht_now ht_read ht_kept ht_ground ht_readGround ht_keptGround ht_name ht_isKept ht_louds ht_sharps ht_row ht_along ht_needs ht_best ht_order ht_shortRow ht_was ht_saved ht_next ht_fitted ht_beam ht_heardAhead ht_sharesMost ht_sharesMoved ht_nextMost ht_nextMoved t_thrown t_taped t_size t_to t_from t_kind t_number t_fault t_spot t_word t_told t_isBegun t_had t_rowMany t_least t_shortMany t_mostWorth t_fitMany t_narrowCost) s (wX12_isName dA ht ht_tape ht_now ht_read ht_kept ht_ground ht_readGround ht_keptGround ht_name ht_isKept ht_louds ht_sharps ht_row ht_along ht_needs ht_best ht_order ht_shortRow ht_was ht_saved ht_next ht_fitted ht_beam ht_heardAhead ht_sharesMost ht_sharesMoved ht_nextMost ht_nextMoved t_thrown t_taped t_size t_to t_from t_kind t_number t_fault t_spot t_word t_told t_isBegun t_had t_rowMany t_least t_shortMany t_mostWorth t_fitMany t_narrowCost) H locs → W p l e (rmm 2 45) s m [.ref ht].toArray below meth c H locs 0 0 (MQ below (Qi D (wX12_isName dA ht ht_tape ht_now ht_read ht_kept ht_ground ht_readGround ht_keptGround ht_name ht_isKept ht_louds ht_sharps ht_row ht_along ht_needs ht_best ht_order ht_shortRow ht_was ht_saved ht_next ht_fitted ht_beam ht_heardAhead ht_sharesMost ht_sharesMoved ht_nextMost ht_nextMoved t_thrown t_taped t_size t_to t_from t_kind t_number t_fault t_spot t_word t_told t_isBegun t_had t_rowMany t_least t_shortMany t_mostWorth t_fitMany t_narrowCost) (wX12_isName dA ht ht_tape ht_now ht_read ht_kept ht_ground ht_readGround ht_keptGround ht_name ht_isKept ht_louds ht_sharps ht_row ht_along ht_needs ht_best ht_order ht_shortRow ht_was ht_saved ht_next ht_fitted ht_beam ht_heardAhead ht_sharesMost ht_sharesMoved ht_nextMost ht_nextMoved t_thrown t_taped t_size t_to t_from t_kind t_number t_fault t_spot t_word t_told t_isBegun t_had t_rowMany t_least t_shortMany t_mostWorth t_fitMany t_narrowCost) o s.heap.size) [.ref ht].toArray s 0 0 (va_A (wX12_isName dA ht ht_tape ht_now ht_read ht_kept ht_ground ht_readGround ht_keptGround ht_name ht_isKept ht_louds ht_sharps ht_row ht_along ht_needs ht_best ht_order ht_shortRow ht_was ht_saved ht_next ht_fitted ht_beam ht_heardAhead ht_sharesMost ht_sharesMoved ht_nextMost ht_nextMoved t_thrown t_taped t_size t_to t_from t_kind t_number t_fault t_spot t_word t_told t_isBegun t_had t_rowMany t_least t_shortMany t_mostWorth t_fitMany t_narrowCost) s.heap.size)) (F0 m pc ls [.int o]) := fun H locs pc ls hz hd hw => k_zret C hw hz hd
  unfold fX12_isName at hf
  refine lv_aload_n hx hb dX12_isName_0 rfl (lv_at hl 0 rfl) ?_
  refine k_get C hw 0 rfl rfl wiX12 6 (by decide) wfX12_116 rfl dX12_isName_1 ?_
  refine lv_iconst (v := (2 : Int32)) hx hb dX12_isName_4 (by decide) ?_
  refine lv_icmp_eq (tgt := 10) hx hb dX12_isName_5 (by decide) (fun c1 => ?_) (fun c1 => ?_)
  · have hf := ite_t c1 hf
    refine lv_iconst (v := (0 : Int32)) hx hb dX12_isName_10 (by decide) ?_
    refine lv_istore_n (lv' := [(1, .int (0 : Int32)), (0, .ref ht)]) hx hb dX12_isName_11 rfl hl (by decide) rfl (fun ls hl => ?_)
    obtain ⟨q6, hq6, hf⟩ := bind_r hf
    cases q6 with
    | inl q6 =>
      refine tX12_isName_l12 C ht ht_tape ht_now ht_read ht_kept ht_ground ht_readGround ht_keptGround ht_name ht_isKept ht_louds ht_sharps ht_row ht_along ht_needs ht_best ht_order ht_shortRow ht_was ht_saved ht_next ht_fitted ht_beam ht_heardAhead ht_sharesMost ht_sharesMoved ht_nextMost ht_nextMoved hR t_thrown t_taped t_size t_to t_from t_kind t_number t_fault t_spot t_word t_told t_isBegun t_had t_rowMany t_least t_shortMany t_mostWorth t_fitMany t_narrowCost (0 : Int32) N _ _ hq6 ?_ (lv_sub hl [1, 0] rfl) hw
      have hf := elim_l hf
      intro H locs ls hl hw
      refine lv_iconst (v := (1 : Int32)) hx hb dX12_isName_38 (by decide) ?_
      obtain rfl := some_r hf
      exact hK _ _ _ _ (Or.inr rfl) dX12_isName_39 hw
    | inr q6 =>
      refine tX12_isName_l12 C ht ht_tape ht_now ht_read ht_kept ht_ground ht_readGround ht_keptGround ht_name ht_isKept ht_louds ht_sharps ht_row ht_along ht_needs ht_best ht_order ht_shortRow ht_was ht_saved ht_next ht_fitted ht_beam ht_heardAhead ht_sharesMost ht_sharesMoved ht_nextMost ht_nextMoved hR t_thrown t_taped t_size t_to t_from t_kind t_number t_fault t_spot t_word t_told t_isBegun t_had t_rowMany t_least t_shortMany t_mostWorth t_fitMany t_narrowCost (0 : Int32) N _ _ hq6 ?_ (lv_sub hl [1, 0] rfl) hw
      have hf := elim_r hf
      obtain rfl := some_r hf
      exact hK
  · have hf := ite_f c1 hf
    refine lv_iconst (v := (0 : Int32)) hx hb dX12_isName_8 (by decide) ?_
    obtain rfl := some_r hf
    exact hK _ _ _ _ (Or.inl rfl) dX12_isName_9 hw

/-! RingPlacesModel.bad(I)Z -/
abbrev wX12_bad (dA : Nat → ClassId) (ht ht_tape ht_now ht_read ht_kept ht_ground ht_readGround ht_keptGround ht_name ht_isKept ht_louds ht_sharps ht_row ht_along ht_needs ht_best ht_order ht_shortRow ht_was ht_saved ht_next ht_fitted ht_beam ht_heardAhead ht_sharesMost ht_sharesMoved ht_nextMost ht_nextMoved : Nat) (t_thrown : Int32) (t_taped : Int32) (t_size : Int32) (t_to : Int32) (t_from : Int32) (t_kind : Int32) (t_number : Int32) (t_fault : Int32) (t_spot : Int32) (t_word : Int64) (t_told : Int32) (t_isBegun : Int32) (t_had : Int32) (t_rowMany : Int32) (t_least : Int32) (t_shortMany : Int32) (t_mostWorth : Int32) (t_fitMany : Int32) (t_narrowCost : Int32) : va_W := [(ht, .inr (12, [.int t_thrown, .ref ht_tape, .int t_taped, .int t_size, .int t_to, .int t_from, .int t_kind, .int t_number, .int t_fault, .int t_spot, .long t_word, .int t_told, .ref ht_now, .ref ht_read, .ref ht_kept, .ref ht_ground, .ref ht_readGround, .ref ht_keptGround, .ref ht_name, .ref ht_isKept, .int t_isBegun, .int t_had, .ref ht_louds, .ref ht_sharps, .ref ht_row, .ref ht_along, .ref ht_needs, .ref ht_best, .int t_rowMany, .ref ht_order, .ref ht_shortRow, .int t_least, .int t_shortMany, .ref ht_was, .ref ht_saved, .int t_mostWorth, .ref ht_next, .ref ht_fitted, .int t_fitMany, .int t_narrowCost, .ref ht_beam, .ref ht_heardAhead, .ref ht_sharesMost, .ref ht_sharesMoved, .ref ht_nextMost, .ref ht_nextMoved]))]
def fX12_bad (t_from : Int32) (t_kind : Int32) (t_fault : Int32) (t_spot : Int32) (x1_ : Int32) : Option (Int32 × Int32 × Int32) := (if t_kind = (1 : Int32) then some ((1 : Int32), t_from, (0 : Int32)) else some (x1_, t_from, (0 : Int32)))
set_option maxHeartbeats 4000000 in
set_option maxRecDepth 100000 in
theorem qX12_bad (l : Launch) (D : va_G) (dA : Nat → ClassId) (ht ht_tape ht_now ht_read ht_kept ht_ground ht_readGround ht_keptGround ht_name ht_isKept ht_louds ht_sharps ht_row ht_along ht_needs ht_best ht_order ht_shortRow ht_was ht_saved ht_next ht_fitted ht_beam ht_heardAhead ht_sharesMost ht_sharesMoved ht_nextMost ht_nextMoved : Nat) (t_thrown : Int32) (t_taped : Int32) (t_size : Int32) (t_to : Int32) (t_from : Int32) (t_kind : Int32) (t_number : Int32) (t_fault : Int32) (t_spot : Int32) (t_word : Int64) (t_told : Int32) (t_isBegun : Int32) (t_had : Int32) (t_rowMany : Int32) (t_least : Int32) (t_shortMany : Int32) (t_mostWorth : Int32) (t_fitMany : Int32) (t_narrowCost : Int32) (x1_ : Int32) (o : Int32 × Int32 × Int32) (hf : fX12_bad t_from t_kind t_fault t_spot x1_ = some o) : Mi l D dA yX12_bad (Cond.code yX12_bad cX12_bad 2 (some .boolean) :: wA) 0 0 [.ref ht, .int x1_] (wX12_bad dA ht ht_tape ht_now ht_read ht_kept ht_ground ht_readGround ht_keptGround ht_name ht_isKept ht_louds ht_sharps ht_row ht_along ht_needs ht_best ht_order ht_shortRow ht_was ht_saved ht_next ht_fitted ht_beam ht_heardAhead ht_sharesMost ht_sharesMoved ht_nextMost ht_nextMoved t_thrown t_taped t_size t_to t_from t_kind t_number t_fault t_spot t_word t_told t_isBegun t_had t_rowMany t_least t_shortMany t_mostWorth t_fitMany t_narrowCost) (wX12_bad dA ht ht_tape ht_now ht_read ht_kept ht_ground ht_readGround ht_keptGround ht_name ht_isKept ht_louds ht_sharps ht_row ht_along ht_needs ht_best ht_order ht_shortRow ht_was ht_saved ht_next ht_fitted ht_beam ht_heardAhead ht_sharesMost ht_sharesMoved ht_nextMost ht_nextMoved t_thrown t_taped t_size t_to t_from t_kind t_number o.1 o.2.1 t_word t_told t_isBegun t_had t_rowMany t_least t_shortMany t_mostWorth t_fitMany t_narrowCost) o.2.2 := by
  intro sz
  refine M_of (cc := cX12_bad) (nL := 2) (ret := (some .boolean)) (own := RX12) (by decide +kernel) rfl (Nat.le_of_ble_eq_true rfl) ?_
  intro p e s m below meth c ls hsz C hw hl
  subst hsz
  have hR : 0 ≤ (rmm 0 0).frames ∧ 0 ≤ (rmm 0 0).locals ∧ 0 ≤ (rmm 0 0).cells ∧ 0 ≤ (rmm 0 0).slots := ⟨Nat.le_refl _, Nat.le_refl _, Nat.le_refl _, Nat.le_refl _⟩
  have hl : lv_has ls 2 [(0, .ref ht), (1, .int x1_)] := hl
  have hx := C.1
  have hb := C.2.1
  have hml := C.2.2.1
  have hown := C.2.2.2.1
  have hts := C.2.2.2.2.1
  have hK : ∀ (H : Heap) (locs : List Loc) (pc : Nat) (ls : Array Slot), (o.2.2 = 0 ∨ o.2.2 = 1) → decode cX12_bad pc = .ok (.ireturn, 1) → St D (wX12_bad dA ht ht_tape ht_now ht_read ht_kept ht_ground ht_readGround ht_keptGround ht_name ht_isKept ht_louds ht_sharps ht_row ht_along ht_needs ht_best ht_order ht_shortRow ht_was ht_saved ht_next ht_fitted ht_beam ht_heardAhead ht_sharesMost ht_sharesMoved ht_nextMost ht_nextMoved t_thrown t_taped t_size t_to t_from t_kind t_number t_fault t_spot t_word t_told t_isBegun t_had t_rowMany t_least t_shortMany t_mostWorth t_fitMany t_narrowCost) s (wX12_bad dA ht ht_tape ht_now ht_read ht_kept ht_ground ht_readGround ht_keptGround ht_name ht_isKept ht_louds ht_sharps ht_row ht_along ht_needs ht_best ht_order ht_shortRow ht_was ht_saved ht_next ht_fitted ht_beam ht_heardAhead ht_sharesMost ht_sharesMoved ht_nextMost ht_nextMoved t_thrown t_taped t_size t_to t_from t_kind t_number o.1 o.2.1 t_word t_told t_isBegun t_had t_rowMany t_least t_shortMany t_mostWorth t_fitMany t_narrowCost) H locs → W p l e (rmm 0 0) s m [.ref ht, .int x1_].toArray below meth c H locs 0 0 (MQ below (Qi D (wX12_bad dA ht ht_tape ht_now ht_read ht_kept ht_ground ht_readGround ht_keptGround ht_name ht_isKept ht_louds ht_sharps ht_row ht_along ht_needs ht_best ht_order ht_shortRow ht_was ht_saved ht_next ht_fitted ht_beam ht_heardAhead ht_sharesMost ht_sharesMoved ht_nextMost ht_nextMoved t_thrown t_taped t_size t_to t_from t_kind t_number t_fault t_spot t_word t_told t_isBegun t_had t_rowMany t_least t_shortMany t_mostWorth t_fitMany t_narrowCost) (wX12_bad dA ht ht_tape ht_now ht_read ht_kept ht_ground ht_readGround ht_keptGround ht_name ht_isKept ht_louds ht_sharps ht_row ht_along ht_needs ht_best ht_order ht_shortRow ht_was ht_saved ht_next ht_fitted ht_beam ht_heardAhead ht_sharesMost ht_sharesMoved ht_nextMost ht_nextMoved t_thrown t_taped t_size t_to t_from t_kind t_number o.1 o.2.1 t_word t_told t_isBegun t_had t_rowMany t_least t_shortMany t_mostWorth t_fitMany t_narrowCost) o.2.2 s.heap.size) [.ref ht, .int x1_].toArray s 0 0 (va_A (wX12_bad dA ht ht_tape ht_now ht_read ht_kept ht_ground ht_readGround ht_keptGround ht_name ht_isKept ht_louds ht_sharps ht_row ht_along ht_needs ht_best ht_order ht_shortRow ht_was ht_saved ht_next ht_fitted ht_beam ht_heardAhead ht_sharesMost ht_sharesMoved ht_nextMost ht_nextMoved t_thrown t_taped t_size t_to t_from t_kind t_number t_fault t_spot t_word t_told t_isBegun t_had t_rowMany t_least t_shortMany t_mostWorth t_fitMany t_narrowCost) s.heap.size)) (F0 m pc ls [.int o.2.2]) := fun H locs pc ls hz hd hw => k_zret C hw hz hd
  unfold fX12_bad at hf
  refine lv_aload_n hx hb dX12_bad_0 rfl (lv_at hl 0 rfl) ?_
  refine lv_aload_n hx hb dX12_bad_1 rfl (lv_at hl 0 rfl) ?_
  refine k_get C hw 0 rfl rfl wiX12 6 (by decide) wfX12_116 rfl dX12_bad_2 ?_
  refine lv_iconst (v := (1 : Int32)) hx hb dX12_bad_5 (by decide) ?_
  refine lv_icmp_ne (tgt := 13) hx hb dX12_bad_6 (by decide) (fun c1 => ?_) (fun c1 => ?_)
  · have hf := ite_f c1 hf
    refine lv_iload_n hx hb dX12_bad_13 rfl (lv_at hl 1 rfl) ?_
    refine k_put C hw 0 rfl rfl wiX12 tyX12 tyX12_ok nmX12 8 (by decide) wfX12_153 rfl rfl rfl (Nat.le_of_ble_eq_true rfl) dX12_bad_14 (wX12_bad dA ht ht_tape ht_now ht_read ht_kept ht_ground ht_readGround ht_keptGround ht_name ht_isKept ht_louds ht_sharps ht_row ht_along ht_needs ht_best ht_order ht_shortRow ht_was ht_saved ht_next ht_fitted ht_beam ht_heardAhead ht_sharesMost ht_sharesMoved ht_nextMost ht_nextMoved t_thrown t_taped t_size t_to t_from t_kind t_number x1_ t_spot t_word t_told t_isBegun t_had t_rowMany t_least t_shortMany t_mostWorth t_fitMany t_narrowCost) rfl (fun H locs hw => ?_)
    refine lv_aload_n hx hb dX12_bad_17 rfl (lv_at hl 0 rfl) ?_
    refine lv_aload_n hx hb dX12_bad_18 rfl (lv_at hl 0 rfl) ?_
    refine k_get C hw 0 rfl rfl wiX12 5 (by decide) wfX12_113 rfl dX12_bad_19 ?_
    refine k_put C hw 0 rfl rfl wiX12 tyX12 tyX12_ok nmX12 9 (by decide) wfX12_156 rfl rfl rfl (Nat.le_of_ble_eq_true rfl) dX12_bad_22 (wX12_bad dA ht ht_tape ht_now ht_read ht_kept ht_ground ht_readGround ht_keptGround ht_name ht_isKept ht_louds ht_sharps ht_row ht_along ht_needs ht_best ht_order ht_shortRow ht_was ht_saved ht_next ht_fitted ht_beam ht_heardAhead ht_sharesMost ht_sharesMoved ht_nextMost ht_nextMoved t_thrown t_taped t_size t_to t_from t_kind t_number x1_ t_from t_word t_told t_isBegun t_had t_rowMany t_least t_shortMany t_mostWorth t_fitMany t_narrowCost) rfl (fun H locs hw => ?_)
    refine lv_iconst (v := (0 : Int32)) hx hb dX12_bad_25 (by decide) ?_
    obtain rfl := some_r hf
    exact hK _ _ _ _ (Or.inl rfl) dX12_bad_26 hw
  · have hf := ite_t c1 hf
    refine lv_iconst (v := (1 : Int32)) hx hb dX12_bad_9 (by decide) ?_
    refine lv_goto (tgt := 14) hx hb dX12_bad_10 (by decide) ?_
    refine k_put C hw 0 rfl rfl wiX12 tyX12 tyX12_ok nmX12 8 (by decide) wfX12_153 rfl rfl rfl (Nat.le_of_ble_eq_true rfl) dX12_bad_14 (wX12_bad dA ht ht_tape ht_now ht_read ht_kept ht_ground ht_readGround ht_keptGround ht_name ht_isKept ht_louds ht_sharps ht_row ht_along ht_needs ht_best ht_order ht_shortRow ht_was ht_saved ht_next ht_fitted ht_beam ht_heardAhead ht_sharesMost ht_sharesMoved ht_nextMost ht_nextMoved t_thrown t_taped t_size t_to t_from t_kind t_number (1 : Int32) t_spot t_word t_told t_isBegun t_had t_rowMany t_least t_shortMany t_mostWorth t_fitMany t_narrowCost) rfl (fun H locs hw => ?_)
    refine lv_aload_n hx hb dX12_bad_17 rfl (lv_at hl 0 rfl) ?_
    refine lv_aload_n hx hb dX12_bad_18 rfl (lv_at hl 0 rfl) ?_
    refine k_get C hw 0 rfl rfl wiX12 5 (by decide) wfX12_113 rfl dX12_bad_19 ?_
    refine k_put C hw 0 rfl rfl wiX12 tyX12 tyX12_ok nmX12 9 (by decide) wfX12_156 rfl rfl rfl (Nat.le_of_ble_eq_true rfl) dX12_bad_22 (wX12_bad dA ht ht_tape ht_now ht_read ht_kept ht_ground ht_readGround ht_keptGround ht_name ht_isKept ht_louds ht_sharps ht_row ht_along ht_needs ht_best ht_order ht_shortRow ht_was ht_saved ht_next ht_fitted ht_beam ht_heardAhead ht_sharesMost ht_sharesMoved ht_nextMost ht_nextMoved t_thrown t_taped t_size t_to t_from t_kind t_number (1 : Int32) t_from t_word t_told t_isBegun t_had t_rowMany t_least t_shortMany t_mostWorth t_fitMany t_narrowCost) rfl (fun H locs hw => ?_)
    refine lv_iconst (v := (0 : Int32)) hx hb dX12_bad_25 (by decide) ?_
    obtain rfl := some_r hf
    exact hK _ _ _ _ (Or.inl rfl) dX12_bad_26 hw

/-! RingPlacesModel.readNumber(II)Z -/
abbrev wX12_readNumber (dA : Nat → ClassId) (ht ht_tape ht_now ht_read ht_kept ht_ground ht_readGround ht_keptGround ht_name ht_isKept ht_louds ht_sharps ht_row ht_along ht_needs ht_best ht_order ht_shortRow ht_was ht_saved ht_next ht_fitted ht_beam ht_heardAhead ht_sharesMost ht_sharesMoved ht_nextMost ht_nextMoved : Nat) (t_thrown : Int32) (t_taped : Int32) (t_size : Int32) (t_to : Int32) (t_from : Int32) (t_kind : Int32) (t_number : Int32) (t_fault : Int32) (t_spot : Int32) (t_word : Int64) (t_told : Int32) (t_isBegun : Int32) (t_had : Int32) (t_rowMany : Int32) (t_least : Int32) (t_shortMany : Int32) (t_mostWorth : Int32) (t_fitMany : Int32) (t_narrowCost : Int32) (t_tape : (Nat → Int32)) : va_W := [(ht, .inr (12, [.int t_thrown, .ref ht_tape, .int t_taped, .int t_size, .int t_to, .int t_from, .int t_kind, .int t_number, .int t_fault, .int t_spot, .long t_word, .int t_told, .ref ht_now, .ref ht_read, .ref ht_kept, .ref ht_ground, .ref ht_readGround, .ref ht_keptGround, .ref ht_name, .ref ht_isKept, .int t_isBegun, .int t_had, .ref ht_louds, .ref ht_sharps, .ref ht_row, .ref ht_along, .ref ht_needs, .ref ht_best, .int t_rowMany, .ref ht_order, .ref ht_shortRow, .int t_least, .int t_shortMany, .ref ht_was, .ref ht_saved, .int t_mostWorth, .ref ht_next, .ref ht_fitted, .int t_fitMany, .int t_narrowCost, .ref ht_beam, .ref ht_heardAhead, .ref ht_sharesMost, .ref ht_sharesMoved, .ref ht_nextMost, .ref ht_nextMoved])), (ht_tape, .inl (dA 0, 1240, .inl t_tape))]
def fX12_readNumber (N : Nat) (t_size : Int32) (t_to : Int32) (t_from : Int32) (t_kind : Int32) (t_number : Int32) (t_fault : Int32) (t_spot : Int32) (t_word : Int64) (t_told : Int32) (t_tape : (Nat → Int32)) (x1_ : Int32) (x2_ : Int32) : Option (Int32 × Int32 × Int32 × Int32 × Int32 × Int32 × Int64 × Int32 × Int32) := (if t_kind = (3 : Int32) then (fX12_isIn  t_number x1_ x2_).bind fun o2 => (if o2 = 0 then (fX12_bad t_from t_kind t_fault t_spot (2 : Int32)).bind fun o5 => gdb o5.2.2 (some (t_to, t_from, t_kind, t_number, o5.1, o5.2.1, t_word, t_told, o5.2.2)) else (fX12_go N t_size t_to t_from t_kind t_number t_word t_tape ).bind fun o4 => some (o4.1, o4.2.1, o4.2.2.1, o4.2.2.2.1, t_fault, t_spot, o4.2.2.2.2, t_number, (1 : Int32))) else (fX12_bad t_from t_kind t_fault t_spot (1 : Int32)).bind fun o7 => gdb o7.2.2 (some (t_to, t_from, t_kind, t_number, o7.1, o7.2.1, t_word, t_told, o7.2.2)))
set_option maxHeartbeats 4000000 in
set_option maxRecDepth 100000 in
theorem qX12_readNumber (l : Launch) (D : va_G) (dA : Nat → ClassId) (ht ht_tape ht_now ht_read ht_kept ht_ground ht_readGround ht_keptGround ht_name ht_isKept ht_louds ht_sharps ht_row ht_along ht_needs ht_best ht_order ht_shortRow ht_was ht_saved ht_next ht_fitted ht_beam ht_heardAhead ht_sharesMost ht_sharesMoved ht_nextMost ht_nextMoved : Nat) (t_thrown : Int32) (t_taped : Int32) (t_size : Int32) (t_to : Int32) (t_from : Int32) (t_kind : Int32) (t_number : Int32) (t_fault : Int32) (t_spot : Int32) (t_word : Int64) (t_told : Int32) (t_isBegun : Int32) (t_had : Int32) (t_rowMany : Int32) (t_least : Int32) (t_shortMany : Int32) (t_mostWorth : Int32) (t_fitMany : Int32) (t_narrowCost : Int32) (t_tape : (Nat → Int32)) (x1_ : Int32) (x2_ : Int32) (N : Nat) (o : Int32 × Int32 × Int32 × Int32 × Int32 × Int32 × Int64 × Int32 × Int32) (hf : fX12_readNumber N t_size t_to t_from t_kind t_number t_fault t_spot t_word t_told t_tape x1_ x2_ = some o) : Mi l D dA yX12_readNumber (Cond.code yX12_readNumber cX12_readNumber 3 (some .boolean) :: wA) 2 45 [.ref ht, .int x1_, .int x2_] (wX12_readNumber dA ht ht_tape ht_now ht_read ht_kept ht_ground ht_readGround ht_keptGround ht_name ht_isKept ht_louds ht_sharps ht_row ht_along ht_needs ht_best ht_order ht_shortRow ht_was ht_saved ht_next ht_fitted ht_beam ht_heardAhead ht_sharesMost ht_sharesMoved ht_nextMost ht_nextMoved t_thrown t_taped t_size t_to t_from t_kind t_number t_fault t_spot t_word t_told t_isBegun t_had t_rowMany t_least t_shortMany t_mostWorth t_fitMany t_narrowCost t_tape) (wX12_readNumber dA ht ht_tape ht_now ht_read ht_kept ht_ground ht_readGround ht_keptGround ht_name ht_isKept ht_louds ht_sharps ht_row ht_along ht_needs ht_best ht_order ht_shortRow ht_was ht_saved ht_next ht_fitted ht_beam ht_heardAhead ht_sharesMost ht_sharesMoved ht_nextMost ht_nextMoved t_thrown t_taped t_size o.1 o.2.1 o.2.2.1 o.2.2.2.1 o.2.2.2.2.1 o.2.2.2.2.2.1 o.2.2.2.2.2.2.1 o.2.2.2.2.2.2.2.1 t_isBegun t_had t_rowMany t_least t_shortMany t_mostWorth t_fitMany t_narrowCost t_tape) o.2.2.2.2.2.2.2.2 := by
  intro sz
  refine M_of (cc := cX12_readNumber) (nL := 3) (ret := (some .boolean)) (own := RX12) (by decide +kernel) rfl (Nat.le_of_ble_eq_true rfl) ?_
  intro p e s m below meth c ls hsz C hw hl
  subst hsz
  have hR : 2 ≤ (rmm 2 45).frames ∧ 45 ≤ (rmm 2 45).locals ∧ 0 ≤ (rmm 2 45).cells ∧ 0 ≤ (rmm 2 45).slots := ⟨Nat.le_refl _, Nat.le_refl _, Nat.le_refl _, Nat.le_refl _⟩
  have hl : lv_has ls 3 [(0, .ref ht), (1, .int x1_), (2, .int x2_)] := hl
  have hx := C.1
  have hb := C.2.1
  have hml := C.2.2.1
  have hown := C.2.2.2.1
  have hts := C.2.2.2.2.1
  have hK : ∀ (H : Heap) (locs : List Loc) (pc : Nat) (ls : Array Slot), (o.2.2.2.2.2.2.2.2 = 0 ∨ o.2.2.2.2.2.2.2.2 = 1) → decode cX12_readNumber pc = .ok (.ireturn, 1) → St D (wX12_readNumber dA ht ht_tape ht_now ht_read ht_kept ht_ground ht_readGround ht_keptGround ht_name ht_isKept ht_louds ht_sharps ht_row ht_along ht_needs ht_best ht_order ht_shortRow ht_was ht_saved ht_next ht_fitted ht_beam ht_heardAhead ht_sharesMost ht_sharesMoved ht_nextMost ht_nextMoved t_thrown t_taped t_size t_to t_from t_kind t_number t_fault t_spot t_word t_told t_isBegun t_had t_rowMany t_least t_shortMany t_mostWorth t_fitMany t_narrowCost t_tape) s (wX12_readNumber dA ht ht_tape ht_now ht_read ht_kept ht_ground ht_readGround ht_keptGround ht_name ht_isKept ht_louds ht_sharps ht_row ht_along ht_needs ht_best ht_order ht_shortRow ht_was ht_saved ht_next ht_fitted ht_beam ht_heardAhead ht_sharesMost ht_sharesMoved ht_nextMost ht_nextMoved t_thrown t_taped t_size o.1 o.2.1 o.2.2.1 o.2.2.2.1 o.2.2.2.2.1 o.2.2.2.2.2.1 o.2.2.2.2.2.2.1 o.2.2.2.2.2.2.2.1 t_isBegun t_had t_rowMany t_least t_shortMany t_mostWorth t_fitMany t_narrowCost t_tape) H locs → W p l e (rmm 2 45) s m [.ref ht, .int x1_, .int x2_].toArray below meth c H locs 0 0 (MQ below (Qi D (wX12_readNumber dA ht ht_tape ht_now ht_read ht_kept ht_ground ht_readGround ht_keptGround ht_name ht_isKept ht_louds ht_sharps ht_row ht_along ht_needs ht_best ht_order ht_shortRow ht_was ht_saved ht_next ht_fitted ht_beam ht_heardAhead ht_sharesMost ht_sharesMoved ht_nextMost ht_nextMoved t_thrown t_taped t_size t_to t_from t_kind t_number t_fault t_spot t_word t_told t_isBegun t_had t_rowMany t_least t_shortMany t_mostWorth t_fitMany t_narrowCost t_tape) (wX12_readNumber dA ht ht_tape ht_now ht_read ht_kept ht_ground ht_readGround ht_keptGround ht_name ht_isKept ht_louds ht_sharps ht_row ht_along ht_needs ht_best ht_order ht_shortRow ht_was ht_saved ht_next ht_fitted ht_beam ht_heardAhead ht_sharesMost ht_sharesMoved ht_nextMost ht_nextMoved t_thrown t_taped t_size o.1 o.2.1 o.2.2.1 o.2.2.2.1 o.2.2.2.2.1 o.2.2.2.2.2.1 o.2.2.2.2.2.2.1 o.2.2.2.2.2.2.2.1 t_isBegun t_had t_rowMany t_least t_shortMany t_mostWorth t_fitMany t_narrowCost t_tape) o.2.2.2.2.2.2.2.2 s.heap.size) [.ref ht, .int x1_, .int x2_].toArray s 0 0 (va_A (wX12_readNumber dA ht ht_tape ht_now ht_read ht_kept ht_ground ht_readGround ht_keptGround ht_name ht_isKept ht_louds ht_sharps ht_row ht_along ht_needs ht_best ht_order ht_shortRow ht_was ht_saved ht_next ht_fitted ht_beam ht_heardAhead ht_sharesMost ht_sharesMoved ht_nextMost ht_nextMoved t_thrown t_taped t_size t_to t_from t_kind t_number t_fault t_spot t_word t_told t_isBegun t_had t_rowMany t_least t_shortMany t_mostWorth t_fitMany t_narrowCost t_tape) s.heap.size)) (F0 m pc ls [.int o.2.2.2.2.2.2.2.2]) := fun H locs pc ls hz hd hw => k_zret C hw hz hd
  unfold fX12_readNumber at hf
  refine lv_aload_n hx hb dX12_readNumber_0 rfl (lv_at hl 0 rfl) ?_
  refine k_get C hw 0 rfl rfl wiX12 6 (by decide) wfX12_116 rfl dX12_readNumber_1 ?_
  refine lv_iconst (v := (3 : Int32)) hx hb dX12_readNumber_4 (by decide) ?_
  refine lv_icmp_eq (tgt := 14) hx hb dX12_readNumber_5 (by decide) (fun c1 => ?_) (fun c1 => ?_)
  · have hf := ite_t c1 hf
    refine lv_aload_n hx hb dX12_readNumber_14 rfl (lv_at hl 0 rfl) ?_
    refine k_get C hw 0 rfl rfl wiX12 7 (by decide) wfX12_130 rfl dX12_readNumber_15 ?_
    refine lv_iload_n hx hb dX12_readNumber_18 rfl (lv_at hl 1 rfl) ?_
    refine lv_iload_n hx hb dX12_readNumber_19 rfl (lv_at hl 2 rfl) ?_
    obtain ⟨o2, ho2, hf⟩ := bind_r hf
    refine k_callSi C hw (n := 3) (As := [.int t_number, .int x1_, .int x2_]) (w1 := (wX12_readNumber dA ht ht_tape ht_now ht_read ht_kept ht_ground ht_readGround ht_keptGround ht_name ht_isKept ht_louds ht_sharps ht_row ht_along ht_needs ht_best ht_order ht_shortRow ht_was ht_saved ht_next ht_fitted ht_beam ht_heardAhead ht_sharesMost ht_sharesMoved ht_nextMost ht_nextMoved t_thrown t_taped t_size t_to t_from t_kind t_number t_fault t_spot t_word t_told t_isBegun t_had t_rowMany t_least t_shortMany t_mostWorth t_fitMany t_narrowCost t_tape)) (wr := [(ht, .inr (12, [.int t_thrown, .ref ht_tape, .int t_taped, .int t_size, .int t_to, .int t_from, .int t_kind, .int t_number, .int t_fault, .int t_spot, .long t_word, .int t_told, .ref ht_now, .ref ht_read, .ref ht_kept, .ref ht_ground, .ref ht_readGround, .ref ht_keptGround, .ref ht_name, .ref ht_isKept, .int t_isBegun, .int t_had, .ref ht_louds, .ref ht_sharps, .ref ht_row, .ref ht_along, .ref ht_needs, .ref ht_best, .int t_rowMany, .ref ht_order, .ref ht_shortRow, .int t_least, .int t_shortMany, .ref ht_was, .ref ht_saved, .int t_mostWorth, .ref ht_next, .ref ht_fitted, .int t_fitMany, .int t_narrowCost, .ref ht_beam, .ref ht_heardAhead, .ref ht_sharesMost, .ref ht_sharesMoved, .ref ht_nextMost, .ref ht_nextMoved])), (ht_tape, .inl (dA 0, 1240, .inl t_tape))]) [] [0, 1] [0, 1] rfl rfl (by decide) (by decide) (by decide) rfl (by decide) (qX12_isIn l D dA  t_number x1_ x2_ _ ho2) wlX12_162 wsX12_isIn_t wnX12 wcX12_isIn (by decide +kernel) ⟨Nat.le_trans (by decide) hR.1, Nat.le_trans (by decide) hR.2.1⟩ hR.2.2 rfl hl.1 (Nat.le_of_ble_eq_true rfl) dX12_readNumber_20 rfl (fun H locs hw => ?_)
    refine lv_if_ne (tgt := 32) hx hb dX12_readNumber_23 (by decide) (fun c3 => ?_) (fun c3 => ?_)
    · have hf := ite_f c3 hf
      refine lv_aload_n hx hb dX12_readNumber_32 rfl (lv_at hl 0 rfl) ?_
      refine lv_aload_n hx hb dX12_readNumber_33 rfl (lv_at hl 0 rfl) ?_
      refine k_get C hw 0 rfl rfl wiX12 7 (by decide) wfX12_130 rfl dX12_readNumber_34 ?_
      refine k_put C hw 0 rfl rfl wiX12 tyX12 tyX12_ok nmX12 11 (by decide) wfX12_166 rfl rfl rfl (Nat.le_of_ble_eq_true rfl) dX12_readNumber_37 (wX12_readNumber dA ht ht_tape ht_now ht_read ht_kept ht_ground ht_readGround ht_keptGround ht_name ht_isKept ht_louds ht_sharps ht_row ht_along ht_needs ht_best ht_order ht_shortRow ht_was ht_saved ht_next ht_fitted ht_beam ht_heardAhead ht_sharesMost ht_sharesMoved ht_nextMost ht_nextMoved t_thrown t_taped t_size t_to t_from t_kind t_number t_fault t_spot t_word t_number t_isBegun t_had t_rowMany t_least t_shortMany t_mostWorth t_fitMany t_narrowCost t_tape) rfl (fun H locs hw => ?_)
      refine lv_aload_n hx hb dX12_readNumber_40 rfl (lv_at hl 0 rfl) ?_
      obtain ⟨o4, ho4, hf⟩ := bind_r hf
      refine k_callVv C hw (n := 0) (As := []) (w1 := (wX12_readNumber dA ht ht_tape ht_now ht_read ht_kept ht_ground ht_readGround ht_keptGround ht_name ht_isKept ht_louds ht_sharps ht_row ht_along ht_needs ht_best ht_order ht_shortRow ht_was ht_saved ht_next ht_fitted ht_beam ht_heardAhead ht_sharesMost ht_sharesMoved ht_nextMost ht_nextMoved t_thrown t_taped t_size o4.1 o4.2.1 o4.2.2.1 o4.2.2.2.1 t_fault t_spot o4.2.2.2.2 t_number t_isBegun t_had t_rowMany t_least t_shortMany t_mostWorth t_fitMany t_narrowCost t_tape)) (wr := []) [0, 1] [] [0, 1] rfl rfl (by decide) (by decide) (by decide) rfl (by decide) (qX12_go l D dA ht ht_tape ht_now ht_read ht_kept ht_ground ht_readGround ht_keptGround ht_name ht_isKept ht_louds ht_sharps ht_row ht_along ht_needs ht_best ht_order ht_shortRow ht_was ht_saved ht_next ht_fitted ht_beam ht_heardAhead ht_sharesMost ht_sharesMoved ht_nextMost ht_nextMoved t_thrown t_taped t_size t_to t_from t_kind t_number t_fault t_spot t_word t_number t_isBegun t_had t_rowMany t_least t_shortMany t_mostWorth t_fitMany t_narrowCost t_tape  N _ ho4) wlX12_169 wmX12_go wvX12_go wnX12 wcX12_go rfl (by decide +kernel) ⟨Nat.le_trans (by decide) hR.1, Nat.le_trans (by decide) hR.2.1⟩ hR.2.2 rfl 0 rfl rfl hl.1 (Nat.le_of_ble_eq_true rfl) dX12_readNumber_41 rfl (fun H locs hw => ?_)
      refine lv_iconst (v := (1 : Int32)) hx hb dX12_readNumber_44 (by decide) ?_
      obtain rfl := some_r hf
      exact hK _ _ _ _ (Or.inr rfl) dX12_readNumber_45 hw
    · have hf := ite_t c3 hf
      refine lv_aload_n hx hb dX12_readNumber_26 rfl (lv_at hl 0 rfl) ?_
      refine lv_iconst (v := (2 : Int32)) hx hb dX12_readNumber_27 (by decide) ?_
      obtain ⟨o5, ho5, hf⟩ := bind_r hf
      refine k_callVi C hw (n := 1) (As := [.int (2 : Int32)]) (w1 := (wX12_readNumber dA ht ht_tape ht_now ht_read ht_kept ht_ground ht_readGround ht_keptGround ht_name ht_isKept ht_louds ht_sharps ht_row ht_along ht_needs ht_best ht_order ht_shortRow ht_was ht_saved ht_next ht_fitted ht_beam ht_heardAhead ht_sharesMost ht_sharesMoved ht_nextMost ht_nextMoved t_thrown t_taped t_size t_to t_from t_kind t_number o5.1 o5.2.1 t_word t_told t_isBegun t_had t_rowMany t_least t_shortMany t_mostWorth t_fitMany t_narrowCost t_tape)) (wr := [(ht_tape, .inl (dA 0, 1240, .inl t_tape))]) [0] [1] [1, 0] rfl rfl (by decide) (by decide) (by decide) rfl (by decide) (qX12_bad l D dA ht ht_tape ht_now ht_read ht_kept ht_ground ht_readGround ht_keptGround ht_name ht_isKept ht_louds ht_sharps ht_row ht_along ht_needs ht_best ht_order ht_shortRow ht_was ht_saved ht_next ht_fitted ht_beam ht_heardAhead ht_sharesMost ht_sharesMoved ht_nextMost ht_nextMoved t_thrown t_taped t_size t_to t_from t_kind t_number t_fault t_spot t_word t_told t_isBegun t_had t_rowMany t_least t_shortMany t_mostWorth t_fitMany t_narrowCost (2 : Int32) _ ho5) wlX12_159 wmX12_bad wvX12_bad wnX12 wcX12_bad rfl (by decide +kernel) ⟨Nat.le_trans (by decide) hR.1, Nat.le_trans (by decide) hR.2.1⟩ hR.2.2 rfl 0 rfl rfl hl.1 (Nat.le_of_ble_eq_true rfl) dX12_readNumber_28 rfl (fun H locs hw => ?_)
      obtain ⟨g6, hf⟩ := gdb_r hf
      obtain rfl := some_r hf
      exact hK _ _ _ _ g6 dX12_readNumber_31 hw
  · have hf := ite_f c1 hf
    refine lv_aload_n hx hb dX12_readNumber_8 rfl (lv_at hl 0 rfl) ?_
    refine lv_iconst (v := (1 : Int32)) hx hb dX12_readNumber_9 (by decide) ?_
    obtain ⟨o7, ho7, hf⟩ := bind_r hf
    refine k_callVi C hw (n := 1) (As := [.int (1 : Int32)]) (w1 := (wX12_readNumber dA ht ht_tape ht_now ht_read ht_kept ht_ground ht_readGround ht_keptGround ht_name ht_isKept ht_louds ht_sharps ht_row ht_along ht_needs ht_best ht_order ht_shortRow ht_was ht_saved ht_next ht_fitted ht_beam ht_heardAhead ht_sharesMost ht_sharesMoved ht_nextMost ht_nextMoved t_thrown t_taped t_size t_to t_from t_kind t_number o7.1 o7.2.1 t_word t_told t_isBegun t_had t_rowMany t_least t_shortMany t_mostWorth t_fitMany t_narrowCost t_tape)) (wr := [(ht_tape, .inl (dA 0, 1240, .inl t_tape))]) [0] [1] [1, 0] rfl rfl (by decide) (by decide) (by decide) rfl (by decide) (qX12_bad l D dA ht ht_tape ht_now ht_read ht_kept ht_ground ht_readGround ht_keptGround ht_name ht_isKept ht_louds ht_sharps ht_row ht_along ht_needs ht_best ht_order ht_shortRow ht_was ht_saved ht_next ht_fitted ht_beam ht_heardAhead ht_sharesMost ht_sharesMoved ht_nextMost ht_nextMoved t_thrown t_taped t_size t_to t_from t_kind t_number t_fault t_spot t_word t_told t_isBegun t_had t_rowMany t_least t_shortMany t_mostWorth t_fitMany t_narrowCost (1 : Int32) _ ho7) wlX12_159 wmX12_bad wvX12_bad wnX12 wcX12_bad rfl (by decide +kernel) ⟨Nat.le_trans (by decide) hR.1, Nat.le_trans (by decide) hR.2.1⟩ hR.2.2 rfl 0 rfl rfl hl.1 (Nat.le_of_ble_eq_true rfl) dX12_readNumber_10 rfl (fun H locs hw => ?_)
    obtain ⟨g8, hf⟩ := gdb_r hf
    obtain rfl := some_r hf
    exact hK _ _ _ _ g8 dX12_readNumber_13 hw

/-! RingPlacesModel.lay()V -/
abbrev wX12_lay (dA : Nat → ClassId) (ht ht_tape ht_now ht_read ht_kept ht_ground ht_readGround ht_keptGround ht_name ht_isKept ht_louds ht_sharps ht_row ht_along ht_needs ht_best ht_order ht_shortRow ht_was ht_saved ht_next ht_fitted ht_beam ht_heardAhead ht_sharesMost ht_sharesMoved ht_nextMost ht_nextMoved : Nat) (t_thrown : Int32) (t_taped : Int32) (t_size : Int32) (t_to : Int32) (t_from : Int32) (t_kind : Int32) (t_number : Int32) (t_fault : Int32) (t_spot : Int32) (t_word : Int64) (t_told : Int32) (t_isBegun : Int32) (t_had : Int32) (t_rowMany : Int32) (t_least : Int32) (t_shortMany : Int32) (t_mostWorth : Int32) (t_fitMany : Int32) (t_narrowCost : Int32) (t_now : (Nat → Int32)) : va_W := [(ht, .inr (12, [.int t_thrown, .ref ht_tape, .int t_taped, .int t_size, .int t_to, .int t_from, .int t_kind, .int t_number, .int t_fault, .int t_spot, .long t_word, .int t_told, .ref ht_now, .ref ht_read, .ref ht_kept, .ref ht_ground, .ref ht_readGround, .ref ht_keptGround, .ref ht_name, .ref ht_isKept, .int t_isBegun, .int t_had, .ref ht_louds, .ref ht_sharps, .ref ht_row, .ref ht_along, .ref ht_needs, .ref ht_best, .int t_rowMany, .ref ht_order, .ref ht_shortRow, .int t_least, .int t_shortMany, .ref ht_was, .ref ht_saved, .int t_mostWorth, .ref ht_next, .ref ht_fitted, .int t_fitMany, .int t_narrowCost, .ref ht_beam, .ref ht_heardAhead, .ref ht_sharesMost, .ref ht_sharesMoved, .ref ht_nextMost, .ref ht_nextMoved])), (ht_now, .inl (dA 0, 380, .inl t_now))]
def fX12_lay_l23b (N : Nat) (t_isBegun : Int32) (t_now : (Nat → Int32)) (v1 : Int32) : Option (((Nat → Int32) × Int32) ⊕ ((Nat → Int32))) := (if (16 : Int32) ≤ v1 then some (.inr t_now) else gdi ((340 : Int32) + ((2 : Int32) * v1)) 380 (bnd (upd t_now ((340 : Int32) + ((2 : Int32) * v1)).toNatClampNeg (-1 : Int32)) fun y6 => bnd (v1 + (1 : Int32)) fun x7 => some (.inl (y6, x7))))
def fX12_lay (N : Nat) (t_isBegun : Int32) (t_now : (Nat → Int32))  : Option (Int32 × (Nat → Int32)) := (if t_isBegun = 0 then gdi (3 : Int32) 380 (bnd (upd t_now (3 : Int32).toNatClampNeg (20 : Int32)) fun y3 => (itr (fun z => fX12_lay_l23b N (1 : Int32) z.1 z.2) N (y3, (0 : Int32))).bind fun q8 => some ((1 : Int32), q8)) else some (t_isBegun, t_now))
set_option maxHeartbeats 4000000 in
set_option maxRecDepth 100000 in
theorem tX12_lay_l23b {p : Program} {l : Launch} {e : Env} {R : Room} {s : State} {m : MethodId} {args : Array Value} {below : List Frame} {meth : Method} {c : Code} {D : va_G} {dA : Nat → ClassId} {w0 : va_W} {Q : State → Prop} {H : Heap} {locs : List Loc} {ls : Array Slot} {cells slots : Nat} (C : CX p s m args meth c cX12_lay 2 none RX12 D dA) (ht ht_tape ht_now ht_read ht_kept ht_ground ht_readGround ht_keptGround ht_name ht_isKept ht_louds ht_sharps ht_row ht_along ht_needs ht_best ht_order ht_shortRow ht_was ht_saved ht_next ht_fitted ht_beam ht_heardAhead ht_sharesMost ht_sharesMoved ht_nextMost ht_nextMoved : Nat) (hR : 0 ≤ R.frames ∧ 0 ≤ R.locals ∧ cells ≤ R.cells ∧ slots ≤ R.slots)  (t_thrown : Int32) (t_taped : Int32) (t_size : Int32) (t_to : Int32) (t_from : Int32) (t_kind : Int32) (t_number : Int32) (t_fault : Int32) (t_spot : Int32) (t_word : Int64) (t_told : Int32) (t_isBegun : Int32) (t_had : Int32) (t_rowMany : Int32) (t_least : Int32) (t_shortMany : Int32) (t_mostWorth : Int32) (t_fitMany : Int32) (t_narrowCost : Int32) (t_now : (Nat → Int32)) (v1 : Int32) (N : Nat) (res : (((Nat → Int32) × Int32) ⊕ ((Nat → Int32)))) (hf : fX12_lay_l23b N t_isBegun t_now v1 = some res) (hK : Sum.elim (fun z => (∀ (H : Heap) (locs : List Loc) (ls : Array Slot), lv_has ls 2 [(0, .ref ht), (1, .int z.2)] → St D w0 s (wX12_lay dA ht ht_tape ht_now ht_read ht_kept ht_ground ht_readGround ht_keptGround ht_name ht_isKept ht_louds ht_sharps ht_row ht_along ht_needs ht_best ht_order ht_shortRow ht_was ht_saved ht_next ht_fitted ht_beam ht_heardAhead ht_sharesMost ht_sharesMoved ht_nextMost ht_nextMoved t_thrown t_taped t_size t_to t_from t_kind t_number t_fault t_spot t_word t_told t_isBegun t_had t_rowMany t_least t_shortMany t_mostWorth t_fitMany t_narrowCost z.1) H locs → W p l e R s m args below meth c H locs cells slots Q (F0 m 23 ls []))) (fun r => (∀ (H : Heap) (locs : List Loc) (ls : Array Slot), lv_has ls 2 [] → St D w0 s (wX12_lay dA ht ht_tape ht_now ht_read ht_kept ht_ground ht_readGround ht_keptGround ht_name ht_isKept ht_louds ht_sharps ht_row ht_along ht_needs ht_best ht_order ht_shortRow ht_was ht_saved ht_next ht_fitted ht_beam ht_heardAhead ht_sharesMost ht_sharesMoved ht_nextMost ht_nextMoved t_thrown t_taped t_size t_to t_from t_kind t_number t_fault t_spot t_word t_told t_isBegun t_had t_rowMany t_least t_shortMany t_mostWorth t_fitMany t_narrowCost r) H locs → W p l e R s m args below meth c H locs cells slots Q (F0 m 48 ls []))) res) (hl : lv_has ls 2 [(0, .ref ht), (1, .int v1)]) (hw : St D w0 s (wX12_lay dA ht ht_tape ht_now ht_read ht_kept ht_ground ht_readGround ht_keptGround ht_name ht_isKept ht_louds ht_sharps ht_row ht_along ht_needs ht_best ht_order ht_shortRow ht_was ht_saved ht_next ht_fitted ht_beam ht_heardAhead ht_sharesMost ht_sharesMoved ht_nextMost ht_nextMoved t_thrown t_taped t_size t_to t_from t_kind t_number t_fault t_spot t_word t_told t_isBegun t_had t_rowMany t_least t_shortMany t_mostWorth t_fitMany t_narrowCost t_now) H locs) : W p l e R s m args below meth c H locs cells slots Q (F0 m 23 ls []) := by
  have hx := C.1
  have hb := C.2.1
  have hml := C.2.2.1
  have hown := C.2.2.2.1
  have hts := C.2.2.2.2.1
  unfold fX12_lay_l23b at hf
  refine lv_iload_n hx hb dX12_lay_23 rfl (lv_at hl 1 rfl) ?_
  refine lv_bipush (v := (16 : Int32)) hx hb dX12_lay_24 (by decide) ?_
  refine lv_icmp_ge (tgt := 48) hx hb dX12_lay_26 (by decide) (fun c4 => ?_) (fun c4 => ?_)
  · have hf := ite_t c4 hf
    obtain rfl := some_r hf
    exact hK _ _ _ (lv_sub hl [] rfl) hw
  · have hf := ite_f c4 hf
    refine lv_aload_n hx hb dX12_lay_29 rfl (lv_at hl 0 rfl) ?_
    refine k_get C hw 0 rfl rfl wiX12 12 (by decide) wfX12_13 rfl dX12_lay_30 ?_
    refine lv_sipush (v := (340 : Int32)) hx hb dX12_lay_33 (by decide) ?_
    refine lv_iconst (v := (2 : Int32)) hx hb dX12_lay_36 (by decide) ?_
    refine lv_iload_n hx hb dX12_lay_37 rfl (lv_at hl 1 rfl) ?_
    refine lv_imul hx hb dX12_lay_38 ?_
    refine lv_iadd hx hb dX12_lay_39 ?_
    refine lv_iconst (v := (-1 : Int32)) hx hb dX12_lay_40 (by decide) ?_
    obtain ⟨g5, hf⟩ := gdi_r hf
    obtain ⟨y6, ey6⟩ : ∃ z : Nat → Int32, z = upd t_now ((340 : Int32) + ((2 : Int32) * v1)).toNatClampNeg (-1 : Int32) := ⟨_, rfl⟩
    have hf := bnd_r ey6 hf
    refine k_iast C hw 1 rfl g5 dX12_lay_41 y6 ey6 (wX12_lay dA ht ht_tape ht_now ht_read ht_kept ht_ground ht_readGround ht_keptGround ht_name ht_isKept ht_louds ht_sharps ht_row ht_along ht_needs ht_best ht_order ht_shortRow ht_was ht_saved ht_next ht_fitted ht_beam ht_heardAhead ht_sharesMost ht_sharesMoved ht_nextMost ht_nextMoved t_thrown t_taped t_size t_to t_from t_kind t_number t_fault t_spot t_word t_told t_isBegun t_had t_rowMany t_least t_shortMany t_mostWorth t_fitMany t_narrowCost y6) rfl (fun H locs hw => ?_)
    obtain ⟨x7, ex7⟩ : ∃ y : Int32, y = v1 + (1 : Int32) := ⟨_, rfl⟩
    have hf := bnd_r ex7 hf
    refine lv_iinc (v := x7) (lv' := [(1, .int x7), (0, .ref ht)]) hx hb dX12_lay_42 hl (k := 1) rfl (by rw [ex7]; rfl) (by decide) rfl (fun ls hl => ?_)
    refine lv_goto (tgt := 23) hx hb dX12_lay_45 (by decide) ?_
    obtain rfl := some_r hf
    exact hK _ _ _ (lv_sub hl [1, 0] rfl) hw
set_option maxHeartbeats 4000000 in
theorem tX12_lay_l23 {p : Program} {l : Launch} {e : Env} {R : Room} {s : State} {m : MethodId} {args : Array Value} {below : List Frame} {meth : Method} {c : Code} {D : va_G} {dA : Nat → ClassId} {w0 : va_W} {Q : State → Prop} {H : Heap} {locs : List Loc} {ls : Array Slot} {cells slots : Nat} (C : CX p s m args meth c cX12_lay 2 none RX12 D dA) (ht ht_tape ht_now ht_read ht_kept ht_ground ht_readGround ht_keptGround ht_name ht_isKept ht_louds ht_sharps ht_row ht_along ht_needs ht_best ht_order ht_shortRow ht_was ht_saved ht_next ht_fitted ht_beam ht_heardAhead ht_sharesMost ht_sharesMoved ht_nextMost ht_nextMoved : Nat) (hR : 0 ≤ R.frames ∧ 0 ≤ R.locals ∧ cells ≤ R.cells ∧ slots ≤ R.slots)  (t_thrown : Int32) (t_taped : Int32) (t_size : Int32) (t_to : Int32) (t_from : Int32) (t_kind : Int32) (t_number : Int32) (t_fault : Int32) (t_spot : Int32) (t_word : Int64) (t_told : Int32) (t_isBegun : Int32) (t_had : Int32) (t_rowMany : Int32) (t_least : Int32) (t_shortMany : Int32) (t_mostWorth : Int32) (t_fitMany : Int32) (t_narrowCost : Int32) (t_now : (Nat → Int32)) (v1 : Int32) (N n : Nat) (res : ((Nat → Int32))) (hf : itr (fun z => fX12_lay_l23b N t_isBegun z.1 z.2) n (t_now, v1) = some res) (hK : (∀ (H : Heap) (locs : List Loc) (ls : Array Slot), lv_has ls 2 [] → St D w0 s (wX12_lay dA ht ht_tape ht_now ht_read ht_kept ht_ground ht_readGround ht_keptGround ht_name ht_isKept ht_louds ht_sharps ht_row ht_along ht_needs ht_best ht_order ht_shortRow ht_was ht_saved ht_next ht_fitted ht_beam ht_heardAhead ht_sharesMost ht_sharesMoved ht_nextMost ht_nextMoved t_thrown t_taped t_size t_to t_from t_kind t_number t_fault t_spot t_word t_told t_isBegun t_had t_rowMany t_least t_shortMany t_mostWorth t_fitMany t_narrowCost res) H locs → W p l e R s m args below meth c H locs cells slots Q (F0 m 48 ls []))) (hl : lv_has ls 2 [(0, .ref ht), (1, .int v1)]) (hw : St D w0 s (wX12_lay dA ht ht_tape ht_now ht_read ht_kept ht_ground ht_readGround ht_keptGround ht_name ht_isKept ht_louds ht_sharps ht_row ht_along ht_needs ht_best ht_order ht_shortRow ht_was ht_saved ht_next ht_fitted ht_beam ht_heardAhead ht_sharesMost ht_sharesMoved ht_nextMost ht_nextMoved t_thrown t_taped t_size t_to t_from t_kind t_number t_fault t_spot t_word t_told t_isBegun t_had t_rowMany t_least t_shortMany t_mostWorth t_fitMany t_narrowCost t_now) H locs) : W p l e R s m args below meth c H locs cells slots Q (F0 m 23 ls []) :=
  itr_W (P := fun (z : ((Nat → Int32) × Int32)) => (∀ (H : Heap) (locs : List Loc) (ls : Array Slot), lv_has ls 2 [(0, .ref ht), (1, .int z.2)] → St D w0 s (wX12_lay dA ht ht_tape ht_now ht_read ht_kept ht_ground ht_readGround ht_keptGround ht_name ht_isKept ht_louds ht_sharps ht_row ht_along ht_needs ht_best ht_order ht_shortRow ht_was ht_saved ht_next ht_fitted ht_beam ht_heardAhead ht_sharesMost ht_sharesMoved ht_nextMost ht_nextMoved t_thrown t_taped t_size t_to t_from t_kind t_number t_fault t_spot t_word t_told t_isBegun t_had t_rowMany t_least t_shortMany t_mostWorth t_fitMany t_narrowCost z.1) H locs → W p l e R s m args below meth c H locs cells slots Q (F0 m 23 ls []))) (K := fun res => (∀ (H : Heap) (locs : List Loc) (ls : Array Slot), lv_has ls 2 [] → St D w0 s (wX12_lay dA ht ht_tape ht_now ht_read ht_kept ht_ground ht_readGround ht_keptGround ht_name ht_isKept ht_louds ht_sharps ht_row ht_along ht_needs ht_best ht_order ht_shortRow ht_was ht_saved ht_next ht_fitted ht_beam ht_heardAhead ht_sharesMost ht_sharesMoved ht_nextMost ht_nextMoved t_thrown t_taped t_size t_to t_from t_kind t_number t_fault t_spot t_word t_told t_isBegun t_had t_rowMany t_least t_shortMany t_mostWorth t_fitMany t_narrowCost res) H locs → W p l e R s m args below meth c H locs cells slots Q (F0 m 48 ls []))) (fun z r hf hK H locs ls hl hw => tX12_lay_l23b C ht ht_tape ht_now ht_read ht_kept ht_ground ht_readGround ht_keptGround ht_name ht_isKept ht_louds ht_sharps ht_row ht_along ht_needs ht_best ht_order ht_shortRow ht_was ht_saved ht_next ht_fitted ht_beam ht_heardAhead ht_sharesMost ht_sharesMoved ht_nextMost ht_nextMoved hR t_thrown t_taped t_size t_to t_from t_kind t_number t_fault t_spot t_word t_told t_isBegun t_had t_rowMany t_least t_shortMany t_mostWorth t_fitMany t_narrowCost z.1 z.2 N r hf (by cases r with
    | inl r => exact hK
    | inr r => exact hK) hl hw) n _ res hf hK H locs ls hl hw
set_option maxHeartbeats 4000000 in
set_option maxRecDepth 100000 in
theorem qX12_lay (l : Launch) (D : va_G) (dA : Nat → ClassId) (ht ht_tape ht_now ht_read ht_kept ht_ground ht_readGround ht_keptGround ht_name ht_isKept ht_louds ht_sharps ht_row ht_along ht_needs ht_best ht_order ht_shortRow ht_was ht_saved ht_next ht_fitted ht_beam ht_heardAhead ht_sharesMost ht_sharesMoved ht_nextMost ht_nextMoved : Nat) (t_thrown : Int32) (t_taped : Int32) (t_size : Int32) (t_to : Int32) (t_from : Int32) (t_kind : Int32) (t_number : Int32) (t_fault : Int32) (t_spot : Int32) (t_word : Int64) (t_told : Int32) (t_isBegun : Int32) (t_had : Int32) (t_rowMany : Int32) (t_least : Int32) (t_shortMany : Int32) (t_mostWorth : Int32) (t_fitMany : Int32) (t_narrowCost : Int32) (t_now : (Nat → Int32))  (N : Nat) (o : Int32 × (Nat → Int32)) (hf : fX12_lay N t_isBegun t_now = some o) : Mv l D dA yX12_lay (Cond.code yX12_lay cX12_lay 2 none :: wA) 0 0 [.ref ht] (wX12_lay dA ht ht_tape ht_now ht_read ht_kept ht_ground ht_readGround ht_keptGround ht_name ht_isKept ht_louds ht_sharps ht_row ht_along ht_needs ht_best ht_order ht_shortRow ht_was ht_saved ht_next ht_fitted ht_beam ht_heardAhead ht_sharesMost ht_sharesMoved ht_nextMost ht_nextMoved t_thrown t_taped t_size t_to t_from t_kind t_number t_fault t_spot t_word t_told t_isBegun t_had t_rowMany t_least t_shortMany t_mostWorth t_fitMany t_narrowCost t_now) (wX12_lay dA ht ht_tape ht_now ht_read ht_kept ht_ground ht_readGround ht_keptGround ht_name ht_isKept ht_louds ht_sharps ht_row ht_along ht_needs ht_best ht_order ht_shortRow ht_was ht_saved ht_next ht_fitted ht_beam ht_heardAhead ht_sharesMost ht_sharesMoved ht_nextMost ht_nextMoved t_thrown t_taped t_size t_to t_from t_kind t_number t_fault t_spot t_word t_told o.1 t_had t_rowMany t_least t_shortMany t_mostWorth t_fitMany t_narrowCost o.2) := by
  intro sz
  refine M_of (cc := cX12_lay) (nL := 2) (ret := none) (own := RX12) (by decide +kernel) rfl (Nat.le_of_ble_eq_true rfl) ?_
  intro p e s m below meth c ls hsz C hw hl
  subst hsz
  have hR : 0 ≤ (rmm 0 0).frames ∧ 0 ≤ (rmm 0 0).locals ∧ 0 ≤ (rmm 0 0).cells ∧ 0 ≤ (rmm 0 0).slots := ⟨Nat.le_refl _, Nat.le_refl _, Nat.le_refl _, Nat.le_refl _⟩
  have hl : lv_has ls 2 [(0, .ref ht)] := hl
  have hx := C.1
  have hb := C.2.1
  have hml := C.2.2.1
  have hown := C.2.2.2.1
  have hts := C.2.2.2.2.1
  have hK : ∀ (H : Heap) (locs : List Loc) (pc : Nat) (ls : Array Slot), decode cX12_lay pc = .ok (.return_, 1) → St D (wX12_lay dA ht ht_tape ht_now ht_read ht_kept ht_ground ht_readGround ht_keptGround ht_name ht_isKept ht_louds ht_sharps ht_row ht_along ht_needs ht_best ht_order ht_shortRow ht_was ht_saved ht_next ht_fitted ht_beam ht_heardAhead ht_sharesMost ht_sharesMoved ht_nextMost ht_nextMoved t_thrown t_taped t_size t_to t_from t_kind t_number t_fault t_spot t_word t_told t_isBegun t_had t_rowMany t_least t_shortMany t_mostWorth t_fitMany t_narrowCost t_now) s (wX12_lay dA ht ht_tape ht_now ht_read ht_kept ht_ground ht_readGround ht_keptGround ht_name ht_isKept ht_louds ht_sharps ht_row ht_along ht_needs ht_best ht_order ht_shortRow ht_was ht_saved ht_next ht_fitted ht_beam ht_heardAhead ht_sharesMost ht_sharesMoved ht_nextMost ht_nextMoved t_thrown t_taped t_size t_to t_from t_kind t_number t_fault t_spot t_word t_told o.1 t_had t_rowMany t_least t_shortMany t_mostWorth t_fitMany t_narrowCost o.2) H locs → W p l e (rmm 0 0) s m [.ref ht].toArray below meth c H locs 0 0 (MQ below (Qv D (wX12_lay dA ht ht_tape ht_now ht_read ht_kept ht_ground ht_readGround ht_keptGround ht_name ht_isKept ht_louds ht_sharps ht_row ht_along ht_needs ht_best ht_order ht_shortRow ht_was ht_saved ht_next ht_fitted ht_beam ht_heardAhead ht_sharesMost ht_sharesMoved ht_nextMost ht_nextMoved t_thrown t_taped t_size t_to t_from t_kind t_number t_fault t_spot t_word t_told t_isBegun t_had t_rowMany t_least t_shortMany t_mostWorth t_fitMany t_narrowCost t_now) (wX12_lay dA ht ht_tape ht_now ht_read ht_kept ht_ground ht_readGround ht_keptGround ht_name ht_isKept ht_louds ht_sharps ht_row ht_along ht_needs ht_best ht_order ht_shortRow ht_was ht_saved ht_next ht_fitted ht_beam ht_heardAhead ht_sharesMost ht_sharesMoved ht_nextMost ht_nextMoved t_thrown t_taped t_size t_to t_from t_kind t_number t_fault t_spot t_word t_told o.1 t_had t_rowMany t_least t_shortMany t_mostWorth t_fitMany t_narrowCost o.2) s.heap.size) [.ref ht].toArray s 0 0 (va_A (wX12_lay dA ht ht_tape ht_now ht_read ht_kept ht_ground ht_readGround ht_keptGround ht_name ht_isKept ht_louds ht_sharps ht_row ht_along ht_needs ht_best ht_order ht_shortRow ht_was ht_saved ht_next ht_fitted ht_beam ht_heardAhead ht_sharesMost ht_sharesMoved ht_nextMost ht_nextMoved t_thrown t_taped t_size t_to t_from t_kind t_number t_fault t_spot t_word t_told t_isBegun t_had t_rowMany t_least t_shortMany t_mostWorth t_fitMany t_narrowCost t_now) s.heap.size)) (F0 m pc ls []) := fun H locs pc ls hd hw => k_vret C hw hd
  unfold fX12_lay at hf
  refine lv_aload_n hx hb dX12_lay_0 rfl (lv_at hl 0 rfl) ?_
  refine k_get C hw 0 rfl rfl wiX12 20 (by decide) wfX12_172 rfl dX12_lay_1 ?_
  refine lv_if_eq (tgt := 8) hx hb dX12_lay_4 (by decide) (fun c1 => ?_) (fun c1 => ?_)
  · have hf := ite_t c1 hf
    refine lv_aload_n hx hb dX12_lay_8 rfl (lv_at hl 0 rfl) ?_
    refine lv_iconst (v := (1 : Int32)) hx hb dX12_lay_9 (by decide) ?_
    refine k_put C hw 0 rfl rfl wiX12 tyX12 tyX12_ok nmX12 20 (by decide) wfX12_172 rfl (bz_n (Or.inr rfl)) (bz_f (Or.inr rfl)) (Nat.le_of_ble_eq_true rfl) dX12_lay_10 (wX12_lay dA ht ht_tape ht_now ht_read ht_kept ht_ground ht_readGround ht_keptGround ht_name ht_isKept ht_louds ht_sharps ht_row ht_along ht_needs ht_best ht_order ht_shortRow ht_was ht_saved ht_next ht_fitted ht_beam ht_heardAhead ht_sharesMost ht_sharesMoved ht_nextMost ht_nextMoved t_thrown t_taped t_size t_to t_from t_kind t_number t_fault t_spot t_word t_told (1 : Int32) t_had t_rowMany t_least t_shortMany t_mostWorth t_fitMany t_narrowCost t_now) rfl (fun H locs hw => ?_)
    refine lv_aload_n hx hb dX12_lay_13 rfl (lv_at hl 0 rfl) ?_
    refine k_get C hw 0 rfl rfl wiX12 12 (by decide) wfX12_13 rfl dX12_lay_14 ?_
    refine lv_iconst (v := (3 : Int32)) hx hb dX12_lay_17 (by decide) ?_
    refine lv_bipush (v := (20 : Int32)) hx hb dX12_lay_18 (by decide) ?_
    obtain ⟨g2, hf⟩ := gdi_r hf
    obtain ⟨y3, ey3⟩ : ∃ z : Nat → Int32, z = upd t_now (3 : Int32).toNatClampNeg (20 : Int32) := ⟨_, rfl⟩
    have hf := bnd_r ey3 hf
    refine k_iast C hw 1 rfl g2 dX12_lay_20 y3 ey3 (wX12_lay dA ht ht_tape ht_now ht_read ht_kept ht_ground ht_readGround ht_keptGround ht_name ht_isKept ht_louds ht_sharps ht_row ht_along ht_needs ht_best ht_order ht_shortRow ht_was ht_saved ht_next ht_fitted ht_beam ht_heardAhead ht_sharesMost ht_sharesMoved ht_nextMost ht_nextMoved t_thrown t_taped t_size t_to t_from t_kind t_number t_fault t_spot t_word t_told (1 : Int32) t_had t_rowMany t_least t_shortMany t_mostWorth t_fitMany t_narrowCost y3) rfl (fun H locs hw => ?_)
    refine lv_iconst (v := (0 : Int32)) hx hb dX12_lay_21 (by decide) ?_
    refine lv_istore_n (lv' := [(1, .int (0 : Int32)), (0, .ref ht)]) hx hb dX12_lay_22 rfl hl (by decide) rfl (fun ls hl => ?_)
    obtain ⟨q8, hq8, hf⟩ := bind_r hf
    refine tX12_lay_l23 C ht ht_tape ht_now ht_read ht_kept ht_ground ht_readGround ht_keptGround ht_name ht_isKept ht_louds ht_sharps ht_row ht_along ht_needs ht_best ht_order ht_shortRow ht_was ht_saved ht_next ht_fitted ht_beam ht_heardAhead ht_sharesMost ht_sharesMoved ht_nextMost ht_nextMoved hR t_thrown t_taped t_size t_to t_from t_kind t_number t_fault t_spot t_word t_told (1 : Int32) t_had t_rowMany t_least t_shortMany t_mostWorth t_fitMany t_narrowCost y3 (0 : Int32) N _ _ hq8 ?_ (lv_sub hl [1, 0] rfl) hw
    intro H locs ls hl hw
    obtain rfl := some_r hf
    exact hK _ _ _ _ dX12_lay_48 hw
  · have hf := ite_f c1 hf
    obtain rfl := some_r hf
    exact hK _ _ _ _ dX12_lay_7 hw

/-! RingPlacesModel.things()I -/
abbrev wX12_things (dA : Nat → ClassId) (ht ht_tape ht_now ht_read ht_kept ht_ground ht_readGround ht_keptGround ht_name ht_isKept ht_louds ht_sharps ht_row ht_along ht_needs ht_best ht_order ht_shortRow ht_was ht_saved ht_next ht_fitted ht_beam ht_heardAhead ht_sharesMost ht_sharesMoved ht_nextMost ht_nextMoved : Nat) (t_thrown : Int32) (t_taped : Int32) (t_size : Int32) (t_to : Int32) (t_from : Int32) (t_kind : Int32) (t_number : Int32) (t_fault : Int32) (t_spot : Int32) (t_word : Int64) (t_told : Int32) (t_isBegun : Int32) (t_had : Int32) (t_rowMany : Int32) (t_least : Int32) (t_shortMany : Int32) (t_mostWorth : Int32) (t_fitMany : Int32) (t_narrowCost : Int32) (t_now : (Nat → Int32)) : va_W := [(ht, .inr (12, [.int t_thrown, .ref ht_tape, .int t_taped, .int t_size, .int t_to, .int t_from, .int t_kind, .int t_number, .int t_fault, .int t_spot, .long t_word, .int t_told, .ref ht_now, .ref ht_read, .ref ht_kept, .ref ht_ground, .ref ht_readGround, .ref ht_keptGround, .ref ht_name, .ref ht_isKept, .int t_isBegun, .int t_had, .ref ht_louds, .ref ht_sharps, .ref ht_row, .ref ht_along, .ref ht_needs, .ref ht_best, .int t_rowMany, .ref ht_order, .ref ht_shortRow, .int t_least, .int t_shortMany, .ref ht_was, .ref ht_saved, .int t_mostWorth, .ref ht_next, .ref ht_fitted, .int t_fitMany, .int t_narrowCost, .ref ht_beam, .ref ht_heardAhead, .ref ht_sharesMost, .ref ht_sharesMoved, .ref ht_nextMost, .ref ht_nextMoved])), (ht_now, .inl (dA 0, 380, .inl t_now))]
def fX12_things (t_now : (Nat → Int32))  : Option (Int32) := gdi (1 : Int32) 380 (some (t_now (1 : Int32).toNatClampNeg))
set_option maxHeartbeats 4000000 in
set_option maxRecDepth 100000 in
theorem qX12_things (l : Launch) (D : va_G) (dA : Nat → ClassId) (ht ht_tape ht_now ht_read ht_kept ht_ground ht_readGround ht_keptGround ht_name ht_isKept ht_louds ht_sharps ht_row ht_along ht_needs ht_best ht_order ht_shortRow ht_was ht_saved ht_next ht_fitted ht_beam ht_heardAhead ht_sharesMost ht_sharesMoved ht_nextMost ht_nextMoved : Nat) (t_thrown : Int32) (t_taped : Int32) (t_size : Int32) (t_to : Int32) (t_from : Int32) (t_kind : Int32) (t_number : Int32) (t_fault : Int32) (t_spot : Int32) (t_word : Int64) (t_told : Int32) (t_isBegun : Int32) (t_had : Int32) (t_rowMany : Int32) (t_least : Int32) (t_shortMany : Int32) (t_mostWorth : Int32) (t_fitMany : Int32) (t_narrowCost : Int32) (t_now : (Nat → Int32))  (o : Int32) (hf : fX12_things t_now = some o) : Mi l D dA yX12_things (Cond.code yX12_things cX12_things 1 (some .int) :: wA) 0 0 [.ref ht] (wX12_things dA ht ht_tape ht_now ht_read ht_kept ht_ground ht_readGround ht_keptGround ht_name ht_isKept ht_louds ht_sharps ht_row ht_along ht_needs ht_best ht_order ht_shortRow ht_was ht_saved ht_next ht_fitted ht_beam ht_heardAhead ht_sharesMost ht_sharesMoved ht_nextMost ht_nextMoved t_thrown t_taped t_size t_to t_from t_kind t_number t_fault t_spot t_word t_told t_isBegun t_had t_rowMany t_least t_shortMany t_mostWorth t_fitMany t_narrowCost t_now) (wX12_things dA ht ht_tape ht_now ht_read ht_kept ht_ground ht_readGround ht_keptGround ht_name ht_isKept ht_louds ht_sharps ht_row ht_along ht_needs ht_best ht_order ht_shortRow ht_was ht_saved ht_next ht_fitted ht_beam ht_heardAhead ht_sharesMost ht_sharesMoved ht_nextMost ht_nextMoved t_thrown t_taped t_size t_to t_from t_kind t_number t_fault t_spot t_word t_told t_isBegun t_had t_rowMany t_least t_shortMany t_mostWorth t_fitMany t_narrowCost t_now) o := by
  intro sz
  refine M_of (cc := cX12_things) (nL := 1) (ret := (some .int)) (own := RX12) (by decide +kernel) rfl (Nat.le_of_ble_eq_true rfl) ?_
  intro p e s m below meth c ls hsz C hw hl
  subst hsz
  have hR : 0 ≤ (rmm 0 0).frames ∧ 0 ≤ (rmm 0 0).locals ∧ 0 ≤ (rmm 0 0).cells ∧ 0 ≤ (rmm 0 0).slots := ⟨Nat.le_refl _, Nat.le_refl _, Nat.le_refl _, Nat.le_refl _⟩
  have hl : lv_has ls 1 [(0, .ref ht)] := hl
  have hx := C.1
  have hb := C.2.1
  have hml := C.2.2.1
  have hown := C.2.2.2.1
  have hts := C.2.2.2.2.1
  have hK : ∀ (H : Heap) (locs : List Loc) (pc : Nat) (ls : Array Slot), decode cX12_things pc = .ok (.ireturn, 1) → St D (wX12_things dA ht ht_tape ht_now ht_read ht_kept ht_ground ht_readGround ht_keptGround ht_name ht_isKept ht_louds ht_sharps ht_row ht_along ht_needs ht_best ht_order ht_shortRow ht_was ht_saved ht_next ht_fitted ht_beam ht_heardAhead ht_sharesMost ht_sharesMoved ht_nextMost ht_nextMoved t_thrown t_taped t_size t_to t_from t_kind t_number t_fault t_spot t_word t_told t_isBegun t_had t_rowMany t_least t_shortMany t_mostWorth t_fitMany t_narrowCost t_now) s (wX12_things dA ht ht_tape ht_now ht_read ht_kept ht_ground ht_readGround ht_keptGround ht_name ht_isKept ht_louds ht_sharps ht_row ht_along ht_needs ht_best ht_order ht_shortRow ht_was ht_saved ht_next ht_fitted ht_beam ht_heardAhead ht_sharesMost ht_sharesMoved ht_nextMost ht_nextMoved t_thrown t_taped t_size t_to t_from t_kind t_number t_fault t_spot t_word t_told t_isBegun t_had t_rowMany t_least t_shortMany t_mostWorth t_fitMany t_narrowCost t_now) H locs → W p l e (rmm 0 0) s m [.ref ht].toArray below meth c H locs 0 0 (MQ below (Qi D (wX12_things dA ht ht_tape ht_now ht_read ht_kept ht_ground ht_readGround ht_keptGround ht_name ht_isKept ht_louds ht_sharps ht_row ht_along ht_needs ht_best ht_order ht_shortRow ht_was ht_saved ht_next ht_fitted ht_beam ht_heardAhead ht_sharesMost ht_sharesMoved ht_nextMost ht_nextMoved t_thrown t_taped t_size t_to t_from t_kind t_number t_fault t_spot t_word t_told t_isBegun t_had t_rowMany t_least t_shortMany t_mostWorth t_fitMany t_narrowCost t_now) (wX12_things dA ht ht_tape ht_now ht_read ht_kept ht_ground ht_readGround ht_keptGround ht_name ht_isKept ht_louds ht_sharps ht_row ht_along ht_needs ht_best ht_order ht_shortRow ht_was ht_saved ht_next ht_fitted ht_beam ht_heardAhead ht_sharesMost ht_sharesMoved ht_nextMost ht_nextMoved t_thrown t_taped t_size t_to t_from t_kind t_number t_fault t_spot t_word t_told t_isBegun t_had t_rowMany t_least t_shortMany t_mostWorth t_fitMany t_narrowCost t_now) o s.heap.size) [.ref ht].toArray s 0 0 (va_A (wX12_things dA ht ht_tape ht_now ht_read ht_kept ht_ground ht_readGround ht_keptGround ht_name ht_isKept ht_louds ht_sharps ht_row ht_along ht_needs ht_best ht_order ht_shortRow ht_was ht_saved ht_next ht_fitted ht_beam ht_heardAhead ht_sharesMost ht_sharesMoved ht_nextMost ht_nextMoved t_thrown t_taped t_size t_to t_from t_kind t_number t_fault t_spot t_word t_told t_isBegun t_had t_rowMany t_least t_shortMany t_mostWorth t_fitMany t_narrowCost t_now) s.heap.size)) (F0 m pc ls [.int o]) := fun H locs pc ls hd hw => k_iret C hw hd
  unfold fX12_things at hf
  refine lv_aload_n hx hb dX12_things_0 rfl (lv_at hl 0 rfl) ?_
  refine k_get C hw 0 rfl rfl wiX12 12 (by decide) wfX12_13 rfl dX12_things_1 ?_
  refine lv_iconst (v := (1 : Int32)) hx hb dX12_things_4 (by decide) ?_
  obtain ⟨g1, hf⟩ := gdi_r hf
  refine k_iald C hw 1 rfl g1 dX12_things_5 ?_
  obtain rfl := some_r hf
  exact hK _ _ _ _ dX12_things_6 hw

/-! RingPlacesModel.isThing(I)Z -/
abbrev wX12_isThing (dA : Nat → ClassId) (ht ht_tape ht_now ht_read ht_kept ht_ground ht_readGround ht_keptGround ht_name ht_isKept ht_louds ht_sharps ht_row ht_along ht_needs ht_best ht_order ht_shortRow ht_was ht_saved ht_next ht_fitted ht_beam ht_heardAhead ht_sharesMost ht_sharesMoved ht_nextMost ht_nextMoved : Nat) (t_thrown : Int32) (t_taped : Int32) (t_size : Int32) (t_to : Int32) (t_from : Int32) (t_kind : Int32) (t_number : Int32) (t_fault : Int32) (t_spot : Int32) (t_word : Int64) (t_told : Int32) (t_isBegun : Int32) (t_had : Int32) (t_rowMany : Int32) (t_least : Int32) (t_shortMany : Int32) (t_mostWorth : Int32) (t_fitMany : Int32) (t_narrowCost : Int32) (t_now : (Nat → Int32)) : va_W := [(ht, .inr (12, [.int t_thrown, .ref ht_tape, .int t_taped, .int t_size, .int t_to, .int t_from, .int t_kind, .int t_number, .int t_fault, .int t_spot, .long t_word, .int t_told, .ref ht_now, .ref ht_read, .ref ht_kept, .ref ht_ground, .ref ht_readGround, .ref ht_keptGround, .ref ht_name, .ref ht_isKept, .int t_isBegun, .int t_had, .ref ht_louds, .ref ht_sharps, .ref ht_row, .ref ht_along, .ref ht_needs, .ref ht_best, .int t_rowMany, .ref ht_order, .ref ht_shortRow, .int t_least, .int t_shortMany, .ref ht_was, .ref ht_saved, .int t_mostWorth, .ref ht_next, .ref ht_fitted, .int t_fitMany, .int t_narrowCost, .ref ht_beam, .ref ht_heardAhead, .ref ht_sharesMost, .ref ht_sharesMoved, .ref ht_nextMost, .ref ht_nextMoved])), (ht_now, .inl (dA 0, 380, .inl t_now))]
def fX12_isThing (t_now : (Nat → Int32)) (x1_ : Int32) : Option (Int32) := (if x1_ < 0 then some (0 : Int32) else (fX12_things t_now ).bind fun o2 => (if o2 ≤ x1_ then some (0 : Int32) else some (1 : Int32)))
set_option maxHeartbeats 4000000 in
set_option maxRecDepth 100000 in
theorem qX12_isThing (l : Launch) (D : va_G) (dA : Nat → ClassId) (ht ht_tape ht_now ht_read ht_kept ht_ground ht_readGround ht_keptGround ht_name ht_isKept ht_louds ht_sharps ht_row ht_along ht_needs ht_best ht_order ht_shortRow ht_was ht_saved ht_next ht_fitted ht_beam ht_heardAhead ht_sharesMost ht_sharesMoved ht_nextMost ht_nextMoved : Nat) (t_thrown : Int32) (t_taped : Int32) (t_size : Int32) (t_to : Int32) (t_from : Int32) (t_kind : Int32) (t_number : Int32) (t_fault : Int32) (t_spot : Int32) (t_word : Int64) (t_told : Int32) (t_isBegun : Int32) (t_had : Int32) (t_rowMany : Int32) (t_least : Int32) (t_shortMany : Int32) (t_mostWorth : Int32) (t_fitMany : Int32) (t_narrowCost : Int32) (t_now : (Nat → Int32)) (x1_ : Int32) (o : Int32) (hf : fX12_isThing t_now x1_ = some o) : Mi l D dA yX12_isThing (Cond.code yX12_isThing cX12_isThing 2 (some .boolean) :: wA) 1 20 [.ref ht, .int x1_] (wX12_isThing dA ht ht_tape ht_now ht_read ht_kept ht_ground ht_readGround ht_keptGround ht_name ht_isKept ht_louds ht_sharps ht_row ht_along ht_needs ht_best ht_order ht_shortRow ht_was ht_saved ht_next ht_fitted ht_beam ht_heardAhead ht_sharesMost ht_sharesMoved ht_nextMost ht_nextMoved t_thrown t_taped t_size t_to t_from t_kind t_number t_fault t_spot t_word t_told t_isBegun t_had t_rowMany t_least t_shortMany t_mostWorth t_fitMany t_narrowCost t_now) (wX12_isThing dA ht ht_tape ht_now ht_read ht_kept ht_ground ht_readGround ht_keptGround ht_name ht_isKept ht_louds ht_sharps ht_row ht_along ht_needs ht_best ht_order ht_shortRow ht_was ht_saved ht_next ht_fitted ht_beam ht_heardAhead ht_sharesMost ht_sharesMoved ht_nextMost ht_nextMoved t_thrown t_taped t_size t_to t_from t_kind t_number t_fault t_spot t_word t_told t_isBegun t_had t_rowMany t_least t_shortMany t_mostWorth t_fitMany t_narrowCost t_now) o := by
  intro sz
  refine M_of (cc := cX12_isThing) (nL := 2) (ret := (some .boolean)) (own := RX12) (by decide +kernel) rfl (Nat.le_of_ble_eq_true rfl) ?_
  intro p e s m below meth c ls hsz C hw hl
  subst hsz
  have hR : 1 ≤ (rmm 1 20).frames ∧ 20 ≤ (rmm 1 20).locals ∧ 0 ≤ (rmm 1 20).cells ∧ 0 ≤ (rmm 1 20).slots := ⟨Nat.le_refl _, Nat.le_refl _, Nat.le_refl _, Nat.le_refl _⟩
  have hl : lv_has ls 2 [(0, .ref ht), (1, .int x1_)] := hl
  have hx := C.1
  have hb := C.2.1
  have hml := C.2.2.1
  have hown := C.2.2.2.1
  have hts := C.2.2.2.2.1
  have hK : ∀ (H : Heap) (locs : List Loc) (pc : Nat) (ls : Array Slot), (o = 0 ∨ o = 1) → decode cX12_isThing pc = .ok (.ireturn, 1) → St D (wX12_isThing dA ht ht_tape ht_now ht_read ht_kept ht_ground ht_readGround ht_keptGround ht_name ht_isKept ht_louds ht_sharps ht_row ht_along ht_needs ht_best ht_order ht_shortRow ht_was ht_saved ht_next ht_fitted ht_beam ht_heardAhead ht_sharesMost ht_sharesMoved ht_nextMost ht_nextMoved t_thrown t_taped t_size t_to t_from t_kind t_number t_fault t_spot t_word t_told t_isBegun t_had t_rowMany t_least t_shortMany t_mostWorth t_fitMany t_narrowCost t_now) s (wX12_isThing dA ht ht_tape ht_now ht_read ht_kept ht_ground ht_readGround ht_keptGround ht_name ht_isKept ht_louds ht_sharps ht_row ht_along ht_needs ht_best ht_order ht_shortRow ht_was ht_saved ht_next ht_fitted ht_beam ht_heardAhead ht_sharesMost ht_sharesMoved ht_nextMost ht_nextMoved t_thrown t_taped t_size t_to t_from t_kind t_number t_fault t_spot t_word t_told t_isBegun t_had t_rowMany t_least t_shortMany t_mostWorth t_fitMany t_narrowCost t_now) H locs → W p l e (rmm 1 20) s m [.ref ht, .int x1_].toArray below meth c H locs 0 0 (MQ below (Qi D (wX12_isThing dA ht ht_tape ht_now ht_read ht_kept ht_ground ht_readGround ht_keptGround ht_name ht_isKept ht_louds ht_sharps ht_row ht_along ht_needs ht_best ht_order ht_shortRow ht_was ht_saved ht_next ht_fitted ht_beam ht_heardAhead ht_sharesMost ht_sharesMoved ht_nextMost ht_nextMoved t_thrown t_taped t_size t_to t_from t_kind t_number t_fault t_spot t_word t_told t_isBegun t_had t_rowMany t_least t_shortMany t_mostWorth t_fitMany t_narrowCost t_now) (wX12_isThing dA ht ht_tape ht_now ht_read ht_kept ht_ground ht_readGround ht_keptGround ht_name ht_isKept ht_louds ht_sharps ht_row ht_along ht_needs ht_best ht_order ht_shortRow ht_was ht_saved ht_next ht_fitted ht_beam ht_heardAhead ht_sharesMost ht_sharesMoved ht_nextMost ht_nextMoved t_thrown t_taped t_size t_to t_from t_kind t_number t_fault t_spot t_word t_told t_isBegun t_had t_rowMany t_least t_shortMany t_mostWorth t_fitMany t_narrowCost t_now) o s.heap.size) [.ref ht, .int x1_].toArray s 0 0 (va_A (wX12_isThing dA ht ht_tape ht_now ht_read ht_kept ht_ground ht_readGround ht_keptGround ht_name ht_isKept ht_louds ht_sharps ht_row ht_along ht_needs ht_best ht_order ht_shortRow ht_was ht_saved ht_next ht_fitted ht_beam ht_heardAhead ht_sharesMost ht_sharesMoved ht_nextMost ht_nextMoved t_thrown t_taped t_size t_to t_from t_kind t_number t_fault t_spot t_word t_told t_isBegun t_had t_rowMany t_least t_shortMany t_mostWorth t_fitMany t_narrowCost t_now) s.heap.size)) (F0 m pc ls [.int o]) := fun H locs pc ls hz hd hw => k_zret C hw hz hd
  unfold fX12_isThing at hf
  refine lv_iload_n hx hb dX12_isThing_0 rfl (lv_at hl 1 rfl) ?_
  refine lv_if_lt (tgt := 16) hx hb dX12_isThing_1 (by decide) (fun c1 => ?_) (fun c1 => ?_)
  · have hf := ite_t c1 hf
    refine lv_iconst (v := (0 : Int32)) hx hb dX12_isThing_16 (by decide) ?_
    obtain rfl := some_r hf
    exact hK _ _ _ _ (Or.inl rfl) dX12_isThing_17 hw
  · have hf := ite_f c1 hf
    refine lv_iload_n hx hb dX12_isThing_4 rfl (lv_at hl 1 rfl) ?_
    refine lv_aload_n hx hb dX12_isThing_5 rfl (lv_at hl 0 rfl) ?_
    obtain ⟨o2, ho2, hf⟩ := bind_r hf
    refine k_callVi C hw (n := 0) (As := []) (w1 := (wX12_isThing dA ht ht_tape ht_now ht_read ht_kept ht_ground ht_readGround ht_keptGround ht_name ht_isKept ht_louds ht_sharps ht_row ht_along ht_needs ht_best ht_order ht_shortRow ht_was ht_saved ht_next ht_fitted ht_beam ht_heardAhead ht_sharesMost ht_sharesMoved ht_nextMost ht_nextMoved t_thrown t_taped t_size t_to t_from t_kind t_number t_fault t_spot t_word t_told t_isBegun t_had t_rowMany t_least t_shortMany t_mostWorth t_fitMany t_narrowCost t_now)) (wr := []) [0, 1] [] [0, 1] rfl rfl (by decide) (by decide) (by decide) rfl (by decide) (qX12_things l D dA ht ht_tape ht_now ht_read ht_kept ht_ground ht_readGround ht_keptGround ht_name ht_isKept ht_louds ht_sharps ht_row ht_along ht_needs ht_best ht_order ht_shortRow ht_was ht_saved ht_next ht_fitted ht_beam ht_heardAhead ht_sharesMost ht_sharesMoved ht_nextMost ht_nextMoved t_thrown t_taped t_size t_to t_from t_kind t_number t_fault t_spot t_word t_told t_isBegun t_had t_rowMany t_least t_shortMany t_mostWorth t_fitMany t_narrowCost t_now  _ ho2) wlX12_176 wmX12_things wvX12_things wnX12 wcX12_things rfl (by decide +kernel) ⟨Nat.le_trans (by decide) hR.1, Nat.le_trans (by decide) hR.2.1⟩ hR.2.2 rfl 0 rfl rfl hl.1 (Nat.le_of_ble_eq_true rfl) dX12_isThing_6 rfl (fun H locs hw => ?_)
    refine lv_icmp_ge (tgt := 16) hx hb dX12_isThing_9 (by decide) (fun c3 => ?_) (fun c3 => ?_)
    · have hf := ite_t c3 hf
      refine lv_iconst (v := (0 : Int32)) hx hb dX12_isThing_16 (by decide) ?_
      obtain rfl := some_r hf
      exact hK _ _ _ _ (Or.inl rfl) dX12_isThing_17 hw
    · have hf := ite_f c3 hf
      refine lv_iconst (v := (1 : Int32)) hx hb dX12_isThing_12 (by decide) ?_
      refine lv_goto (tgt := 17) hx hb dX12_isThing_13 (by decide) ?_
      obtain rfl := some_r hf
      exact hK _ _ _ _ (Or.inr rfl) dX12_isThing_17 hw
