/-! lies, lyingAt: which word lies on the tape -/
def lyk (tp : Nat → Int32) (f t k : Nat) : Bool := decide (t - f = wln.getD k 0) && !decide (fa_first (fun j => decide (¬ tp (f + j) = wch k j)) (wln.getD k 0) < wln.getD k 0)
set_option maxHeartbeats 4000000 in
theorem zX10_lies (l : Launch) (D : va_G) (dA : Nat → ClassId) (z : ZA) (h1 n k f t : Nat) (tp : Nat → Int32) (hk : k < 15) (hft : f ≤ t) (htn : t ≤ n) (hn : n < 100000) (r : Int32) (hr : r = if lyk tp f t k = true then 1 else 0) : MiS l D dA z yX10_lies (Cond.code yX10_lies cX10_lies 5 (some .boolean) :: wA) 4 110 [.ref (z.1 k), .ref h1, .int (nI f), .int (nI t)] [(h1, .inl (dA 2, n, .inl tp))] [(h1, .inl (dA 2, n, .inl tp))] r := by
  intro sz
  refine M_ofS (cc := cX10_lies) (nL := 5) (ret := some .boolean) (own := RX10) (by decide +kernel) rfl (Nat.le_of_ble_eq_true rfl) ?_
  intro p e s m below meth c ls hsz C hw hz hl
  subst hsz
  have hl : lv_has ls 5 [(0, .ref (z.1 k)), (1, .ref h1), (2, .int (nI f)), (3, .int (nI t))] := hl
  have hx := C.1
  have hb := C.2.1
  have hown := C.2.2.2.1
  have hts := C.2.2.2.2.1
  have h6 := wln_6 k hk
  refine lv_iload_n hx hb dX10_lies_0 rfl (lv_at hl 2 rfl) ?_
  refine lv_if_lt (tgt := 23) hx hb dX10_lies_1 (by decide) (fun q => absurd q (nI_nlt0 (by omega))) (fun _ => ?_)
  refine lv_iload_n hx hb dX10_lies_4 rfl (lv_at hl 3 rfl) ?_
  refine lv_aload_n hx hb dX10_lies_5 rfl (lv_at hl 1 rfl) ?_
  refine k_alen C hw 0 2 rfl rfl (v := nI n) rfl dX10_lies_6 ?_
  refine lv_icmp_gt (tgt := 23) hx hb dX10_lies_7 (by decide) (fun q => absurd q (nI_nlt htn (by omega))) (fun _ => ?_)
  refine lv_iload_n hx hb dX10_lies_10 rfl (lv_at hl 3 rfl) ?_
  refine lv_iload_n hx hb dX10_lies_11 rfl (lv_at hl 2 rfl) ?_
  refine lv_isub hx hb dX10_lies_12 ?_
  refine lv_aload_n hx hb dX10_lies_13 rfl (lv_at hl 0 rfl) ?_
  refine va_getX hx hb hz.2.1 hk hw.2.2 hown (hts _ wfX10_70) (fun _ y => y) dX10_lies_14 ?_
  refine k_zcallKi C hw hz (n := 0) (As := []) (w1 := [(h1, .inl (dA 2, n, .inl tp))]) (wr := [(h1, .inl (dA 2, n, .inl tp))]) [] [0] [0] rfl rfl (by decide) (by decide) (by decide) rfl (by decide) (zJ0_length l D dA z k hk) wlX10_91 wmJ0_length_8abf5 wvJ0_length_8abf5 wnJ0 wcJ0_length_8abf5 rfl (by decide +kernel) ⟨Nat.le_of_ble_eq_true rfl, Nat.le_of_ble_eq_true rfl⟩ ⟨Nat.le_refl _, Nat.le_refl _⟩ rfl (vk_recv hz.2.2.1 hk hw.2.2) hl.1 (Nat.le_of_ble_eq_true rfl) dX10_lies_17 rfl (fun H locs hw => ?_)
  rw [pk_sub hft]
  refine lv_icmp_eq (tgt := 25) hx hb dX10_lies_20 (by decide) (fun q => ?_) (fun q => ?_)
  · have q : t - f = wln.getD k 0 := (nI_eq (by omega) (by omega)).mp q
    refine lv_iconst (v := (0 : Int32)) hx hb dX10_lies_25 (by decide) ?_
    refine lv_istore (lv' := [(4, .int (0 : Int32)), (0, .ref (z.1 k)), (1, .ref h1), (2, .int (nI f)), (3, .int (nI t))]) hx hb dX10_lies_26 hl (by decide) rfl (fun ls hl => ?_)
    have loop : ∀ (d j : Nat) (H : Heap) (locs : List Loc) (ls : Array Slot), j + d = wln.getD k 0 → (∀ i, i < j → tp (f + i) = wch k i) → lv_has ls 5 [(4, .int (nI j)), (0, .ref (z.1 k)), (1, .ref h1), (2, .int (nI f)), (3, .int (nI t))] → St D [(h1, .inl (dA 2, n, .inl tp))] s [(h1, .inl (dA 2, n, .inl tp))] H locs → W p l e (rmm 4 110) s m [.ref (z.1 k), .ref h1, .int (nI f), .int (nI t)].toArray below meth c H locs 0 0 (MQ below (Qi D [(h1, .inl (dA 2, n, .inl tp))] [(h1, .inl (dA 2, n, .inl tp))] r s.heap.size) [.ref (z.1 k), .ref h1, .int (nI f), .int (nI t)].toArray s 0 0 (va_A [(h1, .inl (dA 2, n, .inl tp))] s.heap.size)) (F0 m 28 ls []) := by
      intro d
      induction d with
      | zero =>
        intro j H locs ls hj heq hl hw
        have ej : j = wln.getD k 0 := by omega
        have e1 : r = 1 := by
          rw [hr, if_pos]
          unfold lyk
          rw [decide_eq_true q, Bool.true_and, decide_eq_false (ff_no (fun i hi => decide_eq_false (fun y => y (heq i (by omega)))))]
          rfl
        subst e1
        refine lv_iload hx hb dX10_lies_28 (lv_at hl 0 rfl) ?_
        refine lv_aload_n hx hb dX10_lies_30 rfl (lv_at hl 1 rfl) ?_
        refine va_getX hx hb hz.2.1 hk hw.2.2 hown (hts _ wfX10_70) (fun _ y => y) dX10_lies_31 ?_
        refine k_zcallKi C hw hz (n := 0) (As := []) (w1 := [(h1, .inl (dA 2, n, .inl tp))]) (wr := [(h1, .inl (dA 2, n, .inl tp))]) [] [0] [0] rfl rfl (by decide) (by decide) (by decide) rfl (by decide) (zJ0_length l D dA z k hk) wlX10_91 wmJ0_length_8abf5 wvJ0_length_8abf5 wnJ0 wcJ0_length_8abf5 rfl (by decide +kernel) ⟨Nat.le_of_ble_eq_true rfl, Nat.le_of_ble_eq_true rfl⟩ ⟨Nat.le_refl _, Nat.le_refl _⟩ rfl (vk_recv hz.2.2.1 hk hw.2.2) hl.1 (Nat.le_of_ble_eq_true rfl) dX10_lies_34 rfl (fun H locs hw => ?_)
        refine lv_icmp_ge (tgt := 66) hx hb dX10_lies_37 (by decide) (fun _ => ?_) (fun y => absurd (nI_le (show wln.getD k 0 ≤ j by omega) (by omega)) y)
        refine lv_iconst (v := (1 : Int32)) hx hb dX10_lies_66 (by decide) ?_
        exact k_zret C hw (Or.inr rfl) dX10_lies_67
      | succ d ih =>
        intro j H locs ls hj heq hl hw
        have hjl : j < wln.getD k 0 := by omega
        refine lv_iload hx hb dX10_lies_28 (lv_at hl 0 rfl) ?_
        refine lv_aload_n hx hb dX10_lies_30 rfl (lv_at hl 1 rfl) ?_
        refine va_getX hx hb hz.2.1 hk hw.2.2 hown (hts _ wfX10_70) (fun _ y => y) dX10_lies_31 ?_
        refine k_zcallKi C hw hz (n := 0) (As := []) (w1 := [(h1, .inl (dA 2, n, .inl tp))]) (wr := [(h1, .inl (dA 2, n, .inl tp))]) [] [0] [0] rfl rfl (by decide) (by decide) (by decide) rfl (by decide) (zJ0_length l D dA z k hk) wlX10_91 wmJ0_length_8abf5 wvJ0_length_8abf5 wnJ0 wcJ0_length_8abf5 rfl (by decide +kernel) ⟨Nat.le_of_ble_eq_true rfl, Nat.le_of_ble_eq_true rfl⟩ ⟨Nat.le_refl _, Nat.le_refl _⟩ rfl (vk_recv hz.2.2.1 hk hw.2.2) hl.1 (Nat.le_of_ble_eq_true rfl) dX10_lies_34 rfl (fun H locs hw => ?_)
        refine lv_icmp_ge (tgt := 66) hx hb dX10_lies_37 (by decide) (fun y => absurd y (nI_ge hjl (by omega))) (fun _ => ?_)
        refine lv_aload_n hx hb dX10_lies_40 rfl (lv_at hl 2 rfl) ?_
        refine lv_iload_n hx hb dX10_lies_41 rfl (lv_at hl 3 rfl) ?_
        refine lv_iload hx hb dX10_lies_42 (lv_at hl 0 rfl) ?_
        refine lv_iadd hx hb dX10_lies_44 ?_
        rw [nI_add]
        refine k_bald C hw 0 rfl (pk_in (f + j) n (by omega) rfl (by omega)) dX10_lies_45 ?_
        rw [nI_clamp (show f + j < 2 ^ 31 by omega)]
        refine lv_aload_n hx hb dX10_lies_46 rfl (lv_at hl 1 rfl) ?_
        refine va_getX hx hb hz.2.1 hk hw.2.2 hown (hts _ wfX10_70) (fun _ y => y) dX10_lies_47 ?_
        refine lv_iload hx hb dX10_lies_50 (lv_at hl 0 rfl) ?_
        refine k_zcallKi C hw hz (n := 1) (As := [.int (nI j)]) (w1 := [(h1, .inl (dA 2, n, .inl tp))]) (wr := [(h1, .inl (dA 2, n, .inl tp))]) [] [0] [0] rfl rfl (by decide) (by decide) (by decide) rfl (by decide) (zJ0_charAt l D dA z k j hk hjl) wlX10_97 wmJ0_charAt_5068e wvJ0_charAt_5068e wnJ0 wcJ0_charAt_5068e rfl (by decide +kernel) ⟨Nat.le_of_ble_eq_true rfl, Nat.le_of_ble_eq_true rfl⟩ ⟨Nat.le_refl _, Nat.le_refl _⟩ rfl (vk_recv hz.2.2.1 hk hw.2.2) hl.1 (Nat.le_of_ble_eq_true rfl) dX10_lies_52 rfl (fun H locs hw => ?_)
        refine lv_icmp_eq (tgt := 60) hx hb dX10_lies_55 (by decide) (fun y => ?_) (fun y => ?_)
        · refine lv_iinc (v := nI (j + 1)) (lv' := [(4, .int (nI (j + 1))), (0, .ref (z.1 k)), (1, .ref h1), (2, .int (nI f)), (3, .int (nI t))]) hx hb dX10_lies_60 hl (k := 0) rfl (by rw [← nI_1]; rfl) (by decide) rfl (fun ls hl => ?_)
          refine lv_goto (tgt := 28) hx hb dX10_lies_63 (by decide) ?_
          refine ih (j + 1) H locs ls (by omega) (fun i hi => ?_) hl hw
          by_cases e : i = j
          · rw [e]
            exact y
          · exact heq i (by omega)
        · have e1 : r = 0 := by
            rw [hr, if_neg]
            unfold lyk
            rw [decide_eq_true (ff_yes hjl (decide_eq_true y))]
            rw [Bool.not_true, Bool.and_false]
            decide
          subst e1
          refine lv_iconst (v := (0 : Int32)) hx hb dX10_lies_58 (by decide) ?_
          exact k_zret C hw (Or.inl rfl) dX10_lies_59
    exact loop (wln.getD k 0) 0 H locs ls (by omega) (fun i hi => absurd hi (Nat.not_lt_zero i)) hl hw
  · have q : ¬ t - f = wln.getD k 0 := fun y => q (by rw [y])
    have e1 : r = 0 := by
      rw [hr, if_neg]
      unfold lyk
      rw [decide_eq_false q, Bool.false_and]
      decide
    subst e1
    refine lv_iconst (v := (0 : Int32)) hx hb dX10_lies_23 (by decide) ?_
    exact k_zret C hw (Or.inl rfl) dX10_lies_24
theorem fa_first_at {p : Nat → Bool} {n k : Nat} (hk : k < n) (hp : p k = true) (hno : ∀ i, i < k → p i = false) : fa_first p n = k := by
  rcases Nat.lt_trichotomy (fa_first p n) k with q | q | q
  · have h1 := fa_first_yes p n (by omega)
    rw [hno _ q] at h1
    exact absurd h1 (by decide)
  · exact q
  · have h1 := fa_first_no p n k q
    rw [hp] at h1
    exact absurd h1 (by decide)
/-- the word that lies there; none: -1 -/
def lya (tp : Nat → Int32) (f t : Nat) : Int32 := if fa_first (lyk tp f t) 15 < 15 then nI (fa_first (lyk tp f t) 15) else -1
set_option maxHeartbeats 4000000 in
theorem zX10_lyingAt (l : Launch) (D : va_G) (dA : Nat → ClassId) (z : ZA) (h1 n f t : Nat) (tp : Nat → Int32) (hft : f ≤ t) (htn : t ≤ n) (hn : n < 100000) : MqS l D dA z yX10_lyingAt (Cond.code yX10_lyingAt cX10_lyingAt 4 (some (.object "RingPlaces$Word")) :: wA) 5 140 [.ref h1, .int (nI f), .int (nI t)] [(h1, .inl (dA 2, n, .inl tp))] [(h1, .inl (dA 2, n, .inl tp))] (lya tp f t) := by
  intro sz
  refine M_ofS (cc := cX10_lyingAt) (nL := 4) (ret := some (.object "RingPlaces$Word")) (own := RX10) (by decide +kernel) rfl (Nat.le_of_ble_eq_true rfl) ?_
  intro p e s m below meth c ls hsz C hw hz hl
  subst hsz
  have hl : lv_has ls 4 [(0, .ref h1), (1, .int (nI f)), (2, .int (nI t))] := hl
  have hx := C.1
  have hb := C.2.1
  have hown := C.2.2.2.1
  have hts := C.2.2.2.2.1
  refine lv_iconst (v := (0 : Int32)) hx hb dX10_lyingAt_0 (by decide) ?_
  refine lv_istore_n (lv' := [(3, .int (0 : Int32)), (0, .ref h1), (1, .int (nI f)), (2, .int (nI t))]) hx hb dX10_lyingAt_1 rfl hl (by decide) rfl (fun ls hl => ?_)
  have loop : ∀ (d k : Nat) (H : Heap) (locs : List Loc) (ls : Array Slot), k + d = 15 → (∀ i, i < k → lyk tp f t i = false) → lv_has ls 4 [(3, .int (nI k)), (0, .ref h1), (1, .int (nI f)), (2, .int (nI t))] → St D [(h1, .inl (dA 2, n, .inl tp))] s [(h1, .inl (dA 2, n, .inl tp))] H locs → W p l e (rmm 5 140) s m [.ref h1, .int (nI f), .int (nI t)].toArray below meth c H locs 0 0 (MQ below (Qw D z [(h1, .inl (dA 2, n, .inl tp))] [(h1, .inl (dA 2, n, .inl tp))] (lya tp f t) s.heap.size) [.ref h1, .int (nI f), .int (nI t)].toArray s 0 0 (va_A [(h1, .inl (dA 2, n, .inl tp))] s.heap.size)) (F0 m 2 ls []) := by
    intro d
    induction d with
    | zero =>
      intro k H locs ls hk hno hl hw
      have ek : k = 15 := by omega
      subst ek
      refine lv_iload_n hx hb dX10_lyingAt_2 rfl (lv_at hl 0 rfl) ?_
      refine va_gets hx hb hz.2.2.2.2.1 hw.2.2 hown (hts _ wfX10_84) (fun _ y => y) dX10_lyingAt_3 ?_
      refine va_tlen hx hb hz.2.2.2.1 hw.2.2 (v := nI 15) rfl dX10_lyingAt_6 ?_
      refine lv_icmp_ge (tgt := 36) hx hb dX10_lyingAt_7 (by decide) (fun _ => ?_) (fun y => absurd (nI_le (Nat.le_refl 15) (by decide)) y)
      refine lv_null hx hb dX10_lyingAt_36 ?_
      refine k_qret C hw dX10_lyingAt_37 ?_
      unfold lya
      rw [if_neg (ff_no hno)]
      rfl
    | succ d ih =>
      intro k H locs ls hk hno hl hw
      have hk15 : k < 15 := by omega
      refine lv_iload_n hx hb dX10_lyingAt_2 rfl (lv_at hl 0 rfl) ?_
      refine va_gets hx hb hz.2.2.2.2.1 hw.2.2 hown (hts _ wfX10_84) (fun _ y => y) dX10_lyingAt_3 ?_
      refine va_tlen hx hb hz.2.2.2.1 hw.2.2 (v := nI 15) rfl dX10_lyingAt_6 ?_
      refine lv_icmp_ge (tgt := 36) hx hb dX10_lyingAt_7 (by decide) (fun y => absurd y (nI_ge hk15 (by decide))) (fun _ => ?_)
      refine va_gets hx hb hz.2.2.2.2.1 hw.2.2 hown (hts _ wfX10_84) (fun _ y => y) dX10_lyingAt_10 ?_
      refine lv_iload_n hx hb dX10_lyingAt_13 rfl (lv_at hl 0 rfl) ?_
      refine vb_tq hx hb hz.2.2.2.1 hw.2.2 (v := .ref (z.1 k)) (pk_in k 15 hk15) (by rw [nI_clamp (by omega)]) dX10_lyingAt_14 ?_
      refine lv_aload_n hx hb dX10_lyingAt_15 rfl (lv_at hl 1 rfl) ?_
      refine lv_iload_n hx hb dX10_lyingAt_16 rfl (lv_at hl 2 rfl) ?_
      refine lv_iload_n hx hb dX10_lyingAt_17 rfl (lv_at hl 3 rfl) ?_
      refine k_zcallKi C hw hz (n := 3) (As := [.ref h1, .int (nI f), .int (nI t)]) (w1 := [(h1, .inl (dA 2, n, .inl tp))]) (wr := []) [0] [] [0] rfl rfl (by decide) (by decide) (by decide) rfl (by decide) (zX10_lies l D dA z h1 n k f t tp hk15 hft htn hn _ rfl) wlX10_87 wmX10_lies wvX10_lies wnX10 wcX10_lies rfl (by decide +kernel) ⟨Nat.le_of_ble_eq_true rfl, Nat.le_of_ble_eq_true rfl⟩ ⟨Nat.le_refl _, Nat.le_refl _⟩ rfl (va_recvE hz.1 hk15 hw.2.2) hl.1 (Nat.le_of_ble_eq_true rfl) dX10_lyingAt_18 rfl (fun H locs hw => ?_)
      by_cases c1 : lyk tp f t k = true
      · rw [if_pos c1]
        refine lv_if_eq (tgt := 30) hx hb dX10_lyingAt_21 (by decide) (fun y => absurd y (by decide)) (fun _ => ?_)
        refine va_gets hx hb hz.2.2.2.2.1 hw.2.2 hown (hts _ wfX10_84) (fun _ y => y) dX10_lyingAt_24 ?_
        refine lv_iload_n hx hb dX10_lyingAt_27 rfl (lv_at hl 0 rfl) ?_
        refine vb_tq hx hb hz.2.2.2.1 hw.2.2 (v := .ref (z.1 k)) (pk_in k 15 hk15) (by rw [nI_clamp (by omega)]) dX10_lyingAt_28 ?_
        refine k_qret C hw dX10_lyingAt_29 ?_
        have e1 : fa_first (lyk tp f t) 15 = k := fa_first_at hk15 c1 hno
        unfold lya
        rw [e1, if_pos hk15]
        unfold we
        rw [if_neg (nI_m1 (by omega)), nI_clamp (by omega)]
        rfl
      · rw [if_neg c1]
        refine lv_if_eq (tgt := 30) hx hb dX10_lyingAt_21 (by decide) (fun _ => ?_) (fun y => absurd rfl y)
        refine lv_iinc (v := nI (k + 1)) (lv' := [(3, .int (nI (k + 1))), (0, .ref h1), (1, .int (nI f)), (2, .int (nI t))]) hx hb dX10_lyingAt_30 hl (k := 0) rfl (by rw [← nI_1]; rfl) (by decide) rfl (fun ls hl => ?_)
        refine lv_goto (tgt := 2) hx hb dX10_lyingAt_33 (by decide) ?_
        refine ih (k + 1) H locs ls (by omega) (fun i hi => ?_) hl hw
        by_cases e : i = k
        · rw [e]
          cases q : lyk tp f t k with
          | false => rfl
          | true => exact absurd q c1
        · exact hno i (by omega)
  exact loop 15 0 s.heap [] ls (by omega) (fun i hi => absurd hi (Nat.not_lt_zero i)) hl hw
