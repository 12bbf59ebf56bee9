/-! String's own methods over the words' texts; lies, lyingAt -/
set_option maxHeartbeats 1000000 in
theorem zJ0_coder (l : Launch) (D : va_G) (dA : Nat → ClassId) (z : ZA) (k : Nat) (hk : k < 15) : MiS l D dA z yJ0_coder_7d493 (Cond.code yJ0_coder_7d493 cJ0_coder_7d493 1 (some .byte) :: wA) 0 0 [.ref (z.2.1 k)] [] [] 0 := by
  intro sz
  refine M_ofFS (cc := cJ0_coder_7d493) (nL := 1) (ret := some .byte) (own := RJ0) (by decide +kernel) rfl (Nat.le_of_ble_eq_true rfl) ?_
  intro p e s m below meth c ls hsz C hw hz hl
  subst hsz
  have hl : lv_has ls 1 [(0, .ref (z.2.1 k))] := hl
  have hx := C.1
  have hb := C.2.1
  have hown := C.2.2.2.1
  have hts := C.2.2.2.2.1
  refine va_gets hx hb hz.2.2.2.2.2.1 hw.2.2 hown (hts _ wfJ0_38) (fun _ y => y) dJ0_coder_7d493_0 ?_
  refine lv_if_eq (tgt := 13) hx hb dJ0_coder_7d493_3 (by decide) (fun q => absurd q (by decide)) (fun _ => ?_)
  refine lv_aload_n hx hb dJ0_coder_7d493_6 rfl (lv_at hl 0 rfl) ?_
  refine vk_getf hx hb (hz.2.2.1.1 k hk).2.1 hw.2.2 hown (hts _ wfJ0_15) (fun _ y => y) dJ0_coder_7d493_7 ?_
  refine lv_goto (tgt := 14) hx hb dJ0_coder_7d493_10 (by decide) ?_
  exact k_nret C hw (by decide) dJ0_coder_7d493_14
set_option maxHeartbeats 1000000 in
theorem zJ0_isLatin1 (l : Launch) (D : va_G) (dA : Nat → ClassId) (z : ZA) (k : Nat) (hk : k < 15) : MiS l D dA z yJ0_isLatin1_aae02 (Cond.code yJ0_isLatin1_aae02 cJ0_isLatin1_aae02 1 (some .boolean) :: wA) 0 0 [.ref (z.2.1 k)] [] [] 1 := by
  intro sz
  refine M_ofFS (cc := cJ0_isLatin1_aae02) (nL := 1) (ret := some .boolean) (own := RJ0) (by decide +kernel) rfl (Nat.le_of_ble_eq_true rfl) ?_
  intro p e s m below meth c ls hsz C hw hz hl
  subst hsz
  have hl : lv_has ls 1 [(0, .ref (z.2.1 k))] := hl
  have hx := C.1
  have hb := C.2.1
  have hown := C.2.2.2.1
  have hts := C.2.2.2.2.1
  refine va_gets hx hb hz.2.2.2.2.2.1 hw.2.2 hown (hts _ wfJ0_38) (fun _ y => y) dJ0_isLatin1_aae02_0 ?_
  refine lv_if_eq (tgt := 17) hx hb dJ0_isLatin1_aae02_3 (by decide) (fun q => absurd q (by decide)) (fun _ => ?_)
  refine lv_aload_n hx hb dJ0_isLatin1_aae02_6 rfl (lv_at hl 0 rfl) ?_
  refine vk_getf hx hb (hz.2.2.1.1 k hk).2.1 hw.2.2 hown (hts _ wfJ0_15) (fun _ y => y) dJ0_isLatin1_aae02_7 ?_
  refine lv_if_ne (tgt := 17) hx hb dJ0_isLatin1_aae02_10 (by decide) (fun q => absurd rfl q) (fun _ => ?_)
  refine lv_iconst (v := (1 : Int32)) hx hb dJ0_isLatin1_aae02_13 (by decide) ?_
  refine lv_goto (tgt := 18) hx hb dJ0_isLatin1_aae02_14 (by decide) ?_
  exact k_zret C hw (Or.inr rfl) dJ0_isLatin1_aae02_18
theorem wsh : ∀ k, k < 15 → Int32.ofNat (wln.getD k 0) >>> ((0 : Int32) &&& 31) = nI (wln.getD k 0) := by decide +kernel
set_option maxHeartbeats 1000000 in
theorem zJ0_length (l : Launch) (D : va_G) (dA : Nat → ClassId) (z : ZA) (k : Nat) (hk : k < 15) : MiS l D dA z yJ0_length_8abf5 (Cond.code yJ0_length_8abf5 cJ0_length_8abf5 1 (some .int) :: wA) 1 20 [.ref (z.2.1 k)] [] [] (nI (wln.getD k 0)) := by
  intro sz
  refine M_ofFS (cc := cJ0_length_8abf5) (nL := 1) (ret := some .int) (own := RJ0) (by decide +kernel) rfl (Nat.le_of_ble_eq_true rfl) ?_
  intro p e s m below meth c ls hsz C hw hz hl
  subst hsz
  have hl : lv_has ls 1 [(0, .ref (z.2.1 k))] := hl
  have hx := C.1
  have hb := C.2.1
  have hown := C.2.2.2.1
  have hts := C.2.2.2.2.1
  refine lv_aload_n hx hb dJ0_length_8abf5_0 rfl (lv_at hl 0 rfl) ?_
  refine vk_getf hx hb (hz.2.2.1.1 k hk).2.2.1 hw.2.2 hown (hts _ wfJ0_9) (fun _ y => y) dJ0_length_8abf5_1 ?_
  refine va_tlen hx hb (hz.2.2.1.1 k hk).2.2.2 hw.2.2 rfl dJ0_length_8abf5_4 ?_
  refine lv_aload_n hx hb dJ0_length_8abf5_5 rfl (lv_at hl 0 rfl) ?_
  refine k_zcallKi C hw hz (n := 0) (As := []) (w1 := []) (wr := []) [] [] [] rfl rfl (by decide) (by decide) (by decide) rfl (by decide) (zJ0_coder l D dA z k hk) wlJ0_335 wmJ0_coder_7d493 wvJ0_coder_7d493 wnJ0 wcJ0_coder_7d493 rfl (by decide +kernel) ⟨Nat.le_of_ble_eq_true rfl, Nat.le_of_ble_eq_true rfl⟩ ⟨Nat.le_refl _, Nat.le_refl _⟩ rfl (vk_recv hz.2.2.1 hk hw.2.2) hl.1 (Nat.le_of_ble_eq_true rfl) dJ0_length_8abf5_6 rfl (fun H locs hw => ?_)
  refine lv_ishr hx hb dJ0_length_8abf5_9 ?_
  rw [wsh k hk]
  exact k_iret C hw dJ0_length_8abf5_10
set_option maxHeartbeats 1000000 in
theorem zJ3_checkIndex (l : Launch) (D : va_G) (dA : Nat → ClassId) (j n : Nat) (hj : j < n) (hn : n < 2 ^ 31) (r : Option Nat) : Mi l D dA yJ3_checkIndex_8e157 (Cond.code yJ3_checkIndex_8e157 cJ3_checkIndex_8e157 3 (some .int) :: wA) 0 0 [.int (nI j), .int (nI n), va_rf r] [] [] (nI j) := by
  intro sz
  cases r with
  | none =>
    refine M_ofF (cc := cJ3_checkIndex_8e157) (nL := 3) (ret := some .int) (own := RJ3) (by decide +kernel) rfl (Nat.le_of_ble_eq_true rfl) ?_
    intro p e s m below meth c ls hsz C hw hl
    subst hsz
    have hl : lv_has ls 3 [(0, .int (nI j)), (1, .int (nI n)), (2, .null)] := hl
    have hx := C.1
    have hb := C.2.1
    refine lv_iload_n hx hb dJ3_checkIndex_8e157_0 rfl (lv_at hl 0 rfl) ?_
    refine lv_if_lt (tgt := 9) hx hb dJ3_checkIndex_8e157_1 (by decide) (fun q => absurd q (nI_nlt0 (by omega))) (fun _ => ?_)
    refine lv_iload_n hx hb dJ3_checkIndex_8e157_4 rfl (lv_at hl 0 rfl) ?_
    refine lv_iload_n hx hb dJ3_checkIndex_8e157_5 rfl (lv_at hl 1 rfl) ?_
    refine lv_icmp_lt (tgt := 16) hx hb dJ3_checkIndex_8e157_6 (by decide) (fun _ => ?_) (fun q => absurd (nI_lt hj hn) q)
    refine lv_iload_n hx hb dJ3_checkIndex_8e157_16 rfl (lv_at hl 0 rfl) ?_
    exact k_iret C hw dJ3_checkIndex_8e157_17
  | some q =>
    refine M_ofF (cc := cJ3_checkIndex_8e157) (nL := 3) (ret := some .int) (own := RJ3) (by decide +kernel) rfl (Nat.le_of_ble_eq_true rfl) ?_
    intro p e s m below meth c ls hsz C hw hl
    subst hsz
    have hl : lv_has ls 3 [(0, .int (nI j)), (1, .int (nI n)), (2, .ref q)] := hl
    have hx := C.1
    have hb := C.2.1
    refine lv_iload_n hx hb dJ3_checkIndex_8e157_0 rfl (lv_at hl 0 rfl) ?_
    refine lv_if_lt (tgt := 9) hx hb dJ3_checkIndex_8e157_1 (by decide) (fun q => absurd q (nI_nlt0 (by omega))) (fun _ => ?_)
    refine lv_iload_n hx hb dJ3_checkIndex_8e157_4 rfl (lv_at hl 0 rfl) ?_
    refine lv_iload_n hx hb dJ3_checkIndex_8e157_5 rfl (lv_at hl 1 rfl) ?_
    refine lv_icmp_lt (tgt := 16) hx hb dJ3_checkIndex_8e157_6 (by decide) (fun _ => ?_) (fun q => absurd (nI_lt hj hn) q)
    refine lv_iload_n hx hb dJ3_checkIndex_8e157_16 rfl (lv_at hl 0 rfl) ?_
    exact k_iret C hw dJ3_checkIndex_8e157_17
set_option maxHeartbeats 1000000 in
theorem zJ0_checkIndex (l : Launch) (D : va_G) (dA : Nat → ClassId) (z : ZA) (j n : Nat) (hj : j < n) (hn : n < 2 ^ 31) : MvS l D dA z yJ0_checkIndex_df160 (Cond.code yJ0_checkIndex_df160 cJ0_checkIndex_df160 2 none :: wA) 1 22 [.int (nI j), .int (nI n)] [] [] := by
  intro sz
  refine M_ofFS (cc := cJ0_checkIndex_df160) (nL := 2) (ret := none) (own := RJ0) (by decide +kernel) rfl (Nat.le_of_ble_eq_true rfl) ?_
  intro p e s m below meth c ls hsz C hw hz hl
  subst hsz
  have hl : lv_has ls 2 [(0, .int (nI j)), (1, .int (nI n))] := hl
  have hx := C.1
  have hb := C.2.1
  have hown := C.2.2.2.1
  have hts := C.2.2.2.2.1
  obtain ⟨r, hr⟩ := hz.2.2.2.2.2.2
  refine lv_iload_n hx hb dJ0_checkIndex_df160_0 rfl (lv_at hl 0 rfl) ?_
  refine lv_iload_n hx hb dJ0_checkIndex_df160_1 rfl (lv_at hl 1 rfl) ?_
  refine va_gets hx hb hr hw.2.2 hown (hts _ wfJ0_1053) (fun _ y => y) dJ0_checkIndex_df160_2 ?_
  refine k_callSi C hw (n := 3) (As := [.int (nI j), .int (nI n), va_rf r]) (w1 := []) (wr := []) [] [] [] rfl rfl (by decide) (by decide) (by decide) rfl (by decide) (zJ3_checkIndex l D dA j n hj hn r) wlJ0_1059 wsJ3_checkIndex_8e157_t wnJ3 wcJ3_checkIndex_8e157 (by decide +kernel) ⟨Nat.le_of_ble_eq_true rfl, Nat.le_of_ble_eq_true rfl⟩ ⟨Nat.le_refl _, Nat.le_refl _⟩ rfl hl.1 (Nat.le_of_ble_eq_true rfl) dJ0_checkIndex_df160_5 rfl (fun H locs hw => ?_)
  refine lv_pop hx hb dJ0_checkIndex_df160_8 rfl ?_
  exact k_vret C hw dJ0_checkIndex_df160_9
def wch (k j : Nat) : Int32 := (wby.getD k []).getD j 0
theorem wch_c : ∀ k, k < 15 → ∀ j, j < wln.getD k 0 → ((wch k j &&& 255).toUInt32 % 65536).toInt32 = wch k j ∧ narrow .char (.int (wch k j)) = .int (wch k j) := by decide +kernel
theorem wln_6 : ∀ k, k < 15 → wln.getD k 0 ≤ 6 := by decide +kernel
set_option maxHeartbeats 1000000 in
theorem zJ1_charAt (l : Launch) (D : va_G) (dA : Nat → ClassId) (z : ZA) (k j : Nat) (hk : k < 15) (hj : j < wln.getD k 0) : MiS l D dA z yJ1_charAt_3b067 (Cond.code yJ1_charAt_3b067 cJ1_charAt_3b067 2 (some .char) :: wA) 2 50 [.ref (z.2.2.1 k), .int (nI j)] [] [] (wch k j) := by
  intro sz
  refine M_ofFS (cc := cJ1_charAt_3b067) (nL := 2) (ret := some .char) (own := RJ1) (by decide +kernel) rfl (Nat.le_of_ble_eq_true rfl) ?_
  intro p e s m below meth c ls hsz C hw hz hl
  subst hsz
  have hl : lv_has ls 2 [(0, .ref (z.2.2.1 k)), (1, .int (nI j))] := hl
  have hx := C.1
  have hb := C.2.1
  have hown := C.2.2.2.1
  have hts := C.2.2.2.2.1
  have h6 := wln_6 k hk
  refine lv_iload_n hx hb dJ1_charAt_3b067_0 rfl (lv_at hl 1 rfl) ?_
  refine lv_aload_n hx hb dJ1_charAt_3b067_1 rfl (lv_at hl 0 rfl) ?_
  refine va_tlen hx hb (hz.2.2.1.1 k hk).2.2.2 hw.2.2 (v := nI (wln.getD k 0)) rfl dJ1_charAt_3b067_2 ?_
  refine k_zcallSv C hw hz (n := 2) (As := [.int (nI j), .int (nI (wln.getD k 0))]) (w1 := []) (wr := []) [] [] [] rfl rfl (by decide) (by decide) (by decide) rfl (by decide) (zJ0_checkIndex l D dA z j (wln.getD k 0) hj (by omega)) wlJ1_9 wsJ0_checkIndex_df160_t wnJ0 wcJ0_checkIndex_df160 (by decide +kernel) ⟨Nat.le_of_ble_eq_true rfl, Nat.le_of_ble_eq_true rfl⟩ ⟨Nat.le_refl _, Nat.le_refl _⟩ rfl hl.1 (Nat.le_of_ble_eq_true rfl) dJ1_charAt_3b067_3 rfl (fun H locs hw => ?_)
  refine lv_aload_n hx hb dJ1_charAt_3b067_6 rfl (lv_at hl 0 rfl) ?_
  refine lv_iload_n hx hb dJ1_charAt_3b067_7 rfl (lv_at hl 1 rfl) ?_
  refine va_tb hx hb (hz.2.2.1.1 k hk).2.2.2 hw.2.2 (v := .int (wch k j)) (pk_in j _ hj) (by rw [nI_clamp (by omega)]; rfl) dJ1_charAt_3b067_8 ?_
  refine lv_sipush (v := (255 : Int32)) hx hb dJ1_charAt_3b067_9 (by decide) ?_
  refine lv_iand hx hb dJ1_charAt_3b067_12 ?_
  refine lv_i2c hx hb dJ1_charAt_3b067_13 (wch_c k hk j hj).1 ?_
  exact k_nret C hw (wch_c k hk j hj).2 dJ1_charAt_3b067_14
set_option maxHeartbeats 1000000 in
theorem zJ0_charAt (l : Launch) (D : va_G) (dA : Nat → ClassId) (z : ZA) (k j : Nat) (hk : k < 15) (hj : j < wln.getD k 0) : MiS l D dA z yJ0_charAt_5068e (Cond.code yJ0_charAt_5068e cJ0_charAt_5068e 2 (some .char) :: wA) 3 80 [.ref (z.2.1 k), .int (nI j)] [] [] (wch k j) := by
  intro sz
  refine M_ofFS (cc := cJ0_charAt_5068e) (nL := 2) (ret := some .char) (own := RJ0) (by decide +kernel) rfl (Nat.le_of_ble_eq_true rfl) ?_
  intro p e s m below meth c ls hsz C hw hz hl
  subst hsz
  have hl : lv_has ls 2 [(0, .ref (z.2.1 k)), (1, .int (nI j))] := hl
  have hx := C.1
  have hb := C.2.1
  have hown := C.2.2.2.1
  have hts := C.2.2.2.2.1
  refine lv_aload_n hx hb dJ0_charAt_5068e_0 rfl (lv_at hl 0 rfl) ?_
  refine k_zcallKi C hw hz (n := 0) (As := []) (w1 := []) (wr := []) [] [] [] rfl rfl (by decide) (by decide) (by decide) rfl (by decide) (zJ0_isLatin1 l D dA z k hk) wlJ0_492 wmJ0_isLatin1_aae02 wvJ0_isLatin1_aae02 wnJ0 wcJ0_isLatin1_aae02 rfl (by decide +kernel) ⟨Nat.le_of_ble_eq_true rfl, Nat.le_of_ble_eq_true rfl⟩ ⟨Nat.le_refl _, Nat.le_refl _⟩ rfl (vk_recv hz.2.2.1 hk hw.2.2) hl.1 (Nat.le_of_ble_eq_true rfl) dJ0_charAt_5068e_1 rfl (fun H locs hw => ?_)
  refine lv_if_eq (tgt := 16) hx hb dJ0_charAt_5068e_4 (by decide) (fun q => absurd q (by decide)) (fun _ => ?_)
  refine lv_aload_n hx hb dJ0_charAt_5068e_7 rfl (lv_at hl 0 rfl) ?_
  refine vk_getf hx hb (hz.2.2.1.1 k hk).2.2.1 hw.2.2 hown (hts _ wfJ0_9) (fun _ y => y) dJ0_charAt_5068e_8 ?_
  refine lv_iload_n hx hb dJ0_charAt_5068e_11 rfl (lv_at hl 1 rfl) ?_
  refine k_zcallSi C hw hz (n := 2) (As := [.ref (z.2.2.1 k), .int (nI j)]) (w1 := []) (wr := []) [] [] [] rfl rfl (by decide) (by decide) (by decide) rfl (by decide) (zJ1_charAt l D dA z k j hk hj) wlJ0_495 wsJ1_charAt_3b067_t wnJ1 wcJ1_charAt_3b067 (by decide +kernel) ⟨Nat.le_of_ble_eq_true rfl, Nat.le_of_ble_eq_true rfl⟩ ⟨Nat.le_refl _, Nat.le_refl _⟩ rfl hl.1 (Nat.le_of_ble_eq_true rfl) dJ0_charAt_5068e_12 rfl (fun H locs hw => ?_)
  exact k_nret C hw (wch_c k hk j hj).2 dJ0_charAt_5068e_15
