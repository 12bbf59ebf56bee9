/-! the classes, the throw's words and the rest at the law's entry -/
theorem en_tb : Cond.castable NSE NSE ∈ lw_tbl ∧ Cond.declares (Bundle.init0 "java/lang/RuntimeException") ∈ lw_tbl ∧ Cond.declares (Bundle.init0 "java/lang/Exception") ∈ lw_tbl ∧ Cond.declares (Bundle.init0 Bundle.tN) ∈ lw_tbl ∧ Cond.laysStatic Bundle.tN "UNASSIGNED_STACK" Bundle.steD ∈ lw_tbl ∧ Cond.laysStatic Bundle.tN "SUPPRESSED_SENTINEL" Bundle.listD ∈ lw_tbl := by decide +kernel
theorem en_gv : Cond.isRef (.static Bundle.tN "UNASSIGNED_STACK" Bundle.steD) ∈ gvl ∧ Cond.isRef (.static Bundle.tN "SUPPRESSED_SENTINEL" Bundle.listD) ∈ gvl := by decide +kernel
theorem en_ao : Cond.arrayOver (.object "RingPlaces$Word") ∈ lw_tbl ∧ Cond.arrayOver (.object "RingPlaces$Ring") ∈ lw_tbl ∧ Cond.arrayOver (.object "RingPlaces$Standing") ∈ lw_tbl := by decide +kernel
theorem en_nw : ∀ w ∈ nwl, w ∈ lw_tbl ∧ w.onTables = true := by decide +kernel
theorem en_ac : Cond.arrayClass .int ∈ lw_tbl ∧ Cond.arrayClass .long ∈ lw_tbl ∧ Cond.arrayClass .byte ∈ lw_tbl ∧ Cond.arrayClass .boolean ∈ lw_tbl := by decide +kernel
theorem en_10 : ∀ w ∈ u_ws RX10 TX10 0, w ∈ lw_tbl ∧ goodWord w = true := by decide +kernel
theorem xw_start {s : State} {args : Array Value} (hts : ∀ w ∈ lw_tbl, w.before args s = true) (hg : ∀ w ∈ gvl, w.before args s = true) : XW (va_A [] s.heap.size) s s.heap := by
  have hA : ∀ a : Nat, a < s.heap.size → ¬ va_A [] s.heap.size a := fun a ha q => by
    rcases q with ⟨k, e, q⟩ | q
    · cases q
    · omega
  exact ⟨⟨va_Nw.of rfl (hts _ en_tb.1), va_Nw.of rfl (hts _ en_tb.2.1), va_Nw.of rfl (hts _ en_tb.2.2.1), va_Nw.of rfl (hts _ en_tb.2.2.2.1)⟩, vx_Zqof (hts _ en_tb.2.2.2.2.1) (hts _ gv_ini.2.2.2) (hg _ en_gv.1) hA, vx_Zqof (hts _ en_tb.2.2.2.2.2) (hts _ gv_ini.2.2.2) (hg _ en_gv.2) hA⟩
theorem ao_start {s : State} {args : Array Value} (hts : ∀ w ∈ lw_tbl, w.before args s = true) : AOK s := ⟨va_AO.of (hts _ en_ao.1), va_AO.of (hts _ en_ao.2.1), va_AO.of (hts _ en_ao.2.2)⟩
theorem nw_start {s : State} {args : Array Value} (hts : ∀ w ∈ lw_tbl, w.before args s = true) : NW s := fun w hw => va_Nw.of (en_nw w hw).2 (hts w (en_nw w hw).1)
theorem arr_start {s : State} {args : Array Value} {ty : FieldType} (h : (Cond.arrayClass ty).before args s = true) : ∃ cA : ClassId, ArrOfT s cA ty ∧ s.vm.findClass ("[" ++ ty.toString) = some cA := by
  obtain ⟨cA, kA, comp, h1, h2, h3⟩ := Cond.arrayClass_spec h
  exact ⟨cA, fun n z => ⟨fun k q => (by cases q), kA, h2, comp, h3⟩, h1⟩
theorem arq_start {s : State} {C : String} (h : va_AO C s) : ∃ cA : ClassId, ArrOfT s cA (.object C) ∧ va_RA s cA (.object C) := by
  obtain ⟨comp, cA, kA, h1, -, h3, h4, h5⟩ := Cond.arrayOver_spec h
  exact ⟨cA, fun n z => ⟨fun k q => (by cases q), kA, h3, comp, h4⟩, kA, comp, h3, h4, h1, h5⟩
theorem k_start {s : State} {args : Array Value} (hts : ∀ w ∈ lw_tbl, w.before args s = true) : ∃ (D : va_G) (dA : Nat → ClassId), va_K D vwCl (AY dA) s := by
  have hA : ∀ w ∈ wA, w.before args s = true := fun w hw => hts w (List.mem_filter.mp hw).1
  obtain ⟨c0, i0, k0⟩ := u_known (C := RX0) (T := TX0) (N := 5) (n := 5) hA wiX0 (hA _ wibX0)
  obtain ⟨c1, i1, k1⟩ := u_known (C := RX1) (T := TX1) (N := 6) (n := 6) hA wiX1 (hA _ wibX1)
  obtain ⟨c2, i2, k2⟩ := u_known (C := RX2) (T := TX2) (N := 8) (n := 8) hA wiX2 (hA _ wibX2)
  obtain ⟨c3, i3, k3⟩ := u_known (C := RX3) (T := TX3) (N := 1) (n := 1) hA wiX3 (hA _ wibX3)
  obtain ⟨c4, i4, k4⟩ := u_known (C := RX4) (T := TX4) (N := 11) (n := 11) hA wiX4 (hA _ wibX4)
  obtain ⟨c5, i5, k5⟩ := u_known (C := RX5) (T := TX5) (N := 8) (n := 8) hA wiX5 (hA _ wibX5)
  obtain ⟨c6, i6, k6⟩ := u_known (C := RX6) (T := TX6) (N := 9) (n := 9) hA wiX6 (hA _ wibX6)
  obtain ⟨c7, i7, k7⟩ := u_known (C := RX7) (T := TX7) (N := 6) (n := 6) hA wiX7 (hA _ wibX7)
  obtain ⟨c8, i8, k8⟩ := u_known (C := RX8) (T := TX8) (N := 7) (n := 7) hA wiX8 (hA _ wibX8)
  obtain ⟨c9, i9, k9⟩ := u_known (C := RX9) (T := TX9) (N := 8) (n := 8) hA wiX9 (hA _ wibX9)
  obtain ⟨c10, i10, k10⟩ := u_known (C := RX10) (T := TX10) (N := 0) (n := 7) hA (fun w hw => List.mem_filter.mpr (en_10 w hw)) (hA _ wibX10)
  obtain ⟨c11, i11, k11⟩ := u_known (C := RX11) (T := TX11) (N := 18) (n := 18) hA wiX11 (hA _ wibX11)
  obtain ⟨c12, i12, k12⟩ := u_known (C := RX12) (T := TX12) (N := 46) (n := 46) hA wiX12 (hA _ wibX12)
  obtain ⟨a0, p0, q0⟩ := arr_start (hts _ en_ac.1)
  obtain ⟨a1, p1, q1⟩ := arr_start (hts _ en_ac.2.1)
  obtain ⟨a2, p2, q2⟩ := arr_start (hts _ en_ac.2.2.1)
  obtain ⟨a3, p3, q3⟩ := arr_start (hts _ en_ac.2.2.2)
  obtain ⟨a4, p4, q4⟩ := arq_start (ao_start hts).1
  obtain ⟨a5, p5, q5⟩ := arq_start (ao_start hts).2.1
  obtain ⟨a6, p6, q6⟩ := arq_start (ao_start hts).2.2
  refine ⟨(fun k => [c0, c1, c2, c3, c4, c5, c6, c7, c8, c9, c10, c11, c12].getD k c0, fun k => [i0, i1, i2, i3, i4, i5, i6, i7, i8, i9, i10, i11, i12].getD k i0), fun k => [a0, a1, a2, a3, a4, a5, a6].getD k a0, ?_, ?_⟩
  · intro k q hq
    match k, hq with
    | 0, hq => cases hq; exact k0
    | 1, hq => cases hq; exact k1
    | 2, hq => cases hq; exact k2
    | 3, hq => cases hq; exact k3
    | 4, hq => cases hq; exact k4
    | 5, hq => cases hq; exact k5
    | 6, hq => cases hq; exact k6
    | 7, hq => cases hq; exact k7
    | 8, hq => cases hq; exact k8
    | 9, hq => cases hq; exact k9
    | 10, hq => cases hq; exact k10
    | 11, hq => cases hq; exact k11
    | 12, hq => cases hq; exact k12
    | k + 13, hq => cases hq
  · intro k q hq
    match k, hq with
    | 0, hq => cases hq; exact ⟨p0, q0⟩
    | 1, hq => cases hq; exact ⟨p1, q1⟩
    | 2, hq => cases hq; exact ⟨p2, q2⟩
    | 3, hq => cases hq; exact ⟨p3, q3⟩
    | 4, hq => cases hq; exact ⟨p4, q4⟩
    | 5, hq => cases hq; exact ⟨p5, q5⟩
    | 6, hq => cases hq; exact ⟨p6, q6⟩
    | k + 7, hq => cases hq
