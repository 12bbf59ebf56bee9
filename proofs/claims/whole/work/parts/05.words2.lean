theorem wxaI : Cond.arrayClass .int ∈ wA := wA_1 (i := 104) rfl rfl
theorem wxaJ : Cond.arrayClass .long ∈ wA := wA_1 (i := 106) rfl rfl
theorem wxaB : Cond.arrayClass .byte ∈ wA := wA_1 (i := 103) rfl rfl
theorem wxaZ : Cond.arrayClass .boolean ∈ wA := wA_1 (i := 105) rfl rfl
theorem wxoi : Cond.instanceMethod objectInit ∈ wA := wA_1 (i := 32) rfl rfl
theorem wxoc : Cond.code objectInit ⟨#[0xb1]⟩ 1 none ∈ wA := wA_1 (i := 33) rfl rfl
theorem wibX11 : Cond.instantiable RX11 18 ∈ wA := wA_1 (i := 27) rfl rfl
theorem wclX11_31 : Cond.classLink RX11 31 RX5 ∈ wA := wA_1 (i := 34) rfl rfl
theorem wclX11_37 : Cond.classLink RX11 37 RX8 ∈ wA := wA_1 (i := 36) rfl rfl
theorem wclX11_43 : Cond.classLink RX11 43 RX4 ∈ wA := wA_1 (i := 38) rfl rfl
theorem wibX4 : Cond.instantiable RX4 11 ∈ wA := wA_1 (i := 39) rfl rfl
theorem wclX4_9 : Cond.classLink RX4 9 RX5 ∈ wA := wA_1 (i := 44) rfl rfl
theorem wibX5 : Cond.instantiable RX5 8 ∈ wA := wA_1 (i := 45) rfl rfl
theorem wclX4_48 : Cond.classLink RX4 48 RX9 ∈ wA := wA_1 (i := 107) rfl rfl
theorem wibX9 : Cond.instantiable RX9 8 ∈ wA := wA_1 (i := 108) rfl rfl
theorem wclX9_21 : Cond.classLink RX9 21 RX10 ∈ wA := wA_1 (i := 113) rfl rfl
theorem wibX8 : Cond.instantiable RX8 7 ∈ wA := wA_1 (i := 182) rfl rfl
theorem wclX11_67 : Cond.classLink RX11 67 RX2 ∈ wA := wA_1 (i := 223) rfl rfl
theorem wibX2 : Cond.instantiable RX2 8 ∈ wA := wA_1 (i := 224) rfl rfl
theorem wclX11_74 : Cond.classLink RX11 74 RX6 ∈ wA := wA_2 (i := 16) rfl rfl
theorem wibX6 : Cond.instantiable RX6 9 ∈ wA := wA_2 (i := 17) rfl rfl
theorem wclX11_83 : Cond.classLink RX11 83 RX0 ∈ wA := wA_2 (i := 50) rfl rfl
theorem wibX0 : Cond.instantiable RX0 5 ∈ wA := wA_2 (i := 51) rfl rfl
theorem wclX11_92 : Cond.classLink RX11 92 RX1 ∈ wA := wA_2 (i := 73) rfl rfl
theorem wibX1 : Cond.instantiable RX1 6 ∈ wA := wA_2 (i := 74) rfl rfl
theorem wclX11_99 : Cond.classLink RX11 99 RX3 ∈ wA := wA_2 (i := 99) rfl rfl
theorem wibX3 : Cond.instantiable RX3 1 ∈ wA := wA_2 (i := 100) rfl rfl
theorem wclX11_106 : Cond.classLink RX11 106 RX7 ∈ wA := wA_2 (i := 109) rfl rfl
theorem wibX7 : Cond.instantiable RX7 6 ∈ wA := wA_2 (i := 110) rfl rfl
theorem wibX10 : Cond.instantiable RX10 7 ∈ wA := wA_3 (i := 0) rfl rfl
theorem wibX12 : Cond.instantiable RX12 46 ∈ wA := wA_6 (i := 28) rfl rfl
