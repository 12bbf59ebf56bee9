/-! fault -/
theorem p_fault (co th : Int32) : fX11_fault co = some co ∧ fX12_fault th co = some (0, co) := ⟨rfl, rfl⟩
