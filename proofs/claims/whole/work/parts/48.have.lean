/-! what holds at the start -/
theorem in_gm : gm (tc_gl in_L4) := ⟨⟨rfl, rfl⟩, rfl, rfl⟩
theorem in_gm2 : gm2 (tc_gl in_L4) := ⟨⟨rfl, rfl⟩, ⟨rfl, rfl⟩, rfl, rfl⟩
set_option maxRecDepth 1000000 in
theorem in_map : ∀ k, k < 292 → in_u4.1 72 (0 + k) = minit k := by decide +kernel
theorem in_isM : isM in_u4 0 minit := in_map
