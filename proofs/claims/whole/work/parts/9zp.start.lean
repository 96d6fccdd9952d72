/-! the start -/
set_option maxRecDepth 1000000 in
theorem in_s1 : ∀ k, k < 292 → in_u4.1 72 k = mbg mS0 k := by decide +kernel
set_option maxRecDepth 1000000 in
theorem in_s2 : ∀ k, k < 400 → in_u4.1 73 k = 0 ∧ in_u4.1 12 k = 0 := by decide +kernel
set_option maxRecDepth 1000000 in
theorem in_s3 : (∀ k, k < 69 → in_u4.1 6 k = -1) ∧ (∀ k, k < 4 → in_u4.1 5 k = 0) ∧ (∀ k, k < 11 → in_u4.1 3 k = mS0 k) ∧ in_u4.1 4 0 = 0 ∧ (∀ k, k < 7 → in_u4.1 2 (10 + k) = 0) := by decide +kernel
set_option maxRecDepth 1000000 in
theorem in_s4 : (in_u4.1 2 1 = nI 64 ∧ in_u4.1 2 2 = nI 68) ∧ (in_u4.1 14 1 = nI 64 ∧ in_u4.1 14 2 = nI 68) ∧ (in_u4.1 39 1 = nI 64 ∧ in_u4.1 39 2 = nI 68) ∧ (in_u4.1 55 1 = nI 144 ∧ in_u4.1 55 2 = nI 148) := by decide +kernel
set_option maxRecDepth 1000000 in
theorem in_s5 : in_u4.1 1 2 = 0 ∧ in_u4.1 71 3 = 0 ∧ in_u4.1 1 3 = 0 ∧ in_u4.1 71 4 = 0 ∧ in_u4.1 1 4 = -1 ∧ in_u4.1 71 5 = -1 ∧ ∀ k, k < 3 → in_u4.1 74 k = 0 := by decide +kernel
theorem in_s6 : ∀ k, k < 3 → (tc_gl in_L4).2.2.2 13 k = none := by decide +kernel
