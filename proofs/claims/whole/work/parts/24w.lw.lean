theorem ml_L_9 : Cond.methodLink RL 9 yX11_init ∈ tc_T := tc_mem (List.mem_of_getElem? (i := 120) (by decide +kernel)) (by decide +kernel)
set_option maxRecDepth 100000 in
theorem mw_X11_init : tc_MW yX11_init cX11_init 1 none 0 := ⟨tc_mem (List.mem_of_getElem? (i := 122) rfl) (by decide +kernel), tc_mem (List.mem_of_getElem? (i := 98) (by decide +kernel)) (by decide +kernel), by decide +kernel⟩
theorem mj_X11_init : yX11_init.name = "<init>" ∧ Cond.instanceMethod yX11_init ∈ tc_T := ⟨rfl, tc_mem (List.mem_of_getElem? (i := 121) (by decide +kernel)) (by decide +kernel)⟩
theorem cl_L_7c : Cond.classLink RL 7 RX11 ∈ tc_T := tc_mem (List.mem_of_getElem? (i := 118) (by decide +kernel)) (by decide +kernel)
theorem ii_11 : Cond.instantiable RX11 10 ∈ tc_T := tc_mem (List.mem_of_getElem? (i := 119) (by decide +kernel)) (by decide +kernel)
theorem it_11 : Cond.initialized RX11 ∈ tc_T := tc_mem (List.mem_of_getElem? (i := 98) (by decide +kernel)) (by decide +kernel)
theorem tc_df_11 (z : Nat) : ∀ k, k < 10 → defaultValue (tc_ty 11 k) = tc_val z (tc_ty 11 k) 0 0 none
  | 0, _ => rfl
  | 1, _ => rfl
  | 2, _ => rfl
  | 3, _ => rfl
  | 4, _ => rfl
  | 5, _ => rfl
  | 6, _ => rfl
  | 7, _ => rfl
  | 8, _ => rfl
  | 9, _ => rfl
  | k + 10, h => absurd h (by omega)
theorem ml_L_12 : Cond.methodLink RL 12 yX12_init ∈ tc_T := tc_mem (List.mem_of_getElem? (i := 1193) (by decide +kernel)) (by decide +kernel)
set_option maxRecDepth 100000 in
theorem mw_X12_init : tc_MW yX12_init cX12_init 1 none 0 := ⟨tc_mem (List.mem_of_getElem? (i := 1195) rfl) (by decide +kernel), tc_mem (List.mem_of_getElem? (i := 111) (by decide +kernel)) (by decide +kernel), by decide +kernel⟩
theorem mj_X12_init : yX12_init.name = "<init>" ∧ Cond.instanceMethod yX12_init ∈ tc_T := ⟨rfl, tc_mem (List.mem_of_getElem? (i := 1194) (by decide +kernel)) (by decide +kernel)⟩
theorem cl_L_10c : Cond.classLink RL 10 RX12 ∈ tc_T := tc_mem (List.mem_of_getElem? (i := 1191) (by decide +kernel)) (by decide +kernel)
theorem ii_12 : Cond.instantiable RX12 34 ∈ tc_T := tc_mem (List.mem_of_getElem? (i := 1192) (by decide +kernel)) (by decide +kernel)
theorem it_12 : Cond.initialized RX12 ∈ tc_T := tc_mem (List.mem_of_getElem? (i := 111) (by decide +kernel)) (by decide +kernel)
theorem tc_df_12 (z : Nat) : ∀ k, k < 34 → defaultValue (tc_ty 12 k) = tc_val z (tc_ty 12 k) 0 0 none
  | 0, _ => rfl
  | 1, _ => rfl
  | 2, _ => rfl
  | 3, _ => rfl
  | 4, _ => rfl
  | 5, _ => rfl
  | 6, _ => rfl
  | 7, _ => rfl
  | 8, _ => rfl
  | 9, _ => rfl
  | 10, _ => rfl
  | 11, _ => rfl
  | 12, _ => rfl
  | 13, _ => rfl
  | 14, _ => rfl
  | 15, _ => rfl
  | 16, _ => rfl
  | 17, _ => rfl
  | 18, _ => rfl
  | 19, _ => rfl
  | 20, _ => rfl
  | 21, _ => rfl
  | 22, _ => rfl
  | 23, _ => rfl
  | 24, _ => rfl
  | 25, _ => rfl
  | 26, _ => rfl
  | 27, _ => rfl
  | 28, _ => rfl
  | 29, _ => rfl
  | 30, _ => rfl
  | 31, _ => rfl
  | 32, _ => rfl
  | 33, _ => rfl
  | k + 34, h => absurd h (by omega)
