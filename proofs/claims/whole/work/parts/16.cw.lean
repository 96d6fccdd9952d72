theorem mo_X11 : Cond.methodLink RX11 3 Lib.objectInit ∈ tc_T := tc_mem (List.mem_of_getElem? (i := 123) (by decide +kernel)) (by decide +kernel)
theorem wo_i : Cond.instanceMethod Lib.objectInit ∈ tc_T := tc_mem (List.mem_of_getElem? (i := 124) (by decide +kernel)) (by decide +kernel)
set_option maxRecDepth 100000 in
theorem wo_c : Cond.code Lib.objectInit ⟨#[0xb1]⟩ 1 none ∈ tc_T := tc_mem (List.mem_of_getElem? (i := 125) (by decide +kernel)) (by decide +kernel)
theorem cl_X11_9c : Cond.classLink RX11 9 RX10 ∈ tc_T := tc_mem (List.mem_of_getElem? (i := 126) (by decide +kernel)) (by decide +kernel)
theorem ii_10 : Cond.instantiable RX10 5 ∈ tc_T := tc_mem (List.mem_of_getElem? (i := 127) (by decide +kernel)) (by decide +kernel)
theorem it_10 : Cond.initialized RX10 ∈ tc_T := tc_mem (List.mem_of_getElem? (i := 99) (by decide +kernel)) (by decide +kernel)
theorem tc_df_10 (z : Nat) : ∀ k, k < 5 → defaultValue (tc_ty 10 k) = tc_val z (tc_ty 10 k) 0 0 none
  | 0, _ => rfl
  | 1, _ => rfl
  | 2, _ => rfl
  | 3, _ => rfl
  | 4, _ => rfl
  | k + 5, h => absurd h (by omega)
theorem mo_X10 : Cond.methodLink RX10 3 Lib.objectInit ∈ tc_T := tc_mem (List.mem_of_getElem? (i := 131) (by decide +kernel)) (by decide +kernel)
theorem cl_X10_9c : Cond.classLink RX10 9 RX9 ∈ tc_T := tc_mem (List.mem_of_getElem? (i := 132) (by decide +kernel)) (by decide +kernel)
theorem ii_9 : Cond.instantiable RX9 17 ∈ tc_T := tc_mem (List.mem_of_getElem? (i := 133) (by decide +kernel)) (by decide +kernel)
theorem it_9 : Cond.initialized RX9 ∈ tc_T := tc_mem (List.mem_of_getElem? (i := 100) (by decide +kernel)) (by decide +kernel)
theorem tc_df_9 (z : Nat) : ∀ k, k < 17 → defaultValue (tc_ty 9 k) = tc_val z (tc_ty 9 k) 0 0 none
  | 0, _ => rfl
  | 1, _ => rfl
  | 2, _ => rfl
  | 3, _ => rfl
  | 4, _ => rfl
  | 5, _ => rfl
  | 6, _ => rfl
  | 7, _ => rfl
  | 8, _ => rfl
  | 9, _ => rfl
  | 10, _ => rfl
  | 11, _ => rfl
  | 12, _ => rfl
  | 13, _ => rfl
  | 14, _ => rfl
  | 15, _ => rfl
  | 16, _ => rfl
  | k + 17, h => absurd h (by omega)
theorem mo_X9 : Cond.methodLink RX9 3 Lib.objectInit ∈ tc_T := tc_mem (List.mem_of_getElem? (i := 137) (by decide +kernel)) (by decide +kernel)
theorem cl_X9_9c : Cond.classLink RX9 9 RX8 ∈ tc_T := tc_mem (List.mem_of_getElem? (i := 138) (by decide +kernel)) (by decide +kernel)
theorem ii_8 : Cond.instantiable RX8 12 ∈ tc_T := tc_mem (List.mem_of_getElem? (i := 139) (by decide +kernel)) (by decide +kernel)
theorem it_8 : Cond.initialized RX8 ∈ tc_T := tc_mem (List.mem_of_getElem? (i := 101) (by decide +kernel)) (by decide +kernel)
theorem tc_df_8 (z : Nat) : ∀ k, k < 12 → defaultValue (tc_ty 8 k) = tc_val z (tc_ty 8 k) 0 0 none
  | 0, _ => rfl
  | 1, _ => rfl
  | 2, _ => rfl
  | 3, _ => rfl
  | 4, _ => rfl
  | 5, _ => rfl
  | 6, _ => rfl
  | 7, _ => rfl
  | 8, _ => rfl
  | 9, _ => rfl
  | 10, _ => rfl
  | 11, _ => rfl
  | k + 12, h => absurd h (by omega)
theorem mo_X8 : Cond.methodLink RX8 3 Lib.objectInit ∈ tc_T := tc_mem (List.mem_of_getElem? (i := 143) (by decide +kernel)) (by decide +kernel)
theorem cl_X8_9c : Cond.classLink RX8 9 RX2 ∈ tc_T := tc_mem (List.mem_of_getElem? (i := 144) (by decide +kernel)) (by decide +kernel)
theorem ii_2 : Cond.instantiable RX2 1 ∈ tc_T := tc_mem (List.mem_of_getElem? (i := 145) (by decide +kernel)) (by decide +kernel)
theorem it_2 : Cond.initialized RX2 ∈ tc_T := tc_mem (List.mem_of_getElem? (i := 102) (by decide +kernel)) (by decide +kernel)
theorem tc_df_2 (z : Nat) : ∀ k, k < 1 → defaultValue (tc_ty 2 k) = tc_val z (tc_ty 2 k) 0 0 none
  | 0, _ => rfl
  | k + 1, h => absurd h (by omega)
theorem mo_X2 : Cond.methodLink RX2 1 Lib.objectInit ∈ tc_T := tc_mem (List.mem_of_getElem? (i := 149) (by decide +kernel)) (by decide +kernel)
set_option maxRecDepth 100000 in
theorem mw_X2_init : tc_MW yX2_init cX2_init 1 none 0 := ⟨tc_mem (List.mem_of_getElem? (i := 148) rfl) (by decide +kernel), tc_mem (List.mem_of_getElem? (i := 102) (by decide +kernel)) (by decide +kernel), by decide +kernel⟩
theorem mj_X2_init : yX2_init.name = "<init>" ∧ Cond.instanceMethod yX2_init ∈ tc_T := ⟨rfl, tc_mem (List.mem_of_getElem? (i := 147) (by decide +kernel)) (by decide +kernel)⟩
theorem ml_X8_18 : Cond.methodLink RX8 18 yX8_begin ∈ tc_T := tc_mem (List.mem_of_getElem? (i := 160) (by decide +kernel)) (by decide +kernel)
set_option maxRecDepth 100000 in
theorem mw_X8_init : tc_MW yX8_init cX8_init 1 none 0 := ⟨tc_mem (List.mem_of_getElem? (i := 142) rfl) (by decide +kernel), tc_mem (List.mem_of_getElem? (i := 101) (by decide +kernel)) (by decide +kernel), by decide +kernel⟩
theorem mj_X8_init : yX8_init.name = "<init>" ∧ Cond.instanceMethod yX8_init ∈ tc_T := ⟨rfl, tc_mem (List.mem_of_getElem? (i := 141) (by decide +kernel)) (by decide +kernel)⟩
theorem ml_X9_11 : Cond.methodLink RX9 11 yX8_init ∈ tc_T := tc_mem (List.mem_of_getElem? (i := 140) (by decide +kernel)) (by decide +kernel)
theorem wa_int : Cond.arrayClass .int ∈ tc_T := tc_mem (List.mem_of_getElem? (i := 363) (by decide +kernel)) (by decide +kernel)
set_option maxRecDepth 100000 in
theorem mw_X9_init : tc_MW yX9_init cX9_init 2 none 1 := ⟨tc_mem (List.mem_of_getElem? (i := 136) rfl) (by decide +kernel), tc_mem (List.mem_of_getElem? (i := 100) (by decide +kernel)) (by decide +kernel), by decide +kernel⟩
theorem mj_X9_init : yX9_init.name = "<init>" ∧ Cond.instanceMethod yX9_init ∈ tc_T := ⟨rfl, tc_mem (List.mem_of_getElem? (i := 135) (by decide +kernel)) (by decide +kernel)⟩
theorem ml_X10_11 : Cond.methodLink RX10 11 yX9_init ∈ tc_T := tc_mem (List.mem_of_getElem? (i := 134) (by decide +kernel)) (by decide +kernel)
theorem wa_byte : Cond.arrayClass .byte ∈ tc_T := tc_mem (List.mem_of_getElem? (i := 385) (by decide +kernel)) (by decide +kernel)
set_option maxRecDepth 100000 in
theorem mw_X10_init : tc_MW yX10_init cX10_init 1 none 0 := ⟨tc_mem (List.mem_of_getElem? (i := 130) rfl) (by decide +kernel), tc_mem (List.mem_of_getElem? (i := 99) (by decide +kernel)) (by decide +kernel), by decide +kernel⟩
theorem mj_X10_init : yX10_init.name = "<init>" ∧ Cond.instanceMethod yX10_init ∈ tc_T := ⟨rfl, tc_mem (List.mem_of_getElem? (i := 129) (by decide +kernel)) (by decide +kernel)⟩
theorem cl_X11_20c : Cond.classLink RX11 20 RX9 ∈ tc_T := tc_mem (List.mem_of_getElem? (i := 387) (by decide +kernel)) (by decide +kernel)
theorem ml_X11_22 : Cond.methodLink RX11 22 yX9_init ∈ tc_T := tc_mem (List.mem_of_getElem? (i := 388) (by decide +kernel)) (by decide +kernel)
theorem cl_X11_29c : Cond.classLink RX11 29 RX1 ∈ tc_T := tc_mem (List.mem_of_getElem? (i := 389) (by decide +kernel)) (by decide +kernel)
theorem ii_1 : Cond.instantiable RX1 8 ∈ tc_T := tc_mem (List.mem_of_getElem? (i := 390) (by decide +kernel)) (by decide +kernel)
theorem it_1 : Cond.initialized RX1 ∈ tc_T := tc_mem (List.mem_of_getElem? (i := 104) (by decide +kernel)) (by decide +kernel)
theorem tc_df_1 (z : Nat) : ∀ k, k < 8 → defaultValue (tc_ty 1 k) = tc_val z (tc_ty 1 k) 0 0 none
  | 0, _ => rfl
  | 1, _ => rfl
  | 2, _ => rfl
  | 3, _ => rfl
  | 4, _ => rfl
  | 5, _ => rfl
  | 6, _ => rfl
  | 7, _ => rfl
  | k + 8, h => absurd h (by omega)
theorem mo_X1 : Cond.methodLink RX1 3 Lib.objectInit ∈ tc_T := tc_mem (List.mem_of_getElem? (i := 394) (by decide +kernel)) (by decide +kernel)
theorem wa_boolean : Cond.arrayClass .boolean ∈ tc_T := tc_mem (List.mem_of_getElem? (i := 425) (by decide +kernel)) (by decide +kernel)
set_option maxRecDepth 100000 in
theorem mw_X1_init : tc_MW yX1_init cX1_init 1 none 0 := ⟨tc_mem (List.mem_of_getElem? (i := 393) rfl) (by decide +kernel), tc_mem (List.mem_of_getElem? (i := 104) (by decide +kernel)) (by decide +kernel), by decide +kernel⟩
theorem mj_X1_init : yX1_init.name = "<init>" ∧ Cond.instanceMethod yX1_init ∈ tc_T := ⟨rfl, tc_mem (List.mem_of_getElem? (i := 392) (by decide +kernel)) (by decide +kernel)⟩
theorem cl_X11_36c : Cond.classLink RX11 36 RX4 ∈ tc_T := tc_mem (List.mem_of_getElem? (i := 426) (by decide +kernel)) (by decide +kernel)
theorem ii_4 : Cond.instantiable RX4 2 ∈ tc_T := tc_mem (List.mem_of_getElem? (i := 427) (by decide +kernel)) (by decide +kernel)
theorem it_4 : Cond.initialized RX4 ∈ tc_T := tc_mem (List.mem_of_getElem? (i := 105) (by decide +kernel)) (by decide +kernel)
theorem tc_df_4 (z : Nat) : ∀ k, k < 2 → defaultValue (tc_ty 4 k) = tc_val z (tc_ty 4 k) 0 0 none
  | 0, _ => rfl
  | 1, _ => rfl
  | k + 2, h => absurd h (by omega)
theorem mo_X4 : Cond.methodLink RX4 3 Lib.objectInit ∈ tc_T := tc_mem (List.mem_of_getElem? (i := 431) (by decide +kernel)) (by decide +kernel)
set_option maxRecDepth 100000 in
theorem mw_X4_init : tc_MW yX4_init cX4_init 2 none 1 := ⟨tc_mem (List.mem_of_getElem? (i := 430) rfl) (by decide +kernel), tc_mem (List.mem_of_getElem? (i := 105) (by decide +kernel)) (by decide +kernel), by decide +kernel⟩
theorem mj_X4_init : yX4_init.name = "<init>" ∧ Cond.instanceMethod yX4_init ∈ tc_T := ⟨rfl, tc_mem (List.mem_of_getElem? (i := 429) (by decide +kernel)) (by decide +kernel)⟩
theorem ml_X11_38 : Cond.methodLink RX11 38 yX4_init ∈ tc_T := tc_mem (List.mem_of_getElem? (i := 428) (by decide +kernel)) (by decide +kernel)
theorem cl_X11_45c : Cond.classLink RX11 45 RX7 ∈ tc_T := tc_mem (List.mem_of_getElem? (i := 439) (by decide +kernel)) (by decide +kernel)
theorem ii_7 : Cond.instantiable RX7 7 ∈ tc_T := tc_mem (List.mem_of_getElem? (i := 440) (by decide +kernel)) (by decide +kernel)
theorem it_7 : Cond.initialized RX7 ∈ tc_T := tc_mem (List.mem_of_getElem? (i := 106) (by decide +kernel)) (by decide +kernel)
theorem tc_df_7 (z : Nat) : ∀ k, k < 7 → defaultValue (tc_ty 7 k) = tc_val z (tc_ty 7 k) 0 0 none
  | 0, _ => rfl
  | 1, _ => rfl
  | 2, _ => rfl
  | 3, _ => rfl
  | 4, _ => rfl
  | 5, _ => rfl
  | 6, _ => rfl
  | k + 7, h => absurd h (by omega)
theorem mo_X7 : Cond.methodLink RX7 3 Lib.objectInit ∈ tc_T := tc_mem (List.mem_of_getElem? (i := 444) (by decide +kernel)) (by decide +kernel)
set_option maxRecDepth 100000 in
theorem mw_X7_init : tc_MW yX7_init cX7_init 1 none 0 := ⟨tc_mem (List.mem_of_getElem? (i := 443) rfl) (by decide +kernel), tc_mem (List.mem_of_getElem? (i := 106) (by decide +kernel)) (by decide +kernel), by decide +kernel⟩
theorem mj_X7_init : yX7_init.name = "<init>" ∧ Cond.instanceMethod yX7_init ∈ tc_T := ⟨rfl, tc_mem (List.mem_of_getElem? (i := 442) (by decide +kernel)) (by decide +kernel)⟩
theorem cl_X11_52c : Cond.classLink RX11 52 RX3 ∈ tc_T := tc_mem (List.mem_of_getElem? (i := 478) (by decide +kernel)) (by decide +kernel)
theorem ii_3 : Cond.instantiable RX3 4 ∈ tc_T := tc_mem (List.mem_of_getElem? (i := 479) (by decide +kernel)) (by decide +kernel)
theorem it_3 : Cond.initialized RX3 ∈ tc_T := tc_mem (List.mem_of_getElem? (i := 107) (by decide +kernel)) (by decide +kernel)
theorem tc_df_3 (z : Nat) : ∀ k, k < 4 → defaultValue (tc_ty 3 k) = tc_val z (tc_ty 3 k) 0 0 none
  | 0, _ => rfl
  | 1, _ => rfl
  | 2, _ => rfl
  | 3, _ => rfl
  | k + 4, h => absurd h (by omega)
theorem mo_X3 : Cond.methodLink RX3 3 Lib.objectInit ∈ tc_T := tc_mem (List.mem_of_getElem? (i := 483) (by decide +kernel)) (by decide +kernel)
theorem cl_X3_9c : Cond.classLink RX3 9 RX9 ∈ tc_T := tc_mem (List.mem_of_getElem? (i := 484) (by decide +kernel)) (by decide +kernel)
theorem ml_X3_11 : Cond.methodLink RX3 11 yX9_init ∈ tc_T := tc_mem (List.mem_of_getElem? (i := 485) (by decide +kernel)) (by decide +kernel)
theorem cl_X3_20c : Cond.classLink RX3 20 RX2 ∈ tc_T := tc_mem (List.mem_of_getElem? (i := 486) (by decide +kernel)) (by decide +kernel)
set_option maxRecDepth 100000 in
theorem mw_X3_init : tc_MW yX3_init cX3_init 3 none 2 := ⟨tc_mem (List.mem_of_getElem? (i := 482) rfl) (by decide +kernel), tc_mem (List.mem_of_getElem? (i := 107) (by decide +kernel)) (by decide +kernel), by decide +kernel⟩
theorem mj_X3_init : yX3_init.name = "<init>" ∧ Cond.instanceMethod yX3_init ∈ tc_T := ⟨rfl, tc_mem (List.mem_of_getElem? (i := 481) (by decide +kernel)) (by decide +kernel)⟩
theorem ml_X11_54 : Cond.methodLink RX11 54 yX3_init ∈ tc_T := tc_mem (List.mem_of_getElem? (i := 480) (by decide +kernel)) (by decide +kernel)
theorem cl_X11_61c : Cond.classLink RX11 61 RX5 ∈ tc_T := tc_mem (List.mem_of_getElem? (i := 501) (by decide +kernel)) (by decide +kernel)
theorem ii_5 : Cond.instantiable RX5 3 ∈ tc_T := tc_mem (List.mem_of_getElem? (i := 502) (by decide +kernel)) (by decide +kernel)
theorem it_5 : Cond.initialized RX5 ∈ tc_T := tc_mem (List.mem_of_getElem? (i := 108) (by decide +kernel)) (by decide +kernel)
theorem tc_df_5 (z : Nat) : ∀ k, k < 3 → defaultValue (tc_ty 5 k) = tc_val z (tc_ty 5 k) 0 0 none
  | 0, _ => rfl
  | 1, _ => rfl
  | 2, _ => rfl
  | k + 3, h => absurd h (by omega)
theorem mo_X5 : Cond.methodLink RX5 3 Lib.objectInit ∈ tc_T := tc_mem (List.mem_of_getElem? (i := 506) (by decide +kernel)) (by decide +kernel)
set_option maxRecDepth 100000 in
theorem mw_X5_init : tc_MW yX5_init cX5_init 1 none 0 := ⟨tc_mem (List.mem_of_getElem? (i := 505) rfl) (by decide +kernel), tc_mem (List.mem_of_getElem? (i := 108) (by decide +kernel)) (by decide +kernel), by decide +kernel⟩
theorem mj_X5_init : yX5_init.name = "<init>" ∧ Cond.instanceMethod yX5_init ∈ tc_T := ⟨rfl, tc_mem (List.mem_of_getElem? (i := 504) (by decide +kernel)) (by decide +kernel)⟩
theorem cl_X11_68c : Cond.classLink RX11 68 RX0 ∈ tc_T := tc_mem (List.mem_of_getElem? (i := 520) (by decide +kernel)) (by decide +kernel)
theorem ii_0 : Cond.instantiable RX0 2 ∈ tc_T := tc_mem (List.mem_of_getElem? (i := 521) (by decide +kernel)) (by decide +kernel)
theorem it_0 : Cond.initialized RX0 ∈ tc_T := tc_mem (List.mem_of_getElem? (i := 109) (by decide +kernel)) (by decide +kernel)
theorem tc_df_0 (z : Nat) : ∀ k, k < 2 → defaultValue (tc_ty 0 k) = tc_val z (tc_ty 0 k) 0 0 none
  | 0, _ => rfl
  | 1, _ => rfl
  | k + 2, h => absurd h (by omega)
theorem mo_X0 : Cond.methodLink RX0 3 Lib.objectInit ∈ tc_T := tc_mem (List.mem_of_getElem? (i := 525) (by decide +kernel)) (by decide +kernel)
theorem cl_X0_9c : Cond.classLink RX0 9 RX9 ∈ tc_T := tc_mem (List.mem_of_getElem? (i := 526) (by decide +kernel)) (by decide +kernel)
theorem ml_X0_11 : Cond.methodLink RX0 11 yX9_init ∈ tc_T := tc_mem (List.mem_of_getElem? (i := 527) (by decide +kernel)) (by decide +kernel)
set_option maxRecDepth 100000 in
theorem mw_X0_init : tc_MW yX0_init cX0_init 2 none 1 := ⟨tc_mem (List.mem_of_getElem? (i := 524) rfl) (by decide +kernel), tc_mem (List.mem_of_getElem? (i := 109) (by decide +kernel)) (by decide +kernel), by decide +kernel⟩
theorem mj_X0_init : yX0_init.name = "<init>" ∧ Cond.instanceMethod yX0_init ∈ tc_T := ⟨rfl, tc_mem (List.mem_of_getElem? (i := 523) (by decide +kernel)) (by decide +kernel)⟩
theorem ml_X11_70 : Cond.methodLink RX11 70 yX0_init ∈ tc_T := tc_mem (List.mem_of_getElem? (i := 522) (by decide +kernel)) (by decide +kernel)
theorem cl_X11_77c : Cond.classLink RX11 77 RX6 ∈ tc_T := tc_mem (List.mem_of_getElem? (i := 535) (by decide +kernel)) (by decide +kernel)
theorem ii_6 : Cond.instantiable RX6 14 ∈ tc_T := tc_mem (List.mem_of_getElem? (i := 536) (by decide +kernel)) (by decide +kernel)
theorem it_6 : Cond.initialized RX6 ∈ tc_T := tc_mem (List.mem_of_getElem? (i := 110) (by decide +kernel)) (by decide +kernel)
theorem tc_df_6 (z : Nat) : ∀ k, k < 14 → defaultValue (tc_ty 6 k) = tc_val z (tc_ty 6 k) 0 0 none
  | 0, _ => rfl
  | 1, _ => rfl
  | 2, _ => rfl
  | 3, _ => rfl
  | 4, _ => rfl
  | 5, _ => rfl
  | 6, _ => rfl
  | 7, _ => rfl
  | 8, _ => rfl
  | 9, _ => rfl
  | 10, _ => rfl
  | 11, _ => rfl
  | 12, _ => rfl
  | 13, _ => rfl
  | k + 14, h => absurd h (by omega)
theorem fl_X11_79 : tc_FL RX11 79 10 1 := ⟨_, rfl, by decide, tc_mem (List.mem_of_getElem? (i := 367) (by decide +kernel)) (by decide +kernel)⟩
theorem mo_X6 : Cond.methodLink RX6 3 Lib.objectInit ∈ tc_T := tc_mem (List.mem_of_getElem? (i := 540) (by decide +kernel)) (by decide +kernel)
theorem cl_X6_9c : Cond.classLink RX6 9 RX8 ∈ tc_T := tc_mem (List.mem_of_getElem? (i := 541) (by decide +kernel)) (by decide +kernel)
theorem ml_X6_11 : Cond.methodLink RX6 11 yX8_init ∈ tc_T := tc_mem (List.mem_of_getElem? (i := 542) (by decide +kernel)) (by decide +kernel)
set_option maxRecDepth 100000 in
theorem mw_X6_init : tc_MW yX6_init cX6_init 2 none 1 := ⟨tc_mem (List.mem_of_getElem? (i := 539) rfl) (by decide +kernel), tc_mem (List.mem_of_getElem? (i := 110) (by decide +kernel)) (by decide +kernel), by decide +kernel⟩
theorem mj_X6_init : yX6_init.name = "<init>" ∧ Cond.instanceMethod yX6_init ∈ tc_T := ⟨rfl, tc_mem (List.mem_of_getElem? (i := 538) (by decide +kernel)) (by decide +kernel)⟩
theorem ml_X11_83 : Cond.methodLink RX11 83 yX6_init ∈ tc_T := tc_mem (List.mem_of_getElem? (i := 537) (by decide +kernel)) (by decide +kernel)
theorem mo_X12 : Cond.methodLink RX12 1 Lib.objectInit ∈ tc_T := tc_mem (List.mem_of_getElem? (i := 1196) (by decide +kernel)) (by decide +kernel)
