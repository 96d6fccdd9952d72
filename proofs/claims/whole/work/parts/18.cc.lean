set_option maxRecDepth 100000 in
set_option maxHeartbeats 4000000 in
theorem ct_X2_init {l : Launch} {z : Nat} {D : tc_D} {L : tc_L} {v0 : Nat} {u : tc_S} {Lr : tc_L} {ur : tc_S} (h : fn_X2_init L v0 u = some (Lr, ur)) : tc_C l z D yX2_init cX2_init 1 none 1 20 0 0 [.ref (z + v0)] (tc_gl L) u (tc_pl Lr ur) := by
  unfold fn_X2_init at h
  refine tc_C.ofI (by decide) rfl (Nat.le_of_ble_eq_true rfl) fun p e s m args below meth c hin => ?_
  show tc_R p l e { frames := 1, cells := 0, slots := 0, locals := 20 } s m args below meth c z D cX2_init RX2 1 none 0 0 (tc_pl Lr ur) 0 0 (tc_gl L) u 0 [(0, .ref (z + v0))] []
  refine tc_aload_n 0 rfl dX2_init_0 ?_
  refine tc_objInit mo_X2 wo_i wo_c (Nat.le_of_ble_eq_true rfl) (Nat.le_of_ble_eq_true rfl) dX2_init_1 ?_
  obtain ⟨ha1, h⟩ := tc_kc_ex h
  obtain ⟨L2, eL2, h⟩ := tc_let_ex h
  refine tc_dnR ⟨_, by decide, ha1⟩ ?_
  refine tc_nmL eL2 ?_
  cases h
  exact tc_return rfl dX2_init_4 rfl rfl ⟨rfl, rfl, rfl⟩
set_option maxRecDepth 100000 in
set_option maxHeartbeats 4000000 in
theorem ct_X8_init {l : Launch} {z : Nat} {D : tc_D} {L : tc_L} {v0 : Nat} {u : tc_S} {Lr : tc_L} {ur : tc_S} (h : fn_X8_init L v0 u = some (Lr, ur)) : tc_C l z D yX8_init cX8_init 1 none 2 44 1 1 [.ref (z + v0)] (tc_gl L) u (tc_pl Lr ur) := by
  unfold fn_X8_init at h
  refine tc_C.ofI (by decide) rfl (Nat.le_of_ble_eq_true rfl) fun p e s m args below meth c hin => ?_
  show tc_R p l e { frames := 2, cells := 1, slots := 1, locals := 44 } s m args below meth c z D cX8_init RX8 1 none 1 1 (tc_pl Lr ur) 0 0 (tc_gl L) u 0 [(0, .ref (z + v0))] []
  refine tc_aload_n 0 rfl dX8_init_0 ?_
  refine tc_objInit mo_X8 wo_i wo_c (Nat.le_of_ble_eq_true rfl) (Nat.le_of_ble_eq_true rfl) dX8_init_1 ?_
  refine tc_aload_n 0 rfl dX8_init_4 ?_
  obtain ⟨n1, en1, h⟩ := tc_let_ex h
  obtain ⟨L2, eL2, h⟩ := tc_let_ex h
  obtain ⟨u3, eu3, h⟩ := tc_let_ex h
  refine tc_newo (r := (RX2, TX2, 1)) (ci := 2) rfl (by decide) cl_X8_9c ii_2 it_2 (tc_df_2 z) (Nat.le_of_ble_eq_true rfl) (Nat.le_of_ble_eq_true rfl) dX8_init_5 ?_
  refine tc_nmr en1 ?_
  refine tc_nmL eL2 ?_
  refine tc_nmu eu3 ?_
  refine tc_dup rfl dX8_init_8 ?_
  obtain ⟨L4, u5, hq6, h⟩ := tc_bl_ex h
  refine tc_callINv [] dX8_init_9 (ct_X2_init hq6) (by decide) mw_X2_init mj_X2_init ⟨(Nat.le_of_ble_eq_true rfl), (Nat.le_of_ble_eq_true rfl)⟩ rfl rfl (Nat.le_of_ble_eq_true rfl) ⟨(Nat.le_of_ble_eq_true rfl), (Nat.le_of_ble_eq_true rfl)⟩ ?_
  obtain ⟨ha7, h⟩ := tc_kc_ex h
  obtain ⟨hk8, h⟩ := tc_ks_ex h
  obtain ⟨L9, eL9, h⟩ := tc_let_ex h
  refine tc_putP hin ha7 fl_X8_12 hk8 dX8_init_12 ?_
  refine tc_nmL eL9 ?_
  refine tc_aload_n 0 rfl dX8_init_15 ?_
  obtain ⟨ha10, h⟩ := tc_kc_ex h
  obtain ⟨L11, eL11, h⟩ := tc_let_ex h
  refine tc_dnR ⟨_, by decide, ha10⟩ ?_
  refine tc_nmL eL11 ?_
  obtain ⟨hW12, h⟩ := tc_wc_ex h
  obtain ⟨hi13, h⟩ := tc_kd_ex h
  obtain ⟨x14, u15, hq16, h⟩ := tc_b_ex h
  refine tc_callVv [] dX8_init_16 hi13.1 (ct_X8_begin hW12 hi13 hq16) ml_X8_18 mw_X8_begin mv_X8_begin ⟨(Nat.le_of_ble_eq_true rfl), (Nat.le_of_ble_eq_true rfl)⟩ rfl rfl (Nat.le_of_ble_eq_true rfl) ⟨(Nat.le_of_ble_eq_true rfl), (Nat.le_of_ble_eq_true rfl)⟩ (by decide) ?_
  cases h
  exact tc_return rfl dX8_init_19 rfl rfl ⟨rfl, rfl, rfl⟩
set_option maxRecDepth 100000 in
set_option maxHeartbeats 4000000 in
theorem ct_X9_init_64 {l : Launch} {z : Nat} {D : tc_D} {L : tc_L} {v0 : Nat} {u : tc_S} {Lr : tc_L} {ur : tc_S} (h : fn_X9_init_64 L v0 u = some (Lr, ur)) : tc_C l z D yX9_init cX9_init 2 none 3 64 9 459 [.ref (z + v0), .int 64] (tc_gl L) u (tc_pl Lr ur) := by
  unfold fn_X9_init_64 at h
  refine tc_C.ofI (by decide) rfl (Nat.le_of_ble_eq_true rfl) fun p e s m args below meth c hin => ?_
  show tc_R p l e { frames := 3, cells := 9, slots := 459, locals := 64 } s m args below meth c z D cX9_init RX9 2 none 9 459 (tc_pl Lr ur) 0 0 (tc_gl L) u 0 [(0, .ref (z + v0)), (1, .int 64)] []
  refine tc_aload_n 0 rfl dX9_init_0 ?_
  refine tc_objInit mo_X9 wo_i wo_c (Nat.le_of_ble_eq_true rfl) (Nat.le_of_ble_eq_true rfl) dX9_init_1 ?_
  refine tc_aload_n 0 rfl dX9_init_4 ?_
  obtain ⟨n1, en1, h⟩ := tc_let_ex h
  obtain ⟨L2, eL2, h⟩ := tc_let_ex h
  obtain ⟨u3, eu3, h⟩ := tc_let_ex h
  refine tc_newo (r := (RX8, TX8, 12)) (ci := 8) rfl (by decide) cl_X9_9c ii_8 it_8 (tc_df_8 z) (Nat.le_of_ble_eq_true rfl) (Nat.le_of_ble_eq_true rfl) dX9_init_5 ?_
  refine tc_nmr en1 ?_
  refine tc_nmL eL2 ?_
  refine tc_nmu eu3 ?_
  refine tc_dup rfl dX9_init_8 ?_
  obtain ⟨L4, u5, hq6, h⟩ := tc_bl_ex h
  refine tc_callIv [] dX9_init_9 (ct_X8_init hq6) ml_X9_11 mw_X8_init mj_X8_init ⟨(Nat.le_of_ble_eq_true rfl), (Nat.le_of_ble_eq_true rfl)⟩ rfl rfl (Nat.le_of_ble_eq_true rfl) ⟨(Nat.le_of_ble_eq_true rfl), (Nat.le_of_ble_eq_true rfl)⟩ ?_
  obtain ⟨ha7, h⟩ := tc_kc_ex h
  obtain ⟨hk8, h⟩ := tc_ks_ex h
  obtain ⟨L9, eL9, h⟩ := tc_let_ex h
  refine tc_putP hin ha7 fl_X9_12 hk8 dX9_init_12 ?_
  refine tc_nmL eL9 ?_
  refine tc_aload_n 0 rfl dX9_init_15 ?_
  refine tc_bipush (v := 32) (by decide) dX9_init_16 ?_
  obtain ⟨n10, en10, h⟩ := tc_let_ex h
  obtain ⟨L11, eL11, h⟩ := tc_let_ex h
  obtain ⟨u12, eu12, h⟩ := tc_let_ex h
  refine tc_newa (atype := .int) (q := 100) (N := 32) (Or.inl ⟨rfl, rfl⟩) wa_int (by decide) (by decide) (Nat.le_of_ble_eq_true rfl) (Nat.le_of_ble_eq_true rfl) (Nat.le_of_ble_eq_true rfl) dX9_init_18 ?_
  refine tc_nmr en10 ?_
  refine tc_nmL eL11 ?_
  refine tc_nmu eu12 ?_
  obtain ⟨ha13, h⟩ := tc_kc_ex h
  obtain ⟨hk14, h⟩ := tc_ks_ex h
  obtain ⟨L15, eL15, h⟩ := tc_let_ex h
  refine tc_putP hin ha13 fl_X9_18 hk14 dX9_init_20 ?_
  refine tc_nmL eL15 ?_
  refine tc_aload_n 0 rfl dX9_init_23 ?_
  refine tc_iload_n 1 rfl dX9_init_24 ?_
  refine tc_iconst (v := 1) (by decide) dX9_init_25 ?_
  refine tc_icmp_ge 33 dX9_init_26 (by decide) (fun _ => ?_) (fun h => absurd (by decide) h)
  refine tc_iload_n 1 rfl dX9_init_33 ?_
  obtain ⟨ha16, h⟩ := tc_kc_ex h
  obtain ⟨u17, eu17, h⟩ := tc_let_ex h
  refine tc_putFi hin ha16 fl_X9_22 dX9_init_34 ?_
  refine tc_nmu eu17 ?_
  refine tc_aload_n 0 rfl dX9_init_37 ?_
  refine tc_aload_n 0 rfl dX9_init_38 ?_
  obtain ⟨ha18, h⟩ := tc_kc_ex h
  refine tc_geti ha18 fl_X9_22 dX9_init_39 ?_
  refine tc_iconst (v := 4) (by decide) dX9_init_42 ?_
  refine tc_iadd dX9_init_43 ?_
  obtain ⟨ha19, h⟩ := tc_kc_ex h
  obtain ⟨u20, eu20, h⟩ := tc_let_ex h
  refine tc_putFi hin ha19 fl_X9_26 dX9_init_44 ?_
  refine tc_nmu eu20 ?_
  refine tc_aload_n 0 rfl dX9_init_47 ?_
  refine tc_aload_n 0 rfl dX9_init_48 ?_
  obtain ⟨ha21, h⟩ := tc_kc_ex h
  refine tc_geti ha21 fl_X9_26 dX9_init_49 ?_
  refine tc_iconst (v := 1) (by decide) dX9_init_52 ?_
  refine tc_iadd dX9_init_53 ?_
  obtain ⟨hz22, h⟩ := tc_en_ex h
  refine tc_nm hz22.symm ?_
  obtain ⟨n23, en23, h⟩ := tc_let_ex h
  obtain ⟨L24, eL24, h⟩ := tc_let_ex h
  obtain ⟨u25, eu25, h⟩ := tc_let_ex h
  refine tc_newa (atype := .int) (q := 100) (N := 69) (Or.inl ⟨rfl, rfl⟩) wa_int (by decide) (by decide) (Nat.le_of_ble_eq_true rfl) (Nat.le_of_ble_eq_true rfl) (Nat.le_of_ble_eq_true rfl) dX9_init_54 ?_
  refine tc_nmr en23 ?_
  refine tc_nmL eL24 ?_
  refine tc_nmu eu25 ?_
  obtain ⟨ha26, h⟩ := tc_kc_ex h
  obtain ⟨hk27, h⟩ := tc_ks_ex h
  obtain ⟨L28, eL28, h⟩ := tc_let_ex h
  refine tc_putP hin ha26 fl_X9_29 hk27 dX9_init_56 ?_
  refine tc_nmL eL28 ?_
  refine tc_aload_n 0 rfl dX9_init_59 ?_
  refine tc_aload_n 0 rfl dX9_init_60 ?_
  obtain ⟨ha29, h⟩ := tc_kc_ex h
  refine tc_geti ha29 fl_X9_26 dX9_init_61 ?_
  refine tc_iconst (v := 1) (by decide) dX9_init_64 ?_
  refine tc_iadd dX9_init_65 ?_
  obtain ⟨hz30, h⟩ := tc_en_ex h
  refine tc_nm hz30.symm ?_
  obtain ⟨n31, en31, h⟩ := tc_let_ex h
  obtain ⟨L32, eL32, h⟩ := tc_let_ex h
  obtain ⟨u33, eu33, h⟩ := tc_let_ex h
  refine tc_newa (atype := .int) (q := 100) (N := 69) (Or.inl ⟨rfl, rfl⟩) wa_int (by decide) (by decide) (Nat.le_of_ble_eq_true rfl) (Nat.le_of_ble_eq_true rfl) (Nat.le_of_ble_eq_true rfl) dX9_init_66 ?_
  refine tc_nmr en31 ?_
  refine tc_nmL eL32 ?_
  refine tc_nmu eu33 ?_
  obtain ⟨ha34, h⟩ := tc_kc_ex h
  obtain ⟨hk35, h⟩ := tc_ks_ex h
  obtain ⟨L36, eL36, h⟩ := tc_let_ex h
  refine tc_putP hin ha34 fl_X9_32 hk35 dX9_init_68 ?_
  refine tc_nmL eL36 ?_
  refine tc_aload_n 0 rfl dX9_init_71 ?_
  refine tc_aload_n 0 rfl dX9_init_72 ?_
  obtain ⟨ha37, h⟩ := tc_kc_ex h
  refine tc_geti ha37 fl_X9_26 dX9_init_73 ?_
  refine tc_iconst (v := 1) (by decide) dX9_init_76 ?_
  refine tc_iadd dX9_init_77 ?_
  obtain ⟨hz38, h⟩ := tc_en_ex h
  refine tc_nm hz38.symm ?_
  obtain ⟨n39, en39, h⟩ := tc_let_ex h
  obtain ⟨L40, eL40, h⟩ := tc_let_ex h
  obtain ⟨u41, eu41, h⟩ := tc_let_ex h
  refine tc_newa (atype := .int) (q := 100) (N := 69) (Or.inl ⟨rfl, rfl⟩) wa_int (by decide) (by decide) (Nat.le_of_ble_eq_true rfl) (Nat.le_of_ble_eq_true rfl) (Nat.le_of_ble_eq_true rfl) dX9_init_78 ?_
  refine tc_nmr en39 ?_
  refine tc_nmL eL40 ?_
  refine tc_nmu eu41 ?_
  obtain ⟨ha42, h⟩ := tc_kc_ex h
  obtain ⟨hk43, h⟩ := tc_ks_ex h
  obtain ⟨L44, eL44, h⟩ := tc_let_ex h
  refine tc_putP hin ha42 fl_X9_35 hk43 dX9_init_80 ?_
  refine tc_nmL eL44 ?_
  refine tc_aload_n 0 rfl dX9_init_83 ?_
  refine tc_aload_n 0 rfl dX9_init_84 ?_
  obtain ⟨ha45, h⟩ := tc_kc_ex h
  refine tc_geti ha45 fl_X9_26 dX9_init_85 ?_
  refine tc_iconst (v := 1) (by decide) dX9_init_88 ?_
  refine tc_iadd dX9_init_89 ?_
  obtain ⟨hz46, h⟩ := tc_en_ex h
  refine tc_nm hz46.symm ?_
  obtain ⟨n47, en47, h⟩ := tc_let_ex h
  obtain ⟨L48, eL48, h⟩ := tc_let_ex h
  obtain ⟨u49, eu49, h⟩ := tc_let_ex h
  refine tc_newa (atype := .int) (q := 100) (N := 69) (Or.inl ⟨rfl, rfl⟩) wa_int (by decide) (by decide) (Nat.le_of_ble_eq_true rfl) (Nat.le_of_ble_eq_true rfl) (Nat.le_of_ble_eq_true rfl) dX9_init_90 ?_
  refine tc_nmr en47 ?_
  refine tc_nmL eL48 ?_
  refine tc_nmu eu49 ?_
  obtain ⟨ha50, h⟩ := tc_kc_ex h
  obtain ⟨hk51, h⟩ := tc_ks_ex h
  obtain ⟨L52, eL52, h⟩ := tc_let_ex h
  refine tc_putP hin ha50 fl_X9_38 hk51 dX9_init_92 ?_
  refine tc_nmL eL52 ?_
  refine tc_aload_n 0 rfl dX9_init_95 ?_
  refine tc_aload_n 0 rfl dX9_init_96 ?_
  obtain ⟨ha53, h⟩ := tc_kc_ex h
  refine tc_geti ha53 fl_X9_26 dX9_init_97 ?_
  refine tc_iconst (v := 1) (by decide) dX9_init_100 ?_
  refine tc_iadd dX9_init_101 ?_
  obtain ⟨hz54, h⟩ := tc_en_ex h
  refine tc_nm hz54.symm ?_
  obtain ⟨n55, en55, h⟩ := tc_let_ex h
  obtain ⟨L56, eL56, h⟩ := tc_let_ex h
  obtain ⟨u57, eu57, h⟩ := tc_let_ex h
  refine tc_newa (atype := .int) (q := 100) (N := 69) (Or.inl ⟨rfl, rfl⟩) wa_int (by decide) (by decide) (Nat.le_of_ble_eq_true rfl) (Nat.le_of_ble_eq_true rfl) (Nat.le_of_ble_eq_true rfl) dX9_init_102 ?_
  refine tc_nmr en55 ?_
  refine tc_nmL eL56 ?_
  refine tc_nmu eu57 ?_
  obtain ⟨ha58, h⟩ := tc_kc_ex h
  obtain ⟨hk59, h⟩ := tc_ks_ex h
  obtain ⟨L60, eL60, h⟩ := tc_let_ex h
  refine tc_putP hin ha58 fl_X9_41 hk59 dX9_init_104 ?_
  refine tc_nmL eL60 ?_
  refine tc_aload_n 0 rfl dX9_init_107 ?_
  refine tc_aload_n 0 rfl dX9_init_108 ?_
  obtain ⟨ha61, h⟩ := tc_kc_ex h
  refine tc_geti ha61 fl_X9_26 dX9_init_109 ?_
  refine tc_iconst (v := 1) (by decide) dX9_init_112 ?_
  refine tc_iadd dX9_init_113 ?_
  obtain ⟨hz62, h⟩ := tc_en_ex h
  refine tc_nm hz62.symm ?_
  obtain ⟨n63, en63, h⟩ := tc_let_ex h
  obtain ⟨L64, eL64, h⟩ := tc_let_ex h
  obtain ⟨u65, eu65, h⟩ := tc_let_ex h
  refine tc_newa (atype := .int) (q := 100) (N := 69) (Or.inl ⟨rfl, rfl⟩) wa_int (by decide) (by decide) (Nat.le_of_ble_eq_true rfl) (Nat.le_of_ble_eq_true rfl) (Nat.le_of_ble_eq_true rfl) dX9_init_114 ?_
  refine tc_nmr en63 ?_
  refine tc_nmL eL64 ?_
  refine tc_nmu eu65 ?_
  obtain ⟨ha66, h⟩ := tc_kc_ex h
  obtain ⟨hk67, h⟩ := tc_ks_ex h
  obtain ⟨L68, eL68, h⟩ := tc_let_ex h
  refine tc_putP hin ha66 fl_X9_44 hk67 dX9_init_116 ?_
  refine tc_nmL eL68 ?_
  refine tc_aload_n 0 rfl dX9_init_119 ?_
  obtain ⟨ha69, h⟩ := tc_kc_ex h
  obtain ⟨L70, eL70, h⟩ := tc_let_ex h
  refine tc_dnR ⟨_, by decide, ha69⟩ ?_
  refine tc_nmL eL70 ?_
  obtain ⟨hW71, h⟩ := tc_wc_ex h
  obtain ⟨hi72, h⟩ := tc_kd_ex h
  obtain ⟨x73, u74, hq75, h⟩ := tc_b_ex h
  refine tc_callVv [] dX9_init_120 hi72.1 (ct_X9_clear hW71 hi72 hq75) ml_X9_47 mw_X9_clear mv_X9_clear ⟨(Nat.le_of_ble_eq_true rfl), (Nat.le_of_ble_eq_true rfl)⟩ rfl rfl (Nat.le_of_ble_eq_true rfl) ⟨(Nat.le_of_ble_eq_true rfl), (Nat.le_of_ble_eq_true rfl)⟩ (by decide) ?_
  cases h
  exact tc_return rfl dX9_init_123 rfl rfl ⟨rfl, rfl, rfl⟩
set_option maxRecDepth 100000 in
set_option maxHeartbeats 4000000 in
theorem ct_X10_init {l : Launch} {z : Nat} {D : tc_D} {L : tc_L} {v0 : Nat} {u : tc_S} {Lr : tc_L} {ur : tc_S} (h : fn_X10_init L v0 u = some (Lr, ur)) : tc_C l z D yX10_init cX10_init 1 none 4 85 11 876 [.ref (z + v0)] (tc_gl L) u (tc_pl Lr ur) := by
  unfold fn_X10_init at h
  refine tc_C.ofI (by decide) rfl (Nat.le_of_ble_eq_true rfl) fun p e s m args below meth c hin => ?_
  show tc_R p l e { frames := 4, cells := 11, slots := 876, locals := 85 } s m args below meth c z D cX10_init RX10 1 none 11 876 (tc_pl Lr ur) 0 0 (tc_gl L) u 0 [(0, .ref (z + v0))] []
  refine tc_aload_n 0 rfl dX10_init_0 ?_
  refine tc_objInit mo_X10 wo_i wo_c (Nat.le_of_ble_eq_true rfl) (Nat.le_of_ble_eq_true rfl) dX10_init_1 ?_
  refine tc_aload_n 0 rfl dX10_init_4 ?_
  obtain ⟨n1, en1, h⟩ := tc_let_ex h
  obtain ⟨L2, eL2, h⟩ := tc_let_ex h
  obtain ⟨u3, eu3, h⟩ := tc_let_ex h
  refine tc_newo (r := (RX9, TX9, 17)) (ci := 9) rfl (by decide) cl_X10_9c ii_9 it_9 (tc_df_9 z) (Nat.le_of_ble_eq_true rfl) (Nat.le_of_ble_eq_true rfl) dX10_init_5 ?_
  refine tc_nmr en1 ?_
  refine tc_nmL eL2 ?_
  refine tc_nmu eu3 ?_
  refine tc_dup rfl dX10_init_8 ?_
  refine tc_bipush (v := 64) (by decide) dX10_init_9 ?_
  obtain ⟨L4, u5, hq6, h⟩ := tc_bl_ex h
  refine tc_callIv [.int 64] dX10_init_11 (ct_X9_init_64 hq6) ml_X10_11 mw_X9_init mj_X9_init ⟨(Nat.le_of_ble_eq_true rfl), (Nat.le_of_ble_eq_true rfl)⟩ rfl rfl (Nat.le_of_ble_eq_true rfl) ⟨(Nat.le_of_ble_eq_true rfl), (Nat.le_of_ble_eq_true rfl)⟩ ?_
  obtain ⟨ha7, h⟩ := tc_kc_ex h
  obtain ⟨hk8, h⟩ := tc_ks_ex h
  obtain ⟨L9, eL9, h⟩ := tc_let_ex h
  refine tc_putP hin ha7 fl_X10_14 hk8 dX10_init_14 ?_
  refine tc_nmL eL9 ?_
  refine tc_aload_n 0 rfl dX10_init_17 ?_
  refine tc_sipush (v := 400) (by decide) dX10_init_18 ?_
  obtain ⟨n10, en10, h⟩ := tc_let_ex h
  obtain ⟨L11, eL11, h⟩ := tc_let_ex h
  obtain ⟨u12, eu12, h⟩ := tc_let_ex h
  refine tc_newa (atype := .byte) (q := 101) (N := 400) (Or.inr (Or.inl ⟨rfl, rfl⟩)) wa_byte (by decide) (by decide) (Nat.le_of_ble_eq_true rfl) (Nat.le_of_ble_eq_true rfl) (Nat.le_of_ble_eq_true rfl) dX10_init_21 ?_
  refine tc_nmr en10 ?_
  refine tc_nmL eL11 ?_
  refine tc_nmu eu12 ?_
  obtain ⟨ha13, h⟩ := tc_kc_ex h
  obtain ⟨hk14, h⟩ := tc_ks_ex h
  obtain ⟨L15, eL15, h⟩ := tc_let_ex h
  refine tc_putP hin ha13 fl_X10_20 hk14 dX10_init_23 ?_
  refine tc_nmL eL15 ?_
  refine tc_aload_n 0 rfl dX10_init_26 ?_
  refine tc_iconst (v := (-1)) (by decide) dX10_init_27 ?_
  obtain ⟨ha16, h⟩ := tc_kc_ex h
  obtain ⟨u17, eu17, h⟩ := tc_let_ex h
  refine tc_puti ha16 fl_X10_24 dX10_init_28 ?_
  refine tc_nmu eu17 ?_
  obtain ⟨ha18, h⟩ := tc_kc_ex h
  obtain ⟨L19, eL19, h⟩ := tc_let_ex h
  refine tc_dnR ⟨_, by decide, ha18⟩ ?_
  refine tc_nmL eL19 ?_
  cases h
  exact tc_return rfl dX10_init_31 rfl rfl ⟨rfl, rfl, rfl⟩
set_option maxRecDepth 100000 in
set_option maxHeartbeats 4000000 in
theorem ct_X1_init {l : Launch} {z : Nat} {D : tc_D} {L : tc_L} {v0 : Nat} {u : tc_S} {Lr : tc_L} {ur : tc_S} (h : fn_X1_init L v0 u = some (Lr, ur)) : tc_C l z D yX1_init cX1_init 1 none 1 20 5 160 [.ref (z + v0)] (tc_gl L) u (tc_pl Lr ur) := by
  unfold fn_X1_init at h
  refine tc_C.ofI (by decide) rfl (Nat.le_of_ble_eq_true rfl) fun p e s m args below meth c hin => ?_
  show tc_R p l e { frames := 1, cells := 5, slots := 160, locals := 20 } s m args below meth c z D cX1_init RX1 1 none 5 160 (tc_pl Lr ur) 0 0 (tc_gl L) u 0 [(0, .ref (z + v0))] []
  refine tc_aload_n 0 rfl dX1_init_0 ?_
  refine tc_objInit mo_X1 wo_i wo_c (Nat.le_of_ble_eq_true rfl) (Nat.le_of_ble_eq_true rfl) dX1_init_1 ?_
  refine tc_aload_n 0 rfl dX1_init_4 ?_
  refine tc_bipush (v := 32) (by decide) dX1_init_5 ?_
  obtain ⟨n1, en1, h⟩ := tc_let_ex h
  obtain ⟨L2, eL2, h⟩ := tc_let_ex h
  obtain ⟨u3, eu3, h⟩ := tc_let_ex h
  refine tc_newa (atype := .int) (q := 100) (N := 32) (Or.inl ⟨rfl, rfl⟩) wa_int (by decide) (by decide) (Nat.le_of_ble_eq_true rfl) (Nat.le_of_ble_eq_true rfl) (Nat.le_of_ble_eq_true rfl) dX1_init_7 ?_
  refine tc_nmr en1 ?_
  refine tc_nmL eL2 ?_
  refine tc_nmu eu3 ?_
  obtain ⟨ha4, h⟩ := tc_kc_ex h
  obtain ⟨hk5, h⟩ := tc_ks_ex h
  obtain ⟨L6, eL6, h⟩ := tc_let_ex h
  refine tc_putP hin ha4 fl_X1_9 hk5 dX1_init_9 ?_
  refine tc_nmL eL6 ?_
  refine tc_aload_n 0 rfl dX1_init_12 ?_
  refine tc_bipush (v := 32) (by decide) dX1_init_13 ?_
  obtain ⟨n7, en7, h⟩ := tc_let_ex h
  obtain ⟨L8, eL8, h⟩ := tc_let_ex h
  obtain ⟨u9, eu9, h⟩ := tc_let_ex h
  refine tc_newa (atype := .int) (q := 100) (N := 32) (Or.inl ⟨rfl, rfl⟩) wa_int (by decide) (by decide) (Nat.le_of_ble_eq_true rfl) (Nat.le_of_ble_eq_true rfl) (Nat.le_of_ble_eq_true rfl) dX1_init_15 ?_
  refine tc_nmr en7 ?_
  refine tc_nmL eL8 ?_
  refine tc_nmu eu9 ?_
  obtain ⟨ha10, h⟩ := tc_kc_ex h
  obtain ⟨hk11, h⟩ := tc_ks_ex h
  obtain ⟨L12, eL12, h⟩ := tc_let_ex h
  refine tc_putP hin ha10 fl_X1_15 hk11 dX1_init_17 ?_
  refine tc_nmL eL12 ?_
  refine tc_aload_n 0 rfl dX1_init_20 ?_
  refine tc_bipush (v := 32) (by decide) dX1_init_21 ?_
  obtain ⟨n13, en13, h⟩ := tc_let_ex h
  obtain ⟨L14, eL14, h⟩ := tc_let_ex h
  obtain ⟨u15, eu15, h⟩ := tc_let_ex h
  refine tc_newa (atype := .int) (q := 100) (N := 32) (Or.inl ⟨rfl, rfl⟩) wa_int (by decide) (by decide) (Nat.le_of_ble_eq_true rfl) (Nat.le_of_ble_eq_true rfl) (Nat.le_of_ble_eq_true rfl) dX1_init_23 ?_
  refine tc_nmr en13 ?_
  refine tc_nmL eL14 ?_
  refine tc_nmu eu15 ?_
  obtain ⟨ha16, h⟩ := tc_kc_ex h
  obtain ⟨hk17, h⟩ := tc_ks_ex h
  obtain ⟨L18, eL18, h⟩ := tc_let_ex h
  refine tc_putP hin ha16 fl_X1_18 hk17 dX1_init_25 ?_
  refine tc_nmL eL18 ?_
  refine tc_aload_n 0 rfl dX1_init_28 ?_
  refine tc_bipush (v := 32) (by decide) dX1_init_29 ?_
  obtain ⟨n19, en19, h⟩ := tc_let_ex h
  obtain ⟨L20, eL20, h⟩ := tc_let_ex h
  obtain ⟨u21, eu21, h⟩ := tc_let_ex h
  refine tc_newa (atype := .int) (q := 100) (N := 32) (Or.inl ⟨rfl, rfl⟩) wa_int (by decide) (by decide) (Nat.le_of_ble_eq_true rfl) (Nat.le_of_ble_eq_true rfl) (Nat.le_of_ble_eq_true rfl) dX1_init_31 ?_
  refine tc_nmr en19 ?_
  refine tc_nmL eL20 ?_
  refine tc_nmu eu21 ?_
  obtain ⟨ha22, h⟩ := tc_kc_ex h
  obtain ⟨hk23, h⟩ := tc_ks_ex h
  obtain ⟨L24, eL24, h⟩ := tc_let_ex h
  refine tc_putP hin ha22 fl_X1_21 hk23 dX1_init_33 ?_
  refine tc_nmL eL24 ?_
  refine tc_aload_n 0 rfl dX1_init_36 ?_
  refine tc_bipush (v := 32) (by decide) dX1_init_37 ?_
  obtain ⟨n25, en25, h⟩ := tc_let_ex h
  obtain ⟨L26, eL26, h⟩ := tc_let_ex h
  obtain ⟨u27, eu27, h⟩ := tc_let_ex h
  refine tc_newa (atype := .boolean) (q := 102) (N := 32) (Or.inr (Or.inr ⟨rfl, rfl⟩)) wa_boolean (by decide) (by decide) (Nat.le_of_ble_eq_true rfl) (Nat.le_of_ble_eq_true rfl) (Nat.le_of_ble_eq_true rfl) dX1_init_39 ?_
  refine tc_nmr en25 ?_
  refine tc_nmL eL26 ?_
  refine tc_nmu eu27 ?_
  obtain ⟨ha28, h⟩ := tc_kc_ex h
  obtain ⟨hk29, h⟩ := tc_ks_ex h
  obtain ⟨L30, eL30, h⟩ := tc_let_ex h
  refine tc_putP hin ha28 fl_X1_24 hk29 dX1_init_41 ?_
  refine tc_nmL eL30 ?_
  obtain ⟨ha31, h⟩ := tc_kc_ex h
  obtain ⟨L32, eL32, h⟩ := tc_let_ex h
  refine tc_dnR ⟨_, by decide, ha31⟩ ?_
  refine tc_nmL eL32 ?_
  cases h
  exact tc_return rfl dX1_init_44 rfl rfl ⟨rfl, rfl, rfl⟩
set_option maxRecDepth 100000 in
set_option maxHeartbeats 4000000 in
theorem ct_X4_init {l : Launch} {z : Nat} {D : tc_D} {L : tc_L} {v0 : Nat} {v1 : Nat} {u : tc_S} {Lr : tc_L} {ur : tc_S} (h : fn_X4_init L v0 v1 u = some (Lr, ur)) : tc_C l z D yX4_init cX4_init 2 none 1 20 1 16 [.ref (z + v0), .ref (z + v1)] (tc_gl L) u (tc_pl Lr ur) := by
  unfold fn_X4_init at h
  refine tc_C.ofI (by decide) rfl (Nat.le_of_ble_eq_true rfl) fun p e s m args below meth c hin => ?_
  show tc_R p l e { frames := 1, cells := 1, slots := 16, locals := 20 } s m args below meth c z D cX4_init RX4 2 none 1 16 (tc_pl Lr ur) 0 0 (tc_gl L) u 0 [(0, .ref (z + v0)), (1, .ref (z + v1))] []
  refine tc_aload_n 0 rfl dX4_init_0 ?_
  refine tc_objInit mo_X4 wo_i wo_c (Nat.le_of_ble_eq_true rfl) (Nat.le_of_ble_eq_true rfl) dX4_init_1 ?_
  refine tc_aload_n 0 rfl dX4_init_4 ?_
  refine tc_bipush (v := 16) (by decide) dX4_init_5 ?_
  obtain ⟨n1, en1, h⟩ := tc_let_ex h
  obtain ⟨L2, eL2, h⟩ := tc_let_ex h
  obtain ⟨u3, eu3, h⟩ := tc_let_ex h
  refine tc_newa (atype := .int) (q := 100) (N := 16) (Or.inl ⟨rfl, rfl⟩) wa_int (by decide) (by decide) (Nat.le_of_ble_eq_true rfl) (Nat.le_of_ble_eq_true rfl) (Nat.le_of_ble_eq_true rfl) dX4_init_7 ?_
  refine tc_nmr en1 ?_
  refine tc_nmL eL2 ?_
  refine tc_nmu eu3 ?_
  obtain ⟨ha4, h⟩ := tc_kc_ex h
  obtain ⟨hk5, h⟩ := tc_ks_ex h
  obtain ⟨L6, eL6, h⟩ := tc_let_ex h
  refine tc_putP hin ha4 fl_X4_9 hk5 dX4_init_9 ?_
  refine tc_nmL eL6 ?_
  refine tc_aload_n 0 rfl dX4_init_12 ?_
  refine tc_aload_n 1 rfl dX4_init_13 ?_
  obtain ⟨ha7, h⟩ := tc_kc_ex h
  obtain ⟨hk8, h⟩ := tc_ks_ex h
  obtain ⟨L9, eL9, h⟩ := tc_let_ex h
  refine tc_putP hin ha7 fl_X4_15 hk8 dX4_init_14 ?_
  refine tc_nmL eL9 ?_
  obtain ⟨ha10, h⟩ := tc_kc_ex h
  obtain ⟨L11, eL11, h⟩ := tc_let_ex h
  refine tc_dnR ⟨_, by decide, ha10⟩ ?_
  refine tc_nmL eL11 ?_
  cases h
  exact tc_return rfl dX4_init_17 rfl rfl ⟨rfl, rfl, rfl⟩
set_option maxRecDepth 100000 in
set_option maxHeartbeats 4000000 in
theorem ct_X7_init {l : Launch} {z : Nat} {D : tc_D} {L : tc_L} {v0 : Nat} {u : tc_S} {Lr : tc_L} {ur : tc_S} (h : fn_X7_init L v0 u = some (Lr, ur)) : tc_C l z D yX7_init cX7_init 1 none 1 20 5 304 [.ref (z + v0)] (tc_gl L) u (tc_pl Lr ur) := by
  unfold fn_X7_init at h
  refine tc_C.ofI (by decide) rfl (Nat.le_of_ble_eq_true rfl) fun p e s m args below meth c hin => ?_
  show tc_R p l e { frames := 1, cells := 5, slots := 304, locals := 20 } s m args below meth c z D cX7_init RX7 1 none 5 304 (tc_pl Lr ur) 0 0 (tc_gl L) u 0 [(0, .ref (z + v0))] []
  refine tc_aload_n 0 rfl dX7_init_0 ?_
  refine tc_objInit mo_X7 wo_i wo_c (Nat.le_of_ble_eq_true rfl) (Nat.le_of_ble_eq_true rfl) dX7_init_1 ?_
  refine tc_aload_n 0 rfl dX7_init_4 ?_
  refine tc_bipush (v := 68) (by decide) dX7_init_5 ?_
  obtain ⟨n1, en1, h⟩ := tc_let_ex h
  obtain ⟨L2, eL2, h⟩ := tc_let_ex h
  obtain ⟨u3, eu3, h⟩ := tc_let_ex h
  refine tc_newa (atype := .int) (q := 100) (N := 68) (Or.inl ⟨rfl, rfl⟩) wa_int (by decide) (by decide) (Nat.le_of_ble_eq_true rfl) (Nat.le_of_ble_eq_true rfl) (Nat.le_of_ble_eq_true rfl) dX7_init_7 ?_
  refine tc_nmr en1 ?_
  refine tc_nmL eL2 ?_
  refine tc_nmu eu3 ?_
  obtain ⟨ha4, h⟩ := tc_kc_ex h
  obtain ⟨hk5, h⟩ := tc_ks_ex h
  obtain ⟨L6, eL6, h⟩ := tc_let_ex h
  refine tc_putP hin ha4 fl_X7_9 hk5 dX7_init_9 ?_
  refine tc_nmL eL6 ?_
  refine tc_aload_n 0 rfl dX7_init_12 ?_
  refine tc_bipush (v := 68) (by decide) dX7_init_13 ?_
  obtain ⟨n7, en7, h⟩ := tc_let_ex h
  obtain ⟨L8, eL8, h⟩ := tc_let_ex h
  obtain ⟨u9, eu9, h⟩ := tc_let_ex h
  refine tc_newa (atype := .boolean) (q := 102) (N := 68) (Or.inr (Or.inr ⟨rfl, rfl⟩)) wa_boolean (by decide) (by decide) (Nat.le_of_ble_eq_true rfl) (Nat.le_of_ble_eq_true rfl) (Nat.le_of_ble_eq_true rfl) dX7_init_15 ?_
  refine tc_nmr en7 ?_
  refine tc_nmL eL8 ?_
  refine tc_nmu eu9 ?_
  obtain ⟨ha10, h⟩ := tc_kc_ex h
  obtain ⟨hk11, h⟩ := tc_ks_ex h
  obtain ⟨L12, eL12, h⟩ := tc_let_ex h
  refine tc_putP hin ha10 fl_X7_15 hk11 dX7_init_17 ?_
  refine tc_nmL eL12 ?_
  refine tc_aload_n 0 rfl dX7_init_20 ?_
  refine tc_bipush (v := 68) (by decide) dX7_init_21 ?_
  obtain ⟨n13, en13, h⟩ := tc_let_ex h
  obtain ⟨L14, eL14, h⟩ := tc_let_ex h
  obtain ⟨u15, eu15, h⟩ := tc_let_ex h
  refine tc_newa (atype := .int) (q := 100) (N := 68) (Or.inl ⟨rfl, rfl⟩) wa_int (by decide) (by decide) (Nat.le_of_ble_eq_true rfl) (Nat.le_of_ble_eq_true rfl) (Nat.le_of_ble_eq_true rfl) dX7_init_23 ?_
  refine tc_nmr en13 ?_
  refine tc_nmL eL14 ?_
  refine tc_nmu eu15 ?_
  obtain ⟨ha16, h⟩ := tc_kc_ex h
  obtain ⟨hk17, h⟩ := tc_ks_ex h
  obtain ⟨L18, eL18, h⟩ := tc_let_ex h
  refine tc_putP hin ha16 fl_X7_19 hk17 dX7_init_25 ?_
  refine tc_nmL eL18 ?_
  refine tc_aload_n 0 rfl dX7_init_28 ?_
  refine tc_bipush (v := 68) (by decide) dX7_init_29 ?_
  obtain ⟨n19, en19, h⟩ := tc_let_ex h
  obtain ⟨L20, eL20, h⟩ := tc_let_ex h
  obtain ⟨u21, eu21, h⟩ := tc_let_ex h
  refine tc_newa (atype := .int) (q := 100) (N := 68) (Or.inl ⟨rfl, rfl⟩) wa_int (by decide) (by decide) (Nat.le_of_ble_eq_true rfl) (Nat.le_of_ble_eq_true rfl) (Nat.le_of_ble_eq_true rfl) dX7_init_31 ?_
  refine tc_nmr en19 ?_
  refine tc_nmL eL20 ?_
  refine tc_nmu eu21 ?_
  obtain ⟨ha22, h⟩ := tc_kc_ex h
  obtain ⟨hk23, h⟩ := tc_ks_ex h
  obtain ⟨L24, eL24, h⟩ := tc_let_ex h
  refine tc_putP hin ha22 fl_X7_22 hk23 dX7_init_33 ?_
  refine tc_nmL eL24 ?_
  refine tc_aload_n 0 rfl dX7_init_36 ?_
  refine tc_bipush (v := 32) (by decide) dX7_init_37 ?_
  obtain ⟨n25, en25, h⟩ := tc_let_ex h
  obtain ⟨L26, eL26, h⟩ := tc_let_ex h
  obtain ⟨u27, eu27, h⟩ := tc_let_ex h
  refine tc_newa (atype := .int) (q := 100) (N := 32) (Or.inl ⟨rfl, rfl⟩) wa_int (by decide) (by decide) (Nat.le_of_ble_eq_true rfl) (Nat.le_of_ble_eq_true rfl) (Nat.le_of_ble_eq_true rfl) dX7_init_39 ?_
  refine tc_nmr en25 ?_
  refine tc_nmL eL26 ?_
  refine tc_nmu eu27 ?_
  obtain ⟨ha28, h⟩ := tc_kc_ex h
  obtain ⟨hk29, h⟩ := tc_ks_ex h
  obtain ⟨L30, eL30, h⟩ := tc_let_ex h
  refine tc_putP hin ha28 fl_X7_25 hk29 dX7_init_41 ?_
  refine tc_nmL eL30 ?_
  obtain ⟨ha31, h⟩ := tc_kc_ex h
  obtain ⟨L32, eL32, h⟩ := tc_let_ex h
  refine tc_dnR ⟨_, by decide, ha31⟩ ?_
  refine tc_nmL eL32 ?_
  cases h
  exact tc_return rfl dX7_init_44 rfl rfl ⟨rfl, rfl, rfl⟩
set_option maxRecDepth 100000 in
set_option maxHeartbeats 4000000 in
theorem ct_X3_init {l : Launch} {z : Nat} {D : tc_D} {L : tc_L} {v0 : Nat} {v1 : Nat} {v2 : Nat} {u : tc_S} {Lr : tc_L} {ur : tc_S} (h : fn_X3_init L v0 v1 v2 u = some (Lr, ur)) : tc_C l z D yX3_init cX3_init 3 none 4 85 11 477 [.ref (z + v0), .ref (z + v1), .ref (z + v2)] (tc_gl L) u (tc_pl Lr ur) := by
  unfold fn_X3_init at h
  refine tc_C.ofI (by decide) rfl (Nat.le_of_ble_eq_true rfl) fun p e s m args below meth c hin => ?_
  show tc_R p l e { frames := 4, cells := 11, slots := 477, locals := 85 } s m args below meth c z D cX3_init RX3 3 none 11 477 (tc_pl Lr ur) 0 0 (tc_gl L) u 0 [(0, .ref (z + v0)), (1, .ref (z + v1)), (2, .ref (z + v2))] []
  refine tc_aload_n 0 rfl dX3_init_0 ?_
  refine tc_objInit mo_X3 wo_i wo_c (Nat.le_of_ble_eq_true rfl) (Nat.le_of_ble_eq_true rfl) dX3_init_1 ?_
  refine tc_aload_n 0 rfl dX3_init_4 ?_
  obtain ⟨n1, en1, h⟩ := tc_let_ex h
  obtain ⟨L2, eL2, h⟩ := tc_let_ex h
  obtain ⟨u3, eu3, h⟩ := tc_let_ex h
  refine tc_newo (r := (RX9, TX9, 17)) (ci := 9) rfl (by decide) cl_X3_9c ii_9 it_9 (tc_df_9 z) (Nat.le_of_ble_eq_true rfl) (Nat.le_of_ble_eq_true rfl) dX3_init_5 ?_
  refine tc_nmr en1 ?_
  refine tc_nmL eL2 ?_
  refine tc_nmu eu3 ?_
  refine tc_dup rfl dX3_init_8 ?_
  refine tc_bipush (v := 64) (by decide) dX3_init_9 ?_
  obtain ⟨L4, u5, hq6, h⟩ := tc_bl_ex h
  refine tc_callIv [.int 64] dX3_init_11 (ct_X9_init_64 hq6) ml_X3_11 mw_X9_init mj_X9_init ⟨(Nat.le_of_ble_eq_true rfl), (Nat.le_of_ble_eq_true rfl)⟩ rfl rfl (Nat.le_of_ble_eq_true rfl) ⟨(Nat.le_of_ble_eq_true rfl), (Nat.le_of_ble_eq_true rfl)⟩ ?_
  obtain ⟨ha7, h⟩ := tc_kc_ex h
  obtain ⟨hk8, h⟩ := tc_ks_ex h
  obtain ⟨L9, eL9, h⟩ := tc_let_ex h
  refine tc_putP hin ha7 fl_X3_14 hk8 dX3_init_14 ?_
  refine tc_nmL eL9 ?_
  refine tc_aload_n 0 rfl dX3_init_17 ?_
  obtain ⟨n10, en10, h⟩ := tc_let_ex h
  obtain ⟨L11, eL11, h⟩ := tc_let_ex h
  obtain ⟨u12, eu12, h⟩ := tc_let_ex h
  refine tc_newo (r := (RX2, TX2, 1)) (ci := 2) rfl (by decide) cl_X3_20c ii_2 it_2 (tc_df_2 z) (Nat.le_of_ble_eq_true rfl) (Nat.le_of_ble_eq_true rfl) dX3_init_18 ?_
  refine tc_nmr en10 ?_
  refine tc_nmL eL11 ?_
  refine tc_nmu eu12 ?_
  refine tc_dup rfl dX3_init_21 ?_
  obtain ⟨L13, u14, hq15, h⟩ := tc_bl_ex h
  refine tc_callINv [] dX3_init_22 (ct_X2_init hq15) (by decide) mw_X2_init mj_X2_init ⟨(Nat.le_of_ble_eq_true rfl), (Nat.le_of_ble_eq_true rfl)⟩ rfl rfl (Nat.le_of_ble_eq_true rfl) ⟨(Nat.le_of_ble_eq_true rfl), (Nat.le_of_ble_eq_true rfl)⟩ ?_
  obtain ⟨ha16, h⟩ := tc_kc_ex h
  obtain ⟨hk17, h⟩ := tc_ks_ex h
  obtain ⟨L18, eL18, h⟩ := tc_let_ex h
  refine tc_putP hin ha16 fl_X3_23 hk17 dX3_init_25 ?_
  refine tc_nmL eL18 ?_
  refine tc_aload_n 0 rfl dX3_init_28 ?_
  refine tc_aload_n 1 rfl dX3_init_29 ?_
  obtain ⟨ha19, h⟩ := tc_kc_ex h
  obtain ⟨hk20, h⟩ := tc_ks_ex h
  obtain ⟨L21, eL21, h⟩ := tc_let_ex h
  refine tc_putP hin ha19 fl_X3_27 hk20 dX3_init_30 ?_
  refine tc_nmL eL21 ?_
  refine tc_aload_n 0 rfl dX3_init_33 ?_
  refine tc_aload_n 2 rfl dX3_init_34 ?_
  obtain ⟨ha22, h⟩ := tc_kc_ex h
  obtain ⟨hk23, h⟩ := tc_ks_ex h
  obtain ⟨L24, eL24, h⟩ := tc_let_ex h
  refine tc_putP hin ha22 fl_X3_31 hk23 dX3_init_35 ?_
  refine tc_nmL eL24 ?_
  obtain ⟨ha25, h⟩ := tc_kc_ex h
  obtain ⟨L26, eL26, h⟩ := tc_let_ex h
  refine tc_dnR ⟨_, by decide, ha25⟩ ?_
  refine tc_nmL eL26 ?_
  cases h
  exact tc_return rfl dX3_init_38 rfl rfl ⟨rfl, rfl, rfl⟩
set_option maxRecDepth 100000 in
set_option maxHeartbeats 4000000 in
theorem ct_X5_init {l : Launch} {z : Nat} {D : tc_D} {L : tc_L} {v0 : Nat} {u : tc_S} {Lr : tc_L} {ur : tc_S} (h : fn_X5_init L v0 u = some (Lr, ur)) : tc_C l z D yX5_init cX5_init 1 none 1 20 3 96 [.ref (z + v0)] (tc_gl L) u (tc_pl Lr ur) := by
  unfold fn_X5_init at h
  refine tc_C.ofI (by decide) rfl (Nat.le_of_ble_eq_true rfl) fun p e s m args below meth c hin => ?_
  show tc_R p l e { frames := 1, cells := 3, slots := 96, locals := 20 } s m args below meth c z D cX5_init RX5 1 none 3 96 (tc_pl Lr ur) 0 0 (tc_gl L) u 0 [(0, .ref (z + v0))] []
  refine tc_aload_n 0 rfl dX5_init_0 ?_
  refine tc_objInit mo_X5 wo_i wo_c (Nat.le_of_ble_eq_true rfl) (Nat.le_of_ble_eq_true rfl) dX5_init_1 ?_
  refine tc_aload_n 0 rfl dX5_init_4 ?_
  refine tc_bipush (v := 32) (by decide) dX5_init_5 ?_
  obtain ⟨n1, en1, h⟩ := tc_let_ex h
  obtain ⟨L2, eL2, h⟩ := tc_let_ex h
  obtain ⟨u3, eu3, h⟩ := tc_let_ex h
  refine tc_newa (atype := .int) (q := 100) (N := 32) (Or.inl ⟨rfl, rfl⟩) wa_int (by decide) (by decide) (Nat.le_of_ble_eq_true rfl) (Nat.le_of_ble_eq_true rfl) (Nat.le_of_ble_eq_true rfl) dX5_init_7 ?_
  refine tc_nmr en1 ?_
  refine tc_nmL eL2 ?_
  refine tc_nmu eu3 ?_
  obtain ⟨ha4, h⟩ := tc_kc_ex h
  obtain ⟨hk5, h⟩ := tc_ks_ex h
  obtain ⟨L6, eL6, h⟩ := tc_let_ex h
  refine tc_putP hin ha4 fl_X5_9 hk5 dX5_init_9 ?_
  refine tc_nmL eL6 ?_
  refine tc_aload_n 0 rfl dX5_init_12 ?_
  refine tc_bipush (v := 32) (by decide) dX5_init_13 ?_
  obtain ⟨n7, en7, h⟩ := tc_let_ex h
  obtain ⟨L8, eL8, h⟩ := tc_let_ex h
  obtain ⟨u9, eu9, h⟩ := tc_let_ex h
  refine tc_newa (atype := .int) (q := 100) (N := 32) (Or.inl ⟨rfl, rfl⟩) wa_int (by decide) (by decide) (Nat.le_of_ble_eq_true rfl) (Nat.le_of_ble_eq_true rfl) (Nat.le_of_ble_eq_true rfl) dX5_init_15 ?_
  refine tc_nmr en7 ?_
  refine tc_nmL eL8 ?_
  refine tc_nmu eu9 ?_
  obtain ⟨ha10, h⟩ := tc_kc_ex h
  obtain ⟨hk11, h⟩ := tc_ks_ex h
  obtain ⟨L12, eL12, h⟩ := tc_let_ex h
  refine tc_putP hin ha10 fl_X5_15 hk11 dX5_init_17 ?_
  refine tc_nmL eL12 ?_
  refine tc_aload_n 0 rfl dX5_init_20 ?_
  refine tc_bipush (v := 32) (by decide) dX5_init_21 ?_
  obtain ⟨n13, en13, h⟩ := tc_let_ex h
  obtain ⟨L14, eL14, h⟩ := tc_let_ex h
  obtain ⟨u15, eu15, h⟩ := tc_let_ex h
  refine tc_newa (atype := .int) (q := 100) (N := 32) (Or.inl ⟨rfl, rfl⟩) wa_int (by decide) (by decide) (Nat.le_of_ble_eq_true rfl) (Nat.le_of_ble_eq_true rfl) (Nat.le_of_ble_eq_true rfl) dX5_init_23 ?_
  refine tc_nmr en13 ?_
  refine tc_nmL eL14 ?_
  refine tc_nmu eu15 ?_
  obtain ⟨ha16, h⟩ := tc_kc_ex h
  obtain ⟨hk17, h⟩ := tc_ks_ex h
  obtain ⟨L18, eL18, h⟩ := tc_let_ex h
  refine tc_putP hin ha16 fl_X5_18 hk17 dX5_init_25 ?_
  refine tc_nmL eL18 ?_
  obtain ⟨ha19, h⟩ := tc_kc_ex h
  obtain ⟨L20, eL20, h⟩ := tc_let_ex h
  refine tc_dnR ⟨_, by decide, ha19⟩ ?_
  refine tc_nmL eL20 ?_
  cases h
  exact tc_return rfl dX5_init_28 rfl rfl ⟨rfl, rfl, rfl⟩
set_option maxRecDepth 100000 in
set_option maxHeartbeats 4000000 in
theorem ct_X9_init_144 {l : Launch} {z : Nat} {D : tc_D} {L : tc_L} {v0 : Nat} {u : tc_S} {Lr : tc_L} {ur : tc_S} (h : fn_X9_init_144 L v0 u = some (Lr, ur)) : tc_C l z D yX9_init cX9_init 2 none 3 64 9 939 [.ref (z + v0), .int 144] (tc_gl L) u (tc_pl Lr ur) := by
  unfold fn_X9_init_144 at h
  refine tc_C.ofI (by decide) rfl (Nat.le_of_ble_eq_true rfl) fun p e s m args below meth c hin => ?_
  show tc_R p l e { frames := 3, cells := 9, slots := 939, locals := 64 } s m args below meth c z D cX9_init RX9 2 none 9 939 (tc_pl Lr ur) 0 0 (tc_gl L) u 0 [(0, .ref (z + v0)), (1, .int 144)] []
  refine tc_aload_n 0 rfl dX9_init_0 ?_
  refine tc_objInit mo_X9 wo_i wo_c (Nat.le_of_ble_eq_true rfl) (Nat.le_of_ble_eq_true rfl) dX9_init_1 ?_
  refine tc_aload_n 0 rfl dX9_init_4 ?_
  obtain ⟨n1, en1, h⟩ := tc_let_ex h
  obtain ⟨L2, eL2, h⟩ := tc_let_ex h
  obtain ⟨u3, eu3, h⟩ := tc_let_ex h
  refine tc_newo (r := (RX8, TX8, 12)) (ci := 8) rfl (by decide) cl_X9_9c ii_8 it_8 (tc_df_8 z) (Nat.le_of_ble_eq_true rfl) (Nat.le_of_ble_eq_true rfl) dX9_init_5 ?_
  refine tc_nmr en1 ?_
  refine tc_nmL eL2 ?_
  refine tc_nmu eu3 ?_
  refine tc_dup rfl dX9_init_8 ?_
  obtain ⟨L4, u5, hq6, h⟩ := tc_bl_ex h
  refine tc_callIv [] dX9_init_9 (ct_X8_init hq6) ml_X9_11 mw_X8_init mj_X8_init ⟨(Nat.le_of_ble_eq_true rfl), (Nat.le_of_ble_eq_true rfl)⟩ rfl rfl (Nat.le_of_ble_eq_true rfl) ⟨(Nat.le_of_ble_eq_true rfl), (Nat.le_of_ble_eq_true rfl)⟩ ?_
  obtain ⟨ha7, h⟩ := tc_kc_ex h
  obtain ⟨hk8, h⟩ := tc_ks_ex h
  obtain ⟨L9, eL9, h⟩ := tc_let_ex h
  refine tc_putP hin ha7 fl_X9_12 hk8 dX9_init_12 ?_
  refine tc_nmL eL9 ?_
  refine tc_aload_n 0 rfl dX9_init_15 ?_
  refine tc_bipush (v := 32) (by decide) dX9_init_16 ?_
  obtain ⟨n10, en10, h⟩ := tc_let_ex h
  obtain ⟨L11, eL11, h⟩ := tc_let_ex h
  obtain ⟨u12, eu12, h⟩ := tc_let_ex h
  refine tc_newa (atype := .int) (q := 100) (N := 32) (Or.inl ⟨rfl, rfl⟩) wa_int (by decide) (by decide) (Nat.le_of_ble_eq_true rfl) (Nat.le_of_ble_eq_true rfl) (Nat.le_of_ble_eq_true rfl) dX9_init_18 ?_
  refine tc_nmr en10 ?_
  refine tc_nmL eL11 ?_
  refine tc_nmu eu12 ?_
  obtain ⟨ha13, h⟩ := tc_kc_ex h
  obtain ⟨hk14, h⟩ := tc_ks_ex h
  obtain ⟨L15, eL15, h⟩ := tc_let_ex h
  refine tc_putP hin ha13 fl_X9_18 hk14 dX9_init_20 ?_
  refine tc_nmL eL15 ?_
  refine tc_aload_n 0 rfl dX9_init_23 ?_
  refine tc_iload_n 1 rfl dX9_init_24 ?_
  refine tc_iconst (v := 1) (by decide) dX9_init_25 ?_
  refine tc_icmp_ge 33 dX9_init_26 (by decide) (fun _ => ?_) (fun h => absurd (by decide) h)
  refine tc_iload_n 1 rfl dX9_init_33 ?_
  obtain ⟨ha16, h⟩ := tc_kc_ex h
  obtain ⟨u17, eu17, h⟩ := tc_let_ex h
  refine tc_putFi hin ha16 fl_X9_22 dX9_init_34 ?_
  refine tc_nmu eu17 ?_
  refine tc_aload_n 0 rfl dX9_init_37 ?_
  refine tc_aload_n 0 rfl dX9_init_38 ?_
  obtain ⟨ha18, h⟩ := tc_kc_ex h
  refine tc_geti ha18 fl_X9_22 dX9_init_39 ?_
  refine tc_iconst (v := 4) (by decide) dX9_init_42 ?_
  refine tc_iadd dX9_init_43 ?_
  obtain ⟨ha19, h⟩ := tc_kc_ex h
  obtain ⟨u20, eu20, h⟩ := tc_let_ex h
  refine tc_putFi hin ha19 fl_X9_26 dX9_init_44 ?_
  refine tc_nmu eu20 ?_
  refine tc_aload_n 0 rfl dX9_init_47 ?_
  refine tc_aload_n 0 rfl dX9_init_48 ?_
  obtain ⟨ha21, h⟩ := tc_kc_ex h
  refine tc_geti ha21 fl_X9_26 dX9_init_49 ?_
  refine tc_iconst (v := 1) (by decide) dX9_init_52 ?_
  refine tc_iadd dX9_init_53 ?_
  obtain ⟨hz22, h⟩ := tc_en_ex h
  refine tc_nm hz22.symm ?_
  obtain ⟨n23, en23, h⟩ := tc_let_ex h
  obtain ⟨L24, eL24, h⟩ := tc_let_ex h
  obtain ⟨u25, eu25, h⟩ := tc_let_ex h
  refine tc_newa (atype := .int) (q := 100) (N := 149) (Or.inl ⟨rfl, rfl⟩) wa_int (by decide) (by decide) (Nat.le_of_ble_eq_true rfl) (Nat.le_of_ble_eq_true rfl) (Nat.le_of_ble_eq_true rfl) dX9_init_54 ?_
  refine tc_nmr en23 ?_
  refine tc_nmL eL24 ?_
  refine tc_nmu eu25 ?_
  obtain ⟨ha26, h⟩ := tc_kc_ex h
  obtain ⟨hk27, h⟩ := tc_ks_ex h
  obtain ⟨L28, eL28, h⟩ := tc_let_ex h
  refine tc_putP hin ha26 fl_X9_29 hk27 dX9_init_56 ?_
  refine tc_nmL eL28 ?_
  refine tc_aload_n 0 rfl dX9_init_59 ?_
  refine tc_aload_n 0 rfl dX9_init_60 ?_
  obtain ⟨ha29, h⟩ := tc_kc_ex h
  refine tc_geti ha29 fl_X9_26 dX9_init_61 ?_
  refine tc_iconst (v := 1) (by decide) dX9_init_64 ?_
  refine tc_iadd dX9_init_65 ?_
  obtain ⟨hz30, h⟩ := tc_en_ex h
  refine tc_nm hz30.symm ?_
  obtain ⟨n31, en31, h⟩ := tc_let_ex h
  obtain ⟨L32, eL32, h⟩ := tc_let_ex h
  obtain ⟨u33, eu33, h⟩ := tc_let_ex h
  refine tc_newa (atype := .int) (q := 100) (N := 149) (Or.inl ⟨rfl, rfl⟩) wa_int (by decide) (by decide) (Nat.le_of_ble_eq_true rfl) (Nat.le_of_ble_eq_true rfl) (Nat.le_of_ble_eq_true rfl) dX9_init_66 ?_
  refine tc_nmr en31 ?_
  refine tc_nmL eL32 ?_
  refine tc_nmu eu33 ?_
  obtain ⟨ha34, h⟩ := tc_kc_ex h
  obtain ⟨hk35, h⟩ := tc_ks_ex h
  obtain ⟨L36, eL36, h⟩ := tc_let_ex h
  refine tc_putP hin ha34 fl_X9_32 hk35 dX9_init_68 ?_
  refine tc_nmL eL36 ?_
  refine tc_aload_n 0 rfl dX9_init_71 ?_
  refine tc_aload_n 0 rfl dX9_init_72 ?_
  obtain ⟨ha37, h⟩ := tc_kc_ex h
  refine tc_geti ha37 fl_X9_26 dX9_init_73 ?_
  refine tc_iconst (v := 1) (by decide) dX9_init_76 ?_
  refine tc_iadd dX9_init_77 ?_
  obtain ⟨hz38, h⟩ := tc_en_ex h
  refine tc_nm hz38.symm ?_
  obtain ⟨n39, en39, h⟩ := tc_let_ex h
  obtain ⟨L40, eL40, h⟩ := tc_let_ex h
  obtain ⟨u41, eu41, h⟩ := tc_let_ex h
  refine tc_newa (atype := .int) (q := 100) (N := 149) (Or.inl ⟨rfl, rfl⟩) wa_int (by decide) (by decide) (Nat.le_of_ble_eq_true rfl) (Nat.le_of_ble_eq_true rfl) (Nat.le_of_ble_eq_true rfl) dX9_init_78 ?_
  refine tc_nmr en39 ?_
  refine tc_nmL eL40 ?_
  refine tc_nmu eu41 ?_
  obtain ⟨ha42, h⟩ := tc_kc_ex h
  obtain ⟨hk43, h⟩ := tc_ks_ex h
  obtain ⟨L44, eL44, h⟩ := tc_let_ex h
  refine tc_putP hin ha42 fl_X9_35 hk43 dX9_init_80 ?_
  refine tc_nmL eL44 ?_
  refine tc_aload_n 0 rfl dX9_init_83 ?_
  refine tc_aload_n 0 rfl dX9_init_84 ?_
  obtain ⟨ha45, h⟩ := tc_kc_ex h
  refine tc_geti ha45 fl_X9_26 dX9_init_85 ?_
  refine tc_iconst (v := 1) (by decide) dX9_init_88 ?_
  refine tc_iadd dX9_init_89 ?_
  obtain ⟨hz46, h⟩ := tc_en_ex h
  refine tc_nm hz46.symm ?_
  obtain ⟨n47, en47, h⟩ := tc_let_ex h
  obtain ⟨L48, eL48, h⟩ := tc_let_ex h
  obtain ⟨u49, eu49, h⟩ := tc_let_ex h
  refine tc_newa (atype := .int) (q := 100) (N := 149) (Or.inl ⟨rfl, rfl⟩) wa_int (by decide) (by decide) (Nat.le_of_ble_eq_true rfl) (Nat.le_of_ble_eq_true rfl) (Nat.le_of_ble_eq_true rfl) dX9_init_90 ?_
  refine tc_nmr en47 ?_
  refine tc_nmL eL48 ?_
  refine tc_nmu eu49 ?_
  obtain ⟨ha50, h⟩ := tc_kc_ex h
  obtain ⟨hk51, h⟩ := tc_ks_ex h
  obtain ⟨L52, eL52, h⟩ := tc_let_ex h
  refine tc_putP hin ha50 fl_X9_38 hk51 dX9_init_92 ?_
  refine tc_nmL eL52 ?_
  refine tc_aload_n 0 rfl dX9_init_95 ?_
  refine tc_aload_n 0 rfl dX9_init_96 ?_
  obtain ⟨ha53, h⟩ := tc_kc_ex h
  refine tc_geti ha53 fl_X9_26 dX9_init_97 ?_
  refine tc_iconst (v := 1) (by decide) dX9_init_100 ?_
  refine tc_iadd dX9_init_101 ?_
  obtain ⟨hz54, h⟩ := tc_en_ex h
  refine tc_nm hz54.symm ?_
  obtain ⟨n55, en55, h⟩ := tc_let_ex h
  obtain ⟨L56, eL56, h⟩ := tc_let_ex h
  obtain ⟨u57, eu57, h⟩ := tc_let_ex h
  refine tc_newa (atype := .int) (q := 100) (N := 149) (Or.inl ⟨rfl, rfl⟩) wa_int (by decide) (by decide) (Nat.le_of_ble_eq_true rfl) (Nat.le_of_ble_eq_true rfl) (Nat.le_of_ble_eq_true rfl) dX9_init_102 ?_
  refine tc_nmr en55 ?_
  refine tc_nmL eL56 ?_
  refine tc_nmu eu57 ?_
  obtain ⟨ha58, h⟩ := tc_kc_ex h
  obtain ⟨hk59, h⟩ := tc_ks_ex h
  obtain ⟨L60, eL60, h⟩ := tc_let_ex h
  refine tc_putP hin ha58 fl_X9_41 hk59 dX9_init_104 ?_
  refine tc_nmL eL60 ?_
  refine tc_aload_n 0 rfl dX9_init_107 ?_
  refine tc_aload_n 0 rfl dX9_init_108 ?_
  obtain ⟨ha61, h⟩ := tc_kc_ex h
  refine tc_geti ha61 fl_X9_26 dX9_init_109 ?_
  refine tc_iconst (v := 1) (by decide) dX9_init_112 ?_
  refine tc_iadd dX9_init_113 ?_
  obtain ⟨hz62, h⟩ := tc_en_ex h
  refine tc_nm hz62.symm ?_
  obtain ⟨n63, en63, h⟩ := tc_let_ex h
  obtain ⟨L64, eL64, h⟩ := tc_let_ex h
  obtain ⟨u65, eu65, h⟩ := tc_let_ex h
  refine tc_newa (atype := .int) (q := 100) (N := 149) (Or.inl ⟨rfl, rfl⟩) wa_int (by decide) (by decide) (Nat.le_of_ble_eq_true rfl) (Nat.le_of_ble_eq_true rfl) (Nat.le_of_ble_eq_true rfl) dX9_init_114 ?_
  refine tc_nmr en63 ?_
  refine tc_nmL eL64 ?_
  refine tc_nmu eu65 ?_
  obtain ⟨ha66, h⟩ := tc_kc_ex h
  obtain ⟨hk67, h⟩ := tc_ks_ex h
  obtain ⟨L68, eL68, h⟩ := tc_let_ex h
  refine tc_putP hin ha66 fl_X9_44 hk67 dX9_init_116 ?_
  refine tc_nmL eL68 ?_
  refine tc_aload_n 0 rfl dX9_init_119 ?_
  obtain ⟨ha69, h⟩ := tc_kc_ex h
  obtain ⟨L70, eL70, h⟩ := tc_let_ex h
  refine tc_dnR ⟨_, by decide, ha69⟩ ?_
  refine tc_nmL eL70 ?_
  obtain ⟨hW71, h⟩ := tc_wc_ex h
  obtain ⟨hi72, h⟩ := tc_kd_ex h
  obtain ⟨x73, u74, hq75, h⟩ := tc_b_ex h
  refine tc_callVv [] dX9_init_120 hi72.1 (ct_X9_clear hW71 hi72 hq75) ml_X9_47 mw_X9_clear mv_X9_clear ⟨(Nat.le_of_ble_eq_true rfl), (Nat.le_of_ble_eq_true rfl)⟩ rfl rfl (Nat.le_of_ble_eq_true rfl) ⟨(Nat.le_of_ble_eq_true rfl), (Nat.le_of_ble_eq_true rfl)⟩ (by decide) ?_
  cases h
  exact tc_return rfl dX9_init_123 rfl rfl ⟨rfl, rfl, rfl⟩
set_option maxRecDepth 100000 in
set_option maxHeartbeats 4000000 in
theorem ct_X0_init {l : Launch} {z : Nat} {D : tc_D} {L : tc_L} {v0 : Nat} {v1 : Nat} {u : tc_S} {Lr : tc_L} {ur : tc_S} (h : fn_X0_init L v0 v1 u = some (Lr, ur)) : tc_C l z D yX0_init cX0_init 2 none 4 85 10 956 [.ref (z + v0), .ref (z + v1)] (tc_gl L) u (tc_pl Lr ur) := by
  unfold fn_X0_init at h
  refine tc_C.ofI (by decide) rfl (Nat.le_of_ble_eq_true rfl) fun p e s m args below meth c hin => ?_
  show tc_R p l e { frames := 4, cells := 10, slots := 956, locals := 85 } s m args below meth c z D cX0_init RX0 2 none 10 956 (tc_pl Lr ur) 0 0 (tc_gl L) u 0 [(0, .ref (z + v0)), (1, .ref (z + v1))] []
  refine tc_aload_n 0 rfl dX0_init_0 ?_
  refine tc_objInit mo_X0 wo_i wo_c (Nat.le_of_ble_eq_true rfl) (Nat.le_of_ble_eq_true rfl) dX0_init_1 ?_
  refine tc_aload_n 0 rfl dX0_init_4 ?_
  obtain ⟨n1, en1, h⟩ := tc_let_ex h
  obtain ⟨L2, eL2, h⟩ := tc_let_ex h
  obtain ⟨u3, eu3, h⟩ := tc_let_ex h
  refine tc_newo (r := (RX9, TX9, 17)) (ci := 9) rfl (by decide) cl_X0_9c ii_9 it_9 (tc_df_9 z) (Nat.le_of_ble_eq_true rfl) (Nat.le_of_ble_eq_true rfl) dX0_init_5 ?_
  refine tc_nmr en1 ?_
  refine tc_nmL eL2 ?_
  refine tc_nmu eu3 ?_
  refine tc_dup rfl dX0_init_8 ?_
  refine tc_sipush (v := 144) (by decide) dX0_init_9 ?_
  obtain ⟨L4, u5, hq6, h⟩ := tc_bl_ex h
  refine tc_callIv [.int 144] dX0_init_12 (ct_X9_init_144 hq6) ml_X0_11 mw_X9_init mj_X9_init ⟨(Nat.le_of_ble_eq_true rfl), (Nat.le_of_ble_eq_true rfl)⟩ rfl rfl (Nat.le_of_ble_eq_true rfl) ⟨(Nat.le_of_ble_eq_true rfl), (Nat.le_of_ble_eq_true rfl)⟩ ?_
  obtain ⟨ha7, h⟩ := tc_kc_ex h
  obtain ⟨hk8, h⟩ := tc_ks_ex h
  obtain ⟨L9, eL9, h⟩ := tc_let_ex h
  refine tc_putP hin ha7 fl_X0_14 hk8 dX0_init_15 ?_
  refine tc_nmL eL9 ?_
  refine tc_aload_n 0 rfl dX0_init_18 ?_
  refine tc_aload_n 1 rfl dX0_init_19 ?_
  obtain ⟨ha10, h⟩ := tc_kc_ex h
  obtain ⟨hk11, h⟩ := tc_ks_ex h
  obtain ⟨L12, eL12, h⟩ := tc_let_ex h
  refine tc_putP hin ha10 fl_X0_20 hk11 dX0_init_20 ?_
  refine tc_nmL eL12 ?_
  obtain ⟨ha13, h⟩ := tc_kc_ex h
  obtain ⟨L14, eL14, h⟩ := tc_let_ex h
  refine tc_dnR ⟨_, by decide, ha13⟩ ?_
  refine tc_nmL eL14 ?_
  cases h
  exact tc_return rfl dX0_init_23 rfl rfl ⟨rfl, rfl, rfl⟩
set_option maxRecDepth 100000 in
set_option maxHeartbeats 4000000 in
theorem ct_X6_init {l : Launch} {z : Nat} {D : tc_D} {L : tc_L} {v0 : Nat} {v1 : Nat} {u : tc_S} {Lr : tc_L} {ur : tc_S} (h : fn_X6_init L v0 v1 u = some (Lr, ur)) : tc_C l z D yX6_init cX6_init 2 none 3 64 5 187 [.ref (z + v0), .ref (z + v1)] (tc_gl L) u (tc_pl Lr ur) := by
  unfold fn_X6_init at h
  refine tc_C.ofI (by decide) rfl (Nat.le_of_ble_eq_true rfl) fun p e s m args below meth c hin => ?_
  show tc_R p l e { frames := 3, cells := 5, slots := 187, locals := 64 } s m args below meth c z D cX6_init RX6 2 none 5 187 (tc_pl Lr ur) 0 0 (tc_gl L) u 0 [(0, .ref (z + v0)), (1, .ref (z + v1))] []
  refine tc_aload_n 0 rfl dX6_init_0 ?_
  refine tc_objInit mo_X6 wo_i wo_c (Nat.le_of_ble_eq_true rfl) (Nat.le_of_ble_eq_true rfl) dX6_init_1 ?_
  refine tc_aload_n 0 rfl dX6_init_4 ?_
  obtain ⟨n1, en1, h⟩ := tc_let_ex h
  obtain ⟨L2, eL2, h⟩ := tc_let_ex h
  obtain ⟨u3, eu3, h⟩ := tc_let_ex h
  refine tc_newo (r := (RX8, TX8, 12)) (ci := 8) rfl (by decide) cl_X6_9c ii_8 it_8 (tc_df_8 z) (Nat.le_of_ble_eq_true rfl) (Nat.le_of_ble_eq_true rfl) dX6_init_5 ?_
  refine tc_nmr en1 ?_
  refine tc_nmL eL2 ?_
  refine tc_nmu eu3 ?_
  refine tc_dup rfl dX6_init_8 ?_
  obtain ⟨L4, u5, hq6, h⟩ := tc_bl_ex h
  refine tc_callIv [] dX6_init_9 (ct_X8_init hq6) ml_X6_11 mw_X8_init mj_X8_init ⟨(Nat.le_of_ble_eq_true rfl), (Nat.le_of_ble_eq_true rfl)⟩ rfl rfl (Nat.le_of_ble_eq_true rfl) ⟨(Nat.le_of_ble_eq_true rfl), (Nat.le_of_ble_eq_true rfl)⟩ ?_
  obtain ⟨ha7, h⟩ := tc_kc_ex h
  obtain ⟨hk8, h⟩ := tc_ks_ex h
  obtain ⟨L9, eL9, h⟩ := tc_let_ex h
  refine tc_putP hin ha7 fl_X6_12 hk8 dX6_init_12 ?_
  refine tc_nmL eL9 ?_
  refine tc_aload_n 0 rfl dX6_init_15 ?_
  refine tc_bipush (v := 58) (by decide) dX6_init_16 ?_
  obtain ⟨n10, en10, h⟩ := tc_let_ex h
  obtain ⟨L11, eL11, h⟩ := tc_let_ex h
  obtain ⟨u12, eu12, h⟩ := tc_let_ex h
  refine tc_newa (atype := .int) (q := 100) (N := 58) (Or.inl ⟨rfl, rfl⟩) wa_int (by decide) (by decide) (Nat.le_of_ble_eq_true rfl) (Nat.le_of_ble_eq_true rfl) (Nat.le_of_ble_eq_true rfl) dX6_init_18 ?_
  refine tc_nmr en10 ?_
  refine tc_nmL eL11 ?_
  refine tc_nmu eu12 ?_
  obtain ⟨ha13, h⟩ := tc_kc_ex h
  obtain ⟨hk14, h⟩ := tc_ks_ex h
  obtain ⟨L15, eL15, h⟩ := tc_let_ex h
  refine tc_putP hin ha13 fl_X6_18 hk14 dX6_init_20 ?_
  refine tc_nmL eL15 ?_
  refine tc_aload_n 0 rfl dX6_init_23 ?_
  refine tc_bipush (v := 58) (by decide) dX6_init_24 ?_
  obtain ⟨n16, en16, h⟩ := tc_let_ex h
  obtain ⟨L17, eL17, h⟩ := tc_let_ex h
  obtain ⟨u18, eu18, h⟩ := tc_let_ex h
  refine tc_newa (atype := .int) (q := 100) (N := 58) (Or.inl ⟨rfl, rfl⟩) wa_int (by decide) (by decide) (Nat.le_of_ble_eq_true rfl) (Nat.le_of_ble_eq_true rfl) (Nat.le_of_ble_eq_true rfl) dX6_init_26 ?_
  refine tc_nmr en16 ?_
  refine tc_nmL eL17 ?_
  refine tc_nmu eu18 ?_
  obtain ⟨ha19, h⟩ := tc_kc_ex h
  obtain ⟨hk20, h⟩ := tc_ks_ex h
  obtain ⟨L21, eL21, h⟩ := tc_let_ex h
  refine tc_putP hin ha19 fl_X6_22 hk20 dX6_init_28 ?_
  refine tc_nmL eL21 ?_
  refine tc_aload_n 0 rfl dX6_init_31 ?_
  refine tc_bipush (v := 58) (by decide) dX6_init_32 ?_
  obtain ⟨n22, en22, h⟩ := tc_let_ex h
  obtain ⟨L23, eL23, h⟩ := tc_let_ex h
  obtain ⟨u24, eu24, h⟩ := tc_let_ex h
  refine tc_newa (atype := .int) (q := 100) (N := 58) (Or.inl ⟨rfl, rfl⟩) wa_int (by decide) (by decide) (Nat.le_of_ble_eq_true rfl) (Nat.le_of_ble_eq_true rfl) (Nat.le_of_ble_eq_true rfl) dX6_init_34 ?_
  refine tc_nmr en22 ?_
  refine tc_nmL eL23 ?_
  refine tc_nmu eu24 ?_
  obtain ⟨ha25, h⟩ := tc_kc_ex h
  obtain ⟨hk26, h⟩ := tc_ks_ex h
  obtain ⟨L27, eL27, h⟩ := tc_let_ex h
  refine tc_putP hin ha25 fl_X6_25 hk26 dX6_init_36 ?_
  refine tc_nmL eL27 ?_
  refine tc_aload_n 0 rfl dX6_init_39 ?_
  refine tc_aload_n 1 rfl dX6_init_40 ?_
  obtain ⟨ha28, h⟩ := tc_kc_ex h
  obtain ⟨hk29, h⟩ := tc_ks_ex h
  obtain ⟨L30, eL30, h⟩ := tc_let_ex h
  refine tc_putP hin ha28 fl_X6_28 hk29 dX6_init_41 ?_
  refine tc_nmL eL30 ?_
  obtain ⟨ha31, h⟩ := tc_kc_ex h
  obtain ⟨L32, eL32, h⟩ := tc_let_ex h
  refine tc_dnR ⟨_, by decide, ha31⟩ ?_
  refine tc_nmL eL32 ?_
  cases h
  exact tc_return rfl dX6_init_44 rfl rfl ⟨rfl, rfl, rfl⟩
set_option maxRecDepth 100000 in
set_option maxHeartbeats 4000000 in
theorem ct_X11_init {l : Launch} {z : Nat} {D : tc_D} {L : tc_L} {v0 : Nat} {u : tc_S} {Lr : tc_L} {ur : tc_S} (h : fn_X11_init L v0 u = some (Lr, ur)) : tc_C l z D yX11_init cX11_init 1 none 5 107 70 3596 [.ref (z + v0)] (tc_gl L) u (tc_pl Lr ur) := by
  unfold fn_X11_init at h
  refine tc_C.ofI (by decide) rfl (Nat.le_of_ble_eq_true rfl) fun p e s m args below meth c hin => ?_
  show tc_R p l e { frames := 5, cells := 70, slots := 3596, locals := 107 } s m args below meth c z D cX11_init RX11 1 none 70 3596 (tc_pl Lr ur) 0 0 (tc_gl L) u 0 [(0, .ref (z + v0))] []
  refine tc_aload_n 0 rfl dX11_init_0 ?_
  refine tc_objInit mo_X11 wo_i wo_c (Nat.le_of_ble_eq_true rfl) (Nat.le_of_ble_eq_true rfl) dX11_init_1 ?_
  refine tc_aload_n 0 rfl dX11_init_4 ?_
  obtain ⟨n1, en1, h⟩ := tc_let_ex h
  obtain ⟨L2, eL2, h⟩ := tc_let_ex h
  obtain ⟨u3, eu3, h⟩ := tc_let_ex h
  refine tc_newo (r := (RX10, TX10, 5)) (ci := 10) rfl (by decide) cl_X11_9c ii_10 it_10 (tc_df_10 z) (Nat.le_of_ble_eq_true rfl) (Nat.le_of_ble_eq_true rfl) dX11_init_5 ?_
  refine tc_nmr en1 ?_
  refine tc_nmL eL2 ?_
  refine tc_nmu eu3 ?_
  refine tc_dup rfl dX11_init_8 ?_
  obtain ⟨L4, u5, hq6, h⟩ := tc_bl_ex h
  refine tc_callINv [] dX11_init_9 (ct_X10_init hq6) (by decide) mw_X10_init mj_X10_init ⟨(Nat.le_of_ble_eq_true rfl), (Nat.le_of_ble_eq_true rfl)⟩ rfl rfl (Nat.le_of_ble_eq_true rfl) ⟨(Nat.le_of_ble_eq_true rfl), (Nat.le_of_ble_eq_true rfl)⟩ ?_
  obtain ⟨ha7, h⟩ := tc_kc_ex h
  obtain ⟨hk8, h⟩ := tc_ks_ex h
  obtain ⟨L9, eL9, h⟩ := tc_let_ex h
  refine tc_putP hin ha7 fl_X11_12 hk8 dX11_init_12 ?_
  refine tc_nmL eL9 ?_
  refine tc_aload_n 0 rfl dX11_init_15 ?_
  refine tc_iconst (v := 3) (by decide) dX11_init_16 ?_
  obtain ⟨n10, en10, h⟩ := tc_let_ex h
  obtain ⟨L11, eL11, h⟩ := tc_let_ex h
  obtain ⟨u12, eu12, h⟩ := tc_let_ex h
  refine tc_newq (N := 3) cl_X11_9c (by decide) (by decide) (Nat.le_of_ble_eq_true rfl) (Nat.le_of_ble_eq_true rfl) (Nat.le_of_ble_eq_true rfl) dX11_init_17 ?_
  refine tc_nmr en10 ?_
  refine tc_nmL eL11 ?_
  refine tc_nmu eu12 ?_
  obtain ⟨ha13, h⟩ := tc_kc_ex h
  obtain ⟨hk14, h⟩ := tc_ks_ex h
  obtain ⟨L15, eL15, h⟩ := tc_let_ex h
  refine tc_putP hin ha13 fl_X11_16 hk14 dX11_init_20 ?_
  refine tc_nmL eL15 ?_
  refine tc_aload_n 0 rfl dX11_init_23 ?_
  obtain ⟨n16, en16, h⟩ := tc_let_ex h
  obtain ⟨L17, eL17, h⟩ := tc_let_ex h
  obtain ⟨u18, eu18, h⟩ := tc_let_ex h
  refine tc_newo (r := (RX9, TX9, 17)) (ci := 9) rfl (by decide) cl_X11_20c ii_9 it_9 (tc_df_9 z) (Nat.le_of_ble_eq_true rfl) (Nat.le_of_ble_eq_true rfl) dX11_init_24 ?_
  refine tc_nmr en16 ?_
  refine tc_nmL eL17 ?_
  refine tc_nmu eu18 ?_
  refine tc_dup rfl dX11_init_27 ?_
  refine tc_bipush (v := 64) (by decide) dX11_init_28 ?_
  obtain ⟨L19, u20, hq21, h⟩ := tc_bl_ex h
  refine tc_callIv [.int 64] dX11_init_30 (ct_X9_init_64 hq21) ml_X11_22 mw_X9_init mj_X9_init ⟨(Nat.le_of_ble_eq_true rfl), (Nat.le_of_ble_eq_true rfl)⟩ rfl rfl (Nat.le_of_ble_eq_true rfl) ⟨(Nat.le_of_ble_eq_true rfl), (Nat.le_of_ble_eq_true rfl)⟩ ?_
  obtain ⟨ha22, h⟩ := tc_kc_ex h
  obtain ⟨hk23, h⟩ := tc_ks_ex h
  obtain ⟨L24, eL24, h⟩ := tc_let_ex h
  refine tc_putP hin ha22 fl_X11_25 hk23 dX11_init_33 ?_
  refine tc_nmL eL24 ?_
  refine tc_aload_n 0 rfl dX11_init_36 ?_
  obtain ⟨n25, en25, h⟩ := tc_let_ex h
  obtain ⟨L26, eL26, h⟩ := tc_let_ex h
  obtain ⟨u27, eu27, h⟩ := tc_let_ex h
  refine tc_newo (r := (RX1, TX1, 8)) (ci := 1) rfl (by decide) cl_X11_29c ii_1 it_1 (tc_df_1 z) (Nat.le_of_ble_eq_true rfl) (Nat.le_of_ble_eq_true rfl) dX11_init_37 ?_
  refine tc_nmr en25 ?_
  refine tc_nmL eL26 ?_
  refine tc_nmu eu27 ?_
  refine tc_dup rfl dX11_init_40 ?_
  obtain ⟨L28, u29, hq30, h⟩ := tc_bl_ex h
  refine tc_callINv [] dX11_init_41 (ct_X1_init hq30) (by decide) mw_X1_init mj_X1_init ⟨(Nat.le_of_ble_eq_true rfl), (Nat.le_of_ble_eq_true rfl)⟩ rfl rfl (Nat.le_of_ble_eq_true rfl) ⟨(Nat.le_of_ble_eq_true rfl), (Nat.le_of_ble_eq_true rfl)⟩ ?_
  obtain ⟨ha31, h⟩ := tc_kc_ex h
  obtain ⟨hk32, h⟩ := tc_ks_ex h
  obtain ⟨L33, eL33, h⟩ := tc_let_ex h
  refine tc_putP hin ha31 fl_X11_32 hk32 dX11_init_44 ?_
  refine tc_nmL eL33 ?_
  refine tc_aload_n 0 rfl dX11_init_47 ?_
  obtain ⟨n34, en34, h⟩ := tc_let_ex h
  obtain ⟨L35, eL35, h⟩ := tc_let_ex h
  obtain ⟨u36, eu36, h⟩ := tc_let_ex h
  refine tc_newo (r := (RX4, TX4, 2)) (ci := 4) rfl (by decide) cl_X11_36c ii_4 it_4 (tc_df_4 z) (Nat.le_of_ble_eq_true rfl) (Nat.le_of_ble_eq_true rfl) dX11_init_48 ?_
  refine tc_nmr en34 ?_
  refine tc_nmL eL35 ?_
  refine tc_nmu eu36 ?_
  refine tc_dup rfl dX11_init_51 ?_
  refine tc_aload_n 0 rfl dX11_init_52 ?_
  obtain ⟨ha37, h⟩ := tc_kc_ex h
  obtain ⟨j38, hj39, h⟩ := tc_gp_ex h
  refine tc_getq ha37 hj39 fl_X11_32 dX11_init_53 ?_
  obtain ⟨L40, u41, hq42, h⟩ := tc_bl_ex h
  refine tc_callIv [.ref (z + j38)] dX11_init_56 (ct_X4_init hq42) ml_X11_38 mw_X4_init mj_X4_init ⟨(Nat.le_of_ble_eq_true rfl), (Nat.le_of_ble_eq_true rfl)⟩ rfl rfl (Nat.le_of_ble_eq_true rfl) ⟨(Nat.le_of_ble_eq_true rfl), (Nat.le_of_ble_eq_true rfl)⟩ ?_
  obtain ⟨ha43, h⟩ := tc_kc_ex h
  obtain ⟨hk44, h⟩ := tc_ks_ex h
  obtain ⟨L45, eL45, h⟩ := tc_let_ex h
  refine tc_putP hin ha43 fl_X11_41 hk44 dX11_init_59 ?_
  refine tc_nmL eL45 ?_
  refine tc_aload_n 0 rfl dX11_init_62 ?_
  obtain ⟨n46, en46, h⟩ := tc_let_ex h
  obtain ⟨L47, eL47, h⟩ := tc_let_ex h
  obtain ⟨u48, eu48, h⟩ := tc_let_ex h
  refine tc_newo (r := (RX7, TX7, 7)) (ci := 7) rfl (by decide) cl_X11_45c ii_7 it_7 (tc_df_7 z) (Nat.le_of_ble_eq_true rfl) (Nat.le_of_ble_eq_true rfl) dX11_init_63 ?_
  refine tc_nmr en46 ?_
  refine tc_nmL eL47 ?_
  refine tc_nmu eu48 ?_
  refine tc_dup rfl dX11_init_66 ?_
  obtain ⟨L49, u50, hq51, h⟩ := tc_bl_ex h
  refine tc_callINv [] dX11_init_67 (ct_X7_init hq51) (by decide) mw_X7_init mj_X7_init ⟨(Nat.le_of_ble_eq_true rfl), (Nat.le_of_ble_eq_true rfl)⟩ rfl rfl (Nat.le_of_ble_eq_true rfl) ⟨(Nat.le_of_ble_eq_true rfl), (Nat.le_of_ble_eq_true rfl)⟩ ?_
  obtain ⟨ha52, h⟩ := tc_kc_ex h
  obtain ⟨hk53, h⟩ := tc_ks_ex h
  obtain ⟨L54, eL54, h⟩ := tc_let_ex h
  refine tc_putP hin ha52 fl_X11_48 hk53 dX11_init_70 ?_
  refine tc_nmL eL54 ?_
  refine tc_aload_n 0 rfl dX11_init_73 ?_
  obtain ⟨n55, en55, h⟩ := tc_let_ex h
  obtain ⟨L56, eL56, h⟩ := tc_let_ex h
  obtain ⟨u57, eu57, h⟩ := tc_let_ex h
  refine tc_newo (r := (RX3, TX3, 4)) (ci := 3) rfl (by decide) cl_X11_52c ii_3 it_3 (tc_df_3 z) (Nat.le_of_ble_eq_true rfl) (Nat.le_of_ble_eq_true rfl) dX11_init_74 ?_
  refine tc_nmr en55 ?_
  refine tc_nmL eL56 ?_
  refine tc_nmu eu57 ?_
  refine tc_dup rfl dX11_init_77 ?_
  refine tc_aload_n 0 rfl dX11_init_78 ?_
  obtain ⟨ha58, h⟩ := tc_kc_ex h
  obtain ⟨j59, hj60, h⟩ := tc_gp_ex h
  refine tc_getq ha58 hj60 fl_X11_41 dX11_init_79 ?_
  refine tc_aload_n 0 rfl dX11_init_82 ?_
  obtain ⟨ha61, h⟩ := tc_kc_ex h
  obtain ⟨j62, hj63, h⟩ := tc_gp_ex h
  refine tc_getq ha61 hj63 fl_X11_48 dX11_init_83 ?_
  obtain ⟨L64, u65, hq66, h⟩ := tc_bl_ex h
  refine tc_callIv [.ref (z + j59), .ref (z + j62)] dX11_init_86 (ct_X3_init hq66) ml_X11_54 mw_X3_init mj_X3_init ⟨(Nat.le_of_ble_eq_true rfl), (Nat.le_of_ble_eq_true rfl)⟩ rfl rfl (Nat.le_of_ble_eq_true rfl) ⟨(Nat.le_of_ble_eq_true rfl), (Nat.le_of_ble_eq_true rfl)⟩ ?_
  obtain ⟨ha67, h⟩ := tc_kc_ex h
  obtain ⟨hk68, h⟩ := tc_ks_ex h
  obtain ⟨L69, eL69, h⟩ := tc_let_ex h
  refine tc_putP hin ha67 fl_X11_57 hk68 dX11_init_89 ?_
  refine tc_nmL eL69 ?_
  refine tc_aload_n 0 rfl dX11_init_92 ?_
  obtain ⟨n70, en70, h⟩ := tc_let_ex h
  obtain ⟨L71, eL71, h⟩ := tc_let_ex h
  obtain ⟨u72, eu72, h⟩ := tc_let_ex h
  refine tc_newo (r := (RX5, TX5, 3)) (ci := 5) rfl (by decide) cl_X11_61c ii_5 it_5 (tc_df_5 z) (Nat.le_of_ble_eq_true rfl) (Nat.le_of_ble_eq_true rfl) dX11_init_93 ?_
  refine tc_nmr en70 ?_
  refine tc_nmL eL71 ?_
  refine tc_nmu eu72 ?_
  refine tc_dup rfl dX11_init_96 ?_
  obtain ⟨L73, u74, hq75, h⟩ := tc_bl_ex h
  refine tc_callINv [] dX11_init_97 (ct_X5_init hq75) (by decide) mw_X5_init mj_X5_init ⟨(Nat.le_of_ble_eq_true rfl), (Nat.le_of_ble_eq_true rfl)⟩ rfl rfl (Nat.le_of_ble_eq_true rfl) ⟨(Nat.le_of_ble_eq_true rfl), (Nat.le_of_ble_eq_true rfl)⟩ ?_
  obtain ⟨ha76, h⟩ := tc_kc_ex h
  obtain ⟨hk77, h⟩ := tc_ks_ex h
  obtain ⟨L78, eL78, h⟩ := tc_let_ex h
  refine tc_putP hin ha76 fl_X11_64 hk77 dX11_init_100 ?_
  refine tc_nmL eL78 ?_
  refine tc_aload_n 0 rfl dX11_init_103 ?_
  obtain ⟨n79, en79, h⟩ := tc_let_ex h
  obtain ⟨L80, eL80, h⟩ := tc_let_ex h
  obtain ⟨u81, eu81, h⟩ := tc_let_ex h
  refine tc_newo (r := (RX0, TX0, 2)) (ci := 0) rfl (by decide) cl_X11_68c ii_0 it_0 (tc_df_0 z) (Nat.le_of_ble_eq_true rfl) (Nat.le_of_ble_eq_true rfl) dX11_init_104 ?_
  refine tc_nmr en79 ?_
  refine tc_nmL eL80 ?_
  refine tc_nmu eu81 ?_
  refine tc_dup rfl dX11_init_107 ?_
  refine tc_aload_n 0 rfl dX11_init_108 ?_
  obtain ⟨ha82, h⟩ := tc_kc_ex h
  obtain ⟨j83, hj84, h⟩ := tc_gp_ex h
  refine tc_getq ha82 hj84 fl_X11_41 dX11_init_109 ?_
  obtain ⟨L85, u86, hq87, h⟩ := tc_bl_ex h
  refine tc_callIv [.ref (z + j83)] dX11_init_112 (ct_X0_init hq87) ml_X11_70 mw_X0_init mj_X0_init ⟨(Nat.le_of_ble_eq_true rfl), (Nat.le_of_ble_eq_true rfl)⟩ rfl rfl (Nat.le_of_ble_eq_true rfl) ⟨(Nat.le_of_ble_eq_true rfl), (Nat.le_of_ble_eq_true rfl)⟩ ?_
  obtain ⟨ha88, h⟩ := tc_kc_ex h
  obtain ⟨hk89, h⟩ := tc_ks_ex h
  obtain ⟨L90, eL90, h⟩ := tc_let_ex h
  refine tc_putP hin ha88 fl_X11_73 hk89 dX11_init_115 ?_
  refine tc_nmL eL90 ?_
  refine tc_aload_n 0 rfl dX11_init_118 ?_
  obtain ⟨n91, en91, h⟩ := tc_let_ex h
  obtain ⟨L92, eL92, h⟩ := tc_let_ex h
  obtain ⟨u93, eu93, h⟩ := tc_let_ex h
  refine tc_newo (r := (RX6, TX6, 14)) (ci := 6) rfl (by decide) cl_X11_77c ii_6 it_6 (tc_df_6 z) (Nat.le_of_ble_eq_true rfl) (Nat.le_of_ble_eq_true rfl) dX11_init_119 ?_
  refine tc_nmr en91 ?_
  refine tc_nmL eL92 ?_
  refine tc_nmu eu93 ?_
  refine tc_dup rfl dX11_init_122 ?_
  refine tc_aload_n 0 rfl dX11_init_123 ?_
  obtain ⟨ha94, h⟩ := tc_kc_ex h
  obtain ⟨j95, hj96, h⟩ := tc_gp_ex h
  refine tc_getq ha94 hj96 fl_X11_12 dX11_init_124 ?_
  obtain ⟨ha97, h⟩ := tc_kc_ex h
  obtain ⟨j98, hj99, h⟩ := tc_gp_ex h
  refine tc_getq ha97 hj99 fl_X11_79 dX11_init_127 ?_
  obtain ⟨L100, u101, hq102, h⟩ := tc_bl_ex h
  refine tc_callIv [.ref (z + j98)] dX11_init_130 (ct_X6_init hq102) ml_X11_83 mw_X6_init mj_X6_init ⟨(Nat.le_of_ble_eq_true rfl), (Nat.le_of_ble_eq_true rfl)⟩ rfl rfl (Nat.le_of_ble_eq_true rfl) ⟨(Nat.le_of_ble_eq_true rfl), (Nat.le_of_ble_eq_true rfl)⟩ ?_
  obtain ⟨ha103, h⟩ := tc_kc_ex h
  obtain ⟨hk104, h⟩ := tc_ks_ex h
  obtain ⟨L105, eL105, h⟩ := tc_let_ex h
  refine tc_putP hin ha103 fl_X11_86 hk104 dX11_init_133 ?_
  refine tc_nmL eL105 ?_
  obtain ⟨ha106, h⟩ := tc_kc_ex h
  obtain ⟨L107, eL107, h⟩ := tc_let_ex h
  refine tc_dnR ⟨_, by decide, ha106⟩ ?_
  refine tc_nmL eL107 ?_
  cases h
  exact tc_return rfl dX11_init_136 rfl rfl ⟨rfl, rfl, rfl⟩
set_option maxRecDepth 100000 in
set_option maxHeartbeats 4000000 in
theorem ct_X12_init {l : Launch} {z : Nat} {D : tc_D} {L : tc_L} {v0 : Nat} {u : tc_S} {Lr : tc_L} {ur : tc_S} (h : fn_X12_init L v0 u = some (Lr, ur)) : tc_C l z D yX12_init cX12_init 1 none 1 22 20 4548 [.ref (z + v0)] (tc_gl L) u (tc_pl Lr ur) := by
  unfold fn_X12_init at h
  refine tc_C.ofI (by decide) rfl (Nat.le_of_ble_eq_true rfl) fun p e s m args below meth c hin => ?_
  show tc_R p l e { frames := 1, cells := 20, slots := 4548, locals := 22 } s m args below meth c z D cX12_init RX12 1 none 20 4548 (tc_pl Lr ur) 0 0 (tc_gl L) u 0 [(0, .ref (z + v0))] []
  refine tc_aload_n 0 rfl dX12_init_0 ?_
  refine tc_objInit mo_X12 wo_i wo_c (Nat.le_of_ble_eq_true rfl) (Nat.le_of_ble_eq_true rfl) dX12_init_1 ?_
  refine tc_aload_n 0 rfl dX12_init_4 ?_
  refine tc_sipush (v := 3253) (by decide) dX12_init_5 ?_
  obtain ⟨n1, en1, h⟩ := tc_let_ex h
  obtain ⟨L2, eL2, h⟩ := tc_let_ex h
  obtain ⟨u3, eu3, h⟩ := tc_let_ex h
  refine tc_newa (atype := .int) (q := 100) (N := 3253) (Or.inl ⟨rfl, rfl⟩) wa_int (by decide) (by decide) (Nat.le_of_ble_eq_true rfl) (Nat.le_of_ble_eq_true rfl) (Nat.le_of_ble_eq_true rfl) dX12_init_8 ?_
  refine tc_nmr en1 ?_
  refine tc_nmL eL2 ?_
  refine tc_nmu eu3 ?_
  obtain ⟨ha4, h⟩ := tc_kc_ex h
  obtain ⟨hk5, h⟩ := tc_ks_ex h
  obtain ⟨L6, eL6, h⟩ := tc_let_ex h
  refine tc_putP hin ha4 fl_X12_7 hk5 dX12_init_10 ?_
  refine tc_nmL eL6 ?_
  refine tc_aload_n 0 rfl dX12_init_13 ?_
  refine tc_sipush (v := 400) (by decide) dX12_init_14 ?_
  obtain ⟨n7, en7, h⟩ := tc_let_ex h
  obtain ⟨L8, eL8, h⟩ := tc_let_ex h
  obtain ⟨u9, eu9, h⟩ := tc_let_ex h
  refine tc_newa (atype := .int) (q := 100) (N := 400) (Or.inl ⟨rfl, rfl⟩) wa_int (by decide) (by decide) (Nat.le_of_ble_eq_true rfl) (Nat.le_of_ble_eq_true rfl) (Nat.le_of_ble_eq_true rfl) dX12_init_17 ?_
  refine tc_nmr en7 ?_
  refine tc_nmL eL8 ?_
  refine tc_nmu eu9 ?_
  obtain ⟨ha10, h⟩ := tc_kc_ex h
  obtain ⟨hk11, h⟩ := tc_ks_ex h
  obtain ⟨L12, eL12, h⟩ := tc_let_ex h
  refine tc_putP hin ha10 fl_X12_13 hk11 dX12_init_19 ?_
  refine tc_nmL eL12 ?_
  refine tc_aload_n 0 rfl dX12_init_22 ?_
  refine tc_iconst (v := 3) (by decide) dX12_init_23 ?_
  obtain ⟨n13, en13, h⟩ := tc_let_ex h
  obtain ⟨L14, eL14, h⟩ := tc_let_ex h
  obtain ⟨u15, eu15, h⟩ := tc_let_ex h
  refine tc_newa (atype := .boolean) (q := 102) (N := 3) (Or.inr (Or.inr ⟨rfl, rfl⟩)) wa_boolean (by decide) (by decide) (Nat.le_of_ble_eq_true rfl) (Nat.le_of_ble_eq_true rfl) (Nat.le_of_ble_eq_true rfl) dX12_init_24 ?_
  refine tc_nmr en13 ?_
  refine tc_nmL eL14 ?_
  refine tc_nmu eu15 ?_
  obtain ⟨ha16, h⟩ := tc_kc_ex h
  obtain ⟨hk17, h⟩ := tc_ks_ex h
  obtain ⟨L18, eL18, h⟩ := tc_let_ex h
  refine tc_putP hin ha16 fl_X12_16 hk17 dX12_init_26 ?_
  refine tc_nmL eL18 ?_
  refine tc_aload_n 0 rfl dX12_init_29 ?_
  refine tc_iconst (v := (-1)) (by decide) dX12_init_30 ?_
  obtain ⟨ha19, h⟩ := tc_kc_ex h
  obtain ⟨u20, eu20, h⟩ := tc_let_ex h
  refine tc_puti ha19 fl_X12_20 dX12_init_31 ?_
  refine tc_nmu eu20 ?_
  refine tc_aload_n 0 rfl dX12_init_34 ?_
  refine tc_bipush (v := 16) (by decide) dX12_init_35 ?_
  obtain ⟨n21, en21, h⟩ := tc_let_ex h
  obtain ⟨L22, eL22, h⟩ := tc_let_ex h
  obtain ⟨u23, eu23, h⟩ := tc_let_ex h
  refine tc_newa (atype := .int) (q := 100) (N := 16) (Or.inl ⟨rfl, rfl⟩) wa_int (by decide) (by decide) (Nat.le_of_ble_eq_true rfl) (Nat.le_of_ble_eq_true rfl) (Nat.le_of_ble_eq_true rfl) dX12_init_37 ?_
  refine tc_nmr en21 ?_
  refine tc_nmL eL22 ?_
  refine tc_nmu eu23 ?_
  obtain ⟨ha24, h⟩ := tc_kc_ex h
  obtain ⟨hk25, h⟩ := tc_ks_ex h
  obtain ⟨L26, eL26, h⟩ := tc_let_ex h
  refine tc_putP hin ha24 fl_X12_24 hk25 dX12_init_39 ?_
  refine tc_nmL eL26 ?_
  refine tc_aload_n 0 rfl dX12_init_42 ?_
  refine tc_bipush (v := 16) (by decide) dX12_init_43 ?_
  obtain ⟨n27, en27, h⟩ := tc_let_ex h
  obtain ⟨L28, eL28, h⟩ := tc_let_ex h
  obtain ⟨u29, eu29, h⟩ := tc_let_ex h
  refine tc_newa (atype := .int) (q := 100) (N := 16) (Or.inl ⟨rfl, rfl⟩) wa_int (by decide) (by decide) (Nat.le_of_ble_eq_true rfl) (Nat.le_of_ble_eq_true rfl) (Nat.le_of_ble_eq_true rfl) dX12_init_45 ?_
  refine tc_nmr en27 ?_
  refine tc_nmL eL28 ?_
  refine tc_nmu eu29 ?_
  obtain ⟨ha30, h⟩ := tc_kc_ex h
  obtain ⟨hk31, h⟩ := tc_ks_ex h
  obtain ⟨L32, eL32, h⟩ := tc_let_ex h
  refine tc_putP hin ha30 fl_X12_27 hk31 dX12_init_47 ?_
  refine tc_nmL eL32 ?_
  refine tc_aload_n 0 rfl dX12_init_50 ?_
  refine tc_bipush (v := 16) (by decide) dX12_init_51 ?_
  obtain ⟨n33, en33, h⟩ := tc_let_ex h
  obtain ⟨L34, eL34, h⟩ := tc_let_ex h
  obtain ⟨u35, eu35, h⟩ := tc_let_ex h
  refine tc_newa (atype := .int) (q := 100) (N := 16) (Or.inl ⟨rfl, rfl⟩) wa_int (by decide) (by decide) (Nat.le_of_ble_eq_true rfl) (Nat.le_of_ble_eq_true rfl) (Nat.le_of_ble_eq_true rfl) dX12_init_53 ?_
  refine tc_nmr en33 ?_
  refine tc_nmL eL34 ?_
  refine tc_nmu eu35 ?_
  obtain ⟨ha36, h⟩ := tc_kc_ex h
  obtain ⟨hk37, h⟩ := tc_ks_ex h
  obtain ⟨L38, eL38, h⟩ := tc_let_ex h
  refine tc_putP hin ha36 fl_X12_30 hk37 dX12_init_55 ?_
  refine tc_nmL eL38 ?_
  refine tc_aload_n 0 rfl dX12_init_58 ?_
  refine tc_iconst (v := 4) (by decide) dX12_init_59 ?_
  obtain ⟨n39, en39, h⟩ := tc_let_ex h
  obtain ⟨L40, eL40, h⟩ := tc_let_ex h
  obtain ⟨u41, eu41, h⟩ := tc_let_ex h
  refine tc_newa (atype := .int) (q := 100) (N := 4) (Or.inl ⟨rfl, rfl⟩) wa_int (by decide) (by decide) (Nat.le_of_ble_eq_true rfl) (Nat.le_of_ble_eq_true rfl) (Nat.le_of_ble_eq_true rfl) dX12_init_60 ?_
  refine tc_nmr en39 ?_
  refine tc_nmL eL40 ?_
  refine tc_nmu eu41 ?_
  obtain ⟨ha42, h⟩ := tc_kc_ex h
  obtain ⟨hk43, h⟩ := tc_ks_ex h
  obtain ⟨L44, eL44, h⟩ := tc_let_ex h
  refine tc_putP hin ha42 fl_X12_33 hk43 dX12_init_62 ?_
  refine tc_nmL eL44 ?_
  refine tc_aload_n 0 rfl dX12_init_65 ?_
  refine tc_iconst (v := 4) (by decide) dX12_init_66 ?_
  obtain ⟨n45, en45, h⟩ := tc_let_ex h
  obtain ⟨L46, eL46, h⟩ := tc_let_ex h
  obtain ⟨u47, eu47, h⟩ := tc_let_ex h
  refine tc_newa (atype := .int) (q := 100) (N := 4) (Or.inl ⟨rfl, rfl⟩) wa_int (by decide) (by decide) (Nat.le_of_ble_eq_true rfl) (Nat.le_of_ble_eq_true rfl) (Nat.le_of_ble_eq_true rfl) dX12_init_67 ?_
  refine tc_nmr en45 ?_
  refine tc_nmL eL46 ?_
  refine tc_nmu eu47 ?_
  obtain ⟨ha48, h⟩ := tc_kc_ex h
  obtain ⟨hk49, h⟩ := tc_ks_ex h
  obtain ⟨L50, eL50, h⟩ := tc_let_ex h
  refine tc_putP hin ha48 fl_X12_36 hk49 dX12_init_69 ?_
  refine tc_nmL eL50 ?_
  refine tc_aload_n 0 rfl dX12_init_72 ?_
  refine tc_sipush (v := 288) (by decide) dX12_init_73 ?_
  obtain ⟨n51, en51, h⟩ := tc_let_ex h
  obtain ⟨L52, eL52, h⟩ := tc_let_ex h
  obtain ⟨u53, eu53, h⟩ := tc_let_ex h
  refine tc_newa (atype := .int) (q := 100) (N := 288) (Or.inl ⟨rfl, rfl⟩) wa_int (by decide) (by decide) (Nat.le_of_ble_eq_true rfl) (Nat.le_of_ble_eq_true rfl) (Nat.le_of_ble_eq_true rfl) dX12_init_76 ?_
  refine tc_nmr en51 ?_
  refine tc_nmL eL52 ?_
  refine tc_nmu eu53 ?_
  obtain ⟨ha54, h⟩ := tc_kc_ex h
  obtain ⟨hk55, h⟩ := tc_ks_ex h
  obtain ⟨L56, eL56, h⟩ := tc_let_ex h
  refine tc_putP hin ha54 fl_X12_39 hk55 dX12_init_78 ?_
  refine tc_nmL eL56 ?_
  refine tc_aload_n 0 rfl dX12_init_81 ?_
  refine tc_bipush (v := 72) (by decide) dX12_init_82 ?_
  obtain ⟨n57, en57, h⟩ := tc_let_ex h
  obtain ⟨L58, eL58, h⟩ := tc_let_ex h
  obtain ⟨u59, eu59, h⟩ := tc_let_ex h
  refine tc_newa (atype := .int) (q := 100) (N := 72) (Or.inl ⟨rfl, rfl⟩) wa_int (by decide) (by decide) (Nat.le_of_ble_eq_true rfl) (Nat.le_of_ble_eq_true rfl) (Nat.le_of_ble_eq_true rfl) dX12_init_84 ?_
  refine tc_nmr en57 ?_
  refine tc_nmL eL58 ?_
  refine tc_nmu eu59 ?_
  obtain ⟨ha60, h⟩ := tc_kc_ex h
  obtain ⟨hk61, h⟩ := tc_ks_ex h
  obtain ⟨L62, eL62, h⟩ := tc_let_ex h
  refine tc_putP hin ha60 fl_X12_42 hk61 dX12_init_86 ?_
  refine tc_nmL eL62 ?_
  refine tc_aload_n 0 rfl dX12_init_89 ?_
  refine tc_bipush (v := 72) (by decide) dX12_init_90 ?_
  obtain ⟨n63, en63, h⟩ := tc_let_ex h
  obtain ⟨L64, eL64, h⟩ := tc_let_ex h
  obtain ⟨u65, eu65, h⟩ := tc_let_ex h
  refine tc_newa (atype := .int) (q := 100) (N := 72) (Or.inl ⟨rfl, rfl⟩) wa_int (by decide) (by decide) (Nat.le_of_ble_eq_true rfl) (Nat.le_of_ble_eq_true rfl) (Nat.le_of_ble_eq_true rfl) dX12_init_92 ?_
  refine tc_nmr en63 ?_
  refine tc_nmL eL64 ?_
  refine tc_nmu eu65 ?_
  obtain ⟨ha66, h⟩ := tc_kc_ex h
  obtain ⟨hk67, h⟩ := tc_ks_ex h
  obtain ⟨L68, eL68, h⟩ := tc_let_ex h
  refine tc_putP hin ha66 fl_X12_45 hk67 dX12_init_94 ?_
  refine tc_nmL eL68 ?_
  refine tc_aload_n 0 rfl dX12_init_97 ?_
  refine tc_bipush (v := 72) (by decide) dX12_init_98 ?_
  obtain ⟨n69, en69, h⟩ := tc_let_ex h
  obtain ⟨L70, eL70, h⟩ := tc_let_ex h
  obtain ⟨u71, eu71, h⟩ := tc_let_ex h
  refine tc_newa (atype := .boolean) (q := 102) (N := 72) (Or.inr (Or.inr ⟨rfl, rfl⟩)) wa_boolean (by decide) (by decide) (Nat.le_of_ble_eq_true rfl) (Nat.le_of_ble_eq_true rfl) (Nat.le_of_ble_eq_true rfl) dX12_init_100 ?_
  refine tc_nmr en69 ?_
  refine tc_nmL eL70 ?_
  refine tc_nmu eu71 ?_
  obtain ⟨ha72, h⟩ := tc_kc_ex h
  obtain ⟨hk73, h⟩ := tc_ks_ex h
  obtain ⟨L74, eL74, h⟩ := tc_let_ex h
  refine tc_putP hin ha72 fl_X12_48 hk73 dX12_init_102 ?_
  refine tc_nmL eL74 ?_
  refine tc_aload_n 0 rfl dX12_init_105 ?_
  refine tc_bipush (v := 72) (by decide) dX12_init_106 ?_
  obtain ⟨n75, en75, h⟩ := tc_let_ex h
  obtain ⟨L76, eL76, h⟩ := tc_let_ex h
  obtain ⟨u77, eu77, h⟩ := tc_let_ex h
  refine tc_newa (atype := .int) (q := 100) (N := 72) (Or.inl ⟨rfl, rfl⟩) wa_int (by decide) (by decide) (Nat.le_of_ble_eq_true rfl) (Nat.le_of_ble_eq_true rfl) (Nat.le_of_ble_eq_true rfl) dX12_init_108 ?_
  refine tc_nmr en75 ?_
  refine tc_nmL eL76 ?_
  refine tc_nmu eu77 ?_
  obtain ⟨ha78, h⟩ := tc_kc_ex h
  obtain ⟨hk79, h⟩ := tc_ks_ex h
  obtain ⟨L80, eL80, h⟩ := tc_let_ex h
  refine tc_putP hin ha78 fl_X12_51 hk79 dX12_init_110 ?_
  refine tc_nmL eL80 ?_
  refine tc_aload_n 0 rfl dX12_init_113 ?_
  refine tc_bipush (v := 32) (by decide) dX12_init_114 ?_
  obtain ⟨n81, en81, h⟩ := tc_let_ex h
  obtain ⟨L82, eL82, h⟩ := tc_let_ex h
  obtain ⟨u83, eu83, h⟩ := tc_let_ex h
  refine tc_newa (atype := .int) (q := 100) (N := 32) (Or.inl ⟨rfl, rfl⟩) wa_int (by decide) (by decide) (Nat.le_of_ble_eq_true rfl) (Nat.le_of_ble_eq_true rfl) (Nat.le_of_ble_eq_true rfl) dX12_init_116 ?_
  refine tc_nmr en81 ?_
  refine tc_nmL eL82 ?_
  refine tc_nmu eu83 ?_
  obtain ⟨ha84, h⟩ := tc_kc_ex h
  obtain ⟨hk85, h⟩ := tc_ks_ex h
  obtain ⟨L86, eL86, h⟩ := tc_let_ex h
  refine tc_putP hin ha84 fl_X12_54 hk85 dX12_init_118 ?_
  refine tc_nmL eL86 ?_
  refine tc_aload_n 0 rfl dX12_init_121 ?_
  refine tc_bipush (v := 32) (by decide) dX12_init_122 ?_
  obtain ⟨n87, en87, h⟩ := tc_let_ex h
  obtain ⟨L88, eL88, h⟩ := tc_let_ex h
  obtain ⟨u89, eu89, h⟩ := tc_let_ex h
  refine tc_newa (atype := .int) (q := 100) (N := 32) (Or.inl ⟨rfl, rfl⟩) wa_int (by decide) (by decide) (Nat.le_of_ble_eq_true rfl) (Nat.le_of_ble_eq_true rfl) (Nat.le_of_ble_eq_true rfl) dX12_init_124 ?_
  refine tc_nmr en87 ?_
  refine tc_nmL eL88 ?_
  refine tc_nmu eu89 ?_
  obtain ⟨ha90, h⟩ := tc_kc_ex h
  obtain ⟨hk91, h⟩ := tc_ks_ex h
  obtain ⟨L92, eL92, h⟩ := tc_let_ex h
  refine tc_putP hin ha90 fl_X12_57 hk91 dX12_init_126 ?_
  refine tc_nmL eL92 ?_
  refine tc_aload_n 0 rfl dX12_init_129 ?_
  refine tc_iconst (v := 4) (by decide) dX12_init_130 ?_
  obtain ⟨n93, en93, h⟩ := tc_let_ex h
  obtain ⟨L94, eL94, h⟩ := tc_let_ex h
  obtain ⟨u95, eu95, h⟩ := tc_let_ex h
  refine tc_newa (atype := .int) (q := 100) (N := 4) (Or.inl ⟨rfl, rfl⟩) wa_int (by decide) (by decide) (Nat.le_of_ble_eq_true rfl) (Nat.le_of_ble_eq_true rfl) (Nat.le_of_ble_eq_true rfl) dX12_init_131 ?_
  refine tc_nmr en93 ?_
  refine tc_nmL eL94 ?_
  refine tc_nmu eu95 ?_
  obtain ⟨ha96, h⟩ := tc_kc_ex h
  obtain ⟨hk97, h⟩ := tc_ks_ex h
  obtain ⟨L98, eL98, h⟩ := tc_let_ex h
  refine tc_putP hin ha96 fl_X12_60 hk97 dX12_init_133 ?_
  refine tc_nmL eL98 ?_
  refine tc_aload_n 0 rfl dX12_init_136 ?_
  refine tc_bipush (v := 12) (by decide) dX12_init_137 ?_
  obtain ⟨n99, en99, h⟩ := tc_let_ex h
  obtain ⟨L100, eL100, h⟩ := tc_let_ex h
  obtain ⟨u101, eu101, h⟩ := tc_let_ex h
  refine tc_newa (atype := .int) (q := 100) (N := 12) (Or.inl ⟨rfl, rfl⟩) wa_int (by decide) (by decide) (Nat.le_of_ble_eq_true rfl) (Nat.le_of_ble_eq_true rfl) (Nat.le_of_ble_eq_true rfl) dX12_init_139 ?_
  refine tc_nmr en99 ?_
  refine tc_nmL eL100 ?_
  refine tc_nmu eu101 ?_
  obtain ⟨ha102, h⟩ := tc_kc_ex h
  obtain ⟨hk103, h⟩ := tc_ks_ex h
  obtain ⟨L104, eL104, h⟩ := tc_let_ex h
  refine tc_putP hin ha102 fl_X12_63 hk103 dX12_init_141 ?_
  refine tc_nmL eL104 ?_
  refine tc_aload_n 0 rfl dX12_init_144 ?_
  refine tc_bipush (v := 60) (by decide) dX12_init_145 ?_
  obtain ⟨n105, en105, h⟩ := tc_let_ex h
  obtain ⟨L106, eL106, h⟩ := tc_let_ex h
  obtain ⟨u107, eu107, h⟩ := tc_let_ex h
  refine tc_newa (atype := .int) (q := 100) (N := 60) (Or.inl ⟨rfl, rfl⟩) wa_int (by decide) (by decide) (Nat.le_of_ble_eq_true rfl) (Nat.le_of_ble_eq_true rfl) (Nat.le_of_ble_eq_true rfl) dX12_init_147 ?_
  refine tc_nmr en105 ?_
  refine tc_nmL eL106 ?_
  refine tc_nmu eu107 ?_
  obtain ⟨ha108, h⟩ := tc_kc_ex h
  obtain ⟨hk109, h⟩ := tc_ks_ex h
  obtain ⟨L110, eL110, h⟩ := tc_let_ex h
  refine tc_putP hin ha108 fl_X12_66 hk109 dX12_init_149 ?_
  refine tc_nmL eL110 ?_
  refine tc_aload_n 0 rfl dX12_init_152 ?_
  refine tc_bipush (v := 60) (by decide) dX12_init_153 ?_
  obtain ⟨n111, en111, h⟩ := tc_let_ex h
  obtain ⟨L112, eL112, h⟩ := tc_let_ex h
  obtain ⟨u113, eu113, h⟩ := tc_let_ex h
  refine tc_newa (atype := .int) (q := 100) (N := 60) (Or.inl ⟨rfl, rfl⟩) wa_int (by decide) (by decide) (Nat.le_of_ble_eq_true rfl) (Nat.le_of_ble_eq_true rfl) (Nat.le_of_ble_eq_true rfl) dX12_init_155 ?_
  refine tc_nmr en111 ?_
  refine tc_nmL eL112 ?_
  refine tc_nmu eu113 ?_
  obtain ⟨ha114, h⟩ := tc_kc_ex h
  obtain ⟨hk115, h⟩ := tc_ks_ex h
  obtain ⟨L116, eL116, h⟩ := tc_let_ex h
  refine tc_putP hin ha114 fl_X12_69 hk115 dX12_init_157 ?_
  refine tc_nmL eL116 ?_
  refine tc_aload_n 0 rfl dX12_init_160 ?_
  refine tc_bipush (v := 60) (by decide) dX12_init_161 ?_
  obtain ⟨n117, en117, h⟩ := tc_let_ex h
  obtain ⟨L118, eL118, h⟩ := tc_let_ex h
  obtain ⟨u119, eu119, h⟩ := tc_let_ex h
  refine tc_newa (atype := .int) (q := 100) (N := 60) (Or.inl ⟨rfl, rfl⟩) wa_int (by decide) (by decide) (Nat.le_of_ble_eq_true rfl) (Nat.le_of_ble_eq_true rfl) (Nat.le_of_ble_eq_true rfl) dX12_init_163 ?_
  refine tc_nmr en117 ?_
  refine tc_nmL eL118 ?_
  refine tc_nmu eu119 ?_
  obtain ⟨ha120, h⟩ := tc_kc_ex h
  obtain ⟨hk121, h⟩ := tc_ks_ex h
  obtain ⟨L122, eL122, h⟩ := tc_let_ex h
  refine tc_putP hin ha120 fl_X12_72 hk121 dX12_init_165 ?_
  refine tc_nmL eL122 ?_
  refine tc_aload_n 0 rfl dX12_init_168 ?_
  refine tc_iconst (v := 0) (by decide) dX12_init_169 ?_
  obtain ⟨ha123, h⟩ := tc_kc_ex h
  obtain ⟨L124, eL124, h⟩ := tc_let_ex h
  refine tc_dnR ⟨_, by decide, ha123⟩ ?_
  refine tc_nmL eL124 ?_
  obtain ⟨hW125, h⟩ := tc_wc_ex h
  obtain ⟨hi126, h⟩ := tc_kd_ex h
  obtain ⟨x127, u128, hq129, h⟩ := tc_b_ex h
  refine tc_callVv [.int 0] dX12_init_170 hi126.1 (ct_X12_begins hW125 hi126 hq129) ml_X12_75 mw_X12_begins mv_X12_begins ⟨(Nat.le_of_ble_eq_true rfl), (Nat.le_of_ble_eq_true rfl)⟩ rfl rfl (Nat.le_of_ble_eq_true rfl) ⟨(Nat.le_of_ble_eq_true rfl), (Nat.le_of_ble_eq_true rfl)⟩ (by decide) ?_
  cases h
  exact tc_return rfl dX12_init_173 rfl rfl ⟨rfl, rfl, rfl⟩
