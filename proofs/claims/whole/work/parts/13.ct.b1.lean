set_option maxRecDepth 100000 in
set_option maxHeartbeats 4000000 in
theorem sl_X12_begins_2 {p : Program} {l : Launch} {e : Env} {s : State} {m : MethodId} {args : Array Value} {below : List Frame} {meth : Method} {c : Code} {z : Nat} {D : tc_D} {G : tc_G} (hW : tc_W G) (r : Int32) (ur : tc_S) : ∀ (n : Nat) (v0 : Nat) (v1 : Int32) (v2 : Int32) (u : tc_S) (iv0 : tc_is G v0 12) (h : lo_X12_begins_2 G n v0 v1 v2 u = some (r, ur)), tc_R p l e { frames := 0, cells := 0, slots := 0, locals := 0 } s m args below meth c z D cX12_begins RX12 3 none 0 0 (tc_pv G ur) 0 0 G u 2 [(0, .ref (z + v0)), (1, .int v1), (2, .int v2)] [] := by
  intro n
  induction n with
  | zero => intro v0 v1 v2 u iv0 h; cases h
  | succ n ih =>
    intro v0 v1 v2 u iv0 h
    rw [lo_X12_begins_2] at h
    refine tc_iload_n 2 rfl dX12_begins_2 ?_
    refine tc_sipush (v := 292) (by decide) dX12_begins_3 ?_
    refine tc_icmp_ge 24 dX12_begins_6 (by decide) (fun hc1 => ?_) (fun hc1 => ?_)
    · rw [if_pos hc1] at h
      refine tc_aload_n 0 rfl dX12_begins_24 ?_
      refine tc_getp hW iv0 fl_X12_7 dX12_begins_25 rfl ?_
      refine tc_iload_n 1 rfl dX12_begins_28 ?_
      refine tc_iconst (v := 0) (by decide) dX12_begins_29 ?_
      refine tc_iadd dX12_begins_30 ?_
      refine tc_iconst (v := 4) (by decide) dX12_begins_31 ?_
      obtain ⟨bu2, u2, eu2, h⟩ := tc_sd_ex h
      refine tc_iast (hW.p iv0 0 rfl).1 bu2 dX12_begins_32 ?_
      refine tc_nmu eu2 ?_
      refine tc_aload_n 0 rfl dX12_begins_33 ?_
      refine tc_getp hW iv0 fl_X12_7 dX12_begins_34 rfl ?_
      refine tc_iload_n 1 rfl dX12_begins_37 ?_
      refine tc_iconst (v := 1) (by decide) dX12_begins_38 ?_
      refine tc_iadd dX12_begins_39 ?_
      refine tc_iconst (v := 2) (by decide) dX12_begins_40 ?_
      obtain ⟨bu3, u3, eu3, h⟩ := tc_sd_ex h
      refine tc_iast (hW.p iv0 0 rfl).1 bu3 dX12_begins_41 ?_
      refine tc_nmu eu3 ?_
      refine tc_aload_n 0 rfl dX12_begins_42 ?_
      refine tc_getp hW iv0 fl_X12_7 dX12_begins_43 rfl ?_
      refine tc_iload_n 1 rfl dX12_begins_46 ?_
      refine tc_iconst (v := 2) (by decide) dX12_begins_47 ?_
      refine tc_iadd dX12_begins_48 ?_
      refine tc_iconst (v := 2) (by decide) dX12_begins_49 ?_
      obtain ⟨bu4, u4, eu4, h⟩ := tc_sd_ex h
      refine tc_iast (hW.p iv0 0 rfl).1 bu4 dX12_begins_50 ?_
      refine tc_nmu eu4 ?_
      refine tc_aload_n 0 rfl dX12_begins_51 ?_
      refine tc_getp hW iv0 fl_X12_7 dX12_begins_52 rfl ?_
      refine tc_iload_n 1 rfl dX12_begins_55 ?_
      refine tc_iconst (v := 3) (by decide) dX12_begins_56 ?_
      refine tc_iadd dX12_begins_57 ?_
      refine tc_bipush (v := 6) (by decide) dX12_begins_58 ?_
      obtain ⟨bu5, u5, eu5, h⟩ := tc_sd_ex h
      refine tc_iast (hW.p iv0 0 rfl).1 bu5 dX12_begins_60 ?_
      refine tc_nmu eu5 ?_
      refine tc_aload_n 0 rfl dX12_begins_61 ?_
      refine tc_getp hW iv0 fl_X12_7 dX12_begins_62 rfl ?_
      refine tc_iload_n 1 rfl dX12_begins_65 ?_
      refine tc_iconst (v := 4) (by decide) dX12_begins_66 ?_
      refine tc_iadd dX12_begins_67 ?_
      refine tc_iconst (v := 2) (by decide) dX12_begins_68 ?_
      obtain ⟨bu6, u6, eu6, h⟩ := tc_sd_ex h
      refine tc_iast (hW.p iv0 0 rfl).1 bu6 dX12_begins_69 ?_
      refine tc_nmu eu6 ?_
      refine tc_aload_n 0 rfl dX12_begins_70 ?_
      refine tc_getp hW iv0 fl_X12_7 dX12_begins_71 rfl ?_
      refine tc_iload_n 1 rfl dX12_begins_74 ?_
      refine tc_iconst (v := 5) (by decide) dX12_begins_75 ?_
      refine tc_iadd dX12_begins_76 ?_
      refine tc_iconst (v := 2) (by decide) dX12_begins_77 ?_
      obtain ⟨bu7, u7, eu7, h⟩ := tc_sd_ex h
      refine tc_iast (hW.p iv0 0 rfl).1 bu7 dX12_begins_78 ?_
      refine tc_nmu eu7 ?_
      refine tc_aload_n 0 rfl dX12_begins_79 ?_
      refine tc_getp hW iv0 fl_X12_7 dX12_begins_80 rfl ?_
      refine tc_iload_n 1 rfl dX12_begins_83 ?_
      refine tc_bipush (v := 7) (by decide) dX12_begins_84 ?_
      refine tc_iadd dX12_begins_86 ?_
      refine tc_iconst (v := 3) (by decide) dX12_begins_87 ?_
      obtain ⟨bu8, u8, eu8, h⟩ := tc_sd_ex h
      refine tc_iast (hW.p iv0 0 rfl).1 bu8 dX12_begins_88 ?_
      refine tc_nmu eu8 ?_
      refine tc_aload_n 0 rfl dX12_begins_89 ?_
      refine tc_getp hW iv0 fl_X12_7 dX12_begins_90 rfl ?_
      refine tc_iload_n 1 rfl dX12_begins_93 ?_
      refine tc_bipush (v := 7) (by decide) dX12_begins_94 ?_
      refine tc_iadd dX12_begins_96 ?_
      refine tc_iconst (v := 1) (by decide) dX12_begins_97 ?_
      refine tc_iadd dX12_begins_98 ?_
      refine tc_iconst (v := 1) (by decide) dX12_begins_99 ?_
      obtain ⟨bu9, u9, eu9, h⟩ := tc_sd_ex h
      refine tc_iast (hW.p iv0 0 rfl).1 bu9 dX12_begins_100 ?_
      refine tc_nmu eu9 ?_
      refine tc_aload_n 0 rfl dX12_begins_101 ?_
      refine tc_getp hW iv0 fl_X12_7 dX12_begins_102 rfl ?_
      refine tc_iload_n 1 rfl dX12_begins_105 ?_
      refine tc_bipush (v := 7) (by decide) dX12_begins_106 ?_
      refine tc_iadd dX12_begins_108 ?_
      refine tc_iconst (v := 2) (by decide) dX12_begins_109 ?_
      refine tc_iadd dX12_begins_110 ?_
      refine tc_iconst (v := 5) (by decide) dX12_begins_111 ?_
      obtain ⟨bu10, u10, eu10, h⟩ := tc_sd_ex h
      refine tc_iast (hW.p iv0 0 rfl).1 bu10 dX12_begins_112 ?_
      refine tc_nmu eu10 ?_
      refine tc_aload_n 0 rfl dX12_begins_113 ?_
      refine tc_getp hW iv0 fl_X12_7 dX12_begins_114 rfl ?_
      refine tc_iload_n 1 rfl dX12_begins_117 ?_
      refine tc_bipush (v := 7) (by decide) dX12_begins_118 ?_
      refine tc_iadd dX12_begins_120 ?_
      refine tc_iconst (v := 3) (by decide) dX12_begins_121 ?_
      refine tc_iadd dX12_begins_122 ?_
      refine tc_iconst (v := 2) (by decide) dX12_begins_123 ?_
      obtain ⟨bu11, u11, eu11, h⟩ := tc_sd_ex h
      refine tc_iast (hW.p iv0 0 rfl).1 bu11 dX12_begins_124 ?_
      refine tc_nmu eu11 ?_
      cases h
      exact tc_return rfl dX12_begins_125 rfl rfl ⟨rfl, rfl, rfl⟩
    · rw [if_neg hc1] at h
      refine tc_aload_n 0 rfl dX12_begins_9 ?_
      refine tc_getp hW iv0 fl_X12_7 dX12_begins_10 rfl ?_
      refine tc_iload_n 1 rfl dX12_begins_13 ?_
      refine tc_iload_n 2 rfl dX12_begins_14 ?_
      refine tc_iadd dX12_begins_15 ?_
      refine tc_iconst (v := 0) (by decide) dX12_begins_16 ?_
      obtain ⟨bu12, u12, eu12, h⟩ := tc_sd_ex h
      refine tc_iast (hW.p iv0 0 rfl).1 bu12 dX12_begins_17 ?_
      refine tc_nmu eu12 ?_
      obtain ⟨x13, ex13, h⟩ := tc_let_ex h
      refine tc_iinc 2 (v := x13) [(2, .int x13), (0, .ref (z + v0)), (1, .int v1)] dX12_begins_18 rfl (by rw [ex13]; rfl) (by decide) rfl ?_
      refine tc_goto 2 dX12_begins_21 (by decide) ?_
      refine tc_lvs [1, 2, 0] rfl ?_
      exact ih v0 v1 x13 u12 iv0 h
set_option maxRecDepth 100000 in
set_option maxHeartbeats 4000000 in
theorem ct_X12_begins {l : Launch} {z : Nat} {D : tc_D} {G : tc_G} (hW : tc_W G) {v0 : Nat} {v1 : Int32} {u : tc_S} {r : Int32} {ur : tc_S} (iv0 : tc_is G v0 12) (h : fn_X12_begins G v0 v1 u = some (r, ur)) : tc_C l z D yX12_begins cX12_begins 3 none 0 0 0 0 [.ref (z + v0), .int v1] G u (tc_pv G ur) := by
  unfold fn_X12_begins at h
  refine tc_C.of (by decide) (Nat.le_of_ble_eq_true rfl) fun p e s m args below meth c => ?_
  show tc_R p l e { frames := 0, cells := 0, slots := 0, locals := 0 } s m args below meth c z D cX12_begins RX12 3 none 0 0 (tc_pv G ur) 0 0 G u 0 [(0, .ref (z + v0)), (1, .int v1)] []
  refine tc_iconst (v := 0) (by decide) dX12_begins_0 ?_
  refine tc_istore_n [(2, .int 0), (0, .ref (z + v0)), (1, .int v1)] dX12_begins_1 (by decide) rfl ?_
  refine tc_lvs [1, 2, 0] rfl ?_
  exact sl_X12_begins_2 hW r ur  _ v0 v1 0 u iv0 h
set_option maxRecDepth 100000 in
set_option maxHeartbeats 4000000 in
theorem sb_X12_isIn_15 {p : Program} {l : Launch} {e : Env} {s : State} {m : MethodId} {args : Array Value} {below : List Frame} {meth : Method} {c : Code} {z : Nat} {D : tc_D} {G : tc_G} (hW : tc_W G) (r : Int32) (ur : tc_S) (s0 : Int32) (u : tc_S) (h : bl_X12_isIn_15 G s0 u = some (r, ur)) : tc_R p l e { frames := 0, cells := 0, slots := 0, locals := 0 } s m args below meth c z D cX12_isIn RX12 3 (some .boolean) 0 0 (tc_po r G ur) 0 0 G u 15 [] [.int s0] := by
  unfold bl_X12_isIn_15 at h
  obtain ⟨hz1, h⟩ := tc_zo_ex h
  cases h
  exact tc_zreturn hz1 rfl dX12_isIn_15 rfl rfl ⟨rfl, rfl, rfl⟩
set_option maxRecDepth 100000 in
set_option maxHeartbeats 4000000 in
theorem sb_X12_isIn_14 {p : Program} {l : Launch} {e : Env} {s : State} {m : MethodId} {args : Array Value} {below : List Frame} {meth : Method} {c : Code} {z : Nat} {D : tc_D} {G : tc_G} (hW : tc_W G) (r : Int32) (ur : tc_S) (u : tc_S) (h : bl_X12_isIn_14 G  u = some (r, ur)) : tc_R p l e { frames := 0, cells := 0, slots := 0, locals := 0 } s m args below meth c z D cX12_isIn RX12 3 (some .boolean) 0 0 (tc_po r G ur) 0 0 G u 14 [] [] := by
  unfold bl_X12_isIn_14 at h
  refine tc_iconst (v := 0) (by decide) dX12_isIn_14 ?_
  exact sb_X12_isIn_15 hW r ur  0 u  h
set_option maxRecDepth 100000 in
set_option maxHeartbeats 4000000 in
theorem ct_X12_isIn {l : Launch} {z : Nat} {D : tc_D} {G : tc_G} (hW : tc_W G) {v0 : Int32} {v1 : Int32} {v2 : Int32} {u : tc_S} {r : Int32} {ur : tc_S} (h : fn_X12_isIn G v0 v1 v2 u = some (r, ur)) : tc_C l z D yX12_isIn cX12_isIn 3 (some .boolean) 0 0 0 0 [.int v0, .int v1, .int v2] G u (tc_po r G ur) := by
  unfold fn_X12_isIn at h
  refine tc_C.of (by decide) (Nat.le_of_ble_eq_true rfl) fun p e s m args below meth c => ?_
  show tc_R p l e { frames := 0, cells := 0, slots := 0, locals := 0 } s m args below meth c z D cX12_isIn RX12 3 (some .boolean) 0 0 (tc_po r G ur) 0 0 G u 0 [(0, .int v0), (1, .int v1), (2, .int v2)] []
  refine tc_iload_n 0 rfl dX12_isIn_0 ?_
  refine tc_iload_n 1 rfl dX12_isIn_1 ?_
  refine tc_icmp_lt 14 dX12_isIn_2 (by decide) (fun hc2 => ?_) (fun hc2 => ?_)
  · rw [if_pos hc2] at h
    refine tc_lvs [] rfl ?_
    exact sb_X12_isIn_14 hW r ur   u  h
  · rw [if_neg hc2] at h
    refine tc_iload_n 0 rfl dX12_isIn_5 ?_
    refine tc_iload_n 2 rfl dX12_isIn_6 ?_
    refine tc_icmp_gt 14 dX12_isIn_7 (by decide) (fun hc3 => ?_) (fun hc3 => ?_)
    · rw [if_pos hc3] at h
      refine tc_lvs [] rfl ?_
      exact sb_X12_isIn_14 hW r ur   u  h
    · rw [if_neg hc3] at h
      refine tc_iconst (v := 1) (by decide) dX12_isIn_10 ?_
      refine tc_goto 15 dX12_isIn_11 (by decide) ?_
      refine tc_lvs [] rfl ?_
      exact sb_X12_isIn_15 hW r ur  1 u  h
set_option maxRecDepth 100000 in
set_option maxHeartbeats 4000000 in
theorem ct_X12_isKey {l : Launch} {z : Nat} {D : tc_D} {G : tc_G} (hW : tc_W G) {v0 : Int32} {u : tc_S} {r : Int32} {ur : tc_S} (h : fn_X12_isKey G v0 u = some (r, ur)) : tc_C l z D yX12_isKey cX12_isKey 1 (some .boolean) 1 22 0 0 [.int v0] G u (tc_po r G ur) := by
  unfold fn_X12_isKey at h
  refine tc_C.of (by decide) (Nat.le_of_ble_eq_true rfl) fun p e s m args below meth c => ?_
  show tc_R p l e { frames := 1, cells := 0, slots := 0, locals := 22 } s m args below meth c z D cX12_isKey RX12 1 (some .boolean) 0 0 (tc_po r G ur) 0 0 G u 0 [(0, .int v0)] []
  refine tc_iload_n 0 rfl dX12_isKey_0 ?_
  refine tc_iconst (v := 0) (by decide) dX12_isKey_1 ?_
  refine tc_sipush (v := 999) (by decide) dX12_isKey_2 ?_
  obtain ⟨x1, u2, hq3, h⟩ := tc_b_ex h
  refine tc_callSi [.int v0, .int 0, .int 999] dX12_isKey_5 (ct_X12_isIn hW hq3) ml_X12_79 mw_X12_isIn ms_X12_isIn ⟨Nat.le_of_ble_eq_true rfl, Nat.le_of_ble_eq_true rfl⟩ rfl rfl (Nat.le_of_ble_eq_true rfl) ⟨Nat.le_refl _, Nat.le_refl _⟩ ?_
  obtain ⟨hz4, h⟩ := tc_zo_ex h
  cases h
  exact tc_zreturn hz4 rfl dX12_isKey_8 rfl rfl ⟨rfl, rfl, rfl⟩
set_option maxRecDepth 100000 in
set_option maxHeartbeats 4000000 in
theorem sl_X12_copies_2 {p : Program} {l : Launch} {e : Env} {s : State} {m : MethodId} {args : Array Value} {below : List Frame} {meth : Method} {c : Code} {z : Nat} {D : tc_D} {G : tc_G} (hW : tc_W G) (r : Int32) (ur : tc_S) : ∀ (n : Nat) (v0 : Nat) (v1 : Int32) (v2 : Int32) (v3 : Int32) (u : tc_S) (iv0 : tc_is G v0 12) (h : lo_X12_copies_2 G n v0 v1 v2 v3 u = some (r, ur)), tc_R p l e { frames := 0, cells := 0, slots := 0, locals := 0 } s m args below meth c z D cX12_copies RX12 4 none 0 0 (tc_pv G ur) 0 0 G u 2 [(0, .ref (z + v0)), (1, .int v1), (2, .int v2), (3, .int v3)] [] := by
  intro n
  induction n with
  | zero => intro v0 v1 v2 v3 u iv0 h; cases h
  | succ n ih =>
    intro v0 v1 v2 v3 u iv0 h
    rw [lo_X12_copies_2] at h
    refine tc_iload_n 3 rfl dX12_copies_2 ?_
    refine tc_sipush (v := 292) (by decide) dX12_copies_3 ?_
    refine tc_icmp_ge 31 dX12_copies_6 (by decide) (fun hc1 => ?_) (fun hc1 => ?_)
    · rw [if_pos hc1] at h
      cases h
      exact tc_return rfl dX12_copies_31 rfl rfl ⟨rfl, rfl, rfl⟩
    · rw [if_neg hc1] at h
      refine tc_aload_n 0 rfl dX12_copies_9 ?_
      refine tc_getp hW iv0 fl_X12_7 dX12_copies_10 rfl ?_
      refine tc_iload_n 2 rfl dX12_copies_13 ?_
      refine tc_iload_n 3 rfl dX12_copies_14 ?_
      refine tc_iadd dX12_copies_15 ?_
      refine tc_aload_n 0 rfl dX12_copies_16 ?_
      refine tc_getp hW iv0 fl_X12_7 dX12_copies_17 rfl ?_
      refine tc_iload_n 1 rfl dX12_copies_20 ?_
      refine tc_iload_n 3 rfl dX12_copies_21 ?_
      refine tc_iadd dX12_copies_22 ?_
      obtain ⟨bx2, x2, ex2, h⟩ := tc_ld_ex h
      refine tc_iald (hW.p iv0 0 rfl).1 bx2 dX12_copies_23 ?_
      refine tc_nm ex2 ?_
      obtain ⟨bu3, u3, eu3, h⟩ := tc_sd_ex h
      refine tc_iast (hW.p iv0 0 rfl).1 bu3 dX12_copies_24 ?_
      refine tc_nmu eu3 ?_
      obtain ⟨x4, ex4, h⟩ := tc_let_ex h
      refine tc_iinc 3 (v := x4) [(3, .int x4), (0, .ref (z + v0)), (1, .int v1), (2, .int v2)] dX12_copies_25 rfl (by rw [ex4]; rfl) (by decide) rfl ?_
      refine tc_goto 2 dX12_copies_28 (by decide) ?_
      refine tc_lvs [1, 2, 3, 0] rfl ?_
      exact ih v0 v1 v2 x4 u3 iv0 h
set_option maxRecDepth 100000 in
set_option maxHeartbeats 4000000 in
theorem ct_X12_copies {l : Launch} {z : Nat} {D : tc_D} {G : tc_G} (hW : tc_W G) {v0 : Nat} {v1 : Int32} {v2 : Int32} {u : tc_S} {r : Int32} {ur : tc_S} (iv0 : tc_is G v0 12) (h : fn_X12_copies G v0 v1 v2 u = some (r, ur)) : tc_C l z D yX12_copies cX12_copies 4 none 0 0 0 0 [.ref (z + v0), .int v1, .int v2] G u (tc_pv G ur) := by
  unfold fn_X12_copies at h
  refine tc_C.of (by decide) (Nat.le_of_ble_eq_true rfl) fun p e s m args below meth c => ?_
  show tc_R p l e { frames := 0, cells := 0, slots := 0, locals := 0 } s m args below meth c z D cX12_copies RX12 4 none 0 0 (tc_pv G ur) 0 0 G u 0 [(0, .ref (z + v0)), (1, .int v1), (2, .int v2)] []
  refine tc_iconst (v := 0) (by decide) dX12_copies_0 ?_
  refine tc_istore_n [(3, .int 0), (0, .ref (z + v0)), (1, .int v1), (2, .int v2)] dX12_copies_1 (by decide) rfl ?_
  refine tc_lvs [1, 2, 3, 0] rfl ?_
  exact sl_X12_copies_2 hW r ur  _ v0 v1 v2 0 u iv0 h
set_option maxRecDepth 100000 in
set_option maxHeartbeats 4000000 in
theorem ct_X12_comesBack {l : Launch} {z : Nat} {D : tc_D} {G : tc_G} (hW : tc_W G) {v0 : Nat} {v1 : Int32} {v2 : Int32} {u : tc_S} {r : Int32} {ur : tc_S} (iv0 : tc_is G v0 12) (h : fn_X12_comesBack G v0 v1 v2 u = some (r, ur)) : tc_C l z D yX12_comesBack cX12_comesBack 4 none 1 23 0 0 [.ref (z + v0), .int v1, .int v2] G u (tc_pv G ur) := by
  unfold fn_X12_comesBack at h
  refine tc_C.of (by decide) (Nat.le_of_ble_eq_true rfl) fun p e s m args below meth c => ?_
  show tc_R p l e { frames := 1, cells := 0, slots := 0, locals := 23 } s m args below meth c z D cX12_comesBack RX12 4 none 0 0 (tc_pv G ur) 0 0 G u 0 [(0, .ref (z + v0)), (1, .int v1), (2, .int v2)] []
  refine tc_aload_n 0 rfl dX12_comesBack_0 ?_
  refine tc_getp hW iv0 fl_X12_7 dX12_comesBack_1 rfl ?_
  refine tc_iload_n 2 rfl dX12_comesBack_4 ?_
  refine tc_bipush (v := 11) (by decide) dX12_comesBack_5 ?_
  refine tc_iadd dX12_comesBack_7 ?_
  obtain ⟨bx1, x1, ex1, h⟩ := tc_ld_ex h
  refine tc_iald (hW.p iv0 0 rfl).1 bx1 dX12_comesBack_8 ?_
  refine tc_nm ex1 ?_
  refine tc_istore_n [(3, .int x1), (0, .ref (z + v0)), (1, .int v1), (2, .int v2)] dX12_comesBack_9 (by decide) rfl ?_
  refine tc_aload_n 1 rfl dX12_comesBack_10 ?_
  refine tc_iload_n 2 rfl dX12_comesBack_11 ?_
  refine tc_iload_n 3 rfl dX12_comesBack_12 ?_
  obtain ⟨x2, u3, hq4, h⟩ := tc_b_ex h
  refine tc_callVv [.int v1, .int v2] dX12_comesBack_13 iv0.1 (ct_X12_copies hW iv0 hq4) ml_X12_83 mw_X12_copies mv_X12_copies ⟨Nat.le_of_ble_eq_true rfl, Nat.le_of_ble_eq_true rfl⟩ rfl rfl (Nat.le_of_ble_eq_true rfl) ⟨Nat.le_refl _, Nat.le_refl _⟩ (by decide) ?_
  refine tc_aload_n 1 rfl dX12_comesBack_16 ?_
  refine tc_getp hW iv0 fl_X12_7 dX12_comesBack_17 rfl ?_
  refine tc_iload_n 3 rfl dX12_comesBack_20 ?_
  refine tc_bipush (v := 11) (by decide) dX12_comesBack_21 ?_
  refine tc_iadd dX12_comesBack_23 ?_
  refine tc_iload_n 0 rfl dX12_comesBack_24 ?_
  obtain ⟨bu5, u5, eu5, h⟩ := tc_sd_ex h
  refine tc_iast (hW.p iv0 0 rfl).1 bu5 dX12_comesBack_25 ?_
  refine tc_nmu eu5 ?_
  cases h
  exact tc_return rfl dX12_comesBack_26 rfl rfl ⟨rfl, rfl, rfl⟩
set_option maxRecDepth 100000 in
set_option maxHeartbeats 4000000 in
theorem ct_X12_draws {l : Launch} {z : Nat} {D : tc_D} {G : tc_G} (hW : tc_W G) {v0 : Nat} {v1 : Int32} {v2 : Int32} {u : tc_S} {r : Int32} {ur : tc_S} (iv0 : tc_is G v0 12) (h : fn_X12_draws G v0 v1 v2 u = some (r, ur)) : tc_C l z D yX12_draws cX12_draws 3 (some .int) 0 0 0 0 [.ref (z + v0), .int v1, .int v2] G u (tc_po r G ur) := by
  unfold fn_X12_draws at h
  refine tc_C.of (by decide) (Nat.le_of_ble_eq_true rfl) fun p e s m args below meth c => ?_
  show tc_R p l e { frames := 0, cells := 0, slots := 0, locals := 0 } s m args below meth c z D cX12_draws RX12 3 (some .int) 0 0 (tc_po r G ur) 0 0 G u 0 [(0, .ref (z + v0)), (1, .int v1), (2, .int v2)] []
  refine tc_aload_n 0 rfl dX12_draws_0 ?_
  refine tc_getp hW iv0 fl_X12_7 dX12_draws_1 rfl ?_
  refine tc_iload_n 1 rfl dX12_draws_4 ?_
  refine tc_bipush (v := 11) (by decide) dX12_draws_5 ?_
  refine tc_iadd dX12_draws_7 ?_
  refine tc_aload_n 0 rfl dX12_draws_8 ?_
  refine tc_getp hW iv0 fl_X12_7 dX12_draws_9 rfl ?_
  refine tc_iload_n 1 rfl dX12_draws_12 ?_
  refine tc_bipush (v := 11) (by decide) dX12_draws_13 ?_
  refine tc_iadd dX12_draws_15 ?_
  obtain ⟨bx1, x1, ex1, h⟩ := tc_ld_ex h
  refine tc_iald (hW.p iv0 0 rfl).1 bx1 dX12_draws_16 ?_
  refine tc_nm ex1 ?_
  refine tc_ldc (v := 1103515245) co_X12_87 dX12_draws_17 ?_
  refine tc_imul dX12_draws_19 ?_
  refine tc_sipush (v := 12345) (by decide) dX12_draws_20 ?_
  refine tc_iadd dX12_draws_23 ?_
  obtain ⟨bu2, u2, eu2, h⟩ := tc_sd_ex h
  refine tc_iast (hW.p iv0 0 rfl).1 bu2 dX12_draws_24 ?_
  refine tc_nmu eu2 ?_
  refine tc_aload_n 0 rfl dX12_draws_25 ?_
  refine tc_getp hW iv0 fl_X12_7 dX12_draws_26 rfl ?_
  refine tc_iload_n 1 rfl dX12_draws_29 ?_
  refine tc_bipush (v := 11) (by decide) dX12_draws_30 ?_
  refine tc_iadd dX12_draws_32 ?_
  obtain ⟨bx3, x3, ex3, h⟩ := tc_ld_ex h
  refine tc_iald (hW.p iv0 0 rfl).1 bx3 dX12_draws_33 ?_
  refine tc_nm ex3 ?_
  refine tc_bipush (v := 16) (by decide) dX12_draws_34 ?_
  refine tc_iushr' dX12_draws_36 ?_
  refine tc_iload_n 2 rfl dX12_draws_37 ?_
  obtain ⟨hz4, h⟩ := tc_nz_ex h
  refine tc_irem' hz4 dX12_draws_38 ?_
  cases h
  exact tc_ireturn rfl dX12_draws_39 rfl rfl ⟨rfl, rfl, rfl⟩
set_option maxRecDepth 100000 in
set_option maxHeartbeats 4000000 in
theorem ct_X12_hashOf {l : Launch} {z : Nat} {D : tc_D} {G : tc_G} (hW : tc_W G) {v0 : Nat} {v1 : Int32} {v2 : Int32} {v3 : Int32} {u : tc_S} {r : Int32} {ur : tc_S} (iv0 : tc_is G v0 12) (h : fn_X12_hashOf G v0 v1 v2 v3 u = some (r, ur)) : tc_C l z D yX12_hashOf cX12_hashOf 4 (some .int) 0 0 0 0 [.ref (z + v0), .int v1, .int v2, .int v3] G u (tc_po r G ur) := by
  unfold fn_X12_hashOf at h
  refine tc_C.of (by decide) (Nat.le_of_ble_eq_true rfl) fun p e s m args below meth c => ?_
  show tc_R p l e { frames := 0, cells := 0, slots := 0, locals := 0 } s m args below meth c z D cX12_hashOf RX12 4 (some .int) 0 0 (tc_po r G ur) 0 0 G u 0 [(0, .ref (z + v0)), (1, .int v1), (2, .int v2), (3, .int v3)] []
  refine tc_aload_n 0 rfl dX12_hashOf_0 ?_
  refine tc_getp hW iv0 fl_X12_7 dX12_hashOf_1 rfl ?_
  refine tc_iload_n 1 rfl dX12_hashOf_4 ?_
  refine tc_bipush (v := 7) (by decide) dX12_hashOf_5 ?_
  refine tc_iadd dX12_hashOf_7 ?_
  refine tc_iconst (v := 2) (by decide) dX12_hashOf_8 ?_
  refine tc_iload_n 3 rfl dX12_hashOf_9 ?_
  refine tc_imul dX12_hashOf_10 ?_
  refine tc_iadd dX12_hashOf_11 ?_
  obtain ⟨bx1, x1, ex1, h⟩ := tc_ld_ex h
  refine tc_iald (hW.p iv0 0 rfl).1 bx1 dX12_hashOf_12 ?_
  refine tc_nm ex1 ?_
  refine tc_iload_n 2 rfl dX12_hashOf_13 ?_
  refine tc_imul dX12_hashOf_14 ?_
  refine tc_aload_n 0 rfl dX12_hashOf_15 ?_
  refine tc_getp hW iv0 fl_X12_7 dX12_hashOf_16 rfl ?_
  refine tc_iload_n 1 rfl dX12_hashOf_19 ?_
  refine tc_bipush (v := 7) (by decide) dX12_hashOf_20 ?_
  refine tc_iadd dX12_hashOf_22 ?_
  refine tc_iconst (v := 2) (by decide) dX12_hashOf_23 ?_
  refine tc_iload_n 3 rfl dX12_hashOf_24 ?_
  refine tc_imul dX12_hashOf_25 ?_
  refine tc_iadd dX12_hashOf_26 ?_
  refine tc_iconst (v := 1) (by decide) dX12_hashOf_27 ?_
  refine tc_iadd dX12_hashOf_28 ?_
  obtain ⟨bx2, x2, ex2, h⟩ := tc_ld_ex h
  refine tc_iald (hW.p iv0 0 rfl).1 bx2 dX12_hashOf_29 ?_
  refine tc_nm ex2 ?_
  refine tc_iadd dX12_hashOf_30 ?_
  refine tc_sipush (v := 1009) (by decide) dX12_hashOf_31 ?_
  refine tc_irem' (by decide) dX12_hashOf_34 ?_
  refine tc_aload_n 0 rfl dX12_hashOf_35 ?_
  refine tc_getp hW iv0 fl_X12_7 dX12_hashOf_36 rfl ?_
  refine tc_iload_n 1 rfl dX12_hashOf_39 ?_
  refine tc_iconst (v := 0) (by decide) dX12_hashOf_40 ?_
  refine tc_iadd dX12_hashOf_41 ?_
  obtain ⟨bx3, x3, ex3, h⟩ := tc_ld_ex h
  refine tc_iald (hW.p iv0 0 rfl).1 bx3 dX12_hashOf_42 ?_
  refine tc_nm ex3 ?_
  obtain ⟨hz4, h⟩ := tc_nz_ex h
  refine tc_irem' hz4 dX12_hashOf_43 ?_
  cases h
  exact tc_ireturn rfl dX12_hashOf_44 rfl rfl ⟨rfl, rfl, rfl⟩
set_option maxRecDepth 100000 in
set_option maxHeartbeats 4000000 in
theorem sb_X12_otherOf_42 {p : Program} {l : Launch} {e : Env} {s : State} {m : MethodId} {args : Array Value} {below : List Frame} {meth : Method} {c : Code} {z : Nat} {D : tc_D} {G : tc_G} (hW : tc_W G) (r : Int32) (ur : tc_S) (s0 : Int32) (u : tc_S) (h : bl_X12_otherOf_42 G s0 u = some (r, ur)) : tc_R p l e { frames := 1, cells := 0, slots := 0, locals := 23 } s m args below meth c z D cX12_otherOf RX12 6 (some .int) 0 0 (tc_po r G ur) 0 0 G u 42 [] [.int s0] := by
  unfold bl_X12_otherOf_42 at h
  cases h
  exact tc_ireturn rfl dX12_otherOf_42 rfl rfl ⟨rfl, rfl, rfl⟩
set_option maxRecDepth 100000 in
set_option maxHeartbeats 4000000 in
theorem ct_X12_otherOf {l : Launch} {z : Nat} {D : tc_D} {G : tc_G} (hW : tc_W G) {v0 : Nat} {v1 : Int32} {v2 : Int32} {v3 : Int32} {u : tc_S} {r : Int32} {ur : tc_S} (iv0 : tc_is G v0 12) (h : fn_X12_otherOf G v0 v1 v2 v3 u = some (r, ur)) : tc_C l z D yX12_otherOf cX12_otherOf 6 (some .int) 1 23 0 0 [.ref (z + v0), .int v1, .int v2, .int v3] G u (tc_po r G ur) := by
  unfold fn_X12_otherOf at h
  refine tc_C.of (by decide) (Nat.le_of_ble_eq_true rfl) fun p e s m args below meth c => ?_
  show tc_R p l e { frames := 1, cells := 0, slots := 0, locals := 23 } s m args below meth c z D cX12_otherOf RX12 6 (some .int) 0 0 (tc_po r G ur) 0 0 G u 0 [(0, .ref (z + v0)), (1, .int v1), (2, .int v2), (3, .int v3)] []
  refine tc_aload_n 0 rfl dX12_otherOf_0 ?_
  refine tc_iload_n 1 rfl dX12_otherOf_1 ?_
  refine tc_iload_n 2 rfl dX12_otherOf_2 ?_
  refine tc_iconst (v := 0) (by decide) dX12_otherOf_3 ?_
  obtain ⟨x1, u2, hq3, h⟩ := tc_b_ex h
  refine tc_callVi [.int v1, .int v2, .int 0] dX12_otherOf_4 iv0.1 (ct_X12_hashOf hW iv0 hq3) ml_X12_88 mw_X12_hashOf mv_X12_hashOf ⟨Nat.le_of_ble_eq_true rfl, Nat.le_of_ble_eq_true rfl⟩ rfl rfl (Nat.le_of_ble_eq_true rfl) ⟨Nat.le_refl _, Nat.le_refl _⟩ (by decide) ?_
  refine tc_istore [(4, .int x1), (0, .ref (z + v0)), (1, .int v1), (2, .int v2), (3, .int v3)] dX12_otherOf_7 (by decide) rfl ?_
  refine tc_aload_n 1 rfl dX12_otherOf_9 ?_
  refine tc_iload_n 2 rfl dX12_otherOf_10 ?_
  refine tc_iload_n 3 rfl dX12_otherOf_11 ?_
  refine tc_iconst (v := 1) (by decide) dX12_otherOf_12 ?_
  obtain ⟨x4, u5, hq6, h⟩ := tc_b_ex h
  refine tc_callVi [.int v1, .int v2, .int 1] dX12_otherOf_13 iv0.1 (ct_X12_hashOf hW iv0 hq6) ml_X12_88 mw_X12_hashOf mv_X12_hashOf ⟨Nat.le_of_ble_eq_true rfl, Nat.le_of_ble_eq_true rfl⟩ rfl rfl (Nat.le_of_ble_eq_true rfl) ⟨Nat.le_refl _, Nat.le_refl _⟩ (by decide) ?_
  refine tc_istore [(5, .int x4), (4, .int x1), (0, .ref (z + v0)), (1, .int v1), (2, .int v2), (3, .int v3)] dX12_otherOf_16 (by decide) rfl ?_
  refine tc_iload 1 rfl dX12_otherOf_18 ?_
  refine tc_iload 0 rfl dX12_otherOf_20 ?_
  refine tc_icmp_ne 29 dX12_otherOf_22 (by decide) (fun hc7 => ?_) (fun hc7 => ?_)
  · rw [if_neg hc7] at h
    refine tc_iload_n 5 rfl dX12_otherOf_29 ?_
    refine tc_iload 1 rfl dX12_otherOf_30 ?_
    refine tc_icmp_ne 40 dX12_otherOf_32 (by decide) (fun hc8 => ?_) (fun hc8 => ?_)
    · rw [if_neg hc8] at h
      refine tc_iload 1 rfl dX12_otherOf_40 ?_
      refine tc_lvs [] rfl ?_
      exact sb_X12_otherOf_42 hW r ur  x1 u5  h
    · rw [if_pos hc8] at h
      refine tc_iload 0 rfl dX12_otherOf_35 ?_
      refine tc_goto 42 dX12_otherOf_37 (by decide) ?_
      refine tc_lvs [] rfl ?_
      exact sb_X12_otherOf_42 hW r ur  x4 u5  h
  · rw [if_pos hc7] at h
    refine tc_iconst (v := (-1)) (by decide) dX12_otherOf_25 ?_
    refine tc_goto 42 dX12_otherOf_26 (by decide) ?_
    refine tc_lvs [] rfl ?_
    exact sb_X12_otherOf_42 hW r ur  (-1) u5  h
set_option maxRecDepth 100000 in
set_option maxHeartbeats 4000000 in
theorem sb_X12_cell_30 {p : Program} {l : Launch} {e : Env} {s : State} {m : MethodId} {args : Array Value} {below : List Frame} {meth : Method} {c : Code} {z : Nat} {D : tc_D} {G : tc_G} (hW : tc_W G) (r : Int32) (ur : tc_S) (s0 : Int32) (u : tc_S) (h : bl_X12_cell_30 G s0 u = some (r, ur)) : tc_R p l e { frames := 0, cells := 0, slots := 0, locals := 0 } s m args below meth c z D cX12_cell RX12 3 (some .int) 0 0 (tc_po r G ur) 0 0 G u 30 [] [.int s0] := by
  unfold bl_X12_cell_30 at h
  cases h
  exact tc_ireturn rfl dX12_cell_30 rfl rfl ⟨rfl, rfl, rfl⟩
set_option maxRecDepth 100000 in
set_option maxHeartbeats 4000000 in
theorem ct_X12_cell {l : Launch} {z : Nat} {D : tc_D} {G : tc_G} (hW : tc_W G) {v0 : Int32} {v1 : Int32} {v2 : Int32} {u : tc_S} {r : Int32} {ur : tc_S} (h : fn_X12_cell G v0 v1 v2 u = some (r, ur)) : tc_C l z D yX12_cell cX12_cell 3 (some .int) 0 0 0 0 [.int v0, .int v1, .int v2] G u (tc_po r G ur) := by
  unfold fn_X12_cell at h
  refine tc_C.of (by decide) (Nat.le_of_ble_eq_true rfl) fun p e s m args below meth c => ?_
  show tc_R p l e { frames := 0, cells := 0, slots := 0, locals := 0 } s m args below meth c z D cX12_cell RX12 3 (some .int) 0 0 (tc_po r G ur) 0 0 G u 0 [(0, .int v0), (1, .int v1), (2, .int v2)] []
  refine tc_iload_n 1 rfl dX12_cell_0 ?_
  refine tc_bipush (v := 100) (by decide) dX12_cell_1 ?_
  refine tc_icmp_ne 18 dX12_cell_3 (by decide) (fun hc1 => ?_) (fun hc1 => ?_)
  · rw [if_neg hc1] at h
    refine tc_iload_n 0 rfl dX12_cell_18 ?_
    refine tc_bipush (v := 20) (by decide) dX12_cell_19 ?_
    refine tc_iadd dX12_cell_21 ?_
    refine tc_iconst (v := 4) (by decide) dX12_cell_22 ?_
    refine tc_iconst (v := 4) (by decide) dX12_cell_23 ?_
    refine tc_iload_n 1 rfl dX12_cell_24 ?_
    refine tc_imul dX12_cell_25 ?_
    refine tc_iload_n 2 rfl dX12_cell_26 ?_
    refine tc_iadd dX12_cell_27 ?_
    refine tc_imul dX12_cell_28 ?_
    refine tc_iadd dX12_cell_29 ?_
    refine tc_lvs [] rfl ?_
    exact sb_X12_cell_30 hW r ur  ((v0 + 20) + (4 * ((4 * v1) + v2))) u  h
  · rw [if_pos hc1] at h
    refine tc_iload_n 0 rfl dX12_cell_6 ?_
    refine tc_sipush (v := 276) (by decide) dX12_cell_7 ?_
    refine tc_iadd dX12_cell_10 ?_
    refine tc_iconst (v := 4) (by decide) dX12_cell_11 ?_
    refine tc_iload_n 2 rfl dX12_cell_12 ?_
    refine tc_imul dX12_cell_13 ?_
    refine tc_iadd dX12_cell_14 ?_
    refine tc_goto 30 dX12_cell_15 (by decide) ?_
    refine tc_lvs [] rfl ?_
    exact sb_X12_cell_30 hW r ur  ((v0 + 276) + (4 * v2)) u  h
set_option maxRecDepth 100000 in
set_option maxHeartbeats 4000000 in
theorem sb_X12_isEntry_14 {p : Program} {l : Launch} {e : Env} {s : State} {m : MethodId} {args : Array Value} {below : List Frame} {meth : Method} {c : Code} {z : Nat} {D : tc_D} {G : tc_G} (hW : tc_W G) (r : Int32) (ur : tc_S) (s0 : Int32) (u : tc_S) (h : bl_X12_isEntry_14 G s0 u = some (r, ur)) : tc_R p l e { frames := 0, cells := 0, slots := 0, locals := 0 } s m args below meth c z D cX12_isEntry RX12 2 (some .boolean) 0 0 (tc_po r G ur) 0 0 G u 14 [] [.int s0] := by
  unfold bl_X12_isEntry_14 at h
  obtain ⟨hz1, h⟩ := tc_zo_ex h
  cases h
  exact tc_zreturn hz1 rfl dX12_isEntry_14 rfl rfl ⟨rfl, rfl, rfl⟩
set_option maxRecDepth 100000 in
set_option maxHeartbeats 4000000 in
theorem ct_X12_isEntry {l : Launch} {z : Nat} {D : tc_D} {G : tc_G} (hW : tc_W G) {v0 : Nat} {v1 : Int32} {u : tc_S} {r : Int32} {ur : tc_S} (iv0 : tc_is G v0 12) (h : fn_X12_isEntry G v0 v1 u = some (r, ur)) : tc_C l z D yX12_isEntry cX12_isEntry 2 (some .boolean) 0 0 0 0 [.ref (z + v0), .int v1] G u (tc_po r G ur) := by
  unfold fn_X12_isEntry at h
  refine tc_C.of (by decide) (Nat.le_of_ble_eq_true rfl) fun p e s m args below meth c => ?_
  show tc_R p l e { frames := 0, cells := 0, slots := 0, locals := 0 } s m args below meth c z D cX12_isEntry RX12 2 (some .boolean) 0 0 (tc_po r G ur) 0 0 G u 0 [(0, .ref (z + v0)), (1, .int v1)] []
  refine tc_aload_n 0 rfl dX12_isEntry_0 ?_
  refine tc_getp hW iv0 fl_X12_7 dX12_isEntry_1 rfl ?_
  refine tc_iload_n 1 rfl dX12_isEntry_4 ?_
  obtain ⟨bx2, x2, ex2, h⟩ := tc_ld_ex h
  refine tc_iald (hW.p iv0 0 rfl).1 bx2 dX12_isEntry_5 ?_
  refine tc_nm ex2 ?_
  refine tc_if_le 13 dX12_isEntry_6 (by decide) (fun hc3 => ?_) (fun hc3 => ?_)
  · rw [if_pos hc3] at h
    refine tc_iconst (v := 0) (by decide) dX12_isEntry_13 ?_
    refine tc_lvs [] rfl ?_
    exact sb_X12_isEntry_14 hW r ur  0 u  h
  · rw [if_neg hc3] at h
    refine tc_iconst (v := 1) (by decide) dX12_isEntry_9 ?_
    refine tc_goto 14 dX12_isEntry_10 (by decide) ?_
    refine tc_lvs [] rfl ?_
    exact sb_X12_isEntry_14 hW r ur  1 u  h
set_option maxRecDepth 100000 in
set_option maxHeartbeats 4000000 in
theorem ct_X12_keyOf {l : Launch} {z : Nat} {D : tc_D} {G : tc_G} (hW : tc_W G) {v0 : Nat} {v1 : Int32} {u : tc_S} {r : Int32} {ur : tc_S} (iv0 : tc_is G v0 12) (h : fn_X12_keyOf G v0 v1 u = some (r, ur)) : tc_C l z D yX12_keyOf cX12_keyOf 2 (some .int) 0 0 0 0 [.ref (z + v0), .int v1] G u (tc_po r G ur) := by
  unfold fn_X12_keyOf at h
  refine tc_C.of (by decide) (Nat.le_of_ble_eq_true rfl) fun p e s m args below meth c => ?_
  show tc_R p l e { frames := 0, cells := 0, slots := 0, locals := 0 } s m args below meth c z D cX12_keyOf RX12 2 (some .int) 0 0 (tc_po r G ur) 0 0 G u 0 [(0, .ref (z + v0)), (1, .int v1)] []
  refine tc_aload_n 0 rfl dX12_keyOf_0 ?_
  refine tc_getp hW iv0 fl_X12_7 dX12_keyOf_1 rfl ?_
  refine tc_iload_n 1 rfl dX12_keyOf_4 ?_
  obtain ⟨bx1, x1, ex1, h⟩ := tc_ld_ex h
  refine tc_iald (hW.p iv0 0 rfl).1 bx1 dX12_keyOf_5 ?_
  refine tc_nm ex1 ?_
  refine tc_iconst (v := 1) (by decide) dX12_keyOf_6 ?_
  refine tc_isub dX12_keyOf_7 ?_
  cases h
  exact tc_ireturn rfl dX12_keyOf_8 rfl rfl ⟨rfl, rfl, rfl⟩
set_option maxRecDepth 100000 in
set_option maxHeartbeats 4000000 in
theorem sl_X12_emptyIn_2 {p : Program} {l : Launch} {e : Env} {s : State} {m : MethodId} {args : Array Value} {below : List Frame} {meth : Method} {c : Code} {z : Nat} {D : tc_D} {G : tc_G} (hW : tc_W G) (r : Int32) (ur : tc_S) : ∀ (n : Nat) (v0 : Nat) (v1 : Int32) (v2 : Int32) (v3 : Int32) (u : tc_S) (iv0 : tc_is G v0 12) (h : lo_X12_emptyIn_2 G n v0 v1 v2 v3 u = some (r, ur)), tc_R p l e { frames := 1, cells := 0, slots := 0, locals := 22 } s m args below meth c z D cX12_emptyIn RX12 4 (some .int) 0 0 (tc_po r G ur) 0 0 G u 2 [(0, .ref (z + v0)), (1, .int v1), (2, .int v2), (3, .int v3)] [] := by
  intro n
  induction n with
  | zero => intro v0 v1 v2 v3 u iv0 h; cases h
  | succ n ih =>
    intro v0 v1 v2 v3 u iv0 h
    rw [lo_X12_emptyIn_2] at h
    refine tc_iload_n 3 rfl dX12_emptyIn_2 ?_
    refine tc_aload_n 0 rfl dX12_emptyIn_3 ?_
    refine tc_getp hW iv0 fl_X12_7 dX12_emptyIn_4 rfl ?_
    refine tc_iload_n 1 rfl dX12_emptyIn_7 ?_
    refine tc_iconst (v := 1) (by decide) dX12_emptyIn_8 ?_
    refine tc_iadd dX12_emptyIn_9 ?_
    obtain ⟨bx1, x1, ex1, h⟩ := tc_ld_ex h
    refine tc_iald (hW.p iv0 0 rfl).1 bx1 dX12_emptyIn_10 ?_
    refine tc_nm ex1 ?_
    refine tc_icmp_ge 35 dX12_emptyIn_11 (by decide) (fun hc2 => ?_) (fun hc2 => ?_)
    · rw [if_pos hc2] at h
      refine tc_iconst (v := (-1)) (by decide) dX12_emptyIn_35 ?_
      cases h
      exact tc_ireturn rfl dX12_emptyIn_36 rfl rfl ⟨rfl, rfl, rfl⟩
    · rw [if_neg hc2] at h
      refine tc_aload_n 0 rfl dX12_emptyIn_14 ?_
      refine tc_iload_n 1 rfl dX12_emptyIn_15 ?_
      refine tc_iload_n 2 rfl dX12_emptyIn_16 ?_
      refine tc_iload_n 3 rfl dX12_emptyIn_17 ?_
      obtain ⟨x3, u4, hq5, h⟩ := tc_b_ex h
      refine tc_callSi [.int v1, .int v2, .int v3] dX12_emptyIn_18 (ct_X12_cell hW hq5) ml_X12_92 mw_X12_cell ms_X12_cell ⟨Nat.le_of_ble_eq_true rfl, Nat.le_of_ble_eq_true rfl⟩ rfl rfl (Nat.le_of_ble_eq_true rfl) ⟨Nat.le_refl _, Nat.le_refl _⟩ ?_
      obtain ⟨x6, u7, hq8, h⟩ := tc_b_ex h
      refine tc_callVi [.int x3] dX12_emptyIn_21 iv0.1 (ct_X12_isEntry hW iv0 hq8) ml_X12_95 mw_X12_isEntry mv_X12_isEntry ⟨Nat.le_of_ble_eq_true rfl, Nat.le_of_ble_eq_true rfl⟩ rfl rfl (Nat.le_of_ble_eq_true rfl) ⟨Nat.le_refl _, Nat.le_refl _⟩ (by decide) ?_
      refine tc_if_ne 29 dX12_emptyIn_24 (by decide) (fun hc9 => ?_) (fun hc9 => ?_)
      · rw [if_neg hc9] at h
        obtain ⟨x10, ex10, h⟩ := tc_let_ex h
        refine tc_iinc 3 (v := x10) [(3, .int x10), (0, .ref (z + v0)), (1, .int v1), (2, .int v2)] dX12_emptyIn_29 rfl (by rw [ex10]; rfl) (by decide) rfl ?_
        refine tc_goto 2 dX12_emptyIn_32 (by decide) ?_
        refine tc_lvs [1, 2, 3, 0] rfl ?_
        exact ih v0 v1 v2 x10 u7 iv0 h
      · rw [if_pos hc9] at h
        refine tc_iload_n 3 rfl dX12_emptyIn_27 ?_
        cases h
        exact tc_ireturn rfl dX12_emptyIn_28 rfl rfl ⟨rfl, rfl, rfl⟩
set_option maxRecDepth 100000 in
set_option maxHeartbeats 4000000 in
theorem ct_X12_emptyIn {l : Launch} {z : Nat} {D : tc_D} {G : tc_G} (hW : tc_W G) {v0 : Nat} {v1 : Int32} {v2 : Int32} {u : tc_S} {r : Int32} {ur : tc_S} (iv0 : tc_is G v0 12) (h : fn_X12_emptyIn G v0 v1 v2 u = some (r, ur)) : tc_C l z D yX12_emptyIn cX12_emptyIn 4 (some .int) 1 22 0 0 [.ref (z + v0), .int v1, .int v2] G u (tc_po r G ur) := by
  unfold fn_X12_emptyIn at h
  refine tc_C.of (by decide) (Nat.le_of_ble_eq_true rfl) fun p e s m args below meth c => ?_
  show tc_R p l e { frames := 1, cells := 0, slots := 0, locals := 22 } s m args below meth c z D cX12_emptyIn RX12 4 (some .int) 0 0 (tc_po r G ur) 0 0 G u 0 [(0, .ref (z + v0)), (1, .int v1), (2, .int v2)] []
  refine tc_iconst (v := 0) (by decide) dX12_emptyIn_0 ?_
  refine tc_istore_n [(3, .int 0), (0, .ref (z + v0)), (1, .int v1), (2, .int v2)] dX12_emptyIn_1 (by decide) rfl ?_
  refine tc_lvs [1, 2, 3, 0] rfl ?_
  exact sl_X12_emptyIn_2 hW r ur  _ v0 v1 v2 0 u iv0 h
set_option maxRecDepth 100000 in
set_option maxHeartbeats 4000000 in
theorem sb_X12_inBucket_38 {p : Program} {l : Launch} {e : Env} {s : State} {m : MethodId} {args : Array Value} {below : List Frame} {meth : Method} {c : Code} {z : Nat} {D : tc_D} {G : tc_G} (hW : tc_W G) (r : Int32) (ur : tc_S) (K5 : Nat → Int32 → Int32 → Int32 → Int32 → tc_S → Option (Int32 × tc_S)) (hK5 : ∀ (v0 : Nat) (v1 : Int32) (v2 : Int32) (v3 : Int32) (v4 : Int32) (u : tc_S), tc_is G v0 12 → K5 v0 v1 v2 v3 v4 u = some (r, ur) → tc_R p l e { frames := 1, cells := 0, slots := 0, locals := 22 } s m args below meth c z D cX12_inBucket RX12 5 (some .int) 0 0 (tc_po r G ur) 0 0 G u 5 [(0, .ref (z + v0)), (1, .int v1), (2, .int v2), (3, .int v3), (4, .int v4)] []) (v0 : Nat) (v1 : Int32) (v2 : Int32) (v4 : Int32) (s0 : Int32) (s1 : Int32) (u : tc_S) (iv0 : tc_is G v0 12) (h : bl_X12_inBucket_38 G K5 v0 v1 v2 v4 s0 s1 u = some (r, ur)) : tc_R p l e { frames := 1, cells := 0, slots := 0, locals := 22 } s m args below meth c z D cX12_inBucket RX12 5 (some .int) 0 0 (tc_po r G ur) 0 0 G u 38 [(0, .ref (z + v0)), (1, .int v1), (2, .int v2), (4, .int v4)] [.int s1, .int s0] := by
  unfold bl_X12_inBucket_38 at h
  refine tc_iadd dX12_inBucket_38 ?_
  obtain ⟨x1, ex1, h⟩ := tc_let_ex h
  refine tc_nm ex1 ?_
  refine tc_istore_n [(3, .int x1), (0, .ref (z + v0)), (1, .int v1), (2, .int v2), (4, .int v4)] dX12_inBucket_39 (by decide) rfl ?_
  obtain ⟨x2, ex2, h⟩ := tc_let_ex h
  refine tc_iinc 4 (v := x2) [(4, .int x2), (3, .int x1), (0, .ref (z + v0)), (1, .int v1), (2, .int v2)] dX12_inBucket_40 rfl (by rw [ex2]; rfl) (by decide) rfl ?_
  refine tc_goto 5 dX12_inBucket_43 (by decide) ?_
  refine tc_lvs [2, 3, 4, 1, 0] rfl ?_
  exact hK5 v0 v1 v2 x1 x2 u iv0 h
set_option maxRecDepth 100000 in
set_option maxHeartbeats 4000000 in
theorem sl_X12_inBucket_5 {p : Program} {l : Launch} {e : Env} {s : State} {m : MethodId} {args : Array Value} {below : List Frame} {meth : Method} {c : Code} {z : Nat} {D : tc_D} {G : tc_G} (hW : tc_W G) (r : Int32) (ur : tc_S) : ∀ (n : Nat) (v0 : Nat) (v1 : Int32) (v2 : Int32) (v3 : Int32) (v4 : Int32) (u : tc_S) (iv0 : tc_is G v0 12) (h : lo_X12_inBucket_5 G n v0 v1 v2 v3 v4 u = some (r, ur)), tc_R p l e { frames := 1, cells := 0, slots := 0, locals := 22 } s m args below meth c z D cX12_inBucket RX12 5 (some .int) 0 0 (tc_po r G ur) 0 0 G u 5 [(0, .ref (z + v0)), (1, .int v1), (2, .int v2), (3, .int v3), (4, .int v4)] [] := by
  intro n
  induction n with
  | zero => intro v0 v1 v2 v3 v4 u iv0 h; cases h
  | succ n ih =>
    intro v0 v1 v2 v3 v4 u iv0 h
    rw [lo_X12_inBucket_5] at h
    refine tc_iload 4 rfl dX12_inBucket_5 ?_
    refine tc_aload_n 0 rfl dX12_inBucket_7 ?_
    refine tc_getp hW iv0 fl_X12_7 dX12_inBucket_8 rfl ?_
    refine tc_iload_n 1 rfl dX12_inBucket_11 ?_
    refine tc_iconst (v := 1) (by decide) dX12_inBucket_12 ?_
    refine tc_iadd dX12_inBucket_13 ?_
    obtain ⟨bx3, x3, ex3, h⟩ := tc_ld_ex h
    refine tc_iald (hW.p iv0 0 rfl).1 bx3 dX12_inBucket_14 ?_
    refine tc_nm ex3 ?_
    refine tc_icmp_ge 46 dX12_inBucket_15 (by decide) (fun hc4 => ?_) (fun hc4 => ?_)
    · rw [if_pos hc4] at h
      refine tc_iload_n 3 rfl dX12_inBucket_46 ?_
      cases h
      exact tc_ireturn rfl dX12_inBucket_47 rfl rfl ⟨rfl, rfl, rfl⟩
    · rw [if_neg hc4] at h
      refine tc_iload_n 3 rfl dX12_inBucket_18 ?_
      refine tc_aload_n 0 rfl dX12_inBucket_19 ?_
      refine tc_iload_n 1 rfl dX12_inBucket_20 ?_
      refine tc_iload_n 2 rfl dX12_inBucket_21 ?_
      refine tc_iload 4 rfl dX12_inBucket_22 ?_
      obtain ⟨x5, u6, hq7, h⟩ := tc_b_ex h
      refine tc_callSi [.int v1, .int v2, .int v4] dX12_inBucket_24 (ct_X12_cell hW hq7) ml_X12_92 mw_X12_cell ms_X12_cell ⟨Nat.le_of_ble_eq_true rfl, Nat.le_of_ble_eq_true rfl⟩ rfl rfl (Nat.le_of_ble_eq_true rfl) ⟨Nat.le_refl _, Nat.le_refl _⟩ ?_
      obtain ⟨x8, u9, hq10, h⟩ := tc_b_ex h
      refine tc_callVi [.int x5] dX12_inBucket_27 iv0.1 (ct_X12_isEntry hW iv0 hq10) ml_X12_95 mw_X12_isEntry mv_X12_isEntry ⟨Nat.le_of_ble_eq_true rfl, Nat.le_of_ble_eq_true rfl⟩ rfl rfl (Nat.le_of_ble_eq_true rfl) ⟨Nat.le_refl _, Nat.le_refl _⟩ (by decide) ?_
      refine tc_if_eq 37 dX12_inBucket_30 (by decide) (fun hc11 => ?_) (fun hc11 => ?_)
      · rw [if_pos hc11] at h
        refine tc_iconst (v := 0) (by decide) dX12_inBucket_37 ?_
        refine tc_lvs [0, 1, 2, 4] rfl ?_
        exact sb_X12_inBucket_38 hW r ur _ ih v0 v1 v2 v4 v3 0 u9 iv0 h
      · rw [if_neg hc11] at h
        refine tc_iconst (v := 1) (by decide) dX12_inBucket_33 ?_
        refine tc_goto 38 dX12_inBucket_34 (by decide) ?_
        refine tc_lvs [0, 1, 2, 4] rfl ?_
        exact sb_X12_inBucket_38 hW r ur _ ih v0 v1 v2 v4 v3 1 u9 iv0 h
set_option maxRecDepth 100000 in
set_option maxHeartbeats 4000000 in
theorem ct_X12_inBucket {l : Launch} {z : Nat} {D : tc_D} {G : tc_G} (hW : tc_W G) {v0 : Nat} {v1 : Int32} {v2 : Int32} {u : tc_S} {r : Int32} {ur : tc_S} (iv0 : tc_is G v0 12) (h : fn_X12_inBucket G v0 v1 v2 u = some (r, ur)) : tc_C l z D yX12_inBucket cX12_inBucket 5 (some .int) 1 22 0 0 [.ref (z + v0), .int v1, .int v2] G u (tc_po r G ur) := by
  unfold fn_X12_inBucket at h
  refine tc_C.of (by decide) (Nat.le_of_ble_eq_true rfl) fun p e s m args below meth c => ?_
  show tc_R p l e { frames := 1, cells := 0, slots := 0, locals := 22 } s m args below meth c z D cX12_inBucket RX12 5 (some .int) 0 0 (tc_po r G ur) 0 0 G u 0 [(0, .ref (z + v0)), (1, .int v1), (2, .int v2)] []
  refine tc_iconst (v := 0) (by decide) dX12_inBucket_0 ?_
  refine tc_istore_n [(3, .int 0), (0, .ref (z + v0)), (1, .int v1), (2, .int v2)] dX12_inBucket_1 (by decide) rfl ?_
  refine tc_iconst (v := 0) (by decide) dX12_inBucket_2 ?_
  refine tc_istore [(4, .int 0), (3, .int 0), (0, .ref (z + v0)), (1, .int v1), (2, .int v2)] dX12_inBucket_3 (by decide) rfl ?_
  refine tc_lvs [2, 3, 4, 1, 0] rfl ?_
  exact sl_X12_inBucket_5 hW r ur  _ v0 v1 v2 0 0 u iv0 h
set_option maxRecDepth 100000 in
set_option maxHeartbeats 4000000 in
theorem sl_X12_moves_2 {p : Program} {l : Launch} {e : Env} {s : State} {m : MethodId} {args : Array Value} {below : List Frame} {meth : Method} {c : Code} {z : Nat} {D : tc_D} {G : tc_G} (hW : tc_W G) (r : Int32) (ur : tc_S) : ∀ (n : Nat) (v0 : Nat) (v1 : Int32) (v2 : Int32) (v3 : Int32) (u : tc_S) (iv0 : tc_is G v0 12) (h : lo_X12_moves_2 G n v0 v1 v2 v3 u = some (r, ur)), tc_R p l e { frames := 0, cells := 0, slots := 0, locals := 0 } s m args below meth c z D cX12_moves RX12 4 none 0 0 (tc_pv G ur) 0 0 G u 2 [(0, .ref (z + v0)), (1, .int v1), (2, .int v2), (3, .int v3)] [] := by
  intro n
  induction n with
  | zero => intro v0 v1 v2 v3 u iv0 h; cases h
  | succ n ih =>
    intro v0 v1 v2 v3 u iv0 h
    rw [lo_X12_moves_2] at h
    refine tc_iload_n 3 rfl dX12_moves_2 ?_
    refine tc_iconst (v := 4) (by decide) dX12_moves_3 ?_
    refine tc_icmp_ge 38 dX12_moves_4 (by decide) (fun hc1 => ?_) (fun hc1 => ?_)
    · rw [if_pos hc1] at h
      refine tc_aload_n 0 rfl dX12_moves_38 ?_
      refine tc_getp hW iv0 fl_X12_7 dX12_moves_39 rfl ?_
      refine tc_iload_n 2 rfl dX12_moves_42 ?_
      refine tc_iconst (v := 3) (by decide) dX12_moves_43 ?_
      refine tc_iadd dX12_moves_44 ?_
      refine tc_dup2 rfl rfl dX12_moves_45 ?_
      obtain ⟨bx2, x2, ex2, h⟩ := tc_ld_ex h
      refine tc_iald (hW.p iv0 0 rfl).1 bx2 dX12_moves_46 ?_
      refine tc_nm ex2 ?_
      refine tc_iconst (v := 1) (by decide) dX12_moves_47 ?_
      refine tc_iadd dX12_moves_48 ?_
      obtain ⟨bu3, u3, eu3, h⟩ := tc_sd_ex h
      refine tc_iast (hW.p iv0 0 rfl).1 bu3 dX12_moves_49 ?_
      refine tc_nmu eu3 ?_
      cases h
      exact tc_return rfl dX12_moves_50 rfl rfl ⟨rfl, rfl, rfl⟩
    · rw [if_neg hc1] at h
      refine tc_aload_n 0 rfl dX12_moves_7 ?_
      refine tc_getp hW iv0 fl_X12_7 dX12_moves_8 rfl ?_
      refine tc_iload_n 2 rfl dX12_moves_11 ?_
      refine tc_iload_n 3 rfl dX12_moves_12 ?_
      refine tc_iadd dX12_moves_13 ?_
      refine tc_aload_n 0 rfl dX12_moves_14 ?_
      refine tc_getp hW iv0 fl_X12_7 dX12_moves_15 rfl ?_
      refine tc_iload_n 1 rfl dX12_moves_18 ?_
      refine tc_iload_n 3 rfl dX12_moves_19 ?_
      refine tc_iadd dX12_moves_20 ?_
      obtain ⟨bx4, x4, ex4, h⟩ := tc_ld_ex h
      refine tc_iald (hW.p iv0 0 rfl).1 bx4 dX12_moves_21 ?_
      refine tc_nm ex4 ?_
      obtain ⟨bu5, u5, eu5, h⟩ := tc_sd_ex h
      refine tc_iast (hW.p iv0 0 rfl).1 bu5 dX12_moves_22 ?_
      refine tc_nmu eu5 ?_
      refine tc_aload_n 0 rfl dX12_moves_23 ?_
      refine tc_getp hW iv0 fl_X12_7 dX12_moves_24 rfl ?_
      refine tc_iload_n 1 rfl dX12_moves_27 ?_
      refine tc_iload_n 3 rfl dX12_moves_28 ?_
      refine tc_iadd dX12_moves_29 ?_
      refine tc_iconst (v := 0) (by decide) dX12_moves_30 ?_
      obtain ⟨bu6, u6, eu6, h⟩ := tc_sd_ex h
      refine tc_iast (hW.p iv0 0 rfl).1 bu6 dX12_moves_31 ?_
      refine tc_nmu eu6 ?_
      obtain ⟨x7, ex7, h⟩ := tc_let_ex h
      refine tc_iinc 3 (v := x7) [(3, .int x7), (0, .ref (z + v0)), (1, .int v1), (2, .int v2)] dX12_moves_32 rfl (by rw [ex7]; rfl) (by decide) rfl ?_
      refine tc_goto 2 dX12_moves_35 (by decide) ?_
      refine tc_lvs [1, 2, 3, 0] rfl ?_
      exact ih v0 v1 v2 x7 u6 iv0 h
set_option maxRecDepth 100000 in
set_option maxHeartbeats 4000000 in
theorem ct_X12_moves {l : Launch} {z : Nat} {D : tc_D} {G : tc_G} (hW : tc_W G) {v0 : Nat} {v1 : Int32} {v2 : Int32} {u : tc_S} {r : Int32} {ur : tc_S} (iv0 : tc_is G v0 12) (h : fn_X12_moves G v0 v1 v2 u = some (r, ur)) : tc_C l z D yX12_moves cX12_moves 4 none 0 0 0 0 [.ref (z + v0), .int v1, .int v2] G u (tc_pv G ur) := by
  unfold fn_X12_moves at h
  refine tc_C.of (by decide) (Nat.le_of_ble_eq_true rfl) fun p e s m args below meth c => ?_
  show tc_R p l e { frames := 0, cells := 0, slots := 0, locals := 0 } s m args below meth c z D cX12_moves RX12 4 none 0 0 (tc_pv G ur) 0 0 G u 0 [(0, .ref (z + v0)), (1, .int v1), (2, .int v2)] []
  refine tc_iconst (v := 0) (by decide) dX12_moves_0 ?_
  refine tc_istore_n [(3, .int 0), (0, .ref (z + v0)), (1, .int v1), (2, .int v2)] dX12_moves_1 (by decide) rfl ?_
  refine tc_lvs [1, 2, 3, 0] rfl ?_
  exact sl_X12_moves_2 hW r ur  _ v0 v1 v2 0 u iv0 h
set_option maxRecDepth 100000 in
set_option maxHeartbeats 4000000 in
theorem ct_X12_lays {l : Launch} {z : Nat} {D : tc_D} {G : tc_G} (hW : tc_W G) {v0 : Nat} {v1 : Int32} {v2 : Int32} {v3 : Int32} {v4 : Int32} {v5 : Int32} {u : tc_S} {r : Int32} {ur : tc_S} (iv0 : tc_is G v0 12) (h : fn_X12_lays G v0 v1 v2 v3 v4 v5 u = some (r, ur)) : tc_C l z D yX12_lays cX12_lays 6 none 0 0 0 0 [.ref (z + v0), .int v1, .int v2, .int v3, .int v4, .int v5] G u (tc_pv G ur) := by
  unfold fn_X12_lays at h
  refine tc_C.of (by decide) (Nat.le_of_ble_eq_true rfl) fun p e s m args below meth c => ?_
  show tc_R p l e { frames := 0, cells := 0, slots := 0, locals := 0 } s m args below meth c z D cX12_lays RX12 6 none 0 0 (tc_pv G ur) 0 0 G u 0 [(0, .ref (z + v0)), (1, .int v1), (2, .int v2), (3, .int v3), (4, .int v4), (5, .int v5)] []
  refine tc_aload_n 0 rfl dX12_lays_0 ?_
  refine tc_getp hW iv0 fl_X12_7 dX12_lays_1 rfl ?_
  refine tc_iload_n 1 rfl dX12_lays_4 ?_
  refine tc_iload_n 2 rfl dX12_lays_5 ?_
  refine tc_iconst (v := 1) (by decide) dX12_lays_6 ?_
  refine tc_iadd dX12_lays_7 ?_
  obtain ⟨bu1, u1, eu1, h⟩ := tc_sd_ex h
  refine tc_iast (hW.p iv0 0 rfl).1 bu1 dX12_lays_8 ?_
  refine tc_nmu eu1 ?_
  refine tc_aload_n 0 rfl dX12_lays_9 ?_
  refine tc_getp hW iv0 fl_X12_7 dX12_lays_10 rfl ?_
  refine tc_iload_n 1 rfl dX12_lays_13 ?_
  refine tc_iconst (v := 1) (by decide) dX12_lays_14 ?_
  refine tc_iadd dX12_lays_15 ?_
  refine tc_iload_n 3 rfl dX12_lays_16 ?_
  obtain ⟨bu2, u2, eu2, h⟩ := tc_sd_ex h
  refine tc_iast (hW.p iv0 0 rfl).1 bu2 dX12_lays_17 ?_
  refine tc_nmu eu2 ?_
  refine tc_aload_n 0 rfl dX12_lays_18 ?_
  refine tc_getp hW iv0 fl_X12_7 dX12_lays_19 rfl ?_
  refine tc_iload_n 1 rfl dX12_lays_22 ?_
  refine tc_iconst (v := 2) (by decide) dX12_lays_23 ?_
  refine tc_iadd dX12_lays_24 ?_
  refine tc_iload 4 rfl dX12_lays_25 ?_
  obtain ⟨bu3, u3, eu3, h⟩ := tc_sd_ex h
  refine tc_iast (hW.p iv0 0 rfl).1 bu3 dX12_lays_27 ?_
  refine tc_nmu eu3 ?_
  refine tc_aload_n 0 rfl dX12_lays_28 ?_
  refine tc_getp hW iv0 fl_X12_7 dX12_lays_29 rfl ?_
  refine tc_iload_n 1 rfl dX12_lays_32 ?_
  refine tc_iconst (v := 3) (by decide) dX12_lays_33 ?_
  refine tc_iadd dX12_lays_34 ?_
  refine tc_iload 5 rfl dX12_lays_35 ?_
  obtain ⟨bu4, u4, eu4, h⟩ := tc_sd_ex h
  refine tc_iast (hW.p iv0 0 rfl).1 bu4 dX12_lays_37 ?_
  refine tc_nmu eu4 ?_
  cases h
  exact tc_return rfl dX12_lays_38 rfl rfl ⟨rfl, rfl, rfl⟩
set_option maxRecDepth 100000 in
set_option maxHeartbeats 4000000 in
theorem sl_X12_lies_74 {p : Program} {l : Launch} {e : Env} {s : State} {m : MethodId} {args : Array Value} {below : List Frame} {meth : Method} {c : Code} {z : Nat} {D : tc_D} {G : tc_G} (hW : tc_W G) (r : Int32) (ur : tc_S) : ∀ (n : Nat) (v0 : Nat) (v1 : Int32) (v2 : Int32) (v3 : Int32) (u : tc_S) (iv0 : tc_is G v0 12) (h : lo_X12_lies_74 G n v0 v1 v2 v3 u = some (r, ur)), tc_R p l e { frames := 1, cells := 0, slots := 0, locals := 23 } s m args below meth c z D cX12_lies RX12 6 (some .int) 0 0 (tc_po r G ur) 0 0 G u 74 [(0, .ref (z + v0)), (1, .int v1), (2, .int v2), (3, .int v3)] [] := by
  intro n
  induction n with
  | zero => intro v0 v1 v2 v3 u iv0 h; cases h
  | succ n ih =>
    intro v0 v1 v2 v3 u iv0 h
    rw [lo_X12_lies_74] at h
    refine tc_iload_n 3 rfl dX12_lies_74 ?_
    refine tc_aload_n 0 rfl dX12_lies_75 ?_
    refine tc_getp hW iv0 fl_X12_7 dX12_lies_76 rfl ?_
    refine tc_iload_n 1 rfl dX12_lies_79 ?_
    refine tc_bipush (v := 18) (by decide) dX12_lies_80 ?_
    refine tc_iadd dX12_lies_82 ?_
    obtain ⟨bx1, x1, ex1, h⟩ := tc_ld_ex h
    refine tc_iald (hW.p iv0 0 rfl).1 bx1 dX12_lies_83 ?_
    refine tc_nm ex1 ?_
    refine tc_icmp_ge 119 dX12_lies_84 (by decide) (fun hc2 => ?_) (fun hc2 => ?_)
    · rw [if_pos hc2] at h
      refine tc_iconst (v := (-1)) (by decide) dX12_lies_119 ?_
      cases h
      exact tc_ireturn rfl dX12_lies_120 rfl rfl ⟨rfl, rfl, rfl⟩
    · rw [if_neg hc2] at h
      refine tc_aload_n 0 rfl dX12_lies_87 ?_
      refine tc_getp hW iv0 fl_X12_7 dX12_lies_88 rfl ?_
      refine tc_iload_n 1 rfl dX12_lies_91 ?_
      refine tc_bipush (v := 100) (by decide) dX12_lies_92 ?_
      refine tc_iload_n 3 rfl dX12_lies_94 ?_
      obtain ⟨x3, u4, hq5, h⟩ := tc_b_ex h
      refine tc_callSi [.int v1, .int 100, .int v3] dX12_lies_95 (ct_X12_cell hW hq5) ml_X12_92 mw_X12_cell ms_X12_cell ⟨Nat.le_of_ble_eq_true rfl, Nat.le_of_ble_eq_true rfl⟩ rfl rfl (Nat.le_of_ble_eq_true rfl) ⟨Nat.le_refl _, Nat.le_refl _⟩ ?_
      obtain ⟨bx6, x6, ex6, h⟩ := tc_ld_ex h
      refine tc_iald (hW.p iv0 0 rfl).1 bx6 dX12_lies_98 ?_
      refine tc_nm ex6 ?_
      refine tc_iload_n 2 rfl dX12_lies_99 ?_
      refine tc_iconst (v := 1) (by decide) dX12_lies_100 ?_
      refine tc_iadd dX12_lies_101 ?_
      refine tc_icmp_ne 113 dX12_lies_102 (by decide) (fun hc7 => ?_) (fun hc7 => ?_)
      · rw [if_neg hc7] at h
        obtain ⟨x8, ex8, h⟩ := tc_let_ex h
        refine tc_iinc 3 (v := x8) [(3, .int x8), (0, .ref (z + v0)), (1, .int v1), (2, .int v2)] dX12_lies_113 rfl (by rw [ex8]; rfl) (by decide) rfl ?_
        refine tc_goto 74 dX12_lies_116 (by decide) ?_
        refine tc_lvs [1, 2, 3, 0] rfl ?_
        exact ih v0 v1 v2 x8 u4 iv0 h
      · rw [if_pos hc7] at h
        refine tc_iload_n 1 rfl dX12_lies_105 ?_
        refine tc_bipush (v := 100) (by decide) dX12_lies_106 ?_
        refine tc_iload_n 3 rfl dX12_lies_108 ?_
        obtain ⟨x9, u10, hq11, h⟩ := tc_b_ex h
        refine tc_callSi [.int v1, .int 100, .int v3] dX12_lies_109 (ct_X12_cell hW hq11) ml_X12_92 mw_X12_cell ms_X12_cell ⟨Nat.le_of_ble_eq_true rfl, Nat.le_of_ble_eq_true rfl⟩ rfl rfl (Nat.le_of_ble_eq_true rfl) ⟨Nat.le_refl _, Nat.le_refl _⟩ ?_
        cases h
        exact tc_ireturn rfl dX12_lies_112 rfl rfl ⟨rfl, rfl, rfl⟩
set_option maxRecDepth 100000 in
set_option maxHeartbeats 4000000 in
theorem sl_X12_lies_19 {p : Program} {l : Launch} {e : Env} {s : State} {m : MethodId} {args : Array Value} {below : List Frame} {meth : Method} {c : Code} {z : Nat} {D : tc_D} {G : tc_G} (hW : tc_W G) (r : Int32) (ur : tc_S) (K2 : Nat → Int32 → Int32 → Int32 → tc_S → Option (Int32 × tc_S)) (hK2 : ∀ (v0 : Nat) (v1 : Int32) (v2 : Int32) (v3 : Int32) (u : tc_S), tc_is G v0 12 → K2 v0 v1 v2 v3 u = some (r, ur) → tc_R p l e { frames := 1, cells := 0, slots := 0, locals := 23 } s m args below meth c z D cX12_lies RX12 6 (some .int) 0 0 (tc_po r G ur) 0 0 G u 2 [(0, .ref (z + v0)), (1, .int v1), (2, .int v2), (3, .int v3)] []) : ∀ (n : Nat) (v0 : Nat) (v1 : Int32) (v2 : Int32) (v3 : Int32) (v4 : Int32) (v5 : Int32) (u : tc_S) (iv0 : tc_is G v0 12) (h : lo_X12_lies_19 G K2 n v0 v1 v2 v3 v4 v5 u = some (r, ur)), tc_R p l e { frames := 1, cells := 0, slots := 0, locals := 23 } s m args below meth c z D cX12_lies RX12 6 (some .int) 0 0 (tc_po r G ur) 0 0 G u 19 [(0, .ref (z + v0)), (1, .int v1), (2, .int v2), (3, .int v3), (4, .int v4), (5, .int v5)] [] := by
  intro n
  induction n with
  | zero => intro v0 v1 v2 v3 v4 v5 u iv0 h; cases h
  | succ n ih =>
    intro v0 v1 v2 v3 v4 v5 u iv0 h
    rw [lo_X12_lies_19] at h
    refine tc_iload 5 rfl dX12_lies_19 ?_
    refine tc_aload_n 0 rfl dX12_lies_21 ?_
    refine tc_getp hW iv0 fl_X12_7 dX12_lies_22 rfl ?_
    refine tc_iload_n 1 rfl dX12_lies_25 ?_
    refine tc_iconst (v := 1) (by decide) dX12_lies_26 ?_
    refine tc_iadd dX12_lies_27 ?_
    obtain ⟨bx12, x12, ex12, h⟩ := tc_ld_ex h
    refine tc_iald (hW.p iv0 0 rfl).1 bx12 dX12_lies_28 ?_
    refine tc_nm ex12 ?_
    refine tc_icmp_ge 66 dX12_lies_29 (by decide) (fun hc13 => ?_) (fun hc13 => ?_)
    · rw [if_pos hc13] at h
      obtain ⟨x14, ex14, h⟩ := tc_let_ex h
      refine tc_iinc 3 (v := x14) [(3, .int x14), (0, .ref (z + v0)), (1, .int v1), (2, .int v2), (4, .int v4), (5, .int v5)] dX12_lies_66 rfl (by rw [ex14]; rfl) (by decide) rfl ?_
      refine tc_goto 2 dX12_lies_69 (by decide) ?_
      refine tc_lvs [1, 2, 3, 0] rfl ?_
      exact hK2 v0 v1 v2 x14 u iv0 h
    · rw [if_neg hc13] at h
      refine tc_aload_n 0 rfl dX12_lies_32 ?_
      refine tc_getp hW iv0 fl_X12_7 dX12_lies_33 rfl ?_
      refine tc_iload_n 1 rfl dX12_lies_36 ?_
      refine tc_iload 4 rfl dX12_lies_37 ?_
      refine tc_iload 5 rfl dX12_lies_39 ?_
      obtain ⟨x15, u16, hq17, h⟩ := tc_b_ex h
      refine tc_callSi [.int v1, .int v4, .int v5] dX12_lies_41 (ct_X12_cell hW hq17) ml_X12_92 mw_X12_cell ms_X12_cell ⟨Nat.le_of_ble_eq_true rfl, Nat.le_of_ble_eq_true rfl⟩ rfl rfl (Nat.le_of_ble_eq_true rfl) ⟨Nat.le_refl _, Nat.le_refl _⟩ ?_
      obtain ⟨bx18, x18, ex18, h⟩ := tc_ld_ex h
      refine tc_iald (hW.p iv0 0 rfl).1 bx18 dX12_lies_44 ?_
      refine tc_nm ex18 ?_
      refine tc_iload_n 2 rfl dX12_lies_45 ?_
      refine tc_iconst (v := 1) (by decide) dX12_lies_46 ?_
      refine tc_iadd dX12_lies_47 ?_
      refine tc_icmp_ne 60 dX12_lies_48 (by decide) (fun hc19 => ?_) (fun hc19 => ?_)
      · rw [if_neg hc19] at h
        obtain ⟨x20, ex20, h⟩ := tc_let_ex h
        refine tc_iinc 5 (v := x20) [(5, .int x20), (0, .ref (z + v0)), (1, .int v1), (2, .int v2), (3, .int v3), (4, .int v4)] dX12_lies_60 rfl (by rw [ex20]; rfl) (by decide) rfl ?_
        refine tc_goto 19 dX12_lies_63 (by decide) ?_
        refine tc_lvs [1, 2, 3, 4, 5, 0] rfl ?_
        exact ih v0 v1 v2 v3 v4 x20 u16 iv0 h
      · rw [if_pos hc19] at h
        refine tc_iload_n 1 rfl dX12_lies_51 ?_
        refine tc_iload 4 rfl dX12_lies_52 ?_
        refine tc_iload 5 rfl dX12_lies_54 ?_
        obtain ⟨x21, u22, hq23, h⟩ := tc_b_ex h
        refine tc_callSi [.int v1, .int v4, .int v5] dX12_lies_56 (ct_X12_cell hW hq23) ml_X12_92 mw_X12_cell ms_X12_cell ⟨Nat.le_of_ble_eq_true rfl, Nat.le_of_ble_eq_true rfl⟩ rfl rfl (Nat.le_of_ble_eq_true rfl) ⟨Nat.le_refl _, Nat.le_refl _⟩ ?_
        cases h
        exact tc_ireturn rfl dX12_lies_59 rfl rfl ⟨rfl, rfl, rfl⟩
set_option maxRecDepth 100000 in
set_option maxHeartbeats 4000000 in
theorem sl_X12_lies_2 {p : Program} {l : Launch} {e : Env} {s : State} {m : MethodId} {args : Array Value} {below : List Frame} {meth : Method} {c : Code} {z : Nat} {D : tc_D} {G : tc_G} (hW : tc_W G) (r : Int32) (ur : tc_S) : ∀ (n : Nat) (v0 : Nat) (v1 : Int32) (v2 : Int32) (v3 : Int32) (u : tc_S) (iv0 : tc_is G v0 12) (h : lo_X12_lies_2 G n v0 v1 v2 v3 u = some (r, ur)), tc_R p l e { frames := 1, cells := 0, slots := 0, locals := 23 } s m args below meth c z D cX12_lies RX12 6 (some .int) 0 0 (tc_po r G ur) 0 0 G u 2 [(0, .ref (z + v0)), (1, .int v1), (2, .int v2), (3, .int v3)] [] := by
  intro n
  induction n with
  | zero => intro v0 v1 v2 v3 u iv0 h; cases h
  | succ n ih =>
    intro v0 v1 v2 v3 u iv0 h
    rw [lo_X12_lies_2] at h
    refine tc_iload_n 3 rfl dX12_lies_2 ?_
    refine tc_iconst (v := 2) (by decide) dX12_lies_3 ?_
    refine tc_icmp_ge 72 dX12_lies_4 (by decide) (fun hc24 => ?_) (fun hc24 => ?_)
    · rw [if_pos hc24] at h
      refine tc_iconst (v := 0) (by decide) dX12_lies_72 ?_
      refine tc_istore_n [(3, .int 0), (0, .ref (z + v0)), (1, .int v1), (2, .int v2)] dX12_lies_73 (by decide) rfl ?_
      refine tc_lvs [1, 2, 3, 0] rfl ?_
      exact sl_X12_lies_74 hW r ur  _ v0 v1 v2 0 u iv0 h
    · rw [if_neg hc24] at h
      refine tc_aload_n 0 rfl dX12_lies_7 ?_
      refine tc_iload_n 1 rfl dX12_lies_8 ?_
      refine tc_iload_n 2 rfl dX12_lies_9 ?_
      refine tc_iload_n 3 rfl dX12_lies_10 ?_
      obtain ⟨x25, u26, hq27, h⟩ := tc_b_ex h
      refine tc_callVi [.int v1, .int v2, .int v3] dX12_lies_11 iv0.1 (ct_X12_hashOf hW iv0 hq27) ml_X12_88 mw_X12_hashOf mv_X12_hashOf ⟨Nat.le_of_ble_eq_true rfl, Nat.le_of_ble_eq_true rfl⟩ rfl rfl (Nat.le_of_ble_eq_true rfl) ⟨Nat.le_refl _, Nat.le_refl _⟩ (by decide) ?_
      refine tc_istore [(4, .int x25), (0, .ref (z + v0)), (1, .int v1), (2, .int v2), (3, .int v3)] dX12_lies_14 (by decide) rfl ?_
      refine tc_iconst (v := 0) (by decide) dX12_lies_16 ?_
      refine tc_istore [(5, .int 0), (4, .int x25), (0, .ref (z + v0)), (1, .int v1), (2, .int v2), (3, .int v3)] dX12_lies_17 (by decide) rfl ?_
      refine tc_lvs [2, 3, 4, 5, 1, 0] rfl ?_
      exact sl_X12_lies_19 hW r ur _ ih _ v0 v1 v2 v3 x25 0 u26 iv0 h
set_option maxRecDepth 100000 in
set_option maxHeartbeats 4000000 in
theorem ct_X12_lies {l : Launch} {z : Nat} {D : tc_D} {G : tc_G} (hW : tc_W G) {v0 : Nat} {v1 : Int32} {v2 : Int32} {u : tc_S} {r : Int32} {ur : tc_S} (iv0 : tc_is G v0 12) (h : fn_X12_lies G v0 v1 v2 u = some (r, ur)) : tc_C l z D yX12_lies cX12_lies 6 (some .int) 1 23 0 0 [.ref (z + v0), .int v1, .int v2] G u (tc_po r G ur) := by
  unfold fn_X12_lies at h
  refine tc_C.of (by decide) (Nat.le_of_ble_eq_true rfl) fun p e s m args below meth c => ?_
  show tc_R p l e { frames := 1, cells := 0, slots := 0, locals := 23 } s m args below meth c z D cX12_lies RX12 6 (some .int) 0 0 (tc_po r G ur) 0 0 G u 0 [(0, .ref (z + v0)), (1, .int v1), (2, .int v2)] []
  refine tc_iconst (v := 0) (by decide) dX12_lies_0 ?_
  refine tc_istore_n [(3, .int 0), (0, .ref (z + v0)), (1, .int v1), (2, .int v2)] dX12_lies_1 (by decide) rfl ?_
  refine tc_lvs [1, 2, 3, 0] rfl ?_
  exact sl_X12_lies_2 hW r ur  _ v0 v1 v2 0 u iv0 h
set_option maxRecDepth 100000 in
set_option maxHeartbeats 4000000 in
theorem sb_X12_laysAway_197 {p : Program} {l : Launch} {e : Env} {s : State} {m : MethodId} {args : Array Value} {below : List Frame} {meth : Method} {c : Code} {z : Nat} {D : tc_D} {G : tc_G} (hW : tc_W G) (r : Int32) (ur : tc_S) (K88 : Nat → Int32 → Int32 → Int32 → tc_S → Option (Int32 × tc_S)) (hK88 : ∀ (v0 : Nat) (v1 : Int32) (v3 : Int32) (v4 : Int32) (u : tc_S), tc_is G v0 12 → K88 v0 v1 v3 v4 u = some (r, ur) → tc_R p l e { frames := 2, cells := 0, slots := 0, locals := 48 } s m args below meth c z D cX12_laysAway RX12 9 none 0 0 (tc_pv G ur) 0 0 G u 88 [(0, .ref (z + v0)), (1, .int v1), (3, .int v3), (4, .int v4)] []) (K97 : Nat → Int32 → Int32 → Int32 → Int32 → tc_S → Option (Int32 × tc_S)) (hK97 : ∀ (v0 : Nat) (v1 : Int32) (v3 : Int32) (v4 : Int32) (v5 : Int32) (u : tc_S), tc_is G v0 12 → K97 v0 v1 v3 v4 v5 u = some (r, ur) → tc_R p l e { frames := 2, cells := 0, slots := 0, locals := 48 } s m args below meth c z D cX12_laysAway RX12 9 none 0 0 (tc_pv G ur) 0 0 G u 97 [(0, .ref (z + v0)), (1, .int v1), (3, .int v3), (4, .int v4), (5, .int v5)] []) (K106 : Nat → Int32 → Int32 → Int32 → Int32 → Int32 → tc_S → Option (Int32 × tc_S)) (hK106 : ∀ (v0 : Nat) (v1 : Int32) (v3 : Int32) (v4 : Int32) (v5 : Int32) (v6 : Int32) (u : tc_S), tc_is G v0 12 → K106 v0 v1 v3 v4 v5 v6 u = some (r, ur) → tc_R p l e { frames := 2, cells := 0, slots := 0, locals := 48 } s m args below meth c z D cX12_laysAway RX12 9 none 0 0 (tc_pv G ur) 0 0 G u 106 [(0, .ref (z + v0)), (1, .int v1), (3, .int v3), (4, .int v4), (5, .int v5), (6, .int v6)] []) (v0 : Nat) (v1 : Int32) (v3 : Int32) (v4 : Int32) (v5 : Int32) (v6 : Int32) (u : tc_S) (iv0 : tc_is G v0 12) (h : bl_X12_laysAway_197 G K88 K97 K106 v0 v1 v3 v4 v5 v6 u = some (r, ur)) : tc_R p l e { frames := 2, cells := 0, slots := 0, locals := 48 } s m args below meth c z D cX12_laysAway RX12 9 none 0 0 (tc_pv G ur) 0 0 G u 197 [(0, .ref (z + v0)), (1, .int v1), (3, .int v3), (4, .int v4), (5, .int v5), (6, .int v6)] [] := by
  unfold bl_X12_laysAway_197 at h
  obtain ⟨x1, ex1, h⟩ := tc_let_ex h
  refine tc_iinc 5 (v := x1) [(6, .int x1), (0, .ref (z + v0)), (1, .int v1), (3, .int v3), (4, .int v4), (5, .int v5)] dX12_laysAway_197 rfl (by rw [ex1]; rfl) (by decide) rfl ?_
  refine tc_goto 106 dX12_laysAway_200 (by decide) ?_
  refine tc_lvs [1, 2, 3, 4, 5, 0] rfl ?_
  exact hK106 v0 v1 v3 v4 v5 x1 u iv0 h
set_option maxRecDepth 100000 in
set_option maxHeartbeats 4000000 in
theorem sb_X12_laysAway_155 {p : Program} {l : Launch} {e : Env} {s : State} {m : MethodId} {args : Array Value} {below : List Frame} {meth : Method} {c : Code} {z : Nat} {D : tc_D} {G : tc_G} (hW : tc_W G) (r : Int32) (ur : tc_S) (K88 : Nat → Int32 → Int32 → Int32 → tc_S → Option (Int32 × tc_S)) (hK88 : ∀ (v0 : Nat) (v1 : Int32) (v3 : Int32) (v4 : Int32) (u : tc_S), tc_is G v0 12 → K88 v0 v1 v3 v4 u = some (r, ur) → tc_R p l e { frames := 2, cells := 0, slots := 0, locals := 48 } s m args below meth c z D cX12_laysAway RX12 9 none 0 0 (tc_pv G ur) 0 0 G u 88 [(0, .ref (z + v0)), (1, .int v1), (3, .int v3), (4, .int v4)] []) (K97 : Nat → Int32 → Int32 → Int32 → Int32 → tc_S → Option (Int32 × tc_S)) (hK97 : ∀ (v0 : Nat) (v1 : Int32) (v3 : Int32) (v4 : Int32) (v5 : Int32) (u : tc_S), tc_is G v0 12 → K97 v0 v1 v3 v4 v5 u = some (r, ur) → tc_R p l e { frames := 2, cells := 0, slots := 0, locals := 48 } s m args below meth c z D cX12_laysAway RX12 9 none 0 0 (tc_pv G ur) 0 0 G u 97 [(0, .ref (z + v0)), (1, .int v1), (3, .int v3), (4, .int v4), (5, .int v5)] []) (K106 : Nat → Int32 → Int32 → Int32 → Int32 → Int32 → tc_S → Option (Int32 × tc_S)) (hK106 : ∀ (v0 : Nat) (v1 : Int32) (v3 : Int32) (v4 : Int32) (v5 : Int32) (v6 : Int32) (u : tc_S), tc_is G v0 12 → K106 v0 v1 v3 v4 v5 v6 u = some (r, ur) → tc_R p l e { frames := 2, cells := 0, slots := 0, locals := 48 } s m args below meth c z D cX12_laysAway RX12 9 none 0 0 (tc_pv G ur) 0 0 G u 106 [(0, .ref (z + v0)), (1, .int v1), (3, .int v3), (4, .int v4), (5, .int v5), (6, .int v6)] []) (v0 : Nat) (v1 : Int32) (v3 : Int32) (v4 : Int32) (v5 : Int32) (v6 : Int32) (s0 : Int32) (u : tc_S) (iv0 : tc_is G v0 12) (h : bl_X12_laysAway_155 G K88 K97 K106 v0 v1 v3 v4 v5 v6 s0 u = some (r, ur)) : tc_R p l e { frames := 2, cells := 0, slots := 0, locals := 48 } s m args below meth c z D cX12_laysAway RX12 9 none 0 0 (tc_pv G ur) 0 0 G u 155 [(0, .ref (z + v0)), (1, .int v1), (3, .int v3), (4, .int v4), (5, .int v5), (6, .int v6)] [.int s0] := by
  unfold bl_X12_laysAway_155 at h
  refine tc_istore [(8, .int s0), (0, .ref (z + v0)), (1, .int v1), (3, .int v3), (4, .int v4), (5, .int v5), (6, .int v6)] dX12_laysAway_155 (by decide) rfl ?_
  refine tc_iload 0 rfl dX12_laysAway_157 ?_
  refine tc_if_lt 197 dX12_laysAway_159 (by decide) (fun hc2 => ?_) (fun hc2 => ?_)
  · rw [if_pos hc2] at h
    refine tc_lvs [1, 2, 3, 4, 5, 6] rfl ?_
    exact sb_X12_laysAway_197 hW r ur K88 hK88 K97 hK97 K106 hK106 v0 v1 v3 v4 v5 v6 u iv0 h
  · rw [if_neg hc2] at h
    refine tc_aload_n 1 rfl dX12_laysAway_162 ?_
    refine tc_getp hW iv0 fl_X12_24 dX12_laysAway_163 rfl ?_
    refine tc_iload 0 rfl dX12_laysAway_166 ?_
    obtain ⟨bx3, x3, ex3, h⟩ := tc_ld_ex h
    refine tc_iald (hW.p iv0 6 rfl).1 bx3 dX12_laysAway_168 ?_
    refine tc_nm ex3 ?_
    refine tc_iconst (v := 1) (by decide) dX12_laysAway_169 ?_
    refine tc_iadd dX12_laysAway_170 ?_
    refine tc_aload_n 1 rfl dX12_laysAway_171 ?_
    refine tc_getp hW iv0 fl_X12_24 dX12_laysAway_172 rfl ?_
    refine tc_iload 5 rfl dX12_laysAway_175 ?_
    obtain ⟨bx4, x4, ex4, h⟩ := tc_ld_ex h
    refine tc_iald (hW.p iv0 6 rfl).1 bx4 dX12_laysAway_177 ?_
    refine tc_nm ex4 ?_
    refine tc_icmp_ge 197 dX12_laysAway_178 (by decide) (fun hc5 => ?_) (fun hc5 => ?_)
    · rw [if_pos hc5] at h
      refine tc_lvs [1, 2, 3, 4, 5, 6] rfl ?_
      exact sb_X12_laysAway_197 hW r ur K88 hK88 K97 hK97 K106 hK106 v0 v1 v3 v4 v5 v6 u iv0 h
    · rw [if_neg hc5] at h
      refine tc_aload_n 1 rfl dX12_laysAway_181 ?_
      refine tc_getp hW iv0 fl_X12_24 dX12_laysAway_182 rfl ?_
      refine tc_iload 5 rfl dX12_laysAway_185 ?_
      refine tc_aload_n 1 rfl dX12_laysAway_187 ?_
      refine tc_getp hW iv0 fl_X12_24 dX12_laysAway_188 rfl ?_
      refine tc_iload 0 rfl dX12_laysAway_191 ?_
      obtain ⟨bx6, x6, ex6, h⟩ := tc_ld_ex h
      refine tc_iald (hW.p iv0 6 rfl).1 bx6 dX12_laysAway_193 ?_
      refine tc_nm ex6 ?_
      refine tc_iconst (v := 1) (by decide) dX12_laysAway_194 ?_
      refine tc_iadd dX12_laysAway_195 ?_
      obtain ⟨bu7, u7, eu7, h⟩ := tc_sd_ex h
      refine tc_iast (hW.p iv0 6 rfl).1 bu7 dX12_laysAway_196 ?_
      refine tc_nmu eu7 ?_
      refine tc_lvs [1, 2, 3, 4, 5, 6] rfl ?_
      exact sb_X12_laysAway_197 hW r ur K88 hK88 K97 hK97 K106 hK106 v0 v1 v3 v4 v5 v6 u7 iv0 h
set_option maxRecDepth 100000 in
set_option maxHeartbeats 4000000 in
theorem sl_X12_laysAway_106 {p : Program} {l : Launch} {e : Env} {s : State} {m : MethodId} {args : Array Value} {below : List Frame} {meth : Method} {c : Code} {z : Nat} {D : tc_D} {G : tc_G} (hW : tc_W G) (r : Int32) (ur : tc_S) (K88 : Nat → Int32 → Int32 → Int32 → tc_S → Option (Int32 × tc_S)) (hK88 : ∀ (v0 : Nat) (v1 : Int32) (v3 : Int32) (v4 : Int32) (u : tc_S), tc_is G v0 12 → K88 v0 v1 v3 v4 u = some (r, ur) → tc_R p l e { frames := 2, cells := 0, slots := 0, locals := 48 } s m args below meth c z D cX12_laysAway RX12 9 none 0 0 (tc_pv G ur) 0 0 G u 88 [(0, .ref (z + v0)), (1, .int v1), (3, .int v3), (4, .int v4)] []) (K97 : Nat → Int32 → Int32 → Int32 → Int32 → tc_S → Option (Int32 × tc_S)) (hK97 : ∀ (v0 : Nat) (v1 : Int32) (v3 : Int32) (v4 : Int32) (v5 : Int32) (u : tc_S), tc_is G v0 12 → K97 v0 v1 v3 v4 v5 u = some (r, ur) → tc_R p l e { frames := 2, cells := 0, slots := 0, locals := 48 } s m args below meth c z D cX12_laysAway RX12 9 none 0 0 (tc_pv G ur) 0 0 G u 97 [(0, .ref (z + v0)), (1, .int v1), (3, .int v3), (4, .int v4), (5, .int v5)] []) : ∀ (n : Nat) (v0 : Nat) (v1 : Int32) (v3 : Int32) (v4 : Int32) (v5 : Int32) (v6 : Int32) (u : tc_S) (iv0 : tc_is G v0 12) (h : lo_X12_laysAway_106 G K88 K97 n v0 v1 v3 v4 v5 v6 u = some (r, ur)), tc_R p l e { frames := 2, cells := 0, slots := 0, locals := 48 } s m args below meth c z D cX12_laysAway RX12 9 none 0 0 (tc_pv G ur) 0 0 G u 106 [(0, .ref (z + v0)), (1, .int v1), (3, .int v3), (4, .int v4), (5, .int v5), (6, .int v6)] [] := by
  intro n
  induction n with
  | zero => intro v0 v1 v3 v4 v5 v6 u iv0 h; cases h
  | succ n ih =>
    intro v0 v1 v3 v4 v5 v6 u iv0 h
    rw [lo_X12_laysAway_106] at h
    refine tc_iload 5 rfl dX12_laysAway_106 ?_
    refine tc_aload_n 0 rfl dX12_laysAway_108 ?_
    refine tc_getp hW iv0 fl_X12_7 dX12_laysAway_109 rfl ?_
    refine tc_iload_n 1 rfl dX12_laysAway_112 ?_
    refine tc_iconst (v := 1) (by decide) dX12_laysAway_113 ?_
    refine tc_iadd dX12_laysAway_114 ?_
    obtain ⟨bx8, x8, ex8, h⟩ := tc_ld_ex h
    refine tc_iald (hW.p iv0 0 rfl).1 bx8 dX12_laysAway_115 ?_
    refine tc_nm ex8 ?_
    refine tc_icmp_ge 203 dX12_laysAway_116 (by decide) (fun hc9 => ?_) (fun hc9 => ?_)
    · rw [if_pos hc9] at h
      obtain ⟨x10, ex10, h⟩ := tc_let_ex h
      refine tc_iinc 4 (v := x10) [(5, .int x10), (0, .ref (z + v0)), (1, .int v1), (3, .int v3), (4, .int v4), (6, .int v6)] dX12_laysAway_203 rfl (by rw [ex10]; rfl) (by decide) rfl ?_
      refine tc_goto 97 dX12_laysAway_206 (by decide) ?_
      refine tc_lvs [1, 2, 3, 4, 0] rfl ?_
      exact hK97 v0 v1 v3 v4 x10 u iv0 h
    · rw [if_neg hc9] at h
      refine tc_iload_n 1 rfl dX12_laysAway_119 ?_
      refine tc_iload 4 rfl dX12_laysAway_120 ?_
      refine tc_iload 5 rfl dX12_laysAway_122 ?_
      obtain ⟨x11, u12, hq13, h⟩ := tc_b_ex h
      refine tc_callSi [.int v1, .int v5, .int v6] dX12_laysAway_124 (ct_X12_cell hW hq13) ml_X12_92 mw_X12_cell ms_X12_cell ⟨Nat.le_of_ble_eq_true rfl, Nat.le_of_ble_eq_true rfl⟩ rfl rfl (Nat.le_of_ble_eq_true rfl) ⟨Nat.le_refl _, Nat.le_refl _⟩ ?_
      refine tc_istore [(7, .int x11), (0, .ref (z + v0)), (1, .int v1), (3, .int v3), (4, .int v4), (5, .int v5), (6, .int v6)] dX12_laysAway_127 (by decide) rfl ?_
      refine tc_aload_n 1 rfl dX12_laysAway_129 ?_
      refine tc_iload 0 rfl dX12_laysAway_130 ?_
      obtain ⟨x14, u15, hq16, h⟩ := tc_b_ex h
      refine tc_callVi [.int x11] dX12_laysAway_132 iv0.1 (ct_X12_isEntry hW iv0 hq16) ml_X12_95 mw_X12_isEntry mv_X12_isEntry ⟨Nat.le_of_ble_eq_true rfl, Nat.le_of_ble_eq_true rfl⟩ rfl rfl (Nat.le_of_ble_eq_true rfl) ⟨Nat.le_refl _, Nat.le_refl _⟩ (by decide) ?_
      refine tc_if_eq 154 dX12_laysAway_135 (by decide) (fun hc17 => ?_) (fun hc17 => ?_)
      · rw [if_pos hc17] at h
        refine tc_iconst (v := (-1)) (by decide) dX12_laysAway_154 ?_
        refine tc_lvs [1, 2, 3, 4, 5, 6] rfl ?_
        exact sb_X12_laysAway_155 hW r ur K88 hK88 K97 hK97 _ ih v0 v1 v3 v4 v5 v6 (-1) u15 iv0 h
      · rw [if_neg hc17] at h
        refine tc_aload_n 1 rfl dX12_laysAway_138 ?_
        refine tc_iload_n 2 rfl dX12_laysAway_139 ?_
        refine tc_aload_n 1 rfl dX12_laysAway_140 ?_
        refine tc_iload 0 rfl dX12_laysAway_141 ?_
        obtain ⟨x18, u19, hq20, h⟩ := tc_b_ex h
        refine tc_callVi [.int x11] dX12_laysAway_143 iv0.1 (ct_X12_keyOf hW iv0 hq20) ml_X12_103 mw_X12_keyOf mv_X12_keyOf ⟨Nat.le_of_ble_eq_true rfl, Nat.le_of_ble_eq_true rfl⟩ rfl rfl (Nat.le_of_ble_eq_true rfl) ⟨Nat.le_refl _, Nat.le_refl _⟩ (by decide) ?_
        refine tc_iload 5 rfl dX12_laysAway_146 ?_
        obtain ⟨x21, u22, hq23, h⟩ := tc_b_ex h
        refine tc_callVi [.int v1, .int x18, .int v5] dX12_laysAway_148 iv0.1 (ct_X12_otherOf hW iv0 hq23) ml_X12_107 mw_X12_otherOf mv_X12_otherOf ⟨Nat.le_of_ble_eq_true rfl, Nat.le_of_ble_eq_true rfl⟩ rfl rfl (Nat.le_of_ble_eq_true rfl) ⟨Nat.le_refl _, Nat.le_refl _⟩ (by decide) ?_
        refine tc_goto 155 dX12_laysAway_151 (by decide) ?_
        refine tc_lvs [1, 2, 3, 4, 5, 6] rfl ?_
        exact sb_X12_laysAway_155 hW r ur K88 hK88 K97 hK97 _ ih v0 v1 v3 v4 v5 v6 x21 u22 iv0 h
set_option maxRecDepth 100000 in
set_option maxHeartbeats 4000000 in
theorem sl_X12_laysAway_97 {p : Program} {l : Launch} {e : Env} {s : State} {m : MethodId} {args : Array Value} {below : List Frame} {meth : Method} {c : Code} {z : Nat} {D : tc_D} {G : tc_G} (hW : tc_W G) (r : Int32) (ur : tc_S) (K88 : Nat → Int32 → Int32 → Int32 → tc_S → Option (Int32 × tc_S)) (hK88 : ∀ (v0 : Nat) (v1 : Int32) (v3 : Int32) (v4 : Int32) (u : tc_S), tc_is G v0 12 → K88 v0 v1 v3 v4 u = some (r, ur) → tc_R p l e { frames := 2, cells := 0, slots := 0, locals := 48 } s m args below meth c z D cX12_laysAway RX12 9 none 0 0 (tc_pv G ur) 0 0 G u 88 [(0, .ref (z + v0)), (1, .int v1), (3, .int v3), (4, .int v4)] []) : ∀ (n : Nat) (v0 : Nat) (v1 : Int32) (v3 : Int32) (v4 : Int32) (v5 : Int32) (u : tc_S) (iv0 : tc_is G v0 12) (h : lo_X12_laysAway_97 G K88 n v0 v1 v3 v4 v5 u = some (r, ur)), tc_R p l e { frames := 2, cells := 0, slots := 0, locals := 48 } s m args below meth c z D cX12_laysAway RX12 9 none 0 0 (tc_pv G ur) 0 0 G u 97 [(0, .ref (z + v0)), (1, .int v1), (3, .int v3), (4, .int v4), (5, .int v5)] [] := by
  intro n
  induction n with
  | zero => intro v0 v1 v3 v4 v5 u iv0 h; cases h
  | succ n ih =>
    intro v0 v1 v3 v4 v5 u iv0 h
    rw [lo_X12_laysAway_97] at h
    refine tc_iload 4 rfl dX12_laysAway_97 ?_
    refine tc_iload_n 2 rfl dX12_laysAway_99 ?_
    refine tc_icmp_ge 209 dX12_laysAway_100 (by decide) (fun hc24 => ?_) (fun hc24 => ?_)
    · rw [if_pos hc24] at h
      obtain ⟨x25, ex25, h⟩ := tc_let_ex h
      refine tc_iinc 3 (v := x25) [(4, .int x25), (0, .ref (z + v0)), (1, .int v1), (3, .int v3), (5, .int v5)] dX12_laysAway_209 rfl (by rw [ex25]; rfl) (by decide) rfl ?_
      refine tc_goto 88 dX12_laysAway_212 (by decide) ?_
      refine tc_lvs [1, 2, 3, 0] rfl ?_
      exact hK88 v0 v1 v3 x25 u iv0 h
    · rw [if_neg hc24] at h
      refine tc_iconst (v := 0) (by decide) dX12_laysAway_103 ?_
      refine tc_istore [(6, .int 0), (0, .ref (z + v0)), (1, .int v1), (3, .int v3), (4, .int v4), (5, .int v5)] dX12_laysAway_104 (by decide) rfl ?_
      refine tc_lvs [1, 2, 3, 4, 5, 0] rfl ?_
      exact sl_X12_laysAway_106 hW r ur K88 hK88 _ ih _ v0 v1 v3 v4 v5 0 u iv0 h
set_option maxRecDepth 100000 in
set_option maxHeartbeats 4000000 in
theorem sl_X12_laysAway_88 {p : Program} {l : Launch} {e : Env} {s : State} {m : MethodId} {args : Array Value} {below : List Frame} {meth : Method} {c : Code} {z : Nat} {D : tc_D} {G : tc_G} (hW : tc_W G) (r : Int32) (ur : tc_S) : ∀ (n : Nat) (v0 : Nat) (v1 : Int32) (v3 : Int32) (v4 : Int32) (u : tc_S) (iv0 : tc_is G v0 12) (h : lo_X12_laysAway_88 G n v0 v1 v3 v4 u = some (r, ur)), tc_R p l e { frames := 2, cells := 0, slots := 0, locals := 48 } s m args below meth c z D cX12_laysAway RX12 9 none 0 0 (tc_pv G ur) 0 0 G u 88 [(0, .ref (z + v0)), (1, .int v1), (3, .int v3), (4, .int v4)] [] := by
  intro n
  induction n with
  | zero => intro v0 v1 v3 v4 u iv0 h; cases h
  | succ n ih =>
    intro v0 v1 v3 v4 u iv0 h
    rw [lo_X12_laysAway_88] at h
    refine tc_iload 3 rfl dX12_laysAway_88 ?_
    refine tc_iload_n 2 rfl dX12_laysAway_90 ?_
    refine tc_icmp_ge 215 dX12_laysAway_91 (by decide) (fun hc26 => ?_) (fun hc26 => ?_)
    · rw [if_pos hc26] at h
      cases h
      exact tc_return rfl dX12_laysAway_215 rfl rfl ⟨rfl, rfl, rfl⟩
    · rw [if_neg hc26] at h
      refine tc_iconst (v := 0) (by decide) dX12_laysAway_94 ?_
      refine tc_istore [(5, .int 0), (0, .ref (z + v0)), (1, .int v1), (3, .int v3), (4, .int v4)] dX12_laysAway_95 (by decide) rfl ?_
      refine tc_lvs [1, 2, 3, 4, 0] rfl ?_
      exact sl_X12_laysAway_97 hW r ur _ ih _ v0 v1 v3 v4 0 u iv0 h
set_option maxRecDepth 100000 in
set_option maxHeartbeats 4000000 in
theorem sb_X12_laysAway_78 {p : Program} {l : Launch} {e : Env} {s : State} {m : MethodId} {args : Array Value} {below : List Frame} {meth : Method} {c : Code} {z : Nat} {D : tc_D} {G : tc_G} (hW : tc_W G) (r : Int32) (ur : tc_S) (K12 : Nat → Int32 → Int32 → Int32 → Int32 → tc_S → Option (Int32 × tc_S)) (hK12 : ∀ (v0 : Nat) (v1 : Int32) (v2 : Int32) (v3 : Int32) (v4 : Int32) (u : tc_S), tc_is G v0 12 → K12 v0 v1 v2 v3 v4 u = some (r, ur) → tc_R p l e { frames := 2, cells := 0, slots := 0, locals := 48 } s m args below meth c z D cX12_laysAway RX12 9 none 0 0 (tc_pv G ur) 0 0 G u 12 [(0, .ref (z + v0)), (1, .int v1), (2, .int v2), (3, .int v3), (4, .int v4)] []) (v0 : Nat) (v1 : Int32) (v2 : Int32) (v3 : Int32) (v4 : Int32) (s0 : Nat) (s1 : Int32) (s2 : Int32) (u : tc_S) (iv0 : tc_is G v0 12) (is0 : tc_is G s0 100) (h : bl_X12_laysAway_78 G K12 v0 v1 v2 v3 v4 s0 s1 s2 u = some (r, ur)) : tc_R p l e { frames := 2, cells := 0, slots := 0, locals := 48 } s m args below meth c z D cX12_laysAway RX12 9 none 0 0 (tc_pv G ur) 0 0 G u 78 [(0, .ref (z + v0)), (1, .int v1), (2, .int v2), (3, .int v3), (4, .int v4)] [.int s2, .int s1, .ref (z + s0)] := by
  unfold bl_X12_laysAway_78 at h
  obtain ⟨bu27, u27, eu27, h⟩ := tc_sd_ex h
  refine tc_iast is0.1 bu27 dX12_laysAway_78 ?_
  refine tc_nmu eu27 ?_
  obtain ⟨x28, ex28, h⟩ := tc_let_ex h
  refine tc_iinc 4 (v := x28) [(4, .int x28), (0, .ref (z + v0)), (1, .int v1), (2, .int v2), (3, .int v3)] dX12_laysAway_79 rfl (by rw [ex28]; rfl) (by decide) rfl ?_
  refine tc_goto 12 dX12_laysAway_82 (by decide) ?_
  refine tc_lvs [1, 2, 3, 4, 0] rfl ?_
  exact hK12 v0 v1 v2 v3 x28 u27 iv0 h
set_option maxRecDepth 100000 in
set_option maxHeartbeats 4000000 in
theorem sb_X12_laysAway_58 {p : Program} {l : Launch} {e : Env} {s : State} {m : MethodId} {args : Array Value} {below : List Frame} {meth : Method} {c : Code} {z : Nat} {D : tc_D} {G : tc_G} (hW : tc_W G) (r : Int32) (ur : tc_S) (K12 : Nat → Int32 → Int32 → Int32 → Int32 → tc_S → Option (Int32 × tc_S)) (hK12 : ∀ (v0 : Nat) (v1 : Int32) (v2 : Int32) (v3 : Int32) (v4 : Int32) (u : tc_S), tc_is G v0 12 → K12 v0 v1 v2 v3 v4 u = some (r, ur) → tc_R p l e { frames := 2, cells := 0, slots := 0, locals := 48 } s m args below meth c z D cX12_laysAway RX12 9 none 0 0 (tc_pv G ur) 0 0 G u 12 [(0, .ref (z + v0)), (1, .int v1), (2, .int v2), (3, .int v3), (4, .int v4)] []) (v0 : Nat) (v1 : Int32) (v2 : Int32) (v3 : Int32) (v4 : Int32) (s0 : Int32) (u : tc_S) (iv0 : tc_is G v0 12) (h : bl_X12_laysAway_58 G K12 v0 v1 v2 v3 v4 s0 u = some (r, ur)) : tc_R p l e { frames := 2, cells := 0, slots := 0, locals := 48 } s m args below meth c z D cX12_laysAway RX12 9 none 0 0 (tc_pv G ur) 0 0 G u 58 [(0, .ref (z + v0)), (1, .int v1), (2, .int v2), (3, .int v3), (4, .int v4)] [.int s0] := by
  unfold bl_X12_laysAway_58 at h
  refine tc_istore [(5, .int s0), (0, .ref (z + v0)), (1, .int v1), (2, .int v2), (3, .int v3), (4, .int v4)] dX12_laysAway_58 (by decide) rfl ?_
  refine tc_aload_n 1 rfl dX12_laysAway_60 ?_
  refine tc_getp hW iv0 fl_X12_24 dX12_laysAway_61 rfl ?_
  refine tc_iload 5 rfl dX12_laysAway_64 ?_
  refine tc_iload 0 rfl dX12_laysAway_66 ?_
  refine tc_if_eq 77 dX12_laysAway_68 (by decide) (fun hc29 => ?_) (fun hc29 => ?_)
  · rw [if_pos hc29] at h
    refine tc_iconst (v := 0) (by decide) dX12_laysAway_77 ?_
    refine tc_lvs [1, 2, 3, 4, 5] rfl ?_
    exact sb_X12_laysAway_78 hW r ur K12 hK12 v0 v1 v2 v3 v4 (tc_p G v0 6) v4 0 u iv0 (hW.p iv0 6 rfl) h
  · rw [if_neg hc29] at h
    refine tc_sipush (v := 1000) (by decide) dX12_laysAway_71 ?_
    refine tc_goto 78 dX12_laysAway_74 (by decide) ?_
    refine tc_lvs [1, 2, 3, 4, 5] rfl ?_
    exact sb_X12_laysAway_78 hW r ur K12 hK12 v0 v1 v2 v3 v4 (tc_p G v0 6) v4 1000 u iv0 (hW.p iv0 6 rfl) h
set_option maxRecDepth 100000 in
set_option maxHeartbeats 4000000 in
theorem sb_X12_laysAway_53 {p : Program} {l : Launch} {e : Env} {s : State} {m : MethodId} {args : Array Value} {below : List Frame} {meth : Method} {c : Code} {z : Nat} {D : tc_D} {G : tc_G} (hW : tc_W G) (r : Int32) (ur : tc_S) (K12 : Nat → Int32 → Int32 → Int32 → Int32 → tc_S → Option (Int32 × tc_S)) (hK12 : ∀ (v0 : Nat) (v1 : Int32) (v2 : Int32) (v3 : Int32) (v4 : Int32) (u : tc_S), tc_is G v0 12 → K12 v0 v1 v2 v3 v4 u = some (r, ur) → tc_R p l e { frames := 2, cells := 0, slots := 0, locals := 48 } s m args below meth c z D cX12_laysAway RX12 9 none 0 0 (tc_pv G ur) 0 0 G u 12 [(0, .ref (z + v0)), (1, .int v1), (2, .int v2), (3, .int v3), (4, .int v4)] []) (v0 : Nat) (v1 : Int32) (v2 : Int32) (v3 : Int32) (v4 : Int32) (u : tc_S) (iv0 : tc_is G v0 12) (h : bl_X12_laysAway_53 G K12 v0 v1 v2 v3 v4 u = some (r, ur)) : tc_R p l e { frames := 2, cells := 0, slots := 0, locals := 48 } s m args below meth c z D cX12_laysAway RX12 9 none 0 0 (tc_pv G ur) 0 0 G u 53 [(0, .ref (z + v0)), (1, .int v1), (2, .int v2), (3, .int v3), (4, .int v4)] [] := by
  unfold bl_X12_laysAway_53 at h
  refine tc_iconst (v := 1) (by decide) dX12_laysAway_53 ?_
  refine tc_goto 58 dX12_laysAway_54 (by decide) ?_
  exact sb_X12_laysAway_58 hW r ur K12 hK12 v0 v1 v2 v3 v4 1 u iv0 h
set_option maxRecDepth 100000 in
set_option maxHeartbeats 4000000 in
theorem sl_X12_laysAway_12 {p : Program} {l : Launch} {e : Env} {s : State} {m : MethodId} {args : Array Value} {below : List Frame} {meth : Method} {c : Code} {z : Nat} {D : tc_D} {G : tc_G} (hW : tc_W G) (r : Int32) (ur : tc_S) : ∀ (n : Nat) (v0 : Nat) (v1 : Int32) (v2 : Int32) (v3 : Int32) (v4 : Int32) (u : tc_S) (iv0 : tc_is G v0 12) (h : lo_X12_laysAway_12 G n v0 v1 v2 v3 v4 u = some (r, ur)), tc_R p l e { frames := 2, cells := 0, slots := 0, locals := 48 } s m args below meth c z D cX12_laysAway RX12 9 none 0 0 (tc_pv G ur) 0 0 G u 12 [(0, .ref (z + v0)), (1, .int v1), (2, .int v2), (3, .int v3), (4, .int v4)] [] := by
  intro n
  induction n with
  | zero => intro v0 v1 v2 v3 v4 u iv0 h; cases h
  | succ n ih =>
    intro v0 v1 v2 v3 v4 u iv0 h
    rw [lo_X12_laysAway_12] at h
    refine tc_iload 4 rfl dX12_laysAway_12 ?_
    refine tc_iload_n 3 rfl dX12_laysAway_14 ?_
    refine tc_icmp_ge 85 dX12_laysAway_15 (by decide) (fun hc30 => ?_) (fun hc30 => ?_)
    · rw [if_pos hc30] at h
      refine tc_iconst (v := 0) (by decide) dX12_laysAway_85 ?_
      refine tc_istore [(4, .int 0), (0, .ref (z + v0)), (1, .int v1), (2, .int v2), (3, .int v3)] dX12_laysAway_86 (by decide) rfl ?_
      refine tc_lvs [1, 2, 4, 0] rfl ?_
      exact sl_X12_laysAway_88 hW r ur  _ v0 v1 v3 0 u iv0 h
    · rw [if_neg hc30] at h
      refine tc_iload 4 rfl dX12_laysAway_18 ?_
      refine tc_aload_n 0 rfl dX12_laysAway_20 ?_
      refine tc_iload_n 1 rfl dX12_laysAway_21 ?_
      refine tc_iload_n 2 rfl dX12_laysAway_22 ?_
      refine tc_iconst (v := 0) (by decide) dX12_laysAway_23 ?_
      obtain ⟨x31, u32, hq33, h⟩ := tc_b_ex h
      refine tc_callVi [.int v1, .int v2, .int 0] dX12_laysAway_24 iv0.1 (ct_X12_hashOf hW iv0 hq33) ml_X12_88 mw_X12_hashOf mv_X12_hashOf ⟨Nat.le_of_ble_eq_true rfl, Nat.le_of_ble_eq_true rfl⟩ rfl rfl (Nat.le_of_ble_eq_true rfl) ⟨Nat.le_refl _, Nat.le_refl _⟩ (by decide) ?_
      refine tc_icmp_eq 53 dX12_laysAway_27 (by decide) (fun hc34 => ?_) (fun hc34 => ?_)
      · rw [if_pos hc34] at h
        exact sb_X12_laysAway_53 hW r ur _ ih v0 v1 v2 v3 v4 u32 iv0 h
      · rw [if_neg hc34] at h
        refine tc_iload 4 rfl dX12_laysAway_30 ?_
        refine tc_aload_n 0 rfl dX12_laysAway_32 ?_
        refine tc_iload_n 1 rfl dX12_laysAway_33 ?_
        refine tc_iload_n 2 rfl dX12_laysAway_34 ?_
        refine tc_iconst (v := 1) (by decide) dX12_laysAway_35 ?_
        obtain ⟨x35, u36, hq37, h⟩ := tc_b_ex h
        refine tc_callVi [.int v1, .int v2, .int 1] dX12_laysAway_36 iv0.1 (ct_X12_hashOf hW iv0 hq37) ml_X12_88 mw_X12_hashOf mv_X12_hashOf ⟨Nat.le_of_ble_eq_true rfl, Nat.le_of_ble_eq_true rfl⟩ rfl rfl (Nat.le_of_ble_eq_true rfl) ⟨Nat.le_refl _, Nat.le_refl _⟩ (by decide) ?_
        refine tc_icmp_eq 53 dX12_laysAway_39 (by decide) (fun hc38 => ?_) (fun hc38 => ?_)
        · rw [if_pos hc38] at h
          exact sb_X12_laysAway_53 hW r ur _ ih v0 v1 v2 v3 v4 u36 iv0 h
        · rw [if_neg hc38] at h
          refine tc_aload_n 0 rfl dX12_laysAway_42 ?_
          refine tc_iload_n 1 rfl dX12_laysAway_43 ?_
          refine tc_iload 4 rfl dX12_laysAway_44 ?_
          obtain ⟨x39, u40, hq41, h⟩ := tc_b_ex h
          refine tc_callVi [.int v1, .int v4] dX12_laysAway_46 iv0.1 (ct_X12_emptyIn hW iv0 hq41) ml_X12_99 mw_X12_emptyIn mv_X12_emptyIn ⟨Nat.le_of_ble_eq_true rfl, Nat.le_of_ble_eq_true rfl⟩ rfl rfl (Nat.le_of_ble_eq_true rfl) ⟨Nat.le_refl _, Nat.le_refl _⟩ (by decide) ?_
          refine tc_iconst (v := (-1)) (by decide) dX12_laysAway_49 ?_
          refine tc_icmp_ne 57 dX12_laysAway_50 (by decide) (fun hc42 => ?_) (fun hc42 => ?_)
          · rw [if_neg hc42] at h
            refine tc_iconst (v := 0) (by decide) dX12_laysAway_57 ?_
            exact sb_X12_laysAway_58 hW r ur _ ih v0 v1 v2 v3 v4 0 u40 iv0 h
          · rw [if_pos hc42] at h
            exact sb_X12_laysAway_53 hW r ur _ ih v0 v1 v2 v3 v4 u40 iv0 h
set_option maxRecDepth 100000 in
set_option maxHeartbeats 4000000 in
theorem ct_X12_laysAway {l : Launch} {z : Nat} {D : tc_D} {G : tc_G} (hW : tc_W G) {v0 : Nat} {v1 : Int32} {v2 : Int32} {u : tc_S} {r : Int32} {ur : tc_S} (iv0 : tc_is G v0 12) (h : fn_X12_laysAway G v0 v1 v2 u = some (r, ur)) : tc_C l z D yX12_laysAway cX12_laysAway 9 none 2 48 0 0 [.ref (z + v0), .int v1, .int v2] G u (tc_pv G ur) := by
  unfold fn_X12_laysAway at h
  refine tc_C.of (by decide) (Nat.le_of_ble_eq_true rfl) fun p e s m args below meth c => ?_
  show tc_R p l e { frames := 2, cells := 0, slots := 0, locals := 48 } s m args below meth c z D cX12_laysAway RX12 9 none 0 0 (tc_pv G ur) 0 0 G u 0 [(0, .ref (z + v0)), (1, .int v1), (2, .int v2)] []
  refine tc_aload_n 0 rfl dX12_laysAway_0 ?_
  refine tc_getp hW iv0 fl_X12_7 dX12_laysAway_1 rfl ?_
  refine tc_iload_n 1 rfl dX12_laysAway_4 ?_
  refine tc_iconst (v := 0) (by decide) dX12_laysAway_5 ?_
  refine tc_iadd dX12_laysAway_6 ?_
  obtain ⟨bx43, x43, ex43, h⟩ := tc_ld_ex h
  refine tc_iald (hW.p iv0 0 rfl).1 bx43 dX12_laysAway_7 ?_
  refine tc_nm ex43 ?_
  refine tc_istore_n [(3, .int x43), (0, .ref (z + v0)), (1, .int v1), (2, .int v2)] dX12_laysAway_8 (by decide) rfl ?_
  refine tc_iconst (v := 0) (by decide) dX12_laysAway_9 ?_
  refine tc_istore [(4, .int 0), (3, .int x43), (0, .ref (z + v0)), (1, .int v1), (2, .int v2)] dX12_laysAway_10 (by decide) rfl ?_
  refine tc_lvs [2, 3, 4, 1, 0] rfl ?_
  exact sl_X12_laysAway_12 hW r ur  _ v0 v1 v2 x43 0 u iv0 h
set_option maxRecDepth 100000 in
set_option maxHeartbeats 4000000 in
theorem sb_X12_leads_63 {p : Program} {l : Launch} {e : Env} {s : State} {m : MethodId} {args : Array Value} {below : List Frame} {meth : Method} {c : Code} {z : Nat} {D : tc_D} {G : tc_G} (hW : tc_W G) (r : Int32) (ur : tc_S) (s0 : Int32) (u : tc_S) (h : bl_X12_leads_63 G s0 u = some (r, ur)) : tc_R p l e { frames := 2, cells := 0, slots := 0, locals := 48 } s m args below meth c z D cX12_leads RX12 6 (some .boolean) 0 0 (tc_po r G ur) 0 0 G u 63 [] [.int s0] := by
  unfold bl_X12_leads_63 at h
  obtain ⟨hz1, h⟩ := tc_zo_ex h
  cases h
  exact tc_zreturn hz1 rfl dX12_leads_63 rfl rfl ⟨rfl, rfl, rfl⟩
set_option maxRecDepth 100000 in
set_option maxHeartbeats 4000000 in
theorem sb_X12_leads_62 {p : Program} {l : Launch} {e : Env} {s : State} {m : MethodId} {args : Array Value} {below : List Frame} {meth : Method} {c : Code} {z : Nat} {D : tc_D} {G : tc_G} (hW : tc_W G) (r : Int32) (ur : tc_S) (u : tc_S) (h : bl_X12_leads_62 G  u = some (r, ur)) : tc_R p l e { frames := 2, cells := 0, slots := 0, locals := 48 } s m args below meth c z D cX12_leads RX12 6 (some .boolean) 0 0 (tc_po r G ur) 0 0 G u 62 [] [] := by
  unfold bl_X12_leads_62 at h
  refine tc_iconst (v := 0) (by decide) dX12_leads_62 ?_
  exact sb_X12_leads_63 hW r ur  0 u  h
set_option maxRecDepth 100000 in
set_option maxHeartbeats 4000000 in
theorem sb_X12_leads_33 {p : Program} {l : Launch} {e : Env} {s : State} {m : MethodId} {args : Array Value} {below : List Frame} {meth : Method} {c : Code} {z : Nat} {D : tc_D} {G : tc_G} (hW : tc_W G) (r : Int32) (ur : tc_S) (v0 : Nat) (v2 : Int32) (s0 : Int32) (u : tc_S) (iv0 : tc_is G v0 12) (h : bl_X12_leads_33 G v0 v2 s0 u = some (r, ur)) : tc_R p l e { frames := 2, cells := 0, slots := 0, locals := 48 } s m args below meth c z D cX12_leads RX12 6 (some .boolean) 0 0 (tc_po r G ur) 0 0 G u 33 [(0, .ref (z + v0)), (2, .int v2)] [.int s0] := by
  unfold bl_X12_leads_33 at h
  refine tc_istore [(5, .int s0), (0, .ref (z + v0)), (2, .int v2)] dX12_leads_33 (by decide) rfl ?_
  refine tc_iload 0 rfl dX12_leads_35 ?_
  refine tc_if_lt 62 dX12_leads_37 (by decide) (fun hc2 => ?_) (fun hc2 => ?_)
  · rw [if_pos hc2] at h
    refine tc_lvs [] rfl ?_
    exact sb_X12_leads_62 hW r ur   u  h
  · rw [if_neg hc2] at h
    refine tc_aload_n 1 rfl dX12_leads_40 ?_
    refine tc_getp hW iv0 fl_X12_24 dX12_leads_41 rfl ?_
    refine tc_iload 0 rfl dX12_leads_44 ?_
    obtain ⟨bx3, x3, ex3, h⟩ := tc_ld_ex h
    refine tc_iald (hW.p iv0 6 rfl).1 bx3 dX12_leads_46 ?_
    refine tc_nm ex3 ?_
    refine tc_aload_n 1 rfl dX12_leads_47 ?_
    refine tc_getp hW iv0 fl_X12_24 dX12_leads_48 rfl ?_
    refine tc_iload_n 2 rfl dX12_leads_51 ?_
    obtain ⟨bx4, x4, ex4, h⟩ := tc_ld_ex h
    refine tc_iald (hW.p iv0 6 rfl).1 bx4 dX12_leads_52 ?_
    refine tc_nm ex4 ?_
    refine tc_iconst (v := 1) (by decide) dX12_leads_53 ?_
    refine tc_isub dX12_leads_54 ?_
    refine tc_icmp_ne 62 dX12_leads_55 (by decide) (fun hc5 => ?_) (fun hc5 => ?_)
    · rw [if_neg hc5] at h
      refine tc_lvs [] rfl ?_
      exact sb_X12_leads_62 hW r ur   u  h
    · rw [if_pos hc5] at h
      refine tc_iconst (v := 1) (by decide) dX12_leads_58 ?_
      refine tc_goto 63 dX12_leads_59 (by decide) ?_
      refine tc_lvs [] rfl ?_
      exact sb_X12_leads_63 hW r ur  1 u  h
set_option maxRecDepth 100000 in
set_option maxHeartbeats 4000000 in
theorem ct_X12_leads {l : Launch} {z : Nat} {D : tc_D} {G : tc_G} (hW : tc_W G) {v0 : Nat} {v1 : Int32} {v2 : Int32} {v3 : Int32} {u : tc_S} {r : Int32} {ur : tc_S} (iv0 : tc_is G v0 12) (h : fn_X12_leads G v0 v1 v2 v3 u = some (r, ur)) : tc_C l z D yX12_leads cX12_leads 6 (some .boolean) 2 48 0 0 [.ref (z + v0), .int v1, .int v2, .int v3] G u (tc_po r G ur) := by
  unfold fn_X12_leads at h
  refine tc_C.of (by decide) (Nat.le_of_ble_eq_true rfl) fun p e s m args below meth c => ?_
  show tc_R p l e { frames := 2, cells := 0, slots := 0, locals := 48 } s m args below meth c z D cX12_leads RX12 6 (some .boolean) 0 0 (tc_po r G ur) 0 0 G u 0 [(0, .ref (z + v0)), (1, .int v1), (2, .int v2), (3, .int v3)] []
  refine tc_iload_n 1 rfl dX12_leads_0 ?_
  refine tc_iload_n 2 rfl dX12_leads_1 ?_
  refine tc_iload_n 3 rfl dX12_leads_2 ?_
  obtain ⟨x6, u7, hq8, h⟩ := tc_b_ex h
  refine tc_callSi [.int v1, .int v2, .int v3] dX12_leads_3 (ct_X12_cell hW hq8) ml_X12_92 mw_X12_cell ms_X12_cell ⟨Nat.le_of_ble_eq_true rfl, Nat.le_of_ble_eq_true rfl⟩ rfl rfl (Nat.le_of_ble_eq_true rfl) ⟨Nat.le_refl _, Nat.le_refl _⟩ ?_
  refine tc_istore [(4, .int x6), (0, .ref (z + v0)), (1, .int v1), (2, .int v2), (3, .int v3)] dX12_leads_6 (by decide) rfl ?_
  refine tc_aload_n 1 rfl dX12_leads_8 ?_
  refine tc_iload 0 rfl dX12_leads_9 ?_
  obtain ⟨x9, u10, hq11, h⟩ := tc_b_ex h
  refine tc_callVi [.int x6] dX12_leads_11 iv0.1 (ct_X12_isEntry hW iv0 hq11) ml_X12_95 mw_X12_isEntry mv_X12_isEntry ⟨Nat.le_of_ble_eq_true rfl, Nat.le_of_ble_eq_true rfl⟩ rfl rfl (Nat.le_of_ble_eq_true rfl) ⟨Nat.le_refl _, Nat.le_refl _⟩ (by decide) ?_
  refine tc_if_eq 32 dX12_leads_14 (by decide) (fun hc12 => ?_) (fun hc12 => ?_)
  · rw [if_pos hc12] at h
    refine tc_iconst (v := (-1)) (by decide) dX12_leads_32 ?_
    refine tc_lvs [1, 3] rfl ?_
    exact sb_X12_leads_33 hW r ur  v0 v2 (-1) u10 iv0 h
  · rw [if_neg hc12] at h
    refine tc_aload_n 1 rfl dX12_leads_17 ?_
    refine tc_iload_n 2 rfl dX12_leads_18 ?_
    refine tc_aload_n 1 rfl dX12_leads_19 ?_
    refine tc_iload 0 rfl dX12_leads_20 ?_
    obtain ⟨x13, u14, hq15, h⟩ := tc_b_ex h
    refine tc_callVi [.int x6] dX12_leads_22 iv0.1 (ct_X12_keyOf hW iv0 hq15) ml_X12_103 mw_X12_keyOf mv_X12_keyOf ⟨Nat.le_of_ble_eq_true rfl, Nat.le_of_ble_eq_true rfl⟩ rfl rfl (Nat.le_of_ble_eq_true rfl) ⟨Nat.le_refl _, Nat.le_refl _⟩ (by decide) ?_
    refine tc_iload_n 3 rfl dX12_leads_25 ?_
    obtain ⟨x16, u17, hq18, h⟩ := tc_b_ex h
    refine tc_callVi [.int v1, .int x13, .int v2] dX12_leads_26 iv0.1 (ct_X12_otherOf hW iv0 hq18) ml_X12_107 mw_X12_otherOf mv_X12_otherOf ⟨Nat.le_of_ble_eq_true rfl, Nat.le_of_ble_eq_true rfl⟩ rfl rfl (Nat.le_of_ble_eq_true rfl) ⟨Nat.le_refl _, Nat.le_refl _⟩ (by decide) ?_
    refine tc_goto 33 dX12_leads_29 (by decide) ?_
    refine tc_lvs [1, 3] rfl ?_
    exact sb_X12_leads_33 hW r ur  v0 v2 x16 u17 iv0 h
set_option maxRecDepth 100000 in
set_option maxHeartbeats 4000000 in
theorem sl_X12_chainOf_79 {p : Program} {l : Launch} {e : Env} {s : State} {m : MethodId} {args : Array Value} {below : List Frame} {meth : Method} {c : Code} {z : Nat} {D : tc_D} {G : tc_G} (hW : tc_W G) (r : Int32) (ur : tc_S) (K69 : Nat → Int32 → Int32 → Int32 → Int32 → tc_S → Option (Int32 × tc_S)) (hK69 : ∀ (v0 : Nat) (v1 : Int32) (v5 : Int32) (v6 : Int32) (v7 : Int32) (u : tc_S), tc_is G v0 12 → K69 v0 v1 v5 v6 v7 u = some (r, ur) → tc_R p l e { frames := 3, cells := 0, slots := 0, locals := 76 } s m args below meth c z D cX12_chainOf RX12 9 (some .int) 0 0 (tc_po r G ur) 0 0 G u 69 [(0, .ref (z + v0)), (1, .int v1), (5, .int v5), (6, .int v6), (7, .int v7)] []) : ∀ (n : Nat) (v0 : Nat) (v1 : Int32) (v5 : Int32) (v6 : Int32) (v7 : Int32) (v8 : Int32) (u : tc_S) (iv0 : tc_is G v0 12) (h : lo_X12_chainOf_79 G K69 n v0 v1 v5 v6 v7 v8 u = some (r, ur)), tc_R p l e { frames := 3, cells := 0, slots := 0, locals := 76 } s m args below meth c z D cX12_chainOf RX12 9 (some .int) 0 0 (tc_po r G ur) 0 0 G u 79 [(0, .ref (z + v0)), (1, .int v1), (5, .int v5), (6, .int v6), (7, .int v7), (8, .int v8)] [] := by
  intro n
  induction n with
  | zero => intro v0 v1 v5 v6 v7 v8 u iv0 h; cases h
  | succ n ih =>
    intro v0 v1 v5 v6 v7 v8 u iv0 h
    rw [lo_X12_chainOf_79] at h
    refine tc_aload_n 0 rfl dX12_chainOf_79 ?_
    refine tc_iload_n 1 rfl dX12_chainOf_80 ?_
    refine tc_iload 2 rfl dX12_chainOf_81 ?_
    refine tc_iload 5 rfl dX12_chainOf_83 ?_
    obtain ⟨x1, u2, hq3, h⟩ := tc_b_ex h
    refine tc_callVi [.int v1, .int v5, .int v8] dX12_chainOf_85 iv0.1 (ct_X12_leads hW iv0 hq3) ml_X12_113 mw_X12_leads mv_X12_leads ⟨Nat.le_of_ble_eq_true rfl, Nat.le_of_ble_eq_true rfl⟩ rfl rfl (Nat.le_of_ble_eq_true rfl) ⟨Nat.le_refl _, Nat.le_refl _⟩ (by decide) ?_
    refine tc_if_ne 97 dX12_chainOf_88 (by decide) (fun hc4 => ?_) (fun hc4 => ?_)
    · rw [if_neg hc4] at h
      refine tc_aload_n 0 rfl dX12_chainOf_97 ?_
      refine tc_getp hW iv0 fl_X12_27 dX12_chainOf_98 rfl ?_
      refine tc_iload 4 rfl dX12_chainOf_101 ?_
      refine tc_iload 2 rfl dX12_chainOf_103 ?_
      obtain ⟨bu5, u5, eu5, h⟩ := tc_sd_ex h
      refine tc_iast (hW.p iv0 7 rfl).1 bu5 dX12_chainOf_105 ?_
      refine tc_nmu eu5 ?_
      refine tc_aload_n 0 rfl dX12_chainOf_106 ?_
      refine tc_getp hW iv0 fl_X12_30 dX12_chainOf_107 rfl ?_
      refine tc_iload 4 rfl dX12_chainOf_110 ?_
      refine tc_iload 5 rfl dX12_chainOf_112 ?_
      obtain ⟨bu6, u6, eu6, h⟩ := tc_sd_ex h
      refine tc_iast (hW.p iv0 8 rfl).1 bu6 dX12_chainOf_114 ?_
      refine tc_nmu eu6 ?_
      refine tc_aload_n 0 rfl dX12_chainOf_115 ?_
      refine tc_iload_n 1 rfl dX12_chainOf_116 ?_
      refine tc_aload_n 0 rfl dX12_chainOf_117 ?_
      refine tc_iload_n 1 rfl dX12_chainOf_118 ?_
      refine tc_iload 2 rfl dX12_chainOf_119 ?_
      refine tc_iload 5 rfl dX12_chainOf_121 ?_
      obtain ⟨x7, u8, hq9, h⟩ := tc_b_ex h
      refine tc_callSi [.int v1, .int v5, .int v8] dX12_chainOf_123 (ct_X12_cell hW hq9) ml_X12_92 mw_X12_cell ms_X12_cell ⟨Nat.le_of_ble_eq_true rfl, Nat.le_of_ble_eq_true rfl⟩ rfl rfl (Nat.le_of_ble_eq_true rfl) ⟨Nat.le_refl _, Nat.le_refl _⟩ ?_
      obtain ⟨x10, u11, hq12, h⟩ := tc_b_ex h
      refine tc_callVi [.int x7] dX12_chainOf_126 iv0.1 (ct_X12_keyOf hW iv0 hq12) ml_X12_103 mw_X12_keyOf mv_X12_keyOf ⟨Nat.le_of_ble_eq_true rfl, Nat.le_of_ble_eq_true rfl⟩ rfl rfl (Nat.le_of_ble_eq_true rfl) ⟨Nat.le_refl _, Nat.le_refl _⟩ (by decide) ?_
      refine tc_iload 2 rfl dX12_chainOf_129 ?_
      obtain ⟨x13, u14, hq15, h⟩ := tc_b_ex h
      refine tc_callVi [.int v1, .int x10, .int v5] dX12_chainOf_131 iv0.1 (ct_X12_otherOf hW iv0 hq15) ml_X12_107 mw_X12_otherOf mv_X12_otherOf ⟨Nat.le_of_ble_eq_true rfl, Nat.le_of_ble_eq_true rfl⟩ rfl rfl (Nat.le_of_ble_eq_true rfl) ⟨Nat.le_refl _, Nat.le_refl _⟩ (by decide) ?_
      refine tc_istore [(5, .int x13), (0, .ref (z + v0)), (1, .int v1), (6, .int v6), (7, .int v7), (8, .int v8)] dX12_chainOf_134 (by decide) rfl ?_
      obtain ⟨x16, ex16, h⟩ := tc_let_ex h
      refine tc_iinc 4 (v := x16) [(7, .int x16), (5, .int x13), (0, .ref (z + v0)), (1, .int v1), (6, .int v6), (8, .int v8)] dX12_chainOf_136 rfl (by rw [ex16]; rfl) (by decide) rfl ?_
      refine tc_goto 69 dX12_chainOf_139 (by decide) ?_
      refine tc_lvs [2, 3, 1, 4, 0] rfl ?_
      exact hK69 v0 v1 x13 v6 x16 u14 iv0 h
    · rw [if_pos hc4] at h
      obtain ⟨x17, ex17, h⟩ := tc_let_ex h
      refine tc_iinc 5 (v := x17) [(8, .int x17), (0, .ref (z + v0)), (1, .int v1), (5, .int v5), (6, .int v6), (7, .int v7)] dX12_chainOf_91 rfl (by rw [ex17]; rfl) (by decide) rfl ?_
      refine tc_goto 79 dX12_chainOf_94 (by decide) ?_
      refine tc_lvs [1, 2, 3, 4, 5, 0] rfl ?_
      exact ih v0 v1 v5 v6 v7 x17 u2 iv0 h
set_option maxRecDepth 100000 in
set_option maxHeartbeats 4000000 in
theorem sl_X12_chainOf_69 {p : Program} {l : Launch} {e : Env} {s : State} {m : MethodId} {args : Array Value} {below : List Frame} {meth : Method} {c : Code} {z : Nat} {D : tc_D} {G : tc_G} (hW : tc_W G) (r : Int32) (ur : tc_S) : ∀ (n : Nat) (v0 : Nat) (v1 : Int32) (v5 : Int32) (v6 : Int32) (v7 : Int32) (u : tc_S) (iv0 : tc_is G v0 12) (h : lo_X12_chainOf_69 G n v0 v1 v5 v6 v7 u = some (r, ur)), tc_R p l e { frames := 3, cells := 0, slots := 0, locals := 76 } s m args below meth c z D cX12_chainOf RX12 9 (some .int) 0 0 (tc_po r G ur) 0 0 G u 69 [(0, .ref (z + v0)), (1, .int v1), (5, .int v5), (6, .int v6), (7, .int v7)] [] := by
  intro n
  induction n with
  | zero => intro v0 v1 v5 v6 v7 u iv0 h; cases h
  | succ n ih =>
    intro v0 v1 v5 v6 v7 u iv0 h
    rw [lo_X12_chainOf_69] at h
    refine tc_iload 4 rfl dX12_chainOf_69 ?_
    refine tc_iload 3 rfl dX12_chainOf_71 ?_
    refine tc_icmp_ge 142 dX12_chainOf_73 (by decide) (fun hc18 => ?_) (fun hc18 => ?_)
    · rw [if_pos hc18] at h
      refine tc_iload 3 rfl dX12_chainOf_142 ?_
      cases h
      exact tc_ireturn rfl dX12_chainOf_144 rfl rfl ⟨rfl, rfl, rfl⟩
    · rw [if_neg hc18] at h
      refine tc_iconst (v := 0) (by decide) dX12_chainOf_76 ?_
      refine tc_istore [(8, .int 0), (0, .ref (z + v0)), (1, .int v1), (5, .int v5), (6, .int v6), (7, .int v7)] dX12_chainOf_77 (by decide) rfl ?_
      refine tc_lvs [1, 2, 3, 4, 5, 0] rfl ?_
      exact sl_X12_chainOf_79 hW r ur _ ih _ v0 v1 v5 v6 v7 0 u iv0 h
set_option maxRecDepth 100000 in
set_option maxHeartbeats 4000000 in
theorem sb_X12_chainOf_45 {p : Program} {l : Launch} {e : Env} {s : State} {m : MethodId} {args : Array Value} {below : List Frame} {meth : Method} {c : Code} {z : Nat} {D : tc_D} {G : tc_G} (hW : tc_W G) (r : Int32) (ur : tc_S) (v0 : Nat) (v1 : Int32) (s0 : Int32) (u : tc_S) (iv0 : tc_is G v0 12) (h : bl_X12_chainOf_45 G v0 v1 s0 u = some (r, ur)) : tc_R p l e { frames := 3, cells := 0, slots := 0, locals := 76 } s m args below meth c z D cX12_chainOf RX12 9 (some .int) 0 0 (tc_po r G ur) 0 0 G u 45 [(0, .ref (z + v0)), (1, .int v1)] [.int s0] := by
  unfold bl_X12_chainOf_45 at h
  refine tc_istore [(5, .int s0), (0, .ref (z + v0)), (1, .int v1)] dX12_chainOf_45 (by decide) rfl ?_
  refine tc_aload_n 1 rfl dX12_chainOf_47 ?_
  refine tc_getp hW iv0 fl_X12_24 dX12_chainOf_48 rfl ?_
  refine tc_iload 0 rfl dX12_chainOf_51 ?_
  obtain ⟨bx19, x19, ex19, h⟩ := tc_ld_ex h
  refine tc_iald (hW.p iv0 6 rfl).1 bx19 dX12_chainOf_53 ?_
  refine tc_nm ex19 ?_
  refine tc_istore [(6, .int x19), (5, .int s0), (0, .ref (z + v0)), (1, .int v1)] dX12_chainOf_54 (by decide) rfl ?_
  refine tc_iload 0 rfl dX12_chainOf_56 ?_
  refine tc_sipush (v := 1000) (by decide) dX12_chainOf_58 ?_
  refine tc_icmp_lt 66 dX12_chainOf_61 (by decide) (fun hc20 => ?_) (fun hc20 => ?_)
  · rw [if_pos hc20] at h
    refine tc_iconst (v := 0) (by decide) dX12_chainOf_66 ?_
    refine tc_istore [(7, .int 0), (6, .int x19), (5, .int s0), (0, .ref (z + v0)), (1, .int v1)] dX12_chainOf_67 (by decide) rfl ?_
    refine tc_lvs [3, 4, 2, 1, 0] rfl ?_
    exact sl_X12_chainOf_69 hW r ur  _ v0 v1 s0 x19 0 u iv0 h
  · rw [if_neg hc20] at h
    refine tc_iconst (v := (-1)) (by decide) dX12_chainOf_64 ?_
    cases h
    exact tc_ireturn rfl dX12_chainOf_65 rfl rfl ⟨rfl, rfl, rfl⟩
set_option maxRecDepth 100000 in
set_option maxHeartbeats 4000000 in
theorem ct_X12_chainOf {l : Launch} {z : Nat} {D : tc_D} {G : tc_G} (hW : tc_W G) {v0 : Nat} {v1 : Int32} {v2 : Int32} {u : tc_S} {r : Int32} {ur : tc_S} (iv0 : tc_is G v0 12) (h : fn_X12_chainOf G v0 v1 v2 u = some (r, ur)) : tc_C l z D yX12_chainOf cX12_chainOf 9 (some .int) 3 76 0 0 [.ref (z + v0), .int v1, .int v2] G u (tc_po r G ur) := by
  unfold fn_X12_chainOf at h
  refine tc_C.of (by decide) (Nat.le_of_ble_eq_true rfl) fun p e s m args below meth c => ?_
  show tc_R p l e { frames := 3, cells := 0, slots := 0, locals := 76 } s m args below meth c z D cX12_chainOf RX12 9 (some .int) 0 0 (tc_po r G ur) 0 0 G u 0 [(0, .ref (z + v0)), (1, .int v1), (2, .int v2)] []
  refine tc_aload_n 0 rfl dX12_chainOf_0 ?_
  refine tc_iload_n 1 rfl dX12_chainOf_1 ?_
  refine tc_iload_n 2 rfl dX12_chainOf_2 ?_
  obtain ⟨x21, u22, hq23, h⟩ := tc_b_ex h
  refine tc_callVv [.int v1, .int v2] dX12_chainOf_3 iv0.1 (ct_X12_laysAway hW iv0 hq23) ml_X12_110 mw_X12_laysAway mv_X12_laysAway ⟨Nat.le_of_ble_eq_true rfl, Nat.le_of_ble_eq_true rfl⟩ rfl rfl (Nat.le_of_ble_eq_true rfl) ⟨Nat.le_refl _, Nat.le_refl _⟩ (by decide) ?_
  refine tc_aload_n 0 rfl dX12_chainOf_6 ?_
  refine tc_iload_n 1 rfl dX12_chainOf_7 ?_
  refine tc_iload_n 2 rfl dX12_chainOf_8 ?_
  refine tc_iconst (v := 0) (by decide) dX12_chainOf_9 ?_
  obtain ⟨x24, u25, hq26, h⟩ := tc_b_ex h
  refine tc_callVi [.int v1, .int v2, .int 0] dX12_chainOf_10 iv0.1 (ct_X12_hashOf hW iv0 hq26) ml_X12_88 mw_X12_hashOf mv_X12_hashOf ⟨Nat.le_of_ble_eq_true rfl, Nat.le_of_ble_eq_true rfl⟩ rfl rfl (Nat.le_of_ble_eq_true rfl) ⟨Nat.le_refl _, Nat.le_refl _⟩ (by decide) ?_
  refine tc_istore_n [(3, .int x24), (0, .ref (z + v0)), (1, .int v1), (2, .int v2)] dX12_chainOf_13 (by decide) rfl ?_
  refine tc_aload_n 1 rfl dX12_chainOf_14 ?_
  refine tc_iload_n 2 rfl dX12_chainOf_15 ?_
  refine tc_iload_n 3 rfl dX12_chainOf_16 ?_
  refine tc_iconst (v := 1) (by decide) dX12_chainOf_17 ?_
  obtain ⟨x27, u28, hq29, h⟩ := tc_b_ex h
  refine tc_callVi [.int v1, .int v2, .int 1] dX12_chainOf_18 iv0.1 (ct_X12_hashOf hW iv0 hq29) ml_X12_88 mw_X12_hashOf mv_X12_hashOf ⟨Nat.le_of_ble_eq_true rfl, Nat.le_of_ble_eq_true rfl⟩ rfl rfl (Nat.le_of_ble_eq_true rfl) ⟨Nat.le_refl _, Nat.le_refl _⟩ (by decide) ?_
  refine tc_istore [(4, .int x27), (3, .int x24), (0, .ref (z + v0)), (1, .int v1), (2, .int v2)] dX12_chainOf_21 (by decide) rfl ?_
  refine tc_aload_n 2 rfl dX12_chainOf_23 ?_
  refine tc_getp hW iv0 fl_X12_24 dX12_chainOf_24 rfl ?_
  refine tc_iload 0 rfl dX12_chainOf_27 ?_
  obtain ⟨bx30, x30, ex30, h⟩ := tc_ld_ex h
  refine tc_iald (hW.p iv0 6 rfl).1 bx30 dX12_chainOf_29 ?_
  refine tc_nm ex30 ?_
  refine tc_aload_n 2 rfl dX12_chainOf_30 ?_
  refine tc_getp hW iv0 fl_X12_24 dX12_chainOf_31 rfl ?_
  refine tc_iload_n 1 rfl dX12_chainOf_34 ?_
  obtain ⟨bx31, x31, ex31, h⟩ := tc_ld_ex h
  refine tc_iald (hW.p iv0 6 rfl).1 bx31 dX12_chainOf_35 ?_
  refine tc_nm ex31 ?_
  refine tc_icmp_ge 44 dX12_chainOf_36 (by decide) (fun hc32 => ?_) (fun hc32 => ?_)
  · rw [if_pos hc32] at h
    refine tc_iload_n 1 rfl dX12_chainOf_44 ?_
    refine tc_lvs [2, 3] rfl ?_
    exact sb_X12_chainOf_45 hW r ur  v0 v1 x24 u28 iv0 h
  · rw [if_neg hc32] at h
    refine tc_iload 0 rfl dX12_chainOf_39 ?_
    refine tc_goto 45 dX12_chainOf_41 (by decide) ?_
    refine tc_lvs [2, 3] rfl ?_
    exact sb_X12_chainOf_45 hW r ur  v0 v1 x27 u28 iv0 h
set_option maxRecDepth 100000 in
set_option maxHeartbeats 4000000 in
theorem sb_X12_opens_138 {p : Program} {l : Launch} {e : Env} {s : State} {m : MethodId} {args : Array Value} {below : List Frame} {meth : Method} {c : Code} {z : Nat} {D : tc_D} {G : tc_G} (hW : tc_W G) (r : Int32) (ur : tc_S) (v5 : Int32) (s0 : Nat) (s1 : Int32) (s2 : Int32) (u : tc_S) (is0 : tc_is G s0 100) (h : bl_X12_opens_138 G v5 s0 s1 s2 u = some (r, ur)) : tc_R p l e { frames := 2, cells := 0, slots := 0, locals := 48 } s m args below meth c z D cX12_opens RX12 8 (some .int) 0 0 (tc_po r G ur) 0 0 G u 138 [(5, .int v5)] [.int s2, .int s1, .ref (z + s0)] := by
  unfold bl_X12_opens_138 at h
  obtain ⟨bu1, u1, eu1, h⟩ := tc_sd_ex h
  refine tc_iast is0.1 bu1 dX12_opens_138 ?_
  refine tc_nmu eu1 ?_
  refine tc_iload 0 rfl dX12_opens_139 ?_
  cases h
  exact tc_ireturn rfl dX12_opens_141 rfl rfl ⟨rfl, rfl, rfl⟩
set_option maxRecDepth 100000 in
set_option maxHeartbeats 4000000 in
theorem sl_X12_opens_61 {p : Program} {l : Launch} {e : Env} {s : State} {m : MethodId} {args : Array Value} {below : List Frame} {meth : Method} {c : Code} {z : Nat} {D : tc_D} {G : tc_G} (hW : tc_W G) (r : Int32) (ur : tc_S) : ∀ (n : Nat) (v0 : Nat) (v1 : Int32) (v2 : Int32) (v5 : Int32) (v6 : Int32) (u : tc_S) (iv0 : tc_is G v0 12) (h : lo_X12_opens_61 G n v0 v1 v2 v5 v6 u = some (r, ur)), tc_R p l e { frames := 2, cells := 0, slots := 0, locals := 48 } s m args below meth c z D cX12_opens RX12 8 (some .int) 0 0 (tc_po r G ur) 0 0 G u 61 [(0, .ref (z + v0)), (1, .int v1), (2, .int v2), (5, .int v5), (6, .int v6)] [] := by
  intro n
  induction n with
  | zero => intro v0 v1 v2 v5 v6 u iv0 h; cases h
  | succ n ih =>
    intro v0 v1 v2 v5 v6 u iv0 h
    rw [lo_X12_opens_61] at h
    refine tc_iload 4 rfl dX12_opens_61 ?_
    refine tc_if_lt 104 dX12_opens_63 (by decide) (fun hc2 => ?_) (fun hc2 => ?_)
    · rw [if_pos hc2] at h
      refine tc_aload_n 0 rfl dX12_opens_104 ?_
      refine tc_getp hW iv0 fl_X12_7 dX12_opens_105 rfl ?_
      refine tc_iload_n 1 rfl dX12_opens_108 ?_
      refine tc_bipush (v := 17) (by decide) dX12_opens_109 ?_
      refine tc_iadd dX12_opens_111 ?_
      refine tc_iload_n 2 rfl dX12_opens_112 ?_
      refine tc_aload_n 0 rfl dX12_opens_113 ?_
      refine tc_getp hW iv0 fl_X12_7 dX12_opens_114 rfl ?_
      refine tc_iload_n 1 rfl dX12_opens_117 ?_
      refine tc_bipush (v := 17) (by decide) dX12_opens_118 ?_
      refine tc_iadd dX12_opens_120 ?_
      obtain ⟨bx3, x3, ex3, h⟩ := tc_ld_ex h
      refine tc_iald (hW.p iv0 0 rfl).1 bx3 dX12_opens_121 ?_
      refine tc_nm ex3 ?_
      refine tc_icmp_le 129 dX12_opens_122 (by decide) (fun hc4 => ?_) (fun hc4 => ?_)
      · rw [if_pos hc4] at h
        refine tc_aload_n 0 rfl dX12_opens_129 ?_
        refine tc_getp hW iv0 fl_X12_7 dX12_opens_130 rfl ?_
        refine tc_iload_n 1 rfl dX12_opens_133 ?_
        refine tc_bipush (v := 17) (by decide) dX12_opens_134 ?_
        refine tc_iadd dX12_opens_136 ?_
        obtain ⟨bx5, x5, ex5, h⟩ := tc_ld_ex h
        refine tc_iald (hW.p iv0 0 rfl).1 bx5 dX12_opens_137 ?_
        refine tc_nm ex5 ?_
        refine tc_lvs [3] rfl ?_
        exact sb_X12_opens_138 hW r ur  v5 (tc_p G v0 0) (v1 + 17) x5 u (hW.p iv0 0 rfl) h
      · rw [if_neg hc4] at h
        refine tc_iload_n 2 rfl dX12_opens_125 ?_
        refine tc_goto 138 dX12_opens_126 (by decide) ?_
        refine tc_lvs [3] rfl ?_
        exact sb_X12_opens_138 hW r ur  v5 (tc_p G v0 0) (v1 + 17) v2 u (hW.p iv0 0 rfl) h
    · rw [if_neg hc2] at h
      refine tc_iload_n 1 rfl dX12_opens_66 ?_
      refine tc_aload_n 0 rfl dX12_opens_67 ?_
      refine tc_getp hW iv0 fl_X12_27 dX12_opens_68 rfl ?_
      refine tc_iload 4 rfl dX12_opens_71 ?_
      obtain ⟨bx6, x6, ex6, h⟩ := tc_ld_ex h
      refine tc_iald (hW.p iv0 7 rfl).1 bx6 dX12_opens_73 ?_
      refine tc_nm ex6 ?_
      refine tc_aload_n 0 rfl dX12_opens_74 ?_
      refine tc_getp hW iv0 fl_X12_30 dX12_opens_75 rfl ?_
      refine tc_iload 4 rfl dX12_opens_78 ?_
      obtain ⟨bx7, x7, ex7, h⟩ := tc_ld_ex h
      refine tc_iald (hW.p iv0 8 rfl).1 bx7 dX12_opens_80 ?_
      refine tc_nm ex7 ?_
      obtain ⟨x8, u9, hq10, h⟩ := tc_b_ex h
      refine tc_callSi [.int v1, .int x6, .int x7] dX12_opens_81 (ct_X12_cell hW hq10) ml_X12_92 mw_X12_cell ms_X12_cell ⟨Nat.le_of_ble_eq_true rfl, Nat.le_of_ble_eq_true rfl⟩ rfl rfl (Nat.le_of_ble_eq_true rfl) ⟨Nat.le_refl _, Nat.le_refl _⟩ ?_
      refine tc_istore [(7, .int x8), (0, .ref (z + v0)), (1, .int v1), (2, .int v2), (5, .int v5), (6, .int v6)] dX12_opens_84 (by decide) rfl ?_
      refine tc_aload_n 1 rfl dX12_opens_86 ?_
      refine tc_iload 0 rfl dX12_opens_87 ?_
      refine tc_iload 4 rfl dX12_opens_89 ?_
      obtain ⟨x11, u12, hq13, h⟩ := tc_b_ex h
      refine tc_callVv [.int x8, .int v5] dX12_opens_91 iv0.1 (ct_X12_moves hW iv0 hq13) ml_X12_116 mw_X12_moves mv_X12_moves ⟨Nat.le_of_ble_eq_true rfl, Nat.le_of_ble_eq_true rfl⟩ rfl rfl (Nat.le_of_ble_eq_true rfl) ⟨Nat.le_refl _, Nat.le_refl _⟩ (by decide) ?_
      refine tc_iload 0 rfl dX12_opens_94 ?_
      refine tc_istore [(5, .int x8), (7, .int x8), (0, .ref (z + v0)), (1, .int v1), (2, .int v2), (6, .int v6)] dX12_opens_96 (by decide) rfl ?_
      obtain ⟨x14, ex14, h⟩ := tc_let_ex h
      refine tc_iinc 5 (v := x14) [(6, .int x14), (5, .int x8), (7, .int x8), (0, .ref (z + v0)), (1, .int v1), (2, .int v2)] dX12_opens_98 rfl (by rw [ex14]; rfl) (by decide) rfl ?_
      refine tc_goto 61 dX12_opens_101 (by decide) ?_
      refine tc_lvs [3, 4, 5, 1, 0] rfl ?_
      exact ih v0 v1 v2 x8 x14 u12 iv0 h
set_option maxRecDepth 100000 in
set_option maxHeartbeats 4000000 in
theorem ct_X12_opens {l : Launch} {z : Nat} {D : tc_D} {G : tc_G} (hW : tc_W G) {v0 : Nat} {v1 : Int32} {v2 : Int32} {u : tc_S} {r : Int32} {ur : tc_S} (iv0 : tc_is G v0 12) (h : fn_X12_opens G v0 v1 v2 u = some (r, ur)) : tc_C l z D yX12_opens cX12_opens 8 (some .int) 2 48 0 0 [.ref (z + v0), .int v1, .int v2] G u (tc_po r G ur) := by
  unfold fn_X12_opens at h
  refine tc_C.of (by decide) (Nat.le_of_ble_eq_true rfl) fun p e s m args below meth c => ?_
  show tc_R p l e { frames := 2, cells := 0, slots := 0, locals := 48 } s m args below meth c z D cX12_opens RX12 8 (some .int) 0 0 (tc_po r G ur) 0 0 G u 0 [(0, .ref (z + v0)), (1, .int v1), (2, .int v2)] []
  refine tc_iload_n 1 rfl dX12_opens_0 ?_
  refine tc_aload_n 0 rfl dX12_opens_1 ?_
  refine tc_getp hW iv0 fl_X12_27 dX12_opens_2 rfl ?_
  refine tc_iload_n 2 rfl dX12_opens_5 ?_
  refine tc_iconst (v := 1) (by decide) dX12_opens_6 ?_
  refine tc_isub dX12_opens_7 ?_
  obtain ⟨bx15, x15, ex15, h⟩ := tc_ld_ex h
  refine tc_iald (hW.p iv0 7 rfl).1 bx15 dX12_opens_8 ?_
  refine tc_nm ex15 ?_
  refine tc_aload_n 0 rfl dX12_opens_9 ?_
  refine tc_getp hW iv0 fl_X12_30 dX12_opens_10 rfl ?_
  refine tc_iload_n 2 rfl dX12_opens_13 ?_
  refine tc_iconst (v := 1) (by decide) dX12_opens_14 ?_
  refine tc_isub dX12_opens_15 ?_
  obtain ⟨bx16, x16, ex16, h⟩ := tc_ld_ex h
  refine tc_iald (hW.p iv0 8 rfl).1 bx16 dX12_opens_16 ?_
  refine tc_nm ex16 ?_
  obtain ⟨x17, u18, hq19, h⟩ := tc_b_ex h
  refine tc_callSi [.int v1, .int x15, .int x16] dX12_opens_17 (ct_X12_cell hW hq19) ml_X12_92 mw_X12_cell ms_X12_cell ⟨Nat.le_of_ble_eq_true rfl, Nat.le_of_ble_eq_true rfl⟩ rfl rfl (Nat.le_of_ble_eq_true rfl) ⟨Nat.le_refl _, Nat.le_refl _⟩ ?_
  refine tc_istore_n [(3, .int x17), (0, .ref (z + v0)), (1, .int v1), (2, .int v2)] dX12_opens_20 (by decide) rfl ?_
  refine tc_aload_n 1 rfl dX12_opens_21 ?_
  refine tc_iload_n 2 rfl dX12_opens_22 ?_
  refine tc_aload_n 1 rfl dX12_opens_23 ?_
  refine tc_iload_n 0 rfl dX12_opens_24 ?_
  obtain ⟨x20, u21, hq22, h⟩ := tc_b_ex h
  refine tc_callVi [.int x17] dX12_opens_25 iv0.1 (ct_X12_keyOf hW iv0 hq22) ml_X12_103 mw_X12_keyOf mv_X12_keyOf ⟨Nat.le_of_ble_eq_true rfl, Nat.le_of_ble_eq_true rfl⟩ rfl rfl (Nat.le_of_ble_eq_true rfl) ⟨Nat.le_refl _, Nat.le_refl _⟩ (by decide) ?_
  refine tc_aload_n 1 rfl dX12_opens_28 ?_
  refine tc_getp hW iv0 fl_X12_27 dX12_opens_29 rfl ?_
  refine tc_iload_n 3 rfl dX12_opens_32 ?_
  refine tc_iconst (v := 1) (by decide) dX12_opens_33 ?_
  refine tc_isub dX12_opens_34 ?_
  obtain ⟨bx23, x23, ex23, h⟩ := tc_ld_ex h
  refine tc_iald (hW.p iv0 7 rfl).1 bx23 dX12_opens_35 ?_
  refine tc_nm ex23 ?_
  obtain ⟨x24, u25, hq26, h⟩ := tc_b_ex h
  refine tc_callVi [.int v1, .int x20, .int x23] dX12_opens_36 iv0.1 (ct_X12_otherOf hW iv0 hq26) ml_X12_107 mw_X12_otherOf mv_X12_otherOf ⟨Nat.le_of_ble_eq_true rfl, Nat.le_of_ble_eq_true rfl⟩ rfl rfl (Nat.le_of_ble_eq_true rfl) ⟨Nat.le_refl _, Nat.le_refl _⟩ (by decide) ?_
  refine tc_istore [(4, .int x24), (3, .int x17), (0, .ref (z + v0)), (1, .int v1), (2, .int v2)] dX12_opens_39 (by decide) rfl ?_
  refine tc_iload_n 3 rfl dX12_opens_41 ?_
  refine tc_iload 0 rfl dX12_opens_42 ?_
  refine tc_aload_n 2 rfl dX12_opens_44 ?_
  refine tc_iload_n 3 rfl dX12_opens_45 ?_
  refine tc_iload 0 rfl dX12_opens_46 ?_
  obtain ⟨x27, u28, hq29, h⟩ := tc_b_ex h
  refine tc_callVi [.int v1, .int x24] dX12_opens_48 iv0.1 (ct_X12_emptyIn hW iv0 hq29) ml_X12_99 mw_X12_emptyIn mv_X12_emptyIn ⟨Nat.le_of_ble_eq_true rfl, Nat.le_of_ble_eq_true rfl⟩ rfl rfl (Nat.le_of_ble_eq_true rfl) ⟨Nat.le_refl _, Nat.le_refl _⟩ (by decide) ?_
  obtain ⟨x30, u31, hq32, h⟩ := tc_b_ex h
  refine tc_callSi [.int v1, .int x24, .int x27] dX12_opens_51 (ct_X12_cell hW hq32) ml_X12_92 mw_X12_cell ms_X12_cell ⟨Nat.le_of_ble_eq_true rfl, Nat.le_of_ble_eq_true rfl⟩ rfl rfl (Nat.le_of_ble_eq_true rfl) ⟨Nat.le_refl _, Nat.le_refl _⟩ ?_
  refine tc_istore [(5, .int x30), (4, .int x24), (3, .int x17), (0, .ref (z + v0)), (1, .int v1), (2, .int v2)] dX12_opens_54 (by decide) rfl ?_
  refine tc_iload_n 5 rfl dX12_opens_56 ?_
  refine tc_iconst (v := 1) (by decide) dX12_opens_57 ?_
  refine tc_isub dX12_opens_58 ?_
  obtain ⟨x33, ex33, h⟩ := tc_let_ex h
  refine tc_nm ex33 ?_
  refine tc_istore [(6, .int x33), (5, .int x30), (4, .int x24), (3, .int x17), (0, .ref (z + v0)), (1, .int v1), (2, .int v2)] dX12_opens_59 (by decide) rfl ?_
  refine tc_lvs [4, 5, 6, 1, 0] rfl ?_
  exact sl_X12_opens_61 hW r ur  _ v0 v1 v2 x30 x33 u31 iv0 h
set_option maxRecDepth 100000 in
set_option maxHeartbeats 4000000 in
theorem sl_X12_freeFor_2 {p : Program} {l : Launch} {e : Env} {s : State} {m : MethodId} {args : Array Value} {below : List Frame} {meth : Method} {c : Code} {z : Nat} {D : tc_D} {G : tc_G} (hW : tc_W G) (r : Int32) (ur : tc_S) : ∀ (n : Nat) (v0 : Nat) (v1 : Int32) (v2 : Int32) (v3 : Int32) (u : tc_S) (iv0 : tc_is G v0 12) (h : lo_X12_freeFor_2 G n v0 v1 v2 v3 u = some (r, ur)), tc_R p l e { frames := 2, cells := 0, slots := 0, locals := 45 } s m args below meth c z D cX12_freeFor RX12 5 (some .int) 0 0 (tc_po r G ur) 0 0 G u 2 [(0, .ref (z + v0)), (1, .int v1), (2, .int v2), (3, .int v3)] [] := by
  intro n
  induction n with
  | zero => intro v0 v1 v2 v3 u iv0 h; cases h
  | succ n ih =>
    intro v0 v1 v2 v3 u iv0 h
    rw [lo_X12_freeFor_2] at h
    refine tc_iload_n 3 rfl dX12_freeFor_2 ?_
    refine tc_iconst (v := 2) (by decide) dX12_freeFor_3 ?_
    refine tc_icmp_ge 46 dX12_freeFor_4 (by decide) (fun hc1 => ?_) (fun hc1 => ?_)
    · rw [if_pos hc1] at h
      refine tc_iconst (v := (-1)) (by decide) dX12_freeFor_46 ?_
      cases h
      exact tc_ireturn rfl dX12_freeFor_47 rfl rfl ⟨rfl, rfl, rfl⟩
    · rw [if_neg hc1] at h
      refine tc_aload_n 0 rfl dX12_freeFor_7 ?_
      refine tc_iload_n 1 rfl dX12_freeFor_8 ?_
      refine tc_iload_n 2 rfl dX12_freeFor_9 ?_
      refine tc_iload_n 3 rfl dX12_freeFor_10 ?_
      obtain ⟨x2, u3, hq4, h⟩ := tc_b_ex h
      refine tc_callVi [.int v1, .int v2, .int v3] dX12_freeFor_11 iv0.1 (ct_X12_hashOf hW iv0 hq4) ml_X12_88 mw_X12_hashOf mv_X12_hashOf ⟨Nat.le_of_ble_eq_true rfl, Nat.le_of_ble_eq_true rfl⟩ rfl rfl (Nat.le_of_ble_eq_true rfl) ⟨Nat.le_refl _, Nat.le_refl _⟩ (by decide) ?_
      refine tc_istore [(4, .int x2), (0, .ref (z + v0)), (1, .int v1), (2, .int v2), (3, .int v3)] dX12_freeFor_14 (by decide) rfl ?_
      refine tc_aload_n 1 rfl dX12_freeFor_16 ?_
      refine tc_iload_n 2 rfl dX12_freeFor_17 ?_
      refine tc_iload 0 rfl dX12_freeFor_18 ?_
      obtain ⟨x5, u6, hq7, h⟩ := tc_b_ex h
      refine tc_callVi [.int v1, .int x2] dX12_freeFor_20 iv0.1 (ct_X12_emptyIn hW iv0 hq7) ml_X12_99 mw_X12_emptyIn mv_X12_emptyIn ⟨Nat.le_of_ble_eq_true rfl, Nat.le_of_ble_eq_true rfl⟩ rfl rfl (Nat.le_of_ble_eq_true rfl) ⟨Nat.le_refl _, Nat.le_refl _⟩ (by decide) ?_
      refine tc_if_lt 40 dX12_freeFor_23 (by decide) (fun hc8 => ?_) (fun hc8 => ?_)
      · rw [if_pos hc8] at h
        obtain ⟨x9, ex9, h⟩ := tc_let_ex h
        refine tc_iinc 4 (v := x9) [(3, .int x9), (4, .int x2), (0, .ref (z + v0)), (1, .int v1), (2, .int v2)] dX12_freeFor_40 rfl (by rw [ex9]; rfl) (by decide) rfl ?_
        refine tc_goto 2 dX12_freeFor_43 (by decide) ?_
        refine tc_lvs [2, 3, 4, 0] rfl ?_
        exact ih v0 v1 v2 x9 u6 iv0 h
      · rw [if_neg hc8] at h
        refine tc_iload_n 2 rfl dX12_freeFor_26 ?_
        refine tc_iload 0 rfl dX12_freeFor_27 ?_
        refine tc_aload_n 1 rfl dX12_freeFor_29 ?_
        refine tc_iload_n 2 rfl dX12_freeFor_30 ?_
        refine tc_iload 0 rfl dX12_freeFor_31 ?_
        obtain ⟨x10, u11, hq12, h⟩ := tc_b_ex h
        refine tc_callVi [.int v1, .int x2] dX12_freeFor_33 iv0.1 (ct_X12_emptyIn hW iv0 hq12) ml_X12_99 mw_X12_emptyIn mv_X12_emptyIn ⟨Nat.le_of_ble_eq_true rfl, Nat.le_of_ble_eq_true rfl⟩ rfl rfl (Nat.le_of_ble_eq_true rfl) ⟨Nat.le_refl _, Nat.le_refl _⟩ (by decide) ?_
        obtain ⟨x13, u14, hq15, h⟩ := tc_b_ex h
        refine tc_callSi [.int v1, .int x2, .int x10] dX12_freeFor_36 (ct_X12_cell hW hq15) ml_X12_92 mw_X12_cell ms_X12_cell ⟨Nat.le_of_ble_eq_true rfl, Nat.le_of_ble_eq_true rfl⟩ rfl rfl (Nat.le_of_ble_eq_true rfl) ⟨Nat.le_refl _, Nat.le_refl _⟩ ?_
        cases h
        exact tc_ireturn rfl dX12_freeFor_39 rfl rfl ⟨rfl, rfl, rfl⟩
set_option maxRecDepth 100000 in
set_option maxHeartbeats 4000000 in
theorem ct_X12_freeFor {l : Launch} {z : Nat} {D : tc_D} {G : tc_G} (hW : tc_W G) {v0 : Nat} {v1 : Int32} {v2 : Int32} {u : tc_S} {r : Int32} {ur : tc_S} (iv0 : tc_is G v0 12) (h : fn_X12_freeFor G v0 v1 v2 u = some (r, ur)) : tc_C l z D yX12_freeFor cX12_freeFor 5 (some .int) 2 45 0 0 [.ref (z + v0), .int v1, .int v2] G u (tc_po r G ur) := by
  unfold fn_X12_freeFor at h
  refine tc_C.of (by decide) (Nat.le_of_ble_eq_true rfl) fun p e s m args below meth c => ?_
  show tc_R p l e { frames := 2, cells := 0, slots := 0, locals := 45 } s m args below meth c z D cX12_freeFor RX12 5 (some .int) 0 0 (tc_po r G ur) 0 0 G u 0 [(0, .ref (z + v0)), (1, .int v1), (2, .int v2)] []
  refine tc_iconst (v := 0) (by decide) dX12_freeFor_0 ?_
  refine tc_istore_n [(3, .int 0), (0, .ref (z + v0)), (1, .int v1), (2, .int v2)] dX12_freeFor_1 (by decide) rfl ?_
  refine tc_lvs [1, 2, 3, 0] rfl ?_
  exact sl_X12_freeFor_2 hW r ur  _ v0 v1 v2 0 u iv0 h
