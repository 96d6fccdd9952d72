set_option maxRecDepth 100000 in
set_option maxHeartbeats 4000000 in
theorem ct_X8_takeHashes {l : Launch} {z : Nat} {D : tc_D} {G : tc_G} (hW : tc_W G) {v0 : Nat} {v1 : Int32} {v2 : Int32} {v3 : Int32} {v4 : Int32} {u : tc_S} {r : Int32} {ur : tc_S} (iv0 : tc_is G v0 8) (h : fn_X8_takeHashes G v0 v1 v2 v3 v4 u = some (r, ur)) : tc_C l z D yX8_takeHashes cX8_takeHashes 5 none 0 0 0 0 [.ref (z + v0), .int v1, .int v2, .int v3, .int v4] G u (tc_pv G ur) := by
  unfold fn_X8_takeHashes at h
  refine tc_C.of (by decide) (Nat.le_of_ble_eq_true rfl) fun p e s m args below meth c => ?_
  show tc_R p l e { frames := 0, cells := 0, slots := 0, locals := 0 } s m args below meth c z D cX8_takeHashes RX8 5 none 0 0 (tc_pv G ur) 0 0 G u 0 [(0, .ref (z + v0)), (1, .int v1), (2, .int v2), (3, .int v3), (4, .int v4)] []
  refine tc_aload_n 0 rfl dX8_takeHashes_0 ?_
  refine tc_iload_n 1 rfl dX8_takeHashes_1 ?_
  obtain ⟨u1, eu1, h⟩ := tc_let_ex h
  refine tc_puti iv0.1 fl_X8_50 dX8_takeHashes_2 ?_
  refine tc_nmu eu1 ?_
  refine tc_aload_n 0 rfl dX8_takeHashes_5 ?_
  refine tc_iload_n 2 rfl dX8_takeHashes_6 ?_
  obtain ⟨u2, eu2, h⟩ := tc_let_ex h
  refine tc_puti iv0.1 fl_X8_53 dX8_takeHashes_7 ?_
  refine tc_nmu eu2 ?_
  refine tc_aload_n 0 rfl dX8_takeHashes_10 ?_
  refine tc_iload_n 3 rfl dX8_takeHashes_11 ?_
  obtain ⟨u3, eu3, h⟩ := tc_let_ex h
  refine tc_puti iv0.1 fl_X8_56 dX8_takeHashes_12 ?_
  refine tc_nmu eu3 ?_
  refine tc_aload_n 0 rfl dX8_takeHashes_15 ?_
  refine tc_iload 4 rfl dX8_takeHashes_16 ?_
  obtain ⟨u4, eu4, h⟩ := tc_let_ex h
  refine tc_puti iv0.1 fl_X8_59 dX8_takeHashes_18 ?_
  refine tc_nmu eu4 ?_
  cases h
  exact tc_return rfl dX8_takeHashes_21 rfl rfl ⟨rfl, rfl, rfl⟩
set_option maxRecDepth 100000 in
set_option maxHeartbeats 4000000 in
theorem ct_X8_begin {l : Launch} {z : Nat} {D : tc_D} {G : tc_G} (hW : tc_W G) {v0 : Nat} {u : tc_S} {r : Int32} {ur : tc_S} (iv0 : tc_is G v0 8) (h : fn_X8_begin G v0 u = some (r, ur)) : tc_C l z D yX8_begin cX8_begin 1 none 1 24 0 0 [.ref (z + v0)] G u (tc_pv G ur) := by
  unfold fn_X8_begin at h
  refine tc_C.of (by decide) (Nat.le_of_ble_eq_true rfl) fun p e s m args below meth c => ?_
  show tc_R p l e { frames := 1, cells := 0, slots := 0, locals := 24 } s m args below meth c z D cX8_begin RX8 1 none 0 0 (tc_pv G ur) 0 0 G u 0 [(0, .ref (z + v0))] []
  refine tc_aload_n 0 rfl dX8_begin_0 ?_
  refine tc_iconst (v := 4) (by decide) dX8_begin_1 ?_
  obtain ⟨u1, eu1, h⟩ := tc_let_ex h
  refine tc_puti iv0.1 fl_X8_21 dX8_begin_2 ?_
  refine tc_nmu eu1 ?_
  refine tc_aload_n 0 rfl dX8_begin_5 ?_
  refine tc_iconst (v := 2) (by decide) dX8_begin_6 ?_
  obtain ⟨u2, eu2, h⟩ := tc_let_ex h
  refine tc_puti iv0.1 fl_X8_25 dX8_begin_7 ?_
  refine tc_nmu eu2 ?_
  refine tc_aload_n 0 rfl dX8_begin_10 ?_
  refine tc_iconst (v := 2) (by decide) dX8_begin_11 ?_
  obtain ⟨u3, eu3, h⟩ := tc_let_ex h
  refine tc_puti iv0.1 fl_X8_28 dX8_begin_12 ?_
  refine tc_nmu eu3 ?_
  refine tc_aload_n 0 rfl dX8_begin_15 ?_
  refine tc_bipush (v := 6) (by decide) dX8_begin_16 ?_
  obtain ⟨u4, eu4, h⟩ := tc_let_ex h
  refine tc_puti iv0.1 fl_X8_31 dX8_begin_18 ?_
  refine tc_nmu eu4 ?_
  refine tc_aload_n 0 rfl dX8_begin_21 ?_
  refine tc_iconst (v := 2) (by decide) dX8_begin_22 ?_
  obtain ⟨u5, eu5, h⟩ := tc_let_ex h
  refine tc_puti iv0.1 fl_X8_34 dX8_begin_23 ?_
  refine tc_nmu eu5 ?_
  refine tc_aload_n 0 rfl dX8_begin_26 ?_
  refine tc_iconst (v := 2) (by decide) dX8_begin_27 ?_
  obtain ⟨u6, eu6, h⟩ := tc_let_ex h
  refine tc_puti iv0.1 fl_X8_37 dX8_begin_28 ?_
  refine tc_nmu eu6 ?_
  refine tc_aload_n 0 rfl dX8_begin_31 ?_
  refine tc_iconst (v := 0) (by decide) dX8_begin_32 ?_
  obtain ⟨u7, eu7, h⟩ := tc_let_ex h
  refine tc_puti iv0.1 fl_X8_40 dX8_begin_33 ?_
  refine tc_nmu eu7 ?_
  refine tc_aload_n 0 rfl dX8_begin_36 ?_
  refine tc_iconst (v := 3) (by decide) dX8_begin_37 ?_
  refine tc_iconst (v := 1) (by decide) dX8_begin_38 ?_
  refine tc_iconst (v := 5) (by decide) dX8_begin_39 ?_
  refine tc_iconst (v := 2) (by decide) dX8_begin_40 ?_
  obtain ⟨x8, u9, hq10, h⟩ := tc_b_ex h
  refine tc_callVv [.int 3, .int 1, .int 5, .int 2] dX8_begin_41 iv0.1 (ct_X8_takeHashes hW iv0 hq10) ml_X8_43 mw_X8_takeHashes mv_X8_takeHashes ⟨Nat.le_of_ble_eq_true rfl, Nat.le_of_ble_eq_true rfl⟩ rfl rfl (Nat.le_of_ble_eq_true rfl) ⟨Nat.le_refl _, Nat.le_refl _⟩ (by decide) ?_
  refine tc_aload_n 0 rfl dX8_begin_44 ?_
  refine tc_getp hW iv0 fl_X8_12 dX8_begin_45 rfl ?_
  refine tc_iconst (v := 0) (by decide) dX8_begin_48 ?_
  obtain ⟨u11, eu11, h⟩ := tc_let_ex h
  refine tc_puti (hW.p iv0 11 rfl).1 fl_X8_47 dX8_begin_49 ?_
  refine tc_nmu eu11 ?_
  cases h
  exact tc_return rfl dX8_begin_52 rfl rfl ⟨rfl, rfl, rfl⟩
set_option maxRecDepth 100000 in
set_option maxHeartbeats 4000000 in
theorem sl_J7_fill_53178_5 {p : Program} {l : Launch} {e : Env} {s : State} {m : MethodId} {args : Array Value} {below : List Frame} {meth : Method} {c : Code} {z : Nat} {D : tc_D} {G : tc_G} (hW : tc_W G) (r : Int32) (ur : tc_S) : ∀ (n : Nat) (v0 : Nat) (v1 : Int32) (v2 : Int32) (v3 : Int32) (u : tc_S) (iv0 : tc_is G v0 100) (h : lo_J7_fill_53178_5 G n v0 v1 v2 v3 u = some (r, ur)), tc_R p l e { frames := 0, cells := 0, slots := 0, locals := 0 } s m args below meth c z D cJ7_fill_53178 RJ7 4 none 0 0 (tc_pv G ur) 0 0 G u 5 [(0, .ref (z + v0)), (1, .int v1), (2, .int v2), (3, .int v3)] [] := by
  intro n
  induction n with
  | zero => intro v0 v1 v2 v3 u iv0 h; cases h
  | succ n ih =>
    intro v0 v1 v2 v3 u iv0 h
    rw [lo_J7_fill_53178_5] at h
    refine tc_iload_n 2 rfl dJ7_fill_53178_5 ?_
    refine tc_iload_n 3 rfl dJ7_fill_53178_6 ?_
    refine tc_icmp_ge 20 dJ7_fill_53178_7 (by decide) (fun hc1 => ?_) (fun hc1 => ?_)
    · rw [if_pos hc1] at h
      cases h
      exact tc_return rfl dJ7_fill_53178_20 rfl rfl ⟨rfl, rfl, rfl⟩
    · rw [if_neg hc1] at h
      refine tc_aload_n 0 rfl dJ7_fill_53178_10 ?_
      refine tc_iload_n 2 rfl dJ7_fill_53178_11 ?_
      refine tc_iload_n 1 rfl dJ7_fill_53178_12 ?_
      obtain ⟨bu2, u2, eu2, h⟩ := tc_sd_ex h
      refine tc_iast iv0.1 bu2 dJ7_fill_53178_13 ?_
      refine tc_nmu eu2 ?_
      obtain ⟨x3, ex3, h⟩ := tc_let_ex h
      refine tc_iinc 2 (v := x3) [(2, .int x3), (0, .ref (z + v0)), (1, .int v1), (3, .int v3)] dJ7_fill_53178_14 rfl (by rw [ex3]; rfl) (by decide) rfl ?_
      refine tc_goto 5 dJ7_fill_53178_17 (by decide) ?_
      refine tc_lvs [1, 2, 0, 3] rfl ?_
      exact ih v0 v1 x3 v3 u2 iv0 h
set_option maxRecDepth 100000 in
set_option maxHeartbeats 4000000 in
theorem ct_J7_fill_53178 {l : Launch} {z : Nat} {D : tc_D} {G : tc_G} (hW : tc_W G) {v0 : Nat} {v1 : Int32} {u : tc_S} {r : Int32} {ur : tc_S} (iv0 : tc_is G v0 100) (h : fn_J7_fill_53178 G v0 v1 u = some (r, ur)) : tc_C l z D yJ7_fill_53178 cJ7_fill_53178 4 none 0 0 0 0 [.ref (z + v0), .int v1] G u (tc_pv G ur) := by
  unfold fn_J7_fill_53178 at h
  refine tc_C.of (by decide) (Nat.le_of_ble_eq_true rfl) fun p e s m args below meth c => ?_
  show tc_R p l e { frames := 0, cells := 0, slots := 0, locals := 0 } s m args below meth c z D cJ7_fill_53178 RJ7 4 none 0 0 (tc_pv G ur) 0 0 G u 0 [(0, .ref (z + v0)), (1, .int v1)] []
  refine tc_iconst (v := 0) (by decide) dJ7_fill_53178_0 ?_
  refine tc_istore_n [(2, .int 0), (0, .ref (z + v0)), (1, .int v1)] dJ7_fill_53178_1 (by decide) rfl ?_
  refine tc_aload_n 1 rfl dJ7_fill_53178_2 ?_
  refine tc_alen' iv0.1 (by decide) (by decide) dJ7_fill_53178_3 ?_
  obtain ⟨x4, ex4, h⟩ := tc_let_ex h
  refine tc_nm ex4 ?_
  refine tc_istore_n [(3, .int x4), (2, .int 0), (0, .ref (z + v0)), (1, .int v1)] dJ7_fill_53178_4 (by decide) rfl ?_
  refine tc_lvs [2, 3, 1, 0] rfl ?_
  exact sl_J7_fill_53178_5 hW r ur  _ v0 v1 0 x4 u iv0 h
set_option maxRecDepth 100000 in
set_option maxHeartbeats 4000000 in
theorem ct_X9_clear {l : Launch} {z : Nat} {D : tc_D} {G : tc_G} (hW : tc_W G) {v0 : Nat} {u : tc_S} {r : Int32} {ur : tc_S} (iv0 : tc_is G v0 9) (h : fn_X9_clear G v0 u = some (r, ur)) : tc_C l z D yX9_clear cX9_clear 1 none 1 23 0 0 [.ref (z + v0)] G u (tc_pv G ur) := by
  unfold fn_X9_clear at h
  refine tc_C.of (by decide) (Nat.le_of_ble_eq_true rfl) fun p e s m args below meth c => ?_
  show tc_R p l e { frames := 1, cells := 0, slots := 0, locals := 23 } s m args below meth c z D cX9_clear RX9 1 none 0 0 (tc_pv G ur) 0 0 G u 0 [(0, .ref (z + v0))] []
  refine tc_aload_n 0 rfl dX9_clear_0 ?_
  refine tc_getp hW iv0 fl_X9_29 dX9_clear_1 rfl ?_
  refine tc_iconst (v := (-1)) (by decide) dX9_clear_4 ?_
  obtain ⟨x1, u2, hq3, h⟩ := tc_b_ex h
  refine tc_callSv [.ref (z + (tc_p G v0 3)), .int (-1)] dX9_clear_5 (ct_J7_fill_53178 hW (hW.p iv0 3 rfl) hq3) ml_X9_72 mw_J7_fill_53178 ms_J7_fill_53178 ⟨Nat.le_of_ble_eq_true rfl, Nat.le_of_ble_eq_true rfl⟩ rfl rfl (Nat.le_of_ble_eq_true rfl) ⟨Nat.le_refl _, Nat.le_refl _⟩ ?_
  refine tc_aload_n 0 rfl dX9_clear_8 ?_
  refine tc_getp hW iv0 fl_X9_18 dX9_clear_9 rfl ?_
  refine tc_iconst (v := 0) (by decide) dX9_clear_12 ?_
  obtain ⟨x4, u5, hq6, h⟩ := tc_b_ex h
  refine tc_callSv [.ref (z + (tc_p G v0 9)), .int 0] dX9_clear_13 (ct_J7_fill_53178 hW (hW.p iv0 9 rfl) hq6) ml_X9_72 mw_J7_fill_53178 ms_J7_fill_53178 ⟨Nat.le_of_ble_eq_true rfl, Nat.le_of_ble_eq_true rfl⟩ rfl rfl (Nat.le_of_ble_eq_true rfl) ⟨Nat.le_refl _, Nat.le_refl _⟩ ?_
  refine tc_aload_n 0 rfl dX9_clear_16 ?_
  refine tc_iconst (v := 0) (by decide) dX9_clear_17 ?_
  obtain ⟨u7, eu7, h⟩ := tc_let_ex h
  refine tc_puti iv0.1 fl_X9_77 dX9_clear_18 ?_
  refine tc_nmu eu7 ?_
  cases h
  exact tc_return rfl dX9_clear_21 rfl rfl ⟨rfl, rfl, rfl⟩
set_option maxRecDepth 100000 in
set_option maxHeartbeats 4000000 in
theorem ct_X8_copyFrom {l : Launch} {z : Nat} {D : tc_D} {G : tc_G} (hW : tc_W G) {v0 : Nat} {v1 : Nat} {u : tc_S} {r : Int32} {ur : tc_S} (iv0 : tc_is G v0 8) (iv1 : tc_is G v1 8) (h : fn_X8_copyFrom G v0 v1 u = some (r, ur)) : tc_C l z D yX8_copyFrom cX8_copyFrom 2 none 1 24 0 0 [.ref (z + v0), .ref (z + v1)] G u (tc_pv G ur) := by
  unfold fn_X8_copyFrom at h
  refine tc_C.of (by decide) (Nat.le_of_ble_eq_true rfl) fun p e s m args below meth c => ?_
  show tc_R p l e { frames := 1, cells := 0, slots := 0, locals := 24 } s m args below meth c z D cX8_copyFrom RX8 2 none 0 0 (tc_pv G ur) 0 0 G u 0 [(0, .ref (z + v0)), (1, .ref (z + v1))] []
  refine tc_aload_n 0 rfl dX8_copyFrom_0 ?_
  refine tc_aload_n 1 rfl dX8_copyFrom_1 ?_
  refine tc_geti iv1.1 fl_X8_21 dX8_copyFrom_2 ?_
  obtain ⟨u1, eu1, h⟩ := tc_let_ex h
  refine tc_puti iv0.1 fl_X8_21 dX8_copyFrom_5 ?_
  refine tc_nmu eu1 ?_
  refine tc_aload_n 0 rfl dX8_copyFrom_8 ?_
  refine tc_aload_n 1 rfl dX8_copyFrom_9 ?_
  refine tc_geti iv1.1 fl_X8_25 dX8_copyFrom_10 ?_
  obtain ⟨u2, eu2, h⟩ := tc_let_ex h
  refine tc_puti iv0.1 fl_X8_25 dX8_copyFrom_13 ?_
  refine tc_nmu eu2 ?_
  refine tc_aload_n 0 rfl dX8_copyFrom_16 ?_
  refine tc_aload_n 1 rfl dX8_copyFrom_17 ?_
  refine tc_geti iv1.1 fl_X8_28 dX8_copyFrom_18 ?_
  obtain ⟨u3, eu3, h⟩ := tc_let_ex h
  refine tc_puti iv0.1 fl_X8_28 dX8_copyFrom_21 ?_
  refine tc_nmu eu3 ?_
  refine tc_aload_n 0 rfl dX8_copyFrom_24 ?_
  refine tc_aload_n 1 rfl dX8_copyFrom_25 ?_
  refine tc_geti iv1.1 fl_X8_31 dX8_copyFrom_26 ?_
  obtain ⟨u4, eu4, h⟩ := tc_let_ex h
  refine tc_puti iv0.1 fl_X8_31 dX8_copyFrom_29 ?_
  refine tc_nmu eu4 ?_
  refine tc_aload_n 0 rfl dX8_copyFrom_32 ?_
  refine tc_aload_n 1 rfl dX8_copyFrom_33 ?_
  refine tc_geti iv1.1 fl_X8_34 dX8_copyFrom_34 ?_
  obtain ⟨u5, eu5, h⟩ := tc_let_ex h
  refine tc_puti iv0.1 fl_X8_34 dX8_copyFrom_37 ?_
  refine tc_nmu eu5 ?_
  refine tc_aload_n 0 rfl dX8_copyFrom_40 ?_
  refine tc_aload_n 1 rfl dX8_copyFrom_41 ?_
  refine tc_geti iv1.1 fl_X8_37 dX8_copyFrom_42 ?_
  obtain ⟨u6, eu6, h⟩ := tc_let_ex h
  refine tc_puti iv0.1 fl_X8_37 dX8_copyFrom_45 ?_
  refine tc_nmu eu6 ?_
  refine tc_aload_n 0 rfl dX8_copyFrom_48 ?_
  refine tc_aload_n 1 rfl dX8_copyFrom_49 ?_
  refine tc_geti iv1.1 fl_X8_40 dX8_copyFrom_50 ?_
  obtain ⟨u7, eu7, h⟩ := tc_let_ex h
  refine tc_puti iv0.1 fl_X8_40 dX8_copyFrom_53 ?_
  refine tc_nmu eu7 ?_
  refine tc_aload_n 0 rfl dX8_copyFrom_56 ?_
  refine tc_aload_n 1 rfl dX8_copyFrom_57 ?_
  refine tc_geti iv1.1 fl_X8_50 dX8_copyFrom_58 ?_
  refine tc_aload_n 1 rfl dX8_copyFrom_61 ?_
  refine tc_geti iv1.1 fl_X8_53 dX8_copyFrom_62 ?_
  refine tc_aload_n 1 rfl dX8_copyFrom_65 ?_
  refine tc_geti iv1.1 fl_X8_56 dX8_copyFrom_66 ?_
  refine tc_aload_n 1 rfl dX8_copyFrom_69 ?_
  refine tc_geti iv1.1 fl_X8_59 dX8_copyFrom_70 ?_
  obtain ⟨x8, u9, hq10, h⟩ := tc_b_ex h
  refine tc_callVv [.int (u7.1 v1 7), .int (u7.1 v1 8), .int (u7.1 v1 9), .int (u7.1 v1 10)] dX8_copyFrom_73 iv0.1 (ct_X8_takeHashes hW iv0 hq10) ml_X8_43 mw_X8_takeHashes mv_X8_takeHashes ⟨Nat.le_of_ble_eq_true rfl, Nat.le_of_ble_eq_true rfl⟩ rfl rfl (Nat.le_of_ble_eq_true rfl) ⟨Nat.le_refl _, Nat.le_refl _⟩ (by decide) ?_
  refine tc_aload_n 0 rfl dX8_copyFrom_76 ?_
  refine tc_getp hW iv0 fl_X8_12 dX8_copyFrom_77 rfl ?_
  refine tc_aload_n 1 rfl dX8_copyFrom_80 ?_
  refine tc_getp hW iv1 fl_X8_12 dX8_copyFrom_81 rfl ?_
  refine tc_geti (hW.p iv1 11 rfl).1 fl_X8_47 dX8_copyFrom_84 ?_
  obtain ⟨u11, eu11, h⟩ := tc_let_ex h
  refine tc_puti (hW.p iv0 11 rfl).1 fl_X8_47 dX8_copyFrom_87 ?_
  refine tc_nmu eu11 ?_
  cases h
  exact tc_return rfl dX8_copyFrom_90 rfl rfl ⟨rfl, rfl, rfl⟩
set_option maxRecDepth 100000 in
set_option maxHeartbeats 4000000 in
theorem ct_X0_takeSettings {l : Launch} {z : Nat} {D : tc_D} {G : tc_G} (hW : tc_W G) {v0 : Nat} {v1 : Nat} {u : tc_S} {r : Int32} {ur : tc_S} (iv0 : tc_is G v0 0) (iv1 : tc_is G v1 9) (h : fn_X0_takeSettings G v0 v1 u = some (r, ur)) : tc_C l z D yX0_takeSettings cX0_takeSettings 2 none 2 45 0 0 [.ref (z + v0), .ref (z + v1)] G u (tc_pv G ur) := by
  unfold fn_X0_takeSettings at h
  refine tc_C.of (by decide) (Nat.le_of_ble_eq_true rfl) fun p e s m args below meth c => ?_
  show tc_R p l e { frames := 2, cells := 0, slots := 0, locals := 45 } s m args below meth c z D cX0_takeSettings RX0 2 none 0 0 (tc_pv G ur) 0 0 G u 0 [(0, .ref (z + v0)), (1, .ref (z + v1))] []
  refine tc_aload_n 0 rfl dX0_takeSettings_0 ?_
  refine tc_getp hW iv0 fl_X0_14 dX0_takeSettings_1 rfl ?_
  refine tc_getp hW (hW.p iv0 1 rfl) fl_X0_24 dX0_takeSettings_4 rfl ?_
  refine tc_aload_n 1 rfl dX0_takeSettings_7 ?_
  refine tc_getp hW iv1 fl_X0_24 dX0_takeSettings_8 rfl ?_
  obtain ⟨x1, u2, hq3, h⟩ := tc_b_ex h
  refine tc_callVv [.ref (z + (tc_p G v1 0))] dX0_takeSettings_11 (hW.p (hW.p iv0 1 rfl) 0 rfl).1 (ct_X8_copyFrom hW (hW.p (hW.p iv0 1 rfl) 0 rfl) (hW.p iv1 0 rfl) hq3) ml_X0_28 mw_X8_copyFrom mv_X8_copyFrom ⟨Nat.le_of_ble_eq_true rfl, Nat.le_of_ble_eq_true rfl⟩ rfl rfl (Nat.le_of_ble_eq_true rfl) ⟨Nat.le_refl _, Nat.le_refl _⟩ (by decide) ?_
  cases h
  exact tc_return rfl dX0_takeSettings_14 rfl rfl ⟨rfl, rfl, rfl⟩
set_option maxRecDepth 100000 in
set_option maxHeartbeats 4000000 in
theorem sb_X8_firstOf_32 {p : Program} {l : Launch} {e : Env} {s : State} {m : MethodId} {args : Array Value} {below : List Frame} {meth : Method} {c : Code} {z : Nat} {D : tc_D} {G : tc_G} (hW : tc_W G) (r : Int32) (ur : tc_S) (s0 : Int32) (u : tc_S) (h : bl_X8_firstOf_32 G s0 u = some (r, ur)) : tc_R p l e { frames := 0, cells := 0, slots := 0, locals := 0 } s m args below meth c z D cX8_firstOf RX8 2 (some .int) 0 0 (tc_po r G ur) 0 0 G u 32 [] [.int s0] := by
  unfold bl_X8_firstOf_32 at h
  cases h
  exact tc_ireturn rfl dX8_firstOf_32 rfl rfl ⟨rfl, rfl, rfl⟩
set_option maxRecDepth 100000 in
set_option maxHeartbeats 4000000 in
theorem ct_X8_firstOf {l : Launch} {z : Nat} {D : tc_D} {G : tc_G} (hW : tc_W G) {v0 : Nat} {v1 : Int32} {u : tc_S} {r : Int32} {ur : tc_S} (iv0 : tc_is G v0 8) (h : fn_X8_firstOf G v0 v1 u = some (r, ur)) : tc_C l z D yX8_firstOf cX8_firstOf 2 (some .int) 0 0 0 0 [.ref (z + v0), .int v1] G u (tc_po r G ur) := by
  unfold fn_X8_firstOf at h
  refine tc_C.of (by decide) (Nat.le_of_ble_eq_true rfl) fun p e s m args below meth c => ?_
  show tc_R p l e { frames := 0, cells := 0, slots := 0, locals := 0 } s m args below meth c z D cX8_firstOf RX8 2 (some .int) 0 0 (tc_po r G ur) 0 0 G u 0 [(0, .ref (z + v0)), (1, .int v1)] []
  refine tc_aload_n 0 rfl dX8_firstOf_0 ?_
  refine tc_geti iv0.1 fl_X8_21 dX8_firstOf_1 ?_
  refine tc_iconst (v := 1) (by decide) dX8_firstOf_4 ?_
  refine tc_icmp_ge 12 dX8_firstOf_5 (by decide) (fun hc1 => ?_) (fun hc1 => ?_)
  · rw [if_pos hc1] at h
    refine tc_aload_n 0 rfl dX8_firstOf_12 ?_
    refine tc_geti iv0.1 fl_X8_50 dX8_firstOf_13 ?_
    refine tc_iload_n 1 rfl dX8_firstOf_16 ?_
    refine tc_imul dX8_firstOf_17 ?_
    refine tc_aload_n 0 rfl dX8_firstOf_18 ?_
    refine tc_geti iv0.1 fl_X8_53 dX8_firstOf_19 ?_
    refine tc_iadd dX8_firstOf_22 ?_
    refine tc_sipush (v := 1009) (by decide) dX8_firstOf_23 ?_
    refine tc_irem' (by decide) dX8_firstOf_26 ?_
    refine tc_aload_n 0 rfl dX8_firstOf_27 ?_
    refine tc_geti iv0.1 fl_X8_21 dX8_firstOf_28 ?_
    obtain ⟨hz2, h⟩ := tc_nz_ex h
    refine tc_irem' hz2 dX8_firstOf_31 ?_
    refine tc_lvs [] rfl ?_
    exact sb_X8_firstOf_32 hW r ur  (tc_mod (tc_mod (((u.1 v0 7) * v1) + (u.1 v0 8)) 1009) (u.1 v0 0)) u  h
  · rw [if_neg hc1] at h
    refine tc_iconst (v := 0) (by decide) dX8_firstOf_8 ?_
    refine tc_goto 32 dX8_firstOf_9 (by decide) ?_
    refine tc_lvs [] rfl ?_
    exact sb_X8_firstOf_32 hW r ur  0 u  h
set_option maxRecDepth 100000 in
set_option maxHeartbeats 4000000 in
theorem sb_X8_secondOf_32 {p : Program} {l : Launch} {e : Env} {s : State} {m : MethodId} {args : Array Value} {below : List Frame} {meth : Method} {c : Code} {z : Nat} {D : tc_D} {G : tc_G} (hW : tc_W G) (r : Int32) (ur : tc_S) (s0 : Int32) (u : tc_S) (h : bl_X8_secondOf_32 G s0 u = some (r, ur)) : tc_R p l e { frames := 0, cells := 0, slots := 0, locals := 0 } s m args below meth c z D cX8_secondOf RX8 2 (some .int) 0 0 (tc_po r G ur) 0 0 G u 32 [] [.int s0] := by
  unfold bl_X8_secondOf_32 at h
  cases h
  exact tc_ireturn rfl dX8_secondOf_32 rfl rfl ⟨rfl, rfl, rfl⟩
set_option maxRecDepth 100000 in
set_option maxHeartbeats 4000000 in
theorem ct_X8_secondOf {l : Launch} {z : Nat} {D : tc_D} {G : tc_G} (hW : tc_W G) {v0 : Nat} {v1 : Int32} {u : tc_S} {r : Int32} {ur : tc_S} (iv0 : tc_is G v0 8) (h : fn_X8_secondOf G v0 v1 u = some (r, ur)) : tc_C l z D yX8_secondOf cX8_secondOf 2 (some .int) 0 0 0 0 [.ref (z + v0), .int v1] G u (tc_po r G ur) := by
  unfold fn_X8_secondOf at h
  refine tc_C.of (by decide) (Nat.le_of_ble_eq_true rfl) fun p e s m args below meth c => ?_
  show tc_R p l e { frames := 0, cells := 0, slots := 0, locals := 0 } s m args below meth c z D cX8_secondOf RX8 2 (some .int) 0 0 (tc_po r G ur) 0 0 G u 0 [(0, .ref (z + v0)), (1, .int v1)] []
  refine tc_aload_n 0 rfl dX8_secondOf_0 ?_
  refine tc_geti iv0.1 fl_X8_21 dX8_secondOf_1 ?_
  refine tc_iconst (v := 1) (by decide) dX8_secondOf_4 ?_
  refine tc_icmp_ge 12 dX8_secondOf_5 (by decide) (fun hc1 => ?_) (fun hc1 => ?_)
  · rw [if_pos hc1] at h
    refine tc_aload_n 0 rfl dX8_secondOf_12 ?_
    refine tc_geti iv0.1 fl_X8_56 dX8_secondOf_13 ?_
    refine tc_iload_n 1 rfl dX8_secondOf_16 ?_
    refine tc_imul dX8_secondOf_17 ?_
    refine tc_aload_n 0 rfl dX8_secondOf_18 ?_
    refine tc_geti iv0.1 fl_X8_59 dX8_secondOf_19 ?_
    refine tc_iadd dX8_secondOf_22 ?_
    refine tc_sipush (v := 1009) (by decide) dX8_secondOf_23 ?_
    refine tc_irem' (by decide) dX8_secondOf_26 ?_
    refine tc_aload_n 0 rfl dX8_secondOf_27 ?_
    refine tc_geti iv0.1 fl_X8_21 dX8_secondOf_28 ?_
    obtain ⟨hz2, h⟩ := tc_nz_ex h
    refine tc_irem' hz2 dX8_secondOf_31 ?_
    refine tc_lvs [] rfl ?_
    exact sb_X8_secondOf_32 hW r ur  (tc_mod (tc_mod (((u.1 v0 9) * v1) + (u.1 v0 10)) 1009) (u.1 v0 0)) u  h
  · rw [if_neg hc1] at h
    refine tc_iconst (v := 0) (by decide) dX8_secondOf_8 ?_
    refine tc_goto 32 dX8_secondOf_9 (by decide) ?_
    refine tc_lvs [] rfl ?_
    exact sb_X8_secondOf_32 hW r ur  0 u  h
set_option maxRecDepth 100000 in
set_option maxHeartbeats 4000000 in
theorem ct_X9_takeInHand {l : Launch} {z : Nat} {D : tc_D} {G : tc_G} (hW : tc_W G) {v0 : Nat} {v1 : Int32} {v2 : Int32} {v3 : Int32} {v4 : Int32} {u : tc_S} {r : Int32} {ur : tc_S} (iv0 : tc_is G v0 9) (h : fn_X9_takeInHand G v0 v1 v2 v3 v4 u = some (r, ur)) : tc_C l z D yX9_takeInHand cX9_takeInHand 5 none 1 21 0 0 [.ref (z + v0), .int v1, .int v2, .int v3, .int v4] G u (tc_pv G ur) := by
  unfold fn_X9_takeInHand at h
  refine tc_C.of (by decide) (Nat.le_of_ble_eq_true rfl) fun p e s m args below meth c => ?_
  show tc_R p l e { frames := 1, cells := 0, slots := 0, locals := 21 } s m args below meth c z D cX9_takeInHand RX9 5 none 0 0 (tc_pv G ur) 0 0 G u 0 [(0, .ref (z + v0)), (1, .int v1), (2, .int v2), (3, .int v3), (4, .int v4)] []
  refine tc_aload_n 0 rfl dX9_takeInHand_0 ?_
  refine tc_getp hW iv0 fl_X9_29 dX9_takeInHand_1 rfl ?_
  refine tc_aload_n 0 rfl dX9_takeInHand_4 ?_
  refine tc_geti iv0.1 fl_X9_26 dX9_takeInHand_5 ?_
  refine tc_iload_n 1 rfl dX9_takeInHand_8 ?_
  obtain ⟨bu1, u1, eu1, h⟩ := tc_sd_ex h
  refine tc_iast (hW.p iv0 3 rfl).1 bu1 dX9_takeInHand_9 ?_
  refine tc_nmu eu1 ?_
  refine tc_aload_n 0 rfl dX9_takeInHand_10 ?_
  refine tc_getp hW iv0 fl_X9_32 dX9_takeInHand_11 rfl ?_
  refine tc_aload_n 0 rfl dX9_takeInHand_14 ?_
  refine tc_geti iv0.1 fl_X9_26 dX9_takeInHand_15 ?_
  refine tc_iload_n 2 rfl dX9_takeInHand_18 ?_
  obtain ⟨bu2, u2, eu2, h⟩ := tc_sd_ex h
  refine tc_iast (hW.p iv0 4 rfl).1 bu2 dX9_takeInHand_19 ?_
  refine tc_nmu eu2 ?_
  refine tc_aload_n 0 rfl dX9_takeInHand_20 ?_
  refine tc_getp hW iv0 fl_X9_35 dX9_takeInHand_21 rfl ?_
  refine tc_aload_n 0 rfl dX9_takeInHand_24 ?_
  refine tc_geti iv0.1 fl_X9_26 dX9_takeInHand_25 ?_
  refine tc_iload_n 3 rfl dX9_takeInHand_28 ?_
  obtain ⟨bu3, u3, eu3, h⟩ := tc_sd_ex h
  refine tc_iast (hW.p iv0 5 rfl).1 bu3 dX9_takeInHand_29 ?_
  refine tc_nmu eu3 ?_
  refine tc_aload_n 0 rfl dX9_takeInHand_30 ?_
  refine tc_getp hW iv0 fl_X9_38 dX9_takeInHand_31 rfl ?_
  refine tc_aload_n 0 rfl dX9_takeInHand_34 ?_
  refine tc_geti iv0.1 fl_X9_26 dX9_takeInHand_35 ?_
  refine tc_iload 4 rfl dX9_takeInHand_38 ?_
  obtain ⟨bu4, u4, eu4, h⟩ := tc_sd_ex h
  refine tc_iast (hW.p iv0 6 rfl).1 bu4 dX9_takeInHand_40 ?_
  refine tc_nmu eu4 ?_
  refine tc_aload_n 0 rfl dX9_takeInHand_41 ?_
  refine tc_getp hW iv0 fl_X9_41 dX9_takeInHand_42 rfl ?_
  refine tc_aload_n 0 rfl dX9_takeInHand_45 ?_
  refine tc_geti iv0.1 fl_X9_26 dX9_takeInHand_46 ?_
  refine tc_aload_n 0 rfl dX9_takeInHand_49 ?_
  refine tc_getp hW iv0 fl_X9_12 dX9_takeInHand_50 rfl ?_
  refine tc_iload_n 1 rfl dX9_takeInHand_53 ?_
  obtain ⟨x5, u6, hq7, h⟩ := tc_b_ex h
  refine tc_callVi [.int v1] dX9_takeInHand_54 (hW.p iv0 0 rfl).1 (ct_X8_firstOf hW (hW.p iv0 0 rfl) hq7) ml_X9_108 mw_X8_firstOf mv_X8_firstOf ⟨Nat.le_of_ble_eq_true rfl, Nat.le_of_ble_eq_true rfl⟩ rfl rfl (Nat.le_of_ble_eq_true rfl) ⟨Nat.le_refl _, Nat.le_refl _⟩ (by decide) ?_
  obtain ⟨bu8, u8, eu8, h⟩ := tc_sd_ex h
  refine tc_iast (hW.p iv0 7 rfl).1 bu8 dX9_takeInHand_57 ?_
  refine tc_nmu eu8 ?_
  refine tc_aload_n 0 rfl dX9_takeInHand_58 ?_
  refine tc_getp hW iv0 fl_X9_44 dX9_takeInHand_59 rfl ?_
  refine tc_aload_n 0 rfl dX9_takeInHand_62 ?_
  refine tc_geti iv0.1 fl_X9_26 dX9_takeInHand_63 ?_
  refine tc_aload_n 0 rfl dX9_takeInHand_66 ?_
  refine tc_getp hW iv0 fl_X9_12 dX9_takeInHand_67 rfl ?_
  refine tc_iload_n 1 rfl dX9_takeInHand_70 ?_
  obtain ⟨x9, u10, hq11, h⟩ := tc_b_ex h
  refine tc_callVi [.int v1] dX9_takeInHand_71 (hW.p iv0 0 rfl).1 (ct_X8_secondOf hW (hW.p iv0 0 rfl) hq11) ml_X9_115 mw_X8_secondOf mv_X8_secondOf ⟨Nat.le_of_ble_eq_true rfl, Nat.le_of_ble_eq_true rfl⟩ rfl rfl (Nat.le_of_ble_eq_true rfl) ⟨Nat.le_refl _, Nat.le_refl _⟩ (by decide) ?_
  obtain ⟨bu12, u12, eu12, h⟩ := tc_sd_ex h
  refine tc_iast (hW.p iv0 8 rfl).1 bu12 dX9_takeInHand_74 ?_
  refine tc_nmu eu12 ?_
  cases h
  exact tc_return rfl dX9_takeInHand_75 rfl rfl ⟨rfl, rfl, rfl⟩
set_option maxRecDepth 100000 in
set_option maxHeartbeats 4000000 in
theorem sb_X9_openBucketFor_59 {p : Program} {l : Launch} {e : Env} {s : State} {m : MethodId} {args : Array Value} {below : List Frame} {meth : Method} {c : Code} {z : Nat} {D : tc_D} {G : tc_G} (hW : tc_W G) (r : Int32) (ur : tc_S) (s0 : Int32) (u : tc_S) (h : bl_X9_openBucketFor_59 G s0 u = some (r, ur)) : tc_R p l e { frames := 0, cells := 0, slots := 0, locals := 0 } s m args below meth c z D cX9_openBucketFor RX9 2 (some .int) 0 0 (tc_po r G ur) 0 0 G u 59 [] [.int s0] := by
  unfold bl_X9_openBucketFor_59 at h
  cases h
  exact tc_ireturn rfl dX9_openBucketFor_59 rfl rfl ⟨rfl, rfl, rfl⟩
set_option maxRecDepth 100000 in
set_option maxHeartbeats 4000000 in
theorem ct_X9_openBucketFor {l : Launch} {z : Nat} {D : tc_D} {G : tc_G} (hW : tc_W G) {v0 : Nat} {v1 : Int32} {u : tc_S} {r : Int32} {ur : tc_S} (iv0 : tc_is G v0 9) (h : fn_X9_openBucketFor G v0 v1 u = some (r, ur)) : tc_C l z D yX9_openBucketFor cX9_openBucketFor 2 (some .int) 0 0 0 0 [.ref (z + v0), .int v1] G u (tc_po r G ur) := by
  unfold fn_X9_openBucketFor at h
  refine tc_C.of (by decide) (Nat.le_of_ble_eq_true rfl) fun p e s m args below meth c => ?_
  show tc_R p l e { frames := 0, cells := 0, slots := 0, locals := 0 } s m args below meth c z D cX9_openBucketFor RX9 2 (some .int) 0 0 (tc_po r G ur) 0 0 G u 0 [(0, .ref (z + v0)), (1, .int v1)] []
  refine tc_aload_n 0 rfl dX9_openBucketFor_0 ?_
  refine tc_getp hW iv0 fl_X9_18 dX9_openBucketFor_1 rfl ?_
  refine tc_aload_n 0 rfl dX9_openBucketFor_4 ?_
  refine tc_getp hW iv0 fl_X9_41 dX9_openBucketFor_5 rfl ?_
  refine tc_iload_n 1 rfl dX9_openBucketFor_8 ?_
  obtain ⟨bx1, x1, ex1, h⟩ := tc_ld_ex h
  refine tc_iald (hW.p iv0 7 rfl).1 bx1 dX9_openBucketFor_9 ?_
  refine tc_nm ex1 ?_
  obtain ⟨bx2, x2, ex2, h⟩ := tc_ld_ex h
  refine tc_iald (hW.p iv0 9 rfl).1 bx2 dX9_openBucketFor_10 ?_
  refine tc_nm ex2 ?_
  refine tc_aload_n 0 rfl dX9_openBucketFor_11 ?_
  refine tc_getp hW iv0 fl_X9_12 dX9_openBucketFor_12 rfl ?_
  refine tc_geti (hW.p iv0 0 rfl).1 fl_X9_98 dX9_openBucketFor_15 ?_
  refine tc_icmp_ge 28 dX9_openBucketFor_18 (by decide) (fun hc3 => ?_) (fun hc3 => ?_)
  · rw [if_pos hc3] at h
    refine tc_aload_n 0 rfl dX9_openBucketFor_28 ?_
    refine tc_getp hW iv0 fl_X9_18 dX9_openBucketFor_29 rfl ?_
    refine tc_aload_n 0 rfl dX9_openBucketFor_32 ?_
    refine tc_getp hW iv0 fl_X9_44 dX9_openBucketFor_33 rfl ?_
    refine tc_iload_n 1 rfl dX9_openBucketFor_36 ?_
    obtain ⟨bx4, x4, ex4, h⟩ := tc_ld_ex h
    refine tc_iald (hW.p iv0 8 rfl).1 bx4 dX9_openBucketFor_37 ?_
    refine tc_nm ex4 ?_
    obtain ⟨bx5, x5, ex5, h⟩ := tc_ld_ex h
    refine tc_iald (hW.p iv0 9 rfl).1 bx5 dX9_openBucketFor_38 ?_
    refine tc_nm ex5 ?_
    refine tc_aload_n 0 rfl dX9_openBucketFor_39 ?_
    refine tc_getp hW iv0 fl_X9_12 dX9_openBucketFor_40 rfl ?_
    refine tc_geti (hW.p iv0 0 rfl).1 fl_X9_98 dX9_openBucketFor_43 ?_
    refine tc_icmp_ge 58 dX9_openBucketFor_46 (by decide) (fun hc6 => ?_) (fun hc6 => ?_)
    · rw [if_pos hc6] at h
      refine tc_iconst (v := (-1)) (by decide) dX9_openBucketFor_58 ?_
      refine tc_lvs [] rfl ?_
      exact sb_X9_openBucketFor_59 hW r ur  (-1) u  h
    · rw [if_neg hc6] at h
      refine tc_aload_n 0 rfl dX9_openBucketFor_49 ?_
      refine tc_getp hW iv0 fl_X9_44 dX9_openBucketFor_50 rfl ?_
      refine tc_iload_n 1 rfl dX9_openBucketFor_53 ?_
      obtain ⟨bx7, x7, ex7, h⟩ := tc_ld_ex h
      refine tc_iald (hW.p iv0 8 rfl).1 bx7 dX9_openBucketFor_54 ?_
      refine tc_nm ex7 ?_
      refine tc_goto 59 dX9_openBucketFor_55 (by decide) ?_
      refine tc_lvs [] rfl ?_
      exact sb_X9_openBucketFor_59 hW r ur  x7 u  h
  · rw [if_neg hc3] at h
    refine tc_aload_n 0 rfl dX9_openBucketFor_21 ?_
    refine tc_getp hW iv0 fl_X9_41 dX9_openBucketFor_22 rfl ?_
    refine tc_iload_n 1 rfl dX9_openBucketFor_25 ?_
    obtain ⟨bx8, x8, ex8, h⟩ := tc_ld_ex h
    refine tc_iald (hW.p iv0 7 rfl).1 bx8 dX9_openBucketFor_26 ?_
    refine tc_nm ex8 ?_
    cases h
    exact tc_ireturn rfl dX9_openBucketFor_27 rfl rfl ⟨rfl, rfl, rfl⟩
set_option maxRecDepth 100000 in
set_option maxHeartbeats 4000000 in
theorem sb_X9_emptyPlaceIn_42 {p : Program} {l : Launch} {e : Env} {s : State} {m : MethodId} {args : Array Value} {below : List Frame} {meth : Method} {c : Code} {z : Nat} {D : tc_D} {G : tc_G} (hW : tc_W G) (r : Int32) (ur : tc_S) (v2 : Int32) (u : tc_S) (h : bl_X9_emptyPlaceIn_42 G v2 u = some (r, ur)) : tc_R p l e { frames := 0, cells := 0, slots := 0, locals := 0 } s m args below meth c z D cX9_emptyPlaceIn RX9 4 (some .int) 0 0 (tc_po r G ur) 0 0 G u 42 [(2, .int v2)] [] := by
  unfold bl_X9_emptyPlaceIn_42 at h
  refine tc_iload_n 0 rfl dX9_emptyPlaceIn_42 ?_
  cases h
  exact tc_ireturn rfl dX9_emptyPlaceIn_43 rfl rfl ⟨rfl, rfl, rfl⟩
set_option maxRecDepth 100000 in
set_option maxHeartbeats 4000000 in
theorem sl_X9_emptyPlaceIn_22 {p : Program} {l : Launch} {e : Env} {s : State} {m : MethodId} {args : Array Value} {below : List Frame} {meth : Method} {c : Code} {z : Nat} {D : tc_D} {G : tc_G} (hW : tc_W G) (r : Int32) (ur : tc_S) : ∀ (n : Nat) (v0 : Nat) (v2 : Int32) (v3 : Int32) (u : tc_S) (iv0 : tc_is G v0 9) (h : lo_X9_emptyPlaceIn_22 G n v0 v2 v3 u = some (r, ur)), tc_R p l e { frames := 0, cells := 0, slots := 0, locals := 0 } s m args below meth c z D cX9_emptyPlaceIn RX9 4 (some .int) 0 0 (tc_po r G ur) 0 0 G u 22 [(0, .ref (z + v0)), (2, .int v2), (3, .int v3)] [] := by
  intro n
  induction n with
  | zero => intro v0 v2 v3 u iv0 h; cases h
  | succ n ih =>
    intro v0 v2 v3 u iv0 h
    rw [lo_X9_emptyPlaceIn_22] at h
    refine tc_iload_n 1 rfl dX9_emptyPlaceIn_22 ?_
    refine tc_iload_n 2 rfl dX9_emptyPlaceIn_23 ?_
    refine tc_icmp_ge 42 dX9_emptyPlaceIn_24 (by decide) (fun hc1 => ?_) (fun hc1 => ?_)
    · rw [if_pos hc1] at h
      refine tc_lvs [1] rfl ?_
      exact sb_X9_emptyPlaceIn_42 hW r ur  v2 u  h
    · rw [if_neg hc1] at h
      refine tc_aload_n 0 rfl dX9_emptyPlaceIn_27 ?_
      refine tc_getp hW iv0 fl_X9_29 dX9_emptyPlaceIn_28 rfl ?_
      refine tc_iload_n 1 rfl dX9_emptyPlaceIn_31 ?_
      obtain ⟨bx2, x2, ex2, h⟩ := tc_ld_ex h
      refine tc_iald (hW.p iv0 3 rfl).1 bx2 dX9_emptyPlaceIn_32 ?_
      refine tc_nm ex2 ?_
      refine tc_if_lt 42 dX9_emptyPlaceIn_33 (by decide) (fun hc3 => ?_) (fun hc3 => ?_)
      · rw [if_pos hc3] at h
        refine tc_lvs [1] rfl ?_
        exact sb_X9_emptyPlaceIn_42 hW r ur  v2 u  h
      · rw [if_neg hc3] at h
        obtain ⟨x4, ex4, h⟩ := tc_let_ex h
        refine tc_iinc 1 (v := x4) [(2, .int x4), (0, .ref (z + v0)), (3, .int v3)] dX9_emptyPlaceIn_36 rfl (by rw [ex4]; rfl) (by decide) rfl ?_
        refine tc_goto 22 dX9_emptyPlaceIn_39 (by decide) ?_
        refine tc_lvs [1, 0, 2] rfl ?_
        exact ih v0 x4 v3 u iv0 h
set_option maxRecDepth 100000 in
set_option maxHeartbeats 4000000 in
theorem ct_X9_emptyPlaceIn {l : Launch} {z : Nat} {D : tc_D} {G : tc_G} (hW : tc_W G) {v0 : Nat} {v1 : Int32} {u : tc_S} {r : Int32} {ur : tc_S} (iv0 : tc_is G v0 9) (h : fn_X9_emptyPlaceIn G v0 v1 u = some (r, ur)) : tc_C l z D yX9_emptyPlaceIn cX9_emptyPlaceIn 4 (some .int) 0 0 0 0 [.ref (z + v0), .int v1] G u (tc_po r G ur) := by
  unfold fn_X9_emptyPlaceIn at h
  refine tc_C.of (by decide) (Nat.le_of_ble_eq_true rfl) fun p e s m args below meth c => ?_
  show tc_R p l e { frames := 0, cells := 0, slots := 0, locals := 0 } s m args below meth c z D cX9_emptyPlaceIn RX9 4 (some .int) 0 0 (tc_po r G ur) 0 0 G u 0 [(0, .ref (z + v0)), (1, .int v1)] []
  refine tc_iload_n 1 rfl dX9_emptyPlaceIn_0 ?_
  refine tc_aload_n 0 rfl dX9_emptyPlaceIn_1 ?_
  refine tc_getp hW iv0 fl_X9_12 dX9_emptyPlaceIn_2 rfl ?_
  refine tc_geti (hW.p iv0 0 rfl).1 fl_X9_98 dX9_emptyPlaceIn_5 ?_
  refine tc_imul dX9_emptyPlaceIn_8 ?_
  obtain ⟨x5, ex5, h⟩ := tc_let_ex h
  refine tc_nm ex5 ?_
  refine tc_istore_n [(2, .int x5), (0, .ref (z + v0)), (1, .int v1)] dX9_emptyPlaceIn_9 (by decide) rfl ?_
  refine tc_iload_n 0 rfl dX9_emptyPlaceIn_10 ?_
  refine tc_aload_n 1 rfl dX9_emptyPlaceIn_11 ?_
  refine tc_getp hW iv0 fl_X9_12 dX9_emptyPlaceIn_12 rfl ?_
  refine tc_geti (hW.p iv0 0 rfl).1 fl_X9_98 dX9_emptyPlaceIn_15 ?_
  refine tc_iadd dX9_emptyPlaceIn_18 ?_
  refine tc_iconst (v := 1) (by decide) dX9_emptyPlaceIn_19 ?_
  refine tc_isub dX9_emptyPlaceIn_20 ?_
  obtain ⟨x6, ex6, h⟩ := tc_let_ex h
  refine tc_nm ex6 ?_
  refine tc_istore_n [(3, .int x6), (2, .int x5), (0, .ref (z + v0)), (1, .int v1)] dX9_emptyPlaceIn_21 (by decide) rfl ?_
  refine tc_lvs [2, 1, 0] rfl ?_
  exact sl_X9_emptyPlaceIn_22 hW r ur  _ v0 x5 x6 u iv0 h
set_option maxRecDepth 100000 in
set_option maxHeartbeats 4000000 in
theorem sb_X9_move_135 {p : Program} {l : Launch} {e : Env} {s : State} {m : MethodId} {args : Array Value} {below : List Frame} {meth : Method} {c : Code} {z : Nat} {D : tc_D} {G : tc_G} (hW : tc_W G) (r : Int32) (ur : tc_S) (u : tc_S) (h : bl_X9_move_135 G  u = some (r, ur)) : tc_R p l e { frames := 0, cells := 0, slots := 0, locals := 0 } s m args below meth c z D cX9_move RX9 4 none 0 0 (tc_pv G ur) 0 0 G u 135 [] [] := by
  unfold bl_X9_move_135 at h
  cases h
  exact tc_return rfl dX9_move_135 rfl rfl ⟨rfl, rfl, rfl⟩
set_option maxRecDepth 100000 in
set_option maxHeartbeats 4000000 in
theorem sb_X9_move_111 {p : Program} {l : Launch} {e : Env} {s : State} {m : MethodId} {args : Array Value} {below : List Frame} {meth : Method} {c : Code} {z : Nat} {D : tc_D} {G : tc_G} (hW : tc_W G) (r : Int32) (ur : tc_S) (v0 : Nat) (v2 : Int32) (v3 : Int32) (u : tc_S) (iv0 : tc_is G v0 9) (h : bl_X9_move_111 G v0 v2 v3 u = some (r, ur)) : tc_R p l e { frames := 0, cells := 0, slots := 0, locals := 0 } s m args below meth c z D cX9_move RX9 4 none 0 0 (tc_pv G ur) 0 0 G u 111 [(0, .ref (z + v0)), (2, .int v2), (3, .int v3)] [] := by
  unfold bl_X9_move_111 at h
  refine tc_iload_n 2 rfl dX9_move_111 ?_
  refine tc_if_le 135 dX9_move_112 (by decide) (fun hc1 => ?_) (fun hc1 => ?_)
  · rw [if_pos hc1] at h
    refine tc_lvs [] rfl ?_
    exact sb_X9_move_135 hW r ur   u  h
  · rw [if_neg hc1] at h
    refine tc_iload_n 1 rfl dX9_move_115 ?_
    refine tc_aload_n 0 rfl dX9_move_116 ?_
    refine tc_geti iv0.1 fl_X9_22 dX9_move_117 ?_
    refine tc_icmp_ge 135 dX9_move_120 (by decide) (fun hc2 => ?_) (fun hc2 => ?_)
    · rw [if_pos hc2] at h
      refine tc_lvs [] rfl ?_
      exact sb_X9_move_135 hW r ur   u  h
    · rw [if_neg hc2] at h
      refine tc_aload_n 0 rfl dX9_move_123 ?_
      refine tc_getp hW iv0 fl_X9_18 dX9_move_124 rfl ?_
      refine tc_iload_n 1 rfl dX9_move_127 ?_
      refine tc_iload_n 2 rfl dX9_move_128 ?_
      obtain ⟨hz3, h⟩ := tc_nz_ex h
      refine tc_idiv hz3 dX9_move_129 ?_
      refine tc_dup2 rfl rfl dX9_move_130 ?_
      obtain ⟨bx4, x4, ex4, h⟩ := tc_ld_ex h
      refine tc_iald (hW.p iv0 9 rfl).1 bx4 dX9_move_131 ?_
      refine tc_nm ex4 ?_
      refine tc_iconst (v := 1) (by decide) dX9_move_132 ?_
      refine tc_iadd dX9_move_133 ?_
      obtain ⟨bu5, u5, eu5, h⟩ := tc_sd_ex h
      refine tc_iast (hW.p iv0 9 rfl).1 bu5 dX9_move_134 ?_
      refine tc_nmu eu5 ?_
      refine tc_lvs [] rfl ?_
      exact sb_X9_move_135 hW r ur   u5  h
set_option maxRecDepth 100000 in
set_option maxHeartbeats 4000000 in
theorem ct_X9_move {l : Launch} {z : Nat} {D : tc_D} {G : tc_G} (hW : tc_W G) {v0 : Nat} {v1 : Int32} {v2 : Int32} {u : tc_S} {r : Int32} {ur : tc_S} (iv0 : tc_is G v0 9) (h : fn_X9_move G v0 v1 v2 u = some (r, ur)) : tc_C l z D yX9_move cX9_move 4 none 0 0 0 0 [.ref (z + v0), .int v1, .int v2] G u (tc_pv G ur) := by
  unfold fn_X9_move at h
  refine tc_C.of (by decide) (Nat.le_of_ble_eq_true rfl) fun p e s m args below meth c => ?_
  show tc_R p l e { frames := 0, cells := 0, slots := 0, locals := 0 } s m args below meth c z D cX9_move RX9 4 none 0 0 (tc_pv G ur) 0 0 G u 0 [(0, .ref (z + v0)), (1, .int v1), (2, .int v2)] []
  refine tc_aload_n 0 rfl dX9_move_0 ?_
  refine tc_getp hW iv0 fl_X9_29 dX9_move_1 rfl ?_
  refine tc_iload_n 2 rfl dX9_move_4 ?_
  refine tc_aload_n 0 rfl dX9_move_5 ?_
  refine tc_getp hW iv0 fl_X9_29 dX9_move_6 rfl ?_
  refine tc_iload_n 1 rfl dX9_move_9 ?_
  obtain ⟨bx6, x6, ex6, h⟩ := tc_ld_ex h
  refine tc_iald (hW.p iv0 3 rfl).1 bx6 dX9_move_10 ?_
  refine tc_nm ex6 ?_
  obtain ⟨bu7, u7, eu7, h⟩ := tc_sd_ex h
  refine tc_iast (hW.p iv0 3 rfl).1 bu7 dX9_move_11 ?_
  refine tc_nmu eu7 ?_
  refine tc_aload_n 0 rfl dX9_move_12 ?_
  refine tc_getp hW iv0 fl_X9_32 dX9_move_13 rfl ?_
  refine tc_iload_n 2 rfl dX9_move_16 ?_
  refine tc_aload_n 0 rfl dX9_move_17 ?_
  refine tc_getp hW iv0 fl_X9_32 dX9_move_18 rfl ?_
  refine tc_iload_n 1 rfl dX9_move_21 ?_
  obtain ⟨bx8, x8, ex8, h⟩ := tc_ld_ex h
  refine tc_iald (hW.p iv0 4 rfl).1 bx8 dX9_move_22 ?_
  refine tc_nm ex8 ?_
  obtain ⟨bu9, u9, eu9, h⟩ := tc_sd_ex h
  refine tc_iast (hW.p iv0 4 rfl).1 bu9 dX9_move_23 ?_
  refine tc_nmu eu9 ?_
  refine tc_aload_n 0 rfl dX9_move_24 ?_
  refine tc_getp hW iv0 fl_X9_35 dX9_move_25 rfl ?_
  refine tc_iload_n 2 rfl dX9_move_28 ?_
  refine tc_aload_n 0 rfl dX9_move_29 ?_
  refine tc_getp hW iv0 fl_X9_35 dX9_move_30 rfl ?_
  refine tc_iload_n 1 rfl dX9_move_33 ?_
  obtain ⟨bx10, x10, ex10, h⟩ := tc_ld_ex h
  refine tc_iald (hW.p iv0 5 rfl).1 bx10 dX9_move_34 ?_
  refine tc_nm ex10 ?_
  obtain ⟨bu11, u11, eu11, h⟩ := tc_sd_ex h
  refine tc_iast (hW.p iv0 5 rfl).1 bu11 dX9_move_35 ?_
  refine tc_nmu eu11 ?_
  refine tc_aload_n 0 rfl dX9_move_36 ?_
  refine tc_getp hW iv0 fl_X9_38 dX9_move_37 rfl ?_
  refine tc_iload_n 2 rfl dX9_move_40 ?_
  refine tc_aload_n 0 rfl dX9_move_41 ?_
  refine tc_getp hW iv0 fl_X9_38 dX9_move_42 rfl ?_
  refine tc_iload_n 1 rfl dX9_move_45 ?_
  obtain ⟨bx12, x12, ex12, h⟩ := tc_ld_ex h
  refine tc_iald (hW.p iv0 6 rfl).1 bx12 dX9_move_46 ?_
  refine tc_nm ex12 ?_
  obtain ⟨bu13, u13, eu13, h⟩ := tc_sd_ex h
  refine tc_iast (hW.p iv0 6 rfl).1 bu13 dX9_move_47 ?_
  refine tc_nmu eu13 ?_
  refine tc_aload_n 0 rfl dX9_move_48 ?_
  refine tc_getp hW iv0 fl_X9_41 dX9_move_49 rfl ?_
  refine tc_iload_n 2 rfl dX9_move_52 ?_
  refine tc_aload_n 0 rfl dX9_move_53 ?_
  refine tc_getp hW iv0 fl_X9_41 dX9_move_54 rfl ?_
  refine tc_iload_n 1 rfl dX9_move_57 ?_
  obtain ⟨bx14, x14, ex14, h⟩ := tc_ld_ex h
  refine tc_iald (hW.p iv0 7 rfl).1 bx14 dX9_move_58 ?_
  refine tc_nm ex14 ?_
  obtain ⟨bu15, u15, eu15, h⟩ := tc_sd_ex h
  refine tc_iast (hW.p iv0 7 rfl).1 bu15 dX9_move_59 ?_
  refine tc_nmu eu15 ?_
  refine tc_aload_n 0 rfl dX9_move_60 ?_
  refine tc_getp hW iv0 fl_X9_44 dX9_move_61 rfl ?_
  refine tc_iload_n 2 rfl dX9_move_64 ?_
  refine tc_aload_n 0 rfl dX9_move_65 ?_
  refine tc_getp hW iv0 fl_X9_44 dX9_move_66 rfl ?_
  refine tc_iload_n 1 rfl dX9_move_69 ?_
  obtain ⟨bx16, x16, ex16, h⟩ := tc_ld_ex h
  refine tc_iald (hW.p iv0 8 rfl).1 bx16 dX9_move_70 ?_
  refine tc_nm ex16 ?_
  obtain ⟨bu17, u17, eu17, h⟩ := tc_sd_ex h
  refine tc_iast (hW.p iv0 8 rfl).1 bu17 dX9_move_71 ?_
  refine tc_nmu eu17 ?_
  refine tc_aload_n 0 rfl dX9_move_72 ?_
  refine tc_getp hW iv0 fl_X9_29 dX9_move_73 rfl ?_
  refine tc_iload_n 1 rfl dX9_move_76 ?_
  refine tc_iconst (v := (-1)) (by decide) dX9_move_77 ?_
  obtain ⟨bu18, u18, eu18, h⟩ := tc_sd_ex h
  refine tc_iast (hW.p iv0 3 rfl).1 bu18 dX9_move_78 ?_
  refine tc_nmu eu18 ?_
  refine tc_aload_n 0 rfl dX9_move_79 ?_
  refine tc_getp hW iv0 fl_X9_12 dX9_move_80 rfl ?_
  refine tc_geti (hW.p iv0 0 rfl).1 fl_X9_98 dX9_move_83 ?_
  obtain ⟨x19, ex19, h⟩ := tc_let_ex h
  refine tc_nm ex19 ?_
  refine tc_istore_n [(3, .int x19), (0, .ref (z + v0)), (1, .int v1), (2, .int v2)] dX9_move_86 (by decide) rfl ?_
  refine tc_iload_n 0 rfl dX9_move_87 ?_
  refine tc_if_le 111 dX9_move_88 (by decide) (fun hc20 => ?_) (fun hc20 => ?_)
  · rw [if_pos hc20] at h
    refine tc_lvs [1, 3, 0] rfl ?_
    exact sb_X9_move_111 hW r ur  v0 v2 x19 u18 iv0 h
  · rw [if_neg hc20] at h
    refine tc_iload_n 2 rfl dX9_move_91 ?_
    refine tc_aload_n 1 rfl dX9_move_92 ?_
    refine tc_geti iv0.1 fl_X9_22 dX9_move_93 ?_
    refine tc_icmp_ge 111 dX9_move_96 (by decide) (fun hc21 => ?_) (fun hc21 => ?_)
    · rw [if_pos hc21] at h
      refine tc_lvs [1, 3, 0] rfl ?_
      exact sb_X9_move_111 hW r ur  v0 v2 x19 u18 iv0 h
    · rw [if_neg hc21] at h
      refine tc_aload_n 1 rfl dX9_move_99 ?_
      refine tc_getp hW iv0 fl_X9_18 dX9_move_100 rfl ?_
      refine tc_iload_n 2 rfl dX9_move_103 ?_
      refine tc_iload_n 0 rfl dX9_move_104 ?_
      obtain ⟨hz22, h⟩ := tc_nz_ex h
      refine tc_idiv hz22 dX9_move_105 ?_
      refine tc_dup2 rfl rfl dX9_move_106 ?_
      obtain ⟨bx23, x23, ex23, h⟩ := tc_ld_ex h
      refine tc_iald (hW.p iv0 9 rfl).1 bx23 dX9_move_107 ?_
      refine tc_nm ex23 ?_
      refine tc_iconst (v := 1) (by decide) dX9_move_108 ?_
      refine tc_isub dX9_move_109 ?_
      obtain ⟨bu24, u24, eu24, h⟩ := tc_sd_ex h
      refine tc_iast (hW.p iv0 9 rfl).1 bu24 dX9_move_110 ?_
      refine tc_nmu eu24 ?_
      refine tc_lvs [1, 3, 0] rfl ?_
      exact sb_X9_move_111 hW r ur  v0 v2 x19 u24 iv0 h
set_option maxRecDepth 100000 in
set_option maxHeartbeats 4000000 in
theorem sb_X1_begin_97 {p : Program} {l : Launch} {e : Env} {s : State} {m : MethodId} {args : Array Value} {below : List Frame} {meth : Method} {c : Code} {z : Nat} {D : tc_D} {G : tc_G} (hW : tc_W G) (r : Int32) (ur : tc_S) (u : tc_S) (h : bl_X1_begin_97 G  u = some (r, ur)) : tc_R p l e { frames := 0, cells := 0, slots := 0, locals := 0 } s m args below meth c z D cX1_begin RX1 5 none 0 0 (tc_pv G ur) 0 0 G u 97 [] [] := by
  unfold bl_X1_begin_97 at h
  cases h
  exact tc_return rfl dX1_begin_97 rfl rfl ⟨rfl, rfl, rfl⟩
set_option maxRecDepth 100000 in
set_option maxHeartbeats 4000000 in
theorem sb_X1_begin_30 {p : Program} {l : Launch} {e : Env} {s : State} {m : MethodId} {args : Array Value} {below : List Frame} {meth : Method} {c : Code} {z : Nat} {D : tc_D} {G : tc_G} (hW : tc_W G) (r : Int32) (ur : tc_S) (v0 : Nat) (v2 : Int32) (v3 : Int32) (u : tc_S) (iv0 : tc_is G v0 1) (h : bl_X1_begin_30 G v0 v2 v3 u = some (r, ur)) : tc_R p l e { frames := 0, cells := 0, slots := 0, locals := 0 } s m args below meth c z D cX1_begin RX1 5 none 0 0 (tc_pv G ur) 0 0 G u 30 [(0, .ref (z + v0)), (2, .int v2), (3, .int v3)] [] := by
  unfold bl_X1_begin_30 at h
  refine tc_aload_n 0 rfl dX1_begin_30 ?_
  refine tc_iconst (v := 0) (by decide) dX1_begin_31 ?_
  obtain ⟨u1, eu1, h⟩ := tc_let_ex h
  refine tc_puti iv0.1 fl_X1_66 dX1_begin_32 ?_
  refine tc_nmu eu1 ?_
  refine tc_aload_n 0 rfl dX1_begin_35 ?_
  refine tc_iconst (v := (-1)) (by decide) dX1_begin_36 ?_
  obtain ⟨u2, eu2, h⟩ := tc_let_ex h
  refine tc_puti iv0.1 fl_X1_69 dX1_begin_37 ?_
  refine tc_nmu eu2 ?_
  refine tc_aload_n 0 rfl dX1_begin_40 ?_
  refine tc_getp hW iv0 fl_X1_15 dX1_begin_41 rfl ?_
  refine tc_iconst (v := 0) (by decide) dX1_begin_44 ?_
  refine tc_iload_n 1 rfl dX1_begin_45 ?_
  obtain ⟨bu3, u3, eu3, h⟩ := tc_sd_ex h
  refine tc_iast (hW.p iv0 3 rfl).1 bu3 dX1_begin_46 ?_
  refine tc_nmu eu3 ?_
  refine tc_aload_n 0 rfl dX1_begin_47 ?_
  refine tc_iconst (v := 1) (by decide) dX1_begin_48 ?_
  obtain ⟨u4, eu4, h⟩ := tc_let_ex h
  refine tc_puti iv0.1 fl_X1_47 dX1_begin_49 ?_
  refine tc_nmu eu4 ?_
  refine tc_aload_n 0 rfl dX1_begin_52 ?_
  refine tc_getp hW iv0 fl_X1_24 dX1_begin_53 rfl ?_
  refine tc_iload_n 1 rfl dX1_begin_56 ?_
  refine tc_iconst (v := 1) (by decide) dX1_begin_57 ?_
  obtain ⟨hz6, h⟩ := tc_zo_ex h
  obtain ⟨bu5, u5, eu5, h⟩ := tc_sd_ex h
  refine tc_zast hz6 (hW.p iv0 6 rfl).1 bu5 dX1_begin_58 ?_
  refine tc_nmu eu5 ?_
  refine tc_aload_n 0 rfl dX1_begin_59 ?_
  refine tc_getp hW iv0 fl_X1_21 dX1_begin_60 rfl ?_
  refine tc_iload_n 1 rfl dX1_begin_63 ?_
  refine tc_iconst (v := (-1)) (by decide) dX1_begin_64 ?_
  obtain ⟨bu7, u7, eu7, h⟩ := tc_sd_ex h
  refine tc_iast (hW.p iv0 5 rfl).1 bu7 dX1_begin_65 ?_
  refine tc_nmu eu7 ?_
  refine tc_iload_n 2 rfl dX1_begin_66 ?_
  refine tc_iload_n 1 rfl dX1_begin_67 ?_
  refine tc_icmp_eq 97 dX1_begin_68 (by decide) (fun hc8 => ?_) (fun hc8 => ?_)
  · rw [if_pos hc8] at h
    refine tc_lvs [] rfl ?_
    exact sb_X1_begin_97 hW r ur   u7  h
  · rw [if_neg hc8] at h
    refine tc_aload_n 0 rfl dX1_begin_71 ?_
    refine tc_getp hW iv0 fl_X1_15 dX1_begin_72 rfl ?_
    refine tc_iconst (v := 1) (by decide) dX1_begin_75 ?_
    refine tc_iload_n 2 rfl dX1_begin_76 ?_
    obtain ⟨bu9, u9, eu9, h⟩ := tc_sd_ex h
    refine tc_iast (hW.p iv0 3 rfl).1 bu9 dX1_begin_77 ?_
    refine tc_nmu eu9 ?_
    refine tc_aload_n 0 rfl dX1_begin_78 ?_
    refine tc_iconst (v := 2) (by decide) dX1_begin_79 ?_
    obtain ⟨u10, eu10, h⟩ := tc_let_ex h
    refine tc_puti iv0.1 fl_X1_47 dX1_begin_80 ?_
    refine tc_nmu eu10 ?_
    refine tc_aload_n 0 rfl dX1_begin_83 ?_
    refine tc_getp hW iv0 fl_X1_24 dX1_begin_84 rfl ?_
    refine tc_iload_n 2 rfl dX1_begin_87 ?_
    refine tc_iconst (v := 1) (by decide) dX1_begin_88 ?_
    obtain ⟨hz12, h⟩ := tc_zo_ex h
    obtain ⟨bu11, u11, eu11, h⟩ := tc_sd_ex h
    refine tc_zast hz12 (hW.p iv0 6 rfl).1 bu11 dX1_begin_89 ?_
    refine tc_nmu eu11 ?_
    refine tc_aload_n 0 rfl dX1_begin_90 ?_
    refine tc_getp hW iv0 fl_X1_21 dX1_begin_91 rfl ?_
    refine tc_iload_n 2 rfl dX1_begin_94 ?_
    refine tc_iconst (v := (-1)) (by decide) dX1_begin_95 ?_
    obtain ⟨bu13, u13, eu13, h⟩ := tc_sd_ex h
    refine tc_iast (hW.p iv0 5 rfl).1 bu13 dX1_begin_96 ?_
    refine tc_nmu eu13 ?_
    refine tc_lvs [] rfl ?_
    exact sb_X1_begin_97 hW r ur   u13  h
set_option maxRecDepth 100000 in
set_option maxHeartbeats 4000000 in
theorem sl_X1_begin_3 {p : Program} {l : Launch} {e : Env} {s : State} {m : MethodId} {args : Array Value} {below : List Frame} {meth : Method} {c : Code} {z : Nat} {D : tc_D} {G : tc_G} (hW : tc_W G) (r : Int32) (ur : tc_S) : ∀ (n : Nat) (v0 : Nat) (v1 : Int32) (v2 : Int32) (v3 : Int32) (v4 : Int32) (u : tc_S) (iv0 : tc_is G v0 1) (h : lo_X1_begin_3 G n v0 v1 v2 v3 v4 u = some (r, ur)), tc_R p l e { frames := 0, cells := 0, slots := 0, locals := 0 } s m args below meth c z D cX1_begin RX1 5 none 0 0 (tc_pv G ur) 0 0 G u 3 [(0, .ref (z + v0)), (1, .int v1), (2, .int v2), (3, .int v3), (4, .int v4)] [] := by
  intro n
  induction n with
  | zero => intro v0 v1 v2 v3 v4 u iv0 h; cases h
  | succ n ih =>
    intro v0 v1 v2 v3 v4 u iv0 h
    rw [lo_X1_begin_3] at h
    refine tc_iload 4 rfl dX1_begin_3 ?_
    refine tc_iload_n 1 rfl dX1_begin_5 ?_
    refine tc_icmp_ge 30 dX1_begin_6 (by decide) (fun hc14 => ?_) (fun hc14 => ?_)
    · rw [if_pos hc14] at h
      refine tc_lvs [0, 2, 3] rfl ?_
      exact sb_X1_begin_30 hW r ur  v0 v2 v3 u iv0 h
    · rw [if_neg hc14] at h
      refine tc_iload 4 rfl dX1_begin_9 ?_
      refine tc_bipush (v := 32) (by decide) dX1_begin_11 ?_
      refine tc_icmp_ge 30 dX1_begin_13 (by decide) (fun hc15 => ?_) (fun hc15 => ?_)
      · rw [if_pos hc15] at h
        refine tc_lvs [0, 2, 3] rfl ?_
        exact sb_X1_begin_30 hW r ur  v0 v2 v3 u iv0 h
      · rw [if_neg hc15] at h
        refine tc_aload_n 0 rfl dX1_begin_16 ?_
        refine tc_getp hW iv0 fl_X1_24 dX1_begin_17 rfl ?_
        refine tc_iload 4 rfl dX1_begin_20 ?_
        refine tc_iconst (v := 0) (by decide) dX1_begin_22 ?_
        obtain ⟨hz17, h⟩ := tc_zo_ex h
        obtain ⟨bu16, u16, eu16, h⟩ := tc_sd_ex h
        refine tc_zast hz17 (hW.p iv0 6 rfl).1 bu16 dX1_begin_23 ?_
        refine tc_nmu eu16 ?_
        obtain ⟨x18, ex18, h⟩ := tc_let_ex h
        refine tc_iinc 4 (v := x18) [(4, .int x18), (0, .ref (z + v0)), (1, .int v1), (2, .int v2), (3, .int v3)] dX1_begin_24 rfl (by rw [ex18]; rfl) (by decide) rfl ?_
        refine tc_goto 3 dX1_begin_27 (by decide) ?_
        refine tc_lvs [1, 2, 3, 4, 0] rfl ?_
        exact ih v0 v1 v2 v3 x18 u16 iv0 h
set_option maxRecDepth 100000 in
set_option maxHeartbeats 4000000 in
theorem ct_X1_begin {l : Launch} {z : Nat} {D : tc_D} {G : tc_G} (hW : tc_W G) {v0 : Nat} {v1 : Int32} {v2 : Int32} {v3 : Int32} {u : tc_S} {r : Int32} {ur : tc_S} (iv0 : tc_is G v0 1) (h : fn_X1_begin G v0 v1 v2 v3 u = some (r, ur)) : tc_C l z D yX1_begin cX1_begin 5 none 0 0 0 0 [.ref (z + v0), .int v1, .int v2, .int v3] G u (tc_pv G ur) := by
  unfold fn_X1_begin at h
  refine tc_C.of (by decide) (Nat.le_of_ble_eq_true rfl) fun p e s m args below meth c => ?_
  show tc_R p l e { frames := 0, cells := 0, slots := 0, locals := 0 } s m args below meth c z D cX1_begin RX1 5 none 0 0 (tc_pv G ur) 0 0 G u 0 [(0, .ref (z + v0)), (1, .int v1), (2, .int v2), (3, .int v3)] []
  refine tc_iconst (v := 0) (by decide) dX1_begin_0 ?_
  refine tc_istore [(4, .int 0), (0, .ref (z + v0)), (1, .int v1), (2, .int v2), (3, .int v3)] dX1_begin_1 (by decide) rfl ?_
  refine tc_lvs [1, 2, 3, 4, 0] rfl ?_
  exact sl_X1_begin_3 hW r ur  _ v0 v1 v2 v3 0 u iv0 h
set_option maxRecDepth 100000 in
set_option maxHeartbeats 4000000 in
theorem sl_X1_trace_56 {p : Program} {l : Launch} {e : Env} {s : State} {m : MethodId} {args : Array Value} {below : List Frame} {meth : Method} {c : Code} {z : Nat} {D : tc_D} {G : tc_G} (hW : tc_W G) (r : Int32) (ur : tc_S) : ∀ (n : Nat) (v0 : Nat) (v2 : Int32) (v3 : Int32) (u : tc_S) (iv0 : tc_is G v0 1) (h : lo_X1_trace_56 G n v0 v2 v3 u = some (r, ur)), tc_R p l e { frames := 0, cells := 0, slots := 0, locals := 0 } s m args below meth c z D cX1_trace RX1 4 none 0 0 (tc_pv G ur) 0 0 G u 56 [(0, .ref (z + v0)), (2, .int v2), (3, .int v3)] [] := by
  intro n
  induction n with
  | zero => intro v0 v2 v3 u iv0 h; cases h
  | succ n ih =>
    intro v0 v2 v3 u iv0 h
    rw [lo_X1_trace_56] at h
    refine tc_iload_n 2 rfl dX1_trace_56 ?_
    refine tc_if_lt 85 dX1_trace_57 (by decide) (fun hc1 => ?_) (fun hc1 => ?_)
    · rw [if_pos hc1] at h
      cases h
      exact tc_return rfl dX1_trace_85 rfl rfl ⟨rfl, rfl, rfl⟩
    · rw [if_neg hc1] at h
      refine tc_aload_n 0 rfl dX1_trace_60 ?_
      refine tc_getp hW iv0 fl_X1_9 dX1_trace_61 rfl ?_
      refine tc_iload_n 2 rfl dX1_trace_64 ?_
      refine tc_aload_n 0 rfl dX1_trace_65 ?_
      refine tc_getp hW iv0 fl_X1_18 dX1_trace_66 rfl ?_
      refine tc_iload_n 1 rfl dX1_trace_69 ?_
      obtain ⟨bx2, x2, ex2, h⟩ := tc_ld_ex h
      refine tc_iald (hW.p iv0 4 rfl).1 bx2 dX1_trace_70 ?_
      refine tc_nm ex2 ?_
      obtain ⟨bu3, u3, eu3, h⟩ := tc_sd_ex h
      refine tc_iast (hW.p iv0 0 rfl).1 bu3 dX1_trace_71 ?_
      refine tc_nmu eu3 ?_
      refine tc_aload_n 0 rfl dX1_trace_72 ?_
      refine tc_getp hW iv0 fl_X1_21 dX1_trace_73 rfl ?_
      refine tc_iload_n 1 rfl dX1_trace_76 ?_
      obtain ⟨bx4, x4, ex4, h⟩ := tc_ld_ex h
      refine tc_iald (hW.p iv0 5 rfl).1 bx4 dX1_trace_77 ?_
      refine tc_nm ex4 ?_
      refine tc_istore_n [(2, .int x4), (0, .ref (z + v0)), (3, .int v3)] dX1_trace_78 (by decide) rfl ?_
      obtain ⟨x5, ex5, h⟩ := tc_let_ex h
      refine tc_iinc 2 (v := x5) [(3, .int x5), (2, .int x4), (0, .ref (z + v0))] dX1_trace_79 rfl (by rw [ex5]; rfl) (by decide) rfl ?_
      refine tc_goto 56 dX1_trace_82 (by decide) ?_
      refine tc_lvs [2, 1, 0] rfl ?_
      exact ih v0 x4 x5 u3 iv0 h
set_option maxRecDepth 100000 in
set_option maxHeartbeats 4000000 in
theorem sb_X1_trace_47 {p : Program} {l : Launch} {e : Env} {s : State} {m : MethodId} {args : Array Value} {below : List Frame} {meth : Method} {c : Code} {z : Nat} {D : tc_D} {G : tc_G} (hW : tc_W G) (r : Int32) (ur : tc_S) (v0 : Nat) (v1 : Int32) (u : tc_S) (iv0 : tc_is G v0 1) (h : bl_X1_trace_47 G v0 v1 u = some (r, ur)) : tc_R p l e { frames := 0, cells := 0, slots := 0, locals := 0 } s m args below meth c z D cX1_trace RX1 4 none 0 0 (tc_pv G ur) 0 0 G u 47 [(0, .ref (z + v0)), (1, .int v1)] [] := by
  unfold bl_X1_trace_47 at h
  refine tc_iload_n 1 rfl dX1_trace_47 ?_
  refine tc_istore_n [(2, .int v1), (0, .ref (z + v0)), (1, .int v1)] dX1_trace_48 (by decide) rfl ?_
  refine tc_aload_n 1 rfl dX1_trace_49 ?_
  refine tc_geti iv0.1 fl_X1_66 dX1_trace_50 ?_
  refine tc_iconst (v := 1) (by decide) dX1_trace_53 ?_
  refine tc_isub dX1_trace_54 ?_
  obtain ⟨x6, ex6, h⟩ := tc_let_ex h
  refine tc_nm ex6 ?_
  refine tc_istore_n [(3, .int x6), (2, .int v1), (0, .ref (z + v0)), (1, .int v1)] dX1_trace_55 (by decide) rfl ?_
  refine tc_lvs [2, 1, 0] rfl ?_
  exact sl_X1_trace_56 hW r ur  _ v0 v1 x6 u iv0 h
set_option maxRecDepth 100000 in
set_option maxHeartbeats 4000000 in
theorem sl_X1_trace_9 {p : Program} {l : Launch} {e : Env} {s : State} {m : MethodId} {args : Array Value} {below : List Frame} {meth : Method} {c : Code} {z : Nat} {D : tc_D} {G : tc_G} (hW : tc_W G) (r : Int32) (ur : tc_S) : ∀ (n : Nat) (v0 : Nat) (v1 : Int32) (v2 : Int32) (v3 : Int32) (u : tc_S) (iv0 : tc_is G v0 1) (h : lo_X1_trace_9 G n v0 v1 v2 v3 u = some (r, ur)), tc_R p l e { frames := 0, cells := 0, slots := 0, locals := 0 } s m args below meth c z D cX1_trace RX1 4 none 0 0 (tc_pv G ur) 0 0 G u 9 [(0, .ref (z + v0)), (1, .int v1), (2, .int v2), (3, .int v3)] [] := by
  intro n
  induction n with
  | zero => intro v0 v1 v2 v3 u iv0 h; cases h
  | succ n ih =>
    intro v0 v1 v2 v3 u iv0 h
    rw [lo_X1_trace_9] at h
    refine tc_iload_n 3 rfl dX1_trace_9 ?_
    refine tc_bipush (v := 32) (by decide) dX1_trace_10 ?_
    refine tc_icmp_ge 47 dX1_trace_12 (by decide) (fun hc7 => ?_) (fun hc7 => ?_)
    · rw [if_pos hc7] at h
      refine tc_lvs [0, 1] rfl ?_
      exact sb_X1_trace_47 hW r ur  v0 v1 u iv0 h
    · rw [if_neg hc7] at h
      refine tc_aload_n 0 rfl dX1_trace_15 ?_
      refine tc_getp hW iv0 fl_X1_21 dX1_trace_16 rfl ?_
      refine tc_iload_n 2 rfl dX1_trace_19 ?_
      obtain ⟨bx8, x8, ex8, h⟩ := tc_ld_ex h
      refine tc_iald (hW.p iv0 5 rfl).1 bx8 dX1_trace_20 ?_
      refine tc_nm ex8 ?_
      refine tc_if_lt 47 dX1_trace_21 (by decide) (fun hc9 => ?_) (fun hc9 => ?_)
      · rw [if_pos hc9] at h
        refine tc_lvs [0, 1] rfl ?_
        exact sb_X1_trace_47 hW r ur  v0 v1 u iv0 h
      · rw [if_neg hc9] at h
        refine tc_aload_n 0 rfl dX1_trace_24 ?_
        refine tc_getp hW iv0 fl_X1_21 dX1_trace_25 rfl ?_
        refine tc_iload_n 2 rfl dX1_trace_28 ?_
        obtain ⟨bx10, x10, ex10, h⟩ := tc_ld_ex h
        refine tc_iald (hW.p iv0 5 rfl).1 bx10 dX1_trace_29 ?_
        refine tc_nm ex10 ?_
        refine tc_istore_n [(2, .int x10), (0, .ref (z + v0)), (1, .int v1), (3, .int v3)] dX1_trace_30 (by decide) rfl ?_
        refine tc_aload_n 1 rfl dX1_trace_31 ?_
        refine tc_dup rfl dX1_trace_32 ?_
        refine tc_geti iv0.1 fl_X1_66 dX1_trace_33 ?_
        refine tc_iconst (v := 1) (by decide) dX1_trace_36 ?_
        refine tc_iadd dX1_trace_37 ?_
        obtain ⟨u11, eu11, h⟩ := tc_let_ex h
        refine tc_puti iv0.1 fl_X1_66 dX1_trace_38 ?_
        refine tc_nmu eu11 ?_
        obtain ⟨x12, ex12, h⟩ := tc_let_ex h
        refine tc_iinc 3 (v := x12) [(3, .int x12), (2, .int x10), (0, .ref (z + v0)), (1, .int v1)] dX1_trace_41 rfl (by rw [ex12]; rfl) (by decide) rfl ?_
        refine tc_goto 9 dX1_trace_44 (by decide) ?_
        refine tc_lvs [2, 3, 1, 0] rfl ?_
        exact ih v0 v1 x10 x12 u11 iv0 h
set_option maxRecDepth 100000 in
set_option maxHeartbeats 4000000 in
theorem ct_X1_trace {l : Launch} {z : Nat} {D : tc_D} {G : tc_G} (hW : tc_W G) {v0 : Nat} {v1 : Int32} {u : tc_S} {r : Int32} {ur : tc_S} (iv0 : tc_is G v0 1) (h : fn_X1_trace G v0 v1 u = some (r, ur)) : tc_C l z D yX1_trace cX1_trace 4 none 0 0 0 0 [.ref (z + v0), .int v1] G u (tc_pv G ur) := by
  unfold fn_X1_trace at h
  refine tc_C.of (by decide) (Nat.le_of_ble_eq_true rfl) fun p e s m args below meth c => ?_
  show tc_R p l e { frames := 0, cells := 0, slots := 0, locals := 0 } s m args below meth c z D cX1_trace RX1 4 none 0 0 (tc_pv G ur) 0 0 G u 0 [(0, .ref (z + v0)), (1, .int v1)] []
  refine tc_aload_n 0 rfl dX1_trace_0 ?_
  refine tc_iload_n 1 rfl dX1_trace_1 ?_
  obtain ⟨u13, eu13, h⟩ := tc_let_ex h
  refine tc_puti iv0.1 fl_X1_69 dX1_trace_2 ?_
  refine tc_nmu eu13 ?_
  refine tc_iload_n 1 rfl dX1_trace_5 ?_
  refine tc_istore_n [(2, .int v1), (0, .ref (z + v0)), (1, .int v1)] dX1_trace_6 (by decide) rfl ?_
  refine tc_iconst (v := 0) (by decide) dX1_trace_7 ?_
  refine tc_istore_n [(3, .int 0), (2, .int v1), (0, .ref (z + v0)), (1, .int v1)] dX1_trace_8 (by decide) rfl ?_
  refine tc_lvs [2, 3, 1, 0] rfl ?_
  exact sl_X1_trace_9 hW r ur  _ v0 v1 v1 0 u13 iv0 h
set_option maxRecDepth 100000 in
set_option maxHeartbeats 4000000 in
theorem sb_X1_seek_206 {p : Program} {l : Launch} {e : Env} {s : State} {m : MethodId} {args : Array Value} {below : List Frame} {meth : Method} {c : Code} {z : Nat} {D : tc_D} {G : tc_G} (hW : tc_W G) (r : Int32) (ur : tc_S) (u : tc_S) (h : bl_X1_seek_206 G  u = some (r, ur)) : tc_R p l e { frames := 1, cells := 0, slots := 0, locals := 24 } s m args below meth c z D cX1_seek RX1 11 (some .boolean) 0 0 (tc_po r G ur) 0 0 G u 206 [] [] := by
  unfold bl_X1_seek_206 at h
  refine tc_iconst (v := 0) (by decide) dX1_seek_206 ?_
  obtain ⟨hz1, h⟩ := tc_zo_ex h
  cases h
  exact tc_zreturn hz1 rfl dX1_seek_207 rfl rfl ⟨rfl, rfl, rfl⟩
set_option maxRecDepth 100000 in
set_option maxHeartbeats 4000000 in
theorem sb_X1_seek_194 {p : Program} {l : Launch} {e : Env} {s : State} {m : MethodId} {args : Array Value} {below : List Frame} {meth : Method} {c : Code} {z : Nat} {D : tc_D} {G : tc_G} (hW : tc_W G) (r : Int32) (ur : tc_S) (K25 : Nat → Nat → Int32 → Int32 → tc_S → Option (Int32 × tc_S)) (hK25 : ∀ (v0 : Nat) (v1 : Nat) (v4 : Int32) (v5 : Int32) (u : tc_S), tc_is G v0 1 → tc_is G v1 9 → K25 v0 v1 v4 v5 u = some (r, ur) → tc_R p l e { frames := 1, cells := 0, slots := 0, locals := 24 } s m args below meth c z D cX1_seek RX1 11 (some .boolean) 0 0 (tc_po r G ur) 0 0 G u 25 [(0, .ref (z + v0)), (1, .ref (z + v1)), (4, .int v4), (5, .int v5)] []) (K61 : Nat → Nat → Int32 → Int32 → Int32 → Int32 → Int32 → tc_S → Option (Int32 × tc_S)) (hK61 : ∀ (v0 : Nat) (v1 : Nat) (v4 : Int32) (v5 : Int32) (v6 : Int32) (v7 : Int32) (v8 : Int32) (u : tc_S), tc_is G v0 1 → tc_is G v1 9 → K61 v0 v1 v4 v5 v6 v7 v8 u = some (r, ur) → tc_R p l e { frames := 1, cells := 0, slots := 0, locals := 24 } s m args below meth c z D cX1_seek RX1 11 (some .boolean) 0 0 (tc_po r G ur) 0 0 G u 61 [(0, .ref (z + v0)), (1, .ref (z + v1)), (4, .int v4), (5, .int v5), (6, .int v6), (7, .int v7), (8, .int v8)] []) (v0 : Nat) (v1 : Nat) (v4 : Int32) (v5 : Int32) (v6 : Int32) (v7 : Int32) (v8 : Int32) (u : tc_S) (iv0 : tc_is G v0 1) (iv1 : tc_is G v1 9) (h : bl_X1_seek_194 G K25 K61 v0 v1 v4 v5 v6 v7 v8 u = some (r, ur)) : tc_R p l e { frames := 1, cells := 0, slots := 0, locals := 24 } s m args below meth c z D cX1_seek RX1 11 (some .boolean) 0 0 (tc_po r G ur) 0 0 G u 194 [(0, .ref (z + v0)), (1, .ref (z + v1)), (4, .int v4), (5, .int v5), (6, .int v6), (7, .int v7), (8, .int v8)] [] := by
  unfold bl_X1_seek_194 at h
  obtain ⟨x2, ex2, h⟩ := tc_let_ex h
  refine tc_iinc 6 (v := x2) [(8, .int x2), (0, .ref (z + v0)), (1, .ref (z + v1)), (4, .int v4), (5, .int v5), (6, .int v6), (7, .int v7)] dX1_seek_194 rfl (by rw [ex2]; rfl) (by decide) rfl ?_
  refine tc_goto 61 dX1_seek_197 (by decide) ?_
  refine tc_lvs [1, 2, 3, 4, 5, 6, 0] rfl ?_
  exact hK61 v0 v1 v4 v5 v6 v7 x2 u iv0 iv1 h
set_option maxRecDepth 100000 in
set_option maxHeartbeats 4000000 in
theorem sb_X1_seek_112 {p : Program} {l : Launch} {e : Env} {s : State} {m : MethodId} {args : Array Value} {below : List Frame} {meth : Method} {c : Code} {z : Nat} {D : tc_D} {G : tc_G} (hW : tc_W G) (r : Int32) (ur : tc_S) (K25 : Nat → Nat → Int32 → Int32 → tc_S → Option (Int32 × tc_S)) (hK25 : ∀ (v0 : Nat) (v1 : Nat) (v4 : Int32) (v5 : Int32) (u : tc_S), tc_is G v0 1 → tc_is G v1 9 → K25 v0 v1 v4 v5 u = some (r, ur) → tc_R p l e { frames := 1, cells := 0, slots := 0, locals := 24 } s m args below meth c z D cX1_seek RX1 11 (some .boolean) 0 0 (tc_po r G ur) 0 0 G u 25 [(0, .ref (z + v0)), (1, .ref (z + v1)), (4, .int v4), (5, .int v5)] []) (K61 : Nat → Nat → Int32 → Int32 → Int32 → Int32 → Int32 → tc_S → Option (Int32 × tc_S)) (hK61 : ∀ (v0 : Nat) (v1 : Nat) (v4 : Int32) (v5 : Int32) (v6 : Int32) (v7 : Int32) (v8 : Int32) (u : tc_S), tc_is G v0 1 → tc_is G v1 9 → K61 v0 v1 v4 v5 v6 v7 v8 u = some (r, ur) → tc_R p l e { frames := 1, cells := 0, slots := 0, locals := 24 } s m args below meth c z D cX1_seek RX1 11 (some .boolean) 0 0 (tc_po r G ur) 0 0 G u 61 [(0, .ref (z + v0)), (1, .ref (z + v1)), (4, .int v4), (5, .int v5), (6, .int v6), (7, .int v7), (8, .int v8)] []) (v0 : Nat) (v1 : Nat) (v4 : Int32) (v5 : Int32) (v6 : Int32) (v7 : Int32) (v8 : Int32) (s0 : Int32) (u : tc_S) (iv0 : tc_is G v0 1) (iv1 : tc_is G v1 9) (h : bl_X1_seek_112 G K25 K61 v0 v1 v4 v5 v6 v7 v8 s0 u = some (r, ur)) : tc_R p l e { frames := 1, cells := 0, slots := 0, locals := 24 } s m args below meth c z D cX1_seek RX1 11 (some .boolean) 0 0 (tc_po r G ur) 0 0 G u 112 [(0, .ref (z + v0)), (1, .ref (z + v1)), (4, .int v4), (5, .int v5), (6, .int v6), (7, .int v7), (8, .int v8)] [.int s0] := by
  unfold bl_X1_seek_112 at h
  refine tc_istore [(10, .int s0), (0, .ref (z + v0)), (1, .ref (z + v1)), (4, .int v4), (5, .int v5), (6, .int v6), (7, .int v7), (8, .int v8)] dX1_seek_112 (by decide) rfl ?_
  refine tc_aload_n 1 rfl dX1_seek_114 ?_
  refine tc_getp hW iv0 fl_X1_24 dX1_seek_115 rfl ?_
  refine tc_iload 0 rfl dX1_seek_118 ?_
  obtain ⟨bx3, x3, ex3, h⟩ := tc_ld_ex h
  refine tc_zald (hW.p iv0 6 rfl).1 bx3 dX1_seek_120 ?_
  refine tc_nm ex3 ?_
  refine tc_if_eq 127 dX1_seek_121 (by decide) (fun hc4 => ?_) (fun hc4 => ?_)
  · rw [if_pos hc4] at h
    refine tc_aload_n 1 rfl dX1_seek_127 ?_
    refine tc_getp hW iv0 fl_X1_24 dX1_seek_128 rfl ?_
    refine tc_iload 0 rfl dX1_seek_131 ?_
    refine tc_iconst (v := 1) (by decide) dX1_seek_133 ?_
    obtain ⟨hz6, h⟩ := tc_zo_ex h
    obtain ⟨bu5, u5, eu5, h⟩ := tc_sd_ex h
    refine tc_zast hz6 (hW.p iv0 6 rfl).1 bu5 dX1_seek_134 ?_
    refine tc_nmu eu5 ?_
    refine tc_aload_n 1 rfl dX1_seek_135 ?_
    refine tc_getp hW iv0 fl_X1_18 dX1_seek_136 rfl ?_
    refine tc_iload 0 rfl dX1_seek_139 ?_
    refine tc_iload 7 rfl dX1_seek_141 ?_
    obtain ⟨bu7, u7, eu7, h⟩ := tc_sd_ex h
    refine tc_iast (hW.p iv0 4 rfl).1 bu7 dX1_seek_143 ?_
    refine tc_nmu eu7 ?_
    refine tc_aload_n 1 rfl dX1_seek_144 ?_
    refine tc_getp hW iv0 fl_X1_21 dX1_seek_145 rfl ?_
    refine tc_iload 0 rfl dX1_seek_148 ?_
    refine tc_iload 5 rfl dX1_seek_150 ?_
    obtain ⟨bu8, u8, eu8, h⟩ := tc_sd_ex h
    refine tc_iast (hW.p iv0 5 rfl).1 bu8 dX1_seek_152 ?_
    refine tc_nmu eu8 ?_
    refine tc_aload_n 2 rfl dX1_seek_153 ?_
    refine tc_getp hW iv1 fl_X1_59 dX1_seek_154 rfl ?_
    refine tc_iload 0 rfl dX1_seek_157 ?_
    obtain ⟨bx9, x9, ex9, h⟩ := tc_ld_ex h
    refine tc_iald (hW.p iv1 9 rfl).1 bx9 dX1_seek_159 ?_
    refine tc_nm ex9 ?_
    refine tc_iload 3 rfl dX1_seek_160 ?_
    refine tc_icmp_ge 173 dX1_seek_162 (by decide) (fun hc10 => ?_) (fun hc10 => ?_)
    · rw [if_pos hc10] at h
      refine tc_aload_n 1 rfl dX1_seek_173 ?_
      refine tc_getp hW iv0 fl_X1_15 dX1_seek_174 rfl ?_
      refine tc_aload_n 1 rfl dX1_seek_177 ?_
      refine tc_geti iv0.1 fl_X1_47 dX1_seek_178 ?_
      refine tc_iload 0 rfl dX1_seek_181 ?_
      obtain ⟨bu11, u11, eu11, h⟩ := tc_sd_ex h
      refine tc_iast (hW.p iv0 3 rfl).1 bu11 dX1_seek_183 ?_
      refine tc_nmu eu11 ?_
      refine tc_aload_n 1 rfl dX1_seek_184 ?_
      refine tc_dup rfl dX1_seek_185 ?_
      refine tc_geti iv0.1 fl_X1_47 dX1_seek_186 ?_
      refine tc_iconst (v := 1) (by decide) dX1_seek_189 ?_
      refine tc_iadd dX1_seek_190 ?_
      obtain ⟨u12, eu12, h⟩ := tc_let_ex h
      refine tc_puti iv0.1 fl_X1_47 dX1_seek_191 ?_
      refine tc_nmu eu12 ?_
      refine tc_lvs [1, 2, 3, 4, 5, 6, 7] rfl ?_
      exact sb_X1_seek_194 hW r ur K25 hK25 K61 hK61 v0 v1 v4 v5 v6 v7 v8 u12 iv0 iv1 h
    · rw [if_neg hc10] at h
      refine tc_aload_n 1 rfl dX1_seek_165 ?_
      refine tc_iload 0 rfl dX1_seek_166 ?_
      obtain ⟨x13, u14, hq15, h⟩ := tc_b_ex h
      refine tc_callVv [.int s0] dX1_seek_168 iv0.1 (ct_X1_trace hW iv0 hq15) ml_X1_62 mw_X1_trace mv_X1_trace ⟨Nat.le_of_ble_eq_true rfl, Nat.le_of_ble_eq_true rfl⟩ rfl rfl (Nat.le_of_ble_eq_true rfl) ⟨Nat.le_refl _, Nat.le_refl _⟩ (by decide) ?_
      refine tc_iconst (v := 1) (by decide) dX1_seek_171 ?_
      obtain ⟨hz16, h⟩ := tc_zo_ex h
      cases h
      exact tc_zreturn hz16 rfl dX1_seek_172 rfl rfl ⟨rfl, rfl, rfl⟩
  · rw [if_neg hc4] at h
    refine tc_goto 194 dX1_seek_124 (by decide) ?_
    refine tc_lvs [1, 2, 3, 4, 5, 6, 7] rfl ?_
    exact sb_X1_seek_194 hW r ur K25 hK25 K61 hK61 v0 v1 v4 v5 v6 v7 v8 u iv0 iv1 h
set_option maxRecDepth 100000 in
set_option maxHeartbeats 4000000 in
theorem sl_X1_seek_61 {p : Program} {l : Launch} {e : Env} {s : State} {m : MethodId} {args : Array Value} {below : List Frame} {meth : Method} {c : Code} {z : Nat} {D : tc_D} {G : tc_G} (hW : tc_W G) (r : Int32) (ur : tc_S) (K25 : Nat → Nat → Int32 → Int32 → tc_S → Option (Int32 × tc_S)) (hK25 : ∀ (v0 : Nat) (v1 : Nat) (v4 : Int32) (v5 : Int32) (u : tc_S), tc_is G v0 1 → tc_is G v1 9 → K25 v0 v1 v4 v5 u = some (r, ur) → tc_R p l e { frames := 1, cells := 0, slots := 0, locals := 24 } s m args below meth c z D cX1_seek RX1 11 (some .boolean) 0 0 (tc_po r G ur) 0 0 G u 25 [(0, .ref (z + v0)), (1, .ref (z + v1)), (4, .int v4), (5, .int v5)] []) : ∀ (n : Nat) (v0 : Nat) (v1 : Nat) (v4 : Int32) (v5 : Int32) (v6 : Int32) (v7 : Int32) (v8 : Int32) (u : tc_S) (iv0 : tc_is G v0 1) (iv1 : tc_is G v1 9) (h : lo_X1_seek_61 G K25 n v0 v1 v4 v5 v6 v7 v8 u = some (r, ur)), tc_R p l e { frames := 1, cells := 0, slots := 0, locals := 24 } s m args below meth c z D cX1_seek RX1 11 (some .boolean) 0 0 (tc_po r G ur) 0 0 G u 61 [(0, .ref (z + v0)), (1, .ref (z + v1)), (4, .int v4), (5, .int v5), (6, .int v6), (7, .int v7), (8, .int v8)] [] := by
  intro n
  induction n with
  | zero => intro v0 v1 v4 v5 v6 v7 v8 u iv0 iv1 h; cases h
  | succ n ih =>
    intro v0 v1 v4 v5 v6 v7 v8 u iv0 iv1 h
    rw [lo_X1_seek_61] at h
    refine tc_iload 6 rfl dX1_seek_61 ?_
    refine tc_iload 5 rfl dX1_seek_63 ?_
    refine tc_iload 2 rfl dX1_seek_65 ?_
    refine tc_iadd dX1_seek_67 ?_
    refine tc_icmp_ge 200 dX1_seek_68 (by decide) (fun hc17 => ?_) (fun hc17 => ?_)
    · rw [if_pos hc17] at h
      obtain ⟨x18, ex18, h⟩ := tc_let_ex h
      refine tc_iinc 3 (v := x18) [(5, .int x18), (0, .ref (z + v0)), (1, .ref (z + v1)), (4, .int v4), (6, .int v6), (7, .int v7), (8, .int v8)] dX1_seek_200 rfl (by rw [ex18]; rfl) (by decide) rfl ?_
      refine tc_goto 25 dX1_seek_203 (by decide) ?_
      refine tc_lvs [1, 2, 3, 0] rfl ?_
      exact hK25 v0 v1 v4 x18 u iv0 iv1 h
    · rw [if_neg hc17] at h
      refine tc_aload_n 1 rfl dX1_seek_71 ?_
      refine tc_getp hW iv1 fl_X1_50 dX1_seek_72 rfl ?_
      refine tc_iload 6 rfl dX1_seek_75 ?_
      obtain ⟨bx19, x19, ex19, h⟩ := tc_ld_ex h
      refine tc_iald (hW.p iv1 3 rfl).1 bx19 dX1_seek_77 ?_
      refine tc_nm ex19 ?_
      refine tc_if_ge 84 dX1_seek_78 (by decide) (fun hc20 => ?_) (fun hc20 => ?_)
      · rw [if_pos hc20] at h
        refine tc_aload_n 1 rfl dX1_seek_84 ?_
        refine tc_getp hW iv1 fl_X1_53 dX1_seek_85 rfl ?_
        refine tc_iload 6 rfl dX1_seek_88 ?_
        obtain ⟨bx21, x21, ex21, h⟩ := tc_ld_ex h
        refine tc_iald (hW.p iv1 7 rfl).1 bx21 dX1_seek_90 ?_
        refine tc_nm ex21 ?_
        refine tc_istore [(9, .int x21), (0, .ref (z + v0)), (1, .ref (z + v1)), (4, .int v4), (5, .int v5), (6, .int v6), (7, .int v7), (8, .int v8)] dX1_seek_91 (by decide) rfl ?_
        refine tc_iload 0 rfl dX1_seek_93 ?_
        refine tc_iload 5 rfl dX1_seek_95 ?_
        refine tc_icmp_ne 110 dX1_seek_97 (by decide) (fun hc22 => ?_) (fun hc22 => ?_)
        · rw [if_neg hc22] at h
          refine tc_iload 0 rfl dX1_seek_110 ?_
          refine tc_lvs [1, 2, 3, 4, 5, 6, 7] rfl ?_
          exact sb_X1_seek_112 hW r ur K25 hK25 _ ih v0 v1 v4 v5 v6 v7 v8 x21 u iv0 iv1 h
        · rw [if_pos hc22] at h
          refine tc_aload_n 2 rfl dX1_seek_100 ?_
          refine tc_getp hW iv1 fl_X1_56 dX1_seek_101 rfl ?_
          refine tc_iload 7 rfl dX1_seek_104 ?_
          obtain ⟨bx23, x23, ex23, h⟩ := tc_ld_ex h
          refine tc_iald (hW.p iv1 8 rfl).1 bx23 dX1_seek_106 ?_
          refine tc_nm ex23 ?_
          refine tc_goto 112 dX1_seek_107 (by decide) ?_
          refine tc_lvs [1, 2, 3, 4, 5, 6, 7] rfl ?_
          exact sb_X1_seek_112 hW r ur K25 hK25 _ ih v0 v1 v4 v5 v6 v7 v8 x23 u iv0 iv1 h
      · rw [if_neg hc20] at h
        refine tc_goto 194 dX1_seek_81 (by decide) ?_
        exact sb_X1_seek_194 hW r ur K25 hK25 _ ih v0 v1 v4 v5 v6 v7 v8 u iv0 iv1 h
set_option maxRecDepth 100000 in
set_option maxHeartbeats 4000000 in
theorem sl_X1_seek_25 {p : Program} {l : Launch} {e : Env} {s : State} {m : MethodId} {args : Array Value} {below : List Frame} {meth : Method} {c : Code} {z : Nat} {D : tc_D} {G : tc_G} (hW : tc_W G) (r : Int32) (ur : tc_S) : ∀ (n : Nat) (v0 : Nat) (v1 : Nat) (v4 : Int32) (v5 : Int32) (u : tc_S) (iv0 : tc_is G v0 1) (iv1 : tc_is G v1 9) (h : lo_X1_seek_25 G n v0 v1 v4 v5 u = some (r, ur)), tc_R p l e { frames := 1, cells := 0, slots := 0, locals := 24 } s m args below meth c z D cX1_seek RX1 11 (some .boolean) 0 0 (tc_po r G ur) 0 0 G u 25 [(0, .ref (z + v0)), (1, .ref (z + v1)), (4, .int v4), (5, .int v5)] [] := by
  intro n
  induction n with
  | zero => intro v0 v1 v4 v5 u iv0 iv1 h; cases h
  | succ n ih =>
    intro v0 v1 v4 v5 u iv0 iv1 h
    rw [lo_X1_seek_25] at h
    refine tc_iload 3 rfl dX1_seek_25 ?_
    refine tc_aload_n 0 rfl dX1_seek_27 ?_
    refine tc_geti iv0.1 fl_X1_47 dX1_seek_28 ?_
    refine tc_icmp_ge 206 dX1_seek_31 (by decide) (fun hc24 => ?_) (fun hc24 => ?_)
    · rw [if_pos hc24] at h
      refine tc_lvs [] rfl ?_
      exact sb_X1_seek_206 hW r ur   u  h
    · rw [if_neg hc24] at h
      refine tc_iload 3 rfl dX1_seek_34 ?_
      refine tc_bipush (v := 32) (by decide) dX1_seek_36 ?_
      refine tc_icmp_ge 206 dX1_seek_38 (by decide) (fun hc25 => ?_) (fun hc25 => ?_)
      · rw [if_pos hc25] at h
        refine tc_lvs [] rfl ?_
        exact sb_X1_seek_206 hW r ur   u  h
      · rw [if_neg hc25] at h
        refine tc_aload_n 0 rfl dX1_seek_41 ?_
        refine tc_getp hW iv0 fl_X1_15 dX1_seek_42 rfl ?_
        refine tc_iload 3 rfl dX1_seek_45 ?_
        obtain ⟨bx26, x26, ex26, h⟩ := tc_ld_ex h
        refine tc_iald (hW.p iv0 3 rfl).1 bx26 dX1_seek_47 ?_
        refine tc_nm ex26 ?_
        refine tc_istore [(6, .int x26), (0, .ref (z + v0)), (1, .ref (z + v1)), (4, .int v4), (5, .int v5)] dX1_seek_48 (by decide) rfl ?_
        refine tc_iload 0 rfl dX1_seek_50 ?_
        refine tc_iload 3 rfl dX1_seek_52 ?_
        refine tc_imul dX1_seek_54 ?_
        obtain ⟨x27, ex27, h⟩ := tc_let_ex h
        refine tc_nm ex27 ?_
        refine tc_istore [(7, .int x27), (6, .int x26), (0, .ref (z + v0)), (1, .ref (z + v1)), (4, .int v4), (5, .int v5)] dX1_seek_55 (by decide) rfl ?_
        refine tc_iload 0 rfl dX1_seek_57 ?_
        refine tc_istore [(8, .int x27), (7, .int x27), (6, .int x26), (0, .ref (z + v0)), (1, .ref (z + v1)), (4, .int v4), (5, .int v5)] dX1_seek_59 (by decide) rfl ?_
        refine tc_lvs [3, 4, 5, 6, 2, 1, 0] rfl ?_
        exact sl_X1_seek_61 hW r ur _ ih _ v0 v1 v4 v5 x26 x27 x27 u iv0 iv1 h
set_option maxRecDepth 100000 in
set_option maxHeartbeats 4000000 in
theorem ct_X1_seek {l : Launch} {z : Nat} {D : tc_D} {G : tc_G} (hW : tc_W G) {v0 : Nat} {v1 : Nat} {v2 : Int32} {v3 : Int32} {u : tc_S} {r : Int32} {ur : tc_S} (iv0 : tc_is G v0 1) (iv1 : tc_is G v1 9) (h : fn_X1_seek G v0 v1 v2 v3 u = some (r, ur)) : tc_C l z D yX1_seek cX1_seek 11 (some .boolean) 1 24 0 0 [.ref (z + v0), .ref (z + v1), .int v2, .int v3] G u (tc_po r G ur) := by
  unfold fn_X1_seek at h
  refine tc_C.of (by decide) (Nat.le_of_ble_eq_true rfl) fun p e s m args below meth c => ?_
  show tc_R p l e { frames := 1, cells := 0, slots := 0, locals := 24 } s m args below meth c z D cX1_seek RX1 11 (some .boolean) 0 0 (tc_po r G ur) 0 0 G u 0 [(0, .ref (z + v0)), (1, .ref (z + v1)), (2, .int v2), (3, .int v3)] []
  refine tc_aload_n 0 rfl dX1_seek_0 ?_
  refine tc_aload_n 1 rfl dX1_seek_1 ?_
  refine tc_getp hW iv1 fl_X1_28 dX1_seek_2 rfl ?_
  refine tc_geti (hW.p iv1 0 rfl).1 fl_X1_34 dX1_seek_5 ?_
  refine tc_iload_n 2 rfl dX1_seek_8 ?_
  refine tc_iload_n 3 rfl dX1_seek_9 ?_
  obtain ⟨x28, u29, hq30, h⟩ := tc_b_ex h
  refine tc_callVv [.int (u.1 (tc_p G v1 0) 0), .int v2, .int v3] dX1_seek_10 iv0.1 (ct_X1_begin hW iv0 hq30) ml_X1_40 mw_X1_begin mv_X1_begin ⟨Nat.le_of_ble_eq_true rfl, Nat.le_of_ble_eq_true rfl⟩ rfl rfl (Nat.le_of_ble_eq_true rfl) ⟨Nat.le_refl _, Nat.le_refl _⟩ (by decide) ?_
  refine tc_aload_n 1 rfl dX1_seek_13 ?_
  refine tc_getp hW iv1 fl_X1_28 dX1_seek_14 rfl ?_
  refine tc_geti (hW.p iv1 0 rfl).1 fl_X1_44 dX1_seek_17 ?_
  obtain ⟨x31, ex31, h⟩ := tc_let_ex h
  refine tc_nm ex31 ?_
  refine tc_istore [(4, .int x31), (0, .ref (z + v0)), (1, .ref (z + v1)), (2, .int v2), (3, .int v3)] dX1_seek_20 (by decide) rfl ?_
  refine tc_iconst (v := 0) (by decide) dX1_seek_22 ?_
  refine tc_istore [(5, .int 0), (4, .int x31), (0, .ref (z + v0)), (1, .ref (z + v1)), (2, .int v2), (3, .int v3)] dX1_seek_23 (by decide) rfl ?_
  refine tc_lvs [2, 3, 1, 0] rfl ?_
  exact sl_X1_seek_25 hW r ur  _ v0 v1 x31 0 u29 iv0 iv1 h
set_option maxRecDepth 100000 in
set_option maxHeartbeats 4000000 in
theorem ct_X4_seekFor {l : Launch} {z : Nat} {D : tc_D} {G : tc_G} (hW : tc_W G) {v0 : Nat} {v1 : Nat} {v2 : Int32} {u : tc_S} {r : Int32} {ur : tc_S} (iv0 : tc_is G v0 4) (iv1 : tc_is G v1 9) (h : fn_X4_seekFor G v0 v1 v2 u = some (r, ur)) : tc_C l z D yX4_seekFor cX4_seekFor 3 (some .boolean) 2 54 0 0 [.ref (z + v0), .ref (z + v1), .int v2] G u (tc_po r G ur) := by
  unfold fn_X4_seekFor at h
  refine tc_C.of (by decide) (Nat.le_of_ble_eq_true rfl) fun p e s m args below meth c => ?_
  show tc_R p l e { frames := 2, cells := 0, slots := 0, locals := 54 } s m args below meth c z D cX4_seekFor RX4 3 (some .boolean) 0 0 (tc_po r G ur) 0 0 G u 0 [(0, .ref (z + v0)), (1, .ref (z + v1)), (2, .int v2)] []
  refine tc_aload_n 0 rfl dX4_seekFor_0 ?_
  refine tc_getp hW iv0 fl_X4_15 dX4_seekFor_1 rfl ?_
  refine tc_aload_n 1 rfl dX4_seekFor_4 ?_
  refine tc_aload_n 1 rfl dX4_seekFor_5 ?_
  refine tc_getp hW iv1 fl_X4_45 dX4_seekFor_6 rfl ?_
  refine tc_iload_n 2 rfl dX4_seekFor_9 ?_
  obtain ⟨bx1, x1, ex1, h⟩ := tc_ld_ex h
  refine tc_iald (hW.p iv1 7 rfl).1 bx1 dX4_seekFor_10 ?_
  refine tc_nm ex1 ?_
  refine tc_aload_n 1 rfl dX4_seekFor_11 ?_
  refine tc_getp hW iv1 fl_X4_48 dX4_seekFor_12 rfl ?_
  refine tc_iload_n 2 rfl dX4_seekFor_15 ?_
  obtain ⟨bx2, x2, ex2, h⟩ := tc_ld_ex h
  refine tc_iald (hW.p iv1 8 rfl).1 bx2 dX4_seekFor_16 ?_
  refine tc_nm ex2 ?_
  obtain ⟨x3, u4, hq5, h⟩ := tc_b_ex h
  refine tc_callVi [.ref (z + v1), .int x1, .int x2] dX4_seekFor_17 (hW.p iv0 0 rfl).1 (ct_X1_seek hW (hW.p iv0 0 rfl) iv1 hq5) ml_X4_51 mw_X1_seek mv_X1_seek ⟨Nat.le_of_ble_eq_true rfl, Nat.le_of_ble_eq_true rfl⟩ rfl rfl (Nat.le_of_ble_eq_true rfl) ⟨Nat.le_refl _, Nat.le_refl _⟩ (by decide) ?_
  obtain ⟨hz6, h⟩ := tc_zo_ex h
  cases h
  exact tc_zreturn hz6 rfl dX4_seekFor_20 rfl rfl ⟨rfl, rfl, rfl⟩
set_option maxRecDepth 100000 in
set_option maxHeartbeats 4000000 in
theorem sl_X4_follow_35 {p : Program} {l : Launch} {e : Env} {s : State} {m : MethodId} {args : Array Value} {below : List Frame} {meth : Method} {c : Code} {z : Nat} {D : tc_D} {G : tc_G} (hW : tc_W G) (r : Int32) (ur : tc_S) : ∀ (n : Nat) (v0 : Nat) (v1 : Nat) (v2 : Int32) (v3 : Int32) (v4 : Int32) (u : tc_S) (iv0 : tc_is G v0 4) (iv1 : tc_is G v1 9) (h : lo_X4_follow_35 G n v0 v1 v2 v3 v4 u = some (r, ur)), tc_R p l e { frames := 1, cells := 0, slots := 0, locals := 23 } s m args below meth c z D cX4_follow RX4 6 none 0 0 (tc_pv G ur) 0 0 G u 35 [(0, .ref (z + v0)), (1, .ref (z + v1)), (2, .int v2), (3, .int v3), (4, .int v4)] [] := by
  intro n
  induction n with
  | zero => intro v0 v1 v2 v3 v4 u iv0 iv1 h; cases h
  | succ n ih =>
    intro v0 v1 v2 v3 v4 u iv0 iv1 h
    rw [lo_X4_follow_35] at h
    refine tc_iload 4 rfl dX4_follow_35 ?_
    refine tc_if_lt 79 dX4_follow_37 (by decide) (fun hc1 => ?_) (fun hc1 => ?_)
    · rw [if_pos hc1] at h
      refine tc_aload_n 1 rfl dX4_follow_79 ?_
      refine tc_iload_n 2 rfl dX4_follow_80 ?_
      refine tc_iload_n 3 rfl dX4_follow_81 ?_
      obtain ⟨x2, u3, hq4, h⟩ := tc_b_ex h
      refine tc_callVv [.int v2, .int v3] dX4_follow_82 iv1.1 (ct_X9_move hW iv1 hq4) ml_X4_36 mw_X9_move mv_X9_move ⟨Nat.le_of_ble_eq_true rfl, Nat.le_of_ble_eq_true rfl⟩ rfl rfl (Nat.le_of_ble_eq_true rfl) ⟨Nat.le_refl _, Nat.le_refl _⟩ (by decide) ?_
      refine tc_aload_n 1 rfl dX4_follow_85 ?_
      refine tc_aload_n 1 rfl dX4_follow_86 ?_
      refine tc_geti iv1.1 fl_X4_89 dX4_follow_87 ?_
      refine tc_aload_n 0 rfl dX4_follow_90 ?_
      refine tc_getp hW iv0 fl_X4_15 dX4_follow_91 rfl ?_
      refine tc_geti (hW.p iv0 0 rfl).1 fl_X4_57 dX4_follow_94 ?_
      refine tc_mmax dX4_follow_97 ml_X4_92 wm_max_s wm_i wm_max_c (Nat.le_of_ble_eq_true rfl) (Nat.le_of_ble_eq_true rfl) (Nat.zero_le _) (Nat.zero_le _) ?_
      obtain ⟨u5, eu5, h⟩ := tc_let_ex h
      refine tc_puti iv1.1 fl_X4_89 dX4_follow_100 ?_
      refine tc_nmu eu5 ?_
      cases h
      exact tc_return rfl dX4_follow_103 rfl rfl ⟨rfl, rfl, rfl⟩
    · rw [if_neg hc1] at h
      refine tc_aload_n 0 rfl dX4_follow_40 ?_
      refine tc_getp hW iv0 fl_X4_15 dX4_follow_41 rfl ?_
      refine tc_getp hW (hW.p iv0 0 rfl) fl_X4_83 dX4_follow_44 rfl ?_
      refine tc_iload 4 rfl dX4_follow_47 ?_
      obtain ⟨bx6, x6, ex6, h⟩ := tc_ld_ex h
      refine tc_iald (hW.p (hW.p iv0 0 rfl) 0 rfl).1 bx6 dX4_follow_49 ?_
      refine tc_nm ex6 ?_
      refine tc_istore [(5, .int x6), (0, .ref (z + v0)), (1, .ref (z + v1)), (2, .int v2), (3, .int v3), (4, .int v4)] dX4_follow_50 (by decide) rfl ?_
      refine tc_aload_n 2 rfl dX4_follow_52 ?_
      refine tc_getp hW iv1 fl_X4_86 dX4_follow_53 rfl ?_
      refine tc_iload 0 rfl dX4_follow_56 ?_
      refine tc_dup2 rfl rfl dX4_follow_58 ?_
      obtain ⟨bx7, x7, ex7, h⟩ := tc_ld_ex h
      refine tc_iald (hW.p iv1 6 rfl).1 bx7 dX4_follow_59 ?_
      refine tc_nm ex7 ?_
      refine tc_iconst (v := 1) (by decide) dX4_follow_60 ?_
      refine tc_iadd dX4_follow_61 ?_
      obtain ⟨bu8, u8, eu8, h⟩ := tc_sd_ex h
      refine tc_iast (hW.p iv1 6 rfl).1 bu8 dX4_follow_62 ?_
      refine tc_nmu eu8 ?_
      refine tc_aload_n 2 rfl dX4_follow_63 ?_
      refine tc_iload 0 rfl dX4_follow_64 ?_
      refine tc_iload_n 4 rfl dX4_follow_66 ?_
      obtain ⟨x9, u10, hq11, h⟩ := tc_b_ex h
      refine tc_callVv [.int x6, .int v3] dX4_follow_67 iv1.1 (ct_X9_move hW iv1 hq11) ml_X4_36 mw_X9_move mv_X9_move ⟨Nat.le_of_ble_eq_true rfl, Nat.le_of_ble_eq_true rfl⟩ rfl rfl (Nat.le_of_ble_eq_true rfl) ⟨Nat.le_refl _, Nat.le_refl _⟩ (by decide) ?_
      refine tc_iload 0 rfl dX4_follow_70 ?_
      refine tc_istore_n [(3, .int x6), (5, .int x6), (0, .ref (z + v0)), (1, .ref (z + v1)), (2, .int v2), (4, .int v4)] dX4_follow_72 (by decide) rfl ?_
      obtain ⟨x12, ex12, h⟩ := tc_let_ex h
      refine tc_iinc 5 (v := x12) [(4, .int x12), (3, .int x6), (5, .int x6), (0, .ref (z + v0)), (1, .ref (z + v1)), (2, .int v2)] dX4_follow_73 rfl (by rw [ex12]; rfl) (by decide) rfl ?_
      refine tc_goto 35 dX4_follow_76 (by decide) ?_
      refine tc_lvs [3, 4, 5, 1, 0] rfl ?_
      exact ih v0 v1 v2 x6 x12 u10 iv0 iv1 h
set_option maxRecDepth 100000 in
set_option maxHeartbeats 4000000 in
theorem ct_X4_follow {l : Launch} {z : Nat} {D : tc_D} {G : tc_G} (hW : tc_W G) {v0 : Nat} {v1 : Nat} {v2 : Int32} {u : tc_S} {r : Int32} {ur : tc_S} (iv0 : tc_is G v0 4) (iv1 : tc_is G v1 9) (h : fn_X4_follow G v0 v1 v2 u = some (r, ur)) : tc_C l z D yX4_follow cX4_follow 6 none 1 23 0 0 [.ref (z + v0), .ref (z + v1), .int v2] G u (tc_pv G ur) := by
  unfold fn_X4_follow at h
  refine tc_C.of (by decide) (Nat.le_of_ble_eq_true rfl) fun p e s m args below meth c => ?_
  show tc_R p l e { frames := 1, cells := 0, slots := 0, locals := 23 } s m args below meth c z D cX4_follow RX4 6 none 0 0 (tc_pv G ur) 0 0 G u 0 [(0, .ref (z + v0)), (1, .ref (z + v1)), (2, .int v2)] []
  refine tc_aload_n 0 rfl dX4_follow_0 ?_
  refine tc_getp hW iv0 fl_X4_15 dX4_follow_1 rfl ?_
  refine tc_geti (hW.p iv0 0 rfl).1 fl_X4_57 dX4_follow_4 ?_
  refine tc_iconst (v := 1) (by decide) dX4_follow_7 ?_
  refine tc_icmp_ge 12 dX4_follow_8 (by decide) (fun hc13 => ?_) (fun hc13 => ?_)
  · rw [if_pos hc13] at h
    refine tc_aload_n 1 rfl dX4_follow_12 ?_
    refine tc_aload_n 0 rfl dX4_follow_13 ?_
    refine tc_getp hW iv0 fl_X4_15 dX4_follow_14 rfl ?_
    refine tc_geti (hW.p iv0 0 rfl).1 fl_X4_80 dX4_follow_17 ?_
    obtain ⟨x14, u15, hq16, h⟩ := tc_b_ex h
    refine tc_callVi [.int (u.1 (tc_p G v0 0) 2)] dX4_follow_20 iv1.1 (ct_X9_emptyPlaceIn hW iv1 hq16) ml_X4_33 mw_X9_emptyPlaceIn mv_X9_emptyPlaceIn ⟨Nat.le_of_ble_eq_true rfl, Nat.le_of_ble_eq_true rfl⟩ rfl rfl (Nat.le_of_ble_eq_true rfl) ⟨Nat.le_refl _, Nat.le_refl _⟩ (by decide) ?_
    refine tc_istore_n [(3, .int x14), (0, .ref (z + v0)), (1, .ref (z + v1)), (2, .int v2)] dX4_follow_23 (by decide) rfl ?_
    refine tc_aload_n 1 rfl dX4_follow_24 ?_
    refine tc_getp hW iv0 fl_X4_15 dX4_follow_25 rfl ?_
    refine tc_geti (hW.p iv0 0 rfl).1 fl_X4_57 dX4_follow_28 ?_
    refine tc_iconst (v := 1) (by decide) dX4_follow_31 ?_
    refine tc_isub dX4_follow_32 ?_
    obtain ⟨x17, ex17, h⟩ := tc_let_ex h
    refine tc_nm ex17 ?_
    refine tc_istore [(4, .int x17), (3, .int x14), (0, .ref (z + v0)), (1, .ref (z + v1)), (2, .int v2)] dX4_follow_33 (by decide) rfl ?_
    refine tc_lvs [2, 3, 4, 1, 0] rfl ?_
    exact sl_X4_follow_35 hW r ur  _ v0 v1 v2 x14 x17 u15 iv0 iv1 h
  · rw [if_neg hc13] at h
    cases h
    exact tc_return rfl dX4_follow_11 rfl rfl ⟨rfl, rfl, rfl⟩
set_option maxRecDepth 100000 in
set_option maxHeartbeats 4000000 in
theorem ct_X9_emptyHand {l : Launch} {z : Nat} {D : tc_D} {G : tc_G} (hW : tc_W G) {v0 : Nat} {u : tc_S} {r : Int32} {ur : tc_S} (iv0 : tc_is G v0 9) (h : fn_X9_emptyHand G v0 u = some (r, ur)) : tc_C l z D yX9_emptyHand cX9_emptyHand 1 none 0 0 0 0 [.ref (z + v0)] G u (tc_pv G ur) := by
  unfold fn_X9_emptyHand at h
  refine tc_C.of (by decide) (Nat.le_of_ble_eq_true rfl) fun p e s m args below meth c => ?_
  show tc_R p l e { frames := 0, cells := 0, slots := 0, locals := 0 } s m args below meth c z D cX9_emptyHand RX9 1 none 0 0 (tc_pv G ur) 0 0 G u 0 [(0, .ref (z + v0))] []
  refine tc_aload_n 0 rfl dX9_emptyHand_0 ?_
  refine tc_getp hW iv0 fl_X9_29 dX9_emptyHand_1 rfl ?_
  refine tc_aload_n 0 rfl dX9_emptyHand_4 ?_
  refine tc_geti iv0.1 fl_X9_26 dX9_emptyHand_5 ?_
  refine tc_iconst (v := (-1)) (by decide) dX9_emptyHand_8 ?_
  obtain ⟨bu1, u1, eu1, h⟩ := tc_sd_ex h
  refine tc_iast (hW.p iv0 3 rfl).1 bu1 dX9_emptyHand_9 ?_
  refine tc_nmu eu1 ?_
  cases h
  exact tc_return rfl dX9_emptyHand_10 rfl rfl ⟨rfl, rfl, rfl⟩
set_option maxRecDepth 100000 in
set_option maxHeartbeats 4000000 in
theorem ct_X0_layKey {l : Launch} {z : Nat} {D : tc_D} {G : tc_G} (hW : tc_W G) {v0 : Nat} {v1 : Int32} {u : tc_S} {r : Int32} {ur : tc_S} (iv0 : tc_is G v0 0) (h : fn_X0_layKey G v0 v1 u = some (r, ur)) : tc_C l z D yX0_layKey cX0_layKey 3 (some .int) 3 76 0 0 [.ref (z + v0), .int v1] G u (tc_po r G ur) := by
  unfold fn_X0_layKey at h
  refine tc_C.of (by decide) (Nat.le_of_ble_eq_true rfl) fun p e s m args below meth c => ?_
  show tc_R p l e { frames := 3, cells := 0, slots := 0, locals := 76 } s m args below meth c z D cX0_layKey RX0 3 (some .int) 0 0 (tc_po r G ur) 0 0 G u 0 [(0, .ref (z + v0)), (1, .int v1)] []
  refine tc_aload_n 0 rfl dX0_layKey_0 ?_
  refine tc_getp hW iv0 fl_X0_14 dX0_layKey_1 rfl ?_
  refine tc_iload_n 1 rfl dX0_layKey_4 ?_
  refine tc_iconst (v := 0) (by decide) dX0_layKey_5 ?_
  refine tc_iconst (v := 0) (by decide) dX0_layKey_6 ?_
  refine tc_iconst (v := 0) (by decide) dX0_layKey_7 ?_
  obtain ⟨x1, u2, hq3, h⟩ := tc_b_ex h
  refine tc_callVv [.int v1, .int 0, .int 0, .int 0] dX0_layKey_8 (hW.p iv0 1 rfl).1 (ct_X9_takeInHand hW (hW.p iv0 1 rfl) hq3) ml_X0_53 mw_X9_takeInHand mv_X9_takeInHand ⟨Nat.le_of_ble_eq_true rfl, Nat.le_of_ble_eq_true rfl⟩ rfl rfl (Nat.le_of_ble_eq_true rfl) ⟨Nat.le_refl _, Nat.le_refl _⟩ (by decide) ?_
  refine tc_aload_n 0 rfl dX0_layKey_11 ?_
  refine tc_getp hW iv0 fl_X0_14 dX0_layKey_12 rfl ?_
  refine tc_aload_n 0 rfl dX0_layKey_15 ?_
  refine tc_getp hW iv0 fl_X0_14 dX0_layKey_16 rfl ?_
  refine tc_geti (hW.p iv0 1 rfl).1 fl_X0_45 dX0_layKey_19 ?_
  obtain ⟨x4, u5, hq6, h⟩ := tc_b_ex h
  refine tc_callVi [.int (u2.1 (tc_p G v0 1) 2)] dX0_layKey_22 (hW.p iv0 1 rfl).1 (ct_X9_openBucketFor hW (hW.p iv0 1 rfl) hq6) ml_X0_57 mw_X9_openBucketFor mv_X9_openBucketFor ⟨Nat.le_of_ble_eq_true rfl, Nat.le_of_ble_eq_true rfl⟩ rfl rfl (Nat.le_of_ble_eq_true rfl) ⟨Nat.le_refl _, Nat.le_refl _⟩ (by decide) ?_
  refine tc_istore_n [(2, .int x4), (0, .ref (z + v0)), (1, .int v1)] dX0_layKey_25 (by decide) rfl ?_
  refine tc_iload_n 0 rfl dX0_layKey_26 ?_
  refine tc_if_lt 54 dX0_layKey_27 (by decide) (fun hc7 => ?_) (fun hc7 => ?_)
  · rw [if_pos hc7] at h
    refine tc_aload_n 1 rfl dX0_layKey_54 ?_
    refine tc_getp hW iv0 fl_X0_20 dX0_layKey_55 rfl ?_
    refine tc_aload_n 1 rfl dX0_layKey_58 ?_
    refine tc_getp hW iv0 fl_X0_14 dX0_layKey_59 rfl ?_
    refine tc_aload_n 1 rfl dX0_layKey_62 ?_
    refine tc_getp hW iv0 fl_X0_14 dX0_layKey_63 rfl ?_
    refine tc_geti (hW.p iv0 1 rfl).1 fl_X0_45 dX0_layKey_66 ?_
    obtain ⟨x8, u9, hq10, h⟩ := tc_b_ex h
    refine tc_callVi [.ref (z + (tc_p G v0 1)), .int (u5.1 (tc_p G v0 1) 2)] dX0_layKey_69 (hW.p iv0 0 rfl).1 (ct_X4_seekFor hW (hW.p iv0 0 rfl) (hW.p iv0 1 rfl) hq10) ml_X0_67 mw_X4_seekFor mv_X4_seekFor ⟨Nat.le_of_ble_eq_true rfl, Nat.le_of_ble_eq_true rfl⟩ rfl rfl (Nat.le_of_ble_eq_true rfl) ⟨Nat.le_refl _, Nat.le_refl _⟩ (by decide) ?_
    refine tc_if_eq 95 dX0_layKey_72 (by decide) (fun hc11 => ?_) (fun hc11 => ?_)
    · rw [if_pos hc11] at h
      refine tc_aload_n 1 rfl dX0_layKey_95 ?_
      refine tc_getp hW iv0 fl_X0_14 dX0_layKey_96 rfl ?_
      obtain ⟨x12, u13, hq14, h⟩ := tc_b_ex h
      refine tc_callVv [] dX0_layKey_99 (hW.p iv0 1 rfl).1 (ct_X9_emptyHand hW (hW.p iv0 1 rfl) hq14) ml_X0_77 mw_X9_emptyHand mv_X9_emptyHand ⟨Nat.le_of_ble_eq_true rfl, Nat.le_of_ble_eq_true rfl⟩ rfl rfl (Nat.le_of_ble_eq_true rfl) ⟨Nat.le_refl _, Nat.le_refl _⟩ (by decide) ?_
      refine tc_iconst (v := 1) (by decide) dX0_layKey_102 ?_
      cases h
      exact tc_ireturn rfl dX0_layKey_103 rfl rfl ⟨rfl, rfl, rfl⟩
    · rw [if_neg hc11] at h
      refine tc_aload_n 1 rfl dX0_layKey_75 ?_
      refine tc_getp hW iv0 fl_X0_20 dX0_layKey_76 rfl ?_
      refine tc_aload_n 1 rfl dX0_layKey_79 ?_
      refine tc_getp hW iv0 fl_X0_14 dX0_layKey_80 rfl ?_
      refine tc_aload_n 1 rfl dX0_layKey_83 ?_
      refine tc_getp hW iv0 fl_X0_14 dX0_layKey_84 rfl ?_
      refine tc_geti (hW.p iv0 1 rfl).1 fl_X0_45 dX0_layKey_87 ?_
      obtain ⟨x15, u16, hq17, h⟩ := tc_b_ex h
      refine tc_callVv [.ref (z + (tc_p G v0 1)), .int (u9.1 (tc_p G v0 1) 2)] dX0_layKey_90 (hW.p iv0 0 rfl).1 (ct_X4_follow hW (hW.p iv0 0 rfl) (hW.p iv0 1 rfl) hq17) ml_X0_73 mw_X4_follow mv_X4_follow ⟨Nat.le_of_ble_eq_true rfl, Nat.le_of_ble_eq_true rfl⟩ rfl rfl (Nat.le_of_ble_eq_true rfl) ⟨Nat.le_refl _, Nat.le_refl _⟩ (by decide) ?_
      refine tc_iconst (v := 0) (by decide) dX0_layKey_93 ?_
      cases h
      exact tc_ireturn rfl dX0_layKey_94 rfl rfl ⟨rfl, rfl, rfl⟩
  · rw [if_neg hc7] at h
    refine tc_aload_n 1 rfl dX0_layKey_30 ?_
    refine tc_getp hW iv0 fl_X0_14 dX0_layKey_31 rfl ?_
    refine tc_aload_n 1 rfl dX0_layKey_34 ?_
    refine tc_getp hW iv0 fl_X0_14 dX0_layKey_35 rfl ?_
    refine tc_geti (hW.p iv0 1 rfl).1 fl_X0_45 dX0_layKey_38 ?_
    refine tc_aload_n 1 rfl dX0_layKey_41 ?_
    refine tc_getp hW iv0 fl_X0_14 dX0_layKey_42 rfl ?_
    refine tc_iload_n 0 rfl dX0_layKey_45 ?_
    obtain ⟨x18, u19, hq20, h⟩ := tc_b_ex h
    refine tc_callVi [.int x4] dX0_layKey_46 (hW.p iv0 1 rfl).1 (ct_X9_emptyPlaceIn hW (hW.p iv0 1 rfl) hq20) ml_X0_60 mw_X9_emptyPlaceIn mv_X9_emptyPlaceIn ⟨Nat.le_of_ble_eq_true rfl, Nat.le_of_ble_eq_true rfl⟩ rfl rfl (Nat.le_of_ble_eq_true rfl) ⟨Nat.le_refl _, Nat.le_refl _⟩ (by decide) ?_
    obtain ⟨x21, u22, hq23, h⟩ := tc_b_ex h
    refine tc_callVv [.int (u5.1 (tc_p G v0 1) 2), .int x18] dX0_layKey_49 (hW.p iv0 1 rfl).1 (ct_X9_move hW (hW.p iv0 1 rfl) hq23) ml_X0_63 mw_X9_move mv_X9_move ⟨Nat.le_of_ble_eq_true rfl, Nat.le_of_ble_eq_true rfl⟩ rfl rfl (Nat.le_of_ble_eq_true rfl) ⟨Nat.le_refl _, Nat.le_refl _⟩ (by decide) ?_
    refine tc_iconst (v := 0) (by decide) dX0_layKey_52 ?_
    cases h
    exact tc_ireturn rfl dX0_layKey_53 rfl rfl ⟨rfl, rfl, rfl⟩
set_option maxRecDepth 100000 in
set_option maxHeartbeats 4000000 in
theorem sb_X0_leftOut_76 {p : Program} {l : Launch} {e : Env} {s : State} {m : MethodId} {args : Array Value} {below : List Frame} {meth : Method} {c : Code} {z : Nat} {D : tc_D} {G : tc_G} (hW : tc_W G) (r : Int32) (ur : tc_S) (v4 : Int32) (u : tc_S) (h : bl_X0_leftOut_76 G v4 u = some (r, ur)) : tc_R p l e { frames := 4, cells := 0, slots := 0, locals := 98 } s m args below meth c z D cX0_leftOut RX0 6 (some .int) 0 0 (tc_po r G ur) 0 0 G u 76 [(4, .int v4)] [] := by
  unfold bl_X0_leftOut_76 at h
  refine tc_iload 0 rfl dX0_leftOut_76 ?_
  cases h
  exact tc_ireturn rfl dX0_leftOut_78 rfl rfl ⟨rfl, rfl, rfl⟩
set_option maxRecDepth 100000 in
set_option maxHeartbeats 4000000 in
theorem sb_X0_leftOut_67 {p : Program} {l : Launch} {e : Env} {s : State} {m : MethodId} {args : Array Value} {below : List Frame} {meth : Method} {c : Code} {z : Nat} {D : tc_D} {G : tc_G} (hW : tc_W G) (r : Int32) (ur : tc_S) (K25 : Nat → Nat → Int32 → Int32 → Int32 → tc_S → Option (Int32 × tc_S)) (hK25 : ∀ (v0 : Nat) (v1 : Nat) (v3 : Int32) (v4 : Int32) (v5 : Int32) (u : tc_S), tc_is G v0 0 → tc_is G v1 9 → K25 v0 v1 v3 v4 v5 u = some (r, ur) → tc_R p l e { frames := 4, cells := 0, slots := 0, locals := 98 } s m args below meth c z D cX0_leftOut RX0 6 (some .int) 0 0 (tc_po r G ur) 0 0 G u 25 [(0, .ref (z + v0)), (1, .ref (z + v1)), (3, .int v3), (4, .int v4), (5, .int v5)] []) (v0 : Nat) (v1 : Nat) (v3 : Int32) (v5 : Int32) (s0 : Int32) (s1 : Int32) (u : tc_S) (iv0 : tc_is G v0 0) (iv1 : tc_is G v1 9) (h : bl_X0_leftOut_67 G K25 v0 v1 v3 v5 s0 s1 u = some (r, ur)) : tc_R p l e { frames := 4, cells := 0, slots := 0, locals := 98 } s m args below meth c z D cX0_leftOut RX0 6 (some .int) 0 0 (tc_po r G ur) 0 0 G u 67 [(0, .ref (z + v0)), (1, .ref (z + v1)), (3, .int v3), (5, .int v5)] [.int s1, .int s0] := by
  unfold bl_X0_leftOut_67 at h
  refine tc_iadd dX0_leftOut_67 ?_
  obtain ⟨x1, ex1, h⟩ := tc_let_ex h
  refine tc_nm ex1 ?_
  refine tc_istore [(4, .int x1), (0, .ref (z + v0)), (1, .ref (z + v1)), (3, .int v3), (5, .int v5)] dX0_leftOut_68 (by decide) rfl ?_
  obtain ⟨x2, ex2, h⟩ := tc_let_ex h
  refine tc_iinc 4 (v := x2) [(5, .int x2), (4, .int x1), (0, .ref (z + v0)), (1, .ref (z + v1)), (3, .int v3)] dX0_leftOut_70 rfl (by rw [ex2]; rfl) (by decide) rfl ?_
  refine tc_goto 25 dX0_leftOut_73 (by decide) ?_
  refine tc_lvs [2, 3, 4, 1, 0] rfl ?_
  exact hK25 v0 v1 v3 x1 x2 u iv0 iv1 h
set_option maxRecDepth 100000 in
set_option maxHeartbeats 4000000 in
theorem sl_X0_leftOut_25 {p : Program} {l : Launch} {e : Env} {s : State} {m : MethodId} {args : Array Value} {below : List Frame} {meth : Method} {c : Code} {z : Nat} {D : tc_D} {G : tc_G} (hW : tc_W G) (r : Int32) (ur : tc_S) : ∀ (n : Nat) (v0 : Nat) (v1 : Nat) (v3 : Int32) (v4 : Int32) (v5 : Int32) (u : tc_S) (iv0 : tc_is G v0 0) (iv1 : tc_is G v1 9) (h : lo_X0_leftOut_25 G n v0 v1 v3 v4 v5 u = some (r, ur)), tc_R p l e { frames := 4, cells := 0, slots := 0, locals := 98 } s m args below meth c z D cX0_leftOut RX0 6 (some .int) 0 0 (tc_po r G ur) 0 0 G u 25 [(0, .ref (z + v0)), (1, .ref (z + v1)), (3, .int v3), (4, .int v4), (5, .int v5)] [] := by
  intro n
  induction n with
  | zero => intro v0 v1 v3 v4 v5 u iv0 iv1 h; cases h
  | succ n ih =>
    intro v0 v1 v3 v4 v5 u iv0 iv1 h
    rw [lo_X0_leftOut_25] at h
    refine tc_iload 4 rfl dX0_leftOut_25 ?_
    refine tc_aload_n 1 rfl dX0_leftOut_27 ?_
    refine tc_geti iv1.1 fl_X0_45 dX0_leftOut_28 ?_
    refine tc_icmp_ge 76 dX0_leftOut_31 (by decide) (fun hc3 => ?_) (fun hc3 => ?_)
    · rw [if_pos hc3] at h
      refine tc_lvs [3] rfl ?_
      exact sb_X0_leftOut_76 hW r ur  v4 u  h
    · rw [if_neg hc3] at h
      refine tc_iload 3 rfl dX0_leftOut_34 ?_
      refine tc_iload_n 2 rfl dX0_leftOut_36 ?_
      refine tc_icmp_ge 76 dX0_leftOut_37 (by decide) (fun hc4 => ?_) (fun hc4 => ?_)
      · rw [if_pos hc4] at h
        refine tc_lvs [3] rfl ?_
        exact sb_X0_leftOut_76 hW r ur  v4 u  h
      · rw [if_neg hc4] at h
        refine tc_iload 3 rfl dX0_leftOut_40 ?_
        refine tc_aload_n 1 rfl dX0_leftOut_42 ?_
        refine tc_getp hW iv1 fl_X0_49 dX0_leftOut_43 rfl ?_
        refine tc_iload 4 rfl dX0_leftOut_46 ?_
        obtain ⟨bx5, x5, ex5, h⟩ := tc_ld_ex h
        refine tc_iald (hW.p iv1 3 rfl).1 bx5 dX0_leftOut_48 ?_
        refine tc_nm ex5 ?_
        refine tc_if_lt 66 dX0_leftOut_49 (by decide) (fun hc6 => ?_) (fun hc6 => ?_)
        · rw [if_pos hc6] at h
          refine tc_iconst (v := 0) (by decide) dX0_leftOut_66 ?_
          refine tc_lvs [0, 1, 2, 4] rfl ?_
          exact sb_X0_leftOut_67 hW r ur _ ih v0 v1 v3 v5 v4 0 u iv0 iv1 h
        · rw [if_neg hc6] at h
          refine tc_aload_n 0 rfl dX0_leftOut_52 ?_
          refine tc_aload_n 1 rfl dX0_leftOut_53 ?_
          refine tc_getp hW iv1 fl_X0_49 dX0_leftOut_54 rfl ?_
          refine tc_iload 4 rfl dX0_leftOut_57 ?_
          obtain ⟨bx7, x7, ex7, h⟩ := tc_ld_ex h
          refine tc_iald (hW.p iv1 3 rfl).1 bx7 dX0_leftOut_59 ?_
          refine tc_nm ex7 ?_
          obtain ⟨x8, u9, hq10, h⟩ := tc_b_ex h
          refine tc_callVi [.int x7] dX0_leftOut_60 iv0.1 (ct_X0_layKey hW iv0 hq10) ml_X0_41 mw_X0_layKey mv_X0_layKey ⟨Nat.le_of_ble_eq_true rfl, Nat.le_of_ble_eq_true rfl⟩ rfl rfl (Nat.le_of_ble_eq_true rfl) ⟨Nat.le_refl _, Nat.le_refl _⟩ (by decide) ?_
          refine tc_goto 67 dX0_leftOut_63 (by decide) ?_
          refine tc_lvs [0, 1, 2, 4] rfl ?_
          exact sb_X0_leftOut_67 hW r ur _ ih v0 v1 v3 v5 v4 x8 u9 iv0 iv1 h
set_option maxRecDepth 100000 in
set_option maxHeartbeats 4000000 in
theorem sb_X0_leftOut_20 {p : Program} {l : Launch} {e : Env} {s : State} {m : MethodId} {args : Array Value} {below : List Frame} {meth : Method} {c : Code} {z : Nat} {D : tc_D} {G : tc_G} (hW : tc_W G) (r : Int32) (ur : tc_S) (v0 : Nat) (v1 : Nat) (v3 : Int32) (s0 : Int32) (u : tc_S) (iv0 : tc_is G v0 0) (iv1 : tc_is G v1 9) (h : bl_X0_leftOut_20 G v0 v1 v3 s0 u = some (r, ur)) : tc_R p l e { frames := 4, cells := 0, slots := 0, locals := 98 } s m args below meth c z D cX0_leftOut RX0 6 (some .int) 0 0 (tc_po r G ur) 0 0 G u 20 [(0, .ref (z + v0)), (1, .ref (z + v1)), (3, .int v3)] [.int s0] := by
  unfold bl_X0_leftOut_20 at h
  refine tc_istore [(4, .int s0), (0, .ref (z + v0)), (1, .ref (z + v1)), (3, .int v3)] dX0_leftOut_20 (by decide) rfl ?_
  refine tc_iconst (v := 0) (by decide) dX0_leftOut_22 ?_
  refine tc_istore [(5, .int 0), (4, .int s0), (0, .ref (z + v0)), (1, .ref (z + v1)), (3, .int v3)] dX0_leftOut_23 (by decide) rfl ?_
  refine tc_lvs [2, 3, 4, 1, 0] rfl ?_
  exact sl_X0_leftOut_25 hW r ur  _ v0 v1 v3 s0 0 u iv0 iv1 h
set_option maxRecDepth 100000 in
set_option maxHeartbeats 4000000 in
theorem ct_X0_leftOut {l : Launch} {z : Nat} {D : tc_D} {G : tc_G} (hW : tc_W G) {v0 : Nat} {v1 : Nat} {v2 : Int32} {v3 : Int32} {u : tc_S} {r : Int32} {ur : tc_S} (iv0 : tc_is G v0 0) (iv1 : tc_is G v1 9) (h : fn_X0_leftOut G v0 v1 v2 v3 u = some (r, ur)) : tc_C l z D yX0_leftOut cX0_leftOut 6 (some .int) 4 98 0 0 [.ref (z + v0), .ref (z + v1), .int v2, .int v3] G u (tc_po r G ur) := by
  unfold fn_X0_leftOut at h
  refine tc_C.of (by decide) (Nat.le_of_ble_eq_true rfl) fun p e s m args below meth c => ?_
  show tc_R p l e { frames := 4, cells := 0, slots := 0, locals := 98 } s m args below meth c z D cX0_leftOut RX0 6 (some .int) 0 0 (tc_po r G ur) 0 0 G u 0 [(0, .ref (z + v0)), (1, .ref (z + v1)), (2, .int v2), (3, .int v3)] []
  refine tc_aload_n 0 rfl dX0_leftOut_0 ?_
  refine tc_getp hW iv0 fl_X0_14 dX0_leftOut_1 rfl ?_
  obtain ⟨x11, u12, hq13, h⟩ := tc_b_ex h
  refine tc_callVv [] dX0_leftOut_4 (hW.p iv0 1 rfl).1 (ct_X9_clear hW (hW.p iv0 1 rfl) hq13) ml_X0_38 mw_X9_clear mv_X9_clear ⟨Nat.le_of_ble_eq_true rfl, Nat.le_of_ble_eq_true rfl⟩ rfl rfl (Nat.le_of_ble_eq_true rfl) ⟨Nat.le_refl _, Nat.le_refl _⟩ (by decide) ?_
  refine tc_iload_n 2 rfl dX0_leftOut_7 ?_
  refine tc_if_lt 19 dX0_leftOut_8 (by decide) (fun hc14 => ?_) (fun hc14 => ?_)
  · rw [if_pos hc14] at h
    refine tc_iconst (v := 0) (by decide) dX0_leftOut_19 ?_
    refine tc_lvs [0, 1, 3] rfl ?_
    exact sb_X0_leftOut_20 hW r ur  v0 v1 v3 0 u12 iv0 iv1 h
  · rw [if_neg hc14] at h
    refine tc_aload_n 0 rfl dX0_leftOut_11 ?_
    refine tc_iload_n 2 rfl dX0_leftOut_12 ?_
    obtain ⟨x15, u16, hq17, h⟩ := tc_b_ex h
    refine tc_callVi [.int v2] dX0_leftOut_13 iv0.1 (ct_X0_layKey hW iv0 hq17) ml_X0_41 mw_X0_layKey mv_X0_layKey ⟨Nat.le_of_ble_eq_true rfl, Nat.le_of_ble_eq_true rfl⟩ rfl rfl (Nat.le_of_ble_eq_true rfl) ⟨Nat.le_refl _, Nat.le_refl _⟩ (by decide) ?_
    refine tc_goto 20 dX0_leftOut_16 (by decide) ?_
    refine tc_lvs [0, 1, 3] rfl ?_
    exact sb_X0_leftOut_20 hW r ur  v0 v1 v3 x15 u16 iv0 iv1 h
set_option maxRecDepth 100000 in
set_option maxHeartbeats 4000000 in
theorem sb_X0_allFit_15 {p : Program} {l : Launch} {e : Env} {s : State} {m : MethodId} {args : Array Value} {below : List Frame} {meth : Method} {c : Code} {z : Nat} {D : tc_D} {G : tc_G} (hW : tc_W G) (r : Int32) (ur : tc_S) (s0 : Int32) (u : tc_S) (h : bl_X0_allFit_15 G s0 u = some (r, ur)) : tc_R p l e { frames := 5, cells := 0, slots := 0, locals := 123 } s m args below meth c z D cX0_allFit RX0 3 (some .boolean) 0 0 (tc_po r G ur) 0 0 G u 15 [] [.int s0] := by
  unfold bl_X0_allFit_15 at h
  obtain ⟨hz1, h⟩ := tc_zo_ex h
  cases h
  exact tc_zreturn hz1 rfl dX0_allFit_15 rfl rfl ⟨rfl, rfl, rfl⟩
set_option maxRecDepth 100000 in
set_option maxHeartbeats 4000000 in
theorem ct_X0_allFit {l : Launch} {z : Nat} {D : tc_D} {G : tc_G} (hW : tc_W G) {v0 : Nat} {v1 : Nat} {v2 : Int32} {u : tc_S} {r : Int32} {ur : tc_S} (iv0 : tc_is G v0 0) (iv1 : tc_is G v1 9) (h : fn_X0_allFit G v0 v1 v2 u = some (r, ur)) : tc_C l z D yX0_allFit cX0_allFit 3 (some .boolean) 5 123 0 0 [.ref (z + v0), .ref (z + v1), .int v2] G u (tc_po r G ur) := by
  unfold fn_X0_allFit at h
  refine tc_C.of (by decide) (Nat.le_of_ble_eq_true rfl) fun p e s m args below meth c => ?_
  show tc_R p l e { frames := 5, cells := 0, slots := 0, locals := 123 } s m args below meth c z D cX0_allFit RX0 3 (some .boolean) 0 0 (tc_po r G ur) 0 0 G u 0 [(0, .ref (z + v0)), (1, .ref (z + v1)), (2, .int v2)] []
  refine tc_aload_n 0 rfl dX0_allFit_0 ?_
  refine tc_aload_n 1 rfl dX0_allFit_1 ?_
  refine tc_iload_n 2 rfl dX0_allFit_2 ?_
  refine tc_iconst (v := 1) (by decide) dX0_allFit_3 ?_
  obtain ⟨x2, u3, hq4, h⟩ := tc_b_ex h
  refine tc_callVi [.ref (z + v1), .int v2, .int 1] dX0_allFit_4 iv0.1 (ct_X0_leftOut hW iv0 iv1 hq4) ml_X0_34 mw_X0_leftOut mv_X0_leftOut ⟨Nat.le_of_ble_eq_true rfl, Nat.le_of_ble_eq_true rfl⟩ rfl rfl (Nat.le_of_ble_eq_true rfl) ⟨Nat.le_refl _, Nat.le_refl _⟩ (by decide) ?_
  refine tc_if_ne 14 dX0_allFit_7 (by decide) (fun hc5 => ?_) (fun hc5 => ?_)
  · rw [if_neg hc5] at h
    refine tc_iconst (v := 0) (by decide) dX0_allFit_14 ?_
    refine tc_lvs [] rfl ?_
    exact sb_X0_allFit_15 hW r ur  0 u3  h
  · rw [if_pos hc5] at h
    refine tc_iconst (v := 1) (by decide) dX0_allFit_10 ?_
    refine tc_goto 15 dX0_allFit_11 (by decide) ?_
    refine tc_lvs [] rfl ?_
    exact sb_X0_allFit_15 hW r ur  1 u3  h
set_option maxRecDepth 100000 in
set_option maxHeartbeats 4000000 in
theorem ct_X0_mostOf {l : Launch} {z : Nat} {D : tc_D} {G : tc_G} (hW : tc_W G) {v0 : Int32} {u : tc_S} {r : Int32} {ur : tc_S} (h : fn_X0_mostOf G v0 u = some (r, ur)) : tc_C l z D yX0_mostOf cX0_mostOf 1 (some .int) 0 0 0 0 [.int v0] G u (tc_po r G ur) := by
  unfold fn_X0_mostOf at h
  refine tc_C.of (by decide) (Nat.le_of_ble_eq_true rfl) fun p e s m args below meth c => ?_
  show tc_R p l e { frames := 0, cells := 0, slots := 0, locals := 0 } s m args below meth c z D cX0_mostOf RX0 1 (some .int) 0 0 (tc_po r G ur) 0 0 G u 0 [(0, .int v0)] []
  refine tc_iload_n 0 rfl dX0_mostOf_0 ?_
  by_cases hc1 : v0.toInt = 0
  · rw [if_pos hc1] at h
    refine tc_tswIn 28 dX0_mostOf_1 (by rw [hc1]; decide) (by rw [hc1]; decide) (by rw [hc1]; rfl) (by decide) ?_
    refine tc_bipush (v := 32) (by decide) dX0_mostOf_28 ?_
    cases h
    exact tc_ireturn rfl dX0_mostOf_30 rfl rfl ⟨rfl, rfl, rfl⟩
  rw [if_neg hc1] at h
  by_cases hc2 : v0.toInt = 1
  · rw [if_pos hc2] at h
    refine tc_tswIn 31 dX0_mostOf_1 (by rw [hc2]; decide) (by rw [hc2]; decide) (by rw [hc2]; rfl) (by decide) ?_
    refine tc_bipush (v := 9) (by decide) dX0_mostOf_31 ?_
    cases h
    exact tc_ireturn rfl dX0_mostOf_33 rfl rfl ⟨rfl, rfl, rfl⟩
  rw [if_neg hc2] at h
  by_cases hc3 : v0.toInt = 2
  · rw [if_pos hc3] at h
    refine tc_tswIn 34 dX0_mostOf_1 (by rw [hc3]; decide) (by rw [hc3]; decide) (by rw [hc3]; rfl) (by decide) ?_
    refine tc_bipush (v := 40) (by decide) dX0_mostOf_34 ?_
    cases h
    exact tc_ireturn rfl dX0_mostOf_36 rfl rfl ⟨rfl, rfl, rfl⟩
  rw [if_neg hc3] at h
  have sw4 : v0.toInt < 0 ∨ 2 < v0.toInt := by omega
  refine tc_tswOut 37 dX0_mostOf_1 sw4 (by decide) ?_
  refine tc_iconst (v := 0) (by decide) dX0_mostOf_37 ?_
  cases h
  exact tc_ireturn rfl dX0_mostOf_38 rfl rfl ⟨rfl, rfl, rfl⟩
set_option maxRecDepth 100000 in
set_option maxHeartbeats 4000000 in
theorem sb_X2_below_33 {p : Program} {l : Launch} {e : Env} {s : State} {m : MethodId} {args : Array Value} {below : List Frame} {meth : Method} {c : Code} {z : Nat} {D : tc_D} {G : tc_G} (hW : tc_W G) (r : Int32) (ur : tc_S) (s0 : Int32) (u : tc_S) (h : bl_X2_below_33 G s0 u = some (r, ur)) : tc_R p l e { frames := 0, cells := 0, slots := 0, locals := 0 } s m args below meth c z D cX2_below RX2 2 (some .int) 0 0 (tc_po r G ur) 0 0 G u 33 [] [.int s0] := by
  unfold bl_X2_below_33 at h
  cases h
  exact tc_ireturn rfl dX2_below_33 rfl rfl ⟨rfl, rfl, rfl⟩
set_option maxRecDepth 100000 in
set_option maxHeartbeats 4000000 in
theorem ct_X2_below {l : Launch} {z : Nat} {D : tc_D} {G : tc_G} (hW : tc_W G) {v0 : Nat} {v1 : Int32} {u : tc_S} {r : Int32} {ur : tc_S} (iv0 : tc_is G v0 2) (h : fn_X2_below G v0 v1 u = some (r, ur)) : tc_C l z D yX2_below cX2_below 2 (some .int) 0 0 0 0 [.ref (z + v0), .int v1] G u (tc_po r G ur) := by
  unfold fn_X2_below at h
  refine tc_C.of (by decide) (Nat.le_of_ble_eq_true rfl) fun p e s m args below meth c => ?_
  show tc_R p l e { frames := 0, cells := 0, slots := 0, locals := 0 } s m args below meth c z D cX2_below RX2 2 (some .int) 0 0 (tc_po r G ur) 0 0 G u 0 [(0, .ref (z + v0)), (1, .int v1)] []
  refine tc_aload_n 0 rfl dX2_below_0 ?_
  refine tc_aload_n 0 rfl dX2_below_1 ?_
  refine tc_geti iv0.1 fl_X2_7 dX2_below_2 ?_
  refine tc_ldc (v := 1103515245) co_X2_13 dX2_below_5 ?_
  refine tc_imul dX2_below_7 ?_
  refine tc_sipush (v := 12345) (by decide) dX2_below_8 ?_
  refine tc_iadd dX2_below_11 ?_
  obtain ⟨u1, eu1, h⟩ := tc_let_ex h
  refine tc_puti iv0.1 fl_X2_7 dX2_below_12 ?_
  refine tc_nmu eu1 ?_
  refine tc_iload_n 1 rfl dX2_below_15 ?_
  refine tc_iconst (v := 1) (by decide) dX2_below_16 ?_
  refine tc_icmp_ge 24 dX2_below_17 (by decide) (fun hc2 => ?_) (fun hc2 => ?_)
  · rw [if_pos hc2] at h
    refine tc_aload_n 0 rfl dX2_below_24 ?_
    refine tc_geti iv0.1 fl_X2_7 dX2_below_25 ?_
    refine tc_bipush (v := 16) (by decide) dX2_below_28 ?_
    refine tc_iushr' dX2_below_30 ?_
    refine tc_iload_n 1 rfl dX2_below_31 ?_
    obtain ⟨hz3, h⟩ := tc_nz_ex h
    refine tc_irem' hz3 dX2_below_32 ?_
    refine tc_lvs [] rfl ?_
    exact sb_X2_below_33 hW r ur  (tc_mod (tc_ush (u1.1 v0 0) 16) v1) u1  h
  · rw [if_neg hc2] at h
    refine tc_iconst (v := 0) (by decide) dX2_below_20 ?_
    refine tc_goto 33 dX2_below_21 (by decide) ?_
    refine tc_lvs [] rfl ?_
    exact sb_X2_below_33 hW r ur  0 u1  h
set_option maxRecDepth 100000 in
set_option maxHeartbeats 4000000 in
theorem ct_X8_drawHashes {l : Launch} {z : Nat} {D : tc_D} {G : tc_G} (hW : tc_W G) {v0 : Nat} {u : tc_S} {r : Int32} {ur : tc_S} (iv0 : tc_is G v0 8) (h : fn_X8_drawHashes G v0 u = some (r, ur)) : tc_C l z D yX8_drawHashes cX8_drawHashes 1 none 1 21 0 0 [.ref (z + v0)] G u (tc_pv G ur) := by
  unfold fn_X8_drawHashes at h
  refine tc_C.of (by decide) (Nat.le_of_ble_eq_true rfl) fun p e s m args below meth c => ?_
  show tc_R p l e { frames := 1, cells := 0, slots := 0, locals := 21 } s m args below meth c z D cX8_drawHashes RX8 1 none 0 0 (tc_pv G ur) 0 0 G u 0 [(0, .ref (z + v0))] []
  refine tc_aload_n 0 rfl dX8_drawHashes_0 ?_
  refine tc_iconst (v := 1) (by decide) dX8_drawHashes_1 ?_
  refine tc_aload_n 0 rfl dX8_drawHashes_2 ?_
  refine tc_getp hW iv0 fl_X8_12 dX8_drawHashes_3 rfl ?_
  refine tc_sipush (v := 1008) (by decide) dX8_drawHashes_6 ?_
  obtain ⟨x1, u2, hq3, h⟩ := tc_b_ex h
  refine tc_callVi [.int 1008] dX8_drawHashes_9 (hW.p iv0 11 rfl).1 (ct_X2_below hW (hW.p iv0 11 rfl) hq3) ml_X8_62 mw_X2_below mv_X2_below ⟨Nat.le_of_ble_eq_true rfl, Nat.le_of_ble_eq_true rfl⟩ rfl rfl (Nat.le_of_ble_eq_true rfl) ⟨Nat.le_refl _, Nat.le_refl _⟩ (by decide) ?_
  refine tc_iadd dX8_drawHashes_12 ?_
  obtain ⟨u4, eu4, h⟩ := tc_let_ex h
  refine tc_puti iv0.1 fl_X8_50 dX8_drawHashes_13 ?_
  refine tc_nmu eu4 ?_
  refine tc_aload_n 0 rfl dX8_drawHashes_16 ?_
  refine tc_aload_n 0 rfl dX8_drawHashes_17 ?_
  refine tc_getp hW iv0 fl_X8_12 dX8_drawHashes_18 rfl ?_
  refine tc_sipush (v := 1009) (by decide) dX8_drawHashes_21 ?_
  obtain ⟨x5, u6, hq7, h⟩ := tc_b_ex h
  refine tc_callVi [.int 1009] dX8_drawHashes_24 (hW.p iv0 11 rfl).1 (ct_X2_below hW (hW.p iv0 11 rfl) hq7) ml_X8_62 mw_X2_below mv_X2_below ⟨Nat.le_of_ble_eq_true rfl, Nat.le_of_ble_eq_true rfl⟩ rfl rfl (Nat.le_of_ble_eq_true rfl) ⟨Nat.le_refl _, Nat.le_refl _⟩ (by decide) ?_
  obtain ⟨u8, eu8, h⟩ := tc_let_ex h
  refine tc_puti iv0.1 fl_X8_53 dX8_drawHashes_27 ?_
  refine tc_nmu eu8 ?_
  refine tc_aload_n 0 rfl dX8_drawHashes_30 ?_
  refine tc_iconst (v := 1) (by decide) dX8_drawHashes_31 ?_
  refine tc_aload_n 0 rfl dX8_drawHashes_32 ?_
  refine tc_getp hW iv0 fl_X8_12 dX8_drawHashes_33 rfl ?_
  refine tc_sipush (v := 1008) (by decide) dX8_drawHashes_36 ?_
  obtain ⟨x9, u10, hq11, h⟩ := tc_b_ex h
  refine tc_callVi [.int 1008] dX8_drawHashes_39 (hW.p iv0 11 rfl).1 (ct_X2_below hW (hW.p iv0 11 rfl) hq11) ml_X8_62 mw_X2_below mv_X2_below ⟨Nat.le_of_ble_eq_true rfl, Nat.le_of_ble_eq_true rfl⟩ rfl rfl (Nat.le_of_ble_eq_true rfl) ⟨Nat.le_refl _, Nat.le_refl _⟩ (by decide) ?_
  refine tc_iadd dX8_drawHashes_42 ?_
  obtain ⟨u12, eu12, h⟩ := tc_let_ex h
  refine tc_puti iv0.1 fl_X8_56 dX8_drawHashes_43 ?_
  refine tc_nmu eu12 ?_
  refine tc_aload_n 0 rfl dX8_drawHashes_46 ?_
  refine tc_aload_n 0 rfl dX8_drawHashes_47 ?_
  refine tc_getp hW iv0 fl_X8_12 dX8_drawHashes_48 rfl ?_
  refine tc_sipush (v := 1009) (by decide) dX8_drawHashes_51 ?_
  obtain ⟨x13, u14, hq15, h⟩ := tc_b_ex h
  refine tc_callVi [.int 1009] dX8_drawHashes_54 (hW.p iv0 11 rfl).1 (ct_X2_below hW (hW.p iv0 11 rfl) hq15) ml_X8_62 mw_X2_below mv_X2_below ⟨Nat.le_of_ble_eq_true rfl, Nat.le_of_ble_eq_true rfl⟩ rfl rfl (Nat.le_of_ble_eq_true rfl) ⟨Nat.le_refl _, Nat.le_refl _⟩ (by decide) ?_
  obtain ⟨u16, eu16, h⟩ := tc_let_ex h
  refine tc_puti iv0.1 fl_X8_59 dX8_drawHashes_57 ?_
  refine tc_nmu eu16 ?_
  cases h
  exact tc_return rfl dX8_drawHashes_60 rfl rfl ⟨rfl, rfl, rfl⟩
set_option maxRecDepth 100000 in
set_option maxHeartbeats 4000000 in
theorem sb_X0_change_61 {p : Program} {l : Launch} {e : Env} {s : State} {m : MethodId} {args : Array Value} {below : List Frame} {meth : Method} {c : Code} {z : Nat} {D : tc_D} {G : tc_G} (hW : tc_W G) (r : Int32) (ur : tc_S) (u : tc_S) (h : bl_X0_change_61 G  u = some (r, ur)) : tc_R p l e { frames := 2, cells := 0, slots := 0, locals := 41 } s m args below meth c z D cX0_change RX0 3 none 0 0 (tc_pv G ur) 0 0 G u 61 [] [] := by
  unfold bl_X0_change_61 at h
  cases h
  exact tc_return rfl dX0_change_61 rfl rfl ⟨rfl, rfl, rfl⟩
set_option maxRecDepth 100000 in
set_option maxHeartbeats 4000000 in
theorem ct_X0_change {l : Launch} {z : Nat} {D : tc_D} {G : tc_G} (hW : tc_W G) {v0 : Nat} {v1 : Int32} {v2 : Int32} {u : tc_S} {r : Int32} {ur : tc_S} (iv0 : tc_is G v0 0) (h : fn_X0_change G v0 v1 v2 u = some (r, ur)) : tc_C l z D yX0_change cX0_change 3 none 2 41 0 0 [.ref (z + v0), .int v1, .int v2] G u (tc_pv G ur) := by
  unfold fn_X0_change at h
  refine tc_C.of (by decide) (Nat.le_of_ble_eq_true rfl) fun p e s m args below meth c => ?_
  show tc_R p l e { frames := 2, cells := 0, slots := 0, locals := 41 } s m args below meth c z D cX0_change RX0 3 none 0 0 (tc_pv G ur) 0 0 G u 0 [(0, .ref (z + v0)), (1, .int v1), (2, .int v2)] []
  refine tc_iload_n 1 rfl dX0_change_0 ?_
  refine tc_if_ne 18 dX0_change_1 (by decide) (fun hc1 => ?_) (fun hc1 => ?_)
  · rw [if_neg hc1] at h
    refine tc_iload_n 1 rfl dX0_change_18 ?_
    refine tc_iconst (v := 1) (by decide) dX0_change_19 ?_
    refine tc_icmp_ne 37 dX0_change_20 (by decide) (fun hc2 => ?_) (fun hc2 => ?_)
    · rw [if_neg hc2] at h
      refine tc_aload_n 0 rfl dX0_change_37 ?_
      refine tc_getp hW iv0 fl_X0_14 dX0_change_38 rfl ?_
      refine tc_getp hW (hW.p iv0 1 rfl) fl_X0_24 dX0_change_41 rfl ?_
      refine tc_getp hW (hW.p (hW.p iv0 1 rfl) 0 rfl) fl_X0_99 dX0_change_44 rfl ?_
      refine tc_iload_n 2 rfl dX0_change_47 ?_
      obtain ⟨u3, eu3, h⟩ := tc_let_ex h
      refine tc_puti (hW.p (hW.p (hW.p iv0 1 rfl) 0 rfl) 11 rfl).1 fl_X0_103 dX0_change_48 ?_
      refine tc_nmu eu3 ?_
      refine tc_aload_n 0 rfl dX0_change_51 ?_
      refine tc_getp hW iv0 fl_X0_14 dX0_change_52 rfl ?_
      refine tc_getp hW (hW.p iv0 1 rfl) fl_X0_24 dX0_change_55 rfl ?_
      obtain ⟨x4, u5, hq6, h⟩ := tc_b_ex h
      refine tc_callVv [] dX0_change_58 (hW.p (hW.p iv0 1 rfl) 0 rfl).1 (ct_X8_drawHashes hW (hW.p (hW.p iv0 1 rfl) 0 rfl) hq6) ml_X0_108 mw_X8_drawHashes mv_X8_drawHashes ⟨Nat.le_of_ble_eq_true rfl, Nat.le_of_ble_eq_true rfl⟩ rfl rfl (Nat.le_of_ble_eq_true rfl) ⟨Nat.le_refl _, Nat.le_refl _⟩ (by decide) ?_
      refine tc_lvs [] rfl ?_
      exact sb_X0_change_61 hW r ur   u5  h
    · rw [if_pos hc2] at h
      refine tc_aload_n 0 rfl dX0_change_23 ?_
      refine tc_getp hW iv0 fl_X0_14 dX0_change_24 rfl ?_
      refine tc_getp hW (hW.p iv0 1 rfl) fl_X0_24 dX0_change_27 rfl ?_
      refine tc_iload_n 2 rfl dX0_change_30 ?_
      obtain ⟨u7, eu7, h⟩ := tc_let_ex h
      refine tc_puti (hW.p (hW.p iv0 1 rfl) 0 rfl).1 fl_X0_96 dX0_change_31 ?_
      refine tc_nmu eu7 ?_
      refine tc_goto 61 dX0_change_34 (by decide) ?_
      refine tc_lvs [] rfl ?_
      exact sb_X0_change_61 hW r ur   u7  h
  · rw [if_pos hc1] at h
    refine tc_aload_n 0 rfl dX0_change_4 ?_
    refine tc_getp hW iv0 fl_X0_14 dX0_change_5 rfl ?_
    refine tc_getp hW (hW.p iv0 1 rfl) fl_X0_24 dX0_change_8 rfl ?_
    refine tc_iload_n 2 rfl dX0_change_11 ?_
    obtain ⟨u8, eu8, h⟩ := tc_let_ex h
    refine tc_puti (hW.p (hW.p iv0 1 rfl) 0 rfl).1 fl_X0_93 dX0_change_12 ?_
    refine tc_nmu eu8 ?_
    refine tc_goto 61 dX0_change_15 (by decide) ?_
    refine tc_lvs [] rfl ?_
    exact sb_X0_change_61 hW r ur   u8  h
set_option maxRecDepth 100000 in
set_option maxHeartbeats 4000000 in
theorem sl_X0_leastOf_13 {p : Program} {l : Launch} {e : Env} {s : State} {m : MethodId} {args : Array Value} {below : List Frame} {meth : Method} {c : Code} {z : Nat} {D : tc_D} {G : tc_G} (hW : tc_W G) (r : Int32) (ur : tc_S) : ∀ (n : Nat) (v0 : Nat) (v1 : Nat) (v2 : Int32) (v3 : Int32) (v4 : Int32) (u : tc_S) (iv0 : tc_is G v0 0) (iv1 : tc_is G v1 9) (h : lo_X0_leastOf_13 G n v0 v1 v2 v3 v4 u = some (r, ur)), tc_R p l e { frames := 6, cells := 0, slots := 0, locals := 145 } s m args below meth c z D cX0_leastOf RX0 5 (some .int) 0 0 (tc_po r G ur) 0 0 G u 13 [(0, .ref (z + v0)), (1, .ref (z + v1)), (2, .int v2), (3, .int v3), (4, .int v4)] [] := by
  intro n
  induction n with
  | zero => intro v0 v1 v2 v3 v4 u iv0 iv1 h; cases h
  | succ n ih =>
    intro v0 v1 v2 v3 v4 u iv0 iv1 h
    rw [lo_X0_leastOf_13] at h
    refine tc_iload 4 rfl dX0_leastOf_13 ?_
    refine tc_iload_n 3 rfl dX0_leastOf_15 ?_
    refine tc_icmp_gt 44 dX0_leastOf_16 (by decide) (fun hc1 => ?_) (fun hc1 => ?_)
    · rw [if_pos hc1] at h
      refine tc_iconst (v := (-1)) (by decide) dX0_leastOf_44 ?_
      cases h
      exact tc_ireturn rfl dX0_leastOf_45 rfl rfl ⟨rfl, rfl, rfl⟩
    · rw [if_neg hc1] at h
      refine tc_aload_n 0 rfl dX0_leastOf_19 ?_
      refine tc_iload_n 2 rfl dX0_leastOf_20 ?_
      refine tc_iload 4 rfl dX0_leastOf_21 ?_
      obtain ⟨x2, u3, hq4, h⟩ := tc_b_ex h
      refine tc_callVv [.int v2, .int v4] dX0_leastOf_23 iv0.1 (ct_X0_change hW iv0 hq4) ml_X0_87 mw_X0_change mv_X0_change ⟨Nat.le_of_ble_eq_true rfl, Nat.le_of_ble_eq_true rfl⟩ rfl rfl (Nat.le_of_ble_eq_true rfl) ⟨Nat.le_refl _, Nat.le_refl _⟩ (by decide) ?_
      refine tc_aload_n 0 rfl dX0_leastOf_26 ?_
      refine tc_aload_n 1 rfl dX0_leastOf_27 ?_
      refine tc_iconst (v := (-1)) (by decide) dX0_leastOf_28 ?_
      obtain ⟨x5, u6, hq7, h⟩ := tc_b_ex h
      refine tc_callVi [.ref (z + v1), .int (-1)] dX0_leastOf_29 iv0.1 (ct_X0_allFit hW iv0 iv1 hq7) ml_X0_90 mw_X0_allFit mv_X0_allFit ⟨Nat.le_of_ble_eq_true rfl, Nat.le_of_ble_eq_true rfl⟩ rfl rfl (Nat.le_of_ble_eq_true rfl) ⟨Nat.le_refl _, Nat.le_refl _⟩ (by decide) ?_
      refine tc_if_eq 38 dX0_leastOf_32 (by decide) (fun hc8 => ?_) (fun hc8 => ?_)
      · rw [if_pos hc8] at h
        obtain ⟨x9, ex9, h⟩ := tc_let_ex h
        refine tc_iinc 4 (v := x9) [(4, .int x9), (0, .ref (z + v0)), (1, .ref (z + v1)), (2, .int v2), (3, .int v3)] dX0_leastOf_38 rfl (by rw [ex9]; rfl) (by decide) rfl ?_
        refine tc_goto 13 dX0_leastOf_41 (by decide) ?_
        refine tc_lvs [1, 2, 3, 4, 0] rfl ?_
        exact ih v0 v1 v2 v3 x9 u6 iv0 iv1 h
      · rw [if_neg hc8] at h
        refine tc_iload 4 rfl dX0_leastOf_35 ?_
        cases h
        exact tc_ireturn rfl dX0_leastOf_37 rfl rfl ⟨rfl, rfl, rfl⟩
set_option maxRecDepth 100000 in
set_option maxHeartbeats 4000000 in
theorem ct_X0_leastOf {l : Launch} {z : Nat} {D : tc_D} {G : tc_G} (hW : tc_W G) {v0 : Nat} {v1 : Nat} {v2 : Int32} {u : tc_S} {r : Int32} {ur : tc_S} (iv0 : tc_is G v0 0) (iv1 : tc_is G v1 9) (h : fn_X0_leastOf G v0 v1 v2 u = some (r, ur)) : tc_C l z D yX0_leastOf cX0_leastOf 5 (some .int) 6 145 0 0 [.ref (z + v0), .ref (z + v1), .int v2] G u (tc_po r G ur) := by
  unfold fn_X0_leastOf at h
  refine tc_C.of (by decide) (Nat.le_of_ble_eq_true rfl) fun p e s m args below meth c => ?_
  show tc_R p l e { frames := 6, cells := 0, slots := 0, locals := 145 } s m args below meth c z D cX0_leastOf RX0 5 (some .int) 0 0 (tc_po r G ur) 0 0 G u 0 [(0, .ref (z + v0)), (1, .ref (z + v1)), (2, .int v2)] []
  refine tc_aload_n 0 rfl dX0_leastOf_0 ?_
  refine tc_aload_n 1 rfl dX0_leastOf_1 ?_
  obtain ⟨x10, u11, hq12, h⟩ := tc_b_ex h
  refine tc_callVv [.ref (z + v1)] dX0_leastOf_2 iv0.1 (ct_X0_takeSettings hW iv0 iv1 hq12) ml_X0_80 mw_X0_takeSettings mv_X0_takeSettings ⟨Nat.le_of_ble_eq_true rfl, Nat.le_of_ble_eq_true rfl⟩ rfl rfl (Nat.le_of_ble_eq_true rfl) ⟨Nat.le_refl _, Nat.le_refl _⟩ (by decide) ?_
  refine tc_iload_n 2 rfl dX0_leastOf_5 ?_
  obtain ⟨x13, u14, hq15, h⟩ := tc_b_ex h
  refine tc_callSi [.int v2] dX0_leastOf_6 (ct_X0_mostOf hW hq15) ml_X0_84 mw_X0_mostOf ms_X0_mostOf ⟨Nat.le_of_ble_eq_true rfl, Nat.le_of_ble_eq_true rfl⟩ rfl rfl (Nat.le_of_ble_eq_true rfl) ⟨Nat.le_refl _, Nat.le_refl _⟩ ?_
  refine tc_istore_n [(3, .int x13), (0, .ref (z + v0)), (1, .ref (z + v1)), (2, .int v2)] dX0_leastOf_9 (by decide) rfl ?_
  refine tc_iconst (v := 1) (by decide) dX0_leastOf_10 ?_
  refine tc_istore [(4, .int 1), (3, .int x13), (0, .ref (z + v0)), (1, .ref (z + v1)), (2, .int v2)] dX0_leastOf_11 (by decide) rfl ?_
  refine tc_lvs [2, 3, 4, 1, 0] rfl ?_
  exact sl_X0_leastOf_13 hW r ur  _ v0 v1 v2 x13 1 u14 iv0 iv1 h
set_option maxRecDepth 100000 in
set_option maxHeartbeats 4000000 in
theorem ct_X9_startOf {l : Launch} {z : Nat} {D : tc_D} {G : tc_G} (hW : tc_W G) {v0 : Nat} {v1 : Int32} {u : tc_S} {r : Int32} {ur : tc_S} (iv0 : tc_is G v0 9) (h : fn_X9_startOf G v0 v1 u = some (r, ur)) : tc_C l z D yX9_startOf cX9_startOf 2 (some .int) 0 0 0 0 [.ref (z + v0), .int v1] G u (tc_po r G ur) := by
  unfold fn_X9_startOf at h
  refine tc_C.of (by decide) (Nat.le_of_ble_eq_true rfl) fun p e s m args below meth c => ?_
  show tc_R p l e { frames := 0, cells := 0, slots := 0, locals := 0 } s m args below meth c z D cX9_startOf RX9 2 (some .int) 0 0 (tc_po r G ur) 0 0 G u 0 [(0, .ref (z + v0)), (1, .int v1)] []
  refine tc_iload_n 1 rfl dX9_startOf_0 ?_
  refine tc_aload_n 0 rfl dX9_startOf_1 ?_
  refine tc_getp hW iv0 fl_X9_12 dX9_startOf_2 rfl ?_
  refine tc_geti (hW.p iv0 0 rfl).1 fl_X9_98 dX9_startOf_5 ?_
  refine tc_imul dX9_startOf_8 ?_
  cases h
  exact tc_ireturn rfl dX9_startOf_9 rfl rfl ⟨rfl, rfl, rfl⟩
set_option maxRecDepth 100000 in
set_option maxHeartbeats 4000000 in
theorem sl_X9_indexIn_9 {p : Program} {l : Launch} {e : Env} {s : State} {m : MethodId} {args : Array Value} {below : List Frame} {meth : Method} {c : Code} {z : Nat} {D : tc_D} {G : tc_G} (hW : tc_W G) (r : Int32) (ur : tc_S) : ∀ (n : Nat) (v0 : Nat) (v2 : Int32) (v3 : Int32) (v4 : Int32) (u : tc_S) (iv0 : tc_is G v0 9) (h : lo_X9_indexIn_9 G n v0 v2 v3 v4 u = some (r, ur)), tc_R p l e { frames := 1, cells := 0, slots := 0, locals := 21 } s m args below meth c z D cX9_indexIn RX9 5 (some .int) 0 0 (tc_po r G ur) 0 0 G u 9 [(0, .ref (z + v0)), (2, .int v2), (3, .int v3), (4, .int v4)] [] := by
  intro n
  induction n with
  | zero => intro v0 v2 v3 v4 u iv0 h; cases h
  | succ n ih =>
    intro v0 v2 v3 v4 u iv0 h
    rw [lo_X9_indexIn_9] at h
    refine tc_iload 3 rfl dX9_indexIn_9 ?_
    refine tc_iload_n 2 rfl dX9_indexIn_11 ?_
    refine tc_aload_n 0 rfl dX9_indexIn_12 ?_
    refine tc_getp hW iv0 fl_X9_12 dX9_indexIn_13 rfl ?_
    refine tc_geti (hW.p iv0 0 rfl).1 fl_X9_98 dX9_indexIn_16 ?_
    refine tc_iadd dX9_indexIn_19 ?_
    refine tc_icmp_ge 43 dX9_indexIn_20 (by decide) (fun hc1 => ?_) (fun hc1 => ?_)
    · rw [if_pos hc1] at h
      refine tc_iconst (v := (-1)) (by decide) dX9_indexIn_43 ?_
      cases h
      exact tc_ireturn rfl dX9_indexIn_44 rfl rfl ⟨rfl, rfl, rfl⟩
    · rw [if_neg hc1] at h
      refine tc_aload_n 0 rfl dX9_indexIn_23 ?_
      refine tc_getp hW iv0 fl_X9_29 dX9_indexIn_24 rfl ?_
      refine tc_iload 3 rfl dX9_indexIn_27 ?_
      obtain ⟨bx2, x2, ex2, h⟩ := tc_ld_ex h
      refine tc_iald (hW.p iv0 3 rfl).1 bx2 dX9_indexIn_29 ?_
      refine tc_nm ex2 ?_
      refine tc_iload_n 1 rfl dX9_indexIn_30 ?_
      refine tc_icmp_ne 37 dX9_indexIn_31 (by decide) (fun hc3 => ?_) (fun hc3 => ?_)
      · rw [if_neg hc3] at h
        obtain ⟨x4, ex4, h⟩ := tc_let_ex h
        refine tc_iinc 3 (v := x4) [(4, .int x4), (0, .ref (z + v0)), (2, .int v2), (3, .int v3)] dX9_indexIn_37 rfl (by rw [ex4]; rfl) (by decide) rfl ?_
        refine tc_goto 9 dX9_indexIn_40 (by decide) ?_
        refine tc_lvs [1, 2, 3, 0] rfl ?_
        exact ih v0 v2 v3 x4 u iv0 h
      · rw [if_pos hc3] at h
        refine tc_iload 3 rfl dX9_indexIn_34 ?_
        cases h
        exact tc_ireturn rfl dX9_indexIn_36 rfl rfl ⟨rfl, rfl, rfl⟩
set_option maxRecDepth 100000 in
set_option maxHeartbeats 4000000 in
theorem ct_X9_indexIn {l : Launch} {z : Nat} {D : tc_D} {G : tc_G} (hW : tc_W G) {v0 : Nat} {v1 : Int32} {v2 : Int32} {u : tc_S} {r : Int32} {ur : tc_S} (iv0 : tc_is G v0 9) (h : fn_X9_indexIn G v0 v1 v2 u = some (r, ur)) : tc_C l z D yX9_indexIn cX9_indexIn 5 (some .int) 1 21 0 0 [.ref (z + v0), .int v1, .int v2] G u (tc_po r G ur) := by
  unfold fn_X9_indexIn at h
  refine tc_C.of (by decide) (Nat.le_of_ble_eq_true rfl) fun p e s m args below meth c => ?_
  show tc_R p l e { frames := 1, cells := 0, slots := 0, locals := 21 } s m args below meth c z D cX9_indexIn RX9 5 (some .int) 0 0 (tc_po r G ur) 0 0 G u 0 [(0, .ref (z + v0)), (1, .int v1), (2, .int v2)] []
  refine tc_aload_n 0 rfl dX9_indexIn_0 ?_
  refine tc_iload_n 1 rfl dX9_indexIn_1 ?_
  obtain ⟨x5, u6, hq7, h⟩ := tc_b_ex h
  refine tc_callVi [.int v1] dX9_indexIn_2 iv0.1 (ct_X9_startOf hW iv0 hq7) ml_X9_104 mw_X9_startOf mv_X9_startOf ⟨Nat.le_of_ble_eq_true rfl, Nat.le_of_ble_eq_true rfl⟩ rfl rfl (Nat.le_of_ble_eq_true rfl) ⟨Nat.le_refl _, Nat.le_refl _⟩ (by decide) ?_
  refine tc_istore_n [(3, .int x5), (0, .ref (z + v0)), (1, .int v1), (2, .int v2)] dX9_indexIn_5 (by decide) rfl ?_
  refine tc_iload_n 0 rfl dX9_indexIn_6 ?_
  refine tc_istore [(4, .int x5), (3, .int x5), (0, .ref (z + v0)), (1, .int v1), (2, .int v2)] dX9_indexIn_7 (by decide) rfl ?_
  refine tc_lvs [2, 4, 1, 0] rfl ?_
  exact sl_X9_indexIn_9 hW r ur  _ v0 v2 x5 x5 u6 iv0 h
