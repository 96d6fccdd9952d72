set_option maxRecDepth 100000 in
set_option maxHeartbeats 4000000 in
theorem sb_X6_readNumber_46 {p : Program} {l : Launch} {e : Env} {s : State} {m : MethodId} {args : Array Value} {below : List Frame} {meth : Method} {c : Code} {z : Nat} {D : tc_D} {G : tc_G} (hW : tc_W G) (r : Int32) (ur : tc_S) (v0 : Nat) (u : tc_S) (iv0 : tc_is G v0 6) (h : bl_X6_readNumber_46 G v0 u = some (r, ur)) : tc_R p l e { frames := 3, cells := 0, slots := 0, locals := 61 } s m args below meth c z D cX6_readNumber RX6 3 (some .boolean) 0 0 (tc_po r G ur) 0 0 G u 46 [(0, .ref (z + v0))] [] := by
  unfold bl_X6_readNumber_46 at h
  refine tc_aload_n 0 rfl dX6_readNumber_46 ?_
  obtain ⟨x1, u2, hq3, h⟩ := tc_b_ex h
  refine tc_callVv [] dX6_readNumber_47 iv0.1 (ct_X6_step hW iv0 hq3) ml_X6_57 mw_X6_step mv_X6_step ⟨Nat.le_of_ble_eq_true rfl, Nat.le_of_ble_eq_true rfl⟩ rfl rfl (Nat.le_of_ble_eq_true rfl) ⟨Nat.le_refl _, Nat.le_refl _⟩ (by decide) ?_
  refine tc_iconst (v := 1) (by decide) dX6_readNumber_50 ?_
  obtain ⟨hz4, h⟩ := tc_zo_ex h
  cases h
  exact tc_zreturn hz4 rfl dX6_readNumber_51 rfl rfl ⟨rfl, rfl, rfl⟩
set_option maxRecDepth 100000 in
set_option maxHeartbeats 4000000 in
theorem sb_X6_readNumber_37 {p : Program} {l : Launch} {e : Env} {s : State} {m : MethodId} {args : Array Value} {below : List Frame} {meth : Method} {c : Code} {z : Nat} {D : tc_D} {G : tc_G} (hW : tc_W G) (r : Int32) (ur : tc_S) (v0 : Nat) (u : tc_S) (iv0 : tc_is G v0 6) (h : bl_X6_readNumber_37 G v0 u = some (r, ur)) : tc_R p l e { frames := 3, cells := 0, slots := 0, locals := 61 } s m args below meth c z D cX6_readNumber RX6 3 (some .boolean) 0 0 (tc_po r G ur) 0 0 G u 37 [(0, .ref (z + v0))] [] := by
  unfold bl_X6_readNumber_37 at h
  refine tc_aload_n 0 rfl dX6_readNumber_37 ?_
  refine tc_iconst (v := 2) (by decide) dX6_readNumber_38 ?_
  refine tc_aload_n 0 rfl dX6_readNumber_39 ?_
  refine tc_geti iv0.1 fl_X6_163 dX6_readNumber_40 ?_
  obtain ⟨x5, u6, hq7, h⟩ := tc_b_ex h
  refine tc_callVv [.int 2, .int (u.1 v0 11)] dX6_readNumber_43 iv0.1 (ct_X6_note hW iv0 hq7) ml_X6_166 mw_X6_note mv_X6_note ⟨Nat.le_of_ble_eq_true rfl, Nat.le_of_ble_eq_true rfl⟩ rfl rfl (Nat.le_of_ble_eq_true rfl) ⟨Nat.le_refl _, Nat.le_refl _⟩ (by decide) ?_
  exact sb_X6_readNumber_46 hW r ur  v0 u6 iv0 h
set_option maxRecDepth 100000 in
set_option maxHeartbeats 4000000 in
theorem ct_X6_readNumber {l : Launch} {z : Nat} {D : tc_D} {G : tc_G} (hW : tc_W G) {v0 : Nat} {v1 : Int32} {v2 : Int32} {u : tc_S} {r : Int32} {ur : tc_S} (iv0 : tc_is G v0 6) (h : fn_X6_readNumber G v0 v1 v2 u = some (r, ur)) : tc_C l z D yX6_readNumber cX6_readNumber 3 (some .boolean) 3 61 0 0 [.ref (z + v0), .int v1, .int v2] G u (tc_po r G ur) := by
  unfold fn_X6_readNumber at h
  refine tc_C.of (by decide) (Nat.le_of_ble_eq_true rfl) fun p e s m args below meth c => ?_
  show tc_R p l e { frames := 3, cells := 0, slots := 0, locals := 61 } s m args below meth c z D cX6_readNumber RX6 3 (some .boolean) 0 0 (tc_po r G ur) 0 0 G u 0 [(0, .ref (z + v0)), (1, .int v1), (2, .int v2)] []
  refine tc_aload_n 0 rfl dX6_readNumber_0 ?_
  refine tc_geti iv0.1 fl_X6_60 dX6_readNumber_1 ?_
  refine tc_iconst (v := 2) (by decide) dX6_readNumber_4 ?_
  refine tc_icmp_eq 13 dX6_readNumber_5 (by decide) (fun hc8 => ?_) (fun hc8 => ?_)
  · rw [if_pos hc8] at h
    refine tc_aload_n 0 rfl dX6_readNumber_13 ?_
    refine tc_aload_n 0 rfl dX6_readNumber_14 ?_
    refine tc_geti iv0.1 fl_X6_170 dX6_readNumber_15 ?_
    obtain ⟨u9, eu9, h⟩ := tc_let_ex h
    refine tc_puti iv0.1 fl_X6_110 dX6_readNumber_18 ?_
    refine tc_nmu eu9 ?_
    refine tc_aload_n 0 rfl dX6_readNumber_21 ?_
    refine tc_geti iv0.1 fl_X6_110 dX6_readNumber_22 ?_
    refine tc_iload_n 1 rfl dX6_readNumber_25 ?_
    refine tc_icmp_lt 37 dX6_readNumber_26 (by decide) (fun hc10 => ?_) (fun hc10 => ?_)
    · rw [if_pos hc10] at h
      refine tc_lvs [0] rfl ?_
      exact sb_X6_readNumber_37 hW r ur  v0 u9 iv0 h
    · rw [if_neg hc10] at h
      refine tc_aload_n 0 rfl dX6_readNumber_29 ?_
      refine tc_geti iv0.1 fl_X6_110 dX6_readNumber_30 ?_
      refine tc_iload_n 2 rfl dX6_readNumber_33 ?_
      refine tc_icmp_le 46 dX6_readNumber_34 (by decide) (fun hc11 => ?_) (fun hc11 => ?_)
      · rw [if_pos hc11] at h
        refine tc_lvs [0] rfl ?_
        exact sb_X6_readNumber_46 hW r ur  v0 u9 iv0 h
      · rw [if_neg hc11] at h
        refine tc_lvs [0] rfl ?_
        exact sb_X6_readNumber_37 hW r ur  v0 u9 iv0 h
  · rw [if_neg hc8] at h
    refine tc_aload_n 0 rfl dX6_readNumber_8 ?_
    obtain ⟨x12, u13, hq14, h⟩ := tc_b_ex h
    refine tc_callVi [] dX6_readNumber_9 iv0.1 (ct_X6_stop hW iv0 hq14) ml_X6_84 mw_X6_stop mv_X6_stop ⟨Nat.le_of_ble_eq_true rfl, Nat.le_of_ble_eq_true rfl⟩ rfl rfl (Nat.le_of_ble_eq_true rfl) ⟨Nat.le_refl _, Nat.le_refl _⟩ (by decide) ?_
    obtain ⟨hz15, h⟩ := tc_zo_ex h
    cases h
    exact tc_zreturn hz15 rfl dX6_readNumber_12 rfl rfl ⟨rfl, rfl, rfl⟩
set_option maxRecDepth 100000 in
set_option maxHeartbeats 4000000 in
theorem sb_X6_readSetting_140 {p : Program} {l : Launch} {e : Env} {s : State} {m : MethodId} {args : Array Value} {below : List Frame} {meth : Method} {c : Code} {z : Nat} {D : tc_D} {G : tc_G} (hW : tc_W G) (r : Int32) (ur : tc_S) (u : tc_S) (h : bl_X6_readSetting_140 G  u = some (r, ur)) : tc_R p l e { frames := 4, cells := 0, slots := 0, locals := 83 } s m args below meth c z D cX6_readSetting RX6 2 (some .boolean) 0 0 (tc_po r G ur) 0 0 G u 140 [] [] := by
  unfold bl_X6_readSetting_140 at h
  refine tc_iconst (v := 1) (by decide) dX6_readSetting_140 ?_
  obtain ⟨hz1, h⟩ := tc_zo_ex h
  cases h
  exact tc_zreturn hz1 rfl dX6_readSetting_141 rfl rfl ⟨rfl, rfl, rfl⟩
set_option maxRecDepth 100000 in
set_option maxHeartbeats 4000000 in
theorem ct_X6_readSetting {l : Launch} {z : Nat} {D : tc_D} {G : tc_G} (hW : tc_W G) {v0 : Nat} {v1 : Int32} {u : tc_S} {r : Int32} {ur : tc_S} (iv0 : tc_is G v0 6) (h : fn_X6_readSetting G v0 v1 u = some (r, ur)) : tc_C l z D yX6_readSetting cX6_readSetting 2 (some .boolean) 4 83 0 0 [.ref (z + v0), .int v1] G u (tc_po r G ur) := by
  unfold fn_X6_readSetting at h
  refine tc_C.of (by decide) (Nat.le_of_ble_eq_true rfl) fun p e s m args below meth c => ?_
  show tc_R p l e { frames := 4, cells := 0, slots := 0, locals := 83 } s m args below meth c z D cX6_readSetting RX6 2 (some .boolean) 0 0 (tc_po r G ur) 0 0 G u 0 [(0, .ref (z + v0)), (1, .int v1)] []
  refine tc_aload_n 0 rfl dX6_readSetting_0 ?_
  refine tc_gets (fun hX => hX.2.2.2.2.1.1) xf_X6_100 dX6_readSetting_1 ?_
  refine tc_iload_n 1 rfl dX6_readSetting_4 ?_
  obtain ⟨bx2, x2, ex2, h⟩ := tc_lx_ex h
  refine tc_xiald (v := .int x2) (fun hX => hX.2.2.2.2.1.2) bx2 (by rw [ex2]) dX6_readSetting_5 ?_
  refine tc_gets (fun hX => hX.2.2.2.2.2.1.1) xf_X6_103 dX6_readSetting_6 ?_
  refine tc_iload_n 1 rfl dX6_readSetting_9 ?_
  obtain ⟨bx3, x3, ex3, h⟩ := tc_lx_ex h
  refine tc_xiald (v := .int x3) (fun hX => hX.2.2.2.2.2.1.2) bx3 (by rw [ex3]) dX6_readSetting_10 ?_
  obtain ⟨x4, u5, hq6, h⟩ := tc_b_ex h
  refine tc_callVi [.int x2, .int x3] dX6_readSetting_11 iv0.1 (ct_X6_readNumber hW iv0 hq6) ml_X6_106 mw_X6_readNumber mv_X6_readNumber ⟨Nat.le_of_ble_eq_true rfl, Nat.le_of_ble_eq_true rfl⟩ rfl rfl (Nat.le_of_ble_eq_true rfl) ⟨Nat.le_refl _, Nat.le_refl _⟩ (by decide) ?_
  refine tc_if_ne 19 dX6_readSetting_14 (by decide) (fun hc7 => ?_) (fun hc7 => ?_)
  · rw [if_neg hc7] at h
    refine tc_iload_n 1 rfl dX6_readSetting_19 ?_
    by_cases hc8 : v1.toInt = 0
    · rw [if_pos hc8] at h
      refine tc_tswIn 56 dX6_readSetting_20 (by rw [hc8]; decide) (by rw [hc8]; decide) (by rw [hc8]; rfl) (by decide) ?_
      refine tc_aload_n 0 rfl dX6_readSetting_56 ?_
      refine tc_getp hW iv0 fl_X6_12 dX6_readSetting_57 rfl ?_
      refine tc_aload_n 0 rfl dX6_readSetting_60 ?_
      refine tc_geti iv0.1 fl_X6_110 dX6_readSetting_61 ?_
      obtain ⟨u9, eu9, h⟩ := tc_let_ex h
      refine tc_puti (hW.p iv0 2 rfl).1 fl_X6_113 dX6_readSetting_64 ?_
      refine tc_nmu eu9 ?_
      refine tc_goto 140 dX6_readSetting_67 (by decide) ?_
      refine tc_lvs [] rfl ?_
      exact sb_X6_readSetting_140 hW r ur   u9  h
    rw [if_neg hc8] at h
    by_cases hc10 : v1.toInt = 1
    · rw [if_pos hc10] at h
      refine tc_tswIn 70 dX6_readSetting_20 (by rw [hc10]; decide) (by rw [hc10]; decide) (by rw [hc10]; rfl) (by decide) ?_
      refine tc_aload_n 0 rfl dX6_readSetting_70 ?_
      refine tc_getp hW iv0 fl_X6_12 dX6_readSetting_71 rfl ?_
      refine tc_aload_n 0 rfl dX6_readSetting_74 ?_
      refine tc_geti iv0.1 fl_X6_110 dX6_readSetting_75 ?_
      obtain ⟨u11, eu11, h⟩ := tc_let_ex h
      refine tc_puti (hW.p iv0 2 rfl).1 fl_X6_116 dX6_readSetting_78 ?_
      refine tc_nmu eu11 ?_
      refine tc_goto 140 dX6_readSetting_81 (by decide) ?_
      refine tc_lvs [] rfl ?_
      exact sb_X6_readSetting_140 hW r ur   u11  h
    rw [if_neg hc10] at h
    by_cases hc12 : v1.toInt = 2
    · rw [if_pos hc12] at h
      refine tc_tswIn 84 dX6_readSetting_20 (by rw [hc12]; decide) (by rw [hc12]; decide) (by rw [hc12]; rfl) (by decide) ?_
      refine tc_aload_n 0 rfl dX6_readSetting_84 ?_
      refine tc_getp hW iv0 fl_X6_12 dX6_readSetting_85 rfl ?_
      refine tc_aload_n 0 rfl dX6_readSetting_88 ?_
      refine tc_geti iv0.1 fl_X6_110 dX6_readSetting_89 ?_
      obtain ⟨u13, eu13, h⟩ := tc_let_ex h
      refine tc_puti (hW.p iv0 2 rfl).1 fl_X6_119 dX6_readSetting_92 ?_
      refine tc_nmu eu13 ?_
      refine tc_goto 140 dX6_readSetting_95 (by decide) ?_
      refine tc_lvs [] rfl ?_
      exact sb_X6_readSetting_140 hW r ur   u13  h
    rw [if_neg hc12] at h
    by_cases hc14 : v1.toInt = 3
    · rw [if_pos hc14] at h
      refine tc_tswIn 98 dX6_readSetting_20 (by rw [hc14]; decide) (by rw [hc14]; decide) (by rw [hc14]; rfl) (by decide) ?_
      refine tc_aload_n 0 rfl dX6_readSetting_98 ?_
      refine tc_getp hW iv0 fl_X6_12 dX6_readSetting_99 rfl ?_
      refine tc_aload_n 0 rfl dX6_readSetting_102 ?_
      refine tc_geti iv0.1 fl_X6_110 dX6_readSetting_103 ?_
      obtain ⟨u15, eu15, h⟩ := tc_let_ex h
      refine tc_puti (hW.p iv0 2 rfl).1 fl_X6_122 dX6_readSetting_106 ?_
      refine tc_nmu eu15 ?_
      refine tc_goto 140 dX6_readSetting_109 (by decide) ?_
      refine tc_lvs [] rfl ?_
      exact sb_X6_readSetting_140 hW r ur   u15  h
    rw [if_neg hc14] at h
    by_cases hc16 : v1.toInt = 4
    · rw [if_pos hc16] at h
      refine tc_tswIn 112 dX6_readSetting_20 (by rw [hc16]; decide) (by rw [hc16]; decide) (by rw [hc16]; rfl) (by decide) ?_
      refine tc_aload_n 0 rfl dX6_readSetting_112 ?_
      refine tc_getp hW iv0 fl_X6_12 dX6_readSetting_113 rfl ?_
      refine tc_aload_n 0 rfl dX6_readSetting_116 ?_
      refine tc_geti iv0.1 fl_X6_110 dX6_readSetting_117 ?_
      obtain ⟨u17, eu17, h⟩ := tc_let_ex h
      refine tc_puti (hW.p iv0 2 rfl).1 fl_X6_125 dX6_readSetting_120 ?_
      refine tc_nmu eu17 ?_
      refine tc_goto 140 dX6_readSetting_123 (by decide) ?_
      refine tc_lvs [] rfl ?_
      exact sb_X6_readSetting_140 hW r ur   u17  h
    rw [if_neg hc16] at h
    have sw19 : v1.toInt < 0 ∨ 4 < v1.toInt := by omega
    refine tc_tswOut 126 dX6_readSetting_20 sw19 (by decide) ?_
    refine tc_aload_n 0 rfl dX6_readSetting_126 ?_
    refine tc_getp hW iv0 fl_X6_12 dX6_readSetting_127 rfl ?_
    refine tc_getp hW (hW.p iv0 2 rfl) fl_X6_128 dX6_readSetting_130 rfl ?_
    refine tc_aload_n 0 rfl dX6_readSetting_133 ?_
    refine tc_geti iv0.1 fl_X6_110 dX6_readSetting_134 ?_
    obtain ⟨u18, eu18, h⟩ := tc_let_ex h
    refine tc_puti (hW.p (hW.p iv0 2 rfl) 11 rfl).1 fl_X6_132 dX6_readSetting_137 ?_
    refine tc_nmu eu18 ?_
    refine tc_lvs [] rfl ?_
    exact sb_X6_readSetting_140 hW r ur   u18  h
  · rw [if_pos hc7] at h
    refine tc_iconst (v := 0) (by decide) dX6_readSetting_17 ?_
    obtain ⟨hz20, h⟩ := tc_zo_ex h
    cases h
    exact tc_zreturn hz20 rfl dX6_readSetting_18 rfl rfl ⟨rfl, rfl, rfl⟩
set_option maxRecDepth 100000 in
set_option maxHeartbeats 4000000 in
theorem sb_X6_readChoice_64 {p : Program} {l : Launch} {e : Env} {s : State} {m : MethodId} {args : Array Value} {below : List Frame} {meth : Method} {c : Code} {z : Nat} {D : tc_D} {G : tc_G} (hW : tc_W G) (r : Int32) (ur : tc_S) (v0 : Nat) (u : tc_S) (iv0 : tc_is G v0 6) (h : bl_X6_readChoice_64 G v0 u = some (r, ur)) : tc_R p l e { frames := 5, cells := 0, slots := 0, locals := 110 } s m args below meth c z D cX6_readChoice RX6 3 (some .boolean) 0 0 (tc_po r G ur) 0 0 G u 64 [(0, .ref (z + v0))] [] := by
  unfold bl_X6_readChoice_64 at h
  refine tc_aload_n 0 rfl dX6_readChoice_64 ?_
  obtain ⟨x1, u2, hq3, h⟩ := tc_b_ex h
  refine tc_callVv [] dX6_readChoice_65 iv0.1 (ct_X6_step hW iv0 hq3) ml_X6_57 mw_X6_step mv_X6_step ⟨Nat.le_of_ble_eq_true rfl, Nat.le_of_ble_eq_true rfl⟩ rfl rfl (Nat.le_of_ble_eq_true rfl) ⟨Nat.le_refl _, Nat.le_refl _⟩ (by decide) ?_
  refine tc_iconst (v := 1) (by decide) dX6_readChoice_68 ?_
  obtain ⟨hz4, h⟩ := tc_zo_ex h
  cases h
  exact tc_zreturn hz4 rfl dX6_readChoice_69 rfl rfl ⟨rfl, rfl, rfl⟩
set_option maxRecDepth 100000 in
set_option maxHeartbeats 4000000 in
theorem sb_X6_readChoice_29 {p : Program} {l : Launch} {e : Env} {s : State} {m : MethodId} {args : Array Value} {below : List Frame} {meth : Method} {c : Code} {z : Nat} {D : tc_D} {G : tc_G} (hW : tc_W G) (r : Int32) (ur : tc_S) (v0 : Nat) (v1 : Int32) (s0 : Int32) (u : tc_S) (iv0 : tc_is G v0 6) (h : bl_X6_readChoice_29 G v0 v1 s0 u = some (r, ur)) : tc_R p l e { frames := 5, cells := 0, slots := 0, locals := 110 } s m args below meth c z D cX6_readChoice RX6 3 (some .boolean) 0 0 (tc_po r G ur) 0 0 G u 29 [(0, .ref (z + v0)), (1, .int v1)] [.int s0] := by
  unfold bl_X6_readChoice_29 at h
  refine tc_istore_n [(2, .int s0), (0, .ref (z + v0)), (1, .int v1)] dX6_readChoice_29 (by decide) rfl ?_
  refine tc_iload_n 0 rfl dX6_readChoice_30 ?_
  refine tc_if_ge 39 dX6_readChoice_31 (by decide) (fun hc5 => ?_) (fun hc5 => ?_)
  · rw [if_pos hc5] at h
    refine tc_iload_n 2 rfl dX6_readChoice_39 ?_
    refine tc_bipush (v := 6) (by decide) dX6_readChoice_40 ?_
    refine tc_icmp_ne 56 dX6_readChoice_42 (by decide) (fun hc6 => ?_) (fun hc6 => ?_)
    · rw [if_neg hc6] at h
      refine tc_aload_n 1 rfl dX6_readChoice_56 ?_
      refine tc_getp hW iv0 fl_X6_12 dX6_readChoice_57 rfl ?_
      refine tc_iload_n 0 rfl dX6_readChoice_60 ?_
      obtain ⟨u7, eu7, h⟩ := tc_let_ex h
      refine tc_puti (hW.p iv0 2 rfl).1 fl_X6_144 dX6_readChoice_61 ?_
      refine tc_nmu eu7 ?_
      refine tc_lvs [1] rfl ?_
      exact sb_X6_readChoice_64 hW r ur  v0 u7 iv0 h
    · rw [if_pos hc6] at h
      refine tc_aload_n 1 rfl dX6_readChoice_45 ?_
      refine tc_getp hW iv0 fl_X6_12 dX6_readChoice_46 rfl ?_
      refine tc_iload_n 0 rfl dX6_readChoice_49 ?_
      obtain ⟨u8, eu8, h⟩ := tc_let_ex h
      refine tc_puti (hW.p iv0 2 rfl).1 fl_X6_141 dX6_readChoice_50 ?_
      refine tc_nmu eu8 ?_
      refine tc_goto 64 dX6_readChoice_53 (by decide) ?_
      refine tc_lvs [1] rfl ?_
      exact sb_X6_readChoice_64 hW r ur  v0 u8 iv0 h
  · rw [if_neg hc5] at h
    refine tc_aload_n 1 rfl dX6_readChoice_34 ?_
    obtain ⟨x9, u10, hq11, h⟩ := tc_b_ex h
    refine tc_callVi [] dX6_readChoice_35 iv0.1 (ct_X6_stop hW iv0 hq11) ml_X6_84 mw_X6_stop mv_X6_stop ⟨Nat.le_of_ble_eq_true rfl, Nat.le_of_ble_eq_true rfl⟩ rfl rfl (Nat.le_of_ble_eq_true rfl) ⟨Nat.le_refl _, Nat.le_refl _⟩ (by decide) ?_
    obtain ⟨hz12, h⟩ := tc_zo_ex h
    cases h
    exact tc_zreturn hz12 rfl dX6_readChoice_38 rfl rfl ⟨rfl, rfl, rfl⟩
set_option maxRecDepth 100000 in
set_option maxHeartbeats 4000000 in
theorem sb_X6_readChoice_22 {p : Program} {l : Launch} {e : Env} {s : State} {m : MethodId} {args : Array Value} {below : List Frame} {meth : Method} {c : Code} {z : Nat} {D : tc_D} {G : tc_G} (hW : tc_W G) (r : Int32) (ur : tc_S) (v0 : Nat) (v1 : Int32) (s0 : Nat) (s1 : Nat) (u : tc_S) (iv0 : tc_is G v0 6) (is0 : tc_is G s0 6) (is1 : s1 < 3) (h : bl_X6_readChoice_22 G v0 v1 s0 s1 u = some (r, ur)) : tc_R p l e { frames := 5, cells := 0, slots := 0, locals := 110 } s m args below meth c z D cX6_readChoice RX6 3 (some .boolean) 0 0 (tc_po r G ur) 0 0 G u 22 [(0, .ref (z + v0)), (1, .int v1)] [.ref (D.2 (200 + s1)), .ref (z + s0)] := by
  unfold bl_X6_readChoice_22 at h
  obtain ⟨x13, u14, hq15, h⟩ := tc_b_ex h
  refine tc_callVi [.ref (D.2 (200 + s1))] dX6_readChoice_22 is0.1 (ct_X6_wordOf hW is0 is1 hq15) ml_X6_80 mw_X6_wordOf mv_X6_wordOf ⟨Nat.le_of_ble_eq_true rfl, Nat.le_of_ble_eq_true rfl⟩ rfl rfl (Nat.le_of_ble_eq_true rfl) ⟨Nat.le_refl _, Nat.le_refl _⟩ (by decide) ?_
  refine tc_goto 29 dX6_readChoice_25 (by decide) ?_
  exact sb_X6_readChoice_29 hW r ur  v0 v1 x13 u14 iv0 h
set_option maxRecDepth 100000 in
set_option maxHeartbeats 4000000 in
theorem ct_X6_readChoice {l : Launch} {z : Nat} {D : tc_D} {G : tc_G} (hW : tc_W G) {v0 : Nat} {v1 : Int32} {u : tc_S} {r : Int32} {ur : tc_S} (iv0 : tc_is G v0 6) (h : fn_X6_readChoice G v0 v1 u = some (r, ur)) : tc_C l z D yX6_readChoice cX6_readChoice 3 (some .boolean) 5 110 0 0 [.ref (z + v0), .int v1] G u (tc_po r G ur) := by
  unfold fn_X6_readChoice at h
  refine tc_C.of (by decide) (Nat.le_of_ble_eq_true rfl) fun p e s m args below meth c => ?_
  show tc_R p l e { frames := 5, cells := 0, slots := 0, locals := 110 } s m args below meth c z D cX6_readChoice RX6 3 (some .boolean) 0 0 (tc_po r G ur) 0 0 G u 0 [(0, .ref (z + v0)), (1, .int v1)] []
  refine tc_aload_n 0 rfl dX6_readChoice_0 ?_
  refine tc_geti iv0.1 fl_X6_60 dX6_readChoice_1 ?_
  refine tc_iconst (v := 1) (by decide) dX6_readChoice_4 ?_
  refine tc_icmp_ne 28 dX6_readChoice_5 (by decide) (fun hc16 => ?_) (fun hc16 => ?_)
  · rw [if_neg hc16] at h
    refine tc_iconst (v := (-1)) (by decide) dX6_readChoice_28 ?_
    exact sb_X6_readChoice_29 hW r ur  v0 v1 (-1) u iv0 h
  · rw [if_pos hc16] at h
    refine tc_aload_n 0 rfl dX6_readChoice_8 ?_
    refine tc_iload_n 1 rfl dX6_readChoice_9 ?_
    refine tc_bipush (v := 6) (by decide) dX6_readChoice_10 ?_
    refine tc_icmp_ne 20 dX6_readChoice_12 (by decide) (fun hc17 => ?_) (fun hc17 => ?_)
    · rw [if_neg hc17] at h
      refine tc_ldcS (w := 2) (by decide) rfl rfl dX6_readChoice_20 ?_
      exact sb_X6_readChoice_22 hW r ur  v0 v1 v0 2 u iv0 iv0 (by decide : 2 < 3) h
    · rw [if_pos hc17] at h
      refine tc_ldcS (w := 1) (by decide) rfl rfl dX6_readChoice_15 ?_
      refine tc_goto 22 dX6_readChoice_17 (by decide) ?_
      exact sb_X6_readChoice_22 hW r ur  v0 v1 v0 1 u iv0 iv0 (by decide : 1 < 3) h
set_option maxRecDepth 100000 in
set_option maxHeartbeats 4000000 in
theorem sb_X6_readHash_92 {p : Program} {l : Launch} {e : Env} {s : State} {m : MethodId} {args : Array Value} {below : List Frame} {meth : Method} {c : Code} {z : Nat} {D : tc_D} {G : tc_G} (hW : tc_W G) (r : Int32) (ur : tc_S) (u : tc_S) (h : bl_X6_readHash_92 G  u = some (r, ur)) : tc_R p l e { frames := 4, cells := 0, slots := 0, locals := 83 } s m args below meth c z D cX6_readHash RX6 3 (some .boolean) 0 0 (tc_po r G ur) 0 0 G u 92 [] [] := by
  unfold bl_X6_readHash_92 at h
  refine tc_iconst (v := 1) (by decide) dX6_readHash_92 ?_
  obtain ⟨hz1, h⟩ := tc_zo_ex h
  cases h
  exact tc_zreturn hz1 rfl dX6_readHash_93 rfl rfl ⟨rfl, rfl, rfl⟩
set_option maxRecDepth 100000 in
set_option maxHeartbeats 4000000 in
theorem ct_X6_readHash {l : Launch} {z : Nat} {D : tc_D} {G : tc_G} (hW : tc_W G) {v0 : Nat} {v1 : Int32} {u : tc_S} {r : Int32} {ur : tc_S} (iv0 : tc_is G v0 6) (h : fn_X6_readHash G v0 v1 u = some (r, ur)) : tc_C l z D yX6_readHash cX6_readHash 3 (some .boolean) 4 83 0 0 [.ref (z + v0), .int v1] G u (tc_po r G ur) := by
  unfold fn_X6_readHash at h
  refine tc_C.of (by decide) (Nat.le_of_ble_eq_true rfl) fun p e s m args below meth c => ?_
  show tc_R p l e { frames := 4, cells := 0, slots := 0, locals := 83 } s m args below meth c z D cX6_readHash RX6 3 (some .boolean) 0 0 (tc_po r G ur) 0 0 G u 0 [(0, .ref (z + v0)), (1, .int v1)] []
  refine tc_aload_n 0 rfl dX6_readHash_0 ?_
  refine tc_iconst (v := 1) (by decide) dX6_readHash_1 ?_
  refine tc_sipush (v := 1008) (by decide) dX6_readHash_2 ?_
  obtain ⟨x2, u3, hq4, h⟩ := tc_b_ex h
  refine tc_callVi [.int 1, .int 1008] dX6_readHash_5 iv0.1 (ct_X6_readNumber hW iv0 hq4) ml_X6_106 mw_X6_readNumber mv_X6_readNumber ⟨Nat.le_of_ble_eq_true rfl, Nat.le_of_ble_eq_true rfl⟩ rfl rfl (Nat.le_of_ble_eq_true rfl) ⟨Nat.le_refl _, Nat.le_refl _⟩ (by decide) ?_
  refine tc_if_ne 13 dX6_readHash_8 (by decide) (fun hc5 => ?_) (fun hc5 => ?_)
  · rw [if_neg hc5] at h
    refine tc_aload_n 0 rfl dX6_readHash_13 ?_
    refine tc_geti iv0.1 fl_X6_110 dX6_readHash_14 ?_
    obtain ⟨x6, ex6, h⟩ := tc_let_ex h
    refine tc_nm ex6 ?_
    refine tc_istore_n [(2, .int x6), (0, .ref (z + v0)), (1, .int v1)] dX6_readHash_17 (by decide) rfl ?_
    refine tc_aload_n 1 rfl dX6_readHash_18 ?_
    refine tc_iconst (v := 0) (by decide) dX6_readHash_19 ?_
    refine tc_sipush (v := 1008) (by decide) dX6_readHash_20 ?_
    obtain ⟨x7, u8, hq9, h⟩ := tc_b_ex h
    refine tc_callVi [.int 0, .int 1008] dX6_readHash_23 iv0.1 (ct_X6_readNumber hW iv0 hq9) ml_X6_106 mw_X6_readNumber mv_X6_readNumber ⟨Nat.le_of_ble_eq_true rfl, Nat.le_of_ble_eq_true rfl⟩ rfl rfl (Nat.le_of_ble_eq_true rfl) ⟨Nat.le_refl _, Nat.le_refl _⟩ (by decide) ?_
    refine tc_if_ne 31 dX6_readHash_26 (by decide) (fun hc10 => ?_) (fun hc10 => ?_)
    · rw [if_neg hc10] at h
      refine tc_iload_n 2 rfl dX6_readHash_31 ?_
      refine tc_bipush (v := 8) (by decide) dX6_readHash_32 ?_
      refine tc_icmp_ne 66 dX6_readHash_34 (by decide) (fun hc11 => ?_) (fun hc11 => ?_)
      · rw [if_neg hc11] at h
        refine tc_aload_n 1 rfl dX6_readHash_66 ?_
        refine tc_getp hW iv0 fl_X6_12 dX6_readHash_67 rfl ?_
        refine tc_aload_n 1 rfl dX6_readHash_70 ?_
        refine tc_getp hW iv0 fl_X6_12 dX6_readHash_71 rfl ?_
        refine tc_geti (hW.p iv0 2 rfl).1 fl_X6_157 dX6_readHash_74 ?_
        refine tc_aload_n 1 rfl dX6_readHash_77 ?_
        refine tc_getp hW iv0 fl_X6_12 dX6_readHash_78 rfl ?_
        refine tc_geti (hW.p iv0 2 rfl).1 fl_X6_160 dX6_readHash_81 ?_
        refine tc_iload_n 0 rfl dX6_readHash_84 ?_
        refine tc_aload_n 1 rfl dX6_readHash_85 ?_
        refine tc_geti iv0.1 fl_X6_110 dX6_readHash_86 ?_
        obtain ⟨x12, u13, hq14, h⟩ := tc_b_ex h
        refine tc_callVv [.int (u8.1 (tc_p G v0 2) 7), .int (u8.1 (tc_p G v0 2) 8), .int x6, .int (u8.1 v0 13)] dX6_readHash_89 (hW.p iv0 2 rfl).1 (ct_X8_takeHashes hW (hW.p iv0 2 rfl) hq14) ml_X6_153 mw_X8_takeHashes mv_X8_takeHashes ⟨Nat.le_of_ble_eq_true rfl, Nat.le_of_ble_eq_true rfl⟩ rfl rfl (Nat.le_of_ble_eq_true rfl) ⟨Nat.le_refl _, Nat.le_refl _⟩ (by decide) ?_
        refine tc_lvs [] rfl ?_
        exact sb_X6_readHash_92 hW r ur   u13  h
      · rw [if_pos hc11] at h
        refine tc_aload_n 1 rfl dX6_readHash_37 ?_
        refine tc_getp hW iv0 fl_X6_12 dX6_readHash_38 rfl ?_
        refine tc_iload_n 0 rfl dX6_readHash_41 ?_
        refine tc_aload_n 1 rfl dX6_readHash_42 ?_
        refine tc_geti iv0.1 fl_X6_110 dX6_readHash_43 ?_
        refine tc_aload_n 1 rfl dX6_readHash_46 ?_
        refine tc_getp hW iv0 fl_X6_12 dX6_readHash_47 rfl ?_
        refine tc_geti (hW.p iv0 2 rfl).1 fl_X6_147 dX6_readHash_50 ?_
        refine tc_aload_n 1 rfl dX6_readHash_53 ?_
        refine tc_getp hW iv0 fl_X6_12 dX6_readHash_54 rfl ?_
        refine tc_geti (hW.p iv0 2 rfl).1 fl_X6_150 dX6_readHash_57 ?_
        obtain ⟨x15, u16, hq17, h⟩ := tc_b_ex h
        refine tc_callVv [.int x6, .int (u8.1 v0 13), .int (u8.1 (tc_p G v0 2) 9), .int (u8.1 (tc_p G v0 2) 10)] dX6_readHash_60 (hW.p iv0 2 rfl).1 (ct_X8_takeHashes hW (hW.p iv0 2 rfl) hq17) ml_X6_153 mw_X8_takeHashes mv_X8_takeHashes ⟨Nat.le_of_ble_eq_true rfl, Nat.le_of_ble_eq_true rfl⟩ rfl rfl (Nat.le_of_ble_eq_true rfl) ⟨Nat.le_refl _, Nat.le_refl _⟩ (by decide) ?_
        refine tc_goto 92 dX6_readHash_63 (by decide) ?_
        refine tc_lvs [] rfl ?_
        exact sb_X6_readHash_92 hW r ur   u16  h
    · rw [if_pos hc10] at h
      refine tc_iconst (v := 0) (by decide) dX6_readHash_29 ?_
      obtain ⟨hz18, h⟩ := tc_zo_ex h
      cases h
      exact tc_zreturn hz18 rfl dX6_readHash_30 rfl rfl ⟨rfl, rfl, rfl⟩
  · rw [if_pos hc5] at h
    refine tc_iconst (v := 0) (by decide) dX6_readHash_11 ?_
    obtain ⟨hz19, h⟩ := tc_zo_ex h
    cases h
    exact tc_zreturn hz19 rfl dX6_readHash_12 rfl rfl ⟨rfl, rfl, rfl⟩
set_option maxRecDepth 100000 in
set_option maxHeartbeats 4000000 in
theorem sb_X6_readHas_123 {p : Program} {l : Launch} {e : Env} {s : State} {m : MethodId} {args : Array Value} {below : List Frame} {meth : Method} {c : Code} {z : Nat} {D : tc_D} {G : tc_G} (hW : tc_W G) (r : Int32) (ur : tc_S) (u : tc_S) (h : bl_X6_readHas_123 G  u = some (r, ur)) : tc_R p l e { frames := 4, cells := 0, slots := 0, locals := 83 } s m args below meth c z D cX6_readHas RX6 4 (some .boolean) 0 0 (tc_po r G ur) 0 0 G u 123 [] [] := by
  unfold bl_X6_readHas_123 at h
  refine tc_iconst (v := 1) (by decide) dX6_readHas_123 ?_
  obtain ⟨hz1, h⟩ := tc_zo_ex h
  cases h
  exact tc_zreturn hz1 rfl dX6_readHas_124 rfl rfl ⟨rfl, rfl, rfl⟩
set_option maxRecDepth 100000 in
set_option maxHeartbeats 4000000 in
theorem sb_X6_readHas_49 {p : Program} {l : Launch} {e : Env} {s : State} {m : MethodId} {args : Array Value} {below : List Frame} {meth : Method} {c : Code} {z : Nat} {D : tc_D} {G : tc_G} (hW : tc_W G) (r : Int32) (ur : tc_S) (K25 : Nat → Int32 → Int32 → Int32 → tc_S → Option (Int32 × tc_S)) (hK25 : ∀ (v0 : Nat) (v1 : Int32) (v2 : Int32) (v3 : Int32) (u : tc_S), tc_is G v0 6 → K25 v0 v1 v2 v3 u = some (r, ur) → tc_R p l e { frames := 4, cells := 0, slots := 0, locals := 83 } s m args below meth c z D cX6_readHas RX6 4 (some .boolean) 0 0 (tc_po r G ur) 0 0 G u 25 [(0, .ref (z + v0)), (1, .int v1), (2, .int v2), (3, .int v3)] []) (v0 : Nat) (v1 : Int32) (v2 : Int32) (v3 : Int32) (u : tc_S) (iv0 : tc_is G v0 6) (h : bl_X6_readHas_49 G K25 v0 v1 v2 v3 u = some (r, ur)) : tc_R p l e { frames := 4, cells := 0, slots := 0, locals := 83 } s m args below meth c z D cX6_readHas RX6 4 (some .boolean) 0 0 (tc_po r G ur) 0 0 G u 49 [(0, .ref (z + v0)), (1, .int v1), (2, .int v2), (3, .int v3)] [] := by
  unfold bl_X6_readHas_49 at h
  obtain ⟨x2, ex2, h⟩ := tc_let_ex h
  refine tc_iinc 3 (v := x2) [(3, .int x2), (0, .ref (z + v0)), (1, .int v1), (2, .int v2)] dX6_readHas_49 rfl (by rw [ex2]; rfl) (by decide) rfl ?_
  refine tc_goto 25 dX6_readHas_52 (by decide) ?_
  refine tc_lvs [1, 2, 3, 0] rfl ?_
  exact hK25 v0 v1 v2 x2 u iv0 h
set_option maxRecDepth 100000 in
set_option maxHeartbeats 4000000 in
theorem sl_X6_readHas_25 {p : Program} {l : Launch} {e : Env} {s : State} {m : MethodId} {args : Array Value} {below : List Frame} {meth : Method} {c : Code} {z : Nat} {D : tc_D} {G : tc_G} (hW : tc_W G) (r : Int32) (ur : tc_S) : ∀ (n : Nat) (v0 : Nat) (v1 : Int32) (v2 : Int32) (v3 : Int32) (u : tc_S) (iv0 : tc_is G v0 6) (h : lo_X6_readHas_25 G n v0 v1 v2 v3 u = some (r, ur)), tc_R p l e { frames := 4, cells := 0, slots := 0, locals := 83 } s m args below meth c z D cX6_readHas RX6 4 (some .boolean) 0 0 (tc_po r G ur) 0 0 G u 25 [(0, .ref (z + v0)), (1, .int v1), (2, .int v2), (3, .int v3)] [] := by
  intro n
  induction n with
  | zero => intro v0 v1 v2 v3 u iv0 h; cases h
  | succ n ih =>
    intro v0 v1 v2 v3 u iv0 h
    rw [lo_X6_readHas_25] at h
    refine tc_iload_n 3 rfl dX6_readHas_25 ?_
    refine tc_aload_n 0 rfl dX6_readHas_26 ?_
    refine tc_geti iv0.1 fl_X6_48 dX6_readHas_27 ?_
    refine tc_icmp_ge 55 dX6_readHas_30 (by decide) (fun hc3 => ?_) (fun hc3 => ?_)
    · rw [if_pos hc3] at h
      refine tc_aload_n 0 rfl dX6_readHas_55 ?_
      refine tc_iconst (v := 0) (by decide) dX6_readHas_56 ?_
      refine tc_sipush (v := 999) (by decide) dX6_readHas_57 ?_
      obtain ⟨x4, u5, hq6, h⟩ := tc_b_ex h
      refine tc_callVi [.int 0, .int 999] dX6_readHas_60 iv0.1 (ct_X6_readNumber hW iv0 hq6) ml_X6_106 mw_X6_readNumber mv_X6_readNumber ⟨Nat.le_of_ble_eq_true rfl, Nat.le_of_ble_eq_true rfl⟩ rfl rfl (Nat.le_of_ble_eq_true rfl) ⟨Nat.le_refl _, Nat.le_refl _⟩ (by decide) ?_
      refine tc_if_ne 68 dX6_readHas_63 (by decide) (fun hc7 => ?_) (fun hc7 => ?_)
      · rw [if_neg hc7] at h
        refine tc_aload_n 0 rfl dX6_readHas_68 ?_
        refine tc_geti iv0.1 fl_X6_48 dX6_readHas_69 ?_
        refine tc_aload_n 0 rfl dX6_readHas_72 ?_
        refine tc_getp hW iv0 fl_X6_18 dX6_readHas_73 rfl ?_
        refine tc_alen' (hW.p iv0 3 rfl).1 (by decide) (by decide) dX6_readHas_76 ?_
        refine tc_icmp_ge 123 dX6_readHas_77 (by decide) (fun hc8 => ?_) (fun hc8 => ?_)
        · rw [if_pos hc8] at h
          refine tc_lvs [] rfl ?_
          exact sb_X6_readHas_123 hW r ur   u5  h
        · rw [if_neg hc8] at h
          refine tc_aload_n 0 rfl dX6_readHas_80 ?_
          refine tc_getp hW iv0 fl_X6_18 dX6_readHas_81 rfl ?_
          refine tc_aload_n 0 rfl dX6_readHas_84 ?_
          refine tc_geti iv0.1 fl_X6_48 dX6_readHas_85 ?_
          refine tc_iload_n 2 rfl dX6_readHas_88 ?_
          obtain ⟨bu9, u9, eu9, h⟩ := tc_sd_ex h
          refine tc_iast (hW.p iv0 3 rfl).1 bu9 dX6_readHas_89 ?_
          refine tc_nmu eu9 ?_
          refine tc_aload_n 0 rfl dX6_readHas_90 ?_
          refine tc_getp hW iv0 fl_X6_22 dX6_readHas_91 rfl ?_
          refine tc_aload_n 0 rfl dX6_readHas_94 ?_
          refine tc_geti iv0.1 fl_X6_48 dX6_readHas_95 ?_
          refine tc_aload_n 0 rfl dX6_readHas_98 ?_
          refine tc_geti iv0.1 fl_X6_110 dX6_readHas_99 ?_
          obtain ⟨bu10, u10, eu10, h⟩ := tc_sd_ex h
          refine tc_iast (hW.p iv0 4 rfl).1 bu10 dX6_readHas_102 ?_
          refine tc_nmu eu10 ?_
          refine tc_aload_n 0 rfl dX6_readHas_103 ?_
          refine tc_getp hW iv0 fl_X6_25 dX6_readHas_104 rfl ?_
          refine tc_aload_n 0 rfl dX6_readHas_107 ?_
          refine tc_geti iv0.1 fl_X6_48 dX6_readHas_108 ?_
          refine tc_iload_n 1 rfl dX6_readHas_111 ?_
          obtain ⟨bu11, u11, eu11, h⟩ := tc_sd_ex h
          refine tc_iast (hW.p iv0 5 rfl).1 bu11 dX6_readHas_112 ?_
          refine tc_nmu eu11 ?_
          refine tc_aload_n 0 rfl dX6_readHas_113 ?_
          refine tc_dup rfl dX6_readHas_114 ?_
          refine tc_geti iv0.1 fl_X6_48 dX6_readHas_115 ?_
          refine tc_iconst (v := 1) (by decide) dX6_readHas_118 ?_
          refine tc_iadd dX6_readHas_119 ?_
          obtain ⟨u12, eu12, h⟩ := tc_let_ex h
          refine tc_puti iv0.1 fl_X6_48 dX6_readHas_120 ?_
          refine tc_nmu eu12 ?_
          refine tc_lvs [] rfl ?_
          exact sb_X6_readHas_123 hW r ur   u12  h
      · rw [if_pos hc7] at h
        refine tc_iconst (v := 0) (by decide) dX6_readHas_66 ?_
        obtain ⟨hz13, h⟩ := tc_zo_ex h
        cases h
        exact tc_zreturn hz13 rfl dX6_readHas_67 rfl rfl ⟨rfl, rfl, rfl⟩
    · rw [if_neg hc3] at h
      refine tc_aload_n 0 rfl dX6_readHas_33 ?_
      refine tc_getp hW iv0 fl_X6_18 dX6_readHas_34 rfl ?_
      refine tc_iload_n 3 rfl dX6_readHas_37 ?_
      obtain ⟨bx14, x14, ex14, h⟩ := tc_ld_ex h
      refine tc_iald (hW.p iv0 3 rfl).1 bx14 dX6_readHas_38 ?_
      refine tc_nm ex14 ?_
      refine tc_iload_n 2 rfl dX6_readHas_39 ?_
      refine tc_icmp_ne 49 dX6_readHas_40 (by decide) (fun hc15 => ?_) (fun hc15 => ?_)
      · rw [if_neg hc15] at h
        exact sb_X6_readHas_49 hW r ur _ ih v0 v1 v2 v3 u iv0 h
      · rw [if_pos hc15] at h
        refine tc_aload_n 0 rfl dX6_readHas_43 ?_
        refine tc_iconst (v := 3) (by decide) dX6_readHas_44 ?_
        refine tc_iload_n 1 rfl dX6_readHas_45 ?_
        obtain ⟨x16, u17, hq18, h⟩ := tc_b_ex h
        refine tc_callVv [.int 3, .int v1] dX6_readHas_46 iv0.1 (ct_X6_note hW iv0 hq18) ml_X6_166 mw_X6_note mv_X6_note ⟨Nat.le_of_ble_eq_true rfl, Nat.le_of_ble_eq_true rfl⟩ rfl rfl (Nat.le_of_ble_eq_true rfl) ⟨Nat.le_refl _, Nat.le_refl _⟩ (by decide) ?_
        exact sb_X6_readHas_49 hW r ur _ ih v0 v1 v2 v3 u17 iv0 h
set_option maxRecDepth 100000 in
set_option maxHeartbeats 4000000 in
theorem ct_X6_readHas {l : Launch} {z : Nat} {D : tc_D} {G : tc_G} (hW : tc_W G) {v0 : Nat} {u : tc_S} {r : Int32} {ur : tc_S} (iv0 : tc_is G v0 6) (h : fn_X6_readHas G v0 u = some (r, ur)) : tc_C l z D yX6_readHas cX6_readHas 4 (some .boolean) 4 83 0 0 [.ref (z + v0)] G u (tc_po r G ur) := by
  unfold fn_X6_readHas at h
  refine tc_C.of (by decide) (Nat.le_of_ble_eq_true rfl) fun p e s m args below meth c => ?_
  show tc_R p l e { frames := 4, cells := 0, slots := 0, locals := 83 } s m args below meth c z D cX6_readHas RX6 4 (some .boolean) 0 0 (tc_po r G ur) 0 0 G u 0 [(0, .ref (z + v0))] []
  refine tc_aload_n 0 rfl dX6_readHas_0 ?_
  refine tc_geti iv0.1 fl_X6_163 dX6_readHas_1 ?_
  obtain ⟨x19, ex19, h⟩ := tc_let_ex h
  refine tc_nm ex19 ?_
  refine tc_istore_n [(1, .int x19), (0, .ref (z + v0))] dX6_readHas_4 (by decide) rfl ?_
  refine tc_aload_n 1 rfl dX6_readHas_5 ?_
  refine tc_iconst (v := 0) (by decide) dX6_readHas_6 ?_
  refine tc_sipush (v := 999) (by decide) dX6_readHas_7 ?_
  obtain ⟨x20, u21, hq22, h⟩ := tc_b_ex h
  refine tc_callVi [.int 0, .int 999] dX6_readHas_10 iv0.1 (ct_X6_readNumber hW iv0 hq22) ml_X6_106 mw_X6_readNumber mv_X6_readNumber ⟨Nat.le_of_ble_eq_true rfl, Nat.le_of_ble_eq_true rfl⟩ rfl rfl (Nat.le_of_ble_eq_true rfl) ⟨Nat.le_refl _, Nat.le_refl _⟩ (by decide) ?_
  refine tc_if_ne 18 dX6_readHas_13 (by decide) (fun hc23 => ?_) (fun hc23 => ?_)
  · rw [if_neg hc23] at h
    refine tc_aload_n 1 rfl dX6_readHas_18 ?_
    refine tc_geti iv0.1 fl_X6_110 dX6_readHas_19 ?_
    obtain ⟨x24, ex24, h⟩ := tc_let_ex h
    refine tc_nm ex24 ?_
    refine tc_istore_n [(2, .int x24), (1, .int x19), (0, .ref (z + v0))] dX6_readHas_22 (by decide) rfl ?_
    refine tc_iconst (v := 0) (by decide) dX6_readHas_23 ?_
    refine tc_istore_n [(3, .int 0), (2, .int x24), (1, .int x19), (0, .ref (z + v0))] dX6_readHas_24 (by decide) rfl ?_
    refine tc_lvs [3, 2, 1, 0] rfl ?_
    exact sl_X6_readHas_25 hW r ur  _ v0 x19 x24 0 u21 iv0 h
  · rw [if_pos hc23] at h
    refine tc_iconst (v := 0) (by decide) dX6_readHas_16 ?_
    obtain ⟨hz25, h⟩ := tc_zo_ex h
    cases h
    exact tc_zreturn hz25 rfl dX6_readHas_17 rfl rfl ⟨rfl, rfl, rfl⟩
set_option maxRecDepth 100000 in
set_option maxHeartbeats 4000000 in
theorem sb_X6_readLine_109 {p : Program} {l : Launch} {e : Env} {s : State} {m : MethodId} {args : Array Value} {below : List Frame} {meth : Method} {c : Code} {z : Nat} {D : tc_D} {G : tc_G} (hW : tc_W G) (r : Int32) (ur : tc_S) (s0 : Int32) (u : tc_S) (h : bl_X6_readLine_109 G s0 u = some (r, ur)) : tc_R p l e { frames := 6, cells := 0, slots := 0, locals := 132 } s m args below meth c z D cX6_readLine RX6 3 (some .boolean) 0 0 (tc_po r G ur) 0 0 G u 109 [] [.int s0] := by
  unfold bl_X6_readLine_109 at h
  obtain ⟨hz1, h⟩ := tc_zo_ex h
  cases h
  exact tc_zreturn hz1 rfl dX6_readLine_109 rfl rfl ⟨rfl, rfl, rfl⟩
set_option maxRecDepth 100000 in
set_option maxHeartbeats 4000000 in
theorem sb_X6_readLine_108 {p : Program} {l : Launch} {e : Env} {s : State} {m : MethodId} {args : Array Value} {below : List Frame} {meth : Method} {c : Code} {z : Nat} {D : tc_D} {G : tc_G} (hW : tc_W G) (r : Int32) (ur : tc_S) (u : tc_S) (h : bl_X6_readLine_108 G  u = some (r, ur)) : tc_R p l e { frames := 6, cells := 0, slots := 0, locals := 132 } s m args below meth c z D cX6_readLine RX6 3 (some .boolean) 0 0 (tc_po r G ur) 0 0 G u 108 [] [] := by
  unfold bl_X6_readLine_108 at h
  refine tc_iconst (v := 0) (by decide) dX6_readLine_108 ?_
  exact sb_X6_readLine_109 hW r ur  0 u  h
set_option maxRecDepth 100000 in
set_option maxHeartbeats 4000000 in
theorem sb_X6_readLine_93 {p : Program} {l : Launch} {e : Env} {s : State} {m : MethodId} {args : Array Value} {below : List Frame} {meth : Method} {c : Code} {z : Nat} {D : tc_D} {G : tc_G} (hW : tc_W G) (r : Int32) (ur : tc_S) (v0 : Nat) (v2 : Int32) (u : tc_S) (iv0 : tc_is G v0 6) (h : bl_X6_readLine_93 G v0 v2 u = some (r, ur)) : tc_R p l e { frames := 6, cells := 0, slots := 0, locals := 132 } s m args below meth c z D cX6_readLine RX6 3 (some .boolean) 0 0 (tc_po r G ur) 0 0 G u 93 [(0, .ref (z + v0)), (2, .int v2)] [] := by
  unfold bl_X6_readLine_93 at h
  refine tc_iload_n 1 rfl dX6_readLine_93 ?_
  refine tc_if_eq 108 dX6_readLine_94 (by decide) (fun hc2 => ?_) (fun hc2 => ?_)
  · rw [if_pos hc2] at h
    refine tc_lvs [] rfl ?_
    exact sb_X6_readLine_108 hW r ur   u  h
  · rw [if_neg hc2] at h
    refine tc_aload_n 0 rfl dX6_readLine_97 ?_
    obtain ⟨x3, u4, hq5, h⟩ := tc_b_ex h
    refine tc_callVi [] dX6_readLine_98 iv0.1 (ct_X6_stop hW iv0 hq5) ml_X6_84 mw_X6_stop mv_X6_stop ⟨Nat.le_of_ble_eq_true rfl, Nat.le_of_ble_eq_true rfl⟩ rfl rfl (Nat.le_of_ble_eq_true rfl) ⟨Nat.le_refl _, Nat.le_refl _⟩ (by decide) ?_
    refine tc_if_eq 108 dX6_readLine_101 (by decide) (fun hc6 => ?_) (fun hc6 => ?_)
    · rw [if_pos hc6] at h
      refine tc_lvs [] rfl ?_
      exact sb_X6_readLine_108 hW r ur   u4  h
    · rw [if_neg hc6] at h
      refine tc_iconst (v := 1) (by decide) dX6_readLine_104 ?_
      refine tc_goto 109 dX6_readLine_105 (by decide) ?_
      refine tc_lvs [] rfl ?_
      exact sb_X6_readLine_109 hW r ur  1 u4  h
set_option maxRecDepth 100000 in
set_option maxHeartbeats 4000000 in
theorem sb_X6_readLine_81 {p : Program} {l : Launch} {e : Env} {s : State} {m : MethodId} {args : Array Value} {below : List Frame} {meth : Method} {c : Code} {z : Nat} {D : tc_D} {G : tc_G} (hW : tc_W G) (r : Int32) (ur : tc_S) (v0 : Nat) (v2 : Int32) (u : tc_S) (iv0 : tc_is G v0 6) (h : bl_X6_readLine_81 G v0 v2 u = some (r, ur)) : tc_R p l e { frames := 6, cells := 0, slots := 0, locals := 132 } s m args below meth c z D cX6_readLine RX6 3 (some .boolean) 0 0 (tc_po r G ur) 0 0 G u 81 [(0, .ref (z + v0)), (2, .int v2)] [] := by
  unfold bl_X6_readLine_81 at h
  refine tc_iload_n 1 rfl dX6_readLine_81 ?_
  refine tc_if_eq 93 dX6_readLine_82 (by decide) (fun hc7 => ?_) (fun hc7 => ?_)
  · rw [if_pos hc7] at h
    exact sb_X6_readLine_93 hW r ur  v0 v2 u iv0 h
  · rw [if_neg hc7] at h
    refine tc_aload_n 0 rfl dX6_readLine_85 ?_
    refine tc_geti iv0.1 fl_X6_60 dX6_readLine_86 ?_
    refine tc_iconst (v := 3) (by decide) dX6_readLine_89 ?_
    refine tc_icmp_eq 110 dX6_readLine_90 (by decide) (fun hc8 => ?_) (fun hc8 => ?_)
    · rw [if_pos hc8] at h
      refine tc_aload_n 0 rfl dX6_readLine_110 ?_
      obtain ⟨x9, u10, hq11, h⟩ := tc_b_ex h
      refine tc_callVv [] dX6_readLine_111 iv0.1 (ct_X6_step hW iv0 hq11) ml_X6_57 mw_X6_step mv_X6_step ⟨Nat.le_of_ble_eq_true rfl, Nat.le_of_ble_eq_true rfl⟩ rfl rfl (Nat.le_of_ble_eq_true rfl) ⟨Nat.le_refl _, Nat.le_refl _⟩ (by decide) ?_
      refine tc_iconst (v := 1) (by decide) dX6_readLine_114 ?_
      obtain ⟨hz12, h⟩ := tc_zo_ex h
      cases h
      exact tc_zreturn hz12 rfl dX6_readLine_115 rfl rfl ⟨rfl, rfl, rfl⟩
    · rw [if_neg hc8] at h
      exact sb_X6_readLine_93 hW r ur  v0 v2 u iv0 h
set_option maxRecDepth 100000 in
set_option maxHeartbeats 4000000 in
theorem sb_X6_readLine_18 {p : Program} {l : Launch} {e : Env} {s : State} {m : MethodId} {args : Array Value} {below : List Frame} {meth : Method} {c : Code} {z : Nat} {D : tc_D} {G : tc_G} (hW : tc_W G) (r : Int32) (ur : tc_S) (v0 : Nat) (s0 : Int32) (u : tc_S) (iv0 : tc_is G v0 6) (h : bl_X6_readLine_18 G v0 s0 u = some (r, ur)) : tc_R p l e { frames := 6, cells := 0, slots := 0, locals := 132 } s m args below meth c z D cX6_readLine RX6 3 (some .boolean) 0 0 (tc_po r G ur) 0 0 G u 18 [(0, .ref (z + v0))] [.int s0] := by
  unfold bl_X6_readLine_18 at h
  refine tc_istore_n [(1, .int s0), (0, .ref (z + v0))] dX6_readLine_18 (by decide) rfl ?_
  refine tc_iload_n 0 rfl dX6_readLine_19 ?_
  refine tc_if_ge 28 dX6_readLine_20 (by decide) (fun hc13 => ?_) (fun hc13 => ?_)
  · rw [if_pos hc13] at h
    refine tc_aload_n 1 rfl dX6_readLine_28 ?_
    obtain ⟨x14, u15, hq16, h⟩ := tc_b_ex h
    refine tc_callVv [] dX6_readLine_29 iv0.1 (ct_X6_step hW iv0 hq16) ml_X6_57 mw_X6_step mv_X6_step ⟨Nat.le_of_ble_eq_true rfl, Nat.le_of_ble_eq_true rfl⟩ rfl rfl (Nat.le_of_ble_eq_true rfl) ⟨Nat.le_refl _, Nat.le_refl _⟩ (by decide) ?_
    refine tc_iload_n 0 rfl dX6_readLine_32 ?_
    refine tc_iconst (v := 5) (by decide) dX6_readLine_33 ?_
    refine tc_icmp_gt 46 dX6_readLine_34 (by decide) (fun hc17 => ?_) (fun hc17 => ?_)
    · rw [if_pos hc17] at h
      refine tc_iload_n 0 rfl dX6_readLine_46 ?_
      refine tc_bipush (v := 7) (by decide) dX6_readLine_47 ?_
      refine tc_icmp_gt 61 dX6_readLine_49 (by decide) (fun hc18 => ?_) (fun hc18 => ?_)
      · rw [if_pos hc18] at h
        refine tc_iload_n 0 rfl dX6_readLine_61 ?_
        refine tc_bipush (v := 9) (by decide) dX6_readLine_62 ?_
        refine tc_icmp_gt 76 dX6_readLine_64 (by decide) (fun hc19 => ?_) (fun hc19 => ?_)
        · rw [if_pos hc19] at h
          refine tc_aload_n 1 rfl dX6_readLine_76 ?_
          obtain ⟨x20, u21, hq22, h⟩ := tc_b_ex h
          refine tc_callVi [] dX6_readLine_77 iv0.1 (ct_X6_readHas hW iv0 hq22) ml_X6_97 mw_X6_readHas mv_X6_readHas ⟨Nat.le_of_ble_eq_true rfl, Nat.le_of_ble_eq_true rfl⟩ rfl rfl (Nat.le_of_ble_eq_true rfl) ⟨Nat.le_refl _, Nat.le_refl _⟩ (by decide) ?_
          refine tc_istore_n [(2, .int x20), (1, .int s0), (0, .ref (z + v0))] dX6_readLine_80 (by decide) rfl ?_
          refine tc_lvs [2, 0] rfl ?_
          exact sb_X6_readLine_81 hW r ur  v0 x20 u21 iv0 h
        · rw [if_neg hc19] at h
          refine tc_aload_n 1 rfl dX6_readLine_67 ?_
          refine tc_iload_n 0 rfl dX6_readLine_68 ?_
          obtain ⟨x23, u24, hq25, h⟩ := tc_b_ex h
          refine tc_callVi [.int s0] dX6_readLine_69 iv0.1 (ct_X6_readHash hW iv0 hq25) ml_X6_94 mw_X6_readHash mv_X6_readHash ⟨Nat.le_of_ble_eq_true rfl, Nat.le_of_ble_eq_true rfl⟩ rfl rfl (Nat.le_of_ble_eq_true rfl) ⟨Nat.le_refl _, Nat.le_refl _⟩ (by decide) ?_
          refine tc_istore_n [(2, .int x23), (1, .int s0), (0, .ref (z + v0))] dX6_readLine_72 (by decide) rfl ?_
          refine tc_goto 81 dX6_readLine_73 (by decide) ?_
          refine tc_lvs [2, 0] rfl ?_
          exact sb_X6_readLine_81 hW r ur  v0 x23 u24 iv0 h
      · rw [if_neg hc18] at h
        refine tc_aload_n 1 rfl dX6_readLine_52 ?_
        refine tc_iload_n 0 rfl dX6_readLine_53 ?_
        obtain ⟨x26, u27, hq28, h⟩ := tc_b_ex h
        refine tc_callVi [.int s0] dX6_readLine_54 iv0.1 (ct_X6_readChoice hW iv0 hq28) ml_X6_91 mw_X6_readChoice mv_X6_readChoice ⟨Nat.le_of_ble_eq_true rfl, Nat.le_of_ble_eq_true rfl⟩ rfl rfl (Nat.le_of_ble_eq_true rfl) ⟨Nat.le_refl _, Nat.le_refl _⟩ (by decide) ?_
        refine tc_istore_n [(2, .int x26), (1, .int s0), (0, .ref (z + v0))] dX6_readLine_57 (by decide) rfl ?_
        refine tc_goto 81 dX6_readLine_58 (by decide) ?_
        refine tc_lvs [2, 0] rfl ?_
        exact sb_X6_readLine_81 hW r ur  v0 x26 u27 iv0 h
    · rw [if_neg hc17] at h
      refine tc_aload_n 1 rfl dX6_readLine_37 ?_
      refine tc_iload_n 0 rfl dX6_readLine_38 ?_
      obtain ⟨x29, u30, hq31, h⟩ := tc_b_ex h
      refine tc_callVi [.int s0] dX6_readLine_39 iv0.1 (ct_X6_readSetting hW iv0 hq31) ml_X6_87 mw_X6_readSetting mv_X6_readSetting ⟨Nat.le_of_ble_eq_true rfl, Nat.le_of_ble_eq_true rfl⟩ rfl rfl (Nat.le_of_ble_eq_true rfl) ⟨Nat.le_refl _, Nat.le_refl _⟩ (by decide) ?_
      refine tc_istore_n [(2, .int x29), (1, .int s0), (0, .ref (z + v0))] dX6_readLine_42 (by decide) rfl ?_
      refine tc_goto 81 dX6_readLine_43 (by decide) ?_
      refine tc_lvs [2, 0] rfl ?_
      exact sb_X6_readLine_81 hW r ur  v0 x29 u30 iv0 h
  · rw [if_neg hc13] at h
    refine tc_aload_n 1 rfl dX6_readLine_23 ?_
    obtain ⟨x32, u33, hq34, h⟩ := tc_b_ex h
    refine tc_callVi [] dX6_readLine_24 iv0.1 (ct_X6_stop hW iv0 hq34) ml_X6_84 mw_X6_stop mv_X6_stop ⟨Nat.le_of_ble_eq_true rfl, Nat.le_of_ble_eq_true rfl⟩ rfl rfl (Nat.le_of_ble_eq_true rfl) ⟨Nat.le_refl _, Nat.le_refl _⟩ (by decide) ?_
    obtain ⟨hz35, h⟩ := tc_zo_ex h
    cases h
    exact tc_zreturn hz35 rfl dX6_readLine_27 rfl rfl ⟨rfl, rfl, rfl⟩
set_option maxRecDepth 100000 in
set_option maxHeartbeats 4000000 in
theorem ct_X6_readLine {l : Launch} {z : Nat} {D : tc_D} {G : tc_G} (hW : tc_W G) {v0 : Nat} {u : tc_S} {r : Int32} {ur : tc_S} (iv0 : tc_is G v0 6) (h : fn_X6_readLine G v0 u = some (r, ur)) : tc_C l z D yX6_readLine cX6_readLine 3 (some .boolean) 6 132 0 0 [.ref (z + v0)] G u (tc_po r G ur) := by
  unfold fn_X6_readLine at h
  refine tc_C.of (by decide) (Nat.le_of_ble_eq_true rfl) fun p e s m args below meth c => ?_
  show tc_R p l e { frames := 6, cells := 0, slots := 0, locals := 132 } s m args below meth c z D cX6_readLine RX6 3 (some .boolean) 0 0 (tc_po r G ur) 0 0 G u 0 [(0, .ref (z + v0))] []
  refine tc_aload_n 0 rfl dX6_readLine_0 ?_
  refine tc_geti iv0.1 fl_X6_60 dX6_readLine_1 ?_
  refine tc_iconst (v := 1) (by decide) dX6_readLine_4 ?_
  refine tc_icmp_ne 17 dX6_readLine_5 (by decide) (fun hc36 => ?_) (fun hc36 => ?_)
  · rw [if_neg hc36] at h
    refine tc_iconst (v := (-1)) (by decide) dX6_readLine_17 ?_
    exact sb_X6_readLine_18 hW r ur  v0 (-1) u iv0 h
  · rw [if_pos hc36] at h
    refine tc_aload_n 0 rfl dX6_readLine_8 ?_
    refine tc_ldcS (w := 0) (by decide) rfl rfl dX6_readLine_9 ?_
    obtain ⟨x37, u38, hq39, h⟩ := tc_b_ex h
    refine tc_callVi [.ref (D.2 (200 + 0))] dX6_readLine_11 iv0.1 (ct_X6_wordOf hW iv0 (by decide : 0 < 3) hq39) ml_X6_80 mw_X6_wordOf mv_X6_wordOf ⟨Nat.le_of_ble_eq_true rfl, Nat.le_of_ble_eq_true rfl⟩ rfl rfl (Nat.le_of_ble_eq_true rfl) ⟨Nat.le_refl _, Nat.le_refl _⟩ (by decide) ?_
    refine tc_goto 18 dX6_readLine_14 (by decide) ?_
    exact sb_X6_readLine_18 hW r ur  v0 x37 u38 iv0 h
set_option maxRecDepth 100000 in
set_option maxHeartbeats 4000000 in
theorem sb_X6_read_90 {p : Program} {l : Launch} {e : Env} {s : State} {m : MethodId} {args : Array Value} {below : List Frame} {meth : Method} {c : Code} {z : Nat} {D : tc_D} {G : tc_G} (hW : tc_W G) (r : Int32) (ur : tc_S) (s0 : Int32) (u : tc_S) (h : bl_X6_read_90 G s0 u = some (r, ur)) : tc_R p l e { frames := 7, cells := 0, slots := 0, locals := 154 } s m args below meth c z D cX6_read RX6 4 (some .boolean) 0 0 (tc_po r G ur) 0 0 G u 90 [] [.int s0] := by
  unfold bl_X6_read_90 at h
  obtain ⟨hz1, h⟩ := tc_zo_ex h
  cases h
  exact tc_zreturn hz1 rfl dX6_read_90 rfl rfl ⟨rfl, rfl, rfl⟩
set_option maxRecDepth 100000 in
set_option maxHeartbeats 4000000 in
theorem sb_X6_read_78 {p : Program} {l : Launch} {e : Env} {s : State} {m : MethodId} {args : Array Value} {below : List Frame} {meth : Method} {c : Code} {z : Nat} {D : tc_D} {G : tc_G} (hW : tc_W G) (r : Int32) (ur : tc_S) (v0 : Nat) (u : tc_S) (iv0 : tc_is G v0 6) (h : bl_X6_read_78 G v0 u = some (r, ur)) : tc_R p l e { frames := 7, cells := 0, slots := 0, locals := 154 } s m args below meth c z D cX6_read RX6 4 (some .boolean) 0 0 (tc_po r G ur) 0 0 G u 78 [(0, .ref (z + v0))] [] := by
  unfold bl_X6_read_78 at h
  refine tc_aload_n 0 rfl dX6_read_78 ?_
  refine tc_geti iv0.1 fl_X6_42 dX6_read_79 ?_
  refine tc_if_ne 89 dX6_read_82 (by decide) (fun hc2 => ?_) (fun hc2 => ?_)
  · rw [if_neg hc2] at h
    refine tc_iconst (v := 0) (by decide) dX6_read_89 ?_
    refine tc_lvs [] rfl ?_
    exact sb_X6_read_90 hW r ur  0 u  h
  · rw [if_pos hc2] at h
    refine tc_iconst (v := 1) (by decide) dX6_read_85 ?_
    refine tc_goto 90 dX6_read_86 (by decide) ?_
    refine tc_lvs [] rfl ?_
    exact sb_X6_read_90 hW r ur  1 u  h
set_option maxRecDepth 100000 in
set_option maxHeartbeats 4000000 in
theorem sl_X6_read_48 {p : Program} {l : Launch} {e : Env} {s : State} {m : MethodId} {args : Array Value} {below : List Frame} {meth : Method} {c : Code} {z : Nat} {D : tc_D} {G : tc_G} (hW : tc_W G) (r : Int32) (ur : tc_S) : ∀ (n : Nat) (v0 : Nat) (v2 : Int32) (v3 : Int32) (u : tc_S) (iv0 : tc_is G v0 6) (h : lo_X6_read_48 G n v0 v2 v3 u = some (r, ur)), tc_R p l e { frames := 7, cells := 0, slots := 0, locals := 154 } s m args below meth c z D cX6_read RX6 4 (some .boolean) 0 0 (tc_po r G ur) 0 0 G u 48 [(0, .ref (z + v0)), (2, .int v2), (3, .int v3)] [] := by
  intro n
  induction n with
  | zero => intro v0 v2 v3 u iv0 h; cases h
  | succ n ih =>
    intro v0 v2 v3 u iv0 h
    rw [lo_X6_read_48] at h
    refine tc_iload_n 2 rfl dX6_read_48 ?_
    refine tc_aload_n 0 rfl dX6_read_49 ?_
    refine tc_geti iv0.1 fl_X6_38 dX6_read_50 ?_
    refine tc_icmp_gt 78 dX6_read_53 (by decide) (fun hc3 => ?_) (fun hc3 => ?_)
    · rw [if_pos hc3] at h
      refine tc_lvs [0] rfl ?_
      exact sb_X6_read_78 hW r ur  v0 u iv0 h
    · rw [if_neg hc3] at h
      refine tc_iload_n 1 rfl dX6_read_56 ?_
      refine tc_if_eq 78 dX6_read_57 (by decide) (fun hc4 => ?_) (fun hc4 => ?_)
      · rw [if_pos hc4] at h
        refine tc_lvs [0] rfl ?_
        exact sb_X6_read_78 hW r ur  v0 u iv0 h
      · rw [if_neg hc4] at h
        refine tc_aload_n 0 rfl dX6_read_60 ?_
        refine tc_geti iv0.1 fl_X6_60 dX6_read_61 ?_
        refine tc_if_eq 78 dX6_read_64 (by decide) (fun hc5 => ?_) (fun hc5 => ?_)
        · rw [if_pos hc5] at h
          refine tc_lvs [0] rfl ?_
          exact sb_X6_read_78 hW r ur  v0 u iv0 h
        · rw [if_neg hc5] at h
          refine tc_aload_n 0 rfl dX6_read_67 ?_
          obtain ⟨x6, u7, hq8, h⟩ := tc_b_ex h
          refine tc_callVi [] dX6_read_68 iv0.1 (ct_X6_readLine hW iv0 hq8) ml_X6_63 mw_X6_readLine mv_X6_readLine ⟨Nat.le_of_ble_eq_true rfl, Nat.le_of_ble_eq_true rfl⟩ rfl rfl (Nat.le_of_ble_eq_true rfl) ⟨Nat.le_refl _, Nat.le_refl _⟩ (by decide) ?_
          refine tc_istore_n [(2, .int x6), (0, .ref (z + v0)), (3, .int v3)] dX6_read_71 (by decide) rfl ?_
          obtain ⟨x9, ex9, h⟩ := tc_let_ex h
          refine tc_iinc 2 (v := x9) [(3, .int x9), (2, .int x6), (0, .ref (z + v0))] dX6_read_72 rfl (by rw [ex9]; rfl) (by decide) rfl ?_
          refine tc_goto 48 dX6_read_75 (by decide) ?_
          refine tc_lvs [2, 1, 0] rfl ?_
          exact ih v0 x6 x9 u7 iv0 h
set_option maxRecDepth 100000 in
set_option maxHeartbeats 4000000 in
theorem ct_X6_read {l : Launch} {z : Nat} {D : tc_D} {G : tc_G} (hW : tc_W G) {v0 : Nat} {v1 : Int32} {u : tc_S} {r : Int32} {ur : tc_S} (iv0 : tc_is G v0 6) (h : fn_X6_read G v0 v1 u = some (r, ur)) : tc_C l z D yX6_read cX6_read 4 (some .boolean) 7 154 0 0 [.ref (z + v0), .int v1] G u (tc_po r G ur) := by
  unfold fn_X6_read at h
  refine tc_C.of (by decide) (Nat.le_of_ble_eq_true rfl) fun p e s m args below meth c => ?_
  show tc_R p l e { frames := 7, cells := 0, slots := 0, locals := 154 } s m args below meth c z D cX6_read RX6 4 (some .boolean) 0 0 (tc_po r G ur) 0 0 G u 0 [(0, .ref (z + v0)), (1, .int v1)] []
  refine tc_aload_n 0 rfl dX6_read_0 ?_
  refine tc_iload_n 1 rfl dX6_read_1 ?_
  refine tc_aload_n 0 rfl dX6_read_2 ?_
  refine tc_getp hW iv0 fl_X6_28 dX6_read_3 rfl ?_
  refine tc_alen' (hW.p iv0 7 rfl).1 (by decide) (by decide) dX6_read_6 ?_
  refine tc_mmin dX6_read_7 ml_X6_32 wm_min_s wm_i wm_min_c (Nat.le_of_ble_eq_true rfl) (Nat.le_of_ble_eq_true rfl) (Nat.zero_le _) (Nat.zero_le _) ?_
  obtain ⟨u10, eu10, h⟩ := tc_let_ex h
  refine tc_puti iv0.1 fl_X6_38 dX6_read_10 ?_
  refine tc_nmu eu10 ?_
  refine tc_aload_n 0 rfl dX6_read_13 ?_
  refine tc_iconst (v := 0) (by decide) dX6_read_14 ?_
  obtain ⟨u11, eu11, h⟩ := tc_let_ex h
  refine tc_puti iv0.1 fl_X6_42 dX6_read_15 ?_
  refine tc_nmu eu11 ?_
  refine tc_aload_n 0 rfl dX6_read_18 ?_
  refine tc_iconst (v := (-1)) (by decide) dX6_read_19 ?_
  obtain ⟨u12, eu12, h⟩ := tc_let_ex h
  refine tc_puti iv0.1 fl_X6_45 dX6_read_20 ?_
  refine tc_nmu eu12 ?_
  refine tc_aload_n 0 rfl dX6_read_23 ?_
  refine tc_iconst (v := 0) (by decide) dX6_read_24 ?_
  obtain ⟨u13, eu13, h⟩ := tc_let_ex h
  refine tc_puti iv0.1 fl_X6_48 dX6_read_25 ?_
  refine tc_nmu eu13 ?_
  refine tc_aload_n 0 rfl dX6_read_28 ?_
  refine tc_getp hW iv0 fl_X6_12 dX6_read_29 rfl ?_
  obtain ⟨x14, u15, hq16, h⟩ := tc_b_ex h
  refine tc_callVv [] dX6_read_32 (hW.p iv0 2 rfl).1 (ct_X8_begin hW (hW.p iv0 2 rfl) hq16) ml_X6_51 mw_X8_begin mv_X8_begin ⟨Nat.le_of_ble_eq_true rfl, Nat.le_of_ble_eq_true rfl⟩ rfl rfl (Nat.le_of_ble_eq_true rfl) ⟨Nat.le_refl _, Nat.le_refl _⟩ (by decide) ?_
  refine tc_aload_n 0 rfl dX6_read_35 ?_
  refine tc_iconst (v := 0) (by decide) dX6_read_36 ?_
  obtain ⟨u17, eu17, h⟩ := tc_let_ex h
  refine tc_puti iv0.1 fl_X6_54 dX6_read_37 ?_
  refine tc_nmu eu17 ?_
  refine tc_aload_n 0 rfl dX6_read_40 ?_
  obtain ⟨x18, u19, hq20, h⟩ := tc_b_ex h
  refine tc_callVv [] dX6_read_41 iv0.1 (ct_X6_step hW iv0 hq20) ml_X6_57 mw_X6_step mv_X6_step ⟨Nat.le_of_ble_eq_true rfl, Nat.le_of_ble_eq_true rfl⟩ rfl rfl (Nat.le_of_ble_eq_true rfl) ⟨Nat.le_refl _, Nat.le_refl _⟩ (by decide) ?_
  refine tc_iconst (v := 1) (by decide) dX6_read_44 ?_
  refine tc_istore_n [(2, .int 1), (0, .ref (z + v0)), (1, .int v1)] dX6_read_45 (by decide) rfl ?_
  refine tc_iconst (v := 0) (by decide) dX6_read_46 ?_
  refine tc_istore_n [(3, .int 0), (2, .int 1), (0, .ref (z + v0)), (1, .int v1)] dX6_read_47 (by decide) rfl ?_
  refine tc_lvs [2, 1, 0] rfl ?_
  exact sl_X6_read_48 hW r ur  _ v0 1 0 u19 iv0 h
set_option maxRecDepth 100000 in
set_option maxHeartbeats 4000000 in
theorem ct_X9_begin {l : Launch} {z : Nat} {D : tc_D} {G : tc_G} (hW : tc_W G) {v0 : Nat} {v1 : Nat} {u : tc_S} {r : Int32} {ur : tc_S} (iv0 : tc_is G v0 9) (iv1 : tc_is G v1 8) (h : fn_X9_begin G v0 v1 u = some (r, ur)) : tc_C l z D yX9_begin cX9_begin 2 none 2 45 0 0 [.ref (z + v0), .ref (z + v1)] G u (tc_pv G ur) := by
  unfold fn_X9_begin at h
  refine tc_C.of (by decide) (Nat.le_of_ble_eq_true rfl) fun p e s m args below meth c => ?_
  show tc_R p l e { frames := 2, cells := 0, slots := 0, locals := 45 } s m args below meth c z D cX9_begin RX9 2 none 0 0 (tc_pv G ur) 0 0 G u 0 [(0, .ref (z + v0)), (1, .ref (z + v1))] []
  refine tc_aload_n 0 rfl dX9_begin_0 ?_
  refine tc_getp hW iv0 fl_X9_12 dX9_begin_1 rfl ?_
  refine tc_aload_n 1 rfl dX9_begin_4 ?_
  obtain ⟨x1, u2, hq3, h⟩ := tc_b_ex h
  refine tc_callVv [.ref (z + v1)] dX9_begin_5 (hW.p iv0 0 rfl).1 (ct_X8_copyFrom hW (hW.p iv0 0 rfl) iv1 hq3) ml_X9_50 mw_X8_copyFrom mv_X8_copyFrom ⟨Nat.le_of_ble_eq_true rfl, Nat.le_of_ble_eq_true rfl⟩ rfl rfl (Nat.le_of_ble_eq_true rfl) ⟨Nat.le_refl _, Nat.le_refl _⟩ (by decide) ?_
  refine tc_aload_n 0 rfl dX9_begin_8 ?_
  obtain ⟨x4, u5, hq6, h⟩ := tc_b_ex h
  refine tc_callVv [] dX9_begin_9 iv0.1 (ct_X9_clear hW iv0 hq6) ml_X9_47 mw_X9_clear mv_X9_clear ⟨Nat.le_of_ble_eq_true rfl, Nat.le_of_ble_eq_true rfl⟩ rfl rfl (Nat.le_of_ble_eq_true rfl) ⟨Nat.le_refl _, Nat.le_refl _⟩ (by decide) ?_
  refine tc_aload_n 0 rfl dX9_begin_12 ?_
  refine tc_iconst (v := 0) (by decide) dX9_begin_13 ?_
  obtain ⟨u7, eu7, h⟩ := tc_let_ex h
  refine tc_puti iv0.1 fl_X9_54 dX9_begin_14 ?_
  refine tc_nmu eu7 ?_
  refine tc_aload_n 0 rfl dX9_begin_17 ?_
  refine tc_iconst (v := 0) (by decide) dX9_begin_18 ?_
  obtain ⟨u8, eu8, h⟩ := tc_let_ex h
  refine tc_puti iv0.1 fl_X9_57 dX9_begin_19 ?_
  refine tc_nmu eu8 ?_
  refine tc_aload_n 0 rfl dX9_begin_22 ?_
  refine tc_iconst (v := 0) (by decide) dX9_begin_23 ?_
  obtain ⟨u9, eu9, h⟩ := tc_let_ex h
  refine tc_puti iv0.1 fl_X9_60 dX9_begin_24 ?_
  refine tc_nmu eu9 ?_
  refine tc_aload_n 0 rfl dX9_begin_27 ?_
  refine tc_iconst (v := 0) (by decide) dX9_begin_28 ?_
  obtain ⟨u10, eu10, h⟩ := tc_let_ex h
  refine tc_puti iv0.1 fl_X9_63 dX9_begin_29 ?_
  refine tc_nmu eu10 ?_
  refine tc_aload_n 0 rfl dX9_begin_32 ?_
  refine tc_iconst (v := 0) (by decide) dX9_begin_33 ?_
  obtain ⟨u11, eu11, h⟩ := tc_let_ex h
  refine tc_puti iv0.1 fl_X9_66 dX9_begin_34 ?_
  refine tc_nmu eu11 ?_
  refine tc_aload_n 0 rfl dX9_begin_37 ?_
  refine tc_iconst (v := 0) (by decide) dX9_begin_38 ?_
  obtain ⟨u12, eu12, h⟩ := tc_let_ex h
  refine tc_puti iv0.1 fl_X9_69 dX9_begin_39 ?_
  refine tc_nmu eu12 ?_
  cases h
  exact tc_return rfl dX9_begin_42 rfl rfl ⟨rfl, rfl, rfl⟩
set_option maxRecDepth 100000 in
set_option maxHeartbeats 4000000 in
theorem sl_X6_enterAll_10 {p : Program} {l : Launch} {e : Env} {s : State} {m : MethodId} {args : Array Value} {below : List Frame} {meth : Method} {c : Code} {z : Nat} {D : tc_D} {G : tc_G} (hW : tc_W G) (r : Int32) (ur : tc_S) : ∀ (n : Nat) (v0 : Nat) (v1 : Nat) (v2 : Nat) (v3 : Int32) (u : tc_S) (iv0 : tc_is G v0 6) (iv1 : tc_is G v1 9) (iv2 : tc_is G v2 3) (h : lo_X6_enterAll_10 G n v0 v1 v2 v3 u = some (r, ur)), tc_R p l e { frames := 6, cells := 0, slots := 0, locals := 149 } s m args below meth c z D cX6_enterAll RX6 4 (some .boolean) 0 0 (tc_po r G ur) 0 0 G u 10 [(0, .ref (z + v0)), (1, .ref (z + v1)), (2, .ref (z + v2)), (3, .int v3)] [] := by
  intro n
  induction n with
  | zero => intro v0 v1 v2 v3 u iv0 iv1 iv2 h; cases h
  | succ n ih =>
    intro v0 v1 v2 v3 u iv0 iv1 iv2 h
    rw [lo_X6_enterAll_10] at h
    refine tc_iload_n 3 rfl dX6_enterAll_10 ?_
    refine tc_aload_n 0 rfl dX6_enterAll_11 ?_
    refine tc_geti iv0.1 fl_X6_48 dX6_enterAll_12 ?_
    refine tc_icmp_ge 61 dX6_enterAll_15 (by decide) (fun hc1 => ?_) (fun hc1 => ?_)
    · rw [if_pos hc1] at h
      refine tc_iconst (v := 1) (by decide) dX6_enterAll_61 ?_
      obtain ⟨hz2, h⟩ := tc_zo_ex h
      cases h
      exact tc_zreturn hz2 rfl dX6_enterAll_62 rfl rfl ⟨rfl, rfl, rfl⟩
    · rw [if_neg hc1] at h
      refine tc_aload_n 2 rfl dX6_enterAll_18 ?_
      refine tc_aload_n 1 rfl dX6_enterAll_19 ?_
      refine tc_aload_n 0 rfl dX6_enterAll_20 ?_
      refine tc_getp hW iv0 fl_X6_18 dX6_enterAll_21 rfl ?_
      refine tc_iload_n 3 rfl dX6_enterAll_24 ?_
      obtain ⟨bx3, x3, ex3, h⟩ := tc_ld_ex h
      refine tc_iald (hW.p iv0 3 rfl).1 bx3 dX6_enterAll_25 ?_
      refine tc_nm ex3 ?_
      refine tc_aload_n 0 rfl dX6_enterAll_26 ?_
      refine tc_getp hW iv0 fl_X6_22 dX6_enterAll_27 rfl ?_
      refine tc_iload_n 3 rfl dX6_enterAll_30 ?_
      obtain ⟨bx4, x4, ex4, h⟩ := tc_ld_ex h
      refine tc_iald (hW.p iv0 4 rfl).1 bx4 dX6_enterAll_31 ?_
      refine tc_nm ex4 ?_
      obtain ⟨x5, u6, hq7, h⟩ := tc_b_ex h
      refine tc_callVi [.ref (z + v1), .int x3, .int x4] dX6_enterAll_32 iv2.1 (ct_X3_enter hW iv2 iv1 hq7) ml_X6_72 mw_X3_enter mv_X3_enter ⟨Nat.le_of_ble_eq_true rfl, Nat.le_of_ble_eq_true rfl⟩ rfl rfl (Nat.le_of_ble_eq_true rfl) ⟨Nat.le_refl _, Nat.le_refl _⟩ (by decide) ?_
      refine tc_if_ge 55 dX6_enterAll_35 (by decide) (fun hc8 => ?_) (fun hc8 => ?_)
      · rw [if_pos hc8] at h
        obtain ⟨x9, ex9, h⟩ := tc_let_ex h
        refine tc_iinc 3 (v := x9) [(3, .int x9), (0, .ref (z + v0)), (1, .ref (z + v1)), (2, .ref (z + v2))] dX6_enterAll_55 rfl (by rw [ex9]; rfl) (by decide) rfl ?_
        refine tc_goto 10 dX6_enterAll_58 (by decide) ?_
        refine tc_lvs [1, 2, 3, 0] rfl ?_
        exact ih v0 v1 v2 x9 u6 iv0 iv1 iv2 h
      · rw [if_neg hc8] at h
        refine tc_aload_n 0 rfl dX6_enterAll_38 ?_
        refine tc_iconst (v := 4) (by decide) dX6_enterAll_39 ?_
        obtain ⟨u10, eu10, h⟩ := tc_let_ex h
        refine tc_puti iv0.1 fl_X6_42 dX6_enterAll_40 ?_
        refine tc_nmu eu10 ?_
        refine tc_aload_n 0 rfl dX6_enterAll_43 ?_
        refine tc_aload_n 0 rfl dX6_enterAll_44 ?_
        refine tc_getp hW iv0 fl_X6_25 dX6_enterAll_45 rfl ?_
        refine tc_iload_n 3 rfl dX6_enterAll_48 ?_
        obtain ⟨bx11, x11, ex11, h⟩ := tc_ld_ex h
        refine tc_iald (hW.p iv0 5 rfl).1 bx11 dX6_enterAll_49 ?_
        refine tc_nm ex11 ?_
        obtain ⟨u12, eu12, h⟩ := tc_let_ex h
        refine tc_puti iv0.1 fl_X6_45 dX6_enterAll_50 ?_
        refine tc_nmu eu12 ?_
        refine tc_iconst (v := 0) (by decide) dX6_enterAll_53 ?_
        obtain ⟨hz13, h⟩ := tc_zo_ex h
        cases h
        exact tc_zreturn hz13 rfl dX6_enterAll_54 rfl rfl ⟨rfl, rfl, rfl⟩
set_option maxRecDepth 100000 in
set_option maxHeartbeats 4000000 in
theorem ct_X6_enterAll {l : Launch} {z : Nat} {D : tc_D} {G : tc_G} (hW : tc_W G) {v0 : Nat} {v1 : Nat} {v2 : Nat} {u : tc_S} {r : Int32} {ur : tc_S} (iv0 : tc_is G v0 6) (iv1 : tc_is G v1 9) (iv2 : tc_is G v2 3) (h : fn_X6_enterAll G v0 v1 v2 u = some (r, ur)) : tc_C l z D yX6_enterAll cX6_enterAll 4 (some .boolean) 6 149 0 0 [.ref (z + v0), .ref (z + v1), .ref (z + v2)] G u (tc_po r G ur) := by
  unfold fn_X6_enterAll at h
  refine tc_C.of (by decide) (Nat.le_of_ble_eq_true rfl) fun p e s m args below meth c => ?_
  show tc_R p l e { frames := 6, cells := 0, slots := 0, locals := 149 } s m args below meth c z D cX6_enterAll RX6 4 (some .boolean) 0 0 (tc_po r G ur) 0 0 G u 0 [(0, .ref (z + v0)), (1, .ref (z + v1)), (2, .ref (z + v2))] []
  refine tc_aload_n 1 rfl dX6_enterAll_0 ?_
  refine tc_aload_n 0 rfl dX6_enterAll_1 ?_
  refine tc_getp hW iv0 fl_X6_12 dX6_enterAll_2 rfl ?_
  obtain ⟨x14, u15, hq16, h⟩ := tc_b_ex h
  refine tc_callVv [.ref (z + (tc_p G v0 2))] dX6_enterAll_5 iv1.1 (ct_X9_begin hW iv1 (hW.p iv0 2 rfl) hq16) ml_X6_67 mw_X9_begin mv_X9_begin ⟨Nat.le_of_ble_eq_true rfl, Nat.le_of_ble_eq_true rfl⟩ rfl rfl (Nat.le_of_ble_eq_true rfl) ⟨Nat.le_refl _, Nat.le_refl _⟩ (by decide) ?_
  refine tc_iconst (v := 0) (by decide) dX6_enterAll_8 ?_
  refine tc_istore_n [(3, .int 0), (0, .ref (z + v0)), (1, .ref (z + v1)), (2, .ref (z + v2))] dX6_enterAll_9 (by decide) rfl ?_
  refine tc_lvs [1, 2, 3, 0] rfl ?_
  exact sl_X6_enterAll_10 hW r ur  _ v0 v1 v2 0 u15 iv0 iv1 iv2 h
set_option maxRecDepth 100000 in
set_option maxHeartbeats 4000000 in
theorem sb_X9_bucketOf_24 {p : Program} {l : Launch} {e : Env} {s : State} {m : MethodId} {args : Array Value} {below : List Frame} {meth : Method} {c : Code} {z : Nat} {D : tc_D} {G : tc_G} (hW : tc_W G) (r : Int32) (ur : tc_S) (s0 : Int32) (u : tc_S) (h : bl_X9_bucketOf_24 G s0 u = some (r, ur)) : tc_R p l e { frames := 0, cells := 0, slots := 0, locals := 0 } s m args below meth c z D cX9_bucketOf RX9 2 (some .int) 0 0 (tc_po r G ur) 0 0 G u 24 [] [.int s0] := by
  unfold bl_X9_bucketOf_24 at h
  cases h
  exact tc_ireturn rfl dX9_bucketOf_24 rfl rfl ⟨rfl, rfl, rfl⟩
set_option maxRecDepth 100000 in
set_option maxHeartbeats 4000000 in
theorem ct_X9_bucketOf {l : Launch} {z : Nat} {D : tc_D} {G : tc_G} (hW : tc_W G) {v0 : Nat} {v1 : Int32} {u : tc_S} {r : Int32} {ur : tc_S} (iv0 : tc_is G v0 9) (h : fn_X9_bucketOf G v0 v1 u = some (r, ur)) : tc_C l z D yX9_bucketOf cX9_bucketOf 2 (some .int) 0 0 0 0 [.ref (z + v0), .int v1] G u (tc_po r G ur) := by
  unfold fn_X9_bucketOf at h
  refine tc_C.of (by decide) (Nat.le_of_ble_eq_true rfl) fun p e s m args below meth c => ?_
  show tc_R p l e { frames := 0, cells := 0, slots := 0, locals := 0 } s m args below meth c z D cX9_bucketOf RX9 2 (some .int) 0 0 (tc_po r G ur) 0 0 G u 0 [(0, .ref (z + v0)), (1, .int v1)] []
  refine tc_aload_n 0 rfl dX9_bucketOf_0 ?_
  refine tc_getp hW iv0 fl_X9_12 dX9_bucketOf_1 rfl ?_
  refine tc_geti (hW.p iv0 0 rfl).1 fl_X9_98 dX9_bucketOf_4 ?_
  refine tc_iconst (v := 1) (by decide) dX9_bucketOf_7 ?_
  refine tc_icmp_ge 15 dX9_bucketOf_8 (by decide) (fun hc1 => ?_) (fun hc1 => ?_)
  · rw [if_pos hc1] at h
    refine tc_iload_n 1 rfl dX9_bucketOf_15 ?_
    refine tc_aload_n 0 rfl dX9_bucketOf_16 ?_
    refine tc_getp hW iv0 fl_X9_12 dX9_bucketOf_17 rfl ?_
    refine tc_geti (hW.p iv0 0 rfl).1 fl_X9_98 dX9_bucketOf_20 ?_
    obtain ⟨hz2, h⟩ := tc_nz_ex h
    refine tc_idiv hz2 dX9_bucketOf_23 ?_
    refine tc_lvs [] rfl ?_
    exact sb_X9_bucketOf_24 hW r ur  (v1 / (u.1 (tc_p G v0 0) 1)) u  h
  · rw [if_neg hc1] at h
    refine tc_iconst (v := 0) (by decide) dX9_bucketOf_11 ?_
    refine tc_goto 24 dX9_bucketOf_12 (by decide) ?_
    refine tc_lvs [] rfl ?_
    exact sb_X9_bucketOf_24 hW r ur  0 u  h
set_option maxRecDepth 100000 in
set_option maxHeartbeats 4000000 in
theorem sb_X9_indexOf_78 {p : Program} {l : Launch} {e : Env} {s : State} {m : MethodId} {args : Array Value} {below : List Frame} {meth : Method} {c : Code} {z : Nat} {D : tc_D} {G : tc_G} (hW : tc_W G) (r : Int32) (ur : tc_S) (s0 : Int32) (u : tc_S) (h : bl_X9_indexOf_78 G s0 u = some (r, ur)) : tc_R p l e { frames := 1, cells := 0, slots := 0, locals := 21 } s m args below meth c z D cX9_indexOf RX9 4 (some .int) 0 0 (tc_po r G ur) 0 0 G u 78 [] [.int s0] := by
  unfold bl_X9_indexOf_78 at h
  cases h
  exact tc_ireturn rfl dX9_indexOf_78 rfl rfl ⟨rfl, rfl, rfl⟩
set_option maxRecDepth 100000 in
set_option maxHeartbeats 4000000 in
theorem sb_X9_indexOf_62 {p : Program} {l : Launch} {e : Env} {s : State} {m : MethodId} {args : Array Value} {below : List Frame} {meth : Method} {c : Code} {z : Nat} {D : tc_D} {G : tc_G} (hW : tc_W G) (r : Int32) (ur : tc_S) (v0 : Nat) (v1 : Int32) (v2 : Int32) (s0 : Int32) (u : tc_S) (iv0 : tc_is G v0 9) (h : bl_X9_indexOf_62 G v0 v1 v2 s0 u = some (r, ur)) : tc_R p l e { frames := 1, cells := 0, slots := 0, locals := 21 } s m args below meth c z D cX9_indexOf RX9 4 (some .int) 0 0 (tc_po r G ur) 0 0 G u 62 [(0, .ref (z + v0)), (1, .int v1), (2, .int v2)] [.int s0] := by
  unfold bl_X9_indexOf_62 at h
  refine tc_istore_n [(3, .int s0), (0, .ref (z + v0)), (1, .int v1), (2, .int v2)] dX9_indexOf_62 (by decide) rfl ?_
  refine tc_iload_n 0 rfl dX9_indexOf_63 ?_
  refine tc_if_eq 77 dX9_indexOf_64 (by decide) (fun hc1 => ?_) (fun hc1 => ?_)
  · rw [if_pos hc1] at h
    refine tc_iconst (v := (-1)) (by decide) dX9_indexOf_77 ?_
    refine tc_lvs [] rfl ?_
    exact sb_X9_indexOf_78 hW r ur  (-1) u  h
  · rw [if_neg hc1] at h
    refine tc_aload_n 1 rfl dX9_indexOf_67 ?_
    refine tc_iload_n 2 rfl dX9_indexOf_68 ?_
    obtain ⟨x2, u3, hq4, h⟩ := tc_b_ex h
    refine tc_callVi [.int v1] dX9_indexOf_69 iv0.1 (ct_X9_startOf hW iv0 hq4) ml_X9_104 mw_X9_startOf mv_X9_startOf ⟨Nat.le_of_ble_eq_true rfl, Nat.le_of_ble_eq_true rfl⟩ rfl rfl (Nat.le_of_ble_eq_true rfl) ⟨Nat.le_refl _, Nat.le_refl _⟩ (by decide) ?_
    refine tc_iload_n 3 rfl dX9_indexOf_72 ?_
    refine tc_iadd dX9_indexOf_73 ?_
    refine tc_goto 78 dX9_indexOf_74 (by decide) ?_
    refine tc_lvs [] rfl ?_
    exact sb_X9_indexOf_78 hW r ur  (x2 + v2) u3  h
set_option maxRecDepth 100000 in
set_option maxHeartbeats 4000000 in
theorem sb_X9_indexOf_61 {p : Program} {l : Launch} {e : Env} {s : State} {m : MethodId} {args : Array Value} {below : List Frame} {meth : Method} {c : Code} {z : Nat} {D : tc_D} {G : tc_G} (hW : tc_W G) (r : Int32) (ur : tc_S) (v0 : Nat) (v1 : Int32) (v2 : Int32) (u : tc_S) (iv0 : tc_is G v0 9) (h : bl_X9_indexOf_61 G v0 v1 v2 u = some (r, ur)) : tc_R p l e { frames := 1, cells := 0, slots := 0, locals := 21 } s m args below meth c z D cX9_indexOf RX9 4 (some .int) 0 0 (tc_po r G ur) 0 0 G u 61 [(0, .ref (z + v0)), (1, .int v1), (2, .int v2)] [] := by
  unfold bl_X9_indexOf_61 at h
  refine tc_iconst (v := 0) (by decide) dX9_indexOf_61 ?_
  exact sb_X9_indexOf_62 hW r ur  v0 v1 v2 0 u iv0 h
set_option maxRecDepth 100000 in
set_option maxHeartbeats 4000000 in
theorem sb_X9_indexOf_30 {p : Program} {l : Launch} {e : Env} {s : State} {m : MethodId} {args : Array Value} {below : List Frame} {meth : Method} {c : Code} {z : Nat} {D : tc_D} {G : tc_G} (hW : tc_W G) (r : Int32) (ur : tc_S) (s0 : Int32) (u : tc_S) (h : bl_X9_indexOf_30 G s0 u = some (r, ur)) : tc_R p l e { frames := 1, cells := 0, slots := 0, locals := 21 } s m args below meth c z D cX9_indexOf RX9 4 (some .int) 0 0 (tc_po r G ur) 0 0 G u 30 [] [.int s0] := by
  unfold bl_X9_indexOf_30 at h
  cases h
  exact tc_ireturn rfl dX9_indexOf_30 rfl rfl ⟨rfl, rfl, rfl⟩
set_option maxRecDepth 100000 in
set_option maxHeartbeats 4000000 in
theorem ct_X9_indexOf {l : Launch} {z : Nat} {D : tc_D} {G : tc_G} (hW : tc_W G) {v0 : Nat} {v1 : Int32} {v2 : Int32} {u : tc_S} {r : Int32} {ur : tc_S} (iv0 : tc_is G v0 9) (h : fn_X9_indexOf G v0 v1 v2 u = some (r, ur)) : tc_C l z D yX9_indexOf cX9_indexOf 4 (some .int) 1 21 0 0 [.ref (z + v0), .int v1, .int v2] G u (tc_po r G ur) := by
  unfold fn_X9_indexOf at h
  refine tc_C.of (by decide) (Nat.le_of_ble_eq_true rfl) fun p e s m args below meth c => ?_
  show tc_R p l e { frames := 1, cells := 0, slots := 0, locals := 21 } s m args below meth c z D cX9_indexOf RX9 4 (some .int) 0 0 (tc_po r G ur) 0 0 G u 0 [(0, .ref (z + v0)), (1, .int v1), (2, .int v2)] []
  refine tc_iload_n 2 rfl dX9_indexOf_0 ?_
  refine tc_if_ge 6 dX9_indexOf_1 (by decide) (fun hc5 => ?_) (fun hc5 => ?_)
  · rw [if_pos hc5] at h
    refine tc_iload_n 1 rfl dX9_indexOf_6 ?_
    refine tc_bipush (v := 100) (by decide) dX9_indexOf_7 ?_
    refine tc_icmp_ne 31 dX9_indexOf_9 (by decide) (fun hc6 => ?_) (fun hc6 => ?_)
    · rw [if_neg hc6] at h
      refine tc_iload_n 1 rfl dX9_indexOf_31 ?_
      refine tc_if_lt 61 dX9_indexOf_32 (by decide) (fun hc7 => ?_) (fun hc7 => ?_)
      · rw [if_pos hc7] at h
        exact sb_X9_indexOf_61 hW r ur  v0 v1 v2 u iv0 h
      · rw [if_neg hc7] at h
        refine tc_iload_n 1 rfl dX9_indexOf_35 ?_
        refine tc_aload_n 0 rfl dX9_indexOf_36 ?_
        refine tc_getp hW iv0 fl_X9_12 dX9_indexOf_37 rfl ?_
        refine tc_geti (hW.p iv0 0 rfl).1 fl_X9_101 dX9_indexOf_40 ?_
        refine tc_icmp_ge 61 dX9_indexOf_43 (by decide) (fun hc8 => ?_) (fun hc8 => ?_)
        · rw [if_pos hc8] at h
          exact sb_X9_indexOf_61 hW r ur  v0 v1 v2 u iv0 h
        · rw [if_neg hc8] at h
          refine tc_iload_n 2 rfl dX9_indexOf_46 ?_
          refine tc_aload_n 0 rfl dX9_indexOf_47 ?_
          refine tc_getp hW iv0 fl_X9_12 dX9_indexOf_48 rfl ?_
          refine tc_geti (hW.p iv0 0 rfl).1 fl_X9_98 dX9_indexOf_51 ?_
          refine tc_icmp_ge 61 dX9_indexOf_54 (by decide) (fun hc9 => ?_) (fun hc9 => ?_)
          · rw [if_pos hc9] at h
            exact sb_X9_indexOf_61 hW r ur  v0 v1 v2 u iv0 h
          · rw [if_neg hc9] at h
            refine tc_iconst (v := 1) (by decide) dX9_indexOf_57 ?_
            refine tc_goto 62 dX9_indexOf_58 (by decide) ?_
            exact sb_X9_indexOf_62 hW r ur  v0 v1 v2 1 u iv0 h
    · rw [if_pos hc6] at h
      refine tc_iload_n 2 rfl dX9_indexOf_12 ?_
      refine tc_aload_n 0 rfl dX9_indexOf_13 ?_
      refine tc_geti iv0.1 fl_X9_77 dX9_indexOf_14 ?_
      refine tc_icmp_ge 29 dX9_indexOf_17 (by decide) (fun hc10 => ?_) (fun hc10 => ?_)
      · rw [if_pos hc10] at h
        refine tc_iconst (v := (-1)) (by decide) dX9_indexOf_29 ?_
        refine tc_lvs [] rfl ?_
        exact sb_X9_indexOf_30 hW r ur  (-1) u  h
      · rw [if_neg hc10] at h
        refine tc_aload_n 0 rfl dX9_indexOf_20 ?_
        refine tc_geti iv0.1 fl_X9_22 dX9_indexOf_21 ?_
        refine tc_iload_n 2 rfl dX9_indexOf_24 ?_
        refine tc_iadd dX9_indexOf_25 ?_
        refine tc_goto 30 dX9_indexOf_26 (by decide) ?_
        refine tc_lvs [] rfl ?_
        exact sb_X9_indexOf_30 hW r ur  ((u.1 v0 1) + v2) u  h
  · rw [if_neg hc5] at h
    refine tc_iconst (v := (-1)) (by decide) dX9_indexOf_4 ?_
    cases h
    exact tc_ireturn rfl dX9_indexOf_5 rfl rfl ⟨rfl, rfl, rfl⟩
set_option maxRecDepth 100000 in
set_option maxHeartbeats 4000000 in
theorem sb_X9_otherOf_42 {p : Program} {l : Launch} {e : Env} {s : State} {m : MethodId} {args : Array Value} {below : List Frame} {meth : Method} {c : Code} {z : Nat} {D : tc_D} {G : tc_G} (hW : tc_W G) (r : Int32) (ur : tc_S) (s0 : Int32) (u : tc_S) (h : bl_X9_otherOf_42 G s0 u = some (r, ur)) : tc_R p l e { frames := 0, cells := 0, slots := 0, locals := 0 } s m args below meth c z D cX9_otherOf RX9 3 (some .int) 0 0 (tc_po r G ur) 0 0 G u 42 [] [.int s0] := by
  unfold bl_X9_otherOf_42 at h
  cases h
  exact tc_ireturn rfl dX9_otherOf_42 rfl rfl ⟨rfl, rfl, rfl⟩
set_option maxRecDepth 100000 in
set_option maxHeartbeats 4000000 in
theorem ct_X9_otherOf {l : Launch} {z : Nat} {D : tc_D} {G : tc_G} (hW : tc_W G) {v0 : Nat} {v1 : Int32} {v2 : Int32} {u : tc_S} {r : Int32} {ur : tc_S} (iv0 : tc_is G v0 9) (h : fn_X9_otherOf G v0 v1 v2 u = some (r, ur)) : tc_C l z D yX9_otherOf cX9_otherOf 3 (some .int) 0 0 0 0 [.ref (z + v0), .int v1, .int v2] G u (tc_po r G ur) := by
  unfold fn_X9_otherOf at h
  refine tc_C.of (by decide) (Nat.le_of_ble_eq_true rfl) fun p e s m args below meth c => ?_
  show tc_R p l e { frames := 0, cells := 0, slots := 0, locals := 0 } s m args below meth c z D cX9_otherOf RX9 3 (some .int) 0 0 (tc_po r G ur) 0 0 G u 0 [(0, .ref (z + v0)), (1, .int v1), (2, .int v2)] []
  refine tc_aload_n 0 rfl dX9_otherOf_0 ?_
  refine tc_getp hW iv0 fl_X9_41 dX9_otherOf_1 rfl ?_
  refine tc_iload_n 1 rfl dX9_otherOf_4 ?_
  obtain ⟨bx1, x1, ex1, h⟩ := tc_ld_ex h
  refine tc_iald (hW.p iv0 7 rfl).1 bx1 dX9_otherOf_5 ?_
  refine tc_nm ex1 ?_
  refine tc_aload_n 0 rfl dX9_otherOf_6 ?_
  refine tc_getp hW iv0 fl_X9_44 dX9_otherOf_7 rfl ?_
  refine tc_iload_n 1 rfl dX9_otherOf_10 ?_
  obtain ⟨bx2, x2, ex2, h⟩ := tc_ld_ex h
  refine tc_iald (hW.p iv0 8 rfl).1 bx2 dX9_otherOf_11 ?_
  refine tc_nm ex2 ?_
  refine tc_icmp_ne 17 dX9_otherOf_12 (by decide) (fun hc3 => ?_) (fun hc3 => ?_)
  · rw [if_neg hc3] at h
    refine tc_aload_n 0 rfl dX9_otherOf_17 ?_
    refine tc_getp hW iv0 fl_X9_41 dX9_otherOf_18 rfl ?_
    refine tc_iload_n 1 rfl dX9_otherOf_21 ?_
    obtain ⟨bx4, x4, ex4, h⟩ := tc_ld_ex h
    refine tc_iald (hW.p iv0 7 rfl).1 bx4 dX9_otherOf_22 ?_
    refine tc_nm ex4 ?_
    refine tc_iload_n 2 rfl dX9_otherOf_23 ?_
    refine tc_icmp_ne 36 dX9_otherOf_24 (by decide) (fun hc5 => ?_) (fun hc5 => ?_)
    · rw [if_neg hc5] at h
      refine tc_aload_n 0 rfl dX9_otherOf_36 ?_
      refine tc_getp hW iv0 fl_X9_41 dX9_otherOf_37 rfl ?_
      refine tc_iload_n 1 rfl dX9_otherOf_40 ?_
      obtain ⟨bx6, x6, ex6, h⟩ := tc_ld_ex h
      refine tc_iald (hW.p iv0 7 rfl).1 bx6 dX9_otherOf_41 ?_
      refine tc_nm ex6 ?_
      refine tc_lvs [] rfl ?_
      exact sb_X9_otherOf_42 hW r ur  x6 u  h
    · rw [if_pos hc5] at h
      refine tc_aload_n 0 rfl dX9_otherOf_27 ?_
      refine tc_getp hW iv0 fl_X9_44 dX9_otherOf_28 rfl ?_
      refine tc_iload_n 1 rfl dX9_otherOf_31 ?_
      obtain ⟨bx7, x7, ex7, h⟩ := tc_ld_ex h
      refine tc_iald (hW.p iv0 8 rfl).1 bx7 dX9_otherOf_32 ?_
      refine tc_nm ex7 ?_
      refine tc_goto 42 dX9_otherOf_33 (by decide) ?_
      refine tc_lvs [] rfl ?_
      exact sb_X9_otherOf_42 hW r ur  x7 u  h
  · rw [if_pos hc3] at h
    refine tc_iconst (v := (-1)) (by decide) dX9_otherOf_15 ?_
    cases h
    exact tc_ireturn rfl dX9_otherOf_16 rfl rfl ⟨rfl, rfl, rfl⟩
set_option maxRecDepth 100000 in
set_option maxHeartbeats 4000000 in
theorem sb_X9_readsTill_75 {p : Program} {l : Launch} {e : Env} {s : State} {m : MethodId} {args : Array Value} {below : List Frame} {meth : Method} {c : Code} {z : Nat} {D : tc_D} {G : tc_G} (hW : tc_W G) (r : Int32) (ur : tc_S) (s0 : Int32) (u : tc_S) (h : bl_X9_readsTill_75 G s0 u = some (r, ur)) : tc_R p l e { frames := 1, cells := 0, slots := 0, locals := 21 } s m args below meth c z D cX9_readsTill RX9 5 (some .int) 0 0 (tc_po r G ur) 0 0 G u 75 [] [.int s0] := by
  unfold bl_X9_readsTill_75 at h
  cases h
  exact tc_ireturn rfl dX9_readsTill_75 rfl rfl ⟨rfl, rfl, rfl⟩
set_option maxRecDepth 100000 in
set_option maxHeartbeats 4000000 in
theorem sb_X9_readsTill_46 {p : Program} {l : Launch} {e : Env} {s : State} {m : MethodId} {args : Array Value} {below : List Frame} {meth : Method} {c : Code} {z : Nat} {D : tc_D} {G : tc_G} (hW : tc_W G) (r : Int32) (ur : tc_S) (s0 : Int32) (s1 : Int32) (u : tc_S) (h : bl_X9_readsTill_46 G s0 s1 u = some (r, ur)) : tc_R p l e { frames := 1, cells := 0, slots := 0, locals := 21 } s m args below meth c z D cX9_readsTill RX9 5 (some .int) 0 0 (tc_po r G ur) 0 0 G u 46 [] [.int s1, .int s0] := by
  unfold bl_X9_readsTill_46 at h
  refine tc_iadd dX9_readsTill_46 ?_
  cases h
  exact tc_ireturn rfl dX9_readsTill_47 rfl rfl ⟨rfl, rfl, rfl⟩
set_option maxRecDepth 100000 in
set_option maxHeartbeats 4000000 in
theorem sb_X9_readsTill_26 {p : Program} {l : Launch} {e : Env} {s : State} {m : MethodId} {args : Array Value} {below : List Frame} {meth : Method} {c : Code} {z : Nat} {D : tc_D} {G : tc_G} (hW : tc_W G) (r : Int32) (ur : tc_S) (v0 : Nat) (v2 : Int32) (v3 : Int32) (s0 : Int32) (u : tc_S) (iv0 : tc_is G v0 9) (h : bl_X9_readsTill_26 G v0 v2 v3 s0 u = some (r, ur)) : tc_R p l e { frames := 1, cells := 0, slots := 0, locals := 21 } s m args below meth c z D cX9_readsTill RX9 5 (some .int) 0 0 (tc_po r G ur) 0 0 G u 26 [(0, .ref (z + v0)), (2, .int v2), (3, .int v3)] [.int s0] := by
  unfold bl_X9_readsTill_26 at h
  refine tc_istore [(4, .int s0), (0, .ref (z + v0)), (2, .int v2), (3, .int v3)] dX9_readsTill_26 (by decide) rfl ?_
  refine tc_iload_n 2 rfl dX9_readsTill_28 ?_
  refine tc_if_ge 48 dX9_readsTill_29 (by decide) (fun hc1 => ?_) (fun hc1 => ?_)
  · rw [if_pos hc1] at h
    refine tc_iload_n 2 rfl dX9_readsTill_48 ?_
    refine tc_aload_n 1 rfl dX9_readsTill_49 ?_
    refine tc_geti iv0.1 fl_X9_22 dX9_readsTill_50 ?_
    refine tc_icmp_lt 61 dX9_readsTill_53 (by decide) (fun hc2 => ?_) (fun hc2 => ?_)
    · rw [if_pos hc2] at h
      refine tc_aload_n 1 rfl dX9_readsTill_61 ?_
      refine tc_iload_n 2 rfl dX9_readsTill_62 ?_
      obtain ⟨x3, u4, hq5, h⟩ := tc_b_ex h
      refine tc_callVi [.int v2] dX9_readsTill_63 iv0.1 (ct_X9_bucketOf hW iv0 hq5) ml_X9_118 mw_X9_bucketOf mv_X9_bucketOf ⟨Nat.le_of_ble_eq_true rfl, Nat.le_of_ble_eq_true rfl⟩ rfl rfl (Nat.le_of_ble_eq_true rfl) ⟨Nat.le_refl _, Nat.le_refl _⟩ (by decide) ?_
      refine tc_iload_n 3 rfl dX9_readsTill_66 ?_
      refine tc_icmp_ne 74 dX9_readsTill_67 (by decide) (fun hc6 => ?_) (fun hc6 => ?_)
      · rw [if_neg hc6] at h
        refine tc_iconst (v := 2) (by decide) dX9_readsTill_74 ?_
        refine tc_lvs [] rfl ?_
        exact sb_X9_readsTill_75 hW r ur  2 u4  h
      · rw [if_pos hc6] at h
        refine tc_iconst (v := 1) (by decide) dX9_readsTill_70 ?_
        refine tc_goto 75 dX9_readsTill_71 (by decide) ?_
        refine tc_lvs [] rfl ?_
        exact sb_X9_readsTill_75 hW r ur  1 u4  h
    · rw [if_neg hc2] at h
      refine tc_iload 0 rfl dX9_readsTill_56 ?_
      refine tc_iconst (v := 1) (by decide) dX9_readsTill_58 ?_
      refine tc_iadd dX9_readsTill_59 ?_
      cases h
      exact tc_ireturn rfl dX9_readsTill_60 rfl rfl ⟨rfl, rfl, rfl⟩
  · rw [if_neg hc1] at h
    refine tc_iload 0 rfl dX9_readsTill_32 ?_
    refine tc_aload_n 1 rfl dX9_readsTill_34 ?_
    refine tc_geti iv0.1 fl_X9_77 dX9_readsTill_35 ?_
    refine tc_if_le 45 dX9_readsTill_38 (by decide) (fun hc7 => ?_) (fun hc7 => ?_)
    · rw [if_pos hc7] at h
      refine tc_iconst (v := 0) (by decide) dX9_readsTill_45 ?_
      refine tc_lvs [] rfl ?_
      exact sb_X9_readsTill_46 hW r ur  s0 0 u  h
    · rw [if_neg hc7] at h
      refine tc_iconst (v := 1) (by decide) dX9_readsTill_41 ?_
      refine tc_goto 46 dX9_readsTill_42 (by decide) ?_
      refine tc_lvs [] rfl ?_
      exact sb_X9_readsTill_46 hW r ur  s0 1 u  h
set_option maxRecDepth 100000 in
set_option maxHeartbeats 4000000 in
theorem ct_X9_readsTill {l : Launch} {z : Nat} {D : tc_D} {G : tc_G} (hW : tc_W G) {v0 : Nat} {v1 : Int32} {v2 : Int32} {u : tc_S} {r : Int32} {ur : tc_S} (iv0 : tc_is G v0 9) (h : fn_X9_readsTill G v0 v1 v2 u = some (r, ur)) : tc_C l z D yX9_readsTill cX9_readsTill 5 (some .int) 1 21 0 0 [.ref (z + v0), .int v1, .int v2] G u (tc_po r G ur) := by
  unfold fn_X9_readsTill at h
  refine tc_C.of (by decide) (Nat.le_of_ble_eq_true rfl) fun p e s m args below meth c => ?_
  show tc_R p l e { frames := 1, cells := 0, slots := 0, locals := 21 } s m args below meth c z D cX9_readsTill RX9 5 (some .int) 0 0 (tc_po r G ur) 0 0 G u 0 [(0, .ref (z + v0)), (1, .int v1), (2, .int v2)] []
  refine tc_aload_n 0 rfl dX9_readsTill_0 ?_
  refine tc_getp hW iv0 fl_X9_12 dX9_readsTill_1 rfl ?_
  refine tc_iload_n 1 rfl dX9_readsTill_4 ?_
  obtain ⟨x8, u9, hq10, h⟩ := tc_b_ex h
  refine tc_callVi [.int v1] dX9_readsTill_5 (hW.p iv0 0 rfl).1 (ct_X8_firstOf hW (hW.p iv0 0 rfl) hq10) ml_X9_108 mw_X8_firstOf mv_X8_firstOf ⟨Nat.le_of_ble_eq_true rfl, Nat.le_of_ble_eq_true rfl⟩ rfl rfl (Nat.le_of_ble_eq_true rfl) ⟨Nat.le_refl _, Nat.le_refl _⟩ (by decide) ?_
  refine tc_istore_n [(3, .int x8), (0, .ref (z + v0)), (1, .int v1), (2, .int v2)] dX9_readsTill_8 (by decide) rfl ?_
  refine tc_iload_n 0 rfl dX9_readsTill_9 ?_
  refine tc_aload_n 1 rfl dX9_readsTill_10 ?_
  refine tc_getp hW iv0 fl_X9_12 dX9_readsTill_11 rfl ?_
  refine tc_iload_n 2 rfl dX9_readsTill_14 ?_
  obtain ⟨x11, u12, hq13, h⟩ := tc_b_ex h
  refine tc_callVi [.int v1] dX9_readsTill_15 (hW.p iv0 0 rfl).1 (ct_X8_secondOf hW (hW.p iv0 0 rfl) hq13) ml_X9_115 mw_X8_secondOf mv_X8_secondOf ⟨Nat.le_of_ble_eq_true rfl, Nat.le_of_ble_eq_true rfl⟩ rfl rfl (Nat.le_of_ble_eq_true rfl) ⟨Nat.le_refl _, Nat.le_refl _⟩ (by decide) ?_
  refine tc_icmp_ne 25 dX9_readsTill_18 (by decide) (fun hc14 => ?_) (fun hc14 => ?_)
  · rw [if_neg hc14] at h
    refine tc_iconst (v := 2) (by decide) dX9_readsTill_25 ?_
    refine tc_lvs [1, 3, 0] rfl ?_
    exact sb_X9_readsTill_26 hW r ur  v0 v2 x8 2 u12 iv0 h
  · rw [if_pos hc14] at h
    refine tc_iconst (v := 1) (by decide) dX9_readsTill_21 ?_
    refine tc_goto 26 dX9_readsTill_22 (by decide) ?_
    refine tc_lvs [1, 3, 0] rfl ?_
    exact sb_X9_readsTill_26 hW r ur  v0 v2 x8 1 u12 iv0 h
set_option maxRecDepth 100000 in
set_option maxHeartbeats 4000000 in
theorem sb_X9_entriesFrom_27 {p : Program} {l : Launch} {e : Env} {s : State} {m : MethodId} {args : Array Value} {below : List Frame} {meth : Method} {c : Code} {z : Nat} {D : tc_D} {G : tc_G} (hW : tc_W G) (r : Int32) (ur : tc_S) (K5 : Nat → Int32 → Int32 → Int32 → tc_S → Option (Int32 × tc_S)) (hK5 : ∀ (v0 : Nat) (v2 : Int32) (v3 : Int32) (v4 : Int32) (u : tc_S), tc_is G v0 9 → K5 v0 v2 v3 v4 u = some (r, ur) → tc_R p l e { frames := 0, cells := 0, slots := 0, locals := 0 } s m args below meth c z D cX9_entriesFrom RX9 5 (some .int) 0 0 (tc_po r G ur) 0 0 G u 5 [(0, .ref (z + v0)), (2, .int v2), (3, .int v3), (4, .int v4)] []) (v0 : Nat) (v2 : Int32) (v4 : Int32) (s0 : Int32) (s1 : Int32) (u : tc_S) (iv0 : tc_is G v0 9) (h : bl_X9_entriesFrom_27 G K5 v0 v2 v4 s0 s1 u = some (r, ur)) : tc_R p l e { frames := 0, cells := 0, slots := 0, locals := 0 } s m args below meth c z D cX9_entriesFrom RX9 5 (some .int) 0 0 (tc_po r G ur) 0 0 G u 27 [(0, .ref (z + v0)), (2, .int v2), (4, .int v4)] [.int s1, .int s0] := by
  unfold bl_X9_entriesFrom_27 at h
  refine tc_iadd dX9_entriesFrom_27 ?_
  obtain ⟨x1, ex1, h⟩ := tc_let_ex h
  refine tc_nm ex1 ?_
  refine tc_istore_n [(3, .int x1), (0, .ref (z + v0)), (2, .int v2), (4, .int v4)] dX9_entriesFrom_28 (by decide) rfl ?_
  obtain ⟨x2, ex2, h⟩ := tc_let_ex h
  refine tc_iinc 3 (v := x2) [(4, .int x2), (3, .int x1), (0, .ref (z + v0)), (2, .int v2)] dX9_entriesFrom_29 rfl (by rw [ex2]; rfl) (by decide) rfl ?_
  refine tc_goto 5 dX9_entriesFrom_32 (by decide) ?_
  refine tc_lvs [2, 3, 1, 0] rfl ?_
  exact hK5 v0 v2 x1 x2 u iv0 h
set_option maxRecDepth 100000 in
set_option maxHeartbeats 4000000 in
theorem sl_X9_entriesFrom_5 {p : Program} {l : Launch} {e : Env} {s : State} {m : MethodId} {args : Array Value} {below : List Frame} {meth : Method} {c : Code} {z : Nat} {D : tc_D} {G : tc_G} (hW : tc_W G) (r : Int32) (ur : tc_S) : ∀ (n : Nat) (v0 : Nat) (v2 : Int32) (v3 : Int32) (v4 : Int32) (u : tc_S) (iv0 : tc_is G v0 9) (h : lo_X9_entriesFrom_5 G n v0 v2 v3 v4 u = some (r, ur)), tc_R p l e { frames := 0, cells := 0, slots := 0, locals := 0 } s m args below meth c z D cX9_entriesFrom RX9 5 (some .int) 0 0 (tc_po r G ur) 0 0 G u 5 [(0, .ref (z + v0)), (2, .int v2), (3, .int v3), (4, .int v4)] [] := by
  intro n
  induction n with
  | zero => intro v0 v2 v3 v4 u iv0 h; cases h
  | succ n ih =>
    intro v0 v2 v3 v4 u iv0 h
    rw [lo_X9_entriesFrom_5] at h
    refine tc_iload 3 rfl dX9_entriesFrom_5 ?_
    refine tc_iload_n 1 rfl dX9_entriesFrom_7 ?_
    refine tc_icmp_gt 35 dX9_entriesFrom_8 (by decide) (fun hc3 => ?_) (fun hc3 => ?_)
    · rw [if_pos hc3] at h
      refine tc_iload_n 2 rfl dX9_entriesFrom_35 ?_
      cases h
      exact tc_ireturn rfl dX9_entriesFrom_36 rfl rfl ⟨rfl, rfl, rfl⟩
    · rw [if_neg hc3] at h
      refine tc_iload_n 2 rfl dX9_entriesFrom_11 ?_
      refine tc_aload_n 0 rfl dX9_entriesFrom_12 ?_
      refine tc_getp hW iv0 fl_X9_29 dX9_entriesFrom_13 rfl ?_
      refine tc_iload 3 rfl dX9_entriesFrom_16 ?_
      obtain ⟨bx4, x4, ex4, h⟩ := tc_ld_ex h
      refine tc_iald (hW.p iv0 3 rfl).1 bx4 dX9_entriesFrom_18 ?_
      refine tc_nm ex4 ?_
      refine tc_if_lt 26 dX9_entriesFrom_19 (by decide) (fun hc5 => ?_) (fun hc5 => ?_)
      · rw [if_pos hc5] at h
        refine tc_iconst (v := 0) (by decide) dX9_entriesFrom_26 ?_
        refine tc_lvs [0, 1, 3] rfl ?_
        exact sb_X9_entriesFrom_27 hW r ur _ ih v0 v2 v4 v3 0 u iv0 h
      · rw [if_neg hc5] at h
        refine tc_iconst (v := 1) (by decide) dX9_entriesFrom_22 ?_
        refine tc_goto 27 dX9_entriesFrom_23 (by decide) ?_
        refine tc_lvs [0, 1, 3] rfl ?_
        exact sb_X9_entriesFrom_27 hW r ur _ ih v0 v2 v4 v3 1 u iv0 h
set_option maxRecDepth 100000 in
set_option maxHeartbeats 4000000 in
theorem ct_X9_entriesFrom {l : Launch} {z : Nat} {D : tc_D} {G : tc_G} (hW : tc_W G) {v0 : Nat} {v1 : Int32} {v2 : Int32} {u : tc_S} {r : Int32} {ur : tc_S} (iv0 : tc_is G v0 9) (h : fn_X9_entriesFrom G v0 v1 v2 u = some (r, ur)) : tc_C l z D yX9_entriesFrom cX9_entriesFrom 5 (some .int) 0 0 0 0 [.ref (z + v0), .int v1, .int v2] G u (tc_po r G ur) := by
  unfold fn_X9_entriesFrom at h
  refine tc_C.of (by decide) (Nat.le_of_ble_eq_true rfl) fun p e s m args below meth c => ?_
  show tc_R p l e { frames := 0, cells := 0, slots := 0, locals := 0 } s m args below meth c z D cX9_entriesFrom RX9 5 (some .int) 0 0 (tc_po r G ur) 0 0 G u 0 [(0, .ref (z + v0)), (1, .int v1), (2, .int v2)] []
  refine tc_iconst (v := 0) (by decide) dX9_entriesFrom_0 ?_
  refine tc_istore_n [(3, .int 0), (0, .ref (z + v0)), (1, .int v1), (2, .int v2)] dX9_entriesFrom_1 (by decide) rfl ?_
  refine tc_iload_n 2 rfl dX9_entriesFrom_2 ?_
  refine tc_istore [(4, .int v1), (3, .int 0), (0, .ref (z + v0)), (1, .int v1), (2, .int v2)] dX9_entriesFrom_3 (by decide) rfl ?_
  refine tc_lvs [2, 4, 1, 0] rfl ?_
  exact sl_X9_entriesFrom_5 hW r ur  _ v0 v2 0 v1 u iv0 h
set_option maxRecDepth 100000 in
set_option maxHeartbeats 4000000 in
theorem sb_X9_entriesTill_95 {p : Program} {l : Launch} {e : Env} {s : State} {m : MethodId} {args : Array Value} {below : List Frame} {meth : Method} {c : Code} {z : Nat} {D : tc_D} {G : tc_G} (hW : tc_W G) (r : Int32) (ur : tc_S) (v0 : Nat) (v1 : Int32) (s0 : Int32) (u : tc_S) (iv0 : tc_is G v0 9) (h : bl_X9_entriesTill_95 G v0 v1 s0 u = some (r, ur)) : tc_R p l e { frames := 1, cells := 0, slots := 0, locals := 24 } s m args below meth c z D cX9_entriesTill RX9 5 (some .int) 0 0 (tc_po r G ur) 0 0 G u 95 [(0, .ref (z + v0)), (1, .int v1)] [.int s0] := by
  unfold bl_X9_entriesTill_95 at h
  refine tc_istore [(4, .int s0), (0, .ref (z + v0)), (1, .int v1)] dX9_entriesTill_95 (by decide) rfl ?_
  refine tc_iload 0 rfl dX9_entriesTill_97 ?_
  refine tc_iload_n 2 rfl dX9_entriesTill_99 ?_
  refine tc_iadd dX9_entriesTill_100 ?_
  refine tc_aload_n 1 rfl dX9_entriesTill_101 ?_
  refine tc_geti iv0.1 fl_X9_22 dX9_entriesTill_102 ?_
  refine tc_isub dX9_entriesTill_105 ?_
  refine tc_iconst (v := 1) (by decide) dX9_entriesTill_106 ?_
  refine tc_iadd dX9_entriesTill_107 ?_
  cases h
  exact tc_ireturn rfl dX9_entriesTill_108 rfl rfl ⟨rfl, rfl, rfl⟩
set_option maxRecDepth 100000 in
set_option maxHeartbeats 4000000 in
theorem sb_X9_entriesTill_35 {p : Program} {l : Launch} {e : Env} {s : State} {m : MethodId} {args : Array Value} {below : List Frame} {meth : Method} {c : Code} {z : Nat} {D : tc_D} {G : tc_G} (hW : tc_W G) (r : Int32) (ur : tc_S) (v0 : Nat) (v1 : Int32) (v2 : Int32) (u : tc_S) (iv0 : tc_is G v0 9) (h : bl_X9_entriesTill_35 G v0 v1 v2 u = some (r, ur)) : tc_R p l e { frames := 1, cells := 0, slots := 0, locals := 24 } s m args below meth c z D cX9_entriesTill RX9 5 (some .int) 0 0 (tc_po r G ur) 0 0 G u 35 [(0, .ref (z + v0)), (1, .int v1), (2, .int v2)] [] := by
  unfold bl_X9_entriesTill_35 at h
  refine tc_aload_n 0 rfl dX9_entriesTill_35 ?_
  refine tc_getp hW iv0 fl_X9_44 dX9_entriesTill_36 rfl ?_
  refine tc_iload_n 1 rfl dX9_entriesTill_39 ?_
  obtain ⟨bx1, x1, ex1, h⟩ := tc_ld_ex h
  refine tc_iald (hW.p iv0 8 rfl).1 bx1 dX9_entriesTill_40 ?_
  refine tc_nm ex1 ?_
  refine tc_istore_n [(3, .int x1), (0, .ref (z + v0)), (1, .int v1), (2, .int v2)] dX9_entriesTill_41 (by decide) rfl ?_
  refine tc_iload_n 2 rfl dX9_entriesTill_42 ?_
  refine tc_aload_n 1 rfl dX9_entriesTill_43 ?_
  refine tc_geti iv0.1 fl_X9_22 dX9_entriesTill_44 ?_
  refine tc_icmp_ge 68 dX9_entriesTill_47 (by decide) (fun hc2 => ?_) (fun hc2 => ?_)
  · rw [if_pos hc2] at h
    refine tc_iload_n 3 rfl dX9_entriesTill_68 ?_
    refine tc_iload_n 0 rfl dX9_entriesTill_69 ?_
    refine tc_icmp_ne 82 dX9_entriesTill_70 (by decide) (fun hc3 => ?_) (fun hc3 => ?_)
    · rw [if_neg hc3] at h
      refine tc_aload_n 1 rfl dX9_entriesTill_82 ?_
      refine tc_getp hW iv0 fl_X9_18 dX9_entriesTill_83 rfl ?_
      refine tc_iload_n 3 rfl dX9_entriesTill_86 ?_
      obtain ⟨bx4, x4, ex4, h⟩ := tc_ld_ex h
      refine tc_iald (hW.p iv0 9 rfl).1 bx4 dX9_entriesTill_87 ?_
      refine tc_nm ex4 ?_
      refine tc_aload_n 1 rfl dX9_entriesTill_88 ?_
      refine tc_getp hW iv0 fl_X9_18 dX9_entriesTill_89 rfl ?_
      refine tc_iload_n 0 rfl dX9_entriesTill_92 ?_
      obtain ⟨bx5, x5, ex5, h⟩ := tc_ld_ex h
      refine tc_iald (hW.p iv0 9 rfl).1 bx5 dX9_entriesTill_93 ?_
      refine tc_nm ex5 ?_
      refine tc_iadd dX9_entriesTill_94 ?_
      refine tc_lvs [1, 2] rfl ?_
      exact sb_X9_entriesTill_95 hW r ur  v0 v1 (x4 + x5) u iv0 h
    · rw [if_pos hc3] at h
      refine tc_aload_n 1 rfl dX9_entriesTill_73 ?_
      refine tc_getp hW iv0 fl_X9_18 dX9_entriesTill_74 rfl ?_
      refine tc_iload_n 3 rfl dX9_entriesTill_77 ?_
      obtain ⟨bx6, x6, ex6, h⟩ := tc_ld_ex h
      refine tc_iald (hW.p iv0 9 rfl).1 bx6 dX9_entriesTill_78 ?_
      refine tc_nm ex6 ?_
      refine tc_goto 95 dX9_entriesTill_79 (by decide) ?_
      refine tc_lvs [1, 2] rfl ?_
      exact sb_X9_entriesTill_95 hW r ur  v0 v1 x6 u iv0 h
  · rw [if_neg hc2] at h
    refine tc_aload_n 1 rfl dX9_entriesTill_50 ?_
    refine tc_getp hW iv0 fl_X9_18 dX9_entriesTill_51 rfl ?_
    refine tc_iload_n 3 rfl dX9_entriesTill_54 ?_
    obtain ⟨bx7, x7, ex7, h⟩ := tc_ld_ex h
    refine tc_iald (hW.p iv0 9 rfl).1 bx7 dX9_entriesTill_55 ?_
    refine tc_nm ex7 ?_
    refine tc_aload_n 1 rfl dX9_entriesTill_56 ?_
    refine tc_aload_n 1 rfl dX9_entriesTill_57 ?_
    refine tc_iload_n 0 rfl dX9_entriesTill_58 ?_
    obtain ⟨x8, u9, hq10, h⟩ := tc_b_ex h
    refine tc_callVi [.int x1] dX9_entriesTill_59 iv0.1 (ct_X9_startOf hW iv0 hq10) ml_X9_104 mw_X9_startOf mv_X9_startOf ⟨Nat.le_of_ble_eq_true rfl, Nat.le_of_ble_eq_true rfl⟩ rfl rfl (Nat.le_of_ble_eq_true rfl) ⟨Nat.le_refl _, Nat.le_refl _⟩ (by decide) ?_
    refine tc_iload_n 2 rfl dX9_entriesTill_62 ?_
    obtain ⟨x11, u12, hq13, h⟩ := tc_b_ex h
    refine tc_callVi [.int x8, .int v1] dX9_entriesTill_63 iv0.1 (ct_X9_entriesFrom hW iv0 hq13) ml_X9_121 mw_X9_entriesFrom mv_X9_entriesFrom ⟨Nat.le_of_ble_eq_true rfl, Nat.le_of_ble_eq_true rfl⟩ rfl rfl (Nat.le_of_ble_eq_true rfl) ⟨Nat.le_refl _, Nat.le_refl _⟩ (by decide) ?_
    refine tc_iadd dX9_entriesTill_66 ?_
    cases h
    exact tc_ireturn rfl dX9_entriesTill_67 rfl rfl ⟨rfl, rfl, rfl⟩
set_option maxRecDepth 100000 in
set_option maxHeartbeats 4000000 in
theorem ct_X9_entriesTill {l : Launch} {z : Nat} {D : tc_D} {G : tc_G} (hW : tc_W G) {v0 : Nat} {v1 : Int32} {u : tc_S} {r : Int32} {ur : tc_S} (iv0 : tc_is G v0 9) (h : fn_X9_entriesTill G v0 v1 u = some (r, ur)) : tc_C l z D yX9_entriesTill cX9_entriesTill 5 (some .int) 1 24 0 0 [.ref (z + v0), .int v1] G u (tc_po r G ur) := by
  unfold fn_X9_entriesTill at h
  refine tc_C.of (by decide) (Nat.le_of_ble_eq_true rfl) fun p e s m args below meth c => ?_
  show tc_R p l e { frames := 1, cells := 0, slots := 0, locals := 24 } s m args below meth c z D cX9_entriesTill RX9 5 (some .int) 0 0 (tc_po r G ur) 0 0 G u 0 [(0, .ref (z + v0)), (1, .int v1)] []
  refine tc_aload_n 0 rfl dX9_entriesTill_0 ?_
  refine tc_getp hW iv0 fl_X9_41 dX9_entriesTill_1 rfl ?_
  refine tc_iload_n 1 rfl dX9_entriesTill_4 ?_
  obtain ⟨bx14, x14, ex14, h⟩ := tc_ld_ex h
  refine tc_iald (hW.p iv0 7 rfl).1 bx14 dX9_entriesTill_5 ?_
  refine tc_nm ex14 ?_
  refine tc_istore_n [(2, .int x14), (0, .ref (z + v0)), (1, .int v1)] dX9_entriesTill_6 (by decide) rfl ?_
  refine tc_iload_n 2 rfl dX9_entriesTill_7 ?_
  refine tc_aload_n 1 rfl dX9_entriesTill_8 ?_
  refine tc_geti iv0.1 fl_X9_22 dX9_entriesTill_9 ?_
  refine tc_icmp_ge 35 dX9_entriesTill_12 (by decide) (fun hc15 => ?_) (fun hc15 => ?_)
  · rw [if_pos hc15] at h
    refine tc_lvs [1, 2, 0] rfl ?_
    exact sb_X9_entriesTill_35 hW r ur  v0 v1 x14 u iv0 h
  · rw [if_neg hc15] at h
    refine tc_aload_n 1 rfl dX9_entriesTill_15 ?_
    refine tc_iload_n 2 rfl dX9_entriesTill_16 ?_
    obtain ⟨x16, u17, hq18, h⟩ := tc_b_ex h
    refine tc_callVi [.int v1] dX9_entriesTill_17 iv0.1 (ct_X9_bucketOf hW iv0 hq18) ml_X9_118 mw_X9_bucketOf mv_X9_bucketOf ⟨Nat.le_of_ble_eq_true rfl, Nat.le_of_ble_eq_true rfl⟩ rfl rfl (Nat.le_of_ble_eq_true rfl) ⟨Nat.le_refl _, Nat.le_refl _⟩ (by decide) ?_
    refine tc_iload_n 0 rfl dX9_entriesTill_20 ?_
    refine tc_icmp_ne 35 dX9_entriesTill_21 (by decide) (fun hc19 => ?_) (fun hc19 => ?_)
    · rw [if_neg hc19] at h
      refine tc_lvs [1, 2, 0] rfl ?_
      exact sb_X9_entriesTill_35 hW r ur  v0 v1 x14 u17 iv0 h
    · rw [if_pos hc19] at h
      refine tc_aload_n 1 rfl dX9_entriesTill_24 ?_
      refine tc_aload_n 1 rfl dX9_entriesTill_25 ?_
      refine tc_iload_n 0 rfl dX9_entriesTill_26 ?_
      obtain ⟨x20, u21, hq22, h⟩ := tc_b_ex h
      refine tc_callVi [.int x14] dX9_entriesTill_27 iv0.1 (ct_X9_startOf hW iv0 hq22) ml_X9_104 mw_X9_startOf mv_X9_startOf ⟨Nat.le_of_ble_eq_true rfl, Nat.le_of_ble_eq_true rfl⟩ rfl rfl (Nat.le_of_ble_eq_true rfl) ⟨Nat.le_refl _, Nat.le_refl _⟩ (by decide) ?_
      refine tc_iload_n 2 rfl dX9_entriesTill_30 ?_
      obtain ⟨x23, u24, hq25, h⟩ := tc_b_ex h
      refine tc_callVi [.int x20, .int v1] dX9_entriesTill_31 iv0.1 (ct_X9_entriesFrom hW iv0 hq25) ml_X9_121 mw_X9_entriesFrom mv_X9_entriesFrom ⟨Nat.le_of_ble_eq_true rfl, Nat.le_of_ble_eq_true rfl⟩ rfl rfl (Nat.le_of_ble_eq_true rfl) ⟨Nat.le_refl _, Nat.le_refl _⟩ (by decide) ?_
      cases h
      exact tc_ireturn rfl dX9_entriesTill_34 rfl rfl ⟨rfl, rfl, rfl⟩
set_option maxRecDepth 100000 in
set_option maxHeartbeats 4000000 in
theorem ct_X9_entries {l : Launch} {z : Nat} {D : tc_D} {G : tc_G} (hW : tc_W G) {v0 : Nat} {u : tc_S} {r : Int32} {ur : tc_S} (iv0 : tc_is G v0 9) (h : fn_X9_entries G v0 u = some (r, ur)) : tc_C l z D yX9_entries cX9_entries 1 (some .int) 1 24 0 0 [.ref (z + v0)] G u (tc_po r G ur) := by
  unfold fn_X9_entries at h
  refine tc_C.of (by decide) (Nat.le_of_ble_eq_true rfl) fun p e s m args below meth c => ?_
  show tc_R p l e { frames := 1, cells := 0, slots := 0, locals := 24 } s m args below meth c z D cX9_entries RX9 1 (some .int) 0 0 (tc_po r G ur) 0 0 G u 0 [(0, .ref (z + v0))] []
  refine tc_aload_n 0 rfl dX9_entries_0 ?_
  refine tc_iconst (v := 0) (by decide) dX9_entries_1 ?_
  refine tc_aload_n 0 rfl dX9_entries_2 ?_
  refine tc_geti iv0.1 fl_X9_26 dX9_entries_3 ?_
  refine tc_iconst (v := 1) (by decide) dX9_entries_6 ?_
  refine tc_isub dX9_entries_7 ?_
  obtain ⟨x1, u2, hq3, h⟩ := tc_b_ex h
  refine tc_callVi [.int 0, .int ((u.1 v0 2) - 1)] dX9_entries_8 iv0.1 (ct_X9_entriesFrom hW iv0 hq3) ml_X9_121 mw_X9_entriesFrom mv_X9_entriesFrom ⟨Nat.le_of_ble_eq_true rfl, Nat.le_of_ble_eq_true rfl⟩ rfl rfl (Nat.le_of_ble_eq_true rfl) ⟨Nat.le_refl _, Nat.le_refl _⟩ (by decide) ?_
  cases h
  exact tc_ireturn rfl dX9_entries_11 rfl rfl ⟨rfl, rfl, rfl⟩
set_option maxRecDepth 100000 in
set_option maxHeartbeats 4000000 in
theorem sb_X9_movedInAll_32 {p : Program} {l : Launch} {e : Env} {s : State} {m : MethodId} {args : Array Value} {below : List Frame} {meth : Method} {c : Code} {z : Nat} {D : tc_D} {G : tc_G} (hW : tc_W G) (r : Int32) (ur : tc_S) (K4 : Nat → Int32 → Int32 → tc_S → Option (Int32 × tc_S)) (hK4 : ∀ (v0 : Nat) (v1 : Int32) (v2 : Int32) (u : tc_S), tc_is G v0 9 → K4 v0 v1 v2 u = some (r, ur) → tc_R p l e { frames := 0, cells := 0, slots := 0, locals := 0 } s m args below meth c z D cX9_movedInAll RX9 3 (some .int) 0 0 (tc_po r G ur) 0 0 G u 4 [(0, .ref (z + v0)), (1, .int v1), (2, .int v2)] []) (v0 : Nat) (v2 : Int32) (s0 : Int32) (s1 : Int32) (u : tc_S) (iv0 : tc_is G v0 9) (h : bl_X9_movedInAll_32 G K4 v0 v2 s0 s1 u = some (r, ur)) : tc_R p l e { frames := 0, cells := 0, slots := 0, locals := 0 } s m args below meth c z D cX9_movedInAll RX9 3 (some .int) 0 0 (tc_po r G ur) 0 0 G u 32 [(0, .ref (z + v0)), (2, .int v2)] [.int s1, .int s0] := by
  unfold bl_X9_movedInAll_32 at h
  refine tc_iadd dX9_movedInAll_32 ?_
  obtain ⟨x1, ex1, h⟩ := tc_let_ex h
  refine tc_nm ex1 ?_
  refine tc_istore_n [(1, .int x1), (0, .ref (z + v0)), (2, .int v2)] dX9_movedInAll_33 (by decide) rfl ?_
  obtain ⟨x2, ex2, h⟩ := tc_let_ex h
  refine tc_iinc 2 (v := x2) [(2, .int x2), (1, .int x1), (0, .ref (z + v0))] dX9_movedInAll_34 rfl (by rw [ex2]; rfl) (by decide) rfl ?_
  refine tc_goto 4 dX9_movedInAll_37 (by decide) ?_
  refine tc_lvs [2, 1, 0] rfl ?_
  exact hK4 v0 x1 x2 u iv0 h
set_option maxRecDepth 100000 in
set_option maxHeartbeats 4000000 in
theorem sl_X9_movedInAll_4 {p : Program} {l : Launch} {e : Env} {s : State} {m : MethodId} {args : Array Value} {below : List Frame} {meth : Method} {c : Code} {z : Nat} {D : tc_D} {G : tc_G} (hW : tc_W G) (r : Int32) (ur : tc_S) : ∀ (n : Nat) (v0 : Nat) (v1 : Int32) (v2 : Int32) (u : tc_S) (iv0 : tc_is G v0 9) (h : lo_X9_movedInAll_4 G n v0 v1 v2 u = some (r, ur)), tc_R p l e { frames := 0, cells := 0, slots := 0, locals := 0 } s m args below meth c z D cX9_movedInAll RX9 3 (some .int) 0 0 (tc_po r G ur) 0 0 G u 4 [(0, .ref (z + v0)), (1, .int v1), (2, .int v2)] [] := by
  intro n
  induction n with
  | zero => intro v0 v1 v2 u iv0 h; cases h
  | succ n ih =>
    intro v0 v1 v2 u iv0 h
    rw [lo_X9_movedInAll_4] at h
    refine tc_iload_n 2 rfl dX9_movedInAll_4 ?_
    refine tc_aload_n 0 rfl dX9_movedInAll_5 ?_
    refine tc_geti iv0.1 fl_X9_26 dX9_movedInAll_6 ?_
    refine tc_icmp_ge 40 dX9_movedInAll_9 (by decide) (fun hc3 => ?_) (fun hc3 => ?_)
    · rw [if_pos hc3] at h
      refine tc_iload_n 1 rfl dX9_movedInAll_40 ?_
      cases h
      exact tc_ireturn rfl dX9_movedInAll_41 rfl rfl ⟨rfl, rfl, rfl⟩
    · rw [if_neg hc3] at h
      refine tc_iload_n 1 rfl dX9_movedInAll_12 ?_
      refine tc_aload_n 0 rfl dX9_movedInAll_13 ?_
      refine tc_getp hW iv0 fl_X9_29 dX9_movedInAll_14 rfl ?_
      refine tc_iload_n 2 rfl dX9_movedInAll_17 ?_
      obtain ⟨bx4, x4, ex4, h⟩ := tc_ld_ex h
      refine tc_iald (hW.p iv0 3 rfl).1 bx4 dX9_movedInAll_18 ?_
      refine tc_nm ex4 ?_
      refine tc_if_lt 31 dX9_movedInAll_19 (by decide) (fun hc5 => ?_) (fun hc5 => ?_)
      · rw [if_pos hc5] at h
        refine tc_iconst (v := 0) (by decide) dX9_movedInAll_31 ?_
        refine tc_lvs [0, 2] rfl ?_
        exact sb_X9_movedInAll_32 hW r ur _ ih v0 v2 v1 0 u iv0 h
      · rw [if_neg hc5] at h
        refine tc_aload_n 0 rfl dX9_movedInAll_22 ?_
        refine tc_getp hW iv0 fl_X9_38 dX9_movedInAll_23 rfl ?_
        refine tc_iload_n 2 rfl dX9_movedInAll_26 ?_
        obtain ⟨bx6, x6, ex6, h⟩ := tc_ld_ex h
        refine tc_iald (hW.p iv0 6 rfl).1 bx6 dX9_movedInAll_27 ?_
        refine tc_nm ex6 ?_
        refine tc_goto 32 dX9_movedInAll_28 (by decide) ?_
        refine tc_lvs [0, 2] rfl ?_
        exact sb_X9_movedInAll_32 hW r ur _ ih v0 v2 v1 x6 u iv0 h
set_option maxRecDepth 100000 in
set_option maxHeartbeats 4000000 in
theorem ct_X9_movedInAll {l : Launch} {z : Nat} {D : tc_D} {G : tc_G} (hW : tc_W G) {v0 : Nat} {u : tc_S} {r : Int32} {ur : tc_S} (iv0 : tc_is G v0 9) (h : fn_X9_movedInAll G v0 u = some (r, ur)) : tc_C l z D yX9_movedInAll cX9_movedInAll 3 (some .int) 0 0 0 0 [.ref (z + v0)] G u (tc_po r G ur) := by
  unfold fn_X9_movedInAll at h
  refine tc_C.of (by decide) (Nat.le_of_ble_eq_true rfl) fun p e s m args below meth c => ?_
  show tc_R p l e { frames := 0, cells := 0, slots := 0, locals := 0 } s m args below meth c z D cX9_movedInAll RX9 3 (some .int) 0 0 (tc_po r G ur) 0 0 G u 0 [(0, .ref (z + v0))] []
  refine tc_iconst (v := 0) (by decide) dX9_movedInAll_0 ?_
  refine tc_istore_n [(1, .int 0), (0, .ref (z + v0))] dX9_movedInAll_1 (by decide) rfl ?_
  refine tc_iconst (v := 0) (by decide) dX9_movedInAll_2 ?_
  refine tc_istore_n [(2, .int 0), (1, .int 0), (0, .ref (z + v0))] dX9_movedInAll_3 (by decide) rfl ?_
  refine tc_lvs [2, 1, 0] rfl ?_
  exact sl_X9_movedInAll_4 hW r ur  _ v0 0 0 u iv0 h
set_option maxRecDepth 100000 in
set_option maxHeartbeats 4000000 in
theorem sb_X9_movedMost_41 {p : Program} {l : Launch} {e : Env} {s : State} {m : MethodId} {args : Array Value} {below : List Frame} {meth : Method} {c : Code} {z : Nat} {D : tc_D} {G : tc_G} (hW : tc_W G) (r : Int32) (ur : tc_S) (K4 : Nat → Int32 → Int32 → tc_S → Option (Int32 × tc_S)) (hK4 : ∀ (v0 : Nat) (v1 : Int32) (v2 : Int32) (u : tc_S), tc_is G v0 9 → K4 v0 v1 v2 u = some (r, ur) → tc_R p l e { frames := 0, cells := 0, slots := 0, locals := 0 } s m args below meth c z D cX9_movedMost RX9 3 (some .int) 0 0 (tc_po r G ur) 0 0 G u 4 [(0, .ref (z + v0)), (1, .int v1), (2, .int v2)] []) (v0 : Nat) (v2 : Int32) (s0 : Int32) (u : tc_S) (iv0 : tc_is G v0 9) (h : bl_X9_movedMost_41 G K4 v0 v2 s0 u = some (r, ur)) : tc_R p l e { frames := 0, cells := 0, slots := 0, locals := 0 } s m args below meth c z D cX9_movedMost RX9 3 (some .int) 0 0 (tc_po r G ur) 0 0 G u 41 [(0, .ref (z + v0)), (2, .int v2)] [.int s0] := by
  unfold bl_X9_movedMost_41 at h
  refine tc_istore_n [(1, .int s0), (0, .ref (z + v0)), (2, .int v2)] dX9_movedMost_41 (by decide) rfl ?_
  obtain ⟨x1, ex1, h⟩ := tc_let_ex h
  refine tc_iinc 2 (v := x1) [(2, .int x1), (1, .int s0), (0, .ref (z + v0))] dX9_movedMost_42 rfl (by rw [ex1]; rfl) (by decide) rfl ?_
  refine tc_goto 4 dX9_movedMost_45 (by decide) ?_
  refine tc_lvs [2, 1, 0] rfl ?_
  exact hK4 v0 s0 x1 u iv0 h
set_option maxRecDepth 100000 in
set_option maxHeartbeats 4000000 in
theorem sb_X9_movedMost_40 {p : Program} {l : Launch} {e : Env} {s : State} {m : MethodId} {args : Array Value} {below : List Frame} {meth : Method} {c : Code} {z : Nat} {D : tc_D} {G : tc_G} (hW : tc_W G) (r : Int32) (ur : tc_S) (K4 : Nat → Int32 → Int32 → tc_S → Option (Int32 × tc_S)) (hK4 : ∀ (v0 : Nat) (v1 : Int32) (v2 : Int32) (u : tc_S), tc_is G v0 9 → K4 v0 v1 v2 u = some (r, ur) → tc_R p l e { frames := 0, cells := 0, slots := 0, locals := 0 } s m args below meth c z D cX9_movedMost RX9 3 (some .int) 0 0 (tc_po r G ur) 0 0 G u 4 [(0, .ref (z + v0)), (1, .int v1), (2, .int v2)] []) (v0 : Nat) (v1 : Int32) (v2 : Int32) (u : tc_S) (iv0 : tc_is G v0 9) (h : bl_X9_movedMost_40 G K4 v0 v1 v2 u = some (r, ur)) : tc_R p l e { frames := 0, cells := 0, slots := 0, locals := 0 } s m args below meth c z D cX9_movedMost RX9 3 (some .int) 0 0 (tc_po r G ur) 0 0 G u 40 [(0, .ref (z + v0)), (1, .int v1), (2, .int v2)] [] := by
  unfold bl_X9_movedMost_40 at h
  refine tc_iload_n 1 rfl dX9_movedMost_40 ?_
  refine tc_lvs [0, 2] rfl ?_
  exact sb_X9_movedMost_41 hW r ur K4 hK4 v0 v2 v1 u iv0 h
set_option maxRecDepth 100000 in
set_option maxHeartbeats 4000000 in
theorem sl_X9_movedMost_4 {p : Program} {l : Launch} {e : Env} {s : State} {m : MethodId} {args : Array Value} {below : List Frame} {meth : Method} {c : Code} {z : Nat} {D : tc_D} {G : tc_G} (hW : tc_W G) (r : Int32) (ur : tc_S) : ∀ (n : Nat) (v0 : Nat) (v1 : Int32) (v2 : Int32) (u : tc_S) (iv0 : tc_is G v0 9) (h : lo_X9_movedMost_4 G n v0 v1 v2 u = some (r, ur)), tc_R p l e { frames := 0, cells := 0, slots := 0, locals := 0 } s m args below meth c z D cX9_movedMost RX9 3 (some .int) 0 0 (tc_po r G ur) 0 0 G u 4 [(0, .ref (z + v0)), (1, .int v1), (2, .int v2)] [] := by
  intro n
  induction n with
  | zero => intro v0 v1 v2 u iv0 h; cases h
  | succ n ih =>
    intro v0 v1 v2 u iv0 h
    rw [lo_X9_movedMost_4] at h
    refine tc_iload_n 2 rfl dX9_movedMost_4 ?_
    refine tc_aload_n 0 rfl dX9_movedMost_5 ?_
    refine tc_geti iv0.1 fl_X9_26 dX9_movedMost_6 ?_
    refine tc_icmp_ge 48 dX9_movedMost_9 (by decide) (fun hc2 => ?_) (fun hc2 => ?_)
    · rw [if_pos hc2] at h
      refine tc_iload_n 1 rfl dX9_movedMost_48 ?_
      cases h
      exact tc_ireturn rfl dX9_movedMost_49 rfl rfl ⟨rfl, rfl, rfl⟩
    · rw [if_neg hc2] at h
      refine tc_aload_n 0 rfl dX9_movedMost_12 ?_
      refine tc_getp hW iv0 fl_X9_29 dX9_movedMost_13 rfl ?_
      refine tc_iload_n 2 rfl dX9_movedMost_16 ?_
      obtain ⟨bx3, x3, ex3, h⟩ := tc_ld_ex h
      refine tc_iald (hW.p iv0 3 rfl).1 bx3 dX9_movedMost_17 ?_
      refine tc_nm ex3 ?_
      refine tc_if_lt 40 dX9_movedMost_18 (by decide) (fun hc4 => ?_) (fun hc4 => ?_)
      · rw [if_pos hc4] at h
        exact sb_X9_movedMost_40 hW r ur _ ih v0 v1 v2 u iv0 h
      · rw [if_neg hc4] at h
        refine tc_aload_n 0 rfl dX9_movedMost_21 ?_
        refine tc_getp hW iv0 fl_X9_38 dX9_movedMost_22 rfl ?_
        refine tc_iload_n 2 rfl dX9_movedMost_25 ?_
        obtain ⟨bx5, x5, ex5, h⟩ := tc_ld_ex h
        refine tc_iald (hW.p iv0 6 rfl).1 bx5 dX9_movedMost_26 ?_
        refine tc_nm ex5 ?_
        refine tc_iload_n 1 rfl dX9_movedMost_27 ?_
        refine tc_icmp_le 40 dX9_movedMost_28 (by decide) (fun hc6 => ?_) (fun hc6 => ?_)
        · rw [if_pos hc6] at h
          exact sb_X9_movedMost_40 hW r ur _ ih v0 v1 v2 u iv0 h
        · rw [if_neg hc6] at h
          refine tc_aload_n 0 rfl dX9_movedMost_31 ?_
          refine tc_getp hW iv0 fl_X9_38 dX9_movedMost_32 rfl ?_
          refine tc_iload_n 2 rfl dX9_movedMost_35 ?_
          obtain ⟨bx7, x7, ex7, h⟩ := tc_ld_ex h
          refine tc_iald (hW.p iv0 6 rfl).1 bx7 dX9_movedMost_36 ?_
          refine tc_nm ex7 ?_
          refine tc_goto 41 dX9_movedMost_37 (by decide) ?_
          refine tc_lvs [0, 2] rfl ?_
          exact sb_X9_movedMost_41 hW r ur _ ih v0 v2 x7 u iv0 h
set_option maxRecDepth 100000 in
set_option maxHeartbeats 4000000 in
theorem ct_X9_movedMost {l : Launch} {z : Nat} {D : tc_D} {G : tc_G} (hW : tc_W G) {v0 : Nat} {u : tc_S} {r : Int32} {ur : tc_S} (iv0 : tc_is G v0 9) (h : fn_X9_movedMost G v0 u = some (r, ur)) : tc_C l z D yX9_movedMost cX9_movedMost 3 (some .int) 0 0 0 0 [.ref (z + v0)] G u (tc_po r G ur) := by
  unfold fn_X9_movedMost at h
  refine tc_C.of (by decide) (Nat.le_of_ble_eq_true rfl) fun p e s m args below meth c => ?_
  show tc_R p l e { frames := 0, cells := 0, slots := 0, locals := 0 } s m args below meth c z D cX9_movedMost RX9 3 (some .int) 0 0 (tc_po r G ur) 0 0 G u 0 [(0, .ref (z + v0))] []
  refine tc_iconst (v := 0) (by decide) dX9_movedMost_0 ?_
  refine tc_istore_n [(1, .int 0), (0, .ref (z + v0))] dX9_movedMost_1 (by decide) rfl ?_
  refine tc_iconst (v := 0) (by decide) dX9_movedMost_2 ?_
  refine tc_istore_n [(2, .int 0), (1, .int 0), (0, .ref (z + v0))] dX9_movedMost_3 (by decide) rfl ?_
  refine tc_lvs [2, 1, 0] rfl ?_
  exact sl_X9_movedMost_4 hW r ur  _ v0 0 0 u iv0 h
set_option maxRecDepth 100000 in
set_option maxHeartbeats 4000000 in
theorem sb_X9_readsMost_47 {p : Program} {l : Launch} {e : Env} {s : State} {m : MethodId} {args : Array Value} {below : List Frame} {meth : Method} {c : Code} {z : Nat} {D : tc_D} {G : tc_G} (hW : tc_W G) (r : Int32) (ur : tc_S) (K4 : Nat → Int32 → Int32 → tc_S → Option (Int32 × tc_S)) (hK4 : ∀ (v0 : Nat) (v1 : Int32) (v2 : Int32) (u : tc_S), tc_is G v0 9 → K4 v0 v1 v2 u = some (r, ur) → tc_R p l e { frames := 2, cells := 0, slots := 0, locals := 45 } s m args below meth c z D cX9_readsMost RX9 4 (some .int) 0 0 (tc_po r G ur) 0 0 G u 4 [(0, .ref (z + v0)), (1, .int v1), (2, .int v2)] []) (v0 : Nat) (v2 : Int32) (s0 : Int32) (u : tc_S) (iv0 : tc_is G v0 9) (h : bl_X9_readsMost_47 G K4 v0 v2 s0 u = some (r, ur)) : tc_R p l e { frames := 2, cells := 0, slots := 0, locals := 45 } s m args below meth c z D cX9_readsMost RX9 4 (some .int) 0 0 (tc_po r G ur) 0 0 G u 47 [(0, .ref (z + v0)), (2, .int v2)] [.int s0] := by
  unfold bl_X9_readsMost_47 at h
  refine tc_istore_n [(1, .int s0), (0, .ref (z + v0)), (2, .int v2)] dX9_readsMost_47 (by decide) rfl ?_
  obtain ⟨x1, ex1, h⟩ := tc_let_ex h
  refine tc_iinc 2 (v := x1) [(2, .int x1), (1, .int s0), (0, .ref (z + v0))] dX9_readsMost_48 rfl (by rw [ex1]; rfl) (by decide) rfl ?_
  refine tc_goto 4 dX9_readsMost_51 (by decide) ?_
  refine tc_lvs [2, 1, 0] rfl ?_
  exact hK4 v0 s0 x1 u iv0 h
set_option maxRecDepth 100000 in
set_option maxHeartbeats 4000000 in
theorem sb_X9_readsMost_36 {p : Program} {l : Launch} {e : Env} {s : State} {m : MethodId} {args : Array Value} {below : List Frame} {meth : Method} {c : Code} {z : Nat} {D : tc_D} {G : tc_G} (hW : tc_W G) (r : Int32) (ur : tc_S) (K4 : Nat → Int32 → Int32 → tc_S → Option (Int32 × tc_S)) (hK4 : ∀ (v0 : Nat) (v1 : Int32) (v2 : Int32) (u : tc_S), tc_is G v0 9 → K4 v0 v1 v2 u = some (r, ur) → tc_R p l e { frames := 2, cells := 0, slots := 0, locals := 45 } s m args below meth c z D cX9_readsMost RX9 4 (some .int) 0 0 (tc_po r G ur) 0 0 G u 4 [(0, .ref (z + v0)), (1, .int v1), (2, .int v2)] []) (v0 : Nat) (v1 : Int32) (v2 : Int32) (s0 : Int32) (u : tc_S) (iv0 : tc_is G v0 9) (h : bl_X9_readsMost_36 G K4 v0 v1 v2 s0 u = some (r, ur)) : tc_R p l e { frames := 2, cells := 0, slots := 0, locals := 45 } s m args below meth c z D cX9_readsMost RX9 4 (some .int) 0 0 (tc_po r G ur) 0 0 G u 36 [(0, .ref (z + v0)), (1, .int v1), (2, .int v2)] [.int s0] := by
  unfold bl_X9_readsMost_36 at h
  refine tc_istore_n [(3, .int s0), (0, .ref (z + v0)), (1, .int v1), (2, .int v2)] dX9_readsMost_36 (by decide) rfl ?_
  refine tc_iload_n 0 rfl dX9_readsMost_37 ?_
  refine tc_iload_n 2 rfl dX9_readsMost_38 ?_
  refine tc_icmp_le 46 dX9_readsMost_39 (by decide) (fun hc2 => ?_) (fun hc2 => ?_)
  · rw [if_pos hc2] at h
    refine tc_iload_n 2 rfl dX9_readsMost_46 ?_
    refine tc_lvs [1, 3] rfl ?_
    exact sb_X9_readsMost_47 hW r ur K4 hK4 v0 v2 v1 u iv0 h
  · rw [if_neg hc2] at h
    refine tc_iload_n 0 rfl dX9_readsMost_42 ?_
    refine tc_goto 47 dX9_readsMost_43 (by decide) ?_
    refine tc_lvs [1, 3] rfl ?_
    exact sb_X9_readsMost_47 hW r ur K4 hK4 v0 v2 s0 u iv0 h
set_option maxRecDepth 100000 in
set_option maxHeartbeats 4000000 in
theorem sl_X9_readsMost_4 {p : Program} {l : Launch} {e : Env} {s : State} {m : MethodId} {args : Array Value} {below : List Frame} {meth : Method} {c : Code} {z : Nat} {D : tc_D} {G : tc_G} (hW : tc_W G) (r : Int32) (ur : tc_S) : ∀ (n : Nat) (v0 : Nat) (v1 : Int32) (v2 : Int32) (u : tc_S) (iv0 : tc_is G v0 9) (h : lo_X9_readsMost_4 G n v0 v1 v2 u = some (r, ur)), tc_R p l e { frames := 2, cells := 0, slots := 0, locals := 45 } s m args below meth c z D cX9_readsMost RX9 4 (some .int) 0 0 (tc_po r G ur) 0 0 G u 4 [(0, .ref (z + v0)), (1, .int v1), (2, .int v2)] [] := by
  intro n
  induction n with
  | zero => intro v0 v1 v2 u iv0 h; cases h
  | succ n ih =>
    intro v0 v1 v2 u iv0 h
    rw [lo_X9_readsMost_4] at h
    refine tc_iload_n 2 rfl dX9_readsMost_4 ?_
    refine tc_aload_n 0 rfl dX9_readsMost_5 ?_
    refine tc_geti iv0.1 fl_X9_26 dX9_readsMost_6 ?_
    refine tc_icmp_ge 54 dX9_readsMost_9 (by decide) (fun hc3 => ?_) (fun hc3 => ?_)
    · rw [if_pos hc3] at h
      refine tc_iload_n 1 rfl dX9_readsMost_54 ?_
      cases h
      exact tc_ireturn rfl dX9_readsMost_55 rfl rfl ⟨rfl, rfl, rfl⟩
    · rw [if_neg hc3] at h
      refine tc_aload_n 0 rfl dX9_readsMost_12 ?_
      refine tc_getp hW iv0 fl_X9_29 dX9_readsMost_13 rfl ?_
      refine tc_iload_n 2 rfl dX9_readsMost_16 ?_
      obtain ⟨bx4, x4, ex4, h⟩ := tc_ld_ex h
      refine tc_iald (hW.p iv0 3 rfl).1 bx4 dX9_readsMost_17 ?_
      refine tc_nm ex4 ?_
      refine tc_if_lt 35 dX9_readsMost_18 (by decide) (fun hc5 => ?_) (fun hc5 => ?_)
      · rw [if_pos hc5] at h
        refine tc_iconst (v := 0) (by decide) dX9_readsMost_35 ?_
        exact sb_X9_readsMost_36 hW r ur _ ih v0 v1 v2 0 u iv0 h
      · rw [if_neg hc5] at h
        refine tc_aload_n 0 rfl dX9_readsMost_21 ?_
        refine tc_aload_n 0 rfl dX9_readsMost_22 ?_
        refine tc_getp hW iv0 fl_X9_29 dX9_readsMost_23 rfl ?_
        refine tc_iload_n 2 rfl dX9_readsMost_26 ?_
        obtain ⟨bx6, x6, ex6, h⟩ := tc_ld_ex h
        refine tc_iald (hW.p iv0 3 rfl).1 bx6 dX9_readsMost_27 ?_
        refine tc_nm ex6 ?_
        refine tc_iload_n 2 rfl dX9_readsMost_28 ?_
        obtain ⟨x7, u8, hq9, h⟩ := tc_b_ex h
        refine tc_callVi [.int x6, .int v2] dX9_readsMost_29 iv0.1 (ct_X9_readsTill hW iv0 hq9) ml_X9_124 mw_X9_readsTill mv_X9_readsTill ⟨Nat.le_of_ble_eq_true rfl, Nat.le_of_ble_eq_true rfl⟩ rfl rfl (Nat.le_of_ble_eq_true rfl) ⟨Nat.le_refl _, Nat.le_refl _⟩ (by decide) ?_
        refine tc_goto 36 dX9_readsMost_32 (by decide) ?_
        exact sb_X9_readsMost_36 hW r ur _ ih v0 v1 v2 x7 u8 iv0 h
set_option maxRecDepth 100000 in
set_option maxHeartbeats 4000000 in
theorem ct_X9_readsMost {l : Launch} {z : Nat} {D : tc_D} {G : tc_G} (hW : tc_W G) {v0 : Nat} {u : tc_S} {r : Int32} {ur : tc_S} (iv0 : tc_is G v0 9) (h : fn_X9_readsMost G v0 u = some (r, ur)) : tc_C l z D yX9_readsMost cX9_readsMost 4 (some .int) 2 45 0 0 [.ref (z + v0)] G u (tc_po r G ur) := by
  unfold fn_X9_readsMost at h
  refine tc_C.of (by decide) (Nat.le_of_ble_eq_true rfl) fun p e s m args below meth c => ?_
  show tc_R p l e { frames := 2, cells := 0, slots := 0, locals := 45 } s m args below meth c z D cX9_readsMost RX9 4 (some .int) 0 0 (tc_po r G ur) 0 0 G u 0 [(0, .ref (z + v0))] []
  refine tc_iconst (v := 0) (by decide) dX9_readsMost_0 ?_
  refine tc_istore_n [(1, .int 0), (0, .ref (z + v0))] dX9_readsMost_1 (by decide) rfl ?_
  refine tc_iconst (v := 0) (by decide) dX9_readsMost_2 ?_
  refine tc_istore_n [(2, .int 0), (1, .int 0), (0, .ref (z + v0))] dX9_readsMost_3 (by decide) rfl ?_
  refine tc_lvs [2, 1, 0] rfl ?_
  exact sl_X9_readsMost_4 hW r ur  _ v0 0 0 u iv0 h
set_option maxRecDepth 100000 in
set_option maxHeartbeats 4000000 in
theorem sb_X10_append_46 {p : Program} {l : Launch} {e : Env} {s : State} {m : MethodId} {args : Array Value} {below : List Frame} {meth : Method} {c : Code} {z : Nat} {D : tc_D} {G : tc_G} (hW : tc_W G) (r : Int32) (ur : tc_S) (u : tc_S) (h : bl_X10_append_46 G  u = some (r, ur)) : tc_R p l e { frames := 0, cells := 0, slots := 0, locals := 0 } s m args below meth c z D cX10_append RX10 3 none 0 0 (tc_pv G ur) 0 0 G u 46 [] [] := by
  unfold bl_X10_append_46 at h
  cases h
  exact tc_return rfl dX10_append_46 rfl rfl ⟨rfl, rfl, rfl⟩
set_option maxRecDepth 100000 in
set_option maxHeartbeats 4000000 in
theorem sl_X10_append_3 {p : Program} {l : Launch} {e : Env} {s : State} {m : MethodId} {args : Array Value} {below : List Frame} {meth : Method} {c : Code} {z : Nat} {D : tc_D} {G : tc_G} (hW : tc_W G) (r : Int32) (ur : tc_S) : ∀ (n : Nat) (v0 : Nat) (v1 : Int32) (v2 : Int32) (u : tc_S) (iv0 : tc_is G v0 10) (h : lo_X10_append_3 G n v0 v1 v2 u = some (r, ur)), tc_R p l e { frames := 0, cells := 0, slots := 0, locals := 0 } s m args below meth c z D cX10_append RX10 3 none 0 0 (tc_pv G ur) 0 0 G u 3 [(0, .ref (z + v0)), (1, .int v1), (2, .int v2)] [] := by
  intro n
  induction n with
  | zero => intro v0 v1 v2 u iv0 h; cases h
  | succ n ih =>
    intro v0 v1 v2 u iv0 h
    rw [lo_X10_append_3] at h
    refine tc_iload_n 2 rfl dX10_append_3 ?_
    refine tc_if_lt 46 dX10_append_4 (by decide) (fun hc1 => ?_) (fun hc1 => ?_)
    · rw [if_pos hc1] at h
      refine tc_lvs [] rfl ?_
      exact sb_X10_append_46 hW r ur   u  h
    · rw [if_neg hc1] at h
      refine tc_aload_n 0 rfl dX10_append_7 ?_
      refine tc_geti iv0.1 fl_X10_28 dX10_append_8 ?_
      refine tc_sipush (v := 400) (by decide) dX10_append_11 ?_
      refine tc_icmp_ge 46 dX10_append_14 (by decide) (fun hc2 => ?_) (fun hc2 => ?_)
      · rw [if_pos hc2] at h
        refine tc_lvs [] rfl ?_
        exact sb_X10_append_46 hW r ur   u  h
      · rw [if_neg hc2] at h
        refine tc_aload_n 0 rfl dX10_append_17 ?_
        refine tc_getp hW iv0 fl_X10_20 dX10_append_18 rfl ?_
        refine tc_aload_n 0 rfl dX10_append_21 ?_
        refine tc_geti iv0.1 fl_X10_28 dX10_append_22 ?_
        refine tc_iload_n 1 rfl dX10_append_25 ?_
        refine tc_iload_n 2 rfl dX10_append_26 ?_
        refine tc_ishr dX10_append_27 ?_
        refine tc_i2b dX10_append_28 ?_
        obtain ⟨bu3, u3, eu3, h⟩ := tc_sd_ex h
        refine tc_bast (hW.p iv0 1 rfl).1 bu3 dX10_append_29 ?_
        refine tc_nmu eu3 ?_
        refine tc_aload_n 0 rfl dX10_append_30 ?_
        refine tc_dup rfl dX10_append_31 ?_
        refine tc_geti iv0.1 fl_X10_28 dX10_append_32 ?_
        refine tc_iconst (v := 1) (by decide) dX10_append_35 ?_
        refine tc_iadd dX10_append_36 ?_
        obtain ⟨u4, eu4, h⟩ := tc_let_ex h
        refine tc_puti iv0.1 fl_X10_28 dX10_append_37 ?_
        refine tc_nmu eu4 ?_
        obtain ⟨x5, ex5, h⟩ := tc_let_ex h
        refine tc_iinc 2 (v := x5) [(2, .int x5), (0, .ref (z + v0)), (1, .int v1)] dX10_append_40 rfl (by rw [ex5]; rfl) (by decide) rfl ?_
        refine tc_goto 3 dX10_append_43 (by decide) ?_
        refine tc_lvs [1, 2, 0] rfl ?_
        exact ih v0 v1 x5 u4 iv0 h
set_option maxRecDepth 100000 in
set_option maxHeartbeats 4000000 in
theorem ct_X10_append {l : Launch} {z : Nat} {D : tc_D} {G : tc_G} (hW : tc_W G) {v0 : Nat} {v1 : Int32} {u : tc_S} {r : Int32} {ur : tc_S} (iv0 : tc_is G v0 10) (h : fn_X10_append G v0 v1 u = some (r, ur)) : tc_C l z D yX10_append cX10_append 3 none 0 0 0 0 [.ref (z + v0), .int v1] G u (tc_pv G ur) := by
  unfold fn_X10_append at h
  refine tc_C.of (by decide) (Nat.le_of_ble_eq_true rfl) fun p e s m args below meth c => ?_
  show tc_R p l e { frames := 0, cells := 0, slots := 0, locals := 0 } s m args below meth c z D cX10_append RX10 3 none 0 0 (tc_pv G ur) 0 0 G u 0 [(0, .ref (z + v0)), (1, .int v1)] []
  refine tc_bipush (v := 24) (by decide) dX10_append_0 ?_
  refine tc_istore_n [(2, .int 24), (0, .ref (z + v0)), (1, .int v1)] dX10_append_2 (by decide) rfl ?_
  refine tc_lvs [1, 2, 0] rfl ?_
  exact sl_X10_append_3 hW r ur  _ v0 v1 24 u iv0 h
set_option maxRecDepth 100000 in
set_option maxHeartbeats 4000000 in
theorem ct_X10_copyFrom {l : Launch} {z : Nat} {D : tc_D} {G : tc_G} (hW : tc_W G) {v0 : Nat} {v1 : Nat} {u : tc_S} {r : Int32} {ur : tc_S} (iv0 : tc_is G v0 10) (iv1 : tc_is G v1 10) (h : fn_X10_copyFrom G v0 v1 u = some (r, ur)) : tc_C l z D yX10_copyFrom cX10_copyFrom 2 none 3 66 0 0 [.ref (z + v0), .ref (z + v1)] G u (tc_pv G ur) := by
  unfold fn_X10_copyFrom at h
  refine tc_C.of (by decide) (Nat.le_of_ble_eq_true rfl) fun p e s m args below meth c => ?_
  show tc_R p l e { frames := 3, cells := 0, slots := 0, locals := 66 } s m args below meth c z D cX10_copyFrom RX10 2 none 0 0 (tc_pv G ur) 0 0 G u 0 [(0, .ref (z + v0)), (1, .ref (z + v1))] []
  refine tc_aload_n 0 rfl dX10_copyFrom_0 ?_
  refine tc_getp hW iv0 fl_X10_14 dX10_copyFrom_1 rfl ?_
  refine tc_aload_n 1 rfl dX10_copyFrom_4 ?_
  refine tc_getp hW iv1 fl_X10_14 dX10_copyFrom_5 rfl ?_
  obtain ⟨x1, u2, hq3, h⟩ := tc_b_ex h
  refine tc_callVv [.ref (z + (tc_p G v1 0))] dX10_copyFrom_8 (hW.p iv0 0 rfl).1 (ct_X9_copyFrom hW (hW.p iv0 0 rfl) (hW.p iv1 0 rfl) hq3) ml_X10_31 mw_X9_copyFrom mv_X9_copyFrom ⟨Nat.le_of_ble_eq_true rfl, Nat.le_of_ble_eq_true rfl⟩ rfl rfl (Nat.le_of_ble_eq_true rfl) ⟨Nat.le_refl _, Nat.le_refl _⟩ (by decide) ?_
  refine tc_aload_n 1 rfl dX10_copyFrom_11 ?_
  refine tc_getp hW iv1 fl_X10_20 dX10_copyFrom_12 rfl ?_
  refine tc_iconst (v := 0) (by decide) dX10_copyFrom_15 ?_
  refine tc_aload_n 0 rfl dX10_copyFrom_16 ?_
  refine tc_getp hW iv0 fl_X10_20 dX10_copyFrom_17 rfl ?_
  refine tc_iconst (v := 0) (by decide) dX10_copyFrom_20 ?_
  refine tc_sipush (v := 400) (by decide) dX10_copyFrom_21 ?_
  obtain ⟨bu4, u4, eu4, h⟩ := tc_cp_ex h
  refine tc_copy (hW.p iv1 1 rfl).1 (hW.p iv0 1 rfl).1 (by decide) bu4 dX10_copyFrom_24 ml_X10_35 (Nat.le_of_ble_eq_true rfl) (Nat.le_of_ble_eq_true rfl) ?_
  refine tc_nmu eu4 ?_
  refine tc_aload_n 0 rfl dX10_copyFrom_27 ?_
  refine tc_aload_n 1 rfl dX10_copyFrom_28 ?_
  refine tc_geti iv1.1 fl_X10_28 dX10_copyFrom_29 ?_
  obtain ⟨u5, eu5, h⟩ := tc_let_ex h
  refine tc_puti iv0.1 fl_X10_28 dX10_copyFrom_32 ?_
  refine tc_nmu eu5 ?_
  refine tc_aload_n 0 rfl dX10_copyFrom_35 ?_
  refine tc_aload_n 1 rfl dX10_copyFrom_36 ?_
  refine tc_geti iv1.1 fl_X10_41 dX10_copyFrom_37 ?_
  obtain ⟨u6, eu6, h⟩ := tc_let_ex h
  refine tc_puti iv0.1 fl_X10_41 dX10_copyFrom_40 ?_
  refine tc_nmu eu6 ?_
  refine tc_aload_n 0 rfl dX10_copyFrom_43 ?_
  refine tc_aload_n 1 rfl dX10_copyFrom_44 ?_
  refine tc_geti iv1.1 fl_X10_24 dX10_copyFrom_45 ?_
  obtain ⟨u7, eu7, h⟩ := tc_let_ex h
  refine tc_puti iv0.1 fl_X10_24 dX10_copyFrom_48 ?_
  refine tc_nmu eu7 ?_
  cases h
  exact tc_return rfl dX10_copyFrom_51 rfl rfl ⟨rfl, rfl, rfl⟩
set_option maxRecDepth 100000 in
set_option maxHeartbeats 4000000 in
theorem ct_X11_feed {l : Launch} {z : Nat} {D : tc_D} {G : tc_G} (hW : tc_W G) {v0 : Nat} {v1 : Int32} {v2 : Int32} {v3 : Int32} {v4 : Int32} {v5 : Int32} {u : tc_S} {r : Int32} {ur : tc_S} (iv0 : tc_is G v0 11) (h : fn_X11_feed G v0 v1 v2 v3 v4 v5 u = some (r, ur)) : tc_C l z D yX11_feed cX11_feed 6 (some .int) 1 22 0 0 [.ref (z + v0), .int v1, .int v2, .int v3, .int v4, .int v5] G u (tc_po r G ur) := by
  unfold fn_X11_feed at h
  refine tc_C.of (by decide) (Nat.le_of_ble_eq_true rfl) fun p e s m args below meth c => ?_
  show tc_R p l e { frames := 1, cells := 0, slots := 0, locals := 22 } s m args below meth c z D cX11_feed RX11 6 (some .int) 0 0 (tc_po r G ur) 0 0 G u 0 [(0, .ref (z + v0)), (1, .int v1), (2, .int v2), (3, .int v3), (4, .int v4), (5, .int v5)] []
  refine tc_aload_n 0 rfl dX11_feed_0 ?_
  refine tc_getp hW iv0 fl_X11_12 dX11_feed_1 rfl ?_
  refine tc_geti (hW.p iv0 0 rfl).1 fl_X11_90 dX11_feed_4 ?_
  refine tc_bipush (v := 20) (by decide) dX11_feed_7 ?_
  refine tc_iadd dX11_feed_9 ?_
  refine tc_sipush (v := 400) (by decide) dX11_feed_10 ?_
  refine tc_icmp_le 18 dX11_feed_13 (by decide) (fun hc1 => ?_) (fun hc1 => ?_)
  · rw [if_pos hc1] at h
    refine tc_aload_n 0 rfl dX11_feed_18 ?_
    refine tc_getp hW iv0 fl_X11_12 dX11_feed_19 rfl ?_
    refine tc_iload_n 1 rfl dX11_feed_22 ?_
    obtain ⟨x2, u3, hq4, h⟩ := tc_b_ex h
    refine tc_callVv [.int v1] dX11_feed_23 (hW.p iv0 0 rfl).1 (ct_X10_append hW (hW.p iv0 0 rfl) hq4) ml_X11_94 mw_X10_append mv_X10_append ⟨Nat.le_of_ble_eq_true rfl, Nat.le_of_ble_eq_true rfl⟩ rfl rfl (Nat.le_of_ble_eq_true rfl) ⟨Nat.le_refl _, Nat.le_refl _⟩ (by decide) ?_
    refine tc_aload_n 0 rfl dX11_feed_26 ?_
    refine tc_getp hW iv0 fl_X11_12 dX11_feed_27 rfl ?_
    refine tc_iload_n 2 rfl dX11_feed_30 ?_
    obtain ⟨x5, u6, hq7, h⟩ := tc_b_ex h
    refine tc_callVv [.int v2] dX11_feed_31 (hW.p iv0 0 rfl).1 (ct_X10_append hW (hW.p iv0 0 rfl) hq7) ml_X11_94 mw_X10_append mv_X10_append ⟨Nat.le_of_ble_eq_true rfl, Nat.le_of_ble_eq_true rfl⟩ rfl rfl (Nat.le_of_ble_eq_true rfl) ⟨Nat.le_refl _, Nat.le_refl _⟩ (by decide) ?_
    refine tc_aload_n 0 rfl dX11_feed_34 ?_
    refine tc_getp hW iv0 fl_X11_12 dX11_feed_35 rfl ?_
    refine tc_iload_n 3 rfl dX11_feed_38 ?_
    obtain ⟨x8, u9, hq10, h⟩ := tc_b_ex h
    refine tc_callVv [.int v3] dX11_feed_39 (hW.p iv0 0 rfl).1 (ct_X10_append hW (hW.p iv0 0 rfl) hq10) ml_X11_94 mw_X10_append mv_X10_append ⟨Nat.le_of_ble_eq_true rfl, Nat.le_of_ble_eq_true rfl⟩ rfl rfl (Nat.le_of_ble_eq_true rfl) ⟨Nat.le_refl _, Nat.le_refl _⟩ (by decide) ?_
    refine tc_aload_n 0 rfl dX11_feed_42 ?_
    refine tc_getp hW iv0 fl_X11_12 dX11_feed_43 rfl ?_
    refine tc_iload 4 rfl dX11_feed_46 ?_
    obtain ⟨x11, u12, hq13, h⟩ := tc_b_ex h
    refine tc_callVv [.int v4] dX11_feed_48 (hW.p iv0 0 rfl).1 (ct_X10_append hW (hW.p iv0 0 rfl) hq13) ml_X11_94 mw_X10_append mv_X10_append ⟨Nat.le_of_ble_eq_true rfl, Nat.le_of_ble_eq_true rfl⟩ rfl rfl (Nat.le_of_ble_eq_true rfl) ⟨Nat.le_refl _, Nat.le_refl _⟩ (by decide) ?_
    refine tc_aload_n 0 rfl dX11_feed_51 ?_
    refine tc_getp hW iv0 fl_X11_12 dX11_feed_52 rfl ?_
    refine tc_iload 5 rfl dX11_feed_55 ?_
    obtain ⟨x14, u15, hq16, h⟩ := tc_b_ex h
    refine tc_callVv [.int v5] dX11_feed_57 (hW.p iv0 0 rfl).1 (ct_X10_append hW (hW.p iv0 0 rfl) hq16) ml_X11_94 mw_X10_append mv_X10_append ⟨Nat.le_of_ble_eq_true rfl, Nat.le_of_ble_eq_true rfl⟩ rfl rfl (Nat.le_of_ble_eq_true rfl) ⟨Nat.le_refl _, Nat.le_refl _⟩ (by decide) ?_
    refine tc_aload_n 0 rfl dX11_feed_60 ?_
    refine tc_getp hW iv0 fl_X11_12 dX11_feed_61 rfl ?_
    refine tc_geti (hW.p iv0 0 rfl).1 fl_X11_90 dX11_feed_64 ?_
    cases h
    exact tc_ireturn rfl dX11_feed_67 rfl rfl ⟨rfl, rfl, rfl⟩
  · rw [if_neg hc1] at h
    refine tc_iconst (v := (-1)) (by decide) dX11_feed_16 ?_
    cases h
    exact tc_ireturn rfl dX11_feed_17 rfl rfl ⟨rfl, rfl, rfl⟩
set_option maxRecDepth 100000 in
set_option maxHeartbeats 4000000 in
theorem sb_X11_end_15 {p : Program} {l : Launch} {e : Env} {s : State} {m : MethodId} {args : Array Value} {below : List Frame} {meth : Method} {c : Code} {z : Nat} {D : tc_D} {G : tc_G} (hW : tc_W G) (r : Int32) (ur : tc_S) (u : tc_S) (h : bl_X11_end_15 G  u = some (r, ur)) : tc_R p l e { frames := 0, cells := 0, slots := 0, locals := 0 } s m args below meth c z D cX11_end RX11 2 (some .int) 0 0 (tc_po r G ur) 0 0 G u 15 [] [] := by
  unfold bl_X11_end_15 at h
  refine tc_iconst (v := (-1)) (by decide) dX11_end_15 ?_
  cases h
  exact tc_ireturn rfl dX11_end_16 rfl rfl ⟨rfl, rfl, rfl⟩
set_option maxRecDepth 100000 in
set_option maxHeartbeats 4000000 in
theorem ct_X11_end {l : Launch} {z : Nat} {D : tc_D} {G : tc_G} (hW : tc_W G) {v0 : Nat} {v1 : Int32} {u : tc_S} {r : Int32} {ur : tc_S} (iv0 : tc_is G v0 11) (h : fn_X11_end G v0 v1 u = some (r, ur)) : tc_C l z D yX11_end cX11_end 2 (some .int) 0 0 0 0 [.ref (z + v0), .int v1] G u (tc_po r G ur) := by
  unfold fn_X11_end at h
  refine tc_C.of (by decide) (Nat.le_of_ble_eq_true rfl) fun p e s m args below meth c => ?_
  show tc_R p l e { frames := 0, cells := 0, slots := 0, locals := 0 } s m args below meth c z D cX11_end RX11 2 (some .int) 0 0 (tc_po r G ur) 0 0 G u 0 [(0, .ref (z + v0)), (1, .int v1)] []
  refine tc_iload_n 1 rfl dX11_end_0 ?_
  refine tc_if_lt 15 dX11_end_1 (by decide) (fun hc1 => ?_) (fun hc1 => ?_)
  · rw [if_pos hc1] at h
    refine tc_lvs [] rfl ?_
    exact sb_X11_end_15 hW r ur   u  h
  · rw [if_neg hc1] at h
    refine tc_iload_n 1 rfl dX11_end_4 ?_
    refine tc_aload_n 0 rfl dX11_end_5 ?_
    refine tc_getp hW iv0 fl_X11_12 dX11_end_6 rfl ?_
    refine tc_geti (hW.p iv0 0 rfl).1 fl_X11_90 dX11_end_9 ?_
    refine tc_icmp_le 17 dX11_end_12 (by decide) (fun hc2 => ?_) (fun hc2 => ?_)
    · rw [if_pos hc2] at h
      refine tc_aload_n 0 rfl dX11_end_17 ?_
      refine tc_getp hW iv0 fl_X11_12 dX11_end_18 rfl ?_
      refine tc_iload_n 1 rfl dX11_end_21 ?_
      obtain ⟨u3, eu3, h⟩ := tc_let_ex h
      refine tc_puti (hW.p iv0 0 rfl).1 fl_X11_90 dX11_end_22 ?_
      refine tc_nmu eu3 ?_
      refine tc_iload_n 1 rfl dX11_end_25 ?_
      cases h
      exact tc_ireturn rfl dX11_end_26 rfl rfl ⟨rfl, rfl, rfl⟩
    · rw [if_neg hc2] at h
      refine tc_lvs [] rfl ?_
      exact sb_X11_end_15 hW r ur   u  h
set_option maxRecDepth 100000 in
set_option maxHeartbeats 4000000 in
theorem sb_X11_text_40 {p : Program} {l : Launch} {e : Env} {s : State} {m : MethodId} {args : Array Value} {below : List Frame} {meth : Method} {c : Code} {z : Nat} {D : tc_D} {G : tc_G} (hW : tc_W G) (r : Int32) (ur : tc_S) (v0 : Nat) (s0 : Int32) (u : tc_S) (iv0 : tc_is G v0 11) (h : bl_X11_text_40 G v0 s0 u = some (r, ur)) : tc_R p l e { frames := 8, cells := 0, slots := 0, locals := 177 } s m args below meth c z D cX11_text RX11 2 (some .int) 0 0 (tc_po r G ur) 0 0 G u 40 [(0, .ref (z + v0))] [.int s0] := by
  unfold bl_X11_text_40 at h
  refine tc_istore_n [(1, .int s0), (0, .ref (z + v0))] dX11_text_40 (by decide) rfl ?_
  refine tc_aload_n 1 rfl dX11_text_41 ?_
  refine tc_getp hW iv0 fl_X11_12 dX11_text_42 rfl ?_
  refine tc_iconst (v := 0) (by decide) dX11_text_45 ?_
  obtain ⟨u1, eu1, h⟩ := tc_let_ex h
  refine tc_puti (hW.p iv0 0 rfl).1 fl_X11_90 dX11_text_46 ?_
  refine tc_nmu eu1 ?_
  refine tc_aload_n 1 rfl dX11_text_49 ?_
  refine tc_getp hW iv0 fl_X11_12 dX11_text_50 rfl ?_
  refine tc_aload_n 1 rfl dX11_text_53 ?_
  refine tc_getp hW iv0 fl_X11_86 dX11_text_54 rfl ?_
  refine tc_geti (hW.p iv0 9 rfl).1 fl_X11_105 dX11_text_57 ?_
  obtain ⟨u2, eu2, h⟩ := tc_let_ex h
  refine tc_puti (hW.p iv0 0 rfl).1 fl_X11_108 dX11_text_60 ?_
  refine tc_nmu eu2 ?_
  refine tc_aload_n 1 rfl dX11_text_63 ?_
  refine tc_getp hW iv0 fl_X11_12 dX11_text_64 rfl ?_
  refine tc_aload_n 1 rfl dX11_text_67 ?_
  refine tc_getp hW iv0 fl_X11_86 dX11_text_68 rfl ?_
  refine tc_geti (hW.p iv0 9 rfl).1 fl_X11_109 dX11_text_71 ?_
  obtain ⟨u3, eu3, h⟩ := tc_let_ex h
  refine tc_puti (hW.p iv0 0 rfl).1 fl_X11_112 dX11_text_74 ?_
  refine tc_nmu eu3 ?_
  refine tc_iload_n 0 rfl dX11_text_77 ?_
  refine tc_if_ne 83 dX11_text_78 (by decide) (fun hc4 => ?_) (fun hc4 => ?_)
  · rw [if_neg hc4] at h
    refine tc_aload_n 1 rfl dX11_text_83 ?_
    refine tc_getp hW iv0 fl_X11_12 dX11_text_84 rfl ?_
    refine tc_getp hW (hW.p iv0 0 rfl) fl_X11_113 dX11_text_87 rfl ?_
    refine tc_aload_n 1 rfl dX11_text_90 ?_
    refine tc_getp hW iv0 fl_X11_25 dX11_text_91 rfl ?_
    obtain ⟨x5, u6, hq7, h⟩ := tc_b_ex h
    refine tc_callVv [.ref (z + (tc_p G v0 2))] dX11_text_94 (hW.p (hW.p iv0 0 rfl) 0 rfl).1 (ct_X9_copyFrom hW (hW.p (hW.p iv0 0 rfl) 0 rfl) (hW.p iv0 2 rfl) hq7) ml_X11_116 mw_X9_copyFrom mv_X9_copyFrom ⟨Nat.le_of_ble_eq_true rfl, Nat.le_of_ble_eq_true rfl⟩ rfl rfl (Nat.le_of_ble_eq_true rfl) ⟨Nat.le_refl _, Nat.le_refl _⟩ (by decide) ?_
    refine tc_aload_n 1 rfl dX11_text_97 ?_
    refine tc_getp hW iv0 fl_X11_12 dX11_text_98 rfl ?_
    refine tc_getp hW (hW.p iv0 0 rfl) fl_X11_113 dX11_text_101 rfl ?_
    obtain ⟨x8, u9, hq10, h⟩ := tc_b_ex h
    refine tc_callVi [] dX11_text_104 (hW.p (hW.p iv0 0 rfl) 0 rfl).1 (ct_X9_entries hW (hW.p (hW.p iv0 0 rfl) 0 rfl) hq10) ml_X11_120 mw_X9_entries mv_X9_entries ⟨Nat.le_of_ble_eq_true rfl, Nat.le_of_ble_eq_true rfl⟩ rfl rfl (Nat.le_of_ble_eq_true rfl) ⟨Nat.le_refl _, Nat.le_refl _⟩ (by decide) ?_
    cases h
    exact tc_ireturn rfl dX11_text_107 rfl rfl ⟨rfl, rfl, rfl⟩
  · rw [if_pos hc4] at h
    refine tc_iconst (v := (-1)) (by decide) dX11_text_81 ?_
    cases h
    exact tc_ireturn rfl dX11_text_82 rfl rfl ⟨rfl, rfl, rfl⟩
set_option maxRecDepth 100000 in
set_option maxHeartbeats 4000000 in
theorem sb_X11_text_39 {p : Program} {l : Launch} {e : Env} {s : State} {m : MethodId} {args : Array Value} {below : List Frame} {meth : Method} {c : Code} {z : Nat} {D : tc_D} {G : tc_G} (hW : tc_W G) (r : Int32) (ur : tc_S) (v0 : Nat) (u : tc_S) (iv0 : tc_is G v0 11) (h : bl_X11_text_39 G v0 u = some (r, ur)) : tc_R p l e { frames := 8, cells := 0, slots := 0, locals := 177 } s m args below meth c z D cX11_text RX11 2 (some .int) 0 0 (tc_po r G ur) 0 0 G u 39 [(0, .ref (z + v0))] [] := by
  unfold bl_X11_text_39 at h
  refine tc_iconst (v := 0) (by decide) dX11_text_39 ?_
  exact sb_X11_text_40 hW r ur  v0 0 u iv0 h
set_option maxRecDepth 100000 in
set_option maxHeartbeats 4000000 in
theorem ct_X11_text {l : Launch} {z : Nat} {D : tc_D} {G : tc_G} (hW : tc_W G) {v0 : Nat} {u : tc_S} {r : Int32} {ur : tc_S} (iv0 : tc_is G v0 11) (h : fn_X11_text G v0 u = some (r, ur)) : tc_C l z D yX11_text cX11_text 2 (some .int) 8 177 0 0 [.ref (z + v0)] G u (tc_po r G ur) := by
  unfold fn_X11_text at h
  refine tc_C.of (by decide) (Nat.le_of_ble_eq_true rfl) fun p e s m args below meth c => ?_
  show tc_R p l e { frames := 8, cells := 0, slots := 0, locals := 177 } s m args below meth c z D cX11_text RX11 2 (some .int) 0 0 (tc_po r G ur) 0 0 G u 0 [(0, .ref (z + v0))] []
  refine tc_aload_n 0 rfl dX11_text_0 ?_
  refine tc_getp hW iv0 fl_X11_86 dX11_text_1 rfl ?_
  refine tc_aload_n 0 rfl dX11_text_4 ?_
  refine tc_getp hW iv0 fl_X11_12 dX11_text_5 rfl ?_
  refine tc_geti (hW.p iv0 0 rfl).1 fl_X11_90 dX11_text_8 ?_
  obtain ⟨x11, u12, hq13, h⟩ := tc_b_ex h
  refine tc_callVi [.int (u.1 (tc_p G v0 0) 2)] dX11_text_11 (hW.p iv0 9 rfl).1 (ct_X6_read hW (hW.p iv0 9 rfl) hq13) ml_X11_97 mw_X6_read mv_X6_read ⟨Nat.le_of_ble_eq_true rfl, Nat.le_of_ble_eq_true rfl⟩ rfl rfl (Nat.le_of_ble_eq_true rfl) ⟨Nat.le_refl _, Nat.le_refl _⟩ (by decide) ?_
  refine tc_if_eq 39 dX11_text_14 (by decide) (fun hc14 => ?_) (fun hc14 => ?_)
  · rw [if_pos hc14] at h
    exact sb_X11_text_39 hW r ur  v0 u12 iv0 h
  · rw [if_neg hc14] at h
    refine tc_aload_n 0 rfl dX11_text_17 ?_
    refine tc_getp hW iv0 fl_X11_86 dX11_text_18 rfl ?_
    refine tc_aload_n 0 rfl dX11_text_21 ?_
    refine tc_getp hW iv0 fl_X11_25 dX11_text_22 rfl ?_
    refine tc_aload_n 0 rfl dX11_text_25 ?_
    refine tc_getp hW iv0 fl_X11_57 dX11_text_26 rfl ?_
    obtain ⟨x15, u16, hq17, h⟩ := tc_b_ex h
    refine tc_callVi [.ref (z + (tc_p G v0 2)), .ref (z + (tc_p G v0 6))] dX11_text_29 (hW.p iv0 9 rfl).1 (ct_X6_enterAll hW (hW.p iv0 9 rfl) (hW.p iv0 2 rfl) (hW.p iv0 6 rfl) hq17) ml_X11_101 mw_X6_enterAll mv_X6_enterAll ⟨Nat.le_of_ble_eq_true rfl, Nat.le_of_ble_eq_true rfl⟩ rfl rfl (Nat.le_of_ble_eq_true rfl) ⟨Nat.le_refl _, Nat.le_refl _⟩ (by decide) ?_
    refine tc_if_eq 39 dX11_text_32 (by decide) (fun hc18 => ?_) (fun hc18 => ?_)
    · rw [if_pos hc18] at h
      exact sb_X11_text_39 hW r ur  v0 u16 iv0 h
    · rw [if_neg hc18] at h
      refine tc_iconst (v := 1) (by decide) dX11_text_35 ?_
      refine tc_goto 40 dX11_text_36 (by decide) ?_
      exact sb_X11_text_40 hW r ur  v0 1 u16 iv0 h
set_option maxRecDepth 100000 in
set_option maxHeartbeats 4000000 in
theorem sb_X11_fault_28 {p : Program} {l : Launch} {e : Env} {s : State} {m : MethodId} {args : Array Value} {below : List Frame} {meth : Method} {c : Code} {z : Nat} {D : tc_D} {G : tc_G} (hW : tc_W G) (r : Int32) (ur : tc_S) (s0 : Int32) (u : tc_S) (h : bl_X11_fault_28 G s0 u = some (r, ur)) : tc_R p l e { frames := 0, cells := 0, slots := 0, locals := 0 } s m args below meth c z D cX11_fault RX11 2 (some .int) 0 0 (tc_po r G ur) 0 0 G u 28 [] [.int s0] := by
  unfold bl_X11_fault_28 at h
  cases h
  exact tc_ireturn rfl dX11_fault_28 rfl rfl ⟨rfl, rfl, rfl⟩
set_option maxRecDepth 100000 in
set_option maxHeartbeats 4000000 in
theorem ct_X11_fault {l : Launch} {z : Nat} {D : tc_D} {G : tc_G} (hW : tc_W G) {v0 : Nat} {v1 : Int32} {u : tc_S} {r : Int32} {ur : tc_S} (iv0 : tc_is G v0 11) (h : fn_X11_fault G v0 v1 u = some (r, ur)) : tc_C l z D yX11_fault cX11_fault 2 (some .int) 0 0 0 0 [.ref (z + v0), .int v1] G u (tc_po r G ur) := by
  unfold fn_X11_fault at h
  refine tc_C.of (by decide) (Nat.le_of_ble_eq_true rfl) fun p e s m args below meth c => ?_
  show tc_R p l e { frames := 0, cells := 0, slots := 0, locals := 0 } s m args below meth c z D cX11_fault RX11 2 (some .int) 0 0 (tc_po r G ur) 0 0 G u 0 [(0, .ref (z + v0)), (1, .int v1)] []
  refine tc_iload_n 1 rfl dX11_fault_0 ?_
  refine tc_if_ne 12 dX11_fault_1 (by decide) (fun hc1 => ?_) (fun hc1 => ?_)
  · rw [if_neg hc1] at h
    refine tc_iload_n 1 rfl dX11_fault_12 ?_
    refine tc_iconst (v := 1) (by decide) dX11_fault_13 ?_
    refine tc_icmp_ne 27 dX11_fault_14 (by decide) (fun hc2 => ?_) (fun hc2 => ?_)
    · rw [if_neg hc2] at h
      refine tc_iconst (v := (-1)) (by decide) dX11_fault_27 ?_
      refine tc_lvs [] rfl ?_
      exact sb_X11_fault_28 hW r ur  (-1) u  h
    · rw [if_pos hc2] at h
      refine tc_aload_n 0 rfl dX11_fault_17 ?_
      refine tc_getp hW iv0 fl_X11_12 dX11_fault_18 rfl ?_
      refine tc_geti (hW.p iv0 0 rfl).1 fl_X11_112 dX11_fault_21 ?_
      refine tc_goto 28 dX11_fault_24 (by decide) ?_
      refine tc_lvs [] rfl ?_
      exact sb_X11_fault_28 hW r ur  (u.1 (tc_p G v0 0) 4) u  h
  · rw [if_pos hc1] at h
    refine tc_aload_n 0 rfl dX11_fault_4 ?_
    refine tc_getp hW iv0 fl_X11_12 dX11_fault_5 rfl ?_
    refine tc_geti (hW.p iv0 0 rfl).1 fl_X11_108 dX11_fault_8 ?_
    cases h
    exact tc_ireturn rfl dX11_fault_11 rfl rfl ⟨rfl, rfl, rfl⟩
set_option maxRecDepth 100000 in
set_option maxHeartbeats 4000000 in
theorem sb_X11_isNumber_16 {p : Program} {l : Launch} {e : Env} {s : State} {m : MethodId} {args : Array Value} {below : List Frame} {meth : Method} {c : Code} {z : Nat} {D : tc_D} {G : tc_G} (hW : tc_W G) (r : Int32) (ur : tc_S) (s0 : Int32) (u : tc_S) (h : bl_X11_isNumber_16 G s0 u = some (r, ur)) : tc_R p l e { frames := 0, cells := 0, slots := 0, locals := 0 } s m args below meth c z D cX11_isNumber RX11 1 (some .boolean) 0 0 (tc_po r G ur) 0 0 G u 16 [] [.int s0] := by
  unfold bl_X11_isNumber_16 at h
  obtain ⟨hz1, h⟩ := tc_zo_ex h
  cases h
  exact tc_zreturn hz1 rfl dX11_isNumber_16 rfl rfl ⟨rfl, rfl, rfl⟩
set_option maxRecDepth 100000 in
set_option maxHeartbeats 4000000 in
theorem sb_X11_isNumber_15 {p : Program} {l : Launch} {e : Env} {s : State} {m : MethodId} {args : Array Value} {below : List Frame} {meth : Method} {c : Code} {z : Nat} {D : tc_D} {G : tc_G} (hW : tc_W G) (r : Int32) (ur : tc_S) (u : tc_S) (h : bl_X11_isNumber_15 G  u = some (r, ur)) : tc_R p l e { frames := 0, cells := 0, slots := 0, locals := 0 } s m args below meth c z D cX11_isNumber RX11 1 (some .boolean) 0 0 (tc_po r G ur) 0 0 G u 15 [] [] := by
  unfold bl_X11_isNumber_15 at h
  refine tc_iconst (v := 0) (by decide) dX11_isNumber_15 ?_
  exact sb_X11_isNumber_16 hW r ur  0 u  h
set_option maxRecDepth 100000 in
set_option maxHeartbeats 4000000 in
theorem ct_X11_isNumber {l : Launch} {z : Nat} {D : tc_D} {G : tc_G} (hW : tc_W G) {v0 : Int32} {u : tc_S} {r : Int32} {ur : tc_S} (h : fn_X11_isNumber G v0 u = some (r, ur)) : tc_C l z D yX11_isNumber cX11_isNumber 1 (some .boolean) 0 0 0 0 [.int v0] G u (tc_po r G ur) := by
  unfold fn_X11_isNumber at h
  refine tc_C.of (by decide) (Nat.le_of_ble_eq_true rfl) fun p e s m args below meth c => ?_
  show tc_R p l e { frames := 0, cells := 0, slots := 0, locals := 0 } s m args below meth c z D cX11_isNumber RX11 1 (some .boolean) 0 0 (tc_po r G ur) 0 0 G u 0 [(0, .int v0)] []
  refine tc_iload_n 0 rfl dX11_isNumber_0 ?_
  refine tc_if_lt 15 dX11_isNumber_1 (by decide) (fun hc2 => ?_) (fun hc2 => ?_)
  · rw [if_pos hc2] at h
    refine tc_lvs [] rfl ?_
    exact sb_X11_isNumber_15 hW r ur   u  h
  · rw [if_neg hc2] at h
    refine tc_iload_n 0 rfl dX11_isNumber_4 ?_
    refine tc_sipush (v := 1000) (by decide) dX11_isNumber_5 ?_
    refine tc_icmp_ge 15 dX11_isNumber_8 (by decide) (fun hc3 => ?_) (fun hc3 => ?_)
    · rw [if_pos hc3] at h
      refine tc_lvs [] rfl ?_
      exact sb_X11_isNumber_15 hW r ur   u  h
    · rw [if_neg hc3] at h
      refine tc_iconst (v := 1) (by decide) dX11_isNumber_11 ?_
      refine tc_goto 16 dX11_isNumber_12 (by decide) ?_
      refine tc_lvs [] rfl ?_
      exact sb_X11_isNumber_16 hW r ur  1 u  h
