set_option maxRecDepth 100000 in
set_option maxHeartbeats 4000000 in
theorem sb_X12_kickTaken_38 {p : Program} {l : Launch} {e : Env} {s : State} {m : MethodId} {args : Array Value} {below : List Frame} {meth : Method} {c : Code} {z : Nat} {D : tc_D} {G : tc_G} (hW : tc_W G) (r : Int32) (ur : tc_S) (u : tc_S) (h : bl_X12_kickTaken_38 G  u = some (r, ur)) : tc_R p l e { frames := 3, cells := 0, slots := 0, locals := 65 } s m args below meth c z D cX12_kickTaken RX12 1 (some .int) 0 0 (tc_po r G ur) 0 0 G u 38 [] [] := by
  unfold bl_X12_kickTaken_38 at h
  refine tc_iconst (v := 2) (by decide) dX12_kickTaken_38 ?_
  cases h
  exact tc_ireturn rfl dX12_kickTaken_39 rfl rfl ⟨rfl, rfl, rfl⟩
set_option maxRecDepth 100000 in
set_option maxHeartbeats 4000000 in
theorem ct_X12_kickTaken {l : Launch} {z : Nat} {D : tc_D} {G : tc_G} (hW : tc_W G) {v0 : Nat} {u : tc_S} {r : Int32} {ur : tc_S} (iv0 : tc_is G v0 12) (h : fn_X12_kickTaken G v0 u = some (r, ur)) : tc_C l z D yX12_kickTaken cX12_kickTaken 1 (some .int) 3 65 0 0 [.ref (z + v0)] G u (tc_po r G ur) := by
  unfold fn_X12_kickTaken at h
  refine tc_C.of (by decide) (Nat.le_of_ble_eq_true rfl) fun p e s m args below meth c => ?_
  show tc_R p l e { frames := 3, cells := 0, slots := 0, locals := 65 } s m args below meth c z D cX12_kickTaken RX12 1 (some .int) 0 0 (tc_po r G ur) 0 0 G u 0 [(0, .ref (z + v0))] []
  refine tc_aload_n 0 rfl dX12_kickTaken_0 ?_
  refine tc_ldc2 (v := 286880) cl_X12_344 dX12_kickTaken_1 ?_
  obtain ⟨x1, u2, hq3, h⟩ := tc_b_ex h
  refine tc_callVi [.long 286880] dX12_kickTaken_4 iv0.1 (ct_X12_hasWord hW iv0 hq3) ml_X12_337 mw_X12_hasWord mv_X12_hasWord ⟨Nat.le_of_ble_eq_true rfl, Nat.le_of_ble_eq_true rfl⟩ rfl rfl (Nat.le_of_ble_eq_true rfl) ⟨Nat.le_refl _, Nat.le_refl _⟩ (by decide) ?_
  refine tc_if_eq 12 dX12_kickTaken_7 (by decide) (fun hc4 => ?_) (fun hc4 => ?_)
  · rw [if_pos hc4] at h
    refine tc_aload_n 0 rfl dX12_kickTaken_12 ?_
    refine tc_ldc2 (v := 453773) cl_X12_346 dX12_kickTaken_13 ?_
    obtain ⟨x5, u6, hq7, h⟩ := tc_b_ex h
    refine tc_callVi [.long 453773] dX12_kickTaken_16 iv0.1 (ct_X12_hasWord hW iv0 hq7) ml_X12_337 mw_X12_hasWord mv_X12_hasWord ⟨Nat.le_of_ble_eq_true rfl, Nat.le_of_ble_eq_true rfl⟩ rfl rfl (Nat.le_of_ble_eq_true rfl) ⟨Nat.le_refl _, Nat.le_refl _⟩ (by decide) ?_
    refine tc_if_eq 24 dX12_kickTaken_19 (by decide) (fun hc8 => ?_) (fun hc8 => ?_)
    · rw [if_pos hc8] at h
      refine tc_aload_n 0 rfl dX12_kickTaken_24 ?_
      refine tc_ldc2 (v := 202071272150) cl_X12_348 dX12_kickTaken_25 ?_
      obtain ⟨x9, u10, hq11, h⟩ := tc_b_ex h
      refine tc_callVi [.long 202071272150] dX12_kickTaken_28 iv0.1 (ct_X12_hasWord hW iv0 hq11) ml_X12_337 mw_X12_hasWord mv_X12_hasWord ⟨Nat.le_of_ble_eq_true rfl, Nat.le_of_ble_eq_true rfl⟩ rfl rfl (Nat.le_of_ble_eq_true rfl) ⟨Nat.le_refl _, Nat.le_refl _⟩ (by decide) ?_
      refine tc_if_ne 38 dX12_kickTaken_31 (by decide) (fun hc12 => ?_) (fun hc12 => ?_)
      · rw [if_neg hc12] at h
        refine tc_lvs [] rfl ?_
        exact sb_X12_kickTaken_38 hW r ur   u10  h
      · rw [if_pos hc12] at h
        refine tc_aload_n 0 rfl dX12_kickTaken_34 ?_
        obtain ⟨x13, u14, hq15, h⟩ := tc_b_ex h
        refine tc_callVv [] dX12_kickTaken_35 iv0.1 (ct_X12_fails hW iv0 hq15) ml_X12_331 mw_X12_fails mv_X12_fails ⟨Nat.le_of_ble_eq_true rfl, Nat.le_of_ble_eq_true rfl⟩ rfl rfl (Nat.le_of_ble_eq_true rfl) ⟨Nat.le_refl _, Nat.le_refl _⟩ (by decide) ?_
        refine tc_lvs [] rfl ?_
        exact sb_X12_kickTaken_38 hW r ur   u14  h
    · rw [if_neg hc8] at h
      refine tc_iconst (v := 1) (by decide) dX12_kickTaken_22 ?_
      cases h
      exact tc_ireturn rfl dX12_kickTaken_23 rfl rfl ⟨rfl, rfl, rfl⟩
  · rw [if_neg hc4] at h
    refine tc_iconst (v := 0) (by decide) dX12_kickTaken_10 ?_
    cases h
    exact tc_ireturn rfl dX12_kickTaken_11 rfl rfl ⟨rfl, rfl, rfl⟩
set_option maxRecDepth 100000 in
set_option maxHeartbeats 4000000 in
theorem sb_X12_fullTaken_50 {p : Program} {l : Launch} {e : Env} {s : State} {m : MethodId} {args : Array Value} {below : List Frame} {meth : Method} {c : Code} {z : Nat} {D : tc_D} {G : tc_G} (hW : tc_W G) (r : Int32) (ur : tc_S) (u : tc_S) (h : bl_X12_fullTaken_50 G  u = some (r, ur)) : tc_R p l e { frames := 3, cells := 0, slots := 0, locals := 65 } s m args below meth c z D cX12_fullTaken RX12 1 (some .int) 0 0 (tc_po r G ur) 0 0 G u 50 [] [] := by
  unfold bl_X12_fullTaken_50 at h
  refine tc_iconst (v := 3) (by decide) dX12_fullTaken_50 ?_
  cases h
  exact tc_ireturn rfl dX12_fullTaken_51 rfl rfl ⟨rfl, rfl, rfl⟩
set_option maxRecDepth 100000 in
set_option maxHeartbeats 4000000 in
theorem ct_X12_fullTaken {l : Launch} {z : Nat} {D : tc_D} {G : tc_G} (hW : tc_W G) {v0 : Nat} {u : tc_S} {r : Int32} {ur : tc_S} (iv0 : tc_is G v0 12) (h : fn_X12_fullTaken G v0 u = some (r, ur)) : tc_C l z D yX12_fullTaken cX12_fullTaken 1 (some .int) 3 65 0 0 [.ref (z + v0)] G u (tc_po r G ur) := by
  unfold fn_X12_fullTaken at h
  refine tc_C.of (by decide) (Nat.le_of_ble_eq_true rfl) fun p e s m args below meth c => ?_
  show tc_R p l e { frames := 3, cells := 0, slots := 0, locals := 65 } s m args below meth c z D cX12_fullTaken RX12 1 (some .int) 0 0 (tc_po r G ur) 0 0 G u 0 [(0, .ref (z + v0))] []
  refine tc_aload_n 0 rfl dX12_fullTaken_0 ?_
  refine tc_ldc2 (v := 261071456) cl_X12_350 dX12_fullTaken_1 ?_
  obtain ⟨x1, u2, hq3, h⟩ := tc_b_ex h
  refine tc_callVi [.long 261071456] dX12_fullTaken_4 iv0.1 (ct_X12_hasWord hW iv0 hq3) ml_X12_337 mw_X12_hasWord mv_X12_hasWord ⟨Nat.le_of_ble_eq_true rfl, Nat.le_of_ble_eq_true rfl⟩ rfl rfl (Nat.le_of_ble_eq_true rfl) ⟨Nat.le_refl _, Nat.le_refl _⟩ (by decide) ?_
  refine tc_if_eq 12 dX12_fullTaken_7 (by decide) (fun hc4 => ?_) (fun hc4 => ?_)
  · rw [if_pos hc4] at h
    refine tc_aload_n 0 rfl dX12_fullTaken_12 ?_
    refine tc_ldc2 (v := 261096245) cl_X12_352 dX12_fullTaken_13 ?_
    obtain ⟨x5, u6, hq7, h⟩ := tc_b_ex h
    refine tc_callVi [.long 261096245] dX12_fullTaken_16 iv0.1 (ct_X12_hasWord hW iv0 hq7) ml_X12_337 mw_X12_hasWord mv_X12_hasWord ⟨Nat.le_of_ble_eq_true rfl, Nat.le_of_ble_eq_true rfl⟩ rfl rfl (Nat.le_of_ble_eq_true rfl) ⟨Nat.le_refl _, Nat.le_refl _⟩ (by decide) ?_
    refine tc_if_eq 24 dX12_fullTaken_19 (by decide) (fun hc8 => ?_) (fun hc8 => ?_)
    · rw [if_pos hc8] at h
      refine tc_aload_n 0 rfl dX12_fullTaken_24 ?_
      refine tc_ldc2 (v := 151331) cl_X12_354 dX12_fullTaken_25 ?_
      obtain ⟨x9, u10, hq11, h⟩ := tc_b_ex h
      refine tc_callVi [.long 151331] dX12_fullTaken_28 iv0.1 (ct_X12_hasWord hW iv0 hq11) ml_X12_337 mw_X12_hasWord mv_X12_hasWord ⟨Nat.le_of_ble_eq_true rfl, Nat.le_of_ble_eq_true rfl⟩ rfl rfl (Nat.le_of_ble_eq_true rfl) ⟨Nat.le_refl _, Nat.le_refl _⟩ (by decide) ?_
      refine tc_if_eq 36 dX12_fullTaken_31 (by decide) (fun hc12 => ?_) (fun hc12 => ?_)
      · rw [if_pos hc12] at h
        refine tc_aload_n 0 rfl dX12_fullTaken_36 ?_
        refine tc_ldc2 (v := 397838) cl_X12_356 dX12_fullTaken_37 ?_
        obtain ⟨x13, u14, hq15, h⟩ := tc_b_ex h
        refine tc_callVi [.long 397838] dX12_fullTaken_40 iv0.1 (ct_X12_hasWord hW iv0 hq15) ml_X12_337 mw_X12_hasWord mv_X12_hasWord ⟨Nat.le_of_ble_eq_true rfl, Nat.le_of_ble_eq_true rfl⟩ rfl rfl (Nat.le_of_ble_eq_true rfl) ⟨Nat.le_refl _, Nat.le_refl _⟩ (by decide) ?_
        refine tc_if_ne 50 dX12_fullTaken_43 (by decide) (fun hc16 => ?_) (fun hc16 => ?_)
        · rw [if_neg hc16] at h
          refine tc_lvs [] rfl ?_
          exact sb_X12_fullTaken_50 hW r ur   u14  h
        · rw [if_pos hc16] at h
          refine tc_aload_n 0 rfl dX12_fullTaken_46 ?_
          obtain ⟨x17, u18, hq19, h⟩ := tc_b_ex h
          refine tc_callVv [] dX12_fullTaken_47 iv0.1 (ct_X12_fails hW iv0 hq19) ml_X12_331 mw_X12_fails mv_X12_fails ⟨Nat.le_of_ble_eq_true rfl, Nat.le_of_ble_eq_true rfl⟩ rfl rfl (Nat.le_of_ble_eq_true rfl) ⟨Nat.le_refl _, Nat.le_refl _⟩ (by decide) ?_
          refine tc_lvs [] rfl ?_
          exact sb_X12_fullTaken_50 hW r ur   u18  h
      · rw [if_neg hc12] at h
        refine tc_iconst (v := 2) (by decide) dX12_fullTaken_34 ?_
        cases h
        exact tc_ireturn rfl dX12_fullTaken_35 rfl rfl ⟨rfl, rfl, rfl⟩
    · rw [if_neg hc8] at h
      refine tc_iconst (v := 1) (by decide) dX12_fullTaken_22 ?_
      cases h
      exact tc_ireturn rfl dX12_fullTaken_23 rfl rfl ⟨rfl, rfl, rfl⟩
  · rw [if_neg hc4] at h
    refine tc_iconst (v := 0) (by decide) dX12_fullTaken_10 ?_
    cases h
    exact tc_ireturn rfl dX12_fullTaken_11 rfl rfl ⟨rfl, rfl, rfl⟩
set_option maxRecDepth 100000 in
set_option maxHeartbeats 4000000 in
theorem sb_X12_readsHas_95 {p : Program} {l : Launch} {e : Env} {s : State} {m : MethodId} {args : Array Value} {below : List Frame} {meth : Method} {c : Code} {z : Nat} {D : tc_D} {G : tc_G} (hW : tc_W G) (r : Int32) (ur : tc_S) (v0 : Nat) (v1 : Int32) (s0 : Int32) (u : tc_S) (iv0 : tc_is G v0 12) (h : bl_X12_readsHas_95 G v0 v1 s0 u = some (r, ur)) : tc_R p l e { frames := 3, cells := 0, slots := 0, locals := 66 } s m args below meth c z D cX12_readsHas RX12 6 none 0 0 (tc_pv G ur) 0 0 G u 95 [(0, .ref (z + v0)), (1, .int v1)] [.int s0] := by
  unfold bl_X12_readsHas_95 at h
  refine tc_istore_n [(3, .int s0), (0, .ref (z + v0)), (1, .int v1)] dX12_readsHas_95 (by decide) rfl ?_
  refine tc_aload_n 1 rfl dX12_readsHas_96 ?_
  refine tc_iconst (v := 0) (by decide) dX12_readsHas_97 ?_
  refine tc_sipush (v := 999) (by decide) dX12_readsHas_98 ?_
  obtain ⟨x1, u2, hq3, h⟩ := tc_b_ex h
  refine tc_callVi [.int 0, .int 999] dX12_readsHas_101 iv0.1 (ct_X12_numeral hW iv0 hq3) ml_X12_341 mw_X12_numeral mv_X12_numeral ⟨Nat.le_of_ble_eq_true rfl, Nat.le_of_ble_eq_true rfl⟩ rfl rfl (Nat.le_of_ble_eq_true rfl) ⟨Nat.le_refl _, Nat.le_refl _⟩ (by decide) ?_
  refine tc_istore [(4, .int x1), (3, .int s0), (0, .ref (z + v0)), (1, .int v1)] dX12_readsHas_104 (by decide) rfl ?_
  refine tc_aload_n 2 rfl dX12_readsHas_106 ?_
  refine tc_iconst (v := 0) (by decide) dX12_readsHas_107 ?_
  refine tc_sipush (v := 999) (by decide) dX12_readsHas_108 ?_
  obtain ⟨x4, u5, hq6, h⟩ := tc_b_ex h
  refine tc_callVi [.int 0, .int 999] dX12_readsHas_111 iv0.1 (ct_X12_numeral hW iv0 hq6) ml_X12_341 mw_X12_numeral mv_X12_numeral ⟨Nat.le_of_ble_eq_true rfl, Nat.le_of_ble_eq_true rfl⟩ rfl rfl (Nat.le_of_ble_eq_true rfl) ⟨Nat.le_refl _, Nat.le_refl _⟩ (by decide) ?_
  refine tc_istore [(5, .int x4), (4, .int x1), (3, .int s0), (0, .ref (z + v0)), (1, .int v1)] dX12_readsHas_114 (by decide) rfl ?_
  refine tc_aload_n 3 rfl dX12_readsHas_116 ?_
  obtain ⟨x7, u8, hq9, h⟩ := tc_b_ex h
  refine tc_callVi [] dX12_readsHas_117 iv0.1 (ct_X12_isGood hW iv0 hq9) ml_X12_324 mw_X12_isGood mv_X12_isGood ⟨Nat.le_of_ble_eq_true rfl, Nat.le_of_ble_eq_true rfl⟩ rfl rfl (Nat.le_of_ble_eq_true rfl) ⟨Nat.le_refl _, Nat.le_refl _⟩ (by decide) ?_
  refine tc_if_ne 124 dX12_readsHas_120 (by decide) (fun hc10 => ?_) (fun hc10 => ?_)
  · rw [if_neg hc10] at h
    refine tc_aload_n 3 rfl dX12_readsHas_124 ?_
    refine tc_getp hW iv0 fl_X12_66 dX12_readsHas_125 rfl ?_
    refine tc_aload_n 3 rfl dX12_readsHas_128 ?_
    refine tc_geti iv0.1 fl_X12_358 dX12_readsHas_129 ?_
    refine tc_iload_n 2 rfl dX12_readsHas_132 ?_
    obtain ⟨bu11, u11, eu11, h⟩ := tc_sd_ex h
    refine tc_iast (hW.p iv0 31 rfl).1 bu11 dX12_readsHas_133 ?_
    refine tc_nmu eu11 ?_
    refine tc_aload_n 3 rfl dX12_readsHas_134 ?_
    refine tc_getp hW iv0 fl_X12_69 dX12_readsHas_135 rfl ?_
    refine tc_aload_n 3 rfl dX12_readsHas_138 ?_
    refine tc_geti iv0.1 fl_X12_358 dX12_readsHas_139 ?_
    refine tc_iload 0 rfl dX12_readsHas_142 ?_
    obtain ⟨bu12, u12, eu12, h⟩ := tc_sd_ex h
    refine tc_iast (hW.p iv0 32 rfl).1 bu12 dX12_readsHas_144 ?_
    refine tc_nmu eu12 ?_
    refine tc_aload_n 3 rfl dX12_readsHas_145 ?_
    refine tc_getp hW iv0 fl_X12_72 dX12_readsHas_146 rfl ?_
    refine tc_aload_n 3 rfl dX12_readsHas_149 ?_
    refine tc_geti iv0.1 fl_X12_358 dX12_readsHas_150 ?_
    refine tc_iload_n 4 rfl dX12_readsHas_153 ?_
    obtain ⟨bu13, u13, eu13, h⟩ := tc_sd_ex h
    refine tc_iast (hW.p iv0 33 rfl).1 bu13 dX12_readsHas_154 ?_
    refine tc_nmu eu13 ?_
    refine tc_aload_n 3 rfl dX12_readsHas_155 ?_
    refine tc_dup rfl dX12_readsHas_156 ?_
    refine tc_geti iv0.1 fl_X12_358 dX12_readsHas_157 ?_
    refine tc_iconst (v := 1) (by decide) dX12_readsHas_160 ?_
    refine tc_iadd dX12_readsHas_161 ?_
    obtain ⟨u14, eu14, h⟩ := tc_let_ex h
    refine tc_puti iv0.1 fl_X12_358 dX12_readsHas_162 ?_
    refine tc_nmu eu14 ?_
    cases h
    exact tc_return rfl dX12_readsHas_165 rfl rfl ⟨rfl, rfl, rfl⟩
  · rw [if_pos hc10] at h
    cases h
    exact tc_return rfl dX12_readsHas_123 rfl rfl ⟨rfl, rfl, rfl⟩
set_option maxRecDepth 100000 in
set_option maxHeartbeats 4000000 in
theorem sb_X12_readsHas_82 {p : Program} {l : Launch} {e : Env} {s : State} {m : MethodId} {args : Array Value} {below : List Frame} {meth : Method} {c : Code} {z : Nat} {D : tc_D} {G : tc_G} (hW : tc_W G) (r : Int32) (ur : tc_S) (v0 : Nat) (v1 : Int32) (v2 : Int32) (u : tc_S) (iv0 : tc_is G v0 12) (h : bl_X12_readsHas_82 G v0 v1 v2 u = some (r, ur)) : tc_R p l e { frames := 3, cells := 0, slots := 0, locals := 66 } s m args below meth c z D cX12_readsHas RX12 6 none 0 0 (tc_pv G ur) 0 0 G u 82 [(0, .ref (z + v0)), (1, .int v1), (2, .int v2)] [] := by
  unfold bl_X12_readsHas_82 at h
  refine tc_iload_n 2 rfl dX12_readsHas_82 ?_
  refine tc_if_eq 94 dX12_readsHas_83 (by decide) (fun hc15 => ?_) (fun hc15 => ?_)
  · rw [if_pos hc15] at h
    refine tc_iconst (v := 0) (by decide) dX12_readsHas_94 ?_
    refine tc_lvs [0, 1] rfl ?_
    exact sb_X12_readsHas_95 hW r ur  v0 v1 0 u iv0 h
  · rw [if_neg hc15] at h
    refine tc_aload_n 0 rfl dX12_readsHas_86 ?_
    refine tc_getl iv0.1 fl_X12_297 dX12_readsHas_87 ?_
    refine tc_l2i dX12_readsHas_90 ?_
    refine tc_goto 95 dX12_readsHas_91 (by decide) ?_
    refine tc_lvs [0, 1] rfl ?_
    exact sb_X12_readsHas_95 hW r ur  v0 v1 (u.2 v0 29).toInt32 u iv0 h
set_option maxRecDepth 100000 in
set_option maxHeartbeats 4000000 in
theorem sb_X12_readsHas_76 {p : Program} {l : Launch} {e : Env} {s : State} {m : MethodId} {args : Array Value} {below : List Frame} {meth : Method} {c : Code} {z : Nat} {D : tc_D} {G : tc_G} (hW : tc_W G) (r : Int32) (ur : tc_S) (K28 : Nat → Int32 → Int32 → Int32 → tc_S → Option (Int32 × tc_S)) (hK28 : ∀ (v0 : Nat) (v1 : Int32) (v2 : Int32) (v3 : Int32) (u : tc_S), tc_is G v0 12 → K28 v0 v1 v2 v3 u = some (r, ur) → tc_R p l e { frames := 3, cells := 0, slots := 0, locals := 66 } s m args below meth c z D cX12_readsHas RX12 6 none 0 0 (tc_pv G ur) 0 0 G u 28 [(0, .ref (z + v0)), (1, .int v1), (2, .int v2), (3, .int v3)] []) (v0 : Nat) (v1 : Int32) (v2 : Int32) (v3 : Int32) (u : tc_S) (iv0 : tc_is G v0 12) (h : bl_X12_readsHas_76 G K28 v0 v1 v2 v3 u = some (r, ur)) : tc_R p l e { frames := 3, cells := 0, slots := 0, locals := 66 } s m args below meth c z D cX12_readsHas RX12 6 none 0 0 (tc_pv G ur) 0 0 G u 76 [(0, .ref (z + v0)), (1, .int v1), (2, .int v2), (3, .int v3)] [] := by
  unfold bl_X12_readsHas_76 at h
  obtain ⟨x16, ex16, h⟩ := tc_let_ex h
  refine tc_iinc 3 (v := x16) [(3, .int x16), (0, .ref (z + v0)), (1, .int v1), (2, .int v2)] dX12_readsHas_76 rfl (by rw [ex16]; rfl) (by decide) rfl ?_
  refine tc_goto 28 dX12_readsHas_79 (by decide) ?_
  refine tc_lvs [1, 2, 3, 0] rfl ?_
  exact hK28 v0 v1 v2 x16 u iv0 h
set_option maxRecDepth 100000 in
set_option maxHeartbeats 4000000 in
theorem sb_X12_readsHas_72 {p : Program} {l : Launch} {e : Env} {s : State} {m : MethodId} {args : Array Value} {below : List Frame} {meth : Method} {c : Code} {z : Nat} {D : tc_D} {G : tc_G} (hW : tc_W G) (r : Int32) (ur : tc_S) (K28 : Nat → Int32 → Int32 → Int32 → tc_S → Option (Int32 × tc_S)) (hK28 : ∀ (v0 : Nat) (v1 : Int32) (v2 : Int32) (v3 : Int32) (u : tc_S), tc_is G v0 12 → K28 v0 v1 v2 v3 u = some (r, ur) → tc_R p l e { frames := 3, cells := 0, slots := 0, locals := 66 } s m args below meth c z D cX12_readsHas RX12 6 none 0 0 (tc_pv G ur) 0 0 G u 28 [(0, .ref (z + v0)), (1, .int v1), (2, .int v2), (3, .int v3)] []) (v0 : Nat) (v1 : Int32) (v2 : Int32) (v3 : Int32) (s0 : Nat) (s1 : Int32) (u : tc_S) (iv0 : tc_is G v0 12) (is0 : tc_is G s0 12) (h : bl_X12_readsHas_72 G K28 v0 v1 v2 v3 s0 s1 u = some (r, ur)) : tc_R p l e { frames := 3, cells := 0, slots := 0, locals := 66 } s m args below meth c z D cX12_readsHas RX12 6 none 0 0 (tc_pv G ur) 0 0 G u 72 [(0, .ref (z + v0)), (1, .int v1), (2, .int v2), (3, .int v3)] [.int s1, .ref (z + s0)] := by
  unfold bl_X12_readsHas_72 at h
  refine tc_iload_n 1 rfl dX12_readsHas_72 ?_
  obtain ⟨x17, u18, hq19, h⟩ := tc_b_ex h
  refine tc_callVv [.int s1, .int v1] dX12_readsHas_73 is0.1 (ct_X12_alsoWrong hW is0 hq19) ml_X12_334 mw_X12_alsoWrong mv_X12_alsoWrong ⟨Nat.le_of_ble_eq_true rfl, Nat.le_of_ble_eq_true rfl⟩ rfl rfl (Nat.le_of_ble_eq_true rfl) ⟨Nat.le_refl _, Nat.le_refl _⟩ (by decide) ?_
  exact sb_X12_readsHas_76 hW r ur K28 hK28 v0 v1 v2 v3 u18 iv0 h
set_option maxRecDepth 100000 in
set_option maxHeartbeats 4000000 in
theorem sl_X12_readsHas_28 {p : Program} {l : Launch} {e : Env} {s : State} {m : MethodId} {args : Array Value} {below : List Frame} {meth : Method} {c : Code} {z : Nat} {D : tc_D} {G : tc_G} (hW : tc_W G) (r : Int32) (ur : tc_S) : ∀ (n : Nat) (v0 : Nat) (v1 : Int32) (v2 : Int32) (v3 : Int32) (u : tc_S) (iv0 : tc_is G v0 12) (h : lo_X12_readsHas_28 G n v0 v1 v2 v3 u = some (r, ur)), tc_R p l e { frames := 3, cells := 0, slots := 0, locals := 66 } s m args below meth c z D cX12_readsHas RX12 6 none 0 0 (tc_pv G ur) 0 0 G u 28 [(0, .ref (z + v0)), (1, .int v1), (2, .int v2), (3, .int v3)] [] := by
  intro n
  induction n with
  | zero => intro v0 v1 v2 v3 u iv0 h; cases h
  | succ n ih =>
    intro v0 v1 v2 v3 u iv0 h
    rw [lo_X12_readsHas_28] at h
    refine tc_iload_n 3 rfl dX12_readsHas_28 ?_
    refine tc_aload_n 0 rfl dX12_readsHas_29 ?_
    refine tc_geti iv0.1 fl_X12_358 dX12_readsHas_30 ?_
    refine tc_icmp_ge 82 dX12_readsHas_33 (by decide) (fun hc20 => ?_) (fun hc20 => ?_)
    · rw [if_pos hc20] at h
      refine tc_lvs [0, 1, 2] rfl ?_
      exact sb_X12_readsHas_82 hW r ur  v0 v1 v2 u iv0 h
    · rw [if_neg hc20] at h
      refine tc_iload_n 2 rfl dX12_readsHas_36 ?_
      refine tc_if_eq 82 dX12_readsHas_37 (by decide) (fun hc21 => ?_) (fun hc21 => ?_)
      · rw [if_pos hc21] at h
        refine tc_lvs [0, 1, 2] rfl ?_
        exact sb_X12_readsHas_82 hW r ur  v0 v1 v2 u iv0 h
      · rw [if_neg hc21] at h
        refine tc_aload_n 0 rfl dX12_readsHas_40 ?_
        refine tc_getp hW iv0 fl_X12_66 dX12_readsHas_41 rfl ?_
        refine tc_iload_n 3 rfl dX12_readsHas_44 ?_
        obtain ⟨bx22, x22, ex22, h⟩ := tc_ld_ex h
        refine tc_iald (hW.p iv0 31 rfl).1 bx22 dX12_readsHas_45 ?_
        refine tc_nm ex22 ?_
        refine tc_i2l dX12_readsHas_46 ?_
        refine tc_aload_n 0 rfl dX12_readsHas_47 ?_
        refine tc_getl iv0.1 fl_X12_297 dX12_readsHas_48 ?_
        refine tc_lcmp dX12_readsHas_51 ?_
        refine tc_if_ne 76 dX12_readsHas_52 (by decide) (fun hc23 => ?_) (fun hc23 => ?_)
        · rw [if_neg hc23] at h
          exact sb_X12_readsHas_76 hW r ur _ ih v0 v1 v2 v3 u iv0 h
        · rw [if_pos hc23] at h
          refine tc_aload_n 0 rfl dX12_readsHas_55 ?_
          refine tc_aload_n 0 rfl dX12_readsHas_56 ?_
          refine tc_getl iv0.1 fl_X12_297 dX12_readsHas_57 ?_
          refine tc_ldc2 (v := 999) cl_X12_361 dX12_readsHas_60 ?_
          refine tc_lcmp dX12_readsHas_63 ?_
          refine tc_if_le 71 dX12_readsHas_64 (by decide) (fun hc24 => ?_) (fun hc24 => ?_)
          · rw [if_pos hc24] at h
            refine tc_iconst (v := 3) (by decide) dX12_readsHas_71 ?_
            exact sb_X12_readsHas_72 hW r ur _ ih v0 v1 v2 v3 v0 3 u iv0 iv0 h
          · rw [if_neg hc24] at h
            refine tc_iconst (v := 2) (by decide) dX12_readsHas_67 ?_
            refine tc_goto 72 dX12_readsHas_68 (by decide) ?_
            exact sb_X12_readsHas_72 hW r ur _ ih v0 v1 v2 v3 v0 2 u iv0 iv0 h
set_option maxRecDepth 100000 in
set_option maxHeartbeats 4000000 in
theorem sb_X12_readsHas_25 {p : Program} {l : Launch} {e : Env} {s : State} {m : MethodId} {args : Array Value} {below : List Frame} {meth : Method} {c : Code} {z : Nat} {D : tc_D} {G : tc_G} (hW : tc_W G) (r : Int32) (ur : tc_S) (v0 : Nat) (v1 : Int32) (s0 : Int32) (u : tc_S) (iv0 : tc_is G v0 12) (h : bl_X12_readsHas_25 G v0 v1 s0 u = some (r, ur)) : tc_R p l e { frames := 3, cells := 0, slots := 0, locals := 66 } s m args below meth c z D cX12_readsHas RX12 6 none 0 0 (tc_pv G ur) 0 0 G u 25 [(0, .ref (z + v0)), (1, .int v1)] [.int s0] := by
  unfold bl_X12_readsHas_25 at h
  refine tc_istore_n [(2, .int s0), (0, .ref (z + v0)), (1, .int v1)] dX12_readsHas_25 (by decide) rfl ?_
  refine tc_iconst (v := 0) (by decide) dX12_readsHas_26 ?_
  refine tc_istore_n [(3, .int 0), (2, .int s0), (0, .ref (z + v0)), (1, .int v1)] dX12_readsHas_27 (by decide) rfl ?_
  refine tc_lvs [2, 3, 1, 0] rfl ?_
  exact sl_X12_readsHas_28 hW r ur  _ v0 v1 s0 0 u iv0 h
set_option maxRecDepth 100000 in
set_option maxHeartbeats 4000000 in
theorem sb_X12_readsHas_24 {p : Program} {l : Launch} {e : Env} {s : State} {m : MethodId} {args : Array Value} {below : List Frame} {meth : Method} {c : Code} {z : Nat} {D : tc_D} {G : tc_G} (hW : tc_W G) (r : Int32) (ur : tc_S) (v0 : Nat) (v1 : Int32) (u : tc_S) (iv0 : tc_is G v0 12) (h : bl_X12_readsHas_24 G v0 v1 u = some (r, ur)) : tc_R p l e { frames := 3, cells := 0, slots := 0, locals := 66 } s m args below meth c z D cX12_readsHas RX12 6 none 0 0 (tc_pv G ur) 0 0 G u 24 [(0, .ref (z + v0)), (1, .int v1)] [] := by
  unfold bl_X12_readsHas_24 at h
  refine tc_iconst (v := 0) (by decide) dX12_readsHas_24 ?_
  exact sb_X12_readsHas_25 hW r ur  v0 v1 0 u iv0 h
set_option maxRecDepth 100000 in
set_option maxHeartbeats 4000000 in
theorem ct_X12_readsHas {l : Launch} {z : Nat} {D : tc_D} {G : tc_G} (hW : tc_W G) {v0 : Nat} {u : tc_S} {r : Int32} {ur : tc_S} (iv0 : tc_is G v0 12) (h : fn_X12_readsHas G v0 u = some (r, ur)) : tc_C l z D yX12_readsHas cX12_readsHas 6 none 3 66 0 0 [.ref (z + v0)] G u (tc_pv G ur) := by
  unfold fn_X12_readsHas at h
  refine tc_C.of (by decide) (Nat.le_of_ble_eq_true rfl) fun p e s m args below meth c => ?_
  show tc_R p l e { frames := 3, cells := 0, slots := 0, locals := 66 } s m args below meth c z D cX12_readsHas RX12 6 none 0 0 (tc_pv G ur) 0 0 G u 0 [(0, .ref (z + v0))] []
  refine tc_aload_n 0 rfl dX12_readsHas_0 ?_
  refine tc_geti iv0.1 fl_X12_294 dX12_readsHas_1 ?_
  obtain ⟨x25, ex25, h⟩ := tc_let_ex h
  refine tc_nm ex25 ?_
  refine tc_istore_n [(1, .int x25), (0, .ref (z + v0))] dX12_readsHas_4 (by decide) rfl ?_
  refine tc_aload_n 1 rfl dX12_readsHas_5 ?_
  obtain ⟨x26, u27, hq28, h⟩ := tc_b_ex h
  refine tc_callVi [] dX12_readsHas_6 iv0.1 (ct_X12_isGood hW iv0 hq28) ml_X12_324 mw_X12_isGood mv_X12_isGood ⟨Nat.le_of_ble_eq_true rfl, Nat.le_of_ble_eq_true rfl⟩ rfl rfl (Nat.le_of_ble_eq_true rfl) ⟨Nat.le_refl _, Nat.le_refl _⟩ (by decide) ?_
  refine tc_if_eq 24 dX12_readsHas_9 (by decide) (fun hc29 => ?_) (fun hc29 => ?_)
  · rw [if_pos hc29] at h
    refine tc_lvs [1, 0] rfl ?_
    exact sb_X12_readsHas_24 hW r ur  v0 x25 u27 iv0 h
  · rw [if_neg hc29] at h
    refine tc_aload_n 1 rfl dX12_readsHas_12 ?_
    refine tc_geti iv0.1 fl_X12_301 dX12_readsHas_13 ?_
    refine tc_iconst (v := 2) (by decide) dX12_readsHas_16 ?_
    refine tc_icmp_ne 24 dX12_readsHas_17 (by decide) (fun hc30 => ?_) (fun hc30 => ?_)
    · rw [if_neg hc30] at h
      refine tc_lvs [1, 0] rfl ?_
      exact sb_X12_readsHas_24 hW r ur  v0 x25 u27 iv0 h
    · rw [if_pos hc30] at h
      refine tc_iconst (v := 1) (by decide) dX12_readsHas_20 ?_
      refine tc_goto 25 dX12_readsHas_21 (by decide) ?_
      refine tc_lvs [1, 0] rfl ?_
      exact sb_X12_readsHas_25 hW r ur  v0 x25 1 u27 iv0 h
set_option maxRecDepth 100000 in
set_option maxHeartbeats 4000000 in
theorem sb_X12_readsLine_229 {p : Program} {l : Launch} {e : Env} {s : State} {m : MethodId} {args : Array Value} {below : List Frame} {meth : Method} {c : Code} {z : Nat} {D : tc_D} {G : tc_G} (hW : tc_W G) (r : Int32) (ur : tc_S) (u : tc_S) (h : bl_X12_readsLine_229 G  u = some (r, ur)) : tc_R p l e { frames := 4, cells := 0, slots := 0, locals := 91 } s m args below meth c z D cX12_readsLine RX12 2 none 0 0 (tc_pv G ur) 0 0 G u 229 [] [] := by
  unfold bl_X12_readsLine_229 at h
  cases h
  exact tc_return rfl dX12_readsLine_229 rfl rfl ⟨rfl, rfl, rfl⟩
set_option maxRecDepth 100000 in
set_option maxHeartbeats 4000000 in
theorem sb_X12_readsLine_202 {p : Program} {l : Launch} {e : Env} {s : State} {m : MethodId} {args : Array Value} {below : List Frame} {meth : Method} {c : Code} {z : Nat} {D : tc_D} {G : tc_G} (hW : tc_W G) (r : Int32) (ur : tc_S) (v0 : Nat) (u : tc_S) (iv0 : tc_is G v0 12) (h : bl_X12_readsLine_202 G v0 u = some (r, ur)) : tc_R p l e { frames := 4, cells := 0, slots := 0, locals := 91 } s m args below meth c z D cX12_readsLine RX12 2 none 0 0 (tc_pv G ur) 0 0 G u 202 [(0, .ref (z + v0))] [] := by
  unfold bl_X12_readsLine_202 at h
  refine tc_aload_n 0 rfl dX12_readsLine_202 ?_
  obtain ⟨x1, u2, hq3, h⟩ := tc_b_ex h
  refine tc_callVi [] dX12_readsLine_203 iv0.1 (ct_X12_isGood hW iv0 hq3) ml_X12_324 mw_X12_isGood mv_X12_isGood ⟨Nat.le_of_ble_eq_true rfl, Nat.le_of_ble_eq_true rfl⟩ rfl rfl (Nat.le_of_ble_eq_true rfl) ⟨Nat.le_refl _, Nat.le_refl _⟩ (by decide) ?_
  refine tc_if_ne 210 dX12_readsLine_206 (by decide) (fun hc4 => ?_) (fun hc4 => ?_)
  · rw [if_neg hc4] at h
    refine tc_aload_n 0 rfl dX12_readsLine_210 ?_
    refine tc_geti iv0.1 fl_X12_301 dX12_readsLine_211 ?_
    refine tc_iconst (v := 3) (by decide) dX12_readsLine_214 ?_
    refine tc_icmp_ne 225 dX12_readsLine_215 (by decide) (fun hc5 => ?_) (fun hc5 => ?_)
    · rw [if_neg hc5] at h
      refine tc_aload_n 0 rfl dX12_readsLine_225 ?_
      obtain ⟨x6, u7, hq8, h⟩ := tc_b_ex h
      refine tc_callVv [] dX12_readsLine_226 iv0.1 (ct_X12_fails hW iv0 hq8) ml_X12_331 mw_X12_fails mv_X12_fails ⟨Nat.le_of_ble_eq_true rfl, Nat.le_of_ble_eq_true rfl⟩ rfl rfl (Nat.le_of_ble_eq_true rfl) ⟨Nat.le_refl _, Nat.le_refl _⟩ (by decide) ?_
      refine tc_lvs [] rfl ?_
      exact sb_X12_readsLine_229 hW r ur   u7  h
    · rw [if_pos hc5] at h
      refine tc_aload_n 0 rfl dX12_readsLine_218 ?_
      obtain ⟨x9, u10, hq11, h⟩ := tc_b_ex h
      refine tc_callVv [] dX12_readsLine_219 iv0.1 (ct_X12_takes hW iv0 hq11) ml_X12_328 mw_X12_takes mv_X12_takes ⟨Nat.le_of_ble_eq_true rfl, Nat.le_of_ble_eq_true rfl⟩ rfl rfl (Nat.le_of_ble_eq_true rfl) ⟨Nat.le_refl _, Nat.le_refl _⟩ (by decide) ?_
      refine tc_goto 229 dX12_readsLine_222 (by decide) ?_
      refine tc_lvs [] rfl ?_
      exact sb_X12_readsLine_229 hW r ur   u10  h
  · rw [if_pos hc4] at h
    cases h
    exact tc_return rfl dX12_readsLine_209 rfl rfl ⟨rfl, rfl, rfl⟩
set_option maxRecDepth 100000 in
set_option maxHeartbeats 4000000 in
theorem sb_X12_readsLine_88 {p : Program} {l : Launch} {e : Env} {s : State} {m : MethodId} {args : Array Value} {below : List Frame} {meth : Method} {c : Code} {z : Nat} {D : tc_D} {G : tc_G} (hW : tc_W G) (r : Int32) (ur : tc_S) (v0 : Nat) (s0 : Int32) (u : tc_S) (iv0 : tc_is G v0 12) (h : bl_X12_readsLine_88 G v0 s0 u = some (r, ur)) : tc_R p l e { frames := 4, cells := 0, slots := 0, locals := 91 } s m args below meth c z D cX12_readsLine RX12 2 none 0 0 (tc_pv G ur) 0 0 G u 88 [(0, .ref (z + v0))] [.int s0] := by
  unfold bl_X12_readsLine_88 at h
  refine tc_istore_n [(1, .int s0), (0, .ref (z + v0))] dX12_readsLine_88 (by decide) rfl ?_
  refine tc_iload_n 0 rfl dX12_readsLine_89 ?_
  refine tc_if_eq 98 dX12_readsLine_90 (by decide) (fun hc12 => ?_) (fun hc12 => ?_)
  · rw [if_pos hc12] at h
    refine tc_aload_n 1 rfl dX12_readsLine_98 ?_
    refine tc_ldc2 (v := 223166) cl_X12_379 dX12_readsLine_99 ?_
    obtain ⟨x13, u14, hq15, h⟩ := tc_b_ex h
    refine tc_callVi [.long 223166] dX12_readsLine_102 iv0.1 (ct_X12_hasWord hW iv0 hq15) ml_X12_337 mw_X12_hasWord mv_X12_hasWord ⟨Nat.le_of_ble_eq_true rfl, Nat.le_of_ble_eq_true rfl⟩ rfl rfl (Nat.le_of_ble_eq_true rfl) ⟨Nat.le_refl _, Nat.le_refl _⟩ (by decide) ?_
    refine tc_if_eq 121 dX12_readsLine_105 (by decide) (fun hc16 => ?_) (fun hc16 => ?_)
    · rw [if_pos hc16] at h
      refine tc_aload_n 1 rfl dX12_readsLine_121 ?_
      refine tc_ldc2 (v := 133743) cl_X12_385 dX12_readsLine_122 ?_
      obtain ⟨x17, u18, hq19, h⟩ := tc_b_ex h
      refine tc_callVi [.long 133743] dX12_readsLine_125 iv0.1 (ct_X12_hasWord hW iv0 hq19) ml_X12_337 mw_X12_hasWord mv_X12_hasWord ⟨Nat.le_of_ble_eq_true rfl, Nat.le_of_ble_eq_true rfl⟩ rfl rfl (Nat.le_of_ble_eq_true rfl) ⟨Nat.le_refl _, Nat.le_refl _⟩ (by decide) ?_
      refine tc_if_eq 145 dX12_readsLine_128 (by decide) (fun hc20 => ?_) (fun hc20 => ?_)
      · rw [if_pos hc20] at h
        refine tc_aload_n 1 rfl dX12_readsLine_145 ?_
        refine tc_ldc2 (v := 11318) cl_X12_390 dX12_readsLine_146 ?_
        obtain ⟨x21, u22, hq23, h⟩ := tc_b_ex h
        refine tc_callVi [.long 11318] dX12_readsLine_149 iv0.1 (ct_X12_hasWord hW iv0 hq23) ml_X12_337 mw_X12_hasWord mv_X12_hasWord ⟨Nat.le_of_ble_eq_true rfl, Nat.le_of_ble_eq_true rfl⟩ rfl rfl (Nat.le_of_ble_eq_true rfl) ⟨Nat.le_refl _, Nat.le_refl _⟩ (by decide) ?_
        refine tc_if_eq 163 dX12_readsLine_152 (by decide) (fun hc24 => ?_) (fun hc24 => ?_)
        · rw [if_pos hc24] at h
          refine tc_aload_n 1 rfl dX12_readsLine_163 ?_
          refine tc_ldc2 (v := 15216) cl_X12_395 dX12_readsLine_164 ?_
          obtain ⟨x25, u26, hq27, h⟩ := tc_b_ex h
          refine tc_callVi [.long 15216] dX12_readsLine_167 iv0.1 (ct_X12_hasWord hW iv0 hq27) ml_X12_337 mw_X12_hasWord mv_X12_hasWord ⟨Nat.le_of_ble_eq_true rfl, Nat.le_of_ble_eq_true rfl⟩ rfl rfl (Nat.le_of_ble_eq_true rfl) ⟨Nat.le_refl _, Nat.le_refl _⟩ (by decide) ?_
          refine tc_if_eq 181 dX12_readsLine_170 (by decide) (fun hc28 => ?_) (fun hc28 => ?_)
          · rw [if_pos hc28] at h
            refine tc_aload_n 1 rfl dX12_readsLine_181 ?_
            refine tc_ldc2 (v := 5878) cl_X12_397 dX12_readsLine_182 ?_
            obtain ⟨x29, u30, hq31, h⟩ := tc_b_ex h
            refine tc_callVi [.long 5878] dX12_readsLine_185 iv0.1 (ct_X12_hasWord hW iv0 hq31) ml_X12_337 mw_X12_hasWord mv_X12_hasWord ⟨Nat.le_of_ble_eq_true rfl, Nat.le_of_ble_eq_true rfl⟩ rfl rfl (Nat.le_of_ble_eq_true rfl) ⟨Nat.le_refl _, Nat.le_refl _⟩ (by decide) ?_
            refine tc_if_eq 198 dX12_readsLine_188 (by decide) (fun hc32 => ?_) (fun hc32 => ?_)
            · rw [if_pos hc32] at h
              refine tc_aload_n 1 rfl dX12_readsLine_198 ?_
              obtain ⟨x33, u34, hq35, h⟩ := tc_b_ex h
              refine tc_callVv [] dX12_readsLine_199 iv0.1 (ct_X12_fails hW iv0 hq35) ml_X12_331 mw_X12_fails mv_X12_fails ⟨Nat.le_of_ble_eq_true rfl, Nat.le_of_ble_eq_true rfl⟩ rfl rfl (Nat.le_of_ble_eq_true rfl) ⟨Nat.le_refl _, Nat.le_refl _⟩ (by decide) ?_
              refine tc_lvs [1] rfl ?_
              exact sb_X12_readsLine_202 hW r ur  v0 u34 iv0 h
            · rw [if_neg hc32] at h
              refine tc_aload_n 1 rfl dX12_readsLine_191 ?_
              obtain ⟨x36, u37, hq38, h⟩ := tc_b_ex h
              refine tc_callVv [] dX12_readsLine_192 iv0.1 (ct_X12_readsHas hW iv0 hq38) ml_X12_399 mw_X12_readsHas mv_X12_readsHas ⟨Nat.le_of_ble_eq_true rfl, Nat.le_of_ble_eq_true rfl⟩ rfl rfl (Nat.le_of_ble_eq_true rfl) ⟨Nat.le_refl _, Nat.le_refl _⟩ (by decide) ?_
              refine tc_goto 202 dX12_readsLine_195 (by decide) ?_
              refine tc_lvs [1] rfl ?_
              exact sb_X12_readsLine_202 hW r ur  v0 u37 iv0 h
          · rw [if_neg hc28] at h
            refine tc_aload_n 1 rfl dX12_readsLine_173 ?_
            refine tc_iconst (v := 1) (by decide) dX12_readsLine_174 ?_
            obtain ⟨x39, u40, hq41, h⟩ := tc_b_ex h
            refine tc_callVv [.int 1] dX12_readsLine_175 iv0.1 (ct_X12_readsHash hW iv0 hq41) ml_X12_392 mw_X12_readsHash mv_X12_readsHash ⟨Nat.le_of_ble_eq_true rfl, Nat.le_of_ble_eq_true rfl⟩ rfl rfl (Nat.le_of_ble_eq_true rfl) ⟨Nat.le_refl _, Nat.le_refl _⟩ (by decide) ?_
            refine tc_goto 202 dX12_readsLine_178 (by decide) ?_
            refine tc_lvs [1] rfl ?_
            exact sb_X12_readsLine_202 hW r ur  v0 u40 iv0 h
        · rw [if_neg hc24] at h
          refine tc_aload_n 1 rfl dX12_readsLine_155 ?_
          refine tc_iconst (v := 0) (by decide) dX12_readsLine_156 ?_
          obtain ⟨x42, u43, hq44, h⟩ := tc_b_ex h
          refine tc_callVv [.int 0] dX12_readsLine_157 iv0.1 (ct_X12_readsHash hW iv0 hq44) ml_X12_392 mw_X12_readsHash mv_X12_readsHash ⟨Nat.le_of_ble_eq_true rfl, Nat.le_of_ble_eq_true rfl⟩ rfl rfl (Nat.le_of_ble_eq_true rfl) ⟨Nat.le_refl _, Nat.le_refl _⟩ (by decide) ?_
          refine tc_goto 202 dX12_readsLine_160 (by decide) ?_
          refine tc_lvs [1] rfl ?_
          exact sb_X12_readsLine_202 hW r ur  v0 u43 iv0 h
      · rw [if_neg hc20] at h
        refine tc_aload_n 1 rfl dX12_readsLine_131 ?_
        refine tc_getp hW iv0 fl_X12_63 dX12_readsLine_132 rfl ?_
        refine tc_bipush (v := 6) (by decide) dX12_readsLine_135 ?_
        refine tc_aload_n 1 rfl dX12_readsLine_137 ?_
        obtain ⟨x45, u46, hq47, h⟩ := tc_b_ex h
        refine tc_callVi [] dX12_readsLine_138 iv0.1 (ct_X12_fullTaken hW iv0 hq47) ml_X12_387 mw_X12_fullTaken mv_X12_fullTaken ⟨Nat.le_of_ble_eq_true rfl, Nat.le_of_ble_eq_true rfl⟩ rfl rfl (Nat.le_of_ble_eq_true rfl) ⟨Nat.le_refl _, Nat.le_refl _⟩ (by decide) ?_
        obtain ⟨bu48, u48, eu48, h⟩ := tc_sd_ex h
        refine tc_iast (hW.p iv0 30 rfl).1 bu48 dX12_readsLine_141 ?_
        refine tc_nmu eu48 ?_
        refine tc_goto 202 dX12_readsLine_142 (by decide) ?_
        refine tc_lvs [1] rfl ?_
        exact sb_X12_readsLine_202 hW r ur  v0 u48 iv0 h
    · rw [if_neg hc16] at h
      refine tc_aload_n 1 rfl dX12_readsLine_108 ?_
      refine tc_getp hW iv0 fl_X12_63 dX12_readsLine_109 rfl ?_
      refine tc_iconst (v := 5) (by decide) dX12_readsLine_112 ?_
      refine tc_aload_n 1 rfl dX12_readsLine_113 ?_
      obtain ⟨x49, u50, hq51, h⟩ := tc_b_ex h
      refine tc_callVi [] dX12_readsLine_114 iv0.1 (ct_X12_kickTaken hW iv0 hq51) ml_X12_381 mw_X12_kickTaken mv_X12_kickTaken ⟨Nat.le_of_ble_eq_true rfl, Nat.le_of_ble_eq_true rfl⟩ rfl rfl (Nat.le_of_ble_eq_true rfl) ⟨Nat.le_refl _, Nat.le_refl _⟩ (by decide) ?_
      obtain ⟨bu52, u52, eu52, h⟩ := tc_sd_ex h
      refine tc_iast (hW.p iv0 30 rfl).1 bu52 dX12_readsLine_117 ?_
      refine tc_nmu eu52 ?_
      refine tc_goto 202 dX12_readsLine_118 (by decide) ?_
      refine tc_lvs [1] rfl ?_
      exact sb_X12_readsLine_202 hW r ur  v0 u52 iv0 h
  · rw [if_neg hc12] at h
    refine tc_iconst (v := 1) (by decide) dX12_readsLine_93 ?_
    refine tc_istore_n [(1, .int 1), (0, .ref (z + v0))] dX12_readsLine_94 (by decide) rfl ?_
    refine tc_goto 202 dX12_readsLine_95 (by decide) ?_
    refine tc_lvs [1] rfl ?_
    exact sb_X12_readsLine_202 hW r ur  v0 u iv0 h
set_option maxRecDepth 100000 in
set_option maxHeartbeats 4000000 in
theorem sb_X12_readsLine_83 {p : Program} {l : Launch} {e : Env} {s : State} {m : MethodId} {args : Array Value} {below : List Frame} {meth : Method} {c : Code} {z : Nat} {D : tc_D} {G : tc_G} (hW : tc_W G) (r : Int32) (ur : tc_S) (v0 : Nat) (u : tc_S) (iv0 : tc_is G v0 12) (h : bl_X12_readsLine_83 G v0 u = some (r, ur)) : tc_R p l e { frames := 4, cells := 0, slots := 0, locals := 91 } s m args below meth c z D cX12_readsLine RX12 2 none 0 0 (tc_pv G ur) 0 0 G u 83 [(0, .ref (z + v0))] [] := by
  unfold bl_X12_readsLine_83 at h
  refine tc_iconst (v := 1) (by decide) dX12_readsLine_83 ?_
  refine tc_goto 88 dX12_readsLine_84 (by decide) ?_
  exact sb_X12_readsLine_88 hW r ur  v0 1 u iv0 h
set_option maxRecDepth 100000 in
set_option maxHeartbeats 4000000 in
theorem ct_X12_readsLine {l : Launch} {z : Nat} {D : tc_D} {G : tc_G} (hW : tc_W G) {v0 : Nat} {u : tc_S} {r : Int32} {ur : tc_S} (iv0 : tc_is G v0 12) (h : fn_X12_readsLine G v0 u = some (r, ur)) : tc_C l z D yX12_readsLine cX12_readsLine 2 none 4 91 0 0 [.ref (z + v0)] G u (tc_pv G ur) := by
  unfold fn_X12_readsLine at h
  refine tc_C.of (by decide) (Nat.le_of_ble_eq_true rfl) fun p e s m args below meth c => ?_
  show tc_R p l e { frames := 4, cells := 0, slots := 0, locals := 91 } s m args below meth c z D cX12_readsLine RX12 2 none 0 0 (tc_pv G ur) 0 0 G u 0 [(0, .ref (z + v0))] []
  refine tc_aload_n 0 rfl dX12_readsLine_0 ?_
  refine tc_ldc2 (v := 1077983065) cl_X12_363 dX12_readsLine_1 ?_
  refine tc_iconst (v := 0) (by decide) dX12_readsLine_4 ?_
  refine tc_iconst (v := 1) (by decide) dX12_readsLine_5 ?_
  refine tc_bipush (v := 16) (by decide) dX12_readsLine_6 ?_
  obtain ⟨x53, u54, hq55, h⟩ := tc_b_ex h
  refine tc_callVi [.long 1077983065, .int 0, .int 1, .int 16] dX12_readsLine_8 iv0.1 (ct_X12_setsNumber hW iv0 hq55) ml_X12_365 mw_X12_setsNumber mv_X12_setsNumber ⟨Nat.le_of_ble_eq_true rfl, Nat.le_of_ble_eq_true rfl⟩ rfl rfl (Nat.le_of_ble_eq_true rfl) ⟨Nat.le_refl _, Nat.le_refl _⟩ (by decide) ?_
  refine tc_if_ne 83 dX12_readsLine_11 (by decide) (fun hc56 => ?_) (fun hc56 => ?_)
  · rw [if_neg hc56] at h
    exact sb_X12_readsLine_83 hW r ur  v0 u54 iv0 h
  · rw [if_pos hc56] at h
    refine tc_aload_n 0 rfl dX12_readsLine_14 ?_
    refine tc_ldc2 (v := 10345069) cl_X12_369 dX12_readsLine_15 ?_
    refine tc_iconst (v := 1) (by decide) dX12_readsLine_18 ?_
    refine tc_iconst (v := 1) (by decide) dX12_readsLine_19 ?_
    refine tc_iconst (v := 4) (by decide) dX12_readsLine_20 ?_
    obtain ⟨x57, u58, hq59, h⟩ := tc_b_ex h
    refine tc_callVi [.long 10345069, .int 1, .int 1, .int 4] dX12_readsLine_21 iv0.1 (ct_X12_setsNumber hW iv0 hq59) ml_X12_365 mw_X12_setsNumber mv_X12_setsNumber ⟨Nat.le_of_ble_eq_true rfl, Nat.le_of_ble_eq_true rfl⟩ rfl rfl (Nat.le_of_ble_eq_true rfl) ⟨Nat.le_refl _, Nat.le_refl _⟩ (by decide) ?_
    refine tc_if_ne 83 dX12_readsLine_24 (by decide) (fun hc60 => ?_) (fun hc60 => ?_)
    · rw [if_neg hc60] at h
      exact sb_X12_readsLine_83 hW r ur  v0 u58 iv0 h
    · rw [if_pos hc60] at h
      refine tc_aload_n 0 rfl dX12_readsLine_27 ?_
      refine tc_ldc2 (v := 10492289) cl_X12_371 dX12_readsLine_28 ?_
      refine tc_iconst (v := 2) (by decide) dX12_readsLine_31 ?_
      refine tc_iconst (v := 0) (by decide) dX12_readsLine_32 ?_
      refine tc_iconst (v := 4) (by decide) dX12_readsLine_33 ?_
      obtain ⟨x61, u62, hq63, h⟩ := tc_b_ex h
      refine tc_callVi [.long 10492289, .int 2, .int 0, .int 4] dX12_readsLine_34 iv0.1 (ct_X12_setsNumber hW iv0 hq63) ml_X12_365 mw_X12_setsNumber mv_X12_setsNumber ⟨Nat.le_of_ble_eq_true rfl, Nat.le_of_ble_eq_true rfl⟩ rfl rfl (Nat.le_of_ble_eq_true rfl) ⟨Nat.le_refl _, Nat.le_refl _⟩ (by decide) ?_
      refine tc_if_ne 83 dX12_readsLine_37 (by decide) (fun hc64 => ?_) (fun hc64 => ?_)
      · rw [if_neg hc64] at h
        exact sb_X12_readsLine_83 hW r ur  v0 u62 iv0 h
      · rw [if_pos hc64] at h
        refine tc_aload_n 0 rfl dX12_readsLine_40 ?_
        refine tc_ldc2 (v := 2236391) cl_X12_373 dX12_readsLine_41 ?_
        refine tc_iconst (v := 3) (by decide) dX12_readsLine_44 ?_
        refine tc_iconst (v := 0) (by decide) dX12_readsLine_45 ?_
        refine tc_bipush (v := 16) (by decide) dX12_readsLine_46 ?_
        obtain ⟨x65, u66, hq67, h⟩ := tc_b_ex h
        refine tc_callVi [.long 2236391, .int 3, .int 0, .int 16] dX12_readsLine_48 iv0.1 (ct_X12_setsNumber hW iv0 hq67) ml_X12_365 mw_X12_setsNumber mv_X12_setsNumber ⟨Nat.le_of_ble_eq_true rfl, Nat.le_of_ble_eq_true rfl⟩ rfl rfl (Nat.le_of_ble_eq_true rfl) ⟨Nat.le_refl _, Nat.le_refl _⟩ (by decide) ?_
        refine tc_if_ne 83 dX12_readsLine_51 (by decide) (fun hc68 => ?_) (fun hc68 => ?_)
        · rw [if_neg hc68] at h
          exact sb_X12_readsLine_83 hW r ur  v0 u66 iv0 h
        · rw [if_pos hc68] at h
          refine tc_aload_n 0 rfl dX12_readsLine_54 ?_
          refine tc_ldc2 (v := 10989829) cl_X12_375 dX12_readsLine_55 ?_
          refine tc_iconst (v := 4) (by decide) dX12_readsLine_58 ?_
          refine tc_iconst (v := 0) (by decide) dX12_readsLine_59 ?_
          refine tc_iconst (v := 4) (by decide) dX12_readsLine_60 ?_
          obtain ⟨x69, u70, hq71, h⟩ := tc_b_ex h
          refine tc_callVi [.long 10989829, .int 4, .int 0, .int 4] dX12_readsLine_61 iv0.1 (ct_X12_setsNumber hW iv0 hq71) ml_X12_365 mw_X12_setsNumber mv_X12_setsNumber ⟨Nat.le_of_ble_eq_true rfl, Nat.le_of_ble_eq_true rfl⟩ rfl rfl (Nat.le_of_ble_eq_true rfl) ⟨Nat.le_refl _, Nat.le_refl _⟩ (by decide) ?_
          refine tc_if_ne 83 dX12_readsLine_64 (by decide) (fun hc72 => ?_) (fun hc72 => ?_)
          · rw [if_neg hc72] at h
            exact sb_X12_readsLine_83 hW r ur  v0 u70 iv0 h
          · rw [if_pos hc72] at h
            refine tc_aload_n 0 rfl dX12_readsLine_67 ?_
            refine tc_ldc2 (v := 377761) cl_X12_377 dX12_readsLine_68 ?_
            refine tc_bipush (v := 11) (by decide) dX12_readsLine_71 ?_
            refine tc_iconst (v := 0) (by decide) dX12_readsLine_73 ?_
            refine tc_sipush (v := 9999) (by decide) dX12_readsLine_74 ?_
            obtain ⟨x73, u74, hq75, h⟩ := tc_b_ex h
            refine tc_callVi [.long 377761, .int 11, .int 0, .int 9999] dX12_readsLine_77 iv0.1 (ct_X12_setsNumber hW iv0 hq75) ml_X12_365 mw_X12_setsNumber mv_X12_setsNumber ⟨Nat.le_of_ble_eq_true rfl, Nat.le_of_ble_eq_true rfl⟩ rfl rfl (Nat.le_of_ble_eq_true rfl) ⟨Nat.le_refl _, Nat.le_refl _⟩ (by decide) ?_
            refine tc_if_eq 87 dX12_readsLine_80 (by decide) (fun hc76 => ?_) (fun hc76 => ?_)
            · rw [if_pos hc76] at h
              refine tc_iconst (v := 0) (by decide) dX12_readsLine_87 ?_
              exact sb_X12_readsLine_88 hW r ur  v0 0 u74 iv0 h
            · rw [if_neg hc76] at h
              exact sb_X12_readsLine_83 hW r ur  v0 u74 iv0 h
set_option maxRecDepth 100000 in
set_option maxHeartbeats 4000000 in
theorem sb_X12_text_220 {p : Program} {l : Launch} {e : Env} {s : State} {m : MethodId} {args : Array Value} {below : List Frame} {meth : Method} {c : Code} {z : Nat} {D : tc_D} {G : tc_G} (hW : tc_W G) (r : Int32) (ur : tc_S) (v0 : Nat) (s0 : Nat) (s1 : Int32) (u : tc_S) (iv0 : tc_is G v0 12) (is0 : tc_is G s0 12) (h : bl_X12_text_220 G v0 s0 s1 u = some (r, ur)) : tc_R p l e { frames := 8, cells := 0, slots := 0, locals := 208 } s m args below meth c z D cX12_text RX12 2 (some .int) 0 0 (tc_po r G ur) 0 0 G u 220 [(0, .ref (z + v0))] [.int s1, .ref (z + s0)] := by
  unfold bl_X12_text_220 at h
  obtain ⟨u1, eu1, h⟩ := tc_let_ex h
  refine tc_puti is0.1 fl_X12_20 dX12_text_220 ?_
  refine tc_nmu eu1 ?_
  refine tc_aload_n 0 rfl dX12_text_223 ?_
  refine tc_geti iv0.1 fl_X12_318 dX12_text_224 ?_
  refine tc_if_le 232 dX12_text_227 (by decide) (fun hc2 => ?_) (fun hc2 => ?_)
  · rw [if_pos hc2] at h
    refine tc_aload_n 0 rfl dX12_text_232 ?_
    refine tc_sipush (v := 292) (by decide) dX12_text_233 ?_
    refine tc_iconst (v := 0) (by decide) dX12_text_236 ?_
    obtain ⟨x3, u4, hq5, h⟩ := tc_b_ex h
    refine tc_callVv [.int 292, .int 0] dX12_text_237 iv0.1 (ct_X12_copies hW iv0 hq5) ml_X12_83 mw_X12_copies mv_X12_copies ⟨Nat.le_of_ble_eq_true rfl, Nat.le_of_ble_eq_true rfl⟩ rfl rfl (Nat.le_of_ble_eq_true rfl) ⟨Nat.le_refl _, Nat.le_refl _⟩ (by decide) ?_
    refine tc_aload_n 0 rfl dX12_text_240 ?_
    refine tc_iconst (v := 0) (by decide) dX12_text_241 ?_
    obtain ⟨x6, u7, hq8, h⟩ := tc_b_ex h
    refine tc_callVi [.int 0] dX12_text_242 iv0.1 (ct_X12_entries hW iv0 hq8) ml_X12_266 mw_X12_entries mv_X12_entries ⟨Nat.le_of_ble_eq_true rfl, Nat.le_of_ble_eq_true rfl⟩ rfl rfl (Nat.le_of_ble_eq_true rfl) ⟨Nat.le_refl _, Nat.le_refl _⟩ (by decide) ?_
    cases h
    exact tc_ireturn rfl dX12_text_245 rfl rfl ⟨rfl, rfl, rfl⟩
  · rw [if_neg hc2] at h
    refine tc_iconst (v := (-1)) (by decide) dX12_text_230 ?_
    cases h
    exact tc_ireturn rfl dX12_text_231 rfl rfl ⟨rfl, rfl, rfl⟩
set_option maxRecDepth 100000 in
set_option maxHeartbeats 4000000 in
theorem sb_X12_text_196 {p : Program} {l : Launch} {e : Env} {s : State} {m : MethodId} {args : Array Value} {below : List Frame} {meth : Method} {c : Code} {z : Nat} {D : tc_D} {G : tc_G} (hW : tc_W G) (r : Int32) (ur : tc_S) (v0 : Nat) (u : tc_S) (iv0 : tc_is G v0 12) (h : bl_X12_text_196 G v0 u = some (r, ur)) : tc_R p l e { frames := 8, cells := 0, slots := 0, locals := 208 } s m args below meth c z D cX12_text RX12 2 (some .int) 0 0 (tc_po r G ur) 0 0 G u 196 [(0, .ref (z + v0))] [] := by
  unfold bl_X12_text_196 at h
  refine tc_aload_n 0 rfl dX12_text_196 ?_
  refine tc_aload_n 0 rfl dX12_text_197 ?_
  refine tc_geti iv0.1 fl_X12_318 dX12_text_198 ?_
  obtain ⟨u9, eu9, h⟩ := tc_let_ex h
  refine tc_puti iv0.1 fl_X12_245 dX12_text_201 ?_
  refine tc_nmu eu9 ?_
  refine tc_aload_n 0 rfl dX12_text_204 ?_
  refine tc_aload_n 0 rfl dX12_text_205 ?_
  refine tc_geti iv0.1 fl_X12_318 dX12_text_206 ?_
  refine tc_if_le 219 dX12_text_209 (by decide) (fun hc10 => ?_) (fun hc10 => ?_)
  · rw [if_pos hc10] at h
    refine tc_iconst (v := (-1)) (by decide) dX12_text_219 ?_
    exact sb_X12_text_220 hW r ur  v0 v0 (-1) u9 iv0 iv0 h
  · rw [if_neg hc10] at h
    refine tc_aload_n 0 rfl dX12_text_212 ?_
    refine tc_geti iv0.1 fl_X12_321 dX12_text_213 ?_
    refine tc_goto 220 dX12_text_216 (by decide) ?_
    exact sb_X12_text_220 hW r ur  v0 v0 (u9.1 v0 27) u9 iv0 iv0 h
set_option maxRecDepth 100000 in
set_option maxHeartbeats 4000000 in
theorem sb_X12_text_190 {p : Program} {l : Launch} {e : Env} {s : State} {m : MethodId} {args : Array Value} {below : List Frame} {meth : Method} {c : Code} {z : Nat} {D : tc_D} {G : tc_G} (hW : tc_W G) (r : Int32) (ur : tc_S) (K141 : Nat → Int32 → tc_S → Option (Int32 × tc_S)) (hK141 : ∀ (v0 : Nat) (v1 : Int32) (u : tc_S), tc_is G v0 12 → K141 v0 v1 u = some (r, ur) → tc_R p l e { frames := 8, cells := 0, slots := 0, locals := 208 } s m args below meth c z D cX12_text RX12 2 (some .int) 0 0 (tc_po r G ur) 0 0 G u 141 [(0, .ref (z + v0)), (1, .int v1)] []) (v0 : Nat) (v1 : Int32) (u : tc_S) (iv0 : tc_is G v0 12) (h : bl_X12_text_190 G K141 v0 v1 u = some (r, ur)) : tc_R p l e { frames := 8, cells := 0, slots := 0, locals := 208 } s m args below meth c z D cX12_text RX12 2 (some .int) 0 0 (tc_po r G ur) 0 0 G u 190 [(0, .ref (z + v0)), (1, .int v1)] [] := by
  unfold bl_X12_text_190 at h
  obtain ⟨x11, ex11, h⟩ := tc_let_ex h
  refine tc_iinc 1 (v := x11) [(1, .int x11), (0, .ref (z + v0))] dX12_text_190 rfl (by rw [ex11]; rfl) (by decide) rfl ?_
  refine tc_goto 141 dX12_text_193 (by decide) ?_
  refine tc_lvs [1, 0] rfl ?_
  exact hK141 v0 x11 u iv0 h
set_option maxRecDepth 100000 in
set_option maxHeartbeats 4000000 in
theorem sl_X12_text_141 {p : Program} {l : Launch} {e : Env} {s : State} {m : MethodId} {args : Array Value} {below : List Frame} {meth : Method} {c : Code} {z : Nat} {D : tc_D} {G : tc_G} (hW : tc_W G) (r : Int32) (ur : tc_S) : ∀ (n : Nat) (v0 : Nat) (v1 : Int32) (u : tc_S) (iv0 : tc_is G v0 12) (h : lo_X12_text_141 G n v0 v1 u = some (r, ur)), tc_R p l e { frames := 8, cells := 0, slots := 0, locals := 208 } s m args below meth c z D cX12_text RX12 2 (some .int) 0 0 (tc_po r G ur) 0 0 G u 141 [(0, .ref (z + v0)), (1, .int v1)] [] := by
  intro n
  induction n with
  | zero => intro v0 v1 u iv0 h; cases h
  | succ n ih =>
    intro v0 v1 u iv0 h
    rw [lo_X12_text_141] at h
    refine tc_iload_n 1 rfl dX12_text_141 ?_
    refine tc_aload_n 0 rfl dX12_text_142 ?_
    refine tc_geti iv0.1 fl_X12_358 dX12_text_143 ?_
    refine tc_icmp_ge 196 dX12_text_146 (by decide) (fun hc12 => ?_) (fun hc12 => ?_)
    · rw [if_pos hc12] at h
      refine tc_lvs [0] rfl ?_
      exact sb_X12_text_196 hW r ur  v0 u iv0 h
    · rw [if_neg hc12] at h
      refine tc_aload_n 0 rfl dX12_text_149 ?_
      refine tc_geti iv0.1 fl_X12_318 dX12_text_150 ?_
      refine tc_if_ne 196 dX12_text_153 (by decide) (fun hc13 => ?_) (fun hc13 => ?_)
      · rw [if_neg hc13] at h
        refine tc_lvs [0] rfl ?_
        exact sb_X12_text_196 hW r ur  v0 u iv0 h
      · rw [if_pos hc13] at h
        refine tc_aload_n 0 rfl dX12_text_156 ?_
        refine tc_sipush (v := 292) (by decide) dX12_text_157 ?_
        refine tc_aload_n 0 rfl dX12_text_160 ?_
        refine tc_getp hW iv0 fl_X12_66 dX12_text_161 rfl ?_
        refine tc_iload_n 1 rfl dX12_text_164 ?_
        obtain ⟨bx14, x14, ex14, h⟩ := tc_ld_ex h
        refine tc_iald (hW.p iv0 31 rfl).1 bx14 dX12_text_165 ?_
        refine tc_nm ex14 ?_
        refine tc_aload_n 0 rfl dX12_text_166 ?_
        refine tc_getp hW iv0 fl_X12_69 dX12_text_167 rfl ?_
        refine tc_iload_n 1 rfl dX12_text_170 ?_
        obtain ⟨bx15, x15, ex15, h⟩ := tc_ld_ex h
        refine tc_iald (hW.p iv0 32 rfl).1 bx15 dX12_text_171 ?_
        refine tc_nm ex15 ?_
        obtain ⟨x16, u17, hq18, h⟩ := tc_b_ex h
        refine tc_callVi [.int 292, .int x14, .int x15] dX12_text_172 iv0.1 (ct_X12_puts hW iv0 hq18) ml_X12_188 mw_X12_puts mv_X12_puts ⟨Nat.le_of_ble_eq_true rfl, Nat.le_of_ble_eq_true rfl⟩ rfl rfl (Nat.le_of_ble_eq_true rfl) ⟨Nat.le_refl _, Nat.le_refl _⟩ (by decide) ?_
        refine tc_iconst (v := (-1)) (by decide) dX12_text_175 ?_
        refine tc_icmp_ne 190 dX12_text_176 (by decide) (fun hc19 => ?_) (fun hc19 => ?_)
        · rw [if_neg hc19] at h
          exact sb_X12_text_190 hW r ur _ ih v0 v1 u17 iv0 h
        · rw [if_pos hc19] at h
          refine tc_aload_n 0 rfl dX12_text_179 ?_
          refine tc_iconst (v := 4) (by decide) dX12_text_180 ?_
          refine tc_aload_n 0 rfl dX12_text_181 ?_
          refine tc_getp hW iv0 fl_X12_72 dX12_text_182 rfl ?_
          refine tc_iload_n 1 rfl dX12_text_185 ?_
          obtain ⟨bx20, x20, ex20, h⟩ := tc_ld_ex h
          refine tc_iald (hW.p iv0 33 rfl).1 bx20 dX12_text_186 ?_
          refine tc_nm ex20 ?_
          obtain ⟨x21, u22, hq23, h⟩ := tc_b_ex h
          refine tc_callVv [.int 4, .int x20] dX12_text_187 iv0.1 (ct_X12_alsoWrong hW iv0 hq23) ml_X12_334 mw_X12_alsoWrong mv_X12_alsoWrong ⟨Nat.le_of_ble_eq_true rfl, Nat.le_of_ble_eq_true rfl⟩ rfl rfl (Nat.le_of_ble_eq_true rfl) ⟨Nat.le_refl _, Nat.le_refl _⟩ (by decide) ?_
          exact sb_X12_text_190 hW r ur _ ih v0 v1 u22 iv0 h
set_option maxRecDepth 100000 in
set_option maxHeartbeats 4000000 in
theorem sl_X12_text_111 {p : Program} {l : Launch} {e : Env} {s : State} {m : MethodId} {args : Array Value} {below : List Frame} {meth : Method} {c : Code} {z : Nat} {D : tc_D} {G : tc_G} (hW : tc_W G) (r : Int32) (ur : tc_S) : ∀ (n : Nat) (v0 : Nat) (v1 : Int32) (u : tc_S) (iv0 : tc_is G v0 12) (h : lo_X12_text_111 G n v0 v1 u = some (r, ur)), tc_R p l e { frames := 8, cells := 0, slots := 0, locals := 208 } s m args below meth c z D cX12_text RX12 2 (some .int) 0 0 (tc_po r G ur) 0 0 G u 111 [(0, .ref (z + v0)), (1, .int v1)] [] := by
  intro n
  induction n with
  | zero => intro v0 v1 u iv0 h; cases h
  | succ n ih =>
    intro v0 v1 u iv0 h
    rw [lo_X12_text_111] at h
    refine tc_iload_n 1 rfl dX12_text_111 ?_
    refine tc_bipush (v := 12) (by decide) dX12_text_112 ?_
    refine tc_icmp_ge 139 dX12_text_114 (by decide) (fun hc24 => ?_) (fun hc24 => ?_)
    · rw [if_pos hc24] at h
      refine tc_iconst (v := 0) (by decide) dX12_text_139 ?_
      refine tc_istore_n [(1, .int 0), (0, .ref (z + v0))] dX12_text_140 (by decide) rfl ?_
      refine tc_lvs [1, 0] rfl ?_
      exact sl_X12_text_141 hW r ur  _ v0 0 u iv0 h
    · rw [if_neg hc24] at h
      refine tc_aload_n 0 rfl dX12_text_117 ?_
      refine tc_getp hW iv0 fl_X12_7 dX12_text_118 rfl ?_
      refine tc_sipush (v := 292) (by decide) dX12_text_121 ?_
      refine tc_iload_n 1 rfl dX12_text_124 ?_
      refine tc_iadd dX12_text_125 ?_
      refine tc_aload_n 0 rfl dX12_text_126 ?_
      refine tc_getp hW iv0 fl_X12_63 dX12_text_127 rfl ?_
      refine tc_iload_n 1 rfl dX12_text_130 ?_
      obtain ⟨bx25, x25, ex25, h⟩ := tc_ld_ex h
      refine tc_iald (hW.p iv0 30 rfl).1 bx25 dX12_text_131 ?_
      refine tc_nm ex25 ?_
      obtain ⟨bu26, u26, eu26, h⟩ := tc_sd_ex h
      refine tc_iast (hW.p iv0 0 rfl).1 bu26 dX12_text_132 ?_
      refine tc_nmu eu26 ?_
      obtain ⟨x27, ex27, h⟩ := tc_let_ex h
      refine tc_iinc 1 (v := x27) [(1, .int x27), (0, .ref (z + v0))] dX12_text_133 rfl (by rw [ex27]; rfl) (by decide) rfl ?_
      refine tc_goto 111 dX12_text_136 (by decide) ?_
      refine tc_lvs [1, 0] rfl ?_
      exact ih v0 x27 u26 iv0 h
set_option maxRecDepth 100000 in
set_option maxHeartbeats 4000000 in
theorem sb_X12_text_100 {p : Program} {l : Launch} {e : Env} {s : State} {m : MethodId} {args : Array Value} {below : List Frame} {meth : Method} {c : Code} {z : Nat} {D : tc_D} {G : tc_G} (hW : tc_W G) (r : Int32) (ur : tc_S) (v0 : Nat) (u : tc_S) (iv0 : tc_is G v0 12) (h : bl_X12_text_100 G v0 u = some (r, ur)) : tc_R p l e { frames := 8, cells := 0, slots := 0, locals := 208 } s m args below meth c z D cX12_text RX12 2 (some .int) 0 0 (tc_po r G ur) 0 0 G u 100 [(0, .ref (z + v0))] [] := by
  unfold bl_X12_text_100 at h
  refine tc_aload_n 0 rfl dX12_text_100 ?_
  obtain ⟨x28, u29, hq30, h⟩ := tc_b_ex h
  refine tc_callVi [] dX12_text_101 iv0.1 (ct_X12_isGood hW iv0 hq30) ml_X12_324 mw_X12_isGood mv_X12_isGood ⟨Nat.le_of_ble_eq_true rfl, Nat.le_of_ble_eq_true rfl⟩ rfl rfl (Nat.le_of_ble_eq_true rfl) ⟨Nat.le_refl _, Nat.le_refl _⟩ (by decide) ?_
  refine tc_if_ne 109 dX12_text_104 (by decide) (fun hc31 => ?_) (fun hc31 => ?_)
  · rw [if_neg hc31] at h
    refine tc_iconst (v := 0) (by decide) dX12_text_109 ?_
    refine tc_istore_n [(1, .int 0), (0, .ref (z + v0))] dX12_text_110 (by decide) rfl ?_
    refine tc_lvs [1, 0] rfl ?_
    exact sl_X12_text_111 hW r ur  _ v0 0 u29 iv0 h
  · rw [if_pos hc31] at h
    refine tc_iconst (v := (-1)) (by decide) dX12_text_107 ?_
    cases h
    exact tc_ireturn rfl dX12_text_108 rfl rfl ⟨rfl, rfl, rfl⟩
set_option maxRecDepth 100000 in
set_option maxHeartbeats 4000000 in
theorem sl_X12_text_79 {p : Program} {l : Launch} {e : Env} {s : State} {m : MethodId} {args : Array Value} {below : List Frame} {meth : Method} {c : Code} {z : Nat} {D : tc_D} {G : tc_G} (hW : tc_W G) (r : Int32) (ur : tc_S) : ∀ (n : Nat) (v0 : Nat) (u : tc_S) (iv0 : tc_is G v0 12) (h : lo_X12_text_79 G n v0 u = some (r, ur)), tc_R p l e { frames := 8, cells := 0, slots := 0, locals := 208 } s m args below meth c z D cX12_text RX12 2 (some .int) 0 0 (tc_po r G ur) 0 0 G u 79 [(0, .ref (z + v0))] [] := by
  intro n
  induction n with
  | zero => intro v0 u iv0 h; cases h
  | succ n ih =>
    intro v0 u iv0 h
    rw [lo_X12_text_79] at h
    refine tc_aload_n 0 rfl dX12_text_79 ?_
    obtain ⟨x32, u33, hq34, h⟩ := tc_b_ex h
    refine tc_callVi [] dX12_text_80 iv0.1 (ct_X12_isGood hW iv0 hq34) ml_X12_324 mw_X12_isGood mv_X12_isGood ⟨Nat.le_of_ble_eq_true rfl, Nat.le_of_ble_eq_true rfl⟩ rfl rfl (Nat.le_of_ble_eq_true rfl) ⟨Nat.le_refl _, Nat.le_refl _⟩ (by decide) ?_
    refine tc_if_eq 100 dX12_text_83 (by decide) (fun hc35 => ?_) (fun hc35 => ?_)
    · rw [if_pos hc35] at h
      exact sb_X12_text_100 hW r ur  v0 u33 iv0 h
    · rw [if_neg hc35] at h
      refine tc_aload_n 0 rfl dX12_text_86 ?_
      refine tc_geti iv0.1 fl_X12_301 dX12_text_87 ?_
      refine tc_if_eq 100 dX12_text_90 (by decide) (fun hc36 => ?_) (fun hc36 => ?_)
      · rw [if_pos hc36] at h
        exact sb_X12_text_100 hW r ur  v0 u33 iv0 h
      · rw [if_neg hc36] at h
        refine tc_aload_n 0 rfl dX12_text_93 ?_
        obtain ⟨x37, u38, hq39, h⟩ := tc_b_ex h
        refine tc_callVv [] dX12_text_94 iv0.1 (ct_X12_readsLine hW iv0 hq39) ml_X12_402 mw_X12_readsLine mv_X12_readsLine ⟨Nat.le_of_ble_eq_true rfl, Nat.le_of_ble_eq_true rfl⟩ rfl rfl (Nat.le_of_ble_eq_true rfl) ⟨Nat.le_refl _, Nat.le_refl _⟩ (by decide) ?_
        refine tc_goto 79 dX12_text_97 (by decide) ?_
        exact ih v0 u38 iv0 h
set_option maxRecDepth 100000 in
set_option maxHeartbeats 4000000 in
theorem sl_X12_text_47 {p : Program} {l : Launch} {e : Env} {s : State} {m : MethodId} {args : Array Value} {below : List Frame} {meth : Method} {c : Code} {z : Nat} {D : tc_D} {G : tc_G} (hW : tc_W G) (r : Int32) (ur : tc_S) : ∀ (n : Nat) (v0 : Nat) (v1 : Int32) (u : tc_S) (iv0 : tc_is G v0 12) (h : lo_X12_text_47 G n v0 v1 u = some (r, ur)), tc_R p l e { frames := 8, cells := 0, slots := 0, locals := 208 } s m args below meth c z D cX12_text RX12 2 (some .int) 0 0 (tc_po r G ur) 0 0 G u 47 [(0, .ref (z + v0)), (1, .int v1)] [] := by
  intro n
  induction n with
  | zero => intro v0 v1 u iv0 h; cases h
  | succ n ih =>
    intro v0 v1 u iv0 h
    rw [lo_X12_text_47] at h
    refine tc_iload_n 1 rfl dX12_text_47 ?_
    refine tc_bipush (v := 12) (by decide) dX12_text_48 ?_
    refine tc_icmp_ge 75 dX12_text_50 (by decide) (fun hc40 => ?_) (fun hc40 => ?_)
    · rw [if_pos hc40] at h
      refine tc_aload_n 0 rfl dX12_text_75 ?_
      obtain ⟨x41, u42, hq43, h⟩ := tc_b_ex h
      refine tc_callVv [] dX12_text_76 iv0.1 (ct_X12_takes hW iv0 hq43) ml_X12_328 mw_X12_takes mv_X12_takes ⟨Nat.le_of_ble_eq_true rfl, Nat.le_of_ble_eq_true rfl⟩ rfl rfl (Nat.le_of_ble_eq_true rfl) ⟨Nat.le_refl _, Nat.le_refl _⟩ (by decide) ?_
      refine tc_lvs [0] rfl ?_
      exact sl_X12_text_79 hW r ur  _ v0 u42 iv0 h
    · rw [if_neg hc40] at h
      refine tc_aload_n 0 rfl dX12_text_53 ?_
      refine tc_getp hW iv0 fl_X12_63 dX12_text_54 rfl ?_
      refine tc_iload_n 1 rfl dX12_text_57 ?_
      refine tc_aload_n 0 rfl dX12_text_58 ?_
      refine tc_getp hW iv0 fl_X12_7 dX12_text_59 rfl ?_
      refine tc_sipush (v := 292) (by decide) dX12_text_62 ?_
      refine tc_iload_n 1 rfl dX12_text_65 ?_
      refine tc_iadd dX12_text_66 ?_
      obtain ⟨bx44, x44, ex44, h⟩ := tc_ld_ex h
      refine tc_iald (hW.p iv0 0 rfl).1 bx44 dX12_text_67 ?_
      refine tc_nm ex44 ?_
      obtain ⟨bu45, u45, eu45, h⟩ := tc_sd_ex h
      refine tc_iast (hW.p iv0 30 rfl).1 bu45 dX12_text_68 ?_
      refine tc_nmu eu45 ?_
      obtain ⟨x46, ex46, h⟩ := tc_let_ex h
      refine tc_iinc 1 (v := x46) [(1, .int x46), (0, .ref (z + v0))] dX12_text_69 rfl (by rw [ex46]; rfl) (by decide) rfl ?_
      refine tc_goto 47 dX12_text_72 (by decide) ?_
      refine tc_lvs [1, 0] rfl ?_
      exact ih v0 x46 u45 iv0 h
set_option maxRecDepth 100000 in
set_option maxHeartbeats 4000000 in
theorem ct_X12_text {l : Launch} {z : Nat} {D : tc_D} {G : tc_G} (hW : tc_W G) {v0 : Nat} {u : tc_S} {r : Int32} {ur : tc_S} (iv0 : tc_is G v0 12) (h : fn_X12_text G v0 u = some (r, ur)) : tc_C l z D yX12_text cX12_text 2 (some .int) 8 208 0 0 [.ref (z + v0)] G u (tc_po r G ur) := by
  unfold fn_X12_text at h
  refine tc_C.of (by decide) (Nat.le_of_ble_eq_true rfl) fun p e s m args below meth c => ?_
  show tc_R p l e { frames := 8, cells := 0, slots := 0, locals := 208 } s m args below meth c z D cX12_text RX12 2 (some .int) 0 0 (tc_po r G ur) 0 0 G u 0 [(0, .ref (z + v0))] []
  refine tc_aload_n 0 rfl dX12_text_0 ?_
  refine tc_aload_n 0 rfl dX12_text_1 ?_
  refine tc_geti iv0.1 fl_X12_242 dX12_text_2 ?_
  obtain ⟨u47, eu47, h⟩ := tc_let_ex h
  refine tc_puti iv0.1 fl_X12_285 dX12_text_5 ?_
  refine tc_nmu eu47 ?_
  refine tc_aload_n 0 rfl dX12_text_8 ?_
  refine tc_iconst (v := 0) (by decide) dX12_text_9 ?_
  obtain ⟨u48, eu48, h⟩ := tc_let_ex h
  refine tc_puti iv0.1 fl_X12_242 dX12_text_10 ?_
  refine tc_nmu eu48 ?_
  refine tc_aload_n 0 rfl dX12_text_13 ?_
  refine tc_iconst (v := 0) (by decide) dX12_text_14 ?_
  obtain ⟨u49, eu49, h⟩ := tc_let_ex h
  refine tc_puti iv0.1 fl_X12_245 dX12_text_15 ?_
  refine tc_nmu eu49 ?_
  refine tc_aload_n 0 rfl dX12_text_18 ?_
  refine tc_iconst (v := (-1)) (by decide) dX12_text_19 ?_
  obtain ⟨u50, eu50, h⟩ := tc_let_ex h
  refine tc_puti iv0.1 fl_X12_20 dX12_text_20 ?_
  refine tc_nmu eu50 ?_
  refine tc_aload_n 0 rfl dX12_text_23 ?_
  refine tc_iconst (v := 0) (by decide) dX12_text_24 ?_
  obtain ⟨u51, eu51, h⟩ := tc_let_ex h
  refine tc_puti iv0.1 fl_X12_318 dX12_text_25 ?_
  refine tc_nmu eu51 ?_
  refine tc_aload_n 0 rfl dX12_text_28 ?_
  refine tc_iconst (v := 0) (by decide) dX12_text_29 ?_
  obtain ⟨u52, eu52, h⟩ := tc_let_ex h
  refine tc_puti iv0.1 fl_X12_358 dX12_text_30 ?_
  refine tc_nmu eu52 ?_
  refine tc_aload_n 0 rfl dX12_text_33 ?_
  refine tc_iconst (v := 0) (by decide) dX12_text_34 ?_
  obtain ⟨u53, eu53, h⟩ := tc_let_ex h
  refine tc_puti iv0.1 fl_X12_288 dX12_text_35 ?_
  refine tc_nmu eu53 ?_
  refine tc_aload_n 0 rfl dX12_text_38 ?_
  refine tc_sipush (v := 292) (by decide) dX12_text_39 ?_
  obtain ⟨x54, u55, hq56, h⟩ := tc_b_ex h
  refine tc_callVv [.int 292] dX12_text_42 iv0.1 (ct_X12_begins hW iv0 hq56) ml_X12_75 mw_X12_begins mv_X12_begins ⟨Nat.le_of_ble_eq_true rfl, Nat.le_of_ble_eq_true rfl⟩ rfl rfl (Nat.le_of_ble_eq_true rfl) ⟨Nat.le_refl _, Nat.le_refl _⟩ (by decide) ?_
  refine tc_iconst (v := 0) (by decide) dX12_text_45 ?_
  refine tc_istore_n [(1, .int 0), (0, .ref (z + v0))] dX12_text_46 (by decide) rfl ?_
  refine tc_lvs [1, 0] rfl ?_
  exact sl_X12_text_47 hW r ur  _ v0 0 u55 iv0 h
set_option maxRecDepth 100000 in
set_option maxHeartbeats 4000000 in
theorem sb_X12_lost_18 {p : Program} {l : Launch} {e : Env} {s : State} {m : MethodId} {args : Array Value} {below : List Frame} {meth : Method} {c : Code} {z : Nat} {D : tc_D} {G : tc_G} (hW : tc_W G) (r : Int32) (ur : tc_S) (u : tc_S) (h : bl_X12_lost_18 G  u = some (r, ur)) : tc_R p l e { frames := 3, cells := 0, slots := 0, locals := 66 } s m args below meth c z D cX12_lost RX12 5 (some .int) 0 0 (tc_po r G ur) 0 0 G u 18 [] [] := by
  unfold bl_X12_lost_18 at h
  refine tc_iconst (v := (-1)) (by decide) dX12_lost_18 ?_
  cases h
  exact tc_ireturn rfl dX12_lost_19 rfl rfl ⟨rfl, rfl, rfl⟩
set_option maxRecDepth 100000 in
set_option maxHeartbeats 4000000 in
theorem sb_X12_lost_95 {p : Program} {l : Launch} {e : Env} {s : State} {m : MethodId} {args : Array Value} {below : List Frame} {meth : Method} {c : Code} {z : Nat} {D : tc_D} {G : tc_G} (hW : tc_W G) (r : Int32) (ur : tc_S) (K37 : Nat → Int32 → Int32 → tc_S → Option (Int32 × tc_S)) (hK37 : ∀ (v0 : Nat) (v2 : Int32) (v3 : Int32) (u : tc_S), tc_is G v0 12 → K37 v0 v2 v3 u = some (r, ur) → tc_R p l e { frames := 3, cells := 0, slots := 0, locals := 66 } s m args below meth c z D cX12_lost RX12 5 (some .int) 0 0 (tc_po r G ur) 0 0 G u 37 [(0, .ref (z + v0)), (2, .int v2), (3, .int v3)] []) (v0 : Nat) (v3 : Int32) (s0 : Int32) (s1 : Int32) (u : tc_S) (iv0 : tc_is G v0 12) (h : bl_X12_lost_95 G K37 v0 v3 s0 s1 u = some (r, ur)) : tc_R p l e { frames := 3, cells := 0, slots := 0, locals := 66 } s m args below meth c z D cX12_lost RX12 5 (some .int) 0 0 (tc_po r G ur) 0 0 G u 95 [(0, .ref (z + v0)), (3, .int v3)] [.int s1, .int s0] := by
  unfold bl_X12_lost_95 at h
  refine tc_iadd dX12_lost_95 ?_
  obtain ⟨x1, ex1, h⟩ := tc_let_ex h
  refine tc_nm ex1 ?_
  refine tc_istore_n [(2, .int x1), (0, .ref (z + v0)), (3, .int v3)] dX12_lost_96 (by decide) rfl ?_
  obtain ⟨x2, ex2, h⟩ := tc_let_ex h
  refine tc_iinc 2 (v := x2) [(3, .int x2), (2, .int x1), (0, .ref (z + v0))] dX12_lost_97 rfl (by rw [ex2]; rfl) (by decide) rfl ?_
  refine tc_goto 37 dX12_lost_100 (by decide) ?_
  refine tc_lvs [2, 1, 0] rfl ?_
  exact hK37 v0 x1 x2 u iv0 h
set_option maxRecDepth 100000 in
set_option maxHeartbeats 4000000 in
theorem sb_X12_lost_90 {p : Program} {l : Launch} {e : Env} {s : State} {m : MethodId} {args : Array Value} {below : List Frame} {meth : Method} {c : Code} {z : Nat} {D : tc_D} {G : tc_G} (hW : tc_W G) (r : Int32) (ur : tc_S) (K37 : Nat → Int32 → Int32 → tc_S → Option (Int32 × tc_S)) (hK37 : ∀ (v0 : Nat) (v2 : Int32) (v3 : Int32) (u : tc_S), tc_is G v0 12 → K37 v0 v2 v3 u = some (r, ur) → tc_R p l e { frames := 3, cells := 0, slots := 0, locals := 66 } s m args below meth c z D cX12_lost RX12 5 (some .int) 0 0 (tc_po r G ur) 0 0 G u 37 [(0, .ref (z + v0)), (2, .int v2), (3, .int v3)] []) (v0 : Nat) (v3 : Int32) (s0 : Int32) (u : tc_S) (iv0 : tc_is G v0 12) (h : bl_X12_lost_90 G K37 v0 v3 s0 u = some (r, ur)) : tc_R p l e { frames := 3, cells := 0, slots := 0, locals := 66 } s m args below meth c z D cX12_lost RX12 5 (some .int) 0 0 (tc_po r G ur) 0 0 G u 90 [(0, .ref (z + v0)), (3, .int v3)] [.int s0] := by
  unfold bl_X12_lost_90 at h
  refine tc_iconst (v := 1) (by decide) dX12_lost_90 ?_
  refine tc_goto 95 dX12_lost_91 (by decide) ?_
  exact sb_X12_lost_95 hW r ur K37 hK37 v0 v3 s0 1 u iv0 h
set_option maxRecDepth 100000 in
set_option maxHeartbeats 4000000 in
theorem sl_X12_lost_37 {p : Program} {l : Launch} {e : Env} {s : State} {m : MethodId} {args : Array Value} {below : List Frame} {meth : Method} {c : Code} {z : Nat} {D : tc_D} {G : tc_G} (hW : tc_W G) (r : Int32) (ur : tc_S) : ∀ (n : Nat) (v0 : Nat) (v2 : Int32) (v3 : Int32) (u : tc_S) (iv0 : tc_is G v0 12) (h : lo_X12_lost_37 G n v0 v2 v3 u = some (r, ur)), tc_R p l e { frames := 3, cells := 0, slots := 0, locals := 66 } s m args below meth c z D cX12_lost RX12 5 (some .int) 0 0 (tc_po r G ur) 0 0 G u 37 [(0, .ref (z + v0)), (2, .int v2), (3, .int v3)] [] := by
  intro n
  induction n with
  | zero => intro v0 v2 v3 u iv0 h; cases h
  | succ n ih =>
    intro v0 v2 v3 u iv0 h
    rw [lo_X12_lost_37] at h
    refine tc_iload_n 2 rfl dX12_lost_37 ?_
    refine tc_aload_n 0 rfl dX12_lost_38 ?_
    refine tc_geti iv0.1 fl_X12_142 dX12_lost_39 ?_
    refine tc_icmp_ge 103 dX12_lost_42 (by decide) (fun hc3 => ?_) (fun hc3 => ?_)
    · rw [if_pos hc3] at h
      refine tc_iload_n 1 rfl dX12_lost_103 ?_
      cases h
      exact tc_ireturn rfl dX12_lost_104 rfl rfl ⟨rfl, rfl, rfl⟩
    · rw [if_neg hc3] at h
      refine tc_aload_n 0 rfl dX12_lost_45 ?_
      refine tc_iconst (v := 0) (by decide) dX12_lost_46 ?_
      refine tc_aload_n 0 rfl dX12_lost_47 ?_
      refine tc_getp hW iv0 fl_X12_39 dX12_lost_48 rfl ?_
      refine tc_iconst (v := 4) (by decide) dX12_lost_51 ?_
      refine tc_iload_n 2 rfl dX12_lost_52 ?_
      refine tc_imul dX12_lost_53 ?_
      obtain ⟨bx4, x4, ex4, h⟩ := tc_ld_ex h
      refine tc_iald (hW.p iv0 11 rfl).1 bx4 dX12_lost_54 ?_
      refine tc_nm ex4 ?_
      refine tc_iconst (v := 1) (by decide) dX12_lost_55 ?_
      refine tc_isub dX12_lost_56 ?_
      obtain ⟨x5, u6, hq7, h⟩ := tc_b_ex h
      refine tc_callVi [.int 0, .int (x4 - 1)] dX12_lost_57 iv0.1 (ct_X12_lies hW iv0 hq7) ml_X12_166 mw_X12_lies mv_X12_lies ⟨Nat.le_of_ble_eq_true rfl, Nat.le_of_ble_eq_true rfl⟩ rfl rfl (Nat.le_of_ble_eq_true rfl) ⟨Nat.le_refl _, Nat.le_refl _⟩ (by decide) ?_
      refine tc_istore [(4, .int x5), (0, .ref (z + v0)), (2, .int v2), (3, .int v3)] dX12_lost_60 (by decide) rfl ?_
      refine tc_iload_n 2 rfl dX12_lost_62 ?_
      refine tc_iload 0 rfl dX12_lost_63 ?_
      refine tc_if_lt 90 dX12_lost_65 (by decide) (fun hc8 => ?_) (fun hc8 => ?_)
      · rw [if_pos hc8] at h
        refine tc_lvs [1, 3] rfl ?_
        exact sb_X12_lost_90 hW r ur _ ih v0 v3 v2 u6 iv0 h
      · rw [if_neg hc8] at h
        refine tc_aload_n 1 rfl dX12_lost_68 ?_
        refine tc_getp hW iv0 fl_X12_7 dX12_lost_69 rfl ?_
        refine tc_iload 0 rfl dX12_lost_72 ?_
        refine tc_iconst (v := 1) (by decide) dX12_lost_74 ?_
        refine tc_iadd dX12_lost_75 ?_
        obtain ⟨bx9, x9, ex9, h⟩ := tc_ld_ex h
        refine tc_iald (hW.p iv0 0 rfl).1 bx9 dX12_lost_76 ?_
        refine tc_nm ex9 ?_
        refine tc_aload_n 1 rfl dX12_lost_77 ?_
        refine tc_getp hW iv0 fl_X12_39 dX12_lost_78 rfl ?_
        refine tc_iconst (v := 4) (by decide) dX12_lost_81 ?_
        refine tc_iload_n 3 rfl dX12_lost_82 ?_
        refine tc_imul dX12_lost_83 ?_
        refine tc_iconst (v := 1) (by decide) dX12_lost_84 ?_
        refine tc_iadd dX12_lost_85 ?_
        obtain ⟨bx10, x10, ex10, h⟩ := tc_ld_ex h
        refine tc_iald (hW.p iv0 11 rfl).1 bx10 dX12_lost_86 ?_
        refine tc_nm ex10 ?_
        refine tc_icmp_eq 94 dX12_lost_87 (by decide) (fun hc11 => ?_) (fun hc11 => ?_)
        · rw [if_pos hc11] at h
          refine tc_iconst (v := 0) (by decide) dX12_lost_94 ?_
          refine tc_lvs [1, 3] rfl ?_
          exact sb_X12_lost_95 hW r ur _ ih v0 v3 v2 0 u6 iv0 h
        · rw [if_neg hc11] at h
          refine tc_lvs [1, 3] rfl ?_
          exact sb_X12_lost_90 hW r ur _ ih v0 v3 v2 u6 iv0 h
set_option maxRecDepth 100000 in
set_option maxHeartbeats 4000000 in
theorem ct_X12_lost {l : Launch} {z : Nat} {D : tc_D} {G : tc_G} (hW : tc_W G) {v0 : Nat} {v1 : Int32} {u : tc_S} {r : Int32} {ur : tc_S} (iv0 : tc_is G v0 12) (h : fn_X12_lost G v0 v1 u = some (r, ur)) : tc_C l z D yX12_lost cX12_lost 5 (some .int) 3 66 0 0 [.ref (z + v0), .int v1] G u (tc_po r G ur) := by
  unfold fn_X12_lost at h
  refine tc_C.of (by decide) (Nat.le_of_ble_eq_true rfl) fun p e s m args below meth c => ?_
  show tc_R p l e { frames := 3, cells := 0, slots := 0, locals := 66 } s m args below meth c z D cX12_lost RX12 5 (some .int) 0 0 (tc_po r G ur) 0 0 G u 0 [(0, .ref (z + v0)), (1, .int v1)] []
  refine tc_iload_n 1 rfl dX12_lost_0 ?_
  refine tc_iconst (v := 0) (by decide) dX12_lost_1 ?_
  refine tc_iconst (v := 2) (by decide) dX12_lost_2 ?_
  obtain ⟨x12, u13, hq14, h⟩ := tc_b_ex h
  refine tc_callSi [.int v1, .int 0, .int 2] dX12_lost_3 (ct_X12_isIn hW hq14) ml_X12_79 mw_X12_isIn ms_X12_isIn ⟨Nat.le_of_ble_eq_true rfl, Nat.le_of_ble_eq_true rfl⟩ rfl rfl (Nat.le_of_ble_eq_true rfl) ⟨Nat.le_refl _, Nat.le_refl _⟩ ?_
  refine tc_if_eq 18 dX12_lost_6 (by decide) (fun hc15 => ?_) (fun hc15 => ?_)
  · rw [if_pos hc15] at h
    refine tc_lvs [] rfl ?_
    exact sb_X12_lost_18 hW r ur   u13  h
  · rw [if_neg hc15] at h
    refine tc_aload_n 0 rfl dX12_lost_9 ?_
    refine tc_getp hW iv0 fl_X12_16 dX12_lost_10 rfl ?_
    refine tc_iload_n 1 rfl dX12_lost_13 ?_
    obtain ⟨bx16, x16, ex16, h⟩ := tc_ld_ex h
    refine tc_zald (hW.p iv0 2 rfl).1 bx16 dX12_lost_14 ?_
    refine tc_nm ex16 ?_
    refine tc_if_ne 20 dX12_lost_15 (by decide) (fun hc17 => ?_) (fun hc17 => ?_)
    · rw [if_neg hc17] at h
      refine tc_aload_n 0 rfl dX12_lost_20 ?_
      refine tc_sipush (v := 1168) (by decide) dX12_lost_21 ?_
      refine tc_sipush (v := 695) (by decide) dX12_lost_24 ?_
      refine tc_iload_n 1 rfl dX12_lost_27 ?_
      refine tc_imul dX12_lost_28 ?_
      refine tc_iadd dX12_lost_29 ?_
      obtain ⟨x18, u19, hq20, h⟩ := tc_b_ex h
      refine tc_callVv [.int (1168 + (695 * v1))] dX12_lost_30 iv0.1 (ct_X12_lists hW iv0 hq20) ml_X12_152 mw_X12_lists mv_X12_lists ⟨Nat.le_of_ble_eq_true rfl, Nat.le_of_ble_eq_true rfl⟩ rfl rfl (Nat.le_of_ble_eq_true rfl) ⟨Nat.le_refl _, Nat.le_refl _⟩ (by decide) ?_
      refine tc_iconst (v := 0) (by decide) dX12_lost_33 ?_
      refine tc_istore_n [(2, .int 0), (0, .ref (z + v0)), (1, .int v1)] dX12_lost_34 (by decide) rfl ?_
      refine tc_iconst (v := 0) (by decide) dX12_lost_35 ?_
      refine tc_istore_n [(3, .int 0), (2, .int 0), (0, .ref (z + v0)), (1, .int v1)] dX12_lost_36 (by decide) rfl ?_
      refine tc_lvs [2, 1, 0] rfl ?_
      exact sl_X12_lost_37 hW r ur  _ v0 0 0 u19 iv0 h
    · rw [if_pos hc17] at h
      refine tc_lvs [] rfl ?_
      exact sb_X12_lost_18 hW r ur   u13  h
set_option maxRecDepth 100000 in
set_option maxHeartbeats 4000000 in
theorem sl_X12_image_29 {p : Program} {l : Launch} {e : Env} {s : State} {m : MethodId} {args : Array Value} {below : List Frame} {meth : Method} {c : Code} {z : Nat} {D : tc_D} {G : tc_G} (hW : tc_W G) (r : Int32) (ur : tc_S) : ∀ (n : Nat) (v0 : Nat) (v1 : Int32) (v2 : Int32) (v3 : Int32) (u : tc_S) (iv0 : tc_is G v0 12) (h : lo_X12_image_29 G n v0 v1 v2 v3 u = some (r, ur)), tc_R p l e { frames := 1, cells := 0, slots := 0, locals := 23 } s m args below meth c z D cX12_image RX12 4 (some .boolean) 0 0 (tc_po r G ur) 0 0 G u 29 [(0, .ref (z + v0)), (1, .int v1), (2, .int v2), (3, .int v3)] [] := by
  intro n
  induction n with
  | zero => intro v0 v1 v2 v3 u iv0 h; cases h
  | succ n ih =>
    intro v0 v1 v2 v3 u iv0 h
    rw [lo_X12_image_29] at h
    refine tc_iload_n 3 rfl dX12_image_29 ?_
    refine tc_sipush (v := 400) (by decide) dX12_image_30 ?_
    refine tc_icmp_ge 60 dX12_image_33 (by decide) (fun hc1 => ?_) (fun hc1 => ?_)
    · rw [if_pos hc1] at h
      refine tc_aload_n 0 rfl dX12_image_60 ?_
      refine tc_getp hW iv0 fl_X12_7 dX12_image_61 rfl ?_
      refine tc_iload_n 2 rfl dX12_image_64 ?_
      refine tc_sipush (v := 292) (by decide) dX12_image_65 ?_
      refine tc_iadd dX12_image_68 ?_
      refine tc_sipush (v := 400) (by decide) dX12_image_69 ?_
      refine tc_iadd dX12_image_72 ?_
      refine tc_aload_n 0 rfl dX12_image_73 ?_
      refine tc_geti iv0.1 fl_X12_242 dX12_image_74 ?_
      obtain ⟨bu2, u2, eu2, h⟩ := tc_sd_ex h
      refine tc_iast (hW.p iv0 0 rfl).1 bu2 dX12_image_77 ?_
      refine tc_nmu eu2 ?_
      refine tc_aload_n 0 rfl dX12_image_78 ?_
      refine tc_getp hW iv0 fl_X12_7 dX12_image_79 rfl ?_
      refine tc_iload_n 2 rfl dX12_image_82 ?_
      refine tc_sipush (v := 292) (by decide) dX12_image_83 ?_
      refine tc_iadd dX12_image_86 ?_
      refine tc_sipush (v := 400) (by decide) dX12_image_87 ?_
      refine tc_iadd dX12_image_90 ?_
      refine tc_iconst (v := 1) (by decide) dX12_image_91 ?_
      refine tc_iadd dX12_image_92 ?_
      refine tc_aload_n 0 rfl dX12_image_93 ?_
      refine tc_geti iv0.1 fl_X12_245 dX12_image_94 ?_
      obtain ⟨bu3, u3, eu3, h⟩ := tc_sd_ex h
      refine tc_iast (hW.p iv0 0 rfl).1 bu3 dX12_image_97 ?_
      refine tc_nmu eu3 ?_
      refine tc_aload_n 0 rfl dX12_image_98 ?_
      refine tc_getp hW iv0 fl_X12_7 dX12_image_99 rfl ?_
      refine tc_iload_n 2 rfl dX12_image_102 ?_
      refine tc_sipush (v := 292) (by decide) dX12_image_103 ?_
      refine tc_iadd dX12_image_106 ?_
      refine tc_sipush (v := 400) (by decide) dX12_image_107 ?_
      refine tc_iadd dX12_image_110 ?_
      refine tc_iconst (v := 2) (by decide) dX12_image_111 ?_
      refine tc_iadd dX12_image_112 ?_
      refine tc_aload_n 0 rfl dX12_image_113 ?_
      refine tc_geti iv0.1 fl_X12_20 dX12_image_114 ?_
      obtain ⟨bu4, u4, eu4, h⟩ := tc_sd_ex h
      refine tc_iast (hW.p iv0 0 rfl).1 bu4 dX12_image_117 ?_
      refine tc_nmu eu4 ?_
      refine tc_aload_n 0 rfl dX12_image_118 ?_
      refine tc_getp hW iv0 fl_X12_16 dX12_image_119 rfl ?_
      refine tc_iload_n 1 rfl dX12_image_122 ?_
      refine tc_iconst (v := 1) (by decide) dX12_image_123 ?_
      obtain ⟨hz6, h⟩ := tc_zo_ex h
      obtain ⟨bu5, u5, eu5, h⟩ := tc_sd_ex h
      refine tc_zast hz6 (hW.p iv0 2 rfl).1 bu5 dX12_image_124 ?_
      refine tc_nmu eu5 ?_
      refine tc_iconst (v := 1) (by decide) dX12_image_125 ?_
      obtain ⟨hz7, h⟩ := tc_zo_ex h
      cases h
      exact tc_zreturn hz7 rfl dX12_image_126 rfl rfl ⟨rfl, rfl, rfl⟩
    · rw [if_neg hc1] at h
      refine tc_aload_n 0 rfl dX12_image_36 ?_
      refine tc_getp hW iv0 fl_X12_7 dX12_image_37 rfl ?_
      refine tc_iload_n 2 rfl dX12_image_40 ?_
      refine tc_sipush (v := 292) (by decide) dX12_image_41 ?_
      refine tc_iadd dX12_image_44 ?_
      refine tc_iload_n 3 rfl dX12_image_45 ?_
      refine tc_iadd dX12_image_46 ?_
      refine tc_aload_n 0 rfl dX12_image_47 ?_
      refine tc_getp hW iv0 fl_X12_13 dX12_image_48 rfl ?_
      refine tc_iload_n 3 rfl dX12_image_51 ?_
      obtain ⟨bx8, x8, ex8, h⟩ := tc_ld_ex h
      refine tc_iald (hW.p iv0 1 rfl).1 bx8 dX12_image_52 ?_
      refine tc_nm ex8 ?_
      obtain ⟨bu9, u9, eu9, h⟩ := tc_sd_ex h
      refine tc_iast (hW.p iv0 0 rfl).1 bu9 dX12_image_53 ?_
      refine tc_nmu eu9 ?_
      obtain ⟨x10, ex10, h⟩ := tc_let_ex h
      refine tc_iinc 3 (v := x10) [(3, .int x10), (0, .ref (z + v0)), (1, .int v1), (2, .int v2)] dX12_image_54 rfl (by rw [ex10]; rfl) (by decide) rfl ?_
      refine tc_goto 29 dX12_image_57 (by decide) ?_
      refine tc_lvs [1, 2, 3, 0] rfl ?_
      exact ih v0 v1 v2 x10 u9 iv0 h
set_option maxRecDepth 100000 in
set_option maxHeartbeats 4000000 in
theorem ct_X12_image {l : Launch} {z : Nat} {D : tc_D} {G : tc_G} (hW : tc_W G) {v0 : Nat} {v1 : Int32} {u : tc_S} {r : Int32} {ur : tc_S} (iv0 : tc_is G v0 12) (h : fn_X12_image G v0 v1 u = some (r, ur)) : tc_C l z D yX12_image cX12_image 4 (some .boolean) 1 23 0 0 [.ref (z + v0), .int v1] G u (tc_po r G ur) := by
  unfold fn_X12_image at h
  refine tc_C.of (by decide) (Nat.le_of_ble_eq_true rfl) fun p e s m args below meth c => ?_
  show tc_R p l e { frames := 1, cells := 0, slots := 0, locals := 23 } s m args below meth c z D cX12_image RX12 4 (some .boolean) 0 0 (tc_po r G ur) 0 0 G u 0 [(0, .ref (z + v0)), (1, .int v1)] []
  refine tc_iload_n 1 rfl dX12_image_0 ?_
  refine tc_iconst (v := 0) (by decide) dX12_image_1 ?_
  refine tc_iconst (v := 2) (by decide) dX12_image_2 ?_
  obtain ⟨x11, u12, hq13, h⟩ := tc_b_ex h
  refine tc_callSi [.int v1, .int 0, .int 2] dX12_image_3 (ct_X12_isIn hW hq13) ml_X12_79 mw_X12_isIn ms_X12_isIn ⟨Nat.le_of_ble_eq_true rfl, Nat.le_of_ble_eq_true rfl⟩ rfl rfl (Nat.le_of_ble_eq_true rfl) ⟨Nat.le_refl _, Nat.le_refl _⟩ ?_
  refine tc_if_ne 11 dX12_image_6 (by decide) (fun hc14 => ?_) (fun hc14 => ?_)
  · rw [if_neg hc14] at h
    refine tc_sipush (v := 1168) (by decide) dX12_image_11 ?_
    refine tc_sipush (v := 695) (by decide) dX12_image_14 ?_
    refine tc_iload_n 1 rfl dX12_image_17 ?_
    refine tc_imul dX12_image_18 ?_
    refine tc_iadd dX12_image_19 ?_
    obtain ⟨x15, ex15, h⟩ := tc_let_ex h
    refine tc_nm ex15 ?_
    refine tc_istore_n [(2, .int x15), (0, .ref (z + v0)), (1, .int v1)] dX12_image_20 (by decide) rfl ?_
    refine tc_aload_n 1 rfl dX12_image_21 ?_
    refine tc_iconst (v := 0) (by decide) dX12_image_22 ?_
    refine tc_iload_n 0 rfl dX12_image_23 ?_
    obtain ⟨x16, u17, hq18, h⟩ := tc_b_ex h
    refine tc_callVv [.int 0, .int x15] dX12_image_24 iv0.1 (ct_X12_copies hW iv0 hq18) ml_X12_83 mw_X12_copies mv_X12_copies ⟨Nat.le_of_ble_eq_true rfl, Nat.le_of_ble_eq_true rfl⟩ rfl rfl (Nat.le_of_ble_eq_true rfl) ⟨Nat.le_refl _, Nat.le_refl _⟩ (by decide) ?_
    refine tc_iconst (v := 0) (by decide) dX12_image_27 ?_
    refine tc_istore_n [(3, .int 0), (2, .int x15), (0, .ref (z + v0)), (1, .int v1)] dX12_image_28 (by decide) rfl ?_
    refine tc_lvs [2, 3, 1, 0] rfl ?_
    exact sl_X12_image_29 hW r ur  _ v0 v1 x15 0 u17 iv0 h
  · rw [if_pos hc14] at h
    refine tc_iconst (v := 0) (by decide) dX12_image_9 ?_
    obtain ⟨hz19, h⟩ := tc_zo_ex h
    cases h
    exact tc_zreturn hz19 rfl dX12_image_10 rfl rfl ⟨rfl, rfl, rfl⟩
set_option maxRecDepth 100000 in
set_option maxHeartbeats 4000000 in
theorem sb_X12_again_18 {p : Program} {l : Launch} {e : Env} {s : State} {m : MethodId} {args : Array Value} {below : List Frame} {meth : Method} {c : Code} {z : Nat} {D : tc_D} {G : tc_G} (hW : tc_W G) (r : Int32) (ur : tc_S) (u : tc_S) (h : bl_X12_again_18 G  u = some (r, ur)) : tc_R p l e { frames := 1, cells := 0, slots := 0, locals := 23 } s m args below meth c z D cX12_again RX12 4 (some .boolean) 0 0 (tc_po r G ur) 0 0 G u 18 [] [] := by
  unfold bl_X12_again_18 at h
  refine tc_iconst (v := 0) (by decide) dX12_again_18 ?_
  obtain ⟨hz1, h⟩ := tc_zo_ex h
  cases h
  exact tc_zreturn hz1 rfl dX12_again_19 rfl rfl ⟨rfl, rfl, rfl⟩
set_option maxRecDepth 100000 in
set_option maxHeartbeats 4000000 in
theorem sl_X12_again_38 {p : Program} {l : Launch} {e : Env} {s : State} {m : MethodId} {args : Array Value} {below : List Frame} {meth : Method} {c : Code} {z : Nat} {D : tc_D} {G : tc_G} (hW : tc_W G) (r : Int32) (ur : tc_S) : ∀ (n : Nat) (v0 : Nat) (v2 : Int32) (v3 : Int32) (u : tc_S) (iv0 : tc_is G v0 12) (h : lo_X12_again_38 G n v0 v2 v3 u = some (r, ur)), tc_R p l e { frames := 1, cells := 0, slots := 0, locals := 23 } s m args below meth c z D cX12_again RX12 4 (some .boolean) 0 0 (tc_po r G ur) 0 0 G u 38 [(0, .ref (z + v0)), (2, .int v2), (3, .int v3)] [] := by
  intro n
  induction n with
  | zero => intro v0 v2 v3 u iv0 h; cases h
  | succ n ih =>
    intro v0 v2 v3 u iv0 h
    rw [lo_X12_again_38] at h
    refine tc_iload_n 2 rfl dX12_again_38 ?_
    refine tc_sipush (v := 400) (by decide) dX12_again_39 ?_
    refine tc_icmp_ge 69 dX12_again_42 (by decide) (fun hc2 => ?_) (fun hc2 => ?_)
    · rw [if_pos hc2] at h
      refine tc_aload_n 0 rfl dX12_again_69 ?_
      refine tc_aload_n 0 rfl dX12_again_70 ?_
      refine tc_getp hW iv0 fl_X12_7 dX12_again_71 rfl ?_
      refine tc_iload_n 1 rfl dX12_again_74 ?_
      refine tc_sipush (v := 292) (by decide) dX12_again_75 ?_
      refine tc_iadd dX12_again_78 ?_
      refine tc_sipush (v := 400) (by decide) dX12_again_79 ?_
      refine tc_iadd dX12_again_82 ?_
      obtain ⟨bx3, x3, ex3, h⟩ := tc_ld_ex h
      refine tc_iald (hW.p iv0 0 rfl).1 bx3 dX12_again_83 ?_
      refine tc_nm ex3 ?_
      obtain ⟨u4, eu4, h⟩ := tc_let_ex h
      refine tc_puti iv0.1 fl_X12_242 dX12_again_84 ?_
      refine tc_nmu eu4 ?_
      refine tc_aload_n 0 rfl dX12_again_87 ?_
      refine tc_aload_n 0 rfl dX12_again_88 ?_
      refine tc_getp hW iv0 fl_X12_7 dX12_again_89 rfl ?_
      refine tc_iload_n 1 rfl dX12_again_92 ?_
      refine tc_sipush (v := 292) (by decide) dX12_again_93 ?_
      refine tc_iadd dX12_again_96 ?_
      refine tc_sipush (v := 400) (by decide) dX12_again_97 ?_
      refine tc_iadd dX12_again_100 ?_
      refine tc_iconst (v := 1) (by decide) dX12_again_101 ?_
      refine tc_iadd dX12_again_102 ?_
      obtain ⟨bx5, x5, ex5, h⟩ := tc_ld_ex h
      refine tc_iald (hW.p iv0 0 rfl).1 bx5 dX12_again_103 ?_
      refine tc_nm ex5 ?_
      obtain ⟨u6, eu6, h⟩ := tc_let_ex h
      refine tc_puti iv0.1 fl_X12_245 dX12_again_104 ?_
      refine tc_nmu eu6 ?_
      refine tc_aload_n 0 rfl dX12_again_107 ?_
      refine tc_aload_n 0 rfl dX12_again_108 ?_
      refine tc_getp hW iv0 fl_X12_7 dX12_again_109 rfl ?_
      refine tc_iload_n 1 rfl dX12_again_112 ?_
      refine tc_sipush (v := 292) (by decide) dX12_again_113 ?_
      refine tc_iadd dX12_again_116 ?_
      refine tc_sipush (v := 400) (by decide) dX12_again_117 ?_
      refine tc_iadd dX12_again_120 ?_
      refine tc_iconst (v := 2) (by decide) dX12_again_121 ?_
      refine tc_iadd dX12_again_122 ?_
      obtain ⟨bx7, x7, ex7, h⟩ := tc_ld_ex h
      refine tc_iald (hW.p iv0 0 rfl).1 bx7 dX12_again_123 ?_
      refine tc_nm ex7 ?_
      obtain ⟨u8, eu8, h⟩ := tc_let_ex h
      refine tc_puti iv0.1 fl_X12_20 dX12_again_124 ?_
      refine tc_nmu eu8 ?_
      refine tc_iconst (v := 1) (by decide) dX12_again_127 ?_
      obtain ⟨hz9, h⟩ := tc_zo_ex h
      cases h
      exact tc_zreturn hz9 rfl dX12_again_128 rfl rfl ⟨rfl, rfl, rfl⟩
    · rw [if_neg hc2] at h
      refine tc_aload_n 0 rfl dX12_again_45 ?_
      refine tc_getp hW iv0 fl_X12_13 dX12_again_46 rfl ?_
      refine tc_iload_n 2 rfl dX12_again_49 ?_
      refine tc_aload_n 0 rfl dX12_again_50 ?_
      refine tc_getp hW iv0 fl_X12_7 dX12_again_51 rfl ?_
      refine tc_iload_n 1 rfl dX12_again_54 ?_
      refine tc_sipush (v := 292) (by decide) dX12_again_55 ?_
      refine tc_iadd dX12_again_58 ?_
      refine tc_iload_n 2 rfl dX12_again_59 ?_
      refine tc_iadd dX12_again_60 ?_
      obtain ⟨bx10, x10, ex10, h⟩ := tc_ld_ex h
      refine tc_iald (hW.p iv0 0 rfl).1 bx10 dX12_again_61 ?_
      refine tc_nm ex10 ?_
      obtain ⟨bu11, u11, eu11, h⟩ := tc_sd_ex h
      refine tc_iast (hW.p iv0 1 rfl).1 bu11 dX12_again_62 ?_
      refine tc_nmu eu11 ?_
      obtain ⟨x12, ex12, h⟩ := tc_let_ex h
      refine tc_iinc 2 (v := x12) [(3, .int x12), (0, .ref (z + v0)), (2, .int v2)] dX12_again_63 rfl (by rw [ex12]; rfl) (by decide) rfl ?_
      refine tc_goto 38 dX12_again_66 (by decide) ?_
      refine tc_lvs [1, 2, 0] rfl ?_
      exact ih v0 v2 x12 u11 iv0 h
set_option maxRecDepth 100000 in
set_option maxHeartbeats 4000000 in
theorem ct_X12_again {l : Launch} {z : Nat} {D : tc_D} {G : tc_G} (hW : tc_W G) {v0 : Nat} {v1 : Int32} {u : tc_S} {r : Int32} {ur : tc_S} (iv0 : tc_is G v0 12) (h : fn_X12_again G v0 v1 u = some (r, ur)) : tc_C l z D yX12_again cX12_again 4 (some .boolean) 1 23 0 0 [.ref (z + v0), .int v1] G u (tc_po r G ur) := by
  unfold fn_X12_again at h
  refine tc_C.of (by decide) (Nat.le_of_ble_eq_true rfl) fun p e s m args below meth c => ?_
  show tc_R p l e { frames := 1, cells := 0, slots := 0, locals := 23 } s m args below meth c z D cX12_again RX12 4 (some .boolean) 0 0 (tc_po r G ur) 0 0 G u 0 [(0, .ref (z + v0)), (1, .int v1)] []
  refine tc_iload_n 1 rfl dX12_again_0 ?_
  refine tc_iconst (v := 0) (by decide) dX12_again_1 ?_
  refine tc_iconst (v := 2) (by decide) dX12_again_2 ?_
  obtain ⟨x13, u14, hq15, h⟩ := tc_b_ex h
  refine tc_callSi [.int v1, .int 0, .int 2] dX12_again_3 (ct_X12_isIn hW hq15) ml_X12_79 mw_X12_isIn ms_X12_isIn ⟨Nat.le_of_ble_eq_true rfl, Nat.le_of_ble_eq_true rfl⟩ rfl rfl (Nat.le_of_ble_eq_true rfl) ⟨Nat.le_refl _, Nat.le_refl _⟩ ?_
  refine tc_if_eq 18 dX12_again_6 (by decide) (fun hc16 => ?_) (fun hc16 => ?_)
  · rw [if_pos hc16] at h
    refine tc_lvs [] rfl ?_
    exact sb_X12_again_18 hW r ur   u14  h
  · rw [if_neg hc16] at h
    refine tc_aload_n 0 rfl dX12_again_9 ?_
    refine tc_getp hW iv0 fl_X12_16 dX12_again_10 rfl ?_
    refine tc_iload_n 1 rfl dX12_again_13 ?_
    obtain ⟨bx17, x17, ex17, h⟩ := tc_ld_ex h
    refine tc_zald (hW.p iv0 2 rfl).1 bx17 dX12_again_14 ?_
    refine tc_nm ex17 ?_
    refine tc_if_ne 20 dX12_again_15 (by decide) (fun hc18 => ?_) (fun hc18 => ?_)
    · rw [if_neg hc18] at h
      refine tc_sipush (v := 1168) (by decide) dX12_again_20 ?_
      refine tc_sipush (v := 695) (by decide) dX12_again_23 ?_
      refine tc_iload_n 1 rfl dX12_again_26 ?_
      refine tc_imul dX12_again_27 ?_
      refine tc_iadd dX12_again_28 ?_
      obtain ⟨x19, ex19, h⟩ := tc_let_ex h
      refine tc_nm ex19 ?_
      refine tc_istore_n [(2, .int x19), (0, .ref (z + v0)), (1, .int v1)] dX12_again_29 (by decide) rfl ?_
      refine tc_aload_n 1 rfl dX12_again_30 ?_
      refine tc_iload_n 0 rfl dX12_again_31 ?_
      refine tc_iconst (v := 0) (by decide) dX12_again_32 ?_
      obtain ⟨x20, u21, hq22, h⟩ := tc_b_ex h
      refine tc_callVv [.int x19, .int 0] dX12_again_33 iv0.1 (ct_X12_copies hW iv0 hq22) ml_X12_83 mw_X12_copies mv_X12_copies ⟨Nat.le_of_ble_eq_true rfl, Nat.le_of_ble_eq_true rfl⟩ rfl rfl (Nat.le_of_ble_eq_true rfl) ⟨Nat.le_refl _, Nat.le_refl _⟩ (by decide) ?_
      refine tc_iconst (v := 0) (by decide) dX12_again_36 ?_
      refine tc_istore_n [(3, .int 0), (2, .int x19), (0, .ref (z + v0)), (1, .int v1)] dX12_again_37 (by decide) rfl ?_
      refine tc_lvs [2, 1, 0] rfl ?_
      exact sl_X12_again_38 hW r ur  _ v0 x19 0 u21 iv0 h
    · rw [if_pos hc18] at h
      refine tc_lvs [] rfl ?_
      exact sb_X12_again_18 hW r ur   u14  h
