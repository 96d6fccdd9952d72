set_option maxRecDepth 100000 in
set_option maxHeartbeats 4000000 in
theorem sb_X11_put_14 {p : Program} {l : Launch} {e : Env} {s : State} {m : MethodId} {args : Array Value} {below : List Frame} {meth : Method} {c : Code} {z : Nat} {D : tc_D} {G : tc_G} (hW : tc_W G) (r : Int32) (ur : tc_S) (u : tc_S) (h : bl_X11_put_14 G  u = some (r, ur)) : tc_R p l e { frames := 6, cells := 0, slots := 0, locals := 149 } s m args below meth c z D cX11_put RX11 3 (some .int) 0 0 (tc_po r G ur) 0 0 G u 14 [] [] := by
  unfold bl_X11_put_14 at h
  refine tc_iconst (v := (-1)) (by decide) dX11_put_14 ?_
  cases h
  exact tc_ireturn rfl dX11_put_15 rfl rfl ⟨rfl, rfl, rfl⟩
set_option maxRecDepth 100000 in
set_option maxHeartbeats 4000000 in
theorem ct_X11_put {l : Launch} {z : Nat} {D : tc_D} {G : tc_G} (hW : tc_W G) {v0 : Nat} {v1 : Int32} {v2 : Int32} {u : tc_S} {r : Int32} {ur : tc_S} (iv0 : tc_is G v0 11) (h : fn_X11_put G v0 v1 v2 u = some (r, ur)) : tc_C l z D yX11_put cX11_put 3 (some .int) 6 149 0 0 [.ref (z + v0), .int v1, .int v2] G u (tc_po r G ur) := by
  unfold fn_X11_put at h
  refine tc_C.of (by decide) (Nat.le_of_ble_eq_true rfl) fun p e s m args below meth c => ?_
  show tc_R p l e { frames := 6, cells := 0, slots := 0, locals := 149 } s m args below meth c z D cX11_put RX11 3 (some .int) 0 0 (tc_po r G ur) 0 0 G u 0 [(0, .ref (z + v0)), (1, .int v1), (2, .int v2)] []
  refine tc_iload_n 1 rfl dX11_put_0 ?_
  obtain ⟨x1, u2, hq3, h⟩ := tc_b_ex h
  refine tc_callSi [.int v1] dX11_put_1 (ct_X11_isNumber hW hq3) ml_X11_124 mw_X11_isNumber ms_X11_isNumber ⟨Nat.le_of_ble_eq_true rfl, Nat.le_of_ble_eq_true rfl⟩ rfl rfl (Nat.le_of_ble_eq_true rfl) ⟨Nat.le_refl _, Nat.le_refl _⟩ ?_
  refine tc_if_eq 14 dX11_put_4 (by decide) (fun hc4 => ?_) (fun hc4 => ?_)
  · rw [if_pos hc4] at h
    refine tc_lvs [] rfl ?_
    exact sb_X11_put_14 hW r ur   u2  h
  · rw [if_neg hc4] at h
    refine tc_iload_n 2 rfl dX11_put_7 ?_
    obtain ⟨x5, u6, hq7, h⟩ := tc_b_ex h
    refine tc_callSi [.int v2] dX11_put_8 (ct_X11_isNumber hW hq7) ml_X11_124 mw_X11_isNumber ms_X11_isNumber ⟨Nat.le_of_ble_eq_true rfl, Nat.le_of_ble_eq_true rfl⟩ rfl rfl (Nat.le_of_ble_eq_true rfl) ⟨Nat.le_refl _, Nat.le_refl _⟩ ?_
    refine tc_if_ne 16 dX11_put_11 (by decide) (fun hc8 => ?_) (fun hc8 => ?_)
    · rw [if_neg hc8] at h
      refine tc_aload_n 0 rfl dX11_put_16 ?_
      refine tc_getp hW iv0 fl_X11_57 dX11_put_17 rfl ?_
      refine tc_aload_n 0 rfl dX11_put_20 ?_
      refine tc_getp hW iv0 fl_X11_12 dX11_put_21 rfl ?_
      refine tc_getp hW (hW.p iv0 0 rfl) fl_X11_113 dX11_put_24 rfl ?_
      refine tc_iload_n 1 rfl dX11_put_27 ?_
      refine tc_iload_n 2 rfl dX11_put_28 ?_
      obtain ⟨x9, u10, hq11, h⟩ := tc_b_ex h
      refine tc_callVi [.ref (z + (tc_p G (tc_p G v0 0) 0)), .int v1, .int v2] dX11_put_29 (hW.p iv0 6 rfl).1 (ct_X3_enter hW (hW.p iv0 6 rfl) (hW.p (hW.p iv0 0 rfl) 0 rfl) hq11) ml_X11_127 mw_X3_enter mv_X3_enter ⟨Nat.le_of_ble_eq_true rfl, Nat.le_of_ble_eq_true rfl⟩ rfl rfl (Nat.le_of_ble_eq_true rfl) ⟨Nat.le_refl _, Nat.le_refl _⟩ (by decide) ?_
      cases h
      exact tc_ireturn rfl dX11_put_32 rfl rfl ⟨rfl, rfl, rfl⟩
    · rw [if_pos hc8] at h
      refine tc_lvs [] rfl ?_
      exact sb_X11_put_14 hW r ur   u6  h
set_option maxRecDepth 100000 in
set_option maxHeartbeats 4000000 in
theorem sb_X11_get_52 {p : Program} {l : Launch} {e : Env} {s : State} {m : MethodId} {args : Array Value} {below : List Frame} {meth : Method} {c : Code} {z : Nat} {D : tc_D} {G : tc_G} (hW : tc_W G) (r : Int32) (ur : tc_S) (s0 : Int32) (u : tc_S) (h : bl_X11_get_52 G s0 u = some (r, ur)) : tc_R p l e { frames := 3, cells := 0, slots := 0, locals := 68 } s m args below meth c z D cX11_get RX11 4 (some .int) 0 0 (tc_po r G ur) 0 0 G u 52 [] [.int s0] := by
  unfold bl_X11_get_52 at h
  cases h
  exact tc_ireturn rfl dX11_get_52 rfl rfl ⟨rfl, rfl, rfl⟩
set_option maxRecDepth 100000 in
set_option maxHeartbeats 4000000 in
theorem ct_X11_get {l : Launch} {z : Nat} {D : tc_D} {G : tc_G} (hW : tc_W G) {v0 : Nat} {v1 : Int32} {u : tc_S} {r : Int32} {ur : tc_S} (iv0 : tc_is G v0 11) (h : fn_X11_get G v0 v1 u = some (r, ur)) : tc_C l z D yX11_get cX11_get 4 (some .int) 3 68 0 0 [.ref (z + v0), .int v1] G u (tc_po r G ur) := by
  unfold fn_X11_get at h
  refine tc_C.of (by decide) (Nat.le_of_ble_eq_true rfl) fun p e s m args below meth c => ?_
  show tc_R p l e { frames := 3, cells := 0, slots := 0, locals := 68 } s m args below meth c z D cX11_get RX11 4 (some .int) 0 0 (tc_po r G ur) 0 0 G u 0 [(0, .ref (z + v0)), (1, .int v1)] []
  refine tc_iload_n 1 rfl dX11_get_0 ?_
  obtain ⟨x1, u2, hq3, h⟩ := tc_b_ex h
  refine tc_callSi [.int v1] dX11_get_1 (ct_X11_isNumber hW hq3) ml_X11_124 mw_X11_isNumber ms_X11_isNumber ⟨Nat.le_of_ble_eq_true rfl, Nat.le_of_ble_eq_true rfl⟩ rfl rfl (Nat.le_of_ble_eq_true rfl) ⟨Nat.le_refl _, Nat.le_refl _⟩ ?_
  refine tc_if_ne 9 dX11_get_4 (by decide) (fun hc4 => ?_) (fun hc4 => ?_)
  · rw [if_neg hc4] at h
    refine tc_aload_n 0 rfl dX11_get_9 ?_
    refine tc_getp hW iv0 fl_X11_12 dX11_get_10 rfl ?_
    refine tc_getp hW (hW.p iv0 0 rfl) fl_X11_113 dX11_get_13 rfl ?_
    refine tc_astore_n [(2, .ref (z + (tc_p G (tc_p G v0 0) 0))), (0, .ref (z + v0)), (1, .int v1)] dX11_get_16 (by decide) rfl ?_
    refine tc_aload_n 0 rfl dX11_get_17 ?_
    refine tc_iload_n 2 rfl dX11_get_18 ?_
    obtain ⟨x5, u6, hq7, h⟩ := tc_b_ex h
    refine tc_callVi [.int v1] dX11_get_19 (hW.p (hW.p iv0 0 rfl) 0 rfl).1 (ct_X9_locate hW (hW.p (hW.p iv0 0 rfl) 0 rfl) hq7) ml_X11_131 mw_X9_locate mv_X9_locate ⟨Nat.le_of_ble_eq_true rfl, Nat.le_of_ble_eq_true rfl⟩ rfl rfl (Nat.le_of_ble_eq_true rfl) ⟨Nat.le_refl _, Nat.le_refl _⟩ (by decide) ?_
    refine tc_istore_n [(3, .int x5), (2, .ref (z + (tc_p G (tc_p G v0 0) 0))), (0, .ref (z + v0)), (1, .int v1)] dX11_get_22 (by decide) rfl ?_
    refine tc_aload_n 1 rfl dX11_get_23 ?_
    refine tc_dup rfl dX11_get_24 ?_
    refine tc_geti (hW.p (hW.p iv0 0 rfl) 0 rfl).1 fl_X11_135 dX11_get_25 ?_
    refine tc_aload_n 1 rfl dX11_get_28 ?_
    refine tc_iload_n 3 rfl dX11_get_29 ?_
    refine tc_iload_n 0 rfl dX11_get_30 ?_
    obtain ⟨x8, u9, hq10, h⟩ := tc_b_ex h
    refine tc_callVi [.int v1, .int x5] dX11_get_31 (hW.p (hW.p iv0 0 rfl) 0 rfl).1 (ct_X9_readsTill hW (hW.p (hW.p iv0 0 rfl) 0 rfl) hq10) ml_X11_137 mw_X9_readsTill mv_X9_readsTill ⟨Nat.le_of_ble_eq_true rfl, Nat.le_of_ble_eq_true rfl⟩ rfl rfl (Nat.le_of_ble_eq_true rfl) ⟨Nat.le_refl _, Nat.le_refl _⟩ (by decide) ?_
    refine tc_iadd dX11_get_34 ?_
    obtain ⟨u11, eu11, h⟩ := tc_let_ex h
    refine tc_puti (hW.p (hW.p iv0 0 rfl) 0 rfl).1 fl_X11_135 dX11_get_35 ?_
    refine tc_nmu eu11 ?_
    refine tc_iload_n 0 rfl dX11_get_38 ?_
    refine tc_if_ge 46 dX11_get_39 (by decide) (fun hc12 => ?_) (fun hc12 => ?_)
    · rw [if_pos hc12] at h
      refine tc_aload_n 1 rfl dX11_get_46 ?_
      refine tc_getp hW (hW.p (hW.p iv0 0 rfl) 0 rfl) fl_X11_141 dX11_get_47 rfl ?_
      refine tc_iload_n 0 rfl dX11_get_50 ?_
      obtain ⟨bx13, x13, ex13, h⟩ := tc_ld_ex h
      refine tc_iald (hW.p (hW.p (hW.p iv0 0 rfl) 0 rfl) 4 rfl).1 bx13 dX11_get_51 ?_
      refine tc_nm ex13 ?_
      refine tc_lvs [] rfl ?_
      exact sb_X11_get_52 hW r ur  x13 u11  h
    · rw [if_neg hc12] at h
      refine tc_iconst (v := (-1)) (by decide) dX11_get_42 ?_
      refine tc_goto 52 dX11_get_43 (by decide) ?_
      refine tc_lvs [] rfl ?_
      exact sb_X11_get_52 hW r ur  (-1) u11  h
  · rw [if_pos hc4] at h
    refine tc_iconst (v := (-1)) (by decide) dX11_get_7 ?_
    cases h
    exact tc_ireturn rfl dX11_get_8 rfl rfl ⟨rfl, rfl, rfl⟩
set_option maxRecDepth 100000 in
set_option maxHeartbeats 4000000 in
theorem sb_X11_drop_26 {p : Program} {l : Launch} {e : Env} {s : State} {m : MethodId} {args : Array Value} {below : List Frame} {meth : Method} {c : Code} {z : Nat} {D : tc_D} {G : tc_G} (hW : tc_W G) (r : Int32) (ur : tc_S) (s0 : Int32) (u : tc_S) (h : bl_X11_drop_26 G s0 u = some (r, ur)) : tc_R p l e { frames := 6, cells := 0, slots := 0, locals := 150 } s m args below meth c z D cX11_drop RX11 2 (some .int) 0 0 (tc_po r G ur) 0 0 G u 26 [] [.int s0] := by
  unfold bl_X11_drop_26 at h
  cases h
  exact tc_ireturn rfl dX11_drop_26 rfl rfl ⟨rfl, rfl, rfl⟩
set_option maxRecDepth 100000 in
set_option maxHeartbeats 4000000 in
theorem ct_X11_drop {l : Launch} {z : Nat} {D : tc_D} {G : tc_G} (hW : tc_W G) {v0 : Nat} {v1 : Int32} {u : tc_S} {r : Int32} {ur : tc_S} (iv0 : tc_is G v0 11) (h : fn_X11_drop G v0 v1 u = some (r, ur)) : tc_C l z D yX11_drop cX11_drop 2 (some .int) 6 150 0 0 [.ref (z + v0), .int v1] G u (tc_po r G ur) := by
  unfold fn_X11_drop at h
  refine tc_C.of (by decide) (Nat.le_of_ble_eq_true rfl) fun p e s m args below meth c => ?_
  show tc_R p l e { frames := 6, cells := 0, slots := 0, locals := 150 } s m args below meth c z D cX11_drop RX11 2 (some .int) 0 0 (tc_po r G ur) 0 0 G u 0 [(0, .ref (z + v0)), (1, .int v1)] []
  refine tc_iload_n 1 rfl dX11_drop_0 ?_
  obtain ⟨x1, u2, hq3, h⟩ := tc_b_ex h
  refine tc_callSi [.int v1] dX11_drop_1 (ct_X11_isNumber hW hq3) ml_X11_124 mw_X11_isNumber ms_X11_isNumber ⟨Nat.le_of_ble_eq_true rfl, Nat.le_of_ble_eq_true rfl⟩ rfl rfl (Nat.le_of_ble_eq_true rfl) ⟨Nat.le_refl _, Nat.le_refl _⟩ ?_
  refine tc_if_eq 25 dX11_drop_4 (by decide) (fun hc4 => ?_) (fun hc4 => ?_)
  · rw [if_pos hc4] at h
    refine tc_iconst (v := (-1)) (by decide) dX11_drop_25 ?_
    refine tc_lvs [] rfl ?_
    exact sb_X11_drop_26 hW r ur  (-1) u2  h
  · rw [if_neg hc4] at h
    refine tc_aload_n 0 rfl dX11_drop_7 ?_
    refine tc_getp hW iv0 fl_X11_57 dX11_drop_8 rfl ?_
    refine tc_aload_n 0 rfl dX11_drop_11 ?_
    refine tc_getp hW iv0 fl_X11_12 dX11_drop_12 rfl ?_
    refine tc_getp hW (hW.p iv0 0 rfl) fl_X11_113 dX11_drop_15 rfl ?_
    refine tc_iload_n 1 rfl dX11_drop_18 ?_
    obtain ⟨x5, u6, hq7, h⟩ := tc_b_ex h
    refine tc_callVi [.ref (z + (tc_p G (tc_p G v0 0) 0)), .int v1] dX11_drop_19 (hW.p iv0 6 rfl).1 (ct_X3_remove hW (hW.p iv0 6 rfl) (hW.p (hW.p iv0 0 rfl) 0 rfl) hq7) ml_X11_145 mw_X3_remove mv_X3_remove ⟨Nat.le_of_ble_eq_true rfl, Nat.le_of_ble_eq_true rfl⟩ rfl rfl (Nat.le_of_ble_eq_true rfl) ⟨Nat.le_refl _, Nat.le_refl _⟩ (by decide) ?_
    refine tc_goto 26 dX11_drop_22 (by decide) ?_
    refine tc_lvs [] rfl ?_
    exact sb_X11_drop_26 hW r ur  x5 u6  h
set_option maxRecDepth 100000 in
set_option maxHeartbeats 4000000 in
theorem ct_X11_settle {l : Launch} {z : Nat} {D : tc_D} {G : tc_G} (hW : tc_W G) {v0 : Nat} {u : tc_S} {r : Int32} {ur : tc_S} (iv0 : tc_is G v0 11) (h : fn_X11_settle G v0 u = some (r, ur)) : tc_C l z D yX11_settle cX11_settle 1 (some .int) 5 126 0 0 [.ref (z + v0)] G u (tc_po r G ur) := by
  unfold fn_X11_settle at h
  refine tc_C.of (by decide) (Nat.le_of_ble_eq_true rfl) fun p e s m args below meth c => ?_
  show tc_R p l e { frames := 5, cells := 0, slots := 0, locals := 126 } s m args below meth c z D cX11_settle RX11 1 (some .int) 0 0 (tc_po r G ur) 0 0 G u 0 [(0, .ref (z + v0))] []
  refine tc_aload_n 0 rfl dX11_settle_0 ?_
  refine tc_getp hW iv0 fl_X11_41 dX11_settle_1 rfl ?_
  refine tc_aload_n 0 rfl dX11_settle_4 ?_
  refine tc_getp hW iv0 fl_X11_12 dX11_settle_5 rfl ?_
  refine tc_getp hW (hW.p iv0 0 rfl) fl_X11_113 dX11_settle_8 rfl ?_
  refine tc_iconst (v := 1) (by decide) dX11_settle_11 ?_
  obtain ⟨x1, u2, hq3, h⟩ := tc_b_ex h
  refine tc_callVi [.ref (z + (tc_p G (tc_p G v0 0) 0)), .int 1] dX11_settle_12 (hW.p iv0 4 rfl).1 (ct_X4_emptyStash hW (hW.p iv0 4 rfl) (hW.p (hW.p iv0 0 rfl) 0 rfl) hq3) ml_X11_149 mw_X4_emptyStash mv_X4_emptyStash ⟨Nat.le_of_ble_eq_true rfl, Nat.le_of_ble_eq_true rfl⟩ rfl rfl (Nat.le_of_ble_eq_true rfl) ⟨Nat.le_refl _, Nat.le_refl _⟩ (by decide) ?_
  cases h
  exact tc_ireturn rfl dX11_settle_15 rfl rfl ⟨rfl, rfl, rfl⟩
set_option maxRecDepth 100000 in
set_option maxHeartbeats 4000000 in
theorem sb_X11_areHashes_28 {p : Program} {l : Launch} {e : Env} {s : State} {m : MethodId} {args : Array Value} {below : List Frame} {meth : Method} {c : Code} {z : Nat} {D : tc_D} {G : tc_G} (hW : tc_W G) (r : Int32) (ur : tc_S) (s0 : Int32) (u : tc_S) (h : bl_X11_areHashes_28 G s0 u = some (r, ur)) : tc_R p l e { frames := 0, cells := 0, slots := 0, locals := 0 } s m args below meth c z D cX11_areHashes RX11 2 (some .boolean) 0 0 (tc_po r G ur) 0 0 G u 28 [] [.int s0] := by
  unfold bl_X11_areHashes_28 at h
  obtain ⟨hz1, h⟩ := tc_zo_ex h
  cases h
  exact tc_zreturn hz1 rfl dX11_areHashes_28 rfl rfl ⟨rfl, rfl, rfl⟩
set_option maxRecDepth 100000 in
set_option maxHeartbeats 4000000 in
theorem sb_X11_areHashes_27 {p : Program} {l : Launch} {e : Env} {s : State} {m : MethodId} {args : Array Value} {below : List Frame} {meth : Method} {c : Code} {z : Nat} {D : tc_D} {G : tc_G} (hW : tc_W G) (r : Int32) (ur : tc_S) (u : tc_S) (h : bl_X11_areHashes_27 G  u = some (r, ur)) : tc_R p l e { frames := 0, cells := 0, slots := 0, locals := 0 } s m args below meth c z D cX11_areHashes RX11 2 (some .boolean) 0 0 (tc_po r G ur) 0 0 G u 27 [] [] := by
  unfold bl_X11_areHashes_27 at h
  refine tc_iconst (v := 0) (by decide) dX11_areHashes_27 ?_
  exact sb_X11_areHashes_28 hW r ur  0 u  h
set_option maxRecDepth 100000 in
set_option maxHeartbeats 4000000 in
theorem ct_X11_areHashes {l : Launch} {z : Nat} {D : tc_D} {G : tc_G} (hW : tc_W G) {v0 : Int32} {v1 : Int32} {u : tc_S} {r : Int32} {ur : tc_S} (h : fn_X11_areHashes G v0 v1 u = some (r, ur)) : tc_C l z D yX11_areHashes cX11_areHashes 2 (some .boolean) 0 0 0 0 [.int v0, .int v1] G u (tc_po r G ur) := by
  unfold fn_X11_areHashes at h
  refine tc_C.of (by decide) (Nat.le_of_ble_eq_true rfl) fun p e s m args below meth c => ?_
  show tc_R p l e { frames := 0, cells := 0, slots := 0, locals := 0 } s m args below meth c z D cX11_areHashes RX11 2 (some .boolean) 0 0 (tc_po r G ur) 0 0 G u 0 [(0, .int v0), (1, .int v1)] []
  refine tc_iload_n 0 rfl dX11_areHashes_0 ?_
  refine tc_iconst (v := 1) (by decide) dX11_areHashes_1 ?_
  refine tc_icmp_lt 27 dX11_areHashes_2 (by decide) (fun hc2 => ?_) (fun hc2 => ?_)
  · rw [if_pos hc2] at h
    refine tc_lvs [] rfl ?_
    exact sb_X11_areHashes_27 hW r ur   u  h
  · rw [if_neg hc2] at h
    refine tc_iload_n 0 rfl dX11_areHashes_5 ?_
    refine tc_sipush (v := 1009) (by decide) dX11_areHashes_6 ?_
    refine tc_icmp_ge 27 dX11_areHashes_9 (by decide) (fun hc3 => ?_) (fun hc3 => ?_)
    · rw [if_pos hc3] at h
      refine tc_lvs [] rfl ?_
      exact sb_X11_areHashes_27 hW r ur   u  h
    · rw [if_neg hc3] at h
      refine tc_iload_n 1 rfl dX11_areHashes_12 ?_
      refine tc_if_lt 27 dX11_areHashes_13 (by decide) (fun hc4 => ?_) (fun hc4 => ?_)
      · rw [if_pos hc4] at h
        refine tc_lvs [] rfl ?_
        exact sb_X11_areHashes_27 hW r ur   u  h
      · rw [if_neg hc4] at h
        refine tc_iload_n 1 rfl dX11_areHashes_16 ?_
        refine tc_sipush (v := 1009) (by decide) dX11_areHashes_17 ?_
        refine tc_icmp_ge 27 dX11_areHashes_20 (by decide) (fun hc5 => ?_) (fun hc5 => ?_)
        · rw [if_pos hc5] at h
          refine tc_lvs [] rfl ?_
          exact sb_X11_areHashes_27 hW r ur   u  h
        · rw [if_neg hc5] at h
          refine tc_iconst (v := 1) (by decide) dX11_areHashes_23 ?_
          refine tc_goto 28 dX11_areHashes_24 (by decide) ?_
          refine tc_lvs [] rfl ?_
          exact sb_X11_areHashes_28 hW r ur  1 u  h
set_option maxRecDepth 100000 in
set_option maxHeartbeats 4000000 in
theorem sb_X11_rehash_44 {p : Program} {l : Launch} {e : Env} {s : State} {m : MethodId} {args : Array Value} {below : List Frame} {meth : Method} {c : Code} {z : Nat} {D : tc_D} {G : tc_G} (hW : tc_W G) (r : Int32) (ur : tc_S) (s0 : Int32) (u : tc_S) (h : bl_X11_rehash_44 G s0 u = some (r, ur)) : tc_R p l e { frames := 5, cells := 0, slots := 0, locals := 125 } s m args below meth c z D cX11_rehash RX11 5 (some .boolean) 0 0 (tc_po r G ur) 0 0 G u 44 [] [.int s0] := by
  unfold bl_X11_rehash_44 at h
  obtain ⟨hz1, h⟩ := tc_zo_ex h
  cases h
  exact tc_zreturn hz1 rfl dX11_rehash_44 rfl rfl ⟨rfl, rfl, rfl⟩
set_option maxRecDepth 100000 in
set_option maxHeartbeats 4000000 in
theorem sb_X11_rehash_43 {p : Program} {l : Launch} {e : Env} {s : State} {m : MethodId} {args : Array Value} {below : List Frame} {meth : Method} {c : Code} {z : Nat} {D : tc_D} {G : tc_G} (hW : tc_W G) (r : Int32) (ur : tc_S) (u : tc_S) (h : bl_X11_rehash_43 G  u = some (r, ur)) : tc_R p l e { frames := 5, cells := 0, slots := 0, locals := 125 } s m args below meth c z D cX11_rehash RX11 5 (some .boolean) 0 0 (tc_po r G ur) 0 0 G u 43 [] [] := by
  unfold bl_X11_rehash_43 at h
  refine tc_iconst (v := 0) (by decide) dX11_rehash_43 ?_
  exact sb_X11_rehash_44 hW r ur  0 u  h
set_option maxRecDepth 100000 in
set_option maxHeartbeats 4000000 in
theorem ct_X11_rehash {l : Launch} {z : Nat} {D : tc_D} {G : tc_G} (hW : tc_W G) {v0 : Nat} {v1 : Int32} {v2 : Int32} {v3 : Int32} {v4 : Int32} {u : tc_S} {r : Int32} {ur : tc_S} (iv0 : tc_is G v0 11) (h : fn_X11_rehash G v0 v1 v2 v3 v4 u = some (r, ur)) : tc_C l z D yX11_rehash cX11_rehash 5 (some .boolean) 5 125 0 0 [.ref (z + v0), .int v1, .int v2, .int v3, .int v4] G u (tc_po r G ur) := by
  unfold fn_X11_rehash at h
  refine tc_C.of (by decide) (Nat.le_of_ble_eq_true rfl) fun p e s m args below meth c => ?_
  show tc_R p l e { frames := 5, cells := 0, slots := 0, locals := 125 } s m args below meth c z D cX11_rehash RX11 5 (some .boolean) 0 0 (tc_po r G ur) 0 0 G u 0 [(0, .ref (z + v0)), (1, .int v1), (2, .int v2), (3, .int v3), (4, .int v4)] []
  refine tc_iload_n 1 rfl dX11_rehash_0 ?_
  refine tc_iload_n 2 rfl dX11_rehash_1 ?_
  obtain ⟨x2, u3, hq4, h⟩ := tc_b_ex h
  refine tc_callSi [.int v1, .int v2] dX11_rehash_2 (ct_X11_areHashes hW hq4) ml_X11_153 mw_X11_areHashes ms_X11_areHashes ⟨Nat.le_of_ble_eq_true rfl, Nat.le_of_ble_eq_true rfl⟩ rfl rfl (Nat.le_of_ble_eq_true rfl) ⟨Nat.le_refl _, Nat.le_refl _⟩ ?_
  refine tc_if_eq 43 dX11_rehash_5 (by decide) (fun hc5 => ?_) (fun hc5 => ?_)
  · rw [if_pos hc5] at h
    refine tc_lvs [] rfl ?_
    exact sb_X11_rehash_43 hW r ur   u3  h
  · rw [if_neg hc5] at h
    refine tc_iload_n 3 rfl dX11_rehash_8 ?_
    refine tc_iload 4 rfl dX11_rehash_9 ?_
    obtain ⟨x6, u7, hq8, h⟩ := tc_b_ex h
    refine tc_callSi [.int v3, .int v4] dX11_rehash_11 (ct_X11_areHashes hW hq8) ml_X11_153 mw_X11_areHashes ms_X11_areHashes ⟨Nat.le_of_ble_eq_true rfl, Nat.le_of_ble_eq_true rfl⟩ rfl rfl (Nat.le_of_ble_eq_true rfl) ⟨Nat.le_refl _, Nat.le_refl _⟩ ?_
    refine tc_if_eq 43 dX11_rehash_14 (by decide) (fun hc9 => ?_) (fun hc9 => ?_)
    · rw [if_pos hc9] at h
      refine tc_lvs [] rfl ?_
      exact sb_X11_rehash_43 hW r ur   u7  h
    · rw [if_neg hc9] at h
      refine tc_aload_n 0 rfl dX11_rehash_17 ?_
      refine tc_getp hW iv0 fl_X11_57 dX11_rehash_18 rfl ?_
      refine tc_aload_n 0 rfl dX11_rehash_21 ?_
      refine tc_getp hW iv0 fl_X11_12 dX11_rehash_22 rfl ?_
      refine tc_getp hW (hW.p iv0 0 rfl) fl_X11_113 dX11_rehash_25 rfl ?_
      refine tc_iload_n 1 rfl dX11_rehash_28 ?_
      refine tc_iload_n 2 rfl dX11_rehash_29 ?_
      refine tc_iload_n 3 rfl dX11_rehash_30 ?_
      refine tc_iload 4 rfl dX11_rehash_31 ?_
      obtain ⟨x10, u11, hq12, h⟩ := tc_b_ex h
      refine tc_callVi [.ref (z + (tc_p G (tc_p G v0 0) 0)), .int v1, .int v2, .int v3, .int v4] dX11_rehash_33 (hW.p iv0 6 rfl).1 (ct_X3_rehashBy hW (hW.p iv0 6 rfl) (hW.p (hW.p iv0 0 rfl) 0 rfl) hq12) ml_X11_157 mw_X3_rehashBy mv_X3_rehashBy ⟨Nat.le_of_ble_eq_true rfl, Nat.le_of_ble_eq_true rfl⟩ rfl rfl (Nat.le_of_ble_eq_true rfl) ⟨Nat.le_refl _, Nat.le_refl _⟩ (by decide) ?_
      refine tc_if_eq 43 dX11_rehash_36 (by decide) (fun hc13 => ?_) (fun hc13 => ?_)
      · rw [if_pos hc13] at h
        refine tc_lvs [] rfl ?_
        exact sb_X11_rehash_43 hW r ur   u11  h
      · rw [if_neg hc13] at h
        refine tc_iconst (v := 1) (by decide) dX11_rehash_39 ?_
        refine tc_goto 44 dX11_rehash_40 (by decide) ?_
        refine tc_lvs [] rfl ?_
        exact sb_X11_rehash_44 hW r ur  1 u11  h
set_option maxRecDepth 100000 in
set_option maxHeartbeats 4000000 in
theorem ct_X11_batch {l : Launch} {z : Nat} {D : tc_D} {G : tc_G} (hW : tc_W G) {v0 : Nat} {u : tc_S} {r : Int32} {ur : tc_S} (iv0 : tc_is G v0 11) (h : fn_X11_batch G v0 u = some (r, ur)) : tc_C l z D yX11_batch cX11_batch 1 (some .boolean) 5 110 0 0 [.ref (z + v0)] G u (tc_po r G ur) := by
  unfold fn_X11_batch at h
  refine tc_C.of (by decide) (Nat.le_of_ble_eq_true rfl) fun p e s m args below meth c => ?_
  show tc_R p l e { frames := 5, cells := 0, slots := 0, locals := 110 } s m args below meth c z D cX11_batch RX11 1 (some .boolean) 0 0 (tc_po r G ur) 0 0 G u 0 [(0, .ref (z + v0))] []
  refine tc_aload_n 0 rfl dX11_batch_0 ?_
  refine tc_getp hW iv0 fl_X11_57 dX11_batch_1 rfl ?_
  refine tc_aload_n 0 rfl dX11_batch_4 ?_
  refine tc_getp hW iv0 fl_X11_12 dX11_batch_5 rfl ?_
  refine tc_getp hW (hW.p iv0 0 rfl) fl_X11_113 dX11_batch_8 rfl ?_
  obtain ⟨x1, u2, hq3, h⟩ := tc_b_ex h
  refine tc_callVi [.ref (z + (tc_p G (tc_p G v0 0) 0))] dX11_batch_11 (hW.p iv0 6 rfl).1 (ct_X3_layBatch hW (hW.p iv0 6 rfl) (hW.p (hW.p iv0 0 rfl) 0 rfl) hq3) ml_X11_161 mw_X3_layBatch mv_X3_layBatch ⟨Nat.le_of_ble_eq_true rfl, Nat.le_of_ble_eq_true rfl⟩ rfl rfl (Nat.le_of_ble_eq_true rfl) ⟨Nat.le_refl _, Nat.le_refl _⟩ (by decide) ?_
  obtain ⟨hz4, h⟩ := tc_zo_ex h
  cases h
  exact tc_zreturn hz4 rfl dX11_batch_14 rfl rfl ⟨rfl, rfl, rfl⟩
set_option maxRecDepth 100000 in
set_option maxHeartbeats 4000000 in
theorem sb_X11_peel_46 {p : Program} {l : Launch} {e : Env} {s : State} {m : MethodId} {args : Array Value} {below : List Frame} {meth : Method} {c : Code} {z : Nat} {D : tc_D} {G : tc_G} (hW : tc_W G) (r : Int32) (ur : tc_S) (u : tc_S) (h : bl_X11_peel_46 G  u = some (r, ur)) : tc_R p l e { frames := 3, cells := 0, slots := 0, locals := 74 } s m args below meth c z D cX11_peel RX11 3 (some .int) 0 0 (tc_po r G ur) 0 0 G u 46 [] [] := by
  unfold bl_X11_peel_46 at h
  refine tc_bipush (v := (-2)) (by decide) dX11_peel_46 ?_
  cases h
  exact tc_ireturn rfl dX11_peel_48 rfl rfl ⟨rfl, rfl, rfl⟩
set_option maxRecDepth 100000 in
set_option maxHeartbeats 4000000 in
theorem sb_X11_peel_93 {p : Program} {l : Launch} {e : Env} {s : State} {m : MethodId} {args : Array Value} {below : List Frame} {meth : Method} {c : Code} {z : Nat} {D : tc_D} {G : tc_G} (hW : tc_W G) (r : Int32) (ur : tc_S) (s0 : Int32) (u : tc_S) (h : bl_X11_peel_93 G s0 u = some (r, ur)) : tc_R p l e { frames := 3, cells := 0, slots := 0, locals := 74 } s m args below meth c z D cX11_peel RX11 3 (some .int) 0 0 (tc_po r G ur) 0 0 G u 93 [] [.int s0] := by
  unfold bl_X11_peel_93 at h
  cases h
  exact tc_ireturn rfl dX11_peel_93 rfl rfl ⟨rfl, rfl, rfl⟩
set_option maxRecDepth 100000 in
set_option maxHeartbeats 4000000 in
theorem sb_X11_peel_31 {p : Program} {l : Launch} {e : Env} {s : State} {m : MethodId} {args : Array Value} {below : List Frame} {meth : Method} {c : Code} {z : Nat} {D : tc_D} {G : tc_G} (hW : tc_W G) (r : Int32) (ur : tc_S) (v0 : Nat) (v1 : Int32) (v2 : Int32) (u : tc_S) (iv0 : tc_is G v0 11) (h : bl_X11_peel_31 G v0 v1 v2 u = some (r, ur)) : tc_R p l e { frames := 3, cells := 0, slots := 0, locals := 74 } s m args below meth c z D cX11_peel RX11 3 (some .int) 0 0 (tc_po r G ur) 0 0 G u 31 [(0, .ref (z + v0)), (1, .int v1), (2, .int v2)] [] := by
  unfold bl_X11_peel_31 at h
  refine tc_iload_n 1 rfl dX11_peel_31 ?_
  refine tc_if_lt 46 dX11_peel_32 (by decide) (fun hc1 => ?_) (fun hc1 => ?_)
  · rw [if_pos hc1] at h
    refine tc_lvs [] rfl ?_
    exact sb_X11_peel_46 hW r ur   u  h
  · rw [if_neg hc1] at h
    refine tc_iload_n 1 rfl dX11_peel_35 ?_
    refine tc_aload_n 0 rfl dX11_peel_36 ?_
    refine tc_getp hW iv0 fl_X11_48 dX11_peel_37 rfl ?_
    refine tc_geti (hW.p iv0 5 rfl).1 fl_X11_168 dX11_peel_40 ?_
    refine tc_icmp_lt 49 dX11_peel_43 (by decide) (fun hc2 => ?_) (fun hc2 => ?_)
    · rw [if_pos hc2] at h
      refine tc_iload_n 2 rfl dX11_peel_49 ?_
      refine tc_if_ne 74 dX11_peel_50 (by decide) (fun hc3 => ?_) (fun hc3 => ?_)
      · rw [if_neg hc3] at h
        refine tc_iload_n 2 rfl dX11_peel_74 ?_
        refine tc_iconst (v := 1) (by decide) dX11_peel_75 ?_
        refine tc_icmp_ne 91 dX11_peel_76 (by decide) (fun hc4 => ?_) (fun hc4 => ?_)
        · rw [if_neg hc4] at h
          refine tc_bipush (v := (-2)) (by decide) dX11_peel_91 ?_
          refine tc_lvs [] rfl ?_
          exact sb_X11_peel_93 hW r ur  (-2) u  h
        · rw [if_pos hc4] at h
          refine tc_aload_n 0 rfl dX11_peel_79 ?_
          refine tc_getp hW iv0 fl_X11_48 dX11_peel_80 rfl ?_
          refine tc_getp hW (hW.p iv0 5 rfl) fl_X11_177 dX11_peel_83 rfl ?_
          refine tc_iload_n 1 rfl dX11_peel_86 ?_
          obtain ⟨bx5, x5, ex5, h⟩ := tc_ld_ex h
          refine tc_iald (hW.p (hW.p iv0 5 rfl) 4 rfl).1 bx5 dX11_peel_87 ?_
          refine tc_nm ex5 ?_
          refine tc_goto 93 dX11_peel_88 (by decide) ?_
          refine tc_lvs [] rfl ?_
          exact sb_X11_peel_93 hW r ur  x5 u  h
      · rw [if_pos hc3] at h
        refine tc_aload_n 0 rfl dX11_peel_53 ?_
        refine tc_getp hW iv0 fl_X11_12 dX11_peel_54 rfl ?_
        refine tc_getp hW (hW.p iv0 0 rfl) fl_X11_113 dX11_peel_57 rfl ?_
        refine tc_getp hW (hW.p (hW.p iv0 0 rfl) 0 rfl) fl_X11_171 dX11_peel_60 rfl ?_
        refine tc_aload_n 0 rfl dX11_peel_63 ?_
        refine tc_getp hW iv0 fl_X11_48 dX11_peel_64 rfl ?_
        refine tc_getp hW (hW.p iv0 5 rfl) fl_X11_174 dX11_peel_67 rfl ?_
        refine tc_iload_n 1 rfl dX11_peel_70 ?_
        obtain ⟨bx6, x6, ex6, h⟩ := tc_ld_ex h
        refine tc_iald (hW.p (hW.p iv0 5 rfl) 3 rfl).1 bx6 dX11_peel_71 ?_
        refine tc_nm ex6 ?_
        obtain ⟨bx7, x7, ex7, h⟩ := tc_ld_ex h
        refine tc_iald (hW.p (hW.p (hW.p iv0 0 rfl) 0 rfl) 3 rfl).1 bx7 dX11_peel_72 ?_
        refine tc_nm ex7 ?_
        cases h
        exact tc_ireturn rfl dX11_peel_73 rfl rfl ⟨rfl, rfl, rfl⟩
    · rw [if_neg hc2] at h
      refine tc_lvs [] rfl ?_
      exact sb_X11_peel_46 hW r ur   u  h
set_option maxRecDepth 100000 in
set_option maxHeartbeats 4000000 in
theorem ct_X11_peel {l : Launch} {z : Nat} {D : tc_D} {G : tc_G} (hW : tc_W G) {v0 : Nat} {v1 : Int32} {v2 : Int32} {u : tc_S} {r : Int32} {ur : tc_S} (iv0 : tc_is G v0 11) (h : fn_X11_peel G v0 v1 v2 u = some (r, ur)) : tc_C l z D yX11_peel cX11_peel 3 (some .int) 3 74 0 0 [.ref (z + v0), .int v1, .int v2] G u (tc_po r G ur) := by
  unfold fn_X11_peel at h
  refine tc_C.of (by decide) (Nat.le_of_ble_eq_true rfl) fun p e s m args below meth c => ?_
  show tc_R p l e { frames := 3, cells := 0, slots := 0, locals := 74 } s m args below meth c z D cX11_peel RX11 3 (some .int) 0 0 (tc_po r G ur) 0 0 G u 0 [(0, .ref (z + v0)), (1, .int v1), (2, .int v2)] []
  refine tc_aload_n 0 rfl dX11_peel_0 ?_
  refine tc_getp hW iv0 fl_X11_48 dX11_peel_1 rfl ?_
  refine tc_aload_n 0 rfl dX11_peel_4 ?_
  refine tc_getp hW iv0 fl_X11_12 dX11_peel_5 rfl ?_
  refine tc_getp hW (hW.p iv0 0 rfl) fl_X11_113 dX11_peel_8 rfl ?_
  obtain ⟨x8, u9, hq10, h⟩ := tc_b_ex h
  refine tc_callVv [.ref (z + (tc_p G (tc_p G v0 0) 0))] dX11_peel_11 (hW.p iv0 5 rfl).1 (ct_X7_peelOff hW (hW.p iv0 5 rfl) (hW.p (hW.p iv0 0 rfl) 0 rfl) hq10) ml_X11_165 mw_X7_peelOff mv_X7_peelOff ⟨Nat.le_of_ble_eq_true rfl, Nat.le_of_ble_eq_true rfl⟩ rfl rfl (Nat.le_of_ble_eq_true rfl) ⟨Nat.le_refl _, Nat.le_refl _⟩ (by decide) ?_
  refine tc_iload_n 1 rfl dX11_peel_14 ?_
  refine tc_iconst (v := (-1)) (by decide) dX11_peel_15 ?_
  refine tc_icmp_ne 31 dX11_peel_16 (by decide) (fun hc11 => ?_) (fun hc11 => ?_)
  · rw [if_neg hc11] at h
    exact sb_X11_peel_31 hW r ur  v0 v1 v2 u9 iv0 h
  · rw [if_pos hc11] at h
    refine tc_iload_n 2 rfl dX11_peel_19 ?_
    refine tc_if_ne 31 dX11_peel_20 (by decide) (fun hc12 => ?_) (fun hc12 => ?_)
    · rw [if_neg hc12] at h
      exact sb_X11_peel_31 hW r ur  v0 v1 v2 u9 iv0 h
    · rw [if_pos hc12] at h
      refine tc_aload_n 0 rfl dX11_peel_23 ?_
      refine tc_getp hW iv0 fl_X11_48 dX11_peel_24 rfl ?_
      refine tc_geti (hW.p iv0 5 rfl).1 fl_X11_168 dX11_peel_27 ?_
      cases h
      exact tc_ireturn rfl dX11_peel_30 rfl rfl ⟨rfl, rfl, rfl⟩
set_option maxRecDepth 100000 in
set_option maxHeartbeats 4000000 in
theorem sb_X11_isLoad_16 {p : Program} {l : Launch} {e : Env} {s : State} {m : MethodId} {args : Array Value} {below : List Frame} {meth : Method} {c : Code} {z : Nat} {D : tc_D} {G : tc_G} (hW : tc_W G) (r : Int32) (ur : tc_S) (s0 : Int32) (u : tc_S) (h : bl_X11_isLoad_16 G s0 u = some (r, ur)) : tc_R p l e { frames := 0, cells := 0, slots := 0, locals := 0 } s m args below meth c z D cX11_isLoad RX11 1 (some .boolean) 0 0 (tc_po r G ur) 0 0 G u 16 [] [.int s0] := by
  unfold bl_X11_isLoad_16 at h
  obtain ⟨hz1, h⟩ := tc_zo_ex h
  cases h
  exact tc_zreturn hz1 rfl dX11_isLoad_16 rfl rfl ⟨rfl, rfl, rfl⟩
set_option maxRecDepth 100000 in
set_option maxHeartbeats 4000000 in
theorem sb_X11_isLoad_15 {p : Program} {l : Launch} {e : Env} {s : State} {m : MethodId} {args : Array Value} {below : List Frame} {meth : Method} {c : Code} {z : Nat} {D : tc_D} {G : tc_G} (hW : tc_W G) (r : Int32) (ur : tc_S) (u : tc_S) (h : bl_X11_isLoad_15 G  u = some (r, ur)) : tc_R p l e { frames := 0, cells := 0, slots := 0, locals := 0 } s m args below meth c z D cX11_isLoad RX11 1 (some .boolean) 0 0 (tc_po r G ur) 0 0 G u 15 [] [] := by
  unfold bl_X11_isLoad_15 at h
  refine tc_iconst (v := 0) (by decide) dX11_isLoad_15 ?_
  exact sb_X11_isLoad_16 hW r ur  0 u  h
set_option maxRecDepth 100000 in
set_option maxHeartbeats 4000000 in
theorem ct_X11_isLoad {l : Launch} {z : Nat} {D : tc_D} {G : tc_G} (hW : tc_W G) {v0 : Int32} {u : tc_S} {r : Int32} {ur : tc_S} (h : fn_X11_isLoad G v0 u = some (r, ur)) : tc_C l z D yX11_isLoad cX11_isLoad 1 (some .boolean) 0 0 0 0 [.int v0] G u (tc_po r G ur) := by
  unfold fn_X11_isLoad at h
  refine tc_C.of (by decide) (Nat.le_of_ble_eq_true rfl) fun p e s m args below meth c => ?_
  show tc_R p l e { frames := 0, cells := 0, slots := 0, locals := 0 } s m args below meth c z D cX11_isLoad RX11 1 (some .boolean) 0 0 (tc_po r G ur) 0 0 G u 0 [(0, .int v0)] []
  refine tc_iload_n 0 rfl dX11_isLoad_0 ?_
  refine tc_iconst (v := 1) (by decide) dX11_isLoad_1 ?_
  refine tc_icmp_lt 15 dX11_isLoad_2 (by decide) (fun hc2 => ?_) (fun hc2 => ?_)
  · rw [if_pos hc2] at h
    refine tc_lvs [] rfl ?_
    exact sb_X11_isLoad_15 hW r ur   u  h
  · rw [if_neg hc2] at h
    refine tc_iload_n 0 rfl dX11_isLoad_5 ?_
    refine tc_bipush (v := 12) (by decide) dX11_isLoad_6 ?_
    refine tc_icmp_gt 15 dX11_isLoad_8 (by decide) (fun hc3 => ?_) (fun hc3 => ?_)
    · rw [if_pos hc3] at h
      refine tc_lvs [] rfl ?_
      exact sb_X11_isLoad_15 hW r ur   u  h
    · rw [if_neg hc3] at h
      refine tc_iconst (v := 1) (by decide) dX11_isLoad_11 ?_
      refine tc_goto 16 dX11_isLoad_12 (by decide) ?_
      refine tc_lvs [] rfl ?_
      exact sb_X11_isLoad_16 hW r ur  1 u  h
set_option maxRecDepth 100000 in
set_option maxHeartbeats 4000000 in
theorem sb_X11_load_27 {p : Program} {l : Launch} {e : Env} {s : State} {m : MethodId} {args : Array Value} {below : List Frame} {meth : Method} {c : Code} {z : Nat} {D : tc_D} {G : tc_G} (hW : tc_W G) (r : Int32) (ur : tc_S) (s0 : Int32) (u : tc_S) (h : bl_X11_load_27 G s0 u = some (r, ur)) : tc_R p l e { frames := 7, cells := 0, slots := 0, locals := 177 } s m args below meth c z D cX11_load RX11 3 (some .int) 0 0 (tc_po r G ur) 0 0 G u 27 [] [.int s0] := by
  unfold bl_X11_load_27 at h
  cases h
  exact tc_ireturn rfl dX11_load_27 rfl rfl ⟨rfl, rfl, rfl⟩
set_option maxRecDepth 100000 in
set_option maxHeartbeats 4000000 in
theorem ct_X11_load {l : Launch} {z : Nat} {D : tc_D} {G : tc_G} (hW : tc_W G) {v0 : Nat} {v1 : Int32} {v2 : Int32} {u : tc_S} {r : Int32} {ur : tc_S} (iv0 : tc_is G v0 11) (h : fn_X11_load G v0 v1 v2 u = some (r, ur)) : tc_C l z D yX11_load cX11_load 3 (some .int) 7 177 0 0 [.ref (z + v0), .int v1, .int v2] G u (tc_po r G ur) := by
  unfold fn_X11_load at h
  refine tc_C.of (by decide) (Nat.le_of_ble_eq_true rfl) fun p e s m args below meth c => ?_
  show tc_R p l e { frames := 7, cells := 0, slots := 0, locals := 177 } s m args below meth c z D cX11_load RX11 3 (some .int) 0 0 (tc_po r G ur) 0 0 G u 0 [(0, .ref (z + v0)), (1, .int v1), (2, .int v2)] []
  refine tc_iload_n 2 rfl dX11_load_0 ?_
  obtain ⟨x1, u2, hq3, h⟩ := tc_b_ex h
  refine tc_callSi [.int v2] dX11_load_1 (ct_X11_isLoad hW hq3) ml_X11_180 mw_X11_isLoad ms_X11_isLoad ⟨Nat.le_of_ble_eq_true rfl, Nat.le_of_ble_eq_true rfl⟩ rfl rfl (Nat.le_of_ble_eq_true rfl) ⟨Nat.le_refl _, Nat.le_refl _⟩ ?_
  refine tc_if_eq 26 dX11_load_4 (by decide) (fun hc4 => ?_) (fun hc4 => ?_)
  · rw [if_pos hc4] at h
    refine tc_iconst (v := (-1)) (by decide) dX11_load_26 ?_
    refine tc_lvs [] rfl ?_
    exact sb_X11_load_27 hW r ur  (-1) u2  h
  · rw [if_neg hc4] at h
    refine tc_aload_n 0 rfl dX11_load_7 ?_
    refine tc_getp hW iv0 fl_X11_57 dX11_load_8 rfl ?_
    refine tc_aload_n 0 rfl dX11_load_11 ?_
    refine tc_getp hW iv0 fl_X11_12 dX11_load_12 rfl ?_
    refine tc_getp hW (hW.p iv0 0 rfl) fl_X11_113 dX11_load_15 rfl ?_
    refine tc_iload_n 1 rfl dX11_load_18 ?_
    refine tc_iload_n 2 rfl dX11_load_19 ?_
    obtain ⟨x5, u6, hq7, h⟩ := tc_b_ex h
    refine tc_callVi [.ref (z + (tc_p G (tc_p G v0 0) 0)), .int v1, .int v2] dX11_load_20 (hW.p iv0 6 rfl).1 (ct_X3_loadBy hW (hW.p iv0 6 rfl) (hW.p (hW.p iv0 0 rfl) 0 rfl) hq7) ml_X11_183 mw_X3_loadBy mv_X3_loadBy ⟨Nat.le_of_ble_eq_true rfl, Nat.le_of_ble_eq_true rfl⟩ rfl rfl (Nat.le_of_ble_eq_true rfl) ⟨Nat.le_refl _, Nat.le_refl _⟩ (by decide) ?_
    refine tc_goto 27 dX11_load_23 (by decide) ?_
    refine tc_lvs [] rfl ?_
    exact sb_X11_load_27 hW r ur  x5 u6  h
set_option maxRecDepth 100000 in
set_option maxHeartbeats 4000000 in
theorem sb_X11_find_104 {p : Program} {l : Launch} {e : Env} {s : State} {m : MethodId} {args : Array Value} {below : List Frame} {meth : Method} {c : Code} {z : Nat} {D : tc_D} {G : tc_G} (hW : tc_W G) (r : Int32) (ur : tc_S) (s0 : Int32) (u : tc_S) (h : bl_X11_find_104 G s0 u = some (r, ur)) : tc_R p l e { frames := 3, cells := 0, slots := 0, locals := 68 } s m args below meth c z D cX11_find RX11 6 (some .int) 0 0 (tc_po r G ur) 0 0 G u 104 [] [.int s0] := by
  unfold bl_X11_find_104 at h
  cases h
  exact tc_ireturn rfl dX11_find_104 rfl rfl ⟨rfl, rfl, rfl⟩
set_option maxRecDepth 100000 in
set_option maxHeartbeats 4000000 in
theorem sb_X11_find_133 {p : Program} {l : Launch} {e : Env} {s : State} {m : MethodId} {args : Array Value} {below : List Frame} {meth : Method} {c : Code} {z : Nat} {D : tc_D} {G : tc_G} (hW : tc_W G) (r : Int32) (ur : tc_S) (s0 : Int32) (u : tc_S) (h : bl_X11_find_133 G s0 u = some (r, ur)) : tc_R p l e { frames := 3, cells := 0, slots := 0, locals := 68 } s m args below meth c z D cX11_find RX11 6 (some .int) 0 0 (tc_po r G ur) 0 0 G u 133 [] [.int s0] := by
  unfold bl_X11_find_133 at h
  cases h
  exact tc_ireturn rfl dX11_find_133 rfl rfl ⟨rfl, rfl, rfl⟩
set_option maxRecDepth 100000 in
set_option maxHeartbeats 4000000 in
theorem sb_X11_find_47 {p : Program} {l : Launch} {e : Env} {s : State} {m : MethodId} {args : Array Value} {below : List Frame} {meth : Method} {c : Code} {z : Nat} {D : tc_D} {G : tc_G} (hW : tc_W G) (r : Int32) (ur : tc_S) (v1 : Int32) (v2 : Int32) (v3 : Nat) (v4 : Int32) (s0 : Int32) (u : tc_S) (iv3 : tc_is G v3 9) (h : bl_X11_find_47 G v1 v2 v3 v4 s0 u = some (r, ur)) : tc_R p l e { frames := 3, cells := 0, slots := 0, locals := 68 } s m args below meth c z D cX11_find RX11 6 (some .int) 0 0 (tc_po r G ur) 0 0 G u 47 [(1, .int v1), (2, .int v2), (3, .ref (z + v3)), (4, .int v4)] [.int s0] := by
  unfold bl_X11_find_47 at h
  refine tc_istore [(5, .int s0), (1, .int v1), (2, .int v2), (3, .ref (z + v3)), (4, .int v4)] dX11_find_47 (by decide) rfl ?_
  refine tc_iload_n 2 rfl dX11_find_49 ?_
  by_cases hc1 : v2.toInt = 0
  · rw [if_pos hc1] at h
    refine tc_tswIn 88 dX11_find_50 (by rw [hc1]; decide) (by rw [hc1]; decide) (by rw [hc1]; rfl) (by decide) ?_
    refine tc_iload 0 rfl dX11_find_88 ?_
    refine tc_if_eq 98 dX11_find_90 (by decide) (fun hc2 => ?_) (fun hc2 => ?_)
    · rw [if_pos hc2] at h
      refine tc_aload_n 3 rfl dX11_find_98 ?_
      refine tc_iload 4 rfl dX11_find_99 ?_
      obtain ⟨x3, u4, hq5, h⟩ := tc_b_ex h
      refine tc_callVi [.int v4] dX11_find_101 iv3.1 (ct_X9_bucketOf hW iv3 hq5) ml_X11_189 mw_X9_bucketOf mv_X9_bucketOf ⟨Nat.le_of_ble_eq_true rfl, Nat.le_of_ble_eq_true rfl⟩ rfl rfl (Nat.le_of_ble_eq_true rfl) ⟨Nat.le_refl _, Nat.le_refl _⟩ (by decide) ?_
      refine tc_lvs [] rfl ?_
      exact sb_X11_find_104 hW r ur  x3 u4  h
    · rw [if_neg hc2] at h
      refine tc_bipush (v := 100) (by decide) dX11_find_93 ?_
      refine tc_goto 104 dX11_find_95 (by decide) ?_
      refine tc_lvs [] rfl ?_
      exact sb_X11_find_104 hW r ur  100 u  h
  rw [if_neg hc1] at h
  by_cases hc6 : v2.toInt = 1
  · rw [if_pos hc6] at h
    refine tc_tswIn 105 dX11_find_50 (by rw [hc6]; decide) (by rw [hc6]; decide) (by rw [hc6]; rfl) (by decide) ?_
    refine tc_iload 0 rfl dX11_find_105 ?_
    refine tc_if_eq 120 dX11_find_107 (by decide) (fun hc7 => ?_) (fun hc7 => ?_)
    · rw [if_pos hc7] at h
      refine tc_iload 4 rfl dX11_find_120 ?_
      refine tc_aload_n 3 rfl dX11_find_122 ?_
      refine tc_aload_n 3 rfl dX11_find_123 ?_
      refine tc_iload 4 rfl dX11_find_124 ?_
      obtain ⟨x8, u9, hq10, h⟩ := tc_b_ex h
      refine tc_callVi [.int v4] dX11_find_126 iv3.1 (ct_X9_bucketOf hW iv3 hq10) ml_X11_189 mw_X9_bucketOf mv_X9_bucketOf ⟨Nat.le_of_ble_eq_true rfl, Nat.le_of_ble_eq_true rfl⟩ rfl rfl (Nat.le_of_ble_eq_true rfl) ⟨Nat.le_refl _, Nat.le_refl _⟩ (by decide) ?_
      obtain ⟨x11, u12, hq13, h⟩ := tc_b_ex h
      refine tc_callVi [.int x8] dX11_find_129 iv3.1 (ct_X9_startOf hW iv3 hq13) ml_X11_192 mw_X9_startOf mv_X9_startOf ⟨Nat.le_of_ble_eq_true rfl, Nat.le_of_ble_eq_true rfl⟩ rfl rfl (Nat.le_of_ble_eq_true rfl) ⟨Nat.le_refl _, Nat.le_refl _⟩ (by decide) ?_
      refine tc_isub dX11_find_132 ?_
      refine tc_lvs [] rfl ?_
      exact sb_X11_find_133 hW r ur  (v4 - x11) u12  h
    · rw [if_neg hc7] at h
      refine tc_iload 4 rfl dX11_find_110 ?_
      refine tc_aload_n 3 rfl dX11_find_112 ?_
      refine tc_geti iv3.1 fl_X11_186 dX11_find_113 ?_
      refine tc_isub dX11_find_116 ?_
      refine tc_goto 133 dX11_find_117 (by decide) ?_
      refine tc_lvs [] rfl ?_
      exact sb_X11_find_133 hW r ur  (v4 - (u.1 v3 1)) u  h
  rw [if_neg hc6] at h
  by_cases hc14 : v2.toInt = 2
  · rw [if_pos hc14] at h
    refine tc_tswIn 134 dX11_find_50 (by rw [hc14]; decide) (by rw [hc14]; decide) (by rw [hc14]; rfl) (by decide) ?_
    refine tc_aload_n 3 rfl dX11_find_134 ?_
    refine tc_iload_n 1 rfl dX11_find_135 ?_
    refine tc_iload 4 rfl dX11_find_136 ?_
    obtain ⟨x15, u16, hq17, h⟩ := tc_b_ex h
    refine tc_callVi [.int v1, .int v4] dX11_find_138 iv3.1 (ct_X9_readsTill hW iv3 hq17) ml_X11_137 mw_X9_readsTill mv_X9_readsTill ⟨Nat.le_of_ble_eq_true rfl, Nat.le_of_ble_eq_true rfl⟩ rfl rfl (Nat.le_of_ble_eq_true rfl) ⟨Nat.le_refl _, Nat.le_refl _⟩ (by decide) ?_
    cases h
    exact tc_ireturn rfl dX11_find_141 rfl rfl ⟨rfl, rfl, rfl⟩
  rw [if_neg hc14] at h
  by_cases hc18 : v2.toInt = 3
  · rw [if_pos hc18] at h
    refine tc_tswIn 142 dX11_find_50 (by rw [hc18]; decide) (by rw [hc18]; decide) (by rw [hc18]; rfl) (by decide) ?_
    refine tc_aload_n 3 rfl dX11_find_142 ?_
    refine tc_getp hW iv3 fl_X11_195 dX11_find_143 rfl ?_
    refine tc_iload 4 rfl dX11_find_146 ?_
    obtain ⟨bx19, x19, ex19, h⟩ := tc_ld_ex h
    refine tc_iald (hW.p iv3 5 rfl).1 bx19 dX11_find_148 ?_
    refine tc_nm ex19 ?_
    cases h
    exact tc_ireturn rfl dX11_find_149 rfl rfl ⟨rfl, rfl, rfl⟩
  rw [if_neg hc18] at h
  by_cases hc20 : v2.toInt = 4
  · rw [if_pos hc20] at h
    refine tc_tswIn 150 dX11_find_50 (by rw [hc20]; decide) (by rw [hc20]; decide) (by rw [hc20]; rfl) (by decide) ?_
    refine tc_aload_n 3 rfl dX11_find_150 ?_
    refine tc_getp hW iv3 fl_X11_198 dX11_find_151 rfl ?_
    refine tc_iload 4 rfl dX11_find_154 ?_
    obtain ⟨bx21, x21, ex21, h⟩ := tc_ld_ex h
    refine tc_iald (hW.p iv3 6 rfl).1 bx21 dX11_find_156 ?_
    refine tc_nm ex21 ?_
    cases h
    exact tc_ireturn rfl dX11_find_157 rfl rfl ⟨rfl, rfl, rfl⟩
  rw [if_neg hc20] at h
  by_cases hc22 : v2.toInt = 5
  · rw [if_pos hc22] at h
    refine tc_tswIn 158 dX11_find_50 (by rw [hc22]; decide) (by rw [hc22]; decide) (by rw [hc22]; rfl) (by decide) ?_
    refine tc_aload_n 3 rfl dX11_find_158 ?_
    refine tc_iload 4 rfl dX11_find_159 ?_
    obtain ⟨x23, u24, hq25, h⟩ := tc_b_ex h
    refine tc_callVi [.int v4] dX11_find_161 iv3.1 (ct_X9_entriesTill hW iv3 hq25) ml_X11_201 mw_X9_entriesTill mv_X9_entriesTill ⟨Nat.le_of_ble_eq_true rfl, Nat.le_of_ble_eq_true rfl⟩ rfl rfl (Nat.le_of_ble_eq_true rfl) ⟨Nat.le_refl _, Nat.le_refl _⟩ (by decide) ?_
    cases h
    exact tc_ireturn rfl dX11_find_164 rfl rfl ⟨rfl, rfl, rfl⟩
  rw [if_neg hc22] at h
  have sw26 : v2.toInt < 0 ∨ 5 < v2.toInt := by omega
  refine tc_tswOut 165 dX11_find_50 sw26 (by decide) ?_
  refine tc_iconst (v := (-1)) (by decide) dX11_find_165 ?_
  cases h
  exact tc_ireturn rfl dX11_find_166 rfl rfl ⟨rfl, rfl, rfl⟩
set_option maxRecDepth 100000 in
set_option maxHeartbeats 4000000 in
theorem sb_X11_find_24 {p : Program} {l : Launch} {e : Env} {s : State} {m : MethodId} {args : Array Value} {below : List Frame} {meth : Method} {c : Code} {z : Nat} {D : tc_D} {G : tc_G} (hW : tc_W G) (r : Int32) (ur : tc_S) (v1 : Int32) (v2 : Int32) (v3 : Nat) (s0 : Int32) (u : tc_S) (iv3 : tc_is G v3 9) (h : bl_X11_find_24 G v1 v2 v3 s0 u = some (r, ur)) : tc_R p l e { frames := 3, cells := 0, slots := 0, locals := 68 } s m args below meth c z D cX11_find RX11 6 (some .int) 0 0 (tc_po r G ur) 0 0 G u 24 [(1, .int v1), (2, .int v2), (3, .ref (z + v3))] [.int s0] := by
  unfold bl_X11_find_24 at h
  refine tc_istore [(4, .int s0), (1, .int v1), (2, .int v2), (3, .ref (z + v3))] dX11_find_24 (by decide) rfl ?_
  refine tc_iload 0 rfl dX11_find_26 ?_
  refine tc_if_ge 33 dX11_find_28 (by decide) (fun hc27 => ?_) (fun hc27 => ?_)
  · rw [if_pos hc27] at h
    refine tc_iload 0 rfl dX11_find_33 ?_
    refine tc_aload_n 3 rfl dX11_find_35 ?_
    refine tc_geti iv3.1 fl_X11_186 dX11_find_36 ?_
    refine tc_icmp_lt 46 dX11_find_39 (by decide) (fun hc28 => ?_) (fun hc28 => ?_)
    · rw [if_pos hc28] at h
      refine tc_iconst (v := 0) (by decide) dX11_find_46 ?_
      refine tc_lvs [1, 2, 3, 0] rfl ?_
      exact sb_X11_find_47 hW r ur  v1 v2 v3 s0 0 u iv3 h
    · rw [if_neg hc28] at h
      refine tc_iconst (v := 1) (by decide) dX11_find_42 ?_
      refine tc_goto 47 dX11_find_43 (by decide) ?_
      refine tc_lvs [1, 2, 3, 0] rfl ?_
      exact sb_X11_find_47 hW r ur  v1 v2 v3 s0 1 u iv3 h
  · rw [if_neg hc27] at h
    refine tc_iconst (v := (-1)) (by decide) dX11_find_31 ?_
    cases h
    exact tc_ireturn rfl dX11_find_32 rfl rfl ⟨rfl, rfl, rfl⟩
set_option maxRecDepth 100000 in
set_option maxHeartbeats 4000000 in
theorem ct_X11_find {l : Launch} {z : Nat} {D : tc_D} {G : tc_G} (hW : tc_W G) {v0 : Nat} {v1 : Int32} {v2 : Int32} {u : tc_S} {r : Int32} {ur : tc_S} (iv0 : tc_is G v0 11) (h : fn_X11_find G v0 v1 v2 u = some (r, ur)) : tc_C l z D yX11_find cX11_find 6 (some .int) 3 68 0 0 [.ref (z + v0), .int v1, .int v2] G u (tc_po r G ur) := by
  unfold fn_X11_find at h
  refine tc_C.of (by decide) (Nat.le_of_ble_eq_true rfl) fun p e s m args below meth c => ?_
  show tc_R p l e { frames := 3, cells := 0, slots := 0, locals := 68 } s m args below meth c z D cX11_find RX11 6 (some .int) 0 0 (tc_po r G ur) 0 0 G u 0 [(0, .ref (z + v0)), (1, .int v1), (2, .int v2)] []
  refine tc_aload_n 0 rfl dX11_find_0 ?_
  refine tc_getp hW iv0 fl_X11_12 dX11_find_1 rfl ?_
  refine tc_getp hW (hW.p iv0 0 rfl) fl_X11_113 dX11_find_4 rfl ?_
  refine tc_astore_n [(3, .ref (z + (tc_p G (tc_p G v0 0) 0))), (0, .ref (z + v0)), (1, .int v1), (2, .int v2)] dX11_find_7 (by decide) rfl ?_
  refine tc_iload_n 2 rfl dX11_find_8 ?_
  obtain ⟨x29, u30, hq31, h⟩ := tc_b_ex h
  refine tc_callSi [.int v1] dX11_find_9 (ct_X11_isNumber hW hq31) ml_X11_124 mw_X11_isNumber ms_X11_isNumber ⟨Nat.le_of_ble_eq_true rfl, Nat.le_of_ble_eq_true rfl⟩ rfl rfl (Nat.le_of_ble_eq_true rfl) ⟨Nat.le_refl _, Nat.le_refl _⟩ ?_
  refine tc_if_eq 23 dX11_find_12 (by decide) (fun hc32 => ?_) (fun hc32 => ?_)
  · rw [if_pos hc32] at h
    refine tc_iconst (v := (-1)) (by decide) dX11_find_23 ?_
    refine tc_lvs [2, 3, 0] rfl ?_
    exact sb_X11_find_24 hW r ur  v1 v2 (tc_p G (tc_p G v0 0) 0) (-1) u30 (hW.p (hW.p iv0 0 rfl) 0 rfl) h
  · rw [if_neg hc32] at h
    refine tc_aload_n 0 rfl dX11_find_15 ?_
    refine tc_iload_n 2 rfl dX11_find_16 ?_
    obtain ⟨x33, u34, hq35, h⟩ := tc_b_ex h
    refine tc_callVi [.int v1] dX11_find_17 (hW.p (hW.p iv0 0 rfl) 0 rfl).1 (ct_X9_locate hW (hW.p (hW.p iv0 0 rfl) 0 rfl) hq35) ml_X11_131 mw_X9_locate mv_X9_locate ⟨Nat.le_of_ble_eq_true rfl, Nat.le_of_ble_eq_true rfl⟩ rfl rfl (Nat.le_of_ble_eq_true rfl) ⟨Nat.le_refl _, Nat.le_refl _⟩ (by decide) ?_
    refine tc_goto 24 dX11_find_20 (by decide) ?_
    refine tc_lvs [2, 3, 0] rfl ?_
    exact sb_X11_find_24 hW r ur  v1 v2 (tc_p G (tc_p G v0 0) 0) x33 u34 (hW.p (hW.p iv0 0 rfl) 0 rfl) h
set_option maxRecDepth 100000 in
set_option maxHeartbeats 4000000 in
theorem sb_X11_at_34 {p : Program} {l : Launch} {e : Env} {s : State} {m : MethodId} {args : Array Value} {below : List Frame} {meth : Method} {c : Code} {z : Nat} {D : tc_D} {G : tc_G} (hW : tc_W G) (r : Int32) (ur : tc_S) (u : tc_S) (h : bl_X11_at_34 G  u = some (r, ur)) : tc_R p l e { frames := 2, cells := 0, slots := 0, locals := 44 } s m args below meth c z D cX11_at RX11 6 (some .int) 0 0 (tc_po r G ur) 0 0 G u 34 [] [] := by
  unfold bl_X11_at_34 at h
  refine tc_iconst (v := (-1)) (by decide) dX11_at_34 ?_
  cases h
  exact tc_ireturn rfl dX11_at_35 rfl rfl ⟨rfl, rfl, rfl⟩
set_option maxRecDepth 100000 in
set_option maxHeartbeats 4000000 in
theorem sb_X11_at_130 {p : Program} {l : Launch} {e : Env} {s : State} {m : MethodId} {args : Array Value} {below : List Frame} {meth : Method} {c : Code} {z : Nat} {D : tc_D} {G : tc_G} (hW : tc_W G) (r : Int32) (ur : tc_S) (s0 : Nat) (s1 : Int32) (s2 : Int32) (u : tc_S) (is0 : tc_is G s0 9) (h : bl_X11_at_130 G s0 s1 s2 u = some (r, ur)) : tc_R p l e { frames := 2, cells := 0, slots := 0, locals := 44 } s m args below meth c z D cX11_at RX11 6 (some .int) 0 0 (tc_po r G ur) 0 0 G u 130 [] [.int s2, .int s1, .ref (z + s0)] := by
  unfold bl_X11_at_130 at h
  obtain ⟨x1, u2, hq3, h⟩ := tc_b_ex h
  refine tc_callVi [.int s1, .int s2] dX11_at_130 is0.1 (ct_X9_otherOf hW is0 hq3) ml_X11_210 mw_X9_otherOf mv_X9_otherOf ⟨Nat.le_of_ble_eq_true rfl, Nat.le_of_ble_eq_true rfl⟩ rfl rfl (Nat.le_of_ble_eq_true rfl) ⟨Nat.le_refl _, Nat.le_refl _⟩ (by decide) ?_
  cases h
  exact tc_ireturn rfl dX11_at_133 rfl rfl ⟨rfl, rfl, rfl⟩
set_option maxRecDepth 100000 in
set_option maxHeartbeats 4000000 in
theorem ct_X11_at {l : Launch} {z : Nat} {D : tc_D} {G : tc_G} (hW : tc_W G) {v0 : Nat} {v1 : Int32} {v2 : Int32} {v3 : Int32} {u : tc_S} {r : Int32} {ur : tc_S} (iv0 : tc_is G v0 11) (h : fn_X11_at G v0 v1 v2 v3 u = some (r, ur)) : tc_C l z D yX11_at cX11_at 6 (some .int) 2 44 0 0 [.ref (z + v0), .int v1, .int v2, .int v3] G u (tc_po r G ur) := by
  unfold fn_X11_at at h
  refine tc_C.of (by decide) (Nat.le_of_ble_eq_true rfl) fun p e s m args below meth c => ?_
  show tc_R p l e { frames := 2, cells := 0, slots := 0, locals := 44 } s m args below meth c z D cX11_at RX11 6 (some .int) 0 0 (tc_po r G ur) 0 0 G u 0 [(0, .ref (z + v0)), (1, .int v1), (2, .int v2), (3, .int v3)] []
  refine tc_aload_n 0 rfl dX11_at_0 ?_
  refine tc_getp hW iv0 fl_X11_12 dX11_at_1 rfl ?_
  refine tc_getp hW (hW.p iv0 0 rfl) fl_X11_113 dX11_at_4 rfl ?_
  refine tc_astore [(4, .ref (z + (tc_p G (tc_p G v0 0) 0))), (0, .ref (z + v0)), (1, .int v1), (2, .int v2), (3, .int v3)] dX11_at_7 (by decide) rfl ?_
  refine tc_aload 0 rfl dX11_at_9 ?_
  refine tc_iload_n 2 rfl dX11_at_11 ?_
  refine tc_iload_n 3 rfl dX11_at_12 ?_
  obtain ⟨x4, u5, hq6, h⟩ := tc_b_ex h
  refine tc_callVi [.int v1, .int v2] dX11_at_13 (hW.p (hW.p iv0 0 rfl) 0 rfl).1 (ct_X9_indexOf hW (hW.p (hW.p iv0 0 rfl) 0 rfl) hq6) ml_X11_204 mw_X9_indexOf mv_X9_indexOf ⟨Nat.le_of_ble_eq_true rfl, Nat.le_of_ble_eq_true rfl⟩ rfl rfl (Nat.le_of_ble_eq_true rfl) ⟨Nat.le_refl _, Nat.le_refl _⟩ (by decide) ?_
  refine tc_istore [(5, .int x4), (4, .ref (z + (tc_p G (tc_p G v0 0) 0))), (0, .ref (z + v0)), (1, .int v1), (2, .int v2), (3, .int v3)] dX11_at_16 (by decide) rfl ?_
  refine tc_iload 0 rfl dX11_at_18 ?_
  refine tc_if_lt 34 dX11_at_20 (by decide) (fun hc7 => ?_) (fun hc7 => ?_)
  · rw [if_pos hc7] at h
    refine tc_lvs [] rfl ?_
    exact sb_X11_at_34 hW r ur   u5  h
  · rw [if_neg hc7] at h
    refine tc_aload 1 rfl dX11_at_23 ?_
    refine tc_getp hW (hW.p (hW.p iv0 0 rfl) 0 rfl) fl_X11_171 dX11_at_25 rfl ?_
    refine tc_iload 0 rfl dX11_at_28 ?_
    obtain ⟨bx8, x8, ex8, h⟩ := tc_ld_ex h
    refine tc_iald (hW.p (hW.p (hW.p iv0 0 rfl) 0 rfl) 3 rfl).1 bx8 dX11_at_30 ?_
    refine tc_nm ex8 ?_
    refine tc_if_ge 36 dX11_at_31 (by decide) (fun hc9 => ?_) (fun hc9 => ?_)
    · rw [if_pos hc9] at h
      refine tc_iload_n 5 rfl dX11_at_36 ?_
      by_cases hc10 : v3.toInt = 0
      · rw [if_pos hc10] at h
        refine tc_tswIn 72 dX11_at_37 (by rw [hc10]; decide) (by rw [hc10]; decide) (by rw [hc10]; rfl) (by decide) ?_
        refine tc_aload 1 rfl dX11_at_72 ?_
        refine tc_getp hW (hW.p (hW.p iv0 0 rfl) 0 rfl) fl_X11_171 dX11_at_74 rfl ?_
        refine tc_iload 0 rfl dX11_at_77 ?_
        obtain ⟨bx11, x11, ex11, h⟩ := tc_ld_ex h
        refine tc_iald (hW.p (hW.p (hW.p iv0 0 rfl) 0 rfl) 3 rfl).1 bx11 dX11_at_79 ?_
        refine tc_nm ex11 ?_
        cases h
        exact tc_ireturn rfl dX11_at_80 rfl rfl ⟨rfl, rfl, rfl⟩
      rw [if_neg hc10] at h
      by_cases hc12 : v3.toInt = 1
      · rw [if_pos hc12] at h
        refine tc_tswIn 81 dX11_at_37 (by rw [hc12]; decide) (by rw [hc12]; decide) (by rw [hc12]; rfl) (by decide) ?_
        refine tc_aload 1 rfl dX11_at_81 ?_
        refine tc_getp hW (hW.p (hW.p iv0 0 rfl) 0 rfl) fl_X11_141 dX11_at_83 rfl ?_
        refine tc_iload 0 rfl dX11_at_86 ?_
        obtain ⟨bx13, x13, ex13, h⟩ := tc_ld_ex h
        refine tc_iald (hW.p (hW.p (hW.p iv0 0 rfl) 0 rfl) 4 rfl).1 bx13 dX11_at_88 ?_
        refine tc_nm ex13 ?_
        cases h
        exact tc_ireturn rfl dX11_at_89 rfl rfl ⟨rfl, rfl, rfl⟩
      rw [if_neg hc12] at h
      by_cases hc14 : v3.toInt = 2
      · rw [if_pos hc14] at h
        refine tc_tswIn 90 dX11_at_37 (by rw [hc14]; decide) (by rw [hc14]; decide) (by rw [hc14]; rfl) (by decide) ?_
        refine tc_aload 1 rfl dX11_at_90 ?_
        refine tc_getp hW (hW.p (hW.p iv0 0 rfl) 0 rfl) fl_X11_195 dX11_at_92 rfl ?_
        refine tc_iload 0 rfl dX11_at_95 ?_
        obtain ⟨bx15, x15, ex15, h⟩ := tc_ld_ex h
        refine tc_iald (hW.p (hW.p (hW.p iv0 0 rfl) 0 rfl) 5 rfl).1 bx15 dX11_at_97 ?_
        refine tc_nm ex15 ?_
        cases h
        exact tc_ireturn rfl dX11_at_98 rfl rfl ⟨rfl, rfl, rfl⟩
      rw [if_neg hc14] at h
      by_cases hc16 : v3.toInt = 3
      · rw [if_pos hc16] at h
        refine tc_tswIn 99 dX11_at_37 (by rw [hc16]; decide) (by rw [hc16]; decide) (by rw [hc16]; rfl) (by decide) ?_
        refine tc_aload 1 rfl dX11_at_99 ?_
        refine tc_getp hW (hW.p (hW.p iv0 0 rfl) 0 rfl) fl_X11_198 dX11_at_101 rfl ?_
        refine tc_iload 0 rfl dX11_at_104 ?_
        obtain ⟨bx17, x17, ex17, h⟩ := tc_ld_ex h
        refine tc_iald (hW.p (hW.p (hW.p iv0 0 rfl) 0 rfl) 6 rfl).1 bx17 dX11_at_106 ?_
        refine tc_nm ex17 ?_
        cases h
        exact tc_ireturn rfl dX11_at_107 rfl rfl ⟨rfl, rfl, rfl⟩
      rw [if_neg hc16] at h
      by_cases hc18 : v3.toInt = 4
      · rw [if_pos hc18] at h
        refine tc_tswIn 108 dX11_at_37 (by rw [hc18]; decide) (by rw [hc18]; decide) (by rw [hc18]; rfl) (by decide) ?_
        refine tc_aload 1 rfl dX11_at_108 ?_
        refine tc_iload 0 rfl dX11_at_110 ?_
        refine tc_iload_n 3 rfl dX11_at_112 ?_
        refine tc_bipush (v := 100) (by decide) dX11_at_113 ?_
        refine tc_icmp_ne 129 dX11_at_115 (by decide) (fun hc19 => ?_) (fun hc19 => ?_)
        · rw [if_neg hc19] at h
          refine tc_iload_n 3 rfl dX11_at_129 ?_
          refine tc_lvs [] rfl ?_
          exact sb_X11_at_130 hW r ur  (tc_p G (tc_p G v0 0) 0) x4 v1 u5 (hW.p (hW.p iv0 0 rfl) 0 rfl) h
        · rw [if_pos hc19] at h
          refine tc_aload 1 rfl dX11_at_118 ?_
          refine tc_getp hW (hW.p (hW.p iv0 0 rfl) 0 rfl) fl_X11_207 dX11_at_120 rfl ?_
          refine tc_iload 0 rfl dX11_at_123 ?_
          obtain ⟨bx20, x20, ex20, h⟩ := tc_ld_ex h
          refine tc_iald (hW.p (hW.p (hW.p iv0 0 rfl) 0 rfl) 7 rfl).1 bx20 dX11_at_125 ?_
          refine tc_nm ex20 ?_
          refine tc_goto 130 dX11_at_126 (by decide) ?_
          refine tc_lvs [] rfl ?_
          exact sb_X11_at_130 hW r ur  (tc_p G (tc_p G v0 0) 0) x4 x20 u5 (hW.p (hW.p iv0 0 rfl) 0 rfl) h
      rw [if_neg hc18] at h
      have sw21 : v3.toInt < 0 ∨ 4 < v3.toInt := by omega
      refine tc_tswOut 134 dX11_at_37 sw21 (by decide) ?_
      refine tc_iconst (v := (-1)) (by decide) dX11_at_134 ?_
      cases h
      exact tc_ireturn rfl dX11_at_135 rfl rfl ⟨rfl, rfl, rfl⟩
    · rw [if_neg hc9] at h
      refine tc_lvs [] rfl ?_
      exact sb_X11_at_34 hW r ur   u5  h
set_option maxRecDepth 100000 in
set_option maxHeartbeats 4000000 in
theorem sb_X11_hash_37 {p : Program} {l : Launch} {e : Env} {s : State} {m : MethodId} {args : Array Value} {below : List Frame} {meth : Method} {c : Code} {z : Nat} {D : tc_D} {G : tc_G} (hW : tc_W G) (r : Int32) (ur : tc_S) (s0 : Int32) (u : tc_S) (h : bl_X11_hash_37 G s0 u = some (r, ur)) : tc_R p l e { frames := 1, cells := 0, slots := 0, locals := 21 } s m args below meth c z D cX11_hash RX11 4 (some .int) 0 0 (tc_po r G ur) 0 0 G u 37 [] [.int s0] := by
  unfold bl_X11_hash_37 at h
  cases h
  exact tc_ireturn rfl dX11_hash_37 rfl rfl ⟨rfl, rfl, rfl⟩
set_option maxRecDepth 100000 in
set_option maxHeartbeats 4000000 in
theorem ct_X11_hash {l : Launch} {z : Nat} {D : tc_D} {G : tc_G} (hW : tc_W G) {v0 : Nat} {v1 : Int32} {v2 : Int32} {u : tc_S} {r : Int32} {ur : tc_S} (iv0 : tc_is G v0 11) (h : fn_X11_hash G v0 v1 v2 u = some (r, ur)) : tc_C l z D yX11_hash cX11_hash 4 (some .int) 1 21 0 0 [.ref (z + v0), .int v1, .int v2] G u (tc_po r G ur) := by
  unfold fn_X11_hash at h
  refine tc_C.of (by decide) (Nat.le_of_ble_eq_true rfl) fun p e s m args below meth c => ?_
  show tc_R p l e { frames := 1, cells := 0, slots := 0, locals := 21 } s m args below meth c z D cX11_hash RX11 4 (some .int) 0 0 (tc_po r G ur) 0 0 G u 0 [(0, .ref (z + v0)), (1, .int v1), (2, .int v2)] []
  refine tc_iload_n 1 rfl dX11_hash_0 ?_
  obtain ⟨x1, u2, hq3, h⟩ := tc_b_ex h
  refine tc_callSi [.int v1] dX11_hash_1 (ct_X11_isNumber hW hq3) ml_X11_124 mw_X11_isNumber ms_X11_isNumber ⟨Nat.le_of_ble_eq_true rfl, Nat.le_of_ble_eq_true rfl⟩ rfl rfl (Nat.le_of_ble_eq_true rfl) ⟨Nat.le_refl _, Nat.le_refl _⟩ ?_
  refine tc_if_ne 9 dX11_hash_4 (by decide) (fun hc4 => ?_) (fun hc4 => ?_)
  · rw [if_neg hc4] at h
    refine tc_aload_n 0 rfl dX11_hash_9 ?_
    refine tc_getp hW iv0 fl_X11_12 dX11_hash_10 rfl ?_
    refine tc_getp hW (hW.p iv0 0 rfl) fl_X11_113 dX11_hash_13 rfl ?_
    refine tc_getp hW (hW.p (hW.p iv0 0 rfl) 0 rfl) fl_X11_213 dX11_hash_16 rfl ?_
    refine tc_astore_n [(3, .ref (z + (tc_p G (tc_p G (tc_p G v0 0) 0) 0))), (0, .ref (z + v0)), (1, .int v1), (2, .int v2)] dX11_hash_19 (by decide) rfl ?_
    refine tc_iload_n 3 rfl dX11_hash_20 ?_
    refine tc_if_eq 32 dX11_hash_21 (by decide) (fun hc5 => ?_) (fun hc5 => ?_)
    · rw [if_pos hc5] at h
      refine tc_aload_n 0 rfl dX11_hash_32 ?_
      refine tc_iload_n 2 rfl dX11_hash_33 ?_
      obtain ⟨x6, u7, hq8, h⟩ := tc_b_ex h
      refine tc_callVi [.int v1] dX11_hash_34 (hW.p (hW.p (hW.p iv0 0 rfl) 0 rfl) 0 rfl).1 (ct_X8_firstOf hW (hW.p (hW.p (hW.p iv0 0 rfl) 0 rfl) 0 rfl) hq8) ml_X11_222 mw_X8_firstOf mv_X8_firstOf ⟨Nat.le_of_ble_eq_true rfl, Nat.le_of_ble_eq_true rfl⟩ rfl rfl (Nat.le_of_ble_eq_true rfl) ⟨Nat.le_refl _, Nat.le_refl _⟩ (by decide) ?_
      refine tc_lvs [] rfl ?_
      exact sb_X11_hash_37 hW r ur  x6 u7  h
    · rw [if_neg hc5] at h
      refine tc_aload_n 0 rfl dX11_hash_24 ?_
      refine tc_iload_n 2 rfl dX11_hash_25 ?_
      obtain ⟨x9, u10, hq11, h⟩ := tc_b_ex h
      refine tc_callVi [.int v1] dX11_hash_26 (hW.p (hW.p (hW.p iv0 0 rfl) 0 rfl) 0 rfl).1 (ct_X8_secondOf hW (hW.p (hW.p (hW.p iv0 0 rfl) 0 rfl) 0 rfl) hq11) ml_X11_217 mw_X8_secondOf mv_X8_secondOf ⟨Nat.le_of_ble_eq_true rfl, Nat.le_of_ble_eq_true rfl⟩ rfl rfl (Nat.le_of_ble_eq_true rfl) ⟨Nat.le_refl _, Nat.le_refl _⟩ (by decide) ?_
      refine tc_goto 37 dX11_hash_29 (by decide) ?_
      refine tc_lvs [] rfl ?_
      exact sb_X11_hash_37 hW r ur  x9 u10  h
  · rw [if_pos hc4] at h
    refine tc_iconst (v := (-1)) (by decide) dX11_hash_7 ?_
    cases h
    exact tc_ireturn rfl dX11_hash_8 rfl rfl ⟨rfl, rfl, rfl⟩
set_option maxRecDepth 100000 in
set_option maxHeartbeats 4000000 in
theorem sb_X11_chain_42 {p : Program} {l : Launch} {e : Env} {s : State} {m : MethodId} {args : Array Value} {below : List Frame} {meth : Method} {c : Code} {z : Nat} {D : tc_D} {G : tc_G} (hW : tc_W G) (r : Int32) (ur : tc_S) (u : tc_S) (h : bl_X11_chain_42 G  u = some (r, ur)) : tc_R p l e { frames := 2, cells := 0, slots := 0, locals := 54 } s m args below meth c z D cX11_chain RX11 6 (some .int) 0 0 (tc_po r G ur) 0 0 G u 42 [] [] := by
  unfold bl_X11_chain_42 at h
  refine tc_bipush (v := (-2)) (by decide) dX11_chain_42 ?_
  cases h
  exact tc_ireturn rfl dX11_chain_44 rfl rfl ⟨rfl, rfl, rfl⟩
set_option maxRecDepth 100000 in
set_option maxHeartbeats 4000000 in
theorem sb_X11_chain_73 {p : Program} {l : Launch} {e : Env} {s : State} {m : MethodId} {args : Array Value} {below : List Frame} {meth : Method} {c : Code} {z : Nat} {D : tc_D} {G : tc_G} (hW : tc_W G) (r : Int32) (ur : tc_S) (u : tc_S) (h : bl_X11_chain_73 G  u = some (r, ur)) : tc_R p l e { frames := 2, cells := 0, slots := 0, locals := 54 } s m args below meth c z D cX11_chain RX11 6 (some .int) 0 0 (tc_po r G ur) 0 0 G u 73 [] [] := by
  unfold bl_X11_chain_73 at h
  refine tc_bipush (v := (-2)) (by decide) dX11_chain_73 ?_
  cases h
  exact tc_ireturn rfl dX11_chain_75 rfl rfl ⟨rfl, rfl, rfl⟩
set_option maxRecDepth 100000 in
set_option maxHeartbeats 4000000 in
theorem ct_X11_chain {l : Launch} {z : Nat} {D : tc_D} {G : tc_G} (hW : tc_W G) {v0 : Nat} {v1 : Int32} {v2 : Int32} {u : tc_S} {r : Int32} {ur : tc_S} (iv0 : tc_is G v0 11) (h : fn_X11_chain G v0 v1 v2 u = some (r, ur)) : tc_C l z D yX11_chain cX11_chain 6 (some .int) 2 54 0 0 [.ref (z + v0), .int v1, .int v2] G u (tc_po r G ur) := by
  unfold fn_X11_chain at h
  refine tc_C.of (by decide) (Nat.le_of_ble_eq_true rfl) fun p e s m args below meth c => ?_
  show tc_R p l e { frames := 2, cells := 0, slots := 0, locals := 54 } s m args below meth c z D cX11_chain RX11 6 (some .int) 0 0 (tc_po r G ur) 0 0 G u 0 [(0, .ref (z + v0)), (1, .int v1), (2, .int v2)] []
  refine tc_aload_n 0 rfl dX11_chain_0 ?_
  refine tc_getp hW iv0 fl_X11_12 dX11_chain_1 rfl ?_
  refine tc_getp hW (hW.p iv0 0 rfl) fl_X11_113 dX11_chain_4 rfl ?_
  refine tc_astore_n [(3, .ref (z + (tc_p G (tc_p G v0 0) 0))), (0, .ref (z + v0)), (1, .int v1), (2, .int v2)] dX11_chain_7 (by decide) rfl ?_
  refine tc_iload_n 2 rfl dX11_chain_8 ?_
  obtain ⟨x1, u2, hq3, h⟩ := tc_b_ex h
  refine tc_callSi [.int v1] dX11_chain_9 (ct_X11_isNumber hW hq3) ml_X11_124 mw_X11_isNumber ms_X11_isNumber ⟨Nat.le_of_ble_eq_true rfl, Nat.le_of_ble_eq_true rfl⟩ rfl rfl (Nat.le_of_ble_eq_true rfl) ⟨Nat.le_refl _, Nat.le_refl _⟩ ?_
  refine tc_if_eq 42 dX11_chain_12 (by decide) (fun hc4 => ?_) (fun hc4 => ?_)
  · rw [if_pos hc4] at h
    refine tc_lvs [] rfl ?_
    exact sb_X11_chain_42 hW r ur   u2  h
  · rw [if_neg hc4] at h
    refine tc_aload_n 1 rfl dX11_chain_15 ?_
    refine tc_getp hW iv0 fl_X11_32 dX11_chain_16 rfl ?_
    refine tc_aload_n 0 rfl dX11_chain_19 ?_
    refine tc_aload_n 0 rfl dX11_chain_20 ?_
    refine tc_getp hW (hW.p (hW.p iv0 0 rfl) 0 rfl) fl_X11_213 dX11_chain_21 rfl ?_
    refine tc_iload_n 2 rfl dX11_chain_24 ?_
    obtain ⟨x5, u6, hq7, h⟩ := tc_b_ex h
    refine tc_callVi [.int v1] dX11_chain_25 (hW.p (hW.p (hW.p iv0 0 rfl) 0 rfl) 0 rfl).1 (ct_X8_firstOf hW (hW.p (hW.p (hW.p iv0 0 rfl) 0 rfl) 0 rfl) hq7) ml_X11_222 mw_X8_firstOf mv_X8_firstOf ⟨Nat.le_of_ble_eq_true rfl, Nat.le_of_ble_eq_true rfl⟩ rfl rfl (Nat.le_of_ble_eq_true rfl) ⟨Nat.le_refl _, Nat.le_refl _⟩ (by decide) ?_
    refine tc_aload_n 0 rfl dX11_chain_28 ?_
    refine tc_getp hW (hW.p (hW.p iv0 0 rfl) 0 rfl) fl_X11_213 dX11_chain_29 rfl ?_
    refine tc_iload_n 2 rfl dX11_chain_32 ?_
    obtain ⟨x8, u9, hq10, h⟩ := tc_b_ex h
    refine tc_callVi [.int v1] dX11_chain_33 (hW.p (hW.p (hW.p iv0 0 rfl) 0 rfl) 0 rfl).1 (ct_X8_secondOf hW (hW.p (hW.p (hW.p iv0 0 rfl) 0 rfl) 0 rfl) hq10) ml_X11_217 mw_X8_secondOf mv_X8_secondOf ⟨Nat.le_of_ble_eq_true rfl, Nat.le_of_ble_eq_true rfl⟩ rfl rfl (Nat.le_of_ble_eq_true rfl) ⟨Nat.le_refl _, Nat.le_refl _⟩ (by decide) ?_
    obtain ⟨x11, u12, hq13, h⟩ := tc_b_ex h
    refine tc_callVi [.ref (z + (tc_p G (tc_p G v0 0) 0)), .int x5, .int x8] dX11_chain_36 (hW.p iv0 3 rfl).1 (ct_X1_seek hW (hW.p iv0 3 rfl) (hW.p (hW.p iv0 0 rfl) 0 rfl) hq13) ml_X11_225 mw_X1_seek mv_X1_seek ⟨Nat.le_of_ble_eq_true rfl, Nat.le_of_ble_eq_true rfl⟩ rfl rfl (Nat.le_of_ble_eq_true rfl) ⟨Nat.le_refl _, Nat.le_refl _⟩ (by decide) ?_
    refine tc_if_ne 45 dX11_chain_39 (by decide) (fun hc14 => ?_) (fun hc14 => ?_)
    · rw [if_neg hc14] at h
      refine tc_iload_n 3 rfl dX11_chain_45 ?_
      refine tc_iconst (v := (-1)) (by decide) dX11_chain_46 ?_
      refine tc_icmp_ne 58 dX11_chain_47 (by decide) (fun hc15 => ?_) (fun hc15 => ?_)
      · rw [if_neg hc15] at h
        refine tc_iload_n 3 rfl dX11_chain_58 ?_
        refine tc_if_lt 73 dX11_chain_59 (by decide) (fun hc16 => ?_) (fun hc16 => ?_)
        · rw [if_pos hc16] at h
          refine tc_lvs [] rfl ?_
          exact sb_X11_chain_73 hW r ur   u12  h
        · rw [if_neg hc16] at h
          refine tc_iload_n 3 rfl dX11_chain_62 ?_
          refine tc_aload_n 1 rfl dX11_chain_63 ?_
          refine tc_getp hW iv0 fl_X11_32 dX11_chain_64 rfl ?_
          refine tc_geti (hW.p iv0 3 rfl).1 fl_X11_229 dX11_chain_67 ?_
          refine tc_icmp_lt 76 dX11_chain_70 (by decide) (fun hc17 => ?_) (fun hc17 => ?_)
          · rw [if_pos hc17] at h
            refine tc_aload_n 1 rfl dX11_chain_76 ?_
            refine tc_getp hW iv0 fl_X11_32 dX11_chain_77 rfl ?_
            refine tc_getp hW (hW.p iv0 3 rfl) fl_X11_230 dX11_chain_80 rfl ?_
            refine tc_iload_n 3 rfl dX11_chain_83 ?_
            obtain ⟨bx18, x18, ex18, h⟩ := tc_ld_ex h
            refine tc_iald (hW.p (hW.p iv0 3 rfl) 0 rfl).1 bx18 dX11_chain_84 ?_
            refine tc_nm ex18 ?_
            refine tc_istore [(4, .int x18), (3, .ref (z + (tc_p G (tc_p G v0 0) 0))), (0, .ref (z + v0)), (1, .int v1), (2, .int v2)] dX11_chain_85 (by decide) rfl ?_
            refine tc_aload_n 1 rfl dX11_chain_87 ?_
            refine tc_iload 0 rfl dX11_chain_88 ?_
            obtain ⟨x19, u20, hq21, h⟩ := tc_b_ex h
            refine tc_callVi [.int x18] dX11_chain_90 (hW.p (hW.p iv0 0 rfl) 0 rfl).1 (ct_X9_bucketOf hW (hW.p (hW.p iv0 0 rfl) 0 rfl) hq21) ml_X11_189 mw_X9_bucketOf mv_X9_bucketOf ⟨Nat.le_of_ble_eq_true rfl, Nat.le_of_ble_eq_true rfl⟩ rfl rfl (Nat.le_of_ble_eq_true rfl) ⟨Nat.le_refl _, Nat.le_refl _⟩ (by decide) ?_
            refine tc_istore [(5, .int x19), (4, .int x18), (3, .ref (z + (tc_p G (tc_p G v0 0) 0))), (0, .ref (z + v0)), (1, .int v1), (2, .int v2)] dX11_chain_93 (by decide) rfl ?_
            refine tc_bipush (v := 10) (by decide) dX11_chain_95 ?_
            refine tc_iload 0 rfl dX11_chain_97 ?_
            refine tc_imul dX11_chain_99 ?_
            refine tc_iload 1 rfl dX11_chain_100 ?_
            refine tc_iadd dX11_chain_102 ?_
            refine tc_aload_n 2 rfl dX11_chain_103 ?_
            refine tc_iload 0 rfl dX11_chain_104 ?_
            obtain ⟨x22, u23, hq24, h⟩ := tc_b_ex h
            refine tc_callVi [.int x19] dX11_chain_106 (hW.p (hW.p iv0 0 rfl) 0 rfl).1 (ct_X9_startOf hW (hW.p (hW.p iv0 0 rfl) 0 rfl) hq24) ml_X11_192 mw_X9_startOf mv_X9_startOf ⟨Nat.le_of_ble_eq_true rfl, Nat.le_of_ble_eq_true rfl⟩ rfl rfl (Nat.le_of_ble_eq_true rfl) ⟨Nat.le_refl _, Nat.le_refl _⟩ (by decide) ?_
            refine tc_isub dX11_chain_109 ?_
            cases h
            exact tc_ireturn rfl dX11_chain_110 rfl rfl ⟨rfl, rfl, rfl⟩
          · rw [if_neg hc17] at h
            refine tc_lvs [] rfl ?_
            exact sb_X11_chain_73 hW r ur   u12  h
      · rw [if_pos hc15] at h
        refine tc_aload_n 1 rfl dX11_chain_50 ?_
        refine tc_getp hW iv0 fl_X11_32 dX11_chain_51 rfl ?_
        refine tc_geti (hW.p iv0 3 rfl).1 fl_X11_229 dX11_chain_54 ?_
        cases h
        exact tc_ireturn rfl dX11_chain_57 rfl rfl ⟨rfl, rfl, rfl⟩
    · rw [if_pos hc14] at h
      refine tc_lvs [] rfl ?_
      exact sb_X11_chain_42 hW r ur   u12  h
set_option maxRecDepth 100000 in
set_option maxHeartbeats 4000000 in
theorem ct_X11_answerFor {l : Launch} {z : Nat} {D : tc_D} {G : tc_G} (hW : tc_W G) {v0 : Nat} {v1 : Int32} {u : tc_S} {r : Int32} {ur : tc_S} (iv0 : tc_is G v0 11) (h : fn_X11_answerFor G v0 v1 u = some (r, ur)) : tc_C l z D yX11_answerFor cX11_answerFor 2 (some .int) 6 149 0 0 [.ref (z + v0), .int v1] G u (tc_po r G ur) := by
  unfold fn_X11_answerFor at h
  refine tc_C.of (by decide) (Nat.le_of_ble_eq_true rfl) fun p e s m args below meth c => ?_
  show tc_R p l e { frames := 6, cells := 0, slots := 0, locals := 149 } s m args below meth c z D cX11_answerFor RX11 2 (some .int) 0 0 (tc_po r G ur) 0 0 G u 0 [(0, .ref (z + v0)), (1, .int v1)] []
  refine tc_aload_n 0 rfl dX11_answerFor_0 ?_
  refine tc_getp hW iv0 fl_X11_25 dX11_answerFor_1 rfl ?_
  refine tc_aload_n 0 rfl dX11_answerFor_4 ?_
  refine tc_getp hW iv0 fl_X11_12 dX11_answerFor_5 rfl ?_
  refine tc_getp hW (hW.p iv0 0 rfl) fl_X11_113 dX11_answerFor_8 rfl ?_
  obtain ⟨x1, u2, hq3, h⟩ := tc_b_ex h
  refine tc_callVv [.ref (z + (tc_p G (tc_p G v0 0) 0))] dX11_answerFor_11 (hW.p iv0 2 rfl).1 (ct_X9_copyFrom hW (hW.p iv0 2 rfl) (hW.p (hW.p iv0 0 rfl) 0 rfl) hq3) ml_X11_116 mw_X9_copyFrom mv_X9_copyFrom ⟨Nat.le_of_ble_eq_true rfl, Nat.le_of_ble_eq_true rfl⟩ rfl rfl (Nat.le_of_ble_eq_true rfl) ⟨Nat.le_refl _, Nat.le_refl _⟩ (by decide) ?_
  refine tc_aload_n 0 rfl dX11_answerFor_14 ?_
  refine tc_getp hW iv0 fl_X11_57 dX11_answerFor_15 rfl ?_
  refine tc_aload_n 0 rfl dX11_answerFor_18 ?_
  refine tc_getp hW iv0 fl_X11_25 dX11_answerFor_19 rfl ?_
  refine tc_iload_n 1 rfl dX11_answerFor_22 ?_
  refine tc_iconst (v := 0) (by decide) dX11_answerFor_23 ?_
  obtain ⟨x4, u5, hq6, h⟩ := tc_b_ex h
  refine tc_callVi [.ref (z + (tc_p G v0 2)), .int v1, .int 0] dX11_answerFor_24 (hW.p iv0 6 rfl).1 (ct_X3_enter hW (hW.p iv0 6 rfl) (hW.p iv0 2 rfl) hq6) ml_X11_127 mw_X3_enter mv_X3_enter ⟨Nat.le_of_ble_eq_true rfl, Nat.le_of_ble_eq_true rfl⟩ rfl rfl (Nat.le_of_ble_eq_true rfl) ⟨Nat.le_refl _, Nat.le_refl _⟩ (by decide) ?_
  cases h
  exact tc_ireturn rfl dX11_answerFor_27 rfl rfl ⟨rfl, rfl, rfl⟩
set_option maxRecDepth 100000 in
set_option maxHeartbeats 4000000 in
theorem sb_X11_would_17 {p : Program} {l : Launch} {e : Env} {s : State} {m : MethodId} {args : Array Value} {below : List Frame} {meth : Method} {c : Code} {z : Nat} {D : tc_D} {G : tc_G} (hW : tc_W G) (r : Int32) (ur : tc_S) (s0 : Int32) (u : tc_S) (h : bl_X11_would_17 G s0 u = some (r, ur)) : tc_R p l e { frames := 7, cells := 0, slots := 0, locals := 170 } s m args below meth c z D cX11_would RX11 2 (some .int) 0 0 (tc_po r G ur) 0 0 G u 17 [] [.int s0] := by
  unfold bl_X11_would_17 at h
  cases h
  exact tc_ireturn rfl dX11_would_17 rfl rfl ⟨rfl, rfl, rfl⟩
set_option maxRecDepth 100000 in
set_option maxHeartbeats 4000000 in
theorem ct_X11_would {l : Launch} {z : Nat} {D : tc_D} {G : tc_G} (hW : tc_W G) {v0 : Nat} {v1 : Int32} {u : tc_S} {r : Int32} {ur : tc_S} (iv0 : tc_is G v0 11) (h : fn_X11_would G v0 v1 u = some (r, ur)) : tc_C l z D yX11_would cX11_would 2 (some .int) 7 170 0 0 [.ref (z + v0), .int v1] G u (tc_po r G ur) := by
  unfold fn_X11_would at h
  refine tc_C.of (by decide) (Nat.le_of_ble_eq_true rfl) fun p e s m args below meth c => ?_
  show tc_R p l e { frames := 7, cells := 0, slots := 0, locals := 170 } s m args below meth c z D cX11_would RX11 2 (some .int) 0 0 (tc_po r G ur) 0 0 G u 0 [(0, .ref (z + v0)), (1, .int v1)] []
  refine tc_iload_n 1 rfl dX11_would_0 ?_
  obtain ⟨x1, u2, hq3, h⟩ := tc_b_ex h
  refine tc_callSi [.int v1] dX11_would_1 (ct_X11_isNumber hW hq3) ml_X11_124 mw_X11_isNumber ms_X11_isNumber ⟨Nat.le_of_ble_eq_true rfl, Nat.le_of_ble_eq_true rfl⟩ rfl rfl (Nat.le_of_ble_eq_true rfl) ⟨Nat.le_refl _, Nat.le_refl _⟩ ?_
  refine tc_if_eq 15 dX11_would_4 (by decide) (fun hc4 => ?_) (fun hc4 => ?_)
  · rw [if_pos hc4] at h
    refine tc_bipush (v := (-2)) (by decide) dX11_would_15 ?_
    refine tc_lvs [] rfl ?_
    exact sb_X11_would_17 hW r ur  (-2) u2  h
  · rw [if_neg hc4] at h
    refine tc_aload_n 0 rfl dX11_would_7 ?_
    refine tc_iload_n 1 rfl dX11_would_8 ?_
    obtain ⟨x5, u6, hq7, h⟩ := tc_b_ex h
    refine tc_callVi [.int v1] dX11_would_9 iv0.1 (ct_X11_answerFor hW iv0 hq7) ml_X11_233 mw_X11_answerFor mv_X11_answerFor ⟨Nat.le_of_ble_eq_true rfl, Nat.le_of_ble_eq_true rfl⟩ rfl rfl (Nat.le_of_ble_eq_true rfl) ⟨Nat.le_refl _, Nat.le_refl _⟩ (by decide) ?_
    refine tc_goto 17 dX11_would_12 (by decide) ?_
    refine tc_lvs [] rfl ?_
    exact sb_X11_would_17 hW r ur  x5 u6  h
set_option maxRecDepth 100000 in
set_option maxHeartbeats 4000000 in
theorem sb_X11_part_23 {p : Program} {l : Launch} {e : Env} {s : State} {m : MethodId} {args : Array Value} {below : List Frame} {meth : Method} {c : Code} {z : Nat} {D : tc_D} {G : tc_G} (hW : tc_W G) (r : Int32) (ur : tc_S) (u : tc_S) (h : bl_X11_part_23 G  u = some (r, ur)) : tc_R p l e { frames := 2, cells := 0, slots := 0, locals := 48 } s m args below meth c z D cX11_part RX11 5 (some .int) 0 0 (tc_po r G ur) 0 0 G u 23 [] [] := by
  unfold bl_X11_part_23 at h
  refine tc_iconst (v := (-1)) (by decide) dX11_part_23 ?_
  cases h
  exact tc_ireturn rfl dX11_part_24 rfl rfl ⟨rfl, rfl, rfl⟩
set_option maxRecDepth 100000 in
set_option maxHeartbeats 4000000 in
theorem ct_X11_part {l : Launch} {z : Nat} {D : tc_D} {G : tc_G} (hW : tc_W G) {v0 : Nat} {v1 : Int32} {v2 : Int32} {u : tc_S} {r : Int32} {ur : tc_S} (iv0 : tc_is G v0 11) (h : fn_X11_part G v0 v1 v2 u = some (r, ur)) : tc_C l z D yX11_part cX11_part 5 (some .int) 2 48 0 0 [.ref (z + v0), .int v1, .int v2] G u (tc_po r G ur) := by
  unfold fn_X11_part at h
  refine tc_C.of (by decide) (Nat.le_of_ble_eq_true rfl) fun p e s m args below meth c => ?_
  show tc_R p l e { frames := 2, cells := 0, slots := 0, locals := 48 } s m args below meth c z D cX11_part RX11 5 (some .int) 0 0 (tc_po r G ur) 0 0 G u 0 [(0, .ref (z + v0)), (1, .int v1), (2, .int v2)] []
  refine tc_aload_n 0 rfl dX11_part_0 ?_
  refine tc_getp hW iv0 fl_X11_12 dX11_part_1 rfl ?_
  refine tc_getp hW (hW.p iv0 0 rfl) fl_X11_113 dX11_part_4 rfl ?_
  refine tc_astore_n [(3, .ref (z + (tc_p G (tc_p G v0 0) 0))), (0, .ref (z + v0)), (1, .int v1), (2, .int v2)] dX11_part_7 (by decide) rfl ?_
  refine tc_iload_n 2 rfl dX11_part_8 ?_
  refine tc_if_lt 23 dX11_part_9 (by decide) (fun hc1 => ?_) (fun hc1 => ?_)
  · rw [if_pos hc1] at h
    refine tc_lvs [] rfl ?_
    exact sb_X11_part_23 hW r ur   u  h
  · rw [if_neg hc1] at h
    refine tc_iload_n 2 rfl dX11_part_12 ?_
    refine tc_aload_n 0 rfl dX11_part_13 ?_
    refine tc_getp hW (hW.p (hW.p iv0 0 rfl) 0 rfl) fl_X11_213 dX11_part_14 rfl ?_
    refine tc_geti (hW.p (hW.p (hW.p iv0 0 rfl) 0 rfl) 0 rfl).1 fl_X11_236 dX11_part_17 ?_
    refine tc_icmp_lt 25 dX11_part_20 (by decide) (fun hc2 => ?_) (fun hc2 => ?_)
    · rw [if_pos hc2] at h
      refine tc_aload_n 1 rfl dX11_part_25 ?_
      refine tc_getp hW iv0 fl_X11_64 dX11_part_26 rfl ?_
      refine tc_aload_n 0 rfl dX11_part_29 ?_
      obtain ⟨x3, u4, hq5, h⟩ := tc_b_ex h
      refine tc_callVi [.ref (z + (tc_p G (tc_p G v0 0) 0))] dX11_part_30 (hW.p iv0 7 rfl).1 (ct_X5_join hW (hW.p iv0 7 rfl) (hW.p (hW.p iv0 0 rfl) 0 rfl) hq5) ml_X11_239 mw_X5_join mv_X5_join ⟨Nat.le_of_ble_eq_true rfl, Nat.le_of_ble_eq_true rfl⟩ rfl rfl (Nat.le_of_ble_eq_true rfl) ⟨Nat.le_refl _, Nat.le_refl _⟩ (by decide) ?_
      refine tc_pop rfl dX11_part_33 ?_
      refine tc_aload_n 1 rfl dX11_part_34 ?_
      refine tc_getp hW iv0 fl_X11_64 dX11_part_35 rfl ?_
      refine tc_getp hW (hW.p iv0 7 rfl) fl_X11_243 dX11_part_38 rfl ?_
      refine tc_iload_n 2 rfl dX11_part_41 ?_
      obtain ⟨bx6, x6, ex6, h⟩ := tc_ld_ex h
      refine tc_iald (hW.p (hW.p iv0 7 rfl) 0 rfl).1 bx6 dX11_part_42 ?_
      refine tc_nm ex6 ?_
      refine tc_istore [(4, .int x6), (3, .ref (z + (tc_p G (tc_p G v0 0) 0))), (0, .ref (z + v0)), (1, .int v1), (2, .int v2)] dX11_part_43 (by decide) rfl ?_
      refine tc_iload_n 4 rfl dX11_part_45 ?_
      by_cases hc7 : v2.toInt = 0
      · rw [if_pos hc7] at h
        refine tc_tswIn 80 dX11_part_46 (by rw [hc7]; decide) (by rw [hc7]; decide) (by rw [hc7]; rfl) (by decide) ?_
        refine tc_aload_n 2 rfl dX11_part_80 ?_
        refine tc_getp hW iv0 fl_X11_64 dX11_part_81 rfl ?_
        refine tc_iload 0 rfl dX11_part_84 ?_
        obtain ⟨x8, u9, hq10, h⟩ := tc_b_ex h
        refine tc_callVi [.int x6] dX11_part_86 (hW.p iv0 7 rfl).1 (ct_X5_bits hW (hW.p iv0 7 rfl) hq10) ml_X11_246 mw_X5_bits mv_X5_bits ⟨Nat.le_of_ble_eq_true rfl, Nat.le_of_ble_eq_true rfl⟩ rfl rfl (Nat.le_of_ble_eq_true rfl) ⟨Nat.le_refl _, Nat.le_refl _⟩ (by decide) ?_
        cases h
        exact tc_ireturn rfl dX11_part_89 rfl rfl ⟨rfl, rfl, rfl⟩
      rw [if_neg hc7] at h
      by_cases hc11 : v2.toInt = 1
      · rw [if_pos hc11] at h
        refine tc_tswIn 90 dX11_part_46 (by rw [hc11]; decide) (by rw [hc11]; decide) (by rw [hc11]; rfl) (by decide) ?_
        refine tc_aload_n 2 rfl dX11_part_90 ?_
        refine tc_getp hW iv0 fl_X11_64 dX11_part_91 rfl ?_
        refine tc_getp hW (hW.p iv0 7 rfl) fl_X11_249 dX11_part_94 rfl ?_
        refine tc_iload 0 rfl dX11_part_97 ?_
        obtain ⟨bx12, x12, ex12, h⟩ := tc_ld_ex h
        refine tc_iald (hW.p (hW.p iv0 7 rfl) 1 rfl).1 bx12 dX11_part_99 ?_
        refine tc_nm ex12 ?_
        cases h
        exact tc_ireturn rfl dX11_part_100 rfl rfl ⟨rfl, rfl, rfl⟩
      rw [if_neg hc11] at h
      by_cases hc13 : v2.toInt = 2
      · rw [if_pos hc13] at h
        refine tc_tswIn 101 dX11_part_46 (by rw [hc13]; decide) (by rw [hc13]; decide) (by rw [hc13]; rfl) (by decide) ?_
        refine tc_aload_n 2 rfl dX11_part_101 ?_
        refine tc_getp hW iv0 fl_X11_64 dX11_part_102 rfl ?_
        refine tc_getp hW (hW.p iv0 7 rfl) fl_X11_252 dX11_part_105 rfl ?_
        refine tc_iload 0 rfl dX11_part_108 ?_
        obtain ⟨bx14, x14, ex14, h⟩ := tc_ld_ex h
        refine tc_iald (hW.p (hW.p iv0 7 rfl) 2 rfl).1 bx14 dX11_part_110 ?_
        refine tc_nm ex14 ?_
        refine tc_aload_n 1 rfl dX11_part_111 ?_
        refine tc_getp hW (hW.p (hW.p iv0 0 rfl) 0 rfl) fl_X11_213 dX11_part_112 rfl ?_
        refine tc_geti (hW.p (hW.p (hW.p iv0 0 rfl) 0 rfl) 0 rfl).1 fl_X11_255 dX11_part_115 ?_
        refine tc_imul dX11_part_118 ?_
        cases h
        exact tc_ireturn rfl dX11_part_119 rfl rfl ⟨rfl, rfl, rfl⟩
      rw [if_neg hc13] at h
      by_cases hc15 : v2.toInt = 3
      · rw [if_pos hc15] at h
        refine tc_tswIn 120 dX11_part_46 (by rw [hc15]; decide) (by rw [hc15]; decide) (by rw [hc15]; rfl) (by decide) ?_
        refine tc_aload_n 2 rfl dX11_part_120 ?_
        refine tc_getp hW iv0 fl_X11_64 dX11_part_121 rfl ?_
        refine tc_iload 0 rfl dX11_part_124 ?_
        obtain ⟨x16, u17, hq18, h⟩ := tc_b_ex h
        refine tc_callVi [.int x6] dX11_part_126 (hW.p iv0 7 rfl).1 (ct_X5_kindOf hW (hW.p iv0 7 rfl) hq18) ml_X11_258 mw_X5_kindOf mv_X5_kindOf ⟨Nat.le_of_ble_eq_true rfl, Nat.le_of_ble_eq_true rfl⟩ rfl rfl (Nat.le_of_ble_eq_true rfl) ⟨Nat.le_refl _, Nat.le_refl _⟩ (by decide) ?_
        cases h
        exact tc_ireturn rfl dX11_part_129 rfl rfl ⟨rfl, rfl, rfl⟩
      rw [if_neg hc15] at h
      by_cases hc19 : v2.toInt = 4
      · rw [if_pos hc19] at h
        refine tc_tswIn 130 dX11_part_46 (by rw [hc19]; decide) (by rw [hc19]; decide) (by rw [hc19]; rfl) (by decide) ?_
        refine tc_aload_n 2 rfl dX11_part_130 ?_
        refine tc_getp hW iv0 fl_X11_64 dX11_part_131 rfl ?_
        refine tc_getp hW (hW.p iv0 7 rfl) fl_X11_252 dX11_part_134 rfl ?_
        refine tc_iload 0 rfl dX11_part_137 ?_
        obtain ⟨bx20, x20, ex20, h⟩ := tc_ld_ex h
        refine tc_iald (hW.p (hW.p iv0 7 rfl) 2 rfl).1 bx20 dX11_part_139 ?_
        refine tc_nm ex20 ?_
        refine tc_aload_n 1 rfl dX11_part_140 ?_
        refine tc_getp hW (hW.p (hW.p iv0 0 rfl) 0 rfl) fl_X11_213 dX11_part_141 rfl ?_
        refine tc_geti (hW.p (hW.p (hW.p iv0 0 rfl) 0 rfl) 0 rfl).1 fl_X11_255 dX11_part_144 ?_
        refine tc_imul dX11_part_147 ?_
        refine tc_aload_n 2 rfl dX11_part_148 ?_
        refine tc_getp hW iv0 fl_X11_64 dX11_part_149 rfl ?_
        refine tc_aload_n 1 rfl dX11_part_152 ?_
        refine tc_iload 0 rfl dX11_part_153 ?_
        obtain ⟨x21, u22, hq23, h⟩ := tc_b_ex h
        refine tc_callVi [.ref (z + (tc_p G (tc_p G v0 0) 0)), .int x6] dX11_part_155 (hW.p iv0 7 rfl).1 (ct_X5_entriesIn hW (hW.p iv0 7 rfl) (hW.p (hW.p iv0 0 rfl) 0 rfl) hq23) ml_X11_261 mw_X5_entriesIn mv_X5_entriesIn ⟨Nat.le_of_ble_eq_true rfl, Nat.le_of_ble_eq_true rfl⟩ rfl rfl (Nat.le_of_ble_eq_true rfl) ⟨Nat.le_refl _, Nat.le_refl _⟩ (by decide) ?_
        refine tc_isub dX11_part_158 ?_
        cases h
        exact tc_ireturn rfl dX11_part_159 rfl rfl ⟨rfl, rfl, rfl⟩
      rw [if_neg hc19] at h
      have sw24 : v2.toInt < 0 ∨ 4 < v2.toInt := by omega
      refine tc_tswOut 160 dX11_part_46 sw24 (by decide) ?_
      refine tc_iconst (v := (-1)) (by decide) dX11_part_160 ?_
      cases h
      exact tc_ireturn rfl dX11_part_161 rfl rfl ⟨rfl, rfl, rfl⟩
    · rw [if_neg hc2] at h
      refine tc_lvs [] rfl ?_
      exact sb_X11_part_23 hW r ur   u  h
set_option maxRecDepth 100000 in
set_option maxHeartbeats 4000000 in
theorem sb_X11_fits_43 {p : Program} {l : Launch} {e : Env} {s : State} {m : MethodId} {args : Array Value} {below : List Frame} {meth : Method} {c : Code} {z : Nat} {D : tc_D} {G : tc_G} (hW : tc_W G) (r : Int32) (ur : tc_S) (s0 : Nat) (s1 : Nat) (s2 : Int32) (u : tc_S) (is0 : tc_is G s0 0) (is1 : tc_is G s1 9) (h : bl_X11_fits_43 G s0 s1 s2 u = some (r, ur)) : tc_R p l e { frames := 6, cells := 0, slots := 0, locals := 145 } s m args below meth c z D cX11_fits RX11 3 (some .boolean) 0 0 (tc_po r G ur) 0 0 G u 43 [] [.int s2, .ref (z + s1), .ref (z + s0)] := by
  unfold bl_X11_fits_43 at h
  obtain ⟨x1, u2, hq3, h⟩ := tc_b_ex h
  refine tc_callVi [.ref (z + s1), .int s2] dX11_fits_43 is0.1 (ct_X0_allFit hW is0 is1 hq3) ml_X11_267 mw_X0_allFit mv_X0_allFit ⟨Nat.le_of_ble_eq_true rfl, Nat.le_of_ble_eq_true rfl⟩ rfl rfl (Nat.le_of_ble_eq_true rfl) ⟨Nat.le_refl _, Nat.le_refl _⟩ (by decide) ?_
  obtain ⟨hz4, h⟩ := tc_zo_ex h
  cases h
  exact tc_zreturn hz4 rfl dX11_fits_46 rfl rfl ⟨rfl, rfl, rfl⟩
set_option maxRecDepth 100000 in
set_option maxHeartbeats 4000000 in
theorem ct_X11_fits {l : Launch} {z : Nat} {D : tc_D} {G : tc_G} (hW : tc_W G) {v0 : Nat} {v1 : Int32} {u : tc_S} {r : Int32} {ur : tc_S} (iv0 : tc_is G v0 11) (h : fn_X11_fits G v0 v1 u = some (r, ur)) : tc_C l z D yX11_fits cX11_fits 3 (some .boolean) 6 145 0 0 [.ref (z + v0), .int v1] G u (tc_po r G ur) := by
  unfold fn_X11_fits at h
  refine tc_C.of (by decide) (Nat.le_of_ble_eq_true rfl) fun p e s m args below meth c => ?_
  show tc_R p l e { frames := 6, cells := 0, slots := 0, locals := 145 } s m args below meth c z D cX11_fits RX11 3 (some .boolean) 0 0 (tc_po r G ur) 0 0 G u 0 [(0, .ref (z + v0)), (1, .int v1)] []
  refine tc_iload_n 1 rfl dX11_fits_0 ?_
  obtain ⟨x5, u6, hq7, h⟩ := tc_b_ex h
  refine tc_callSi [.int v1] dX11_fits_1 (ct_X11_isNumber hW hq7) ml_X11_124 mw_X11_isNumber ms_X11_isNumber ⟨Nat.le_of_ble_eq_true rfl, Nat.le_of_ble_eq_true rfl⟩ rfl rfl (Nat.le_of_ble_eq_true rfl) ⟨Nat.le_refl _, Nat.le_refl _⟩ ?_
  refine tc_if_ne 9 dX11_fits_4 (by decide) (fun hc8 => ?_) (fun hc8 => ?_)
  · rw [if_neg hc8] at h
    refine tc_aload_n 0 rfl dX11_fits_9 ?_
    refine tc_getp hW iv0 fl_X11_12 dX11_fits_10 rfl ?_
    refine tc_getp hW (hW.p iv0 0 rfl) fl_X11_113 dX11_fits_13 rfl ?_
    refine tc_astore_n [(2, .ref (z + (tc_p G (tc_p G v0 0) 0))), (0, .ref (z + v0)), (1, .int v1)] dX11_fits_16 (by decide) rfl ?_
    refine tc_aload_n 1 rfl dX11_fits_17 ?_
    refine tc_getp hW iv0 fl_X11_73 dX11_fits_18 rfl ?_
    refine tc_aload_n 0 rfl dX11_fits_21 ?_
    obtain ⟨x9, u10, hq11, h⟩ := tc_b_ex h
    refine tc_callVv [.ref (z + (tc_p G (tc_p G v0 0) 0))] dX11_fits_22 (hW.p iv0 8 rfl).1 (ct_X0_takeSettings hW (hW.p iv0 8 rfl) (hW.p (hW.p iv0 0 rfl) 0 rfl) hq11) ml_X11_264 mw_X0_takeSettings mv_X0_takeSettings ⟨Nat.le_of_ble_eq_true rfl, Nat.le_of_ble_eq_true rfl⟩ rfl rfl (Nat.le_of_ble_eq_true rfl) ⟨Nat.le_refl _, Nat.le_refl _⟩ (by decide) ?_
    refine tc_aload_n 1 rfl dX11_fits_25 ?_
    refine tc_getp hW iv0 fl_X11_73 dX11_fits_26 rfl ?_
    refine tc_aload_n 0 rfl dX11_fits_29 ?_
    refine tc_aload_n 0 rfl dX11_fits_30 ?_
    refine tc_iload_n 2 rfl dX11_fits_31 ?_
    obtain ⟨x12, u13, hq14, h⟩ := tc_b_ex h
    refine tc_callVi [.int v1] dX11_fits_32 (hW.p (hW.p iv0 0 rfl) 0 rfl).1 (ct_X9_locate hW (hW.p (hW.p iv0 0 rfl) 0 rfl) hq14) ml_X11_131 mw_X9_locate mv_X9_locate ⟨Nat.le_of_ble_eq_true rfl, Nat.le_of_ble_eq_true rfl⟩ rfl rfl (Nat.le_of_ble_eq_true rfl) ⟨Nat.le_refl _, Nat.le_refl _⟩ (by decide) ?_
    refine tc_if_ge 42 dX11_fits_35 (by decide) (fun hc15 => ?_) (fun hc15 => ?_)
    · rw [if_pos hc15] at h
      refine tc_iconst (v := (-1)) (by decide) dX11_fits_42 ?_
      refine tc_lvs [] rfl ?_
      exact sb_X11_fits_43 hW r ur  (tc_p G v0 8) (tc_p G (tc_p G v0 0) 0) (-1) u13 (hW.p iv0 8 rfl) (hW.p (hW.p iv0 0 rfl) 0 rfl) h
    · rw [if_neg hc15] at h
      refine tc_iload_n 2 rfl dX11_fits_38 ?_
      refine tc_goto 43 dX11_fits_39 (by decide) ?_
      refine tc_lvs [] rfl ?_
      exact sb_X11_fits_43 hW r ur  (tc_p G v0 8) (tc_p G (tc_p G v0 0) 0) v1 u13 (hW.p iv0 8 rfl) (hW.p (hW.p iv0 0 rfl) 0 rfl) h
  · rw [if_pos hc8] at h
    refine tc_iconst (v := 0) (by decide) dX11_fits_7 ?_
    obtain ⟨hz16, h⟩ := tc_zo_ex h
    cases h
    exact tc_zreturn hz16 rfl dX11_fits_8 rfl rfl ⟨rfl, rfl, rfl⟩
set_option maxRecDepth 100000 in
set_option maxHeartbeats 4000000 in
theorem ct_X11_over {l : Launch} {z : Nat} {D : tc_D} {G : tc_G} (hW : tc_W G) {v0 : Nat} {u : tc_S} {r : Int32} {ur : tc_S} (iv0 : tc_is G v0 11) (h : fn_X11_over G v0 u = some (r, ur)) : tc_C l z D yX11_over cX11_over 1 (some .int) 5 123 0 0 [.ref (z + v0)] G u (tc_po r G ur) := by
  unfold fn_X11_over at h
  refine tc_C.of (by decide) (Nat.le_of_ble_eq_true rfl) fun p e s m args below meth c => ?_
  show tc_R p l e { frames := 5, cells := 0, slots := 0, locals := 123 } s m args below meth c z D cX11_over RX11 1 (some .int) 0 0 (tc_po r G ur) 0 0 G u 0 [(0, .ref (z + v0))] []
  refine tc_aload_n 0 rfl dX11_over_0 ?_
  refine tc_getp hW iv0 fl_X11_73 dX11_over_1 rfl ?_
  refine tc_aload_n 0 rfl dX11_over_4 ?_
  refine tc_getp hW iv0 fl_X11_12 dX11_over_5 rfl ?_
  refine tc_getp hW (hW.p iv0 0 rfl) fl_X11_113 dX11_over_8 rfl ?_
  obtain ⟨x1, u2, hq3, h⟩ := tc_b_ex h
  refine tc_callVv [.ref (z + (tc_p G (tc_p G v0 0) 0))] dX11_over_11 (hW.p iv0 8 rfl).1 (ct_X0_takeSettings hW (hW.p iv0 8 rfl) (hW.p (hW.p iv0 0 rfl) 0 rfl) hq3) ml_X11_264 mw_X0_takeSettings mv_X0_takeSettings ⟨Nat.le_of_ble_eq_true rfl, Nat.le_of_ble_eq_true rfl⟩ rfl rfl (Nat.le_of_ble_eq_true rfl) ⟨Nat.le_refl _, Nat.le_refl _⟩ (by decide) ?_
  refine tc_aload_n 0 rfl dX11_over_14 ?_
  refine tc_getp hW iv0 fl_X11_73 dX11_over_15 rfl ?_
  refine tc_aload_n 0 rfl dX11_over_18 ?_
  refine tc_getp hW iv0 fl_X11_12 dX11_over_19 rfl ?_
  refine tc_getp hW (hW.p iv0 0 rfl) fl_X11_113 dX11_over_22 rfl ?_
  refine tc_iconst (v := (-1)) (by decide) dX11_over_25 ?_
  refine tc_bipush (v := 68) (by decide) dX11_over_26 ?_
  obtain ⟨x4, u5, hq6, h⟩ := tc_b_ex h
  refine tc_callVi [.ref (z + (tc_p G (tc_p G v0 0) 0)), .int (-1), .int 68] dX11_over_28 (hW.p iv0 8 rfl).1 (ct_X0_leftOut hW (hW.p iv0 8 rfl) (hW.p (hW.p iv0 0 rfl) 0 rfl) hq6) ml_X11_271 mw_X0_leftOut mv_X0_leftOut ⟨Nat.le_of_ble_eq_true rfl, Nat.le_of_ble_eq_true rfl⟩ rfl rfl (Nat.le_of_ble_eq_true rfl) ⟨Nat.le_refl _, Nat.le_refl _⟩ (by decide) ?_
  cases h
  exact tc_ireturn rfl dX11_over_31 rfl rfl ⟨rfl, rfl, rfl⟩
set_option maxRecDepth 100000 in
set_option maxHeartbeats 4000000 in
theorem ct_X11_least {l : Launch} {z : Nat} {D : tc_D} {G : tc_G} (hW : tc_W G) {v0 : Nat} {v1 : Int32} {u : tc_S} {r : Int32} {ur : tc_S} (iv0 : tc_is G v0 11) (h : fn_X11_least G v0 v1 u = some (r, ur)) : tc_C l z D yX11_least cX11_least 2 (some .int) 7 169 0 0 [.ref (z + v0), .int v1] G u (tc_po r G ur) := by
  unfold fn_X11_least at h
  refine tc_C.of (by decide) (Nat.le_of_ble_eq_true rfl) fun p e s m args below meth c => ?_
  show tc_R p l e { frames := 7, cells := 0, slots := 0, locals := 169 } s m args below meth c z D cX11_least RX11 2 (some .int) 0 0 (tc_po r G ur) 0 0 G u 0 [(0, .ref (z + v0)), (1, .int v1)] []
  refine tc_aload_n 0 rfl dX11_least_0 ?_
  refine tc_getp hW iv0 fl_X11_73 dX11_least_1 rfl ?_
  refine tc_aload_n 0 rfl dX11_least_4 ?_
  refine tc_getp hW iv0 fl_X11_12 dX11_least_5 rfl ?_
  refine tc_getp hW (hW.p iv0 0 rfl) fl_X11_113 dX11_least_8 rfl ?_
  refine tc_iload_n 1 rfl dX11_least_11 ?_
  obtain ⟨x1, u2, hq3, h⟩ := tc_b_ex h
  refine tc_callVi [.ref (z + (tc_p G (tc_p G v0 0) 0)), .int v1] dX11_least_12 (hW.p iv0 8 rfl).1 (ct_X0_leastOf hW (hW.p iv0 8 rfl) (hW.p (hW.p iv0 0 rfl) 0 rfl) hq3) ml_X11_274 mw_X0_leastOf mv_X0_leastOf ⟨Nat.le_of_ble_eq_true rfl, Nat.le_of_ble_eq_true rfl⟩ rfl rfl (Nat.le_of_ble_eq_true rfl) ⟨Nat.le_refl _, Nat.le_refl _⟩ (by decide) ?_
  cases h
  exact tc_ireturn rfl dX11_least_15 rfl rfl ⟨rfl, rfl, rfl⟩
set_option maxRecDepth 100000 in
set_option maxHeartbeats 4000000 in
theorem sb_X11_key_54 {p : Program} {l : Launch} {e : Env} {s : State} {m : MethodId} {args : Array Value} {below : List Frame} {meth : Method} {c : Code} {z : Nat} {D : tc_D} {G : tc_G} (hW : tc_W G) (r : Int32) (ur : tc_S) (s0 : Int32) (u : tc_S) (h : bl_X11_key_54 G s0 u = some (r, ur)) : tc_R p l e { frames := 1, cells := 0, slots := 0, locals := 25 } s m args below meth c z D cX11_key RX11 3 (some .int) 0 0 (tc_po r G ur) 0 0 G u 54 [] [.int s0] := by
  unfold bl_X11_key_54 at h
  cases h
  exact tc_ireturn rfl dX11_key_54 rfl rfl ⟨rfl, rfl, rfl⟩
set_option maxRecDepth 100000 in
set_option maxHeartbeats 4000000 in
theorem sb_X11_key_30 {p : Program} {l : Launch} {e : Env} {s : State} {m : MethodId} {args : Array Value} {below : List Frame} {meth : Method} {c : Code} {z : Nat} {D : tc_D} {G : tc_G} (hW : tc_W G) (r : Int32) (ur : tc_S) (u : tc_S) (h : bl_X11_key_30 G  u = some (r, ur)) : tc_R p l e { frames := 1, cells := 0, slots := 0, locals := 25 } s m args below meth c z D cX11_key RX11 3 (some .int) 0 0 (tc_po r G ur) 0 0 G u 30 [] [] := by
  unfold bl_X11_key_30 at h
  refine tc_iconst (v := (-1)) (by decide) dX11_key_30 ?_
  refine tc_goto 54 dX11_key_31 (by decide) ?_
  exact sb_X11_key_54 hW r ur  (-1) u  h
set_option maxRecDepth 100000 in
set_option maxHeartbeats 4000000 in
theorem ct_X11_key {l : Launch} {z : Nat} {D : tc_D} {G : tc_G} (hW : tc_W G) {v0 : Nat} {v1 : Int32} {v2 : Int32} {u : tc_S} {r : Int32} {ur : tc_S} (iv0 : tc_is G v0 11) (h : fn_X11_key G v0 v1 v2 u = some (r, ur)) : tc_C l z D yX11_key cX11_key 3 (some .int) 1 25 0 0 [.ref (z + v0), .int v1, .int v2] G u (tc_po r G ur) := by
  unfold fn_X11_key at h
  refine tc_C.of (by decide) (Nat.le_of_ble_eq_true rfl) fun p e s m args below meth c => ?_
  show tc_R p l e { frames := 1, cells := 0, slots := 0, locals := 25 } s m args below meth c z D cX11_key RX11 3 (some .int) 0 0 (tc_po r G ur) 0 0 G u 0 [(0, .ref (z + v0)), (1, .int v1), (2, .int v2)] []
  refine tc_aload_n 0 rfl dX11_key_0 ?_
  refine tc_getp hW iv0 fl_X11_48 dX11_key_1 rfl ?_
  refine tc_aload_n 0 rfl dX11_key_4 ?_
  refine tc_getp hW iv0 fl_X11_12 dX11_key_5 rfl ?_
  refine tc_getp hW (hW.p iv0 0 rfl) fl_X11_113 dX11_key_8 rfl ?_
  refine tc_iload_n 2 rfl dX11_key_11 ?_
  obtain ⟨x1, u2, hq3, h⟩ := tc_b_ex h
  refine tc_callVv [.ref (z + (tc_p G (tc_p G v0 0) 0)), .int v2] dX11_key_12 (hW.p iv0 5 rfl).1 (ct_X7_gather hW (hW.p iv0 5 rfl) (hW.p (hW.p iv0 0 rfl) 0 rfl) hq3) ml_X11_277 mw_X7_gather mv_X7_gather ⟨Nat.le_of_ble_eq_true rfl, Nat.le_of_ble_eq_true rfl⟩ rfl rfl (Nat.le_of_ble_eq_true rfl) ⟨Nat.le_refl _, Nat.le_refl _⟩ (by decide) ?_
  refine tc_iload_n 1 rfl dX11_key_15 ?_
  refine tc_if_lt 30 dX11_key_16 (by decide) (fun hc4 => ?_) (fun hc4 => ?_)
  · rw [if_pos hc4] at h
    refine tc_lvs [] rfl ?_
    exact sb_X11_key_30 hW r ur   u2  h
  · rw [if_neg hc4] at h
    refine tc_iload_n 1 rfl dX11_key_19 ?_
    refine tc_aload_n 0 rfl dX11_key_20 ?_
    refine tc_getp hW iv0 fl_X11_48 dX11_key_21 rfl ?_
    refine tc_geti (hW.p iv0 5 rfl).1 fl_X11_281 dX11_key_24 ?_
    refine tc_icmp_lt 34 dX11_key_27 (by decide) (fun hc5 => ?_) (fun hc5 => ?_)
    · rw [if_pos hc5] at h
      refine tc_aload_n 0 rfl dX11_key_34 ?_
      refine tc_getp hW iv0 fl_X11_12 dX11_key_35 rfl ?_
      refine tc_getp hW (hW.p iv0 0 rfl) fl_X11_113 dX11_key_38 rfl ?_
      refine tc_getp hW (hW.p (hW.p iv0 0 rfl) 0 rfl) fl_X11_171 dX11_key_41 rfl ?_
      refine tc_aload_n 0 rfl dX11_key_44 ?_
      refine tc_getp hW iv0 fl_X11_48 dX11_key_45 rfl ?_
      refine tc_getp hW (hW.p iv0 5 rfl) fl_X11_284 dX11_key_48 rfl ?_
      refine tc_iload_n 1 rfl dX11_key_51 ?_
      obtain ⟨bx6, x6, ex6, h⟩ := tc_ld_ex h
      refine tc_iald (hW.p (hW.p iv0 5 rfl) 0 rfl).1 bx6 dX11_key_52 ?_
      refine tc_nm ex6 ?_
      obtain ⟨bx7, x7, ex7, h⟩ := tc_ld_ex h
      refine tc_iald (hW.p (hW.p (hW.p iv0 0 rfl) 0 rfl) 3 rfl).1 bx7 dX11_key_53 ?_
      refine tc_nm ex7 ?_
      refine tc_lvs [] rfl ?_
      exact sb_X11_key_54 hW r ur  x7 u2  h
    · rw [if_neg hc5] at h
      refine tc_lvs [] rfl ?_
      exact sb_X11_key_30 hW r ur   u2  h
set_option maxRecDepth 100000 in
set_option maxHeartbeats 4000000 in
theorem ct_X11_tellOfSettings {l : Launch} {z : Nat} {D : tc_D} {G : tc_G} (hW : tc_W G) {v0 : Nat} {v1 : Int32} {u : tc_S} {r : Int32} {ur : tc_S} (iv0 : tc_is G v0 9) (h : fn_X11_tellOfSettings G v0 v1 u = some (r, ur)) : tc_C l z D yX11_tellOfSettings cX11_tellOfSettings 3 (some .int) 2 44 0 0 [.ref (z + v0), .int v1] G u (tc_po r G ur) := by
  unfold fn_X11_tellOfSettings at h
  refine tc_C.of (by decide) (Nat.le_of_ble_eq_true rfl) fun p e s m args below meth c => ?_
  show tc_R p l e { frames := 2, cells := 0, slots := 0, locals := 44 } s m args below meth c z D cX11_tellOfSettings RX11 3 (some .int) 0 0 (tc_po r G ur) 0 0 G u 0 [(0, .ref (z + v0)), (1, .int v1)] []
  refine tc_aload_n 0 rfl dX11_tellOfSettings_0 ?_
  refine tc_getp hW iv0 fl_X11_213 dX11_tellOfSettings_1 rfl ?_
  refine tc_astore_n [(2, .ref (z + (tc_p G v0 0))), (0, .ref (z + v0)), (1, .int v1)] dX11_tellOfSettings_4 (by decide) rfl ?_
  refine tc_iload_n 2 rfl dX11_tellOfSettings_5 ?_
  by_cases hc1 : v1.toInt = 1
  · rw [if_pos hc1] at h
    refine tc_tswIn 72 dX11_tellOfSettings_6 (by rw [hc1]; decide) (by rw [hc1]; decide) (by rw [hc1]; rfl) (by decide) ?_
    refine tc_aload_n 0 rfl dX11_tellOfSettings_72 ?_
    refine tc_geti (hW.p iv0 0 rfl).1 fl_X11_236 dX11_tellOfSettings_73 ?_
    cases h
    exact tc_ireturn rfl dX11_tellOfSettings_76 rfl rfl ⟨rfl, rfl, rfl⟩
  rw [if_neg hc1] at h
  by_cases hc2 : v1.toInt = 2
  · rw [if_pos hc2] at h
    refine tc_tswIn 77 dX11_tellOfSettings_6 (by rw [hc2]; decide) (by rw [hc2]; decide) (by rw [hc2]; rfl) (by decide) ?_
    refine tc_aload_n 0 rfl dX11_tellOfSettings_77 ?_
    refine tc_geti (hW.p iv0 0 rfl).1 fl_X11_255 dX11_tellOfSettings_78 ?_
    cases h
    exact tc_ireturn rfl dX11_tellOfSettings_81 rfl rfl ⟨rfl, rfl, rfl⟩
  rw [if_neg hc2] at h
  by_cases hc3 : v1.toInt = 3
  · rw [if_pos hc3] at h
    refine tc_tswIn 82 dX11_tellOfSettings_6 (by rw [hc3]; decide) (by rw [hc3]; decide) (by rw [hc3]; rfl) (by decide) ?_
    refine tc_aload_n 0 rfl dX11_tellOfSettings_82 ?_
    refine tc_geti (hW.p iv0 0 rfl).1 fl_X11_342 dX11_tellOfSettings_83 ?_
    cases h
    exact tc_ireturn rfl dX11_tellOfSettings_86 rfl rfl ⟨rfl, rfl, rfl⟩
  rw [if_neg hc3] at h
  by_cases hc4 : v1.toInt = 4
  · rw [if_pos hc4] at h
    refine tc_tswIn 87 dX11_tellOfSettings_6 (by rw [hc4]; decide) (by rw [hc4]; decide) (by rw [hc4]; rfl) (by decide) ?_
    refine tc_aload_n 1 rfl dX11_tellOfSettings_87 ?_
    refine tc_geti iv0.1 fl_X11_345 dX11_tellOfSettings_88 ?_
    cases h
    exact tc_ireturn rfl dX11_tellOfSettings_91 rfl rfl ⟨rfl, rfl, rfl⟩
  rw [if_neg hc4] at h
  by_cases hc5 : v1.toInt = 5
  · rw [if_pos hc5] at h
    refine tc_tswIn 92 dX11_tellOfSettings_6 (by rw [hc5]; decide) (by rw [hc5]; decide) (by rw [hc5]; rfl) (by decide) ?_
    refine tc_aload_n 0 rfl dX11_tellOfSettings_92 ?_
    refine tc_geti (hW.p iv0 0 rfl).1 fl_X11_236 dX11_tellOfSettings_93 ?_
    refine tc_aload_n 0 rfl dX11_tellOfSettings_96 ?_
    refine tc_geti (hW.p iv0 0 rfl).1 fl_X11_255 dX11_tellOfSettings_97 ?_
    refine tc_imul dX11_tellOfSettings_100 ?_
    refine tc_aload_n 1 rfl dX11_tellOfSettings_101 ?_
    obtain ⟨x6, u7, hq8, h⟩ := tc_b_ex h
    refine tc_callVi [] dX11_tellOfSettings_102 iv0.1 (ct_X9_entries hW iv0 hq8) ml_X11_120 mw_X9_entries mv_X9_entries ⟨Nat.le_of_ble_eq_true rfl, Nat.le_of_ble_eq_true rfl⟩ rfl rfl (Nat.le_of_ble_eq_true rfl) ⟨Nat.le_refl _, Nat.le_refl _⟩ (by decide) ?_
    refine tc_aload_n 1 rfl dX11_tellOfSettings_105 ?_
    refine tc_geti iv0.1 fl_X11_345 dX11_tellOfSettings_106 ?_
    refine tc_isub dX11_tellOfSettings_109 ?_
    refine tc_isub dX11_tellOfSettings_110 ?_
    cases h
    exact tc_ireturn rfl dX11_tellOfSettings_111 rfl rfl ⟨rfl, rfl, rfl⟩
  rw [if_neg hc5] at h
  by_cases hc9 : v1.toInt = 6
  · rw [if_pos hc9] at h
    refine tc_tswIn 112 dX11_tellOfSettings_6 (by rw [hc9]; decide) (by rw [hc9]; decide) (by rw [hc9]; rfl) (by decide) ?_
    refine tc_aload_n 0 rfl dX11_tellOfSettings_112 ?_
    refine tc_geti (hW.p iv0 0 rfl).1 fl_X11_348 dX11_tellOfSettings_113 ?_
    cases h
    exact tc_ireturn rfl dX11_tellOfSettings_116 rfl rfl ⟨rfl, rfl, rfl⟩
  rw [if_neg hc9] at h
  by_cases hc10 : v1.toInt = 7
  · rw [if_pos hc10] at h
    refine tc_tswIn 117 dX11_tellOfSettings_6 (by rw [hc10]; decide) (by rw [hc10]; decide) (by rw [hc10]; rfl) (by decide) ?_
    refine tc_aload_n 0 rfl dX11_tellOfSettings_117 ?_
    refine tc_geti (hW.p iv0 0 rfl).1 fl_X11_351 dX11_tellOfSettings_118 ?_
    cases h
    exact tc_ireturn rfl dX11_tellOfSettings_121 rfl rfl ⟨rfl, rfl, rfl⟩
  rw [if_neg hc10] at h
  by_cases hc11 : v1.toInt = 8
  · rw [if_pos hc11] at h
    refine tc_tswIn 122 dX11_tellOfSettings_6 (by rw [hc11]; decide) (by rw [hc11]; decide) (by rw [hc11]; rfl) (by decide) ?_
    refine tc_aload_n 0 rfl dX11_tellOfSettings_122 ?_
    refine tc_geti (hW.p iv0 0 rfl).1 fl_X11_354 dX11_tellOfSettings_123 ?_
    cases h
    exact tc_ireturn rfl dX11_tellOfSettings_126 rfl rfl ⟨rfl, rfl, rfl⟩
  rw [if_neg hc11] at h
  by_cases hc12 : v1.toInt = 9
  · rw [if_pos hc12] at h
    refine tc_tswIn 127 dX11_tellOfSettings_6 (by rw [hc12]; decide) (by rw [hc12]; decide) (by rw [hc12]; rfl) (by decide) ?_
    refine tc_aload_n 0 rfl dX11_tellOfSettings_127 ?_
    refine tc_geti (hW.p iv0 0 rfl).1 fl_X11_357 dX11_tellOfSettings_128 ?_
    cases h
    exact tc_ireturn rfl dX11_tellOfSettings_131 rfl rfl ⟨rfl, rfl, rfl⟩
  rw [if_neg hc12] at h
  by_cases hc13 : v1.toInt = 10
  · rw [if_pos hc13] at h
    refine tc_tswIn 132 dX11_tellOfSettings_6 (by rw [hc13]; decide) (by rw [hc13]; decide) (by rw [hc13]; rfl) (by decide) ?_
    refine tc_aload_n 0 rfl dX11_tellOfSettings_132 ?_
    refine tc_geti (hW.p iv0 0 rfl).1 fl_X11_360 dX11_tellOfSettings_133 ?_
    cases h
    exact tc_ireturn rfl dX11_tellOfSettings_136 rfl rfl ⟨rfl, rfl, rfl⟩
  rw [if_neg hc13] at h
  by_cases hc14 : v1.toInt = 11
  · rw [if_pos hc14] at h
    refine tc_tswIn 137 dX11_tellOfSettings_6 (by rw [hc14]; decide) (by rw [hc14]; decide) (by rw [hc14]; rfl) (by decide) ?_
    refine tc_aload_n 0 rfl dX11_tellOfSettings_137 ?_
    refine tc_geti (hW.p iv0 0 rfl).1 fl_X11_363 dX11_tellOfSettings_138 ?_
    cases h
    exact tc_ireturn rfl dX11_tellOfSettings_141 rfl rfl ⟨rfl, rfl, rfl⟩
  rw [if_neg hc14] at h
  by_cases hc15 : v1.toInt = 12
  · rw [if_pos hc15] at h
    refine tc_tswIn 142 dX11_tellOfSettings_6 (by rw [hc15]; decide) (by rw [hc15]; decide) (by rw [hc15]; rfl) (by decide) ?_
    refine tc_aload_n 0 rfl dX11_tellOfSettings_142 ?_
    refine tc_geti (hW.p iv0 0 rfl).1 fl_X11_366 dX11_tellOfSettings_143 ?_
    cases h
    exact tc_ireturn rfl dX11_tellOfSettings_146 rfl rfl ⟨rfl, rfl, rfl⟩
  rw [if_neg hc15] at h
  by_cases hc16 : v1.toInt = 13
  · rw [if_pos hc16] at h
    refine tc_tswIn 147 dX11_tellOfSettings_6 (by rw [hc16]; decide) (by rw [hc16]; decide) (by rw [hc16]; rfl) (by decide) ?_
    refine tc_aload_n 0 rfl dX11_tellOfSettings_147 ?_
    refine tc_geti (hW.p iv0 0 rfl).1 fl_X11_369 dX11_tellOfSettings_148 ?_
    cases h
    exact tc_ireturn rfl dX11_tellOfSettings_151 rfl rfl ⟨rfl, rfl, rfl⟩
  rw [if_neg hc16] at h
  have sw17 : v1.toInt < 1 ∨ 13 < v1.toInt := by omega
  refine tc_tswOut 152 dX11_tellOfSettings_6 sw17 (by decide) ?_
  refine tc_iconst (v := (-1)) (by decide) dX11_tellOfSettings_152 ?_
  cases h
  exact tc_ireturn rfl dX11_tellOfSettings_153 rfl rfl ⟨rfl, rfl, rfl⟩
set_option maxRecDepth 100000 in
set_option maxHeartbeats 4000000 in
theorem sb_X11_tell_17 {p : Program} {l : Launch} {e : Env} {s : State} {m : MethodId} {args : Array Value} {below : List Frame} {meth : Method} {c : Code} {z : Nat} {D : tc_D} {G : tc_G} (hW : tc_W G) (r : Int32) (ur : tc_S) (v0 : Nat) (v1 : Nat) (v2 : Int32) (u : tc_S) (iv0 : tc_is G v0 11) (iv1 : tc_is G v1 9) (h : bl_X11_tell_17 G v0 v1 v2 u = some (r, ur)) : tc_R p l e { frames := 3, cells := 0, slots := 0, locals := 68 } s m args below meth c z D cX11_tell RX11 3 (some .int) 0 0 (tc_po r G ur) 0 0 G u 17 [(0, .ref (z + v0)), (1, .ref (z + v1)), (2, .int v2)] [] := by
  unfold bl_X11_tell_17 at h
  refine tc_iload_n 2 rfl dX11_tell_17 ?_
  by_cases hc1 : v2.toInt = 0
  · rw [if_pos hc1] at h
    refine tc_tswIn 136 dX11_tell_18 (by rw [hc1]; decide) (by rw [hc1]; decide) (by rw [hc1]; rfl) (by decide) ?_
    refine tc_aload_n 1 rfl dX11_tell_136 ?_
    obtain ⟨x2, u3, hq4, h⟩ := tc_b_ex h
    refine tc_callVi [] dX11_tell_137 iv1.1 (ct_X9_entries hW iv1 hq4) ml_X11_120 mw_X9_entries mv_X9_entries ⟨Nat.le_of_ble_eq_true rfl, Nat.le_of_ble_eq_true rfl⟩ rfl rfl (Nat.le_of_ble_eq_true rfl) ⟨Nat.le_refl _, Nat.le_refl _⟩ (by decide) ?_
    cases h
    exact tc_ireturn rfl dX11_tell_140 rfl rfl ⟨rfl, rfl, rfl⟩
  rw [if_neg hc1] at h
  by_cases hc5 : v2.toInt = 1
  · rw [if_pos hc5] at h
    refine tc_tswIn 230 dX11_tell_18 (by rw [hc5]; decide) (by rw [hc5]; decide) (by rw [hc5]; rfl) (by decide) ?_
    refine tc_iconst (v := (-1)) (by decide) dX11_tell_230 ?_
    cases h
    exact tc_ireturn rfl dX11_tell_231 rfl rfl ⟨rfl, rfl, rfl⟩
  rw [if_neg hc5] at h
  by_cases hc6 : v2.toInt = 2
  · rw [if_pos hc6] at h
    refine tc_tswIn 230 dX11_tell_18 (by rw [hc6]; decide) (by rw [hc6]; decide) (by rw [hc6]; rfl) (by decide) ?_
    refine tc_iconst (v := (-1)) (by decide) dX11_tell_230 ?_
    cases h
    exact tc_ireturn rfl dX11_tell_231 rfl rfl ⟨rfl, rfl, rfl⟩
  rw [if_neg hc6] at h
  by_cases hc7 : v2.toInt = 3
  · rw [if_pos hc7] at h
    refine tc_tswIn 230 dX11_tell_18 (by rw [hc7]; decide) (by rw [hc7]; decide) (by rw [hc7]; rfl) (by decide) ?_
    refine tc_iconst (v := (-1)) (by decide) dX11_tell_230 ?_
    cases h
    exact tc_ireturn rfl dX11_tell_231 rfl rfl ⟨rfl, rfl, rfl⟩
  rw [if_neg hc7] at h
  by_cases hc8 : v2.toInt = 4
  · rw [if_pos hc8] at h
    refine tc_tswIn 230 dX11_tell_18 (by rw [hc8]; decide) (by rw [hc8]; decide) (by rw [hc8]; rfl) (by decide) ?_
    refine tc_iconst (v := (-1)) (by decide) dX11_tell_230 ?_
    cases h
    exact tc_ireturn rfl dX11_tell_231 rfl rfl ⟨rfl, rfl, rfl⟩
  rw [if_neg hc8] at h
  by_cases hc9 : v2.toInt = 5
  · rw [if_pos hc9] at h
    refine tc_tswIn 230 dX11_tell_18 (by rw [hc9]; decide) (by rw [hc9]; decide) (by rw [hc9]; rfl) (by decide) ?_
    refine tc_iconst (v := (-1)) (by decide) dX11_tell_230 ?_
    cases h
    exact tc_ireturn rfl dX11_tell_231 rfl rfl ⟨rfl, rfl, rfl⟩
  rw [if_neg hc9] at h
  by_cases hc10 : v2.toInt = 6
  · rw [if_pos hc10] at h
    refine tc_tswIn 230 dX11_tell_18 (by rw [hc10]; decide) (by rw [hc10]; decide) (by rw [hc10]; rfl) (by decide) ?_
    refine tc_iconst (v := (-1)) (by decide) dX11_tell_230 ?_
    cases h
    exact tc_ireturn rfl dX11_tell_231 rfl rfl ⟨rfl, rfl, rfl⟩
  rw [if_neg hc10] at h
  by_cases hc11 : v2.toInt = 7
  · rw [if_pos hc11] at h
    refine tc_tswIn 230 dX11_tell_18 (by rw [hc11]; decide) (by rw [hc11]; decide) (by rw [hc11]; rfl) (by decide) ?_
    refine tc_iconst (v := (-1)) (by decide) dX11_tell_230 ?_
    cases h
    exact tc_ireturn rfl dX11_tell_231 rfl rfl ⟨rfl, rfl, rfl⟩
  rw [if_neg hc11] at h
  by_cases hc12 : v2.toInt = 8
  · rw [if_pos hc12] at h
    refine tc_tswIn 230 dX11_tell_18 (by rw [hc12]; decide) (by rw [hc12]; decide) (by rw [hc12]; rfl) (by decide) ?_
    refine tc_iconst (v := (-1)) (by decide) dX11_tell_230 ?_
    cases h
    exact tc_ireturn rfl dX11_tell_231 rfl rfl ⟨rfl, rfl, rfl⟩
  rw [if_neg hc12] at h
  by_cases hc13 : v2.toInt = 9
  · rw [if_pos hc13] at h
    refine tc_tswIn 230 dX11_tell_18 (by rw [hc13]; decide) (by rw [hc13]; decide) (by rw [hc13]; rfl) (by decide) ?_
    refine tc_iconst (v := (-1)) (by decide) dX11_tell_230 ?_
    cases h
    exact tc_ireturn rfl dX11_tell_231 rfl rfl ⟨rfl, rfl, rfl⟩
  rw [if_neg hc13] at h
  by_cases hc14 : v2.toInt = 10
  · rw [if_pos hc14] at h
    refine tc_tswIn 230 dX11_tell_18 (by rw [hc14]; decide) (by rw [hc14]; decide) (by rw [hc14]; rfl) (by decide) ?_
    refine tc_iconst (v := (-1)) (by decide) dX11_tell_230 ?_
    cases h
    exact tc_ireturn rfl dX11_tell_231 rfl rfl ⟨rfl, rfl, rfl⟩
  rw [if_neg hc14] at h
  by_cases hc15 : v2.toInt = 11
  · rw [if_pos hc15] at h
    refine tc_tswIn 230 dX11_tell_18 (by rw [hc15]; decide) (by rw [hc15]; decide) (by rw [hc15]; rfl) (by decide) ?_
    refine tc_iconst (v := (-1)) (by decide) dX11_tell_230 ?_
    cases h
    exact tc_ireturn rfl dX11_tell_231 rfl rfl ⟨rfl, rfl, rfl⟩
  rw [if_neg hc15] at h
  by_cases hc16 : v2.toInt = 12
  · rw [if_pos hc16] at h
    refine tc_tswIn 230 dX11_tell_18 (by rw [hc16]; decide) (by rw [hc16]; decide) (by rw [hc16]; rfl) (by decide) ?_
    refine tc_iconst (v := (-1)) (by decide) dX11_tell_230 ?_
    cases h
    exact tc_ireturn rfl dX11_tell_231 rfl rfl ⟨rfl, rfl, rfl⟩
  rw [if_neg hc16] at h
  by_cases hc17 : v2.toInt = 13
  · rw [if_pos hc17] at h
    refine tc_tswIn 230 dX11_tell_18 (by rw [hc17]; decide) (by rw [hc17]; decide) (by rw [hc17]; rfl) (by decide) ?_
    refine tc_iconst (v := (-1)) (by decide) dX11_tell_230 ?_
    cases h
    exact tc_ireturn rfl dX11_tell_231 rfl rfl ⟨rfl, rfl, rfl⟩
  rw [if_neg hc17] at h
  by_cases hc18 : v2.toInt = 14
  · rw [if_pos hc18] at h
    refine tc_tswIn 141 dX11_tell_18 (by rw [hc18]; decide) (by rw [hc18]; decide) (by rw [hc18]; rfl) (by decide) ?_
    refine tc_aload_n 1 rfl dX11_tell_141 ?_
    refine tc_geti iv1.1 fl_X11_306 dX11_tell_142 ?_
    cases h
    exact tc_ireturn rfl dX11_tell_145 rfl rfl ⟨rfl, rfl, rfl⟩
  rw [if_neg hc18] at h
  by_cases hc19 : v2.toInt = 15
  · rw [if_pos hc19] at h
    refine tc_tswIn 146 dX11_tell_18 (by rw [hc19]; decide) (by rw [hc19]; decide) (by rw [hc19]; rfl) (by decide) ?_
    refine tc_aload_n 1 rfl dX11_tell_146 ?_
    refine tc_geti iv1.1 fl_X11_309 dX11_tell_147 ?_
    cases h
    exact tc_ireturn rfl dX11_tell_150 rfl rfl ⟨rfl, rfl, rfl⟩
  rw [if_neg hc19] at h
  by_cases hc20 : v2.toInt = 16
  · rw [if_pos hc20] at h
    refine tc_tswIn 151 dX11_tell_18 (by rw [hc20]; decide) (by rw [hc20]; decide) (by rw [hc20]; rfl) (by decide) ?_
    refine tc_aload_n 1 rfl dX11_tell_151 ?_
    refine tc_geti iv1.1 fl_X11_312 dX11_tell_152 ?_
    cases h
    exact tc_ireturn rfl dX11_tell_155 rfl rfl ⟨rfl, rfl, rfl⟩
  rw [if_neg hc20] at h
  by_cases hc21 : v2.toInt = 17
  · rw [if_pos hc21] at h
    refine tc_tswIn 156 dX11_tell_18 (by rw [hc21]; decide) (by rw [hc21]; decide) (by rw [hc21]; rfl) (by decide) ?_
    refine tc_aload_n 1 rfl dX11_tell_156 ?_
    refine tc_geti iv1.1 fl_X11_315 dX11_tell_157 ?_
    cases h
    exact tc_ireturn rfl dX11_tell_160 rfl rfl ⟨rfl, rfl, rfl⟩
  rw [if_neg hc21] at h
  by_cases hc22 : v2.toInt = 18
  · rw [if_pos hc22] at h
    refine tc_tswIn 161 dX11_tell_18 (by rw [hc22]; decide) (by rw [hc22]; decide) (by rw [hc22]; rfl) (by decide) ?_
    refine tc_aload_n 1 rfl dX11_tell_161 ?_
    obtain ⟨x23, u24, hq25, h⟩ := tc_b_ex h
    refine tc_callVi [] dX11_tell_162 iv1.1 (ct_X9_movedInAll hW iv1 hq25) ml_X11_318 mw_X9_movedInAll mv_X9_movedInAll ⟨Nat.le_of_ble_eq_true rfl, Nat.le_of_ble_eq_true rfl⟩ rfl rfl (Nat.le_of_ble_eq_true rfl) ⟨Nat.le_refl _, Nat.le_refl _⟩ (by decide) ?_
    cases h
    exact tc_ireturn rfl dX11_tell_165 rfl rfl ⟨rfl, rfl, rfl⟩
  rw [if_neg hc22] at h
  by_cases hc26 : v2.toInt = 19
  · rw [if_pos hc26] at h
    refine tc_tswIn 166 dX11_tell_18 (by rw [hc26]; decide) (by rw [hc26]; decide) (by rw [hc26]; rfl) (by decide) ?_
    refine tc_aload_n 1 rfl dX11_tell_166 ?_
    obtain ⟨x27, u28, hq29, h⟩ := tc_b_ex h
    refine tc_callVi [] dX11_tell_167 iv1.1 (ct_X9_movedMost hW iv1 hq29) ml_X11_321 mw_X9_movedMost mv_X9_movedMost ⟨Nat.le_of_ble_eq_true rfl, Nat.le_of_ble_eq_true rfl⟩ rfl rfl (Nat.le_of_ble_eq_true rfl) ⟨Nat.le_refl _, Nat.le_refl _⟩ (by decide) ?_
    cases h
    exact tc_ireturn rfl dX11_tell_170 rfl rfl ⟨rfl, rfl, rfl⟩
  rw [if_neg hc26] at h
  by_cases hc30 : v2.toInt = 20
  · rw [if_pos hc30] at h
    refine tc_tswIn 171 dX11_tell_18 (by rw [hc30]; decide) (by rw [hc30]; decide) (by rw [hc30]; rfl) (by decide) ?_
    refine tc_aload_n 1 rfl dX11_tell_171 ?_
    refine tc_geti iv1.1 fl_X11_135 dX11_tell_172 ?_
    cases h
    exact tc_ireturn rfl dX11_tell_175 rfl rfl ⟨rfl, rfl, rfl⟩
  rw [if_neg hc30] at h
  by_cases hc31 : v2.toInt = 21
  · rw [if_pos hc31] at h
    refine tc_tswIn 176 dX11_tell_18 (by rw [hc31]; decide) (by rw [hc31]; decide) (by rw [hc31]; rfl) (by decide) ?_
    refine tc_aload_n 1 rfl dX11_tell_176 ?_
    obtain ⟨x32, u33, hq34, h⟩ := tc_b_ex h
    refine tc_callVi [] dX11_tell_177 iv1.1 (ct_X9_readsMost hW iv1 hq34) ml_X11_324 mw_X9_readsMost mv_X9_readsMost ⟨Nat.le_of_ble_eq_true rfl, Nat.le_of_ble_eq_true rfl⟩ rfl rfl (Nat.le_of_ble_eq_true rfl) ⟨Nat.le_refl _, Nat.le_refl _⟩ (by decide) ?_
    cases h
    exact tc_ireturn rfl dX11_tell_180 rfl rfl ⟨rfl, rfl, rfl⟩
  rw [if_neg hc31] at h
  by_cases hc35 : v2.toInt = 22
  · rw [if_pos hc35] at h
    refine tc_tswIn 181 dX11_tell_18 (by rw [hc35]; decide) (by rw [hc35]; decide) (by rw [hc35]; rfl) (by decide) ?_
    refine tc_aload_n 1 rfl dX11_tell_181 ?_
    refine tc_geti iv1.1 fl_X11_327 dX11_tell_182 ?_
    cases h
    exact tc_ireturn rfl dX11_tell_185 rfl rfl ⟨rfl, rfl, rfl⟩
  rw [if_neg hc35] at h
  by_cases hc36 : v2.toInt = 23
  · rw [if_pos hc36] at h
    refine tc_tswIn 186 dX11_tell_18 (by rw [hc36]; decide) (by rw [hc36]; decide) (by rw [hc36]; rfl) (by decide) ?_
    refine tc_aload_n 0 rfl dX11_tell_186 ?_
    refine tc_getp hW iv0 fl_X11_64 dX11_tell_187 rfl ?_
    refine tc_aload_n 1 rfl dX11_tell_190 ?_
    obtain ⟨x37, u38, hq39, h⟩ := tc_b_ex h
    refine tc_callVi [.ref (z + v1)] dX11_tell_191 (hW.p iv0 7 rfl).1 (ct_X5_join hW (hW.p iv0 7 rfl) iv1 hq39) ml_X11_239 mw_X5_join mv_X5_join ⟨Nat.le_of_ble_eq_true rfl, Nat.le_of_ble_eq_true rfl⟩ rfl rfl (Nat.le_of_ble_eq_true rfl) ⟨Nat.le_refl _, Nat.le_refl _⟩ (by decide) ?_
    cases h
    exact tc_ireturn rfl dX11_tell_194 rfl rfl ⟨rfl, rfl, rfl⟩
  rw [if_neg hc36] at h
  by_cases hc40 : v2.toInt = 24
  · rw [if_pos hc40] at h
    refine tc_tswIn 195 dX11_tell_18 (by rw [hc40]; decide) (by rw [hc40]; decide) (by rw [hc40]; rfl) (by decide) ?_
    refine tc_aload_n 0 rfl dX11_tell_195 ?_
    refine tc_getp hW iv0 fl_X11_64 dX11_tell_196 rfl ?_
    refine tc_aload_n 1 rfl dX11_tell_199 ?_
    obtain ⟨x41, u42, hq43, h⟩ := tc_b_ex h
    refine tc_callVi [.ref (z + v1)] dX11_tell_200 (hW.p iv0 7 rfl).1 (ct_X5_join hW (hW.p iv0 7 rfl) iv1 hq43) ml_X11_239 mw_X5_join mv_X5_join ⟨Nat.le_of_ble_eq_true rfl, Nat.le_of_ble_eq_true rfl⟩ rfl rfl (Nat.le_of_ble_eq_true rfl) ⟨Nat.le_refl _, Nat.le_refl _⟩ (by decide) ?_
    refine tc_pop rfl dX11_tell_203 ?_
    refine tc_aload_n 0 rfl dX11_tell_204 ?_
    refine tc_getp hW iv0 fl_X11_64 dX11_tell_205 rfl ?_
    refine tc_aload_n 1 rfl dX11_tell_208 ?_
    refine tc_getp hW iv1 fl_X11_213 dX11_tell_209 rfl ?_
    refine tc_geti (hW.p iv1 0 rfl).1 fl_X11_236 dX11_tell_212 ?_
    obtain ⟨x44, u45, hq46, h⟩ := tc_b_ex h
    refine tc_callVi [.int (u42.1 (tc_p G v1 0) 0)] dX11_tell_215 (hW.p iv0 7 rfl).1 (ct_X5_tangled hW (hW.p iv0 7 rfl) hq46) ml_X11_330 mw_X5_tangled mv_X5_tangled ⟨Nat.le_of_ble_eq_true rfl, Nat.le_of_ble_eq_true rfl⟩ rfl rfl (Nat.le_of_ble_eq_true rfl) ⟨Nat.le_refl _, Nat.le_refl _⟩ (by decide) ?_
    cases h
    exact tc_ireturn rfl dX11_tell_218 rfl rfl ⟨rfl, rfl, rfl⟩
  rw [if_neg hc40] at h
  by_cases hc47 : v2.toInt = 25
  · rw [if_pos hc47] at h
    refine tc_tswIn 219 dX11_tell_18 (by rw [hc47]; decide) (by rw [hc47]; decide) (by rw [hc47]; rfl) (by decide) ?_
    refine tc_aload_n 1 rfl dX11_tell_219 ?_
    refine tc_getp hW iv1 fl_X11_213 dX11_tell_220 rfl ?_
    refine tc_getp hW (hW.p iv1 0 rfl) fl_X11_333 dX11_tell_223 rfl ?_
    refine tc_geti (hW.p (hW.p iv1 0 rfl) 11 rfl).1 fl_X11_337 dX11_tell_226 ?_
    cases h
    exact tc_ireturn rfl dX11_tell_229 rfl rfl ⟨rfl, rfl, rfl⟩
  rw [if_neg hc47] at h
  have sw48 : v2.toInt < 0 ∨ 25 < v2.toInt := by omega
  refine tc_tswOut 230 dX11_tell_18 sw48 (by decide) ?_
  refine tc_iconst (v := (-1)) (by decide) dX11_tell_230 ?_
  cases h
  exact tc_ireturn rfl dX11_tell_231 rfl rfl ⟨rfl, rfl, rfl⟩
set_option maxRecDepth 100000 in
set_option maxHeartbeats 4000000 in
theorem ct_X11_tell {l : Launch} {z : Nat} {D : tc_D} {G : tc_G} (hW : tc_W G) {v0 : Nat} {v1 : Nat} {v2 : Int32} {u : tc_S} {r : Int32} {ur : tc_S} (iv0 : tc_is G v0 11) (iv1 : tc_is G v1 9) (h : fn_X11_tell G v0 v1 v2 u = some (r, ur)) : tc_C l z D yX11_tell cX11_tell 3 (some .int) 3 68 0 0 [.ref (z + v0), .ref (z + v1), .int v2] G u (tc_po r G ur) := by
  unfold fn_X11_tell at h
  refine tc_C.of (by decide) (Nat.le_of_ble_eq_true rfl) fun p e s m args below meth c => ?_
  show tc_R p l e { frames := 3, cells := 0, slots := 0, locals := 68 } s m args below meth c z D cX11_tell RX11 3 (some .int) 0 0 (tc_po r G ur) 0 0 G u 0 [(0, .ref (z + v0)), (1, .ref (z + v1)), (2, .int v2)] []
  refine tc_iload_n 2 rfl dX11_tell_0 ?_
  refine tc_iconst (v := 1) (by decide) dX11_tell_1 ?_
  refine tc_icmp_lt 17 dX11_tell_2 (by decide) (fun hc49 => ?_) (fun hc49 => ?_)
  · rw [if_pos hc49] at h
    exact sb_X11_tell_17 hW r ur  v0 v1 v2 u iv0 iv1 h
  · rw [if_neg hc49] at h
    refine tc_iload_n 2 rfl dX11_tell_5 ?_
    refine tc_bipush (v := 13) (by decide) dX11_tell_6 ?_
    refine tc_icmp_gt 17 dX11_tell_8 (by decide) (fun hc50 => ?_) (fun hc50 => ?_)
    · rw [if_pos hc50] at h
      exact sb_X11_tell_17 hW r ur  v0 v1 v2 u iv0 iv1 h
    · rw [if_neg hc50] at h
      refine tc_aload_n 1 rfl dX11_tell_11 ?_
      refine tc_iload_n 2 rfl dX11_tell_12 ?_
      obtain ⟨x51, u52, hq53, h⟩ := tc_b_ex h
      refine tc_callSi [.ref (z + v1), .int v2] dX11_tell_13 (ct_X11_tellOfSettings hW iv1 hq53) ml_X11_303 mw_X11_tellOfSettings ms_X11_tellOfSettings ⟨Nat.le_of_ble_eq_true rfl, Nat.le_of_ble_eq_true rfl⟩ rfl rfl (Nat.le_of_ble_eq_true rfl) ⟨Nat.le_refl _, Nat.le_refl _⟩ ?_
      cases h
      exact tc_ireturn rfl dX11_tell_16 rfl rfl ⟨rfl, rfl, rfl⟩
set_option maxRecDepth 100000 in
set_option maxHeartbeats 4000000 in
theorem sb_X11_count_28 {p : Program} {l : Launch} {e : Env} {s : State} {m : MethodId} {args : Array Value} {below : List Frame} {meth : Method} {c : Code} {z : Nat} {D : tc_D} {G : tc_G} (hW : tc_W G) (r : Int32) (ur : tc_S) (s0 : Int32) (u : tc_S) (h : bl_X11_count_28 G s0 u = some (r, ur)) : tc_R p l e { frames := 4, cells := 0, slots := 0, locals := 90 } s m args below meth c z D cX11_count RX11 2 (some .int) 0 0 (tc_po r G ur) 0 0 G u 28 [] [.int s0] := by
  unfold bl_X11_count_28 at h
  cases h
  exact tc_ireturn rfl dX11_count_28 rfl rfl ⟨rfl, rfl, rfl⟩
set_option maxRecDepth 100000 in
set_option maxHeartbeats 4000000 in
theorem ct_X11_count {l : Launch} {z : Nat} {D : tc_D} {G : tc_G} (hW : tc_W G) {v0 : Nat} {v1 : Int32} {u : tc_S} {r : Int32} {ur : tc_S} (iv0 : tc_is G v0 11) (h : fn_X11_count G v0 v1 u = some (r, ur)) : tc_C l z D yX11_count cX11_count 2 (some .int) 4 90 0 0 [.ref (z + v0), .int v1] G u (tc_po r G ur) := by
  unfold fn_X11_count at h
  refine tc_C.of (by decide) (Nat.le_of_ble_eq_true rfl) fun p e s m args below meth c => ?_
  show tc_R p l e { frames := 4, cells := 0, slots := 0, locals := 90 } s m args below meth c z D cX11_count RX11 2 (some .int) 0 0 (tc_po r G ur) 0 0 G u 0 [(0, .ref (z + v0)), (1, .int v1)] []
  refine tc_iload_n 1 rfl dX11_count_0 ?_
  refine tc_bipush (v := 26) (by decide) dX11_count_1 ?_
  refine tc_icmp_ne 16 dX11_count_3 (by decide) (fun hc1 => ?_) (fun hc1 => ?_)
  · rw [if_neg hc1] at h
    refine tc_aload_n 0 rfl dX11_count_16 ?_
    refine tc_aload_n 0 rfl dX11_count_17 ?_
    refine tc_getp hW iv0 fl_X11_12 dX11_count_18 rfl ?_
    refine tc_getp hW (hW.p iv0 0 rfl) fl_X11_113 dX11_count_21 rfl ?_
    refine tc_iload_n 1 rfl dX11_count_24 ?_
    obtain ⟨x2, u3, hq4, h⟩ := tc_b_ex h
    refine tc_callVi [.ref (z + (tc_p G (tc_p G v0 0) 0)), .int v1] dX11_count_25 iv0.1 (ct_X11_tell hW iv0 (hW.p (hW.p iv0 0 rfl) 0 rfl) hq4) ml_X11_287 mw_X11_tell mv_X11_tell ⟨Nat.le_of_ble_eq_true rfl, Nat.le_of_ble_eq_true rfl⟩ rfl rfl (Nat.le_of_ble_eq_true rfl) ⟨Nat.le_refl _, Nat.le_refl _⟩ (by decide) ?_
    refine tc_lvs [] rfl ?_
    exact sb_X11_count_28 hW r ur  x2 u3  h
  · rw [if_pos hc1] at h
    refine tc_aload_n 0 rfl dX11_count_6 ?_
    refine tc_getp hW iv0 fl_X11_12 dX11_count_7 rfl ?_
    refine tc_geti (hW.p iv0 0 rfl).1 fl_X11_90 dX11_count_10 ?_
    refine tc_goto 28 dX11_count_13 (by decide) ?_
    refine tc_lvs [] rfl ?_
    exact sb_X11_count_28 hW r ur  (u.1 (tc_p G v0 0) 2) u  h
set_option maxRecDepth 100000 in
set_option maxHeartbeats 4000000 in
theorem sb_X11_filled_17 {p : Program} {l : Launch} {e : Env} {s : State} {m : MethodId} {args : Array Value} {below : List Frame} {meth : Method} {c : Code} {z : Nat} {D : tc_D} {G : tc_G} (hW : tc_W G) (r : Int32) (ur : tc_S) (u : tc_S) (h : bl_X11_filled_17 G  u = some (r, ur)) : tc_R p l e { frames := 0, cells := 0, slots := 0, locals := 0 } s m args below meth c z D cX11_filled RX11 5 (some .int) 0 0 (tc_po r G ur) 0 0 G u 17 [] [] := by
  unfold bl_X11_filled_17 at h
  refine tc_iconst (v := (-1)) (by decide) dX11_filled_17 ?_
  cases h
  exact tc_ireturn rfl dX11_filled_18 rfl rfl ⟨rfl, rfl, rfl⟩
set_option maxRecDepth 100000 in
set_option maxHeartbeats 4000000 in
theorem sb_X11_filled_50 {p : Program} {l : Launch} {e : Env} {s : State} {m : MethodId} {args : Array Value} {below : List Frame} {meth : Method} {c : Code} {z : Nat} {D : tc_D} {G : tc_G} (hW : tc_W G) (r : Int32) (ur : tc_S) (K24 : Int32 → Nat → Int32 → Int32 → tc_S → Option (Int32 × tc_S)) (hK24 : ∀ (v1 : Int32) (v2 : Nat) (v3 : Int32) (v4 : Int32) (u : tc_S), tc_is G v2 9 → K24 v1 v2 v3 v4 u = some (r, ur) → tc_R p l e { frames := 0, cells := 0, slots := 0, locals := 0 } s m args below meth c z D cX11_filled RX11 5 (some .int) 0 0 (tc_po r G ur) 0 0 G u 24 [(1, .int v1), (2, .ref (z + v2)), (3, .int v3), (4, .int v4)] []) (v1 : Int32) (v2 : Nat) (v3 : Int32) (v4 : Int32) (u : tc_S) (iv2 : tc_is G v2 9) (h : bl_X11_filled_50 G K24 v1 v2 v3 v4 u = some (r, ur)) : tc_R p l e { frames := 0, cells := 0, slots := 0, locals := 0 } s m args below meth c z D cX11_filled RX11 5 (some .int) 0 0 (tc_po r G ur) 0 0 G u 50 [(1, .int v1), (2, .ref (z + v2)), (3, .int v3), (4, .int v4)] [] := by
  unfold bl_X11_filled_50 at h
  obtain ⟨x1, ex1, h⟩ := tc_let_ex h
  refine tc_iinc 3 (v := x1) [(4, .int x1), (1, .int v1), (2, .ref (z + v2)), (3, .int v3)] dX11_filled_50 rfl (by rw [ex1]; rfl) (by decide) rfl ?_
  refine tc_goto 24 dX11_filled_53 (by decide) ?_
  refine tc_lvs [1, 2, 3, 0] rfl ?_
  exact hK24 v1 v2 v3 x1 u iv2 h
set_option maxRecDepth 100000 in
set_option maxHeartbeats 4000000 in
theorem sl_X11_filled_24 {p : Program} {l : Launch} {e : Env} {s : State} {m : MethodId} {args : Array Value} {below : List Frame} {meth : Method} {c : Code} {z : Nat} {D : tc_D} {G : tc_G} (hW : tc_W G) (r : Int32) (ur : tc_S) : ∀ (n : Nat) (v1 : Int32) (v2 : Nat) (v3 : Int32) (v4 : Int32) (u : tc_S) (iv2 : tc_is G v2 9) (h : lo_X11_filled_24 G n v1 v2 v3 v4 u = some (r, ur)), tc_R p l e { frames := 0, cells := 0, slots := 0, locals := 0 } s m args below meth c z D cX11_filled RX11 5 (some .int) 0 0 (tc_po r G ur) 0 0 G u 24 [(1, .int v1), (2, .ref (z + v2)), (3, .int v3), (4, .int v4)] [] := by
  intro n
  induction n with
  | zero => intro v1 v2 v3 v4 u iv2 h; cases h
  | succ n ih =>
    intro v1 v2 v3 v4 u iv2 h
    rw [lo_X11_filled_24] at h
    refine tc_iload 3 rfl dX11_filled_24 ?_
    refine tc_aload_n 1 rfl dX11_filled_26 ?_
    refine tc_getp hW iv2 fl_X11_213 dX11_filled_27 rfl ?_
    refine tc_geti (hW.p iv2 0 rfl).1 fl_X11_236 dX11_filled_30 ?_
    refine tc_icmp_ge 56 dX11_filled_33 (by decide) (fun hc2 => ?_) (fun hc2 => ?_)
    · rw [if_pos hc2] at h
      refine tc_iload_n 2 rfl dX11_filled_56 ?_
      cases h
      exact tc_ireturn rfl dX11_filled_57 rfl rfl ⟨rfl, rfl, rfl⟩
    · rw [if_neg hc2] at h
      refine tc_aload_n 1 rfl dX11_filled_36 ?_
      refine tc_getp hW iv2 fl_X11_290 dX11_filled_37 rfl ?_
      refine tc_iload 3 rfl dX11_filled_40 ?_
      obtain ⟨bx3, x3, ex3, h⟩ := tc_ld_ex h
      refine tc_iald (hW.p iv2 9 rfl).1 bx3 dX11_filled_42 ?_
      refine tc_nm ex3 ?_
      refine tc_iload_n 0 rfl dX11_filled_43 ?_
      refine tc_icmp_ne 50 dX11_filled_44 (by decide) (fun hc4 => ?_) (fun hc4 => ?_)
      · rw [if_neg hc4] at h
        exact sb_X11_filled_50 hW r ur _ ih v1 v2 v3 v4 u iv2 h
      · rw [if_pos hc4] at h
        obtain ⟨x5, ex5, h⟩ := tc_let_ex h
        refine tc_iinc 2 (v := x5) [(3, .int x5), (1, .int v1), (2, .ref (z + v2)), (4, .int v4)] dX11_filled_47 rfl (by rw [ex5]; rfl) (by decide) rfl ?_
        refine tc_lvs [1, 2, 0, 3] rfl ?_
        exact sb_X11_filled_50 hW r ur _ ih v1 v2 x5 v4 u iv2 h
set_option maxRecDepth 100000 in
set_option maxHeartbeats 4000000 in
theorem ct_X11_filled {l : Launch} {z : Nat} {D : tc_D} {G : tc_G} (hW : tc_W G) {v0 : Nat} {v1 : Int32} {u : tc_S} {r : Int32} {ur : tc_S} (iv0 : tc_is G v0 11) (h : fn_X11_filled G v0 v1 u = some (r, ur)) : tc_C l z D yX11_filled cX11_filled 5 (some .int) 0 0 0 0 [.ref (z + v0), .int v1] G u (tc_po r G ur) := by
  unfold fn_X11_filled at h
  refine tc_C.of (by decide) (Nat.le_of_ble_eq_true rfl) fun p e s m args below meth c => ?_
  show tc_R p l e { frames := 0, cells := 0, slots := 0, locals := 0 } s m args below meth c z D cX11_filled RX11 5 (some .int) 0 0 (tc_po r G ur) 0 0 G u 0 [(0, .ref (z + v0)), (1, .int v1)] []
  refine tc_aload_n 0 rfl dX11_filled_0 ?_
  refine tc_getp hW iv0 fl_X11_12 dX11_filled_1 rfl ?_
  refine tc_getp hW (hW.p iv0 0 rfl) fl_X11_113 dX11_filled_4 rfl ?_
  refine tc_astore_n [(2, .ref (z + (tc_p G (tc_p G v0 0) 0))), (0, .ref (z + v0)), (1, .int v1)] dX11_filled_7 (by decide) rfl ?_
  refine tc_iload_n 2 rfl dX11_filled_8 ?_
  refine tc_if_lt 17 dX11_filled_9 (by decide) (fun hc6 => ?_) (fun hc6 => ?_)
  · rw [if_pos hc6] at h
    refine tc_lvs [] rfl ?_
    exact sb_X11_filled_17 hW r ur   u  h
  · rw [if_neg hc6] at h
    refine tc_iload_n 2 rfl dX11_filled_12 ?_
    refine tc_iconst (v := 4) (by decide) dX11_filled_13 ?_
    refine tc_icmp_le 19 dX11_filled_14 (by decide) (fun hc7 => ?_) (fun hc7 => ?_)
    · rw [if_pos hc7] at h
      refine tc_iconst (v := 0) (by decide) dX11_filled_19 ?_
      refine tc_istore_n [(3, .int 0), (2, .ref (z + (tc_p G (tc_p G v0 0) 0))), (0, .ref (z + v0)), (1, .int v1)] dX11_filled_20 (by decide) rfl ?_
      refine tc_iconst (v := 0) (by decide) dX11_filled_21 ?_
      refine tc_istore [(4, .int 0), (3, .int 0), (2, .ref (z + (tc_p G (tc_p G v0 0) 0))), (0, .ref (z + v0)), (1, .int v1)] dX11_filled_22 (by decide) rfl ?_
      refine tc_lvs [4, 2, 1, 0] rfl ?_
      exact sl_X11_filled_24 hW r ur  _ v1 (tc_p G (tc_p G v0 0) 0) 0 0 u (hW.p (hW.p iv0 0 rfl) 0 rfl) h
    · rw [if_neg hc7] at h
      refine tc_lvs [] rfl ?_
      exact sb_X11_filled_17 hW r ur   u  h
set_option maxRecDepth 100000 in
set_option maxHeartbeats 4000000 in
theorem sb_X11_restless_86 {p : Program} {l : Launch} {e : Env} {s : State} {m : MethodId} {args : Array Value} {below : List Frame} {meth : Method} {c : Code} {z : Nat} {D : tc_D} {G : tc_G} (hW : tc_W G) (r : Int32) (ur : tc_S) (s0 : Int32) (u : tc_S) (h : bl_X11_restless_86 G s0 u = some (r, ur)) : tc_R p l e { frames := 1, cells := 0, slots := 0, locals := 25 } s m args below meth c z D cX11_restless RX11 5 (some .int) 0 0 (tc_po r G ur) 0 0 G u 86 [] [.int s0] := by
  unfold bl_X11_restless_86 at h
  cases h
  exact tc_ireturn rfl dX11_restless_86 rfl rfl ⟨rfl, rfl, rfl⟩
set_option maxRecDepth 100000 in
set_option maxHeartbeats 4000000 in
theorem sb_X11_restless_66 {p : Program} {l : Launch} {e : Env} {s : State} {m : MethodId} {args : Array Value} {below : List Frame} {meth : Method} {c : Code} {z : Nat} {D : tc_D} {G : tc_G} (hW : tc_W G) (r : Int32) (ur : tc_S) (K21 : Nat → Nat → Int32 → Int32 → tc_S → Option (Int32 × tc_S)) (hK21 : ∀ (v0 : Nat) (v1 : Nat) (v2 : Int32) (v3 : Int32) (u : tc_S), tc_is G v0 11 → tc_is G v1 9 → K21 v0 v1 v2 v3 u = some (r, ur) → tc_R p l e { frames := 1, cells := 0, slots := 0, locals := 25 } s m args below meth c z D cX11_restless RX11 5 (some .int) 0 0 (tc_po r G ur) 0 0 G u 21 [(0, .ref (z + v0)), (1, .ref (z + v1)), (2, .int v2), (3, .int v3)] []) (v0 : Nat) (v1 : Nat) (v2 : Int32) (v3 : Int32) (u : tc_S) (iv0 : tc_is G v0 11) (iv1 : tc_is G v1 9) (h : bl_X11_restless_66 G K21 v0 v1 v2 v3 u = some (r, ur)) : tc_R p l e { frames := 1, cells := 0, slots := 0, locals := 25 } s m args below meth c z D cX11_restless RX11 5 (some .int) 0 0 (tc_po r G ur) 0 0 G u 66 [(0, .ref (z + v0)), (1, .ref (z + v1)), (2, .int v2), (3, .int v3)] [] := by
  unfold bl_X11_restless_66 at h
  obtain ⟨x1, ex1, h⟩ := tc_let_ex h
  refine tc_iinc 3 (v := x1) [(3, .int x1), (0, .ref (z + v0)), (1, .ref (z + v1)), (2, .int v2)] dX11_restless_66 rfl (by rw [ex1]; rfl) (by decide) rfl ?_
  refine tc_goto 21 dX11_restless_69 (by decide) ?_
  refine tc_lvs [1, 2, 3, 0] rfl ?_
  exact hK21 v0 v1 v2 x1 u iv0 iv1 h
set_option maxRecDepth 100000 in
set_option maxHeartbeats 4000000 in
theorem sb_X11_restless_63 {p : Program} {l : Launch} {e : Env} {s : State} {m : MethodId} {args : Array Value} {below : List Frame} {meth : Method} {c : Code} {z : Nat} {D : tc_D} {G : tc_G} (hW : tc_W G) (r : Int32) (ur : tc_S) (K21 : Nat → Nat → Int32 → Int32 → tc_S → Option (Int32 × tc_S)) (hK21 : ∀ (v0 : Nat) (v1 : Nat) (v2 : Int32) (v3 : Int32) (u : tc_S), tc_is G v0 11 → tc_is G v1 9 → K21 v0 v1 v2 v3 u = some (r, ur) → tc_R p l e { frames := 1, cells := 0, slots := 0, locals := 25 } s m args below meth c z D cX11_restless RX11 5 (some .int) 0 0 (tc_po r G ur) 0 0 G u 21 [(0, .ref (z + v0)), (1, .ref (z + v1)), (2, .int v2), (3, .int v3)] []) (v0 : Nat) (v1 : Nat) (v3 : Int32) (v4 : Int32) (u : tc_S) (iv0 : tc_is G v0 11) (iv1 : tc_is G v1 9) (h : bl_X11_restless_63 G K21 v0 v1 v3 v4 u = some (r, ur)) : tc_R p l e { frames := 1, cells := 0, slots := 0, locals := 25 } s m args below meth c z D cX11_restless RX11 5 (some .int) 0 0 (tc_po r G ur) 0 0 G u 63 [(0, .ref (z + v0)), (1, .ref (z + v1)), (3, .int v3), (4, .int v4)] [] := by
  unfold bl_X11_restless_63 at h
  refine tc_iload 3 rfl dX11_restless_63 ?_
  refine tc_istore_n [(2, .int v4), (0, .ref (z + v0)), (1, .ref (z + v1)), (3, .int v3), (4, .int v4)] dX11_restless_65 (by decide) rfl ?_
  refine tc_lvs [1, 2, 0, 3] rfl ?_
  exact sb_X11_restless_66 hW r ur K21 hK21 v0 v1 v4 v3 u iv0 iv1 h
set_option maxRecDepth 100000 in
set_option maxHeartbeats 4000000 in
theorem sl_X11_restless_21 {p : Program} {l : Launch} {e : Env} {s : State} {m : MethodId} {args : Array Value} {below : List Frame} {meth : Method} {c : Code} {z : Nat} {D : tc_D} {G : tc_G} (hW : tc_W G) (r : Int32) (ur : tc_S) : ∀ (n : Nat) (v0 : Nat) (v1 : Nat) (v2 : Int32) (v3 : Int32) (u : tc_S) (iv0 : tc_is G v0 11) (iv1 : tc_is G v1 9) (h : lo_X11_restless_21 G n v0 v1 v2 v3 u = some (r, ur)), tc_R p l e { frames := 1, cells := 0, slots := 0, locals := 25 } s m args below meth c z D cX11_restless RX11 5 (some .int) 0 0 (tc_po r G ur) 0 0 G u 21 [(0, .ref (z + v0)), (1, .ref (z + v1)), (2, .int v2), (3, .int v3)] [] := by
  intro n
  induction n with
  | zero => intro v0 v1 v2 v3 u iv0 iv1 h; cases h
  | succ n ih =>
    intro v0 v1 v2 v3 u iv0 iv1 h
    rw [lo_X11_restless_21] at h
    refine tc_iload_n 3 rfl dX11_restless_21 ?_
    refine tc_aload_n 0 rfl dX11_restless_22 ?_
    refine tc_getp hW iv0 fl_X11_48 dX11_restless_23 rfl ?_
    refine tc_geti (hW.p iv0 5 rfl).1 fl_X11_281 dX11_restless_26 ?_
    refine tc_icmp_ge 72 dX11_restless_29 (by decide) (fun hc2 => ?_) (fun hc2 => ?_)
    · rw [if_pos hc2] at h
      refine tc_iload_n 2 rfl dX11_restless_72 ?_
      refine tc_if_ge 80 dX11_restless_73 (by decide) (fun hc3 => ?_) (fun hc3 => ?_)
      · rw [if_pos hc3] at h
        refine tc_aload_n 1 rfl dX11_restless_80 ?_
        refine tc_getp hW iv1 fl_X11_171 dX11_restless_81 rfl ?_
        refine tc_iload_n 2 rfl dX11_restless_84 ?_
        obtain ⟨bx4, x4, ex4, h⟩ := tc_ld_ex h
        refine tc_iald (hW.p iv1 3 rfl).1 bx4 dX11_restless_85 ?_
        refine tc_nm ex4 ?_
        refine tc_lvs [] rfl ?_
        exact sb_X11_restless_86 hW r ur  x4 u  h
      · rw [if_neg hc3] at h
        refine tc_iconst (v := (-1)) (by decide) dX11_restless_76 ?_
        refine tc_goto 86 dX11_restless_77 (by decide) ?_
        refine tc_lvs [] rfl ?_
        exact sb_X11_restless_86 hW r ur  (-1) u  h
    · rw [if_neg hc2] at h
      refine tc_aload_n 0 rfl dX11_restless_32 ?_
      refine tc_getp hW iv0 fl_X11_48 dX11_restless_33 rfl ?_
      refine tc_getp hW (hW.p iv0 5 rfl) fl_X11_284 dX11_restless_36 rfl ?_
      refine tc_iload_n 3 rfl dX11_restless_39 ?_
      obtain ⟨bx5, x5, ex5, h⟩ := tc_ld_ex h
      refine tc_iald (hW.p (hW.p iv0 5 rfl) 0 rfl).1 bx5 dX11_restless_40 ?_
      refine tc_nm ex5 ?_
      refine tc_istore [(4, .int x5), (0, .ref (z + v0)), (1, .ref (z + v1)), (2, .int v2), (3, .int v3)] dX11_restless_41 (by decide) rfl ?_
      refine tc_iload_n 3 rfl dX11_restless_43 ?_
      refine tc_if_lt 63 dX11_restless_44 (by decide) (fun hc6 => ?_) (fun hc6 => ?_)
      · rw [if_pos hc6] at h
        refine tc_lvs [1, 2, 4, 0] rfl ?_
        exact sb_X11_restless_63 hW r ur _ ih v0 v1 v3 x5 u iv0 iv1 h
      · rw [if_neg hc6] at h
        refine tc_aload_n 2 rfl dX11_restless_47 ?_
        refine tc_getp hW iv1 fl_X11_198 dX11_restless_48 rfl ?_
        refine tc_iload 0 rfl dX11_restless_51 ?_
        obtain ⟨bx7, x7, ex7, h⟩ := tc_ld_ex h
        refine tc_iald (hW.p iv1 6 rfl).1 bx7 dX11_restless_53 ?_
        refine tc_nm ex7 ?_
        refine tc_aload_n 2 rfl dX11_restless_54 ?_
        refine tc_getp hW iv1 fl_X11_198 dX11_restless_55 rfl ?_
        refine tc_iload_n 3 rfl dX11_restless_58 ?_
        obtain ⟨bx8, x8, ex8, h⟩ := tc_ld_ex h
        refine tc_iald (hW.p iv1 6 rfl).1 bx8 dX11_restless_59 ?_
        refine tc_nm ex8 ?_
        refine tc_icmp_le 66 dX11_restless_60 (by decide) (fun hc9 => ?_) (fun hc9 => ?_)
        · rw [if_pos hc9] at h
          refine tc_lvs [1, 2, 3, 4] rfl ?_
          exact sb_X11_restless_66 hW r ur _ ih v0 v1 v2 v3 u iv0 iv1 h
        · rw [if_neg hc9] at h
          refine tc_lvs [1, 2, 4, 0] rfl ?_
          exact sb_X11_restless_63 hW r ur _ ih v0 v1 v3 x5 u iv0 iv1 h
set_option maxRecDepth 100000 in
set_option maxHeartbeats 4000000 in
theorem ct_X11_restless {l : Launch} {z : Nat} {D : tc_D} {G : tc_G} (hW : tc_W G) {v0 : Nat} {u : tc_S} {r : Int32} {ur : tc_S} (iv0 : tc_is G v0 11) (h : fn_X11_restless G v0 u = some (r, ur)) : tc_C l z D yX11_restless cX11_restless 5 (some .int) 1 25 0 0 [.ref (z + v0)] G u (tc_po r G ur) := by
  unfold fn_X11_restless at h
  refine tc_C.of (by decide) (Nat.le_of_ble_eq_true rfl) fun p e s m args below meth c => ?_
  show tc_R p l e { frames := 1, cells := 0, slots := 0, locals := 25 } s m args below meth c z D cX11_restless RX11 5 (some .int) 0 0 (tc_po r G ur) 0 0 G u 0 [(0, .ref (z + v0))] []
  refine tc_aload_n 0 rfl dX11_restless_0 ?_
  refine tc_getp hW iv0 fl_X11_12 dX11_restless_1 rfl ?_
  refine tc_getp hW (hW.p iv0 0 rfl) fl_X11_113 dX11_restless_4 rfl ?_
  refine tc_astore_n [(1, .ref (z + (tc_p G (tc_p G v0 0) 0))), (0, .ref (z + v0))] dX11_restless_7 (by decide) rfl ?_
  refine tc_aload_n 1 rfl dX11_restless_8 ?_
  refine tc_getp hW iv0 fl_X11_48 dX11_restless_9 rfl ?_
  refine tc_aload_n 0 rfl dX11_restless_12 ?_
  refine tc_iconst (v := 0) (by decide) dX11_restless_13 ?_
  obtain ⟨x10, u11, hq12, h⟩ := tc_b_ex h
  refine tc_callVv [.ref (z + (tc_p G (tc_p G v0 0) 0)), .int 0] dX11_restless_14 (hW.p iv0 5 rfl).1 (ct_X7_gather hW (hW.p iv0 5 rfl) (hW.p (hW.p iv0 0 rfl) 0 rfl) hq12) ml_X11_277 mw_X7_gather mv_X7_gather ⟨Nat.le_of_ble_eq_true rfl, Nat.le_of_ble_eq_true rfl⟩ rfl rfl (Nat.le_of_ble_eq_true rfl) ⟨Nat.le_refl _, Nat.le_refl _⟩ (by decide) ?_
  refine tc_iconst (v := (-1)) (by decide) dX11_restless_17 ?_
  refine tc_istore_n [(2, .int (-1)), (1, .ref (z + (tc_p G (tc_p G v0 0) 0))), (0, .ref (z + v0))] dX11_restless_18 (by decide) rfl ?_
  refine tc_iconst (v := 0) (by decide) dX11_restless_19 ?_
  refine tc_istore_n [(3, .int 0), (2, .int (-1)), (1, .ref (z + (tc_p G (tc_p G v0 0) 0))), (0, .ref (z + v0))] dX11_restless_20 (by decide) rfl ?_
  refine tc_lvs [3, 2, 1, 0] rfl ?_
  exact sl_X11_restless_21 hW r ur  _ v0 (tc_p G (tc_p G v0 0) 0) (-1) 0 u11 iv0 (hW.p (hW.p iv0 0 rfl) 0 rfl) h
set_option maxRecDepth 100000 in
set_option maxHeartbeats 4000000 in
theorem sl_X11_which_19 {p : Program} {l : Launch} {e : Env} {s : State} {m : MethodId} {args : Array Value} {below : List Frame} {meth : Method} {c : Code} {z : Nat} {D : tc_D} {G : tc_G} (hW : tc_W G) (r : Int32) (ur : tc_S) : ∀ (n : Nat) (v0 : Nat) (v1 : Int32) (v2 : Int32) (u : tc_S) (iv0 : tc_is G v0 11) (h : lo_X11_which_19 G n v0 v1 v2 u = some (r, ur)), tc_R p l e { frames := 7, cells := 0, slots := 0, locals := 170 } s m args below meth c z D cX11_which RX11 3 (some .int) 0 0 (tc_po r G ur) 0 0 G u 19 [(0, .ref (z + v0)), (1, .int v1), (2, .int v2)] [] := by
  intro n
  induction n with
  | zero => intro v0 v1 v2 u iv0 h; cases h
  | succ n ih =>
    intro v0 v1 v2 u iv0 h
    rw [lo_X11_which_19] at h
    refine tc_iload_n 2 rfl dX11_which_19 ?_
    refine tc_bipush (v := 100) (by decide) dX11_which_20 ?_
    refine tc_icmp_ge 42 dX11_which_22 (by decide) (fun hc1 => ?_) (fun hc1 => ?_)
    · rw [if_pos hc1] at h
      refine tc_iconst (v := (-1)) (by decide) dX11_which_42 ?_
      cases h
      exact tc_ireturn rfl dX11_which_43 rfl rfl ⟨rfl, rfl, rfl⟩
    · rw [if_neg hc1] at h
      refine tc_aload_n 0 rfl dX11_which_25 ?_
      refine tc_iload_n 2 rfl dX11_which_26 ?_
      obtain ⟨x2, u3, hq4, h⟩ := tc_b_ex h
      refine tc_callVi [.int v2] dX11_which_27 iv0.1 (ct_X11_answerFor hW iv0 hq4) ml_X11_233 mw_X11_answerFor mv_X11_answerFor ⟨Nat.le_of_ble_eq_true rfl, Nat.le_of_ble_eq_true rfl⟩ rfl rfl (Nat.le_of_ble_eq_true rfl) ⟨Nat.le_refl _, Nat.le_refl _⟩ (by decide) ?_
      refine tc_iload_n 1 rfl dX11_which_30 ?_
      refine tc_icmp_ne 36 dX11_which_31 (by decide) (fun hc5 => ?_) (fun hc5 => ?_)
      · rw [if_neg hc5] at h
        obtain ⟨x6, ex6, h⟩ := tc_let_ex h
        refine tc_iinc 2 (v := x6) [(2, .int x6), (0, .ref (z + v0)), (1, .int v1)] dX11_which_36 rfl (by rw [ex6]; rfl) (by decide) rfl ?_
        refine tc_goto 19 dX11_which_39 (by decide) ?_
        refine tc_lvs [1, 2, 0] rfl ?_
        exact ih v0 v1 x6 u3 iv0 h
      · rw [if_pos hc5] at h
        refine tc_iload_n 2 rfl dX11_which_34 ?_
        cases h
        exact tc_ireturn rfl dX11_which_35 rfl rfl ⟨rfl, rfl, rfl⟩
set_option maxRecDepth 100000 in
set_option maxHeartbeats 4000000 in
theorem sb_X11_which_17 {p : Program} {l : Launch} {e : Env} {s : State} {m : MethodId} {args : Array Value} {below : List Frame} {meth : Method} {c : Code} {z : Nat} {D : tc_D} {G : tc_G} (hW : tc_W G) (r : Int32) (ur : tc_S) (v0 : Nat) (v1 : Int32) (u : tc_S) (iv0 : tc_is G v0 11) (h : bl_X11_which_17 G v0 v1 u = some (r, ur)) : tc_R p l e { frames := 7, cells := 0, slots := 0, locals := 170 } s m args below meth c z D cX11_which RX11 3 (some .int) 0 0 (tc_po r G ur) 0 0 G u 17 [(0, .ref (z + v0)), (1, .int v1)] [] := by
  unfold bl_X11_which_17 at h
  refine tc_iconst (v := 0) (by decide) dX11_which_17 ?_
  refine tc_istore_n [(2, .int 0), (0, .ref (z + v0)), (1, .int v1)] dX11_which_18 (by decide) rfl ?_
  refine tc_lvs [1, 2, 0] rfl ?_
  exact sl_X11_which_19 hW r ur  _ v0 v1 0 u iv0 h
set_option maxRecDepth 100000 in
set_option maxHeartbeats 4000000 in
theorem sb_X11_which_15 {p : Program} {l : Launch} {e : Env} {s : State} {m : MethodId} {args : Array Value} {below : List Frame} {meth : Method} {c : Code} {z : Nat} {D : tc_D} {G : tc_G} (hW : tc_W G) (r : Int32) (ur : tc_S) (u : tc_S) (h : bl_X11_which_15 G  u = some (r, ur)) : tc_R p l e { frames := 7, cells := 0, slots := 0, locals := 170 } s m args below meth c z D cX11_which RX11 3 (some .int) 0 0 (tc_po r G ur) 0 0 G u 15 [] [] := by
  unfold bl_X11_which_15 at h
  refine tc_iconst (v := (-1)) (by decide) dX11_which_15 ?_
  cases h
  exact tc_ireturn rfl dX11_which_16 rfl rfl ⟨rfl, rfl, rfl⟩
set_option maxRecDepth 100000 in
set_option maxHeartbeats 4000000 in
theorem ct_X11_which {l : Launch} {z : Nat} {D : tc_D} {G : tc_G} (hW : tc_W G) {v0 : Nat} {v1 : Int32} {u : tc_S} {r : Int32} {ur : tc_S} (iv0 : tc_is G v0 11) (h : fn_X11_which G v0 v1 u = some (r, ur)) : tc_C l z D yX11_which cX11_which 3 (some .int) 7 170 0 0 [.ref (z + v0), .int v1] G u (tc_po r G ur) := by
  unfold fn_X11_which at h
  refine tc_C.of (by decide) (Nat.le_of_ble_eq_true rfl) fun p e s m args below meth c => ?_
  show tc_R p l e { frames := 7, cells := 0, slots := 0, locals := 170 } s m args below meth c z D cX11_which RX11 3 (some .int) 0 0 (tc_po r G ur) 0 0 G u 0 [(0, .ref (z + v0)), (1, .int v1)] []
  refine tc_iload_n 1 rfl dX11_which_0 ?_
  refine tc_iconst (v := (-1)) (by decide) dX11_which_1 ?_
  refine tc_icmp_eq 17 dX11_which_2 (by decide) (fun hc7 => ?_) (fun hc7 => ?_)
  · rw [if_pos hc7] at h
    exact sb_X11_which_17 hW r ur  v0 v1 u iv0 h
  · rw [if_neg hc7] at h
    refine tc_iload_n 1 rfl dX11_which_5 ?_
    refine tc_iconst (v := 1) (by decide) dX11_which_6 ?_
    refine tc_icmp_lt 15 dX11_which_7 (by decide) (fun hc8 => ?_) (fun hc8 => ?_)
    · rw [if_pos hc8] at h
      refine tc_lvs [] rfl ?_
      exact sb_X11_which_15 hW r ur   u  h
    · rw [if_neg hc8] at h
      refine tc_iload_n 1 rfl dX11_which_10 ?_
      refine tc_iconst (v := 5) (by decide) dX11_which_11 ?_
      refine tc_icmp_le 17 dX11_which_12 (by decide) (fun hc9 => ?_) (fun hc9 => ?_)
      · rw [if_pos hc9] at h
        exact sb_X11_which_17 hW r ur  v0 v1 u iv0 h
      · rw [if_neg hc9] at h
        refine tc_lvs [] rfl ?_
        exact sb_X11_which_15 hW r ur   u  h
set_option maxRecDepth 100000 in
set_option maxHeartbeats 4000000 in
theorem ct_X11_tried {l : Launch} {z : Nat} {D : tc_D} {G : tc_G} (hW : tc_W G) {v0 : Nat} {v1 : Int32} {v2 : Int32} {v3 : Int32} {u : tc_S} {r : Int32} {ur : tc_S} (iv0 : tc_is G v0 11) (h : fn_X11_tried G v0 v1 v2 v3 u = some (r, ur)) : tc_C l z D yX11_tried cX11_tried 4 (some .int) 7 177 0 0 [.ref (z + v0), .int v1, .int v2, .int v3] G u (tc_po r G ur) := by
  unfold fn_X11_tried at h
  refine tc_C.of (by decide) (Nat.le_of_ble_eq_true rfl) fun p e s m args below meth c => ?_
  show tc_R p l e { frames := 7, cells := 0, slots := 0, locals := 177 } s m args below meth c z D cX11_tried RX11 4 (some .int) 0 0 (tc_po r G ur) 0 0 G u 0 [(0, .ref (z + v0)), (1, .int v1), (2, .int v2), (3, .int v3)] []
  refine tc_iload_n 2 rfl dX11_tried_0 ?_
  obtain ⟨x1, u2, hq3, h⟩ := tc_b_ex h
  refine tc_callSi [.int v2] dX11_tried_1 (ct_X11_isLoad hW hq3) ml_X11_180 mw_X11_isLoad ms_X11_isLoad ⟨Nat.le_of_ble_eq_true rfl, Nat.le_of_ble_eq_true rfl⟩ rfl rfl (Nat.le_of_ble_eq_true rfl) ⟨Nat.le_refl _, Nat.le_refl _⟩ ?_
  refine tc_if_ne 9 dX11_tried_4 (by decide) (fun hc4 => ?_) (fun hc4 => ?_)
  · rw [if_neg hc4] at h
    refine tc_aload_n 0 rfl dX11_tried_9 ?_
    refine tc_getp hW iv0 fl_X11_25 dX11_tried_10 rfl ?_
    refine tc_aload_n 0 rfl dX11_tried_13 ?_
    refine tc_getp hW iv0 fl_X11_12 dX11_tried_14 rfl ?_
    refine tc_getp hW (hW.p iv0 0 rfl) fl_X11_113 dX11_tried_17 rfl ?_
    obtain ⟨x5, u6, hq7, h⟩ := tc_b_ex h
    refine tc_callVv [.ref (z + (tc_p G (tc_p G v0 0) 0))] dX11_tried_20 (hW.p iv0 2 rfl).1 (ct_X9_copyFrom hW (hW.p iv0 2 rfl) (hW.p (hW.p iv0 0 rfl) 0 rfl) hq7) ml_X11_116 mw_X9_copyFrom mv_X9_copyFrom ⟨Nat.le_of_ble_eq_true rfl, Nat.le_of_ble_eq_true rfl⟩ rfl rfl (Nat.le_of_ble_eq_true rfl) ⟨Nat.le_refl _, Nat.le_refl _⟩ (by decide) ?_
    refine tc_aload_n 0 rfl dX11_tried_23 ?_
    refine tc_getp hW iv0 fl_X11_57 dX11_tried_24 rfl ?_
    refine tc_aload_n 0 rfl dX11_tried_27 ?_
    refine tc_getp hW iv0 fl_X11_25 dX11_tried_28 rfl ?_
    refine tc_iload_n 1 rfl dX11_tried_31 ?_
    refine tc_iload_n 2 rfl dX11_tried_32 ?_
    obtain ⟨x8, u9, hq10, h⟩ := tc_b_ex h
    refine tc_callVi [.ref (z + (tc_p G v0 2)), .int v1, .int v2] dX11_tried_33 (hW.p iv0 6 rfl).1 (ct_X3_loadBy hW (hW.p iv0 6 rfl) (hW.p iv0 2 rfl) hq10) ml_X11_183 mw_X3_loadBy mv_X3_loadBy ⟨Nat.le_of_ble_eq_true rfl, Nat.le_of_ble_eq_true rfl⟩ rfl rfl (Nat.le_of_ble_eq_true rfl) ⟨Nat.le_refl _, Nat.le_refl _⟩ (by decide) ?_
    refine tc_pop rfl dX11_tried_36 ?_
    refine tc_aload_n 0 rfl dX11_tried_37 ?_
    refine tc_aload_n 0 rfl dX11_tried_38 ?_
    refine tc_getp hW iv0 fl_X11_25 dX11_tried_39 rfl ?_
    refine tc_iload_n 3 rfl dX11_tried_42 ?_
    obtain ⟨x11, u12, hq13, h⟩ := tc_b_ex h
    refine tc_callVi [.ref (z + (tc_p G v0 2)), .int v3] dX11_tried_43 iv0.1 (ct_X11_tell hW iv0 (hW.p iv0 2 rfl) hq13) ml_X11_287 mw_X11_tell mv_X11_tell ⟨Nat.le_of_ble_eq_true rfl, Nat.le_of_ble_eq_true rfl⟩ rfl rfl (Nat.le_of_ble_eq_true rfl) ⟨Nat.le_refl _, Nat.le_refl _⟩ (by decide) ?_
    cases h
    exact tc_ireturn rfl dX11_tried_46 rfl rfl ⟨rfl, rfl, rfl⟩
  · rw [if_pos hc4] at h
    refine tc_iconst (v := (-1)) (by decide) dX11_tried_7 ?_
    cases h
    exact tc_ireturn rfl dX11_tried_8 rfl rfl ⟨rfl, rfl, rfl⟩
set_option maxRecDepth 100000 in
set_option maxHeartbeats 4000000 in
theorem sb_X11_lost_97 {p : Program} {l : Launch} {e : Env} {s : State} {m : MethodId} {args : Array Value} {below : List Frame} {meth : Method} {c : Code} {z : Nat} {D : tc_D} {G : tc_G} (hW : tc_W G) (r : Int32) (ur : tc_S) (K32 : Nat → Nat → Int32 → Int32 → tc_S → Option (Int32 × tc_S)) (hK32 : ∀ (v3 : Nat) (v4 : Nat) (v5 : Int32) (v6 : Int32) (u : tc_S), tc_is G v3 9 → tc_is G v4 9 → K32 v3 v4 v5 v6 u = some (r, ur) → tc_R p l e { frames := 3, cells := 0, slots := 0, locals := 68 } s m args below meth c z D cX11_lost RX11 9 (some .int) 0 0 (tc_po r G ur) 0 0 G u 32 [(3, .ref (z + v3)), (4, .ref (z + v4)), (5, .int v5), (6, .int v6)] []) (v3 : Nat) (v4 : Nat) (v5 : Int32) (v6 : Int32) (u : tc_S) (iv3 : tc_is G v3 9) (iv4 : tc_is G v4 9) (h : bl_X11_lost_97 G K32 v3 v4 v5 v6 u = some (r, ur)) : tc_R p l e { frames := 3, cells := 0, slots := 0, locals := 68 } s m args below meth c z D cX11_lost RX11 9 (some .int) 0 0 (tc_po r G ur) 0 0 G u 97 [(3, .ref (z + v3)), (4, .ref (z + v4)), (5, .int v5), (6, .int v6)] [] := by
  unfold bl_X11_lost_97 at h
  obtain ⟨x1, ex1, h⟩ := tc_let_ex h
  refine tc_iinc 3 (v := x1) [(6, .int x1), (3, .ref (z + v3)), (4, .ref (z + v4)), (5, .int v5)] dX11_lost_97 rfl (by rw [ex1]; rfl) (by decide) rfl ?_
  refine tc_goto 32 dX11_lost_100 (by decide) ?_
  refine tc_lvs [1, 2, 3, 0] rfl ?_
  exact hK32 v3 v4 v5 x1 u iv3 iv4 h
set_option maxRecDepth 100000 in
set_option maxHeartbeats 4000000 in
theorem sb_X11_lost_94 {p : Program} {l : Launch} {e : Env} {s : State} {m : MethodId} {args : Array Value} {below : List Frame} {meth : Method} {c : Code} {z : Nat} {D : tc_D} {G : tc_G} (hW : tc_W G) (r : Int32) (ur : tc_S) (K32 : Nat → Nat → Int32 → Int32 → tc_S → Option (Int32 × tc_S)) (hK32 : ∀ (v3 : Nat) (v4 : Nat) (v5 : Int32) (v6 : Int32) (u : tc_S), tc_is G v3 9 → tc_is G v4 9 → K32 v3 v4 v5 v6 u = some (r, ur) → tc_R p l e { frames := 3, cells := 0, slots := 0, locals := 68 } s m args below meth c z D cX11_lost RX11 9 (some .int) 0 0 (tc_po r G ur) 0 0 G u 32 [(3, .ref (z + v3)), (4, .ref (z + v4)), (5, .int v5), (6, .int v6)] []) (v3 : Nat) (v4 : Nat) (v6 : Int32) (s0 : Int32) (s1 : Int32) (u : tc_S) (iv3 : tc_is G v3 9) (iv4 : tc_is G v4 9) (h : bl_X11_lost_94 G K32 v3 v4 v6 s0 s1 u = some (r, ur)) : tc_R p l e { frames := 3, cells := 0, slots := 0, locals := 68 } s m args below meth c z D cX11_lost RX11 9 (some .int) 0 0 (tc_po r G ur) 0 0 G u 94 [(3, .ref (z + v3)), (4, .ref (z + v4)), (6, .int v6)] [.int s1, .int s0] := by
  unfold bl_X11_lost_94 at h
  refine tc_iadd dX11_lost_94 ?_
  obtain ⟨x2, ex2, h⟩ := tc_let_ex h
  refine tc_nm ex2 ?_
  refine tc_istore [(5, .int x2), (3, .ref (z + v3)), (4, .ref (z + v4)), (6, .int v6)] dX11_lost_95 (by decide) rfl ?_
  refine tc_lvs [1, 2, 0, 3] rfl ?_
  exact sb_X11_lost_97 hW r ur K32 hK32 v3 v4 x2 v6 u iv3 iv4 h
set_option maxRecDepth 100000 in
set_option maxHeartbeats 4000000 in
theorem sb_X11_lost_93 {p : Program} {l : Launch} {e : Env} {s : State} {m : MethodId} {args : Array Value} {below : List Frame} {meth : Method} {c : Code} {z : Nat} {D : tc_D} {G : tc_G} (hW : tc_W G) (r : Int32) (ur : tc_S) (K32 : Nat → Nat → Int32 → Int32 → tc_S → Option (Int32 × tc_S)) (hK32 : ∀ (v3 : Nat) (v4 : Nat) (v5 : Int32) (v6 : Int32) (u : tc_S), tc_is G v3 9 → tc_is G v4 9 → K32 v3 v4 v5 v6 u = some (r, ur) → tc_R p l e { frames := 3, cells := 0, slots := 0, locals := 68 } s m args below meth c z D cX11_lost RX11 9 (some .int) 0 0 (tc_po r G ur) 0 0 G u 32 [(3, .ref (z + v3)), (4, .ref (z + v4)), (5, .int v5), (6, .int v6)] []) (v3 : Nat) (v4 : Nat) (v6 : Int32) (s0 : Int32) (u : tc_S) (iv3 : tc_is G v3 9) (iv4 : tc_is G v4 9) (h : bl_X11_lost_93 G K32 v3 v4 v6 s0 u = some (r, ur)) : tc_R p l e { frames := 3, cells := 0, slots := 0, locals := 68 } s m args below meth c z D cX11_lost RX11 9 (some .int) 0 0 (tc_po r G ur) 0 0 G u 93 [(3, .ref (z + v3)), (4, .ref (z + v4)), (6, .int v6)] [.int s0] := by
  unfold bl_X11_lost_93 at h
  refine tc_iconst (v := 1) (by decide) dX11_lost_93 ?_
  exact sb_X11_lost_94 hW r ur K32 hK32 v3 v4 v6 s0 1 u iv3 iv4 h
set_option maxRecDepth 100000 in
set_option maxHeartbeats 4000000 in
theorem sl_X11_lost_32 {p : Program} {l : Launch} {e : Env} {s : State} {m : MethodId} {args : Array Value} {below : List Frame} {meth : Method} {c : Code} {z : Nat} {D : tc_D} {G : tc_G} (hW : tc_W G) (r : Int32) (ur : tc_S) : ∀ (n : Nat) (v3 : Nat) (v4 : Nat) (v5 : Int32) (v6 : Int32) (u : tc_S) (iv3 : tc_is G v3 9) (iv4 : tc_is G v4 9) (h : lo_X11_lost_32 G n v3 v4 v5 v6 u = some (r, ur)), tc_R p l e { frames := 3, cells := 0, slots := 0, locals := 68 } s m args below meth c z D cX11_lost RX11 9 (some .int) 0 0 (tc_po r G ur) 0 0 G u 32 [(3, .ref (z + v3)), (4, .ref (z + v4)), (5, .int v5), (6, .int v6)] [] := by
  intro n
  induction n with
  | zero => intro v3 v4 v5 v6 u iv3 iv4 h; cases h
  | succ n ih =>
    intro v3 v4 v5 v6 u iv3 iv4 h
    rw [lo_X11_lost_32] at h
    refine tc_iload 3 rfl dX11_lost_32 ?_
    refine tc_aload_n 0 rfl dX11_lost_34 ?_
    refine tc_geti iv3.1 fl_X11_297 dX11_lost_35 ?_
    refine tc_icmp_ge 103 dX11_lost_38 (by decide) (fun hc3 => ?_) (fun hc3 => ?_)
    · rw [if_pos hc3] at h
      refine tc_iload 2 rfl dX11_lost_103 ?_
      cases h
      exact tc_ireturn rfl dX11_lost_105 rfl rfl ⟨rfl, rfl, rfl⟩
    · rw [if_neg hc3] at h
      refine tc_aload_n 0 rfl dX11_lost_41 ?_
      refine tc_getp hW iv3 fl_X11_171 dX11_lost_42 rfl ?_
      refine tc_iload 3 rfl dX11_lost_45 ?_
      obtain ⟨bx4, x4, ex4, h⟩ := tc_ld_ex h
      refine tc_iald (hW.p iv3 3 rfl).1 bx4 dX11_lost_47 ?_
      refine tc_nm ex4 ?_
      refine tc_istore [(7, .int x4), (3, .ref (z + v3)), (4, .ref (z + v4)), (5, .int v5), (6, .int v6)] dX11_lost_48 (by decide) rfl ?_
      refine tc_iload 0 rfl dX11_lost_50 ?_
      refine tc_if_lt 97 dX11_lost_52 (by decide) (fun hc5 => ?_) (fun hc5 => ?_)
      · rw [if_pos hc5] at h
        refine tc_lvs [1, 2, 3, 4] rfl ?_
        exact sb_X11_lost_97 hW r ur _ ih v3 v4 v5 v6 u iv3 iv4 h
      · rw [if_neg hc5] at h
        refine tc_aload 2 rfl dX11_lost_55 ?_
        refine tc_iload 0 rfl dX11_lost_57 ?_
        obtain ⟨x6, u7, hq8, h⟩ := tc_b_ex h
        refine tc_callVi [.int x4] dX11_lost_59 iv4.1 (ct_X9_locate hW iv4 hq8) ml_X11_131 mw_X9_locate mv_X9_locate ⟨Nat.le_of_ble_eq_true rfl, Nat.le_of_ble_eq_true rfl⟩ rfl rfl (Nat.le_of_ble_eq_true rfl) ⟨Nat.le_refl _, Nat.le_refl _⟩ (by decide) ?_
        refine tc_istore [(8, .int x6), (7, .int x4), (3, .ref (z + v3)), (4, .ref (z + v4)), (5, .int v5), (6, .int v6)] dX11_lost_62 (by decide) rfl ?_
        refine tc_iload 4 rfl dX11_lost_64 ?_
        refine tc_iload 0 rfl dX11_lost_66 ?_
        refine tc_if_lt 93 dX11_lost_68 (by decide) (fun hc9 => ?_) (fun hc9 => ?_)
        · rw [if_pos hc9] at h
          refine tc_lvs [2, 3, 5] rfl ?_
          exact sb_X11_lost_93 hW r ur _ ih v3 v4 v6 v5 u7 iv3 iv4 h
        · rw [if_neg hc9] at h
          refine tc_aload 3 rfl dX11_lost_71 ?_
          refine tc_getp hW iv4 fl_X11_141 dX11_lost_73 rfl ?_
          refine tc_iload 0 rfl dX11_lost_76 ?_
          obtain ⟨bx10, x10, ex10, h⟩ := tc_ld_ex h
          refine tc_iald (hW.p iv4 4 rfl).1 bx10 dX11_lost_78 ?_
          refine tc_nm ex10 ?_
          refine tc_aload_n 2 rfl dX11_lost_79 ?_
          refine tc_getp hW iv3 fl_X11_141 dX11_lost_80 rfl ?_
          refine tc_iload 5 rfl dX11_lost_83 ?_
          obtain ⟨bx11, x11, ex11, h⟩ := tc_ld_ex h
          refine tc_iald (hW.p iv3 4 rfl).1 bx11 dX11_lost_85 ?_
          refine tc_nm ex11 ?_
          refine tc_icmp_ne 93 dX11_lost_86 (by decide) (fun hc12 => ?_) (fun hc12 => ?_)
          · rw [if_neg hc12] at h
            refine tc_lvs [2, 3, 5] rfl ?_
            exact sb_X11_lost_93 hW r ur _ ih v3 v4 v6 v5 u7 iv3 iv4 h
          · rw [if_pos hc12] at h
            refine tc_iconst (v := 0) (by decide) dX11_lost_89 ?_
            refine tc_goto 94 dX11_lost_90 (by decide) ?_
            refine tc_lvs [2, 3, 5] rfl ?_
            exact sb_X11_lost_94 hW r ur _ ih v3 v4 v6 v5 0 u7 iv3 iv4 h
set_option maxRecDepth 100000 in
set_option maxHeartbeats 4000000 in
theorem ct_X11_lost {l : Launch} {z : Nat} {D : tc_D} {G : tc_G} (hW : tc_W G) {v0 : Nat} {v1 : Int32} {u : tc_S} {r : Int32} {ur : tc_S} (iv0 : tc_is G v0 11) (h : fn_X11_lost G v0 v1 u = some (r, ur)) : tc_C l z D yX11_lost cX11_lost 9 (some .int) 3 68 0 0 [.ref (z + v0), .int v1] G u (tc_po r G ur) := by
  unfold fn_X11_lost at h
  refine tc_C.of (by decide) (Nat.le_of_ble_eq_true rfl) fun p e s m args below meth c => ?_
  show tc_R p l e { frames := 3, cells := 0, slots := 0, locals := 68 } s m args below meth c z D cX11_lost RX11 9 (some .int) 0 0 (tc_po r G ur) 0 0 G u 0 [(0, .ref (z + v0)), (1, .int v1)] []
  refine tc_aload_n 0 rfl dX11_lost_0 ?_
  refine tc_iload_n 1 rfl dX11_lost_1 ?_
  rcases tc_bq_ex h with ⟨hq13, h⟩ | ⟨j14, hq13, h⟩
  · refine tc_callVq [.int v1] dX11_lost_2 iv0.1 (ct_X11_imageOf hW iv0 hq13) ml_X11_293 mw_X11_imageOf mv_X11_imageOf ⟨Nat.le_of_ble_eq_true rfl, Nat.le_of_ble_eq_true rfl⟩ rfl rfl (Nat.le_of_ble_eq_true rfl) ⟨Nat.le_refl _, Nat.le_refl _⟩ (by decide) ?_
    refine tc_astore_nN [(2, .null), (0, .ref (z + v0)), (1, .int v1)] dX11_lost_5 (by decide) rfl ?_
    refine tc_aload_nN 0 rfl dX11_lost_6 ?_
    refine tc_ifnonnullN dX11_lost_7 ?_
    refine tc_iconst (v := (-1)) (by decide) dX11_lost_10 ?_
    cases h
    exact tc_ireturn rfl dX11_lost_11 rfl rfl ⟨rfl, rfl, rfl⟩
  · refine tc_callVq [.int v1] dX11_lost_2 iv0.1 (ct_X11_imageOf hW iv0 hq13) ml_X11_293 mw_X11_imageOf mv_X11_imageOf ⟨Nat.le_of_ble_eq_true rfl, Nat.le_of_ble_eq_true rfl⟩ rfl rfl (Nat.le_of_ble_eq_true rfl) ⟨Nat.le_refl _, Nat.le_refl _⟩ (by decide) ?_
    refine tc_astore_n [(2, .ref (z + j14)), (0, .ref (z + v0)), (1, .int v1)] dX11_lost_5 (by decide) rfl ?_
    refine tc_aload_n 0 rfl dX11_lost_6 ?_
    refine tc_ifnonnull 12 dX11_lost_7 (by decide) ?_
    refine tc_aload_n 0 rfl dX11_lost_12 ?_
    refine tc_getp hW (fn_X11_imageOf_is hW iv0 hq13) fl_X11_113 dX11_lost_13 rfl ?_
    refine tc_astore_n [(3, .ref (z + (tc_p G j14 0))), (2, .ref (z + j14)), (0, .ref (z + v0)), (1, .int v1)] dX11_lost_16 (by decide) rfl ?_
    refine tc_aload_n 2 rfl dX11_lost_17 ?_
    refine tc_getp hW iv0 fl_X11_12 dX11_lost_18 rfl ?_
    refine tc_getp hW (hW.p iv0 0 rfl) fl_X11_113 dX11_lost_21 rfl ?_
    refine tc_astore [(4, .ref (z + (tc_p G (tc_p G v0 0) 0))), (3, .ref (z + (tc_p G j14 0))), (2, .ref (z + j14)), (0, .ref (z + v0)), (1, .int v1)] dX11_lost_24 (by decide) rfl ?_
    refine tc_iconst (v := 0) (by decide) dX11_lost_26 ?_
    refine tc_istore [(5, .int 0), (4, .ref (z + (tc_p G (tc_p G v0 0) 0))), (3, .ref (z + (tc_p G j14 0))), (2, .ref (z + j14)), (0, .ref (z + v0)), (1, .int v1)] dX11_lost_27 (by decide) rfl ?_
    refine tc_iconst (v := 0) (by decide) dX11_lost_29 ?_
    refine tc_istore [(6, .int 0), (5, .int 0), (4, .ref (z + (tc_p G (tc_p G v0 0) 0))), (3, .ref (z + (tc_p G j14 0))), (2, .ref (z + j14)), (0, .ref (z + v0)), (1, .int v1)] dX11_lost_30 (by decide) rfl ?_
    refine tc_lvs [3, 2, 1, 0] rfl ?_
    exact sl_X11_lost_32 hW r ur  _ (tc_p G j14 0) (tc_p G (tc_p G v0 0) 0) 0 0 u (hW.p (fn_X11_imageOf_is hW iv0 hq13) 0 rfl) (hW.p (hW.p iv0 0 rfl) 0 rfl) h
set_option maxRecDepth 100000 in
set_option maxHeartbeats 4000000 in
theorem ct_X11_again {l : Launch} {z : Nat} {D : tc_D} {G : tc_G} (hW : tc_W G) {v0 : Nat} {v1 : Int32} {u : tc_S} {r : Int32} {ur : tc_S} (iv0 : tc_is G v0 11) (h : fn_X11_again G v0 v1 u = some (r, ur)) : tc_C l z D yX11_again cX11_again 3 (some .boolean) 4 87 0 0 [.ref (z + v0), .int v1] G u (tc_po r G ur) := by
  unfold fn_X11_again at h
  refine tc_C.of (by decide) (Nat.le_of_ble_eq_true rfl) fun p e s m args below meth c => ?_
  show tc_R p l e { frames := 4, cells := 0, slots := 0, locals := 87 } s m args below meth c z D cX11_again RX11 3 (some .boolean) 0 0 (tc_po r G ur) 0 0 G u 0 [(0, .ref (z + v0)), (1, .int v1)] []
  refine tc_aload_n 0 rfl dX11_again_0 ?_
  refine tc_iload_n 1 rfl dX11_again_1 ?_
  rcases tc_bq_ex h with ⟨hq1, h⟩ | ⟨j2, hq1, h⟩
  · refine tc_callVq [.int v1] dX11_again_2 iv0.1 (ct_X11_imageOf hW iv0 hq1) ml_X11_293 mw_X11_imageOf mv_X11_imageOf ⟨Nat.le_of_ble_eq_true rfl, Nat.le_of_ble_eq_true rfl⟩ rfl rfl (Nat.le_of_ble_eq_true rfl) ⟨Nat.le_refl _, Nat.le_refl _⟩ (by decide) ?_
    refine tc_astore_nN [(2, .null), (0, .ref (z + v0)), (1, .int v1)] dX11_again_5 (by decide) rfl ?_
    refine tc_aload_nN 0 rfl dX11_again_6 ?_
    refine tc_ifnonnullN dX11_again_7 ?_
    refine tc_iconst (v := 0) (by decide) dX11_again_10 ?_
    obtain ⟨hz3, h⟩ := tc_zo_ex h
    cases h
    exact tc_zreturn hz3 rfl dX11_again_11 rfl rfl ⟨rfl, rfl, rfl⟩
  · refine tc_callVq [.int v1] dX11_again_2 iv0.1 (ct_X11_imageOf hW iv0 hq1) ml_X11_293 mw_X11_imageOf mv_X11_imageOf ⟨Nat.le_of_ble_eq_true rfl, Nat.le_of_ble_eq_true rfl⟩ rfl rfl (Nat.le_of_ble_eq_true rfl) ⟨Nat.le_refl _, Nat.le_refl _⟩ (by decide) ?_
    refine tc_astore_n [(2, .ref (z + j2)), (0, .ref (z + v0)), (1, .int v1)] dX11_again_5 (by decide) rfl ?_
    refine tc_aload_n 0 rfl dX11_again_6 ?_
    refine tc_ifnonnull 12 dX11_again_7 (by decide) ?_
    refine tc_aload_n 1 rfl dX11_again_12 ?_
    refine tc_getp hW iv0 fl_X11_12 dX11_again_13 rfl ?_
    refine tc_aload_n 0 rfl dX11_again_16 ?_
    obtain ⟨x4, u5, hq6, h⟩ := tc_b_ex h
    refine tc_callVv [.ref (z + j2)] dX11_again_17 (hW.p iv0 0 rfl).1 (ct_X10_copyFrom hW (hW.p iv0 0 rfl) (fn_X11_imageOf_is hW iv0 hq1) hq6) ml_X11_300 mw_X10_copyFrom mv_X10_copyFrom ⟨Nat.le_of_ble_eq_true rfl, Nat.le_of_ble_eq_true rfl⟩ rfl rfl (Nat.le_of_ble_eq_true rfl) ⟨Nat.le_refl _, Nat.le_refl _⟩ (by decide) ?_
    refine tc_iconst (v := 1) (by decide) dX11_again_20 ?_
    obtain ⟨hz7, h⟩ := tc_zo_ex h
    cases h
    exact tc_zreturn hz7 rfl dX11_again_21 rfl rfl ⟨rfl, rfl, rfl⟩
