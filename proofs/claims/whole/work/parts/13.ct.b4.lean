set_option maxRecDepth 100000 in
set_option maxHeartbeats 4000000 in
theorem sb_X12_fits_58 {p : Program} {l : Launch} {e : Env} {s : State} {m : MethodId} {args : Array Value} {below : List Frame} {meth : Method} {c : Code} {z : Nat} {D : tc_D} {G : tc_G} (hW : tc_W G) (r : Int32) (ur : tc_S) (s0 : Int32) (u : tc_S) (h : bl_X12_fits_58 G s0 u = some (r, ur)) : tc_R p l e { frames := 4, cells := 0, slots := 0, locals := 104 } s m args below meth c z D cX12_fits RX12 2 (some .boolean) 0 0 (tc_po r G ur) 0 0 G u 58 [] [.int s0] := by
  unfold bl_X12_fits_58 at h
  obtain ⟨hz1, h⟩ := tc_zo_ex h
  cases h
  exact tc_zreturn hz1 rfl dX12_fits_58 rfl rfl ⟨rfl, rfl, rfl⟩
set_option maxRecDepth 100000 in
set_option maxHeartbeats 4000000 in
theorem sb_X12_fits_34 {p : Program} {l : Launch} {e : Env} {s : State} {m : MethodId} {args : Array Value} {below : List Frame} {meth : Method} {c : Code} {z : Nat} {D : tc_D} {G : tc_G} (hW : tc_W G) (r : Int32) (ur : tc_S) (v0 : Nat) (u : tc_S) (iv0 : tc_is G v0 12) (h : bl_X12_fits_34 G v0 u = some (r, ur)) : tc_R p l e { frames := 4, cells := 0, slots := 0, locals := 104 } s m args below meth c z D cX12_fits RX12 2 (some .boolean) 0 0 (tc_po r G ur) 0 0 G u 34 [(0, .ref (z + v0))] [] := by
  unfold bl_X12_fits_34 at h
  refine tc_aload_n 0 rfl dX12_fits_34 ?_
  refine tc_aload_n 0 rfl dX12_fits_35 ?_
  refine tc_getp hW iv0 fl_X12_7 dX12_fits_36 rfl ?_
  refine tc_iconst (v := 0) (by decide) dX12_fits_39 ?_
  obtain ⟨bx2, x2, ex2, h⟩ := tc_ld_ex h
  refine tc_iald (hW.p iv0 0 rfl).1 bx2 dX12_fits_40 ?_
  refine tc_nm ex2 ?_
  refine tc_aload_n 0 rfl dX12_fits_41 ?_
  refine tc_getp hW iv0 fl_X12_7 dX12_fits_42 rfl ?_
  refine tc_iconst (v := 1) (by decide) dX12_fits_45 ?_
  obtain ⟨bx3, x3, ex3, h⟩ := tc_ld_ex h
  refine tc_iald (hW.p iv0 0 rfl).1 bx3 dX12_fits_46 ?_
  refine tc_nm ex3 ?_
  obtain ⟨x4, u5, hq6, h⟩ := tc_b_ex h
  refine tc_callVi [.int x2, .int x3] dX12_fits_47 iv0.1 (ct_X12_overBy hW iv0 hq6) ml_X12_221 mw_X12_overBy mv_X12_overBy ⟨Nat.le_of_ble_eq_true rfl, Nat.le_of_ble_eq_true rfl⟩ rfl rfl (Nat.le_of_ble_eq_true rfl) ⟨Nat.le_refl _, Nat.le_refl _⟩ (by decide) ?_
  refine tc_if_ne 57 dX12_fits_50 (by decide) (fun hc7 => ?_) (fun hc7 => ?_)
  · rw [if_neg hc7] at h
    refine tc_iconst (v := 0) (by decide) dX12_fits_57 ?_
    refine tc_lvs [] rfl ?_
    exact sb_X12_fits_58 hW r ur  0 u5  h
  · rw [if_pos hc7] at h
    refine tc_iconst (v := 1) (by decide) dX12_fits_53 ?_
    refine tc_goto 58 dX12_fits_54 (by decide) ?_
    refine tc_lvs [] rfl ?_
    exact sb_X12_fits_58 hW r ur  1 u5  h
set_option maxRecDepth 100000 in
set_option maxHeartbeats 4000000 in
theorem ct_X12_fits {l : Launch} {z : Nat} {D : tc_D} {G : tc_G} (hW : tc_W G) {v0 : Nat} {v1 : Int32} {u : tc_S} {r : Int32} {ur : tc_S} (iv0 : tc_is G v0 12) (h : fn_X12_fits G v0 v1 u = some (r, ur)) : tc_C l z D yX12_fits cX12_fits 2 (some .boolean) 4 104 0 0 [.ref (z + v0), .int v1] G u (tc_po r G ur) := by
  unfold fn_X12_fits at h
  refine tc_C.of (by decide) (Nat.le_of_ble_eq_true rfl) fun p e s m args below meth c => ?_
  show tc_R p l e { frames := 4, cells := 0, slots := 0, locals := 104 } s m args below meth c z D cX12_fits RX12 2 (some .boolean) 0 0 (tc_po r G ur) 0 0 G u 0 [(0, .ref (z + v0)), (1, .int v1)] []
  refine tc_iload_n 1 rfl dX12_fits_0 ?_
  obtain ⟨x8, u9, hq10, h⟩ := tc_b_ex h
  refine tc_callSi [.int v1] dX12_fits_1 (ct_X12_isKey hW hq10) ml_X12_224 mw_X12_isKey ms_X12_isKey ⟨Nat.le_of_ble_eq_true rfl, Nat.le_of_ble_eq_true rfl⟩ rfl rfl (Nat.le_of_ble_eq_true rfl) ⟨Nat.le_refl _, Nat.le_refl _⟩ ?_
  refine tc_if_ne 9 dX12_fits_4 (by decide) (fun hc11 => ?_) (fun hc11 => ?_)
  · rw [if_neg hc11] at h
    refine tc_aload_n 0 rfl dX12_fits_9 ?_
    refine tc_iconst (v := 0) (by decide) dX12_fits_10 ?_
    obtain ⟨x12, u13, hq14, h⟩ := tc_b_ex h
    refine tc_callVv [.int 0] dX12_fits_11 iv0.1 (ct_X12_lists hW iv0 hq14) ml_X12_152 mw_X12_lists mv_X12_lists ⟨Nat.le_of_ble_eq_true rfl, Nat.le_of_ble_eq_true rfl⟩ rfl rfl (Nat.le_of_ble_eq_true rfl) ⟨Nat.le_refl _, Nat.le_refl _⟩ (by decide) ?_
    refine tc_aload_n 0 rfl dX12_fits_14 ?_
    obtain ⟨x15, u16, hq17, h⟩ := tc_b_ex h
    refine tc_callVv [] dX12_fits_15 iv0.1 (ct_X12_asNow hW iv0 hq17) ml_X12_218 mw_X12_asNow mv_X12_asNow ⟨Nat.le_of_ble_eq_true rfl, Nat.le_of_ble_eq_true rfl⟩ rfl rfl (Nat.le_of_ble_eq_true rfl) ⟨Nat.le_refl _, Nat.le_refl _⟩ (by decide) ?_
    refine tc_aload_n 0 rfl dX12_fits_18 ?_
    refine tc_iconst (v := 0) (by decide) dX12_fits_19 ?_
    refine tc_iload_n 1 rfl dX12_fits_20 ?_
    obtain ⟨x18, u19, hq20, h⟩ := tc_b_ex h
    refine tc_callVi [.int 0, .int v1] dX12_fits_21 iv0.1 (ct_X12_lies hW iv0 hq20) ml_X12_166 mw_X12_lies mv_X12_lies ⟨Nat.le_of_ble_eq_true rfl, Nat.le_of_ble_eq_true rfl⟩ rfl rfl (Nat.le_of_ble_eq_true rfl) ⟨Nat.le_refl _, Nat.le_refl _⟩ (by decide) ?_
    refine tc_if_ge 34 dX12_fits_24 (by decide) (fun hc21 => ?_) (fun hc21 => ?_)
    · rw [if_pos hc21] at h
      refine tc_lvs [0] rfl ?_
      exact sb_X12_fits_34 hW r ur  v0 u19 iv0 h
    · rw [if_neg hc21] at h
      refine tc_aload_n 0 rfl dX12_fits_27 ?_
      refine tc_iload_n 1 rfl dX12_fits_28 ?_
      refine tc_iconst (v := 0) (by decide) dX12_fits_29 ?_
      refine tc_iconst (v := 0) (by decide) dX12_fits_30 ?_
      obtain ⟨x22, u23, hq24, h⟩ := tc_b_ex h
      refine tc_callVv [.int v1, .int 0, .int 0] dX12_fits_31 iv0.1 (ct_X12_addsNew hW iv0 hq24) ml_X12_155 mw_X12_addsNew mv_X12_addsNew ⟨Nat.le_of_ble_eq_true rfl, Nat.le_of_ble_eq_true rfl⟩ rfl rfl (Nat.le_of_ble_eq_true rfl) ⟨Nat.le_refl _, Nat.le_refl _⟩ (by decide) ?_
      refine tc_lvs [0] rfl ?_
      exact sb_X12_fits_34 hW r ur  v0 u23 iv0 h
  · rw [if_pos hc11] at h
    refine tc_iconst (v := 0) (by decide) dX12_fits_7 ?_
    obtain ⟨hz25, h⟩ := tc_zo_ex h
    cases h
    exact tc_zreturn hz25 rfl dX12_fits_8 rfl rfl ⟨rfl, rfl, rfl⟩
set_option maxRecDepth 100000 in
set_option maxHeartbeats 4000000 in
theorem sb_X12_drawsBy_42 {p : Program} {l : Launch} {e : Env} {s : State} {m : MethodId} {args : Array Value} {below : List Frame} {meth : Method} {c : Code} {z : Nat} {D : tc_D} {G : tc_G} (hW : tc_W G) (r : Int32) (ur : tc_S) (K7 : Nat → Int32 → tc_S → Option (Int32 × tc_S)) (hK7 : ∀ (v0 : Nat) (v2 : Int32) (u : tc_S), tc_is G v0 12 → K7 v0 v2 u = some (r, ur) → tc_R p l e { frames := 1, cells := 0, slots := 0, locals := 21 } s m args below meth c z D cX12_drawsBy RX12 3 none 0 0 (tc_pv G ur) 0 0 G u 7 [(0, .ref (z + v0)), (2, .int v2)] []) (v0 : Nat) (v2 : Int32) (s0 : Nat) (s1 : Int32) (s2 : Int32) (u : tc_S) (iv0 : tc_is G v0 12) (is0 : tc_is G s0 100) (h : bl_X12_drawsBy_42 G K7 v0 v2 s0 s1 s2 u = some (r, ur)) : tc_R p l e { frames := 1, cells := 0, slots := 0, locals := 21 } s m args below meth c z D cX12_drawsBy RX12 3 none 0 0 (tc_pv G ur) 0 0 G u 42 [(0, .ref (z + v0)), (2, .int v2)] [.int s2, .int s1, .ref (z + s0)] := by
  unfold bl_X12_drawsBy_42 at h
  obtain ⟨bu1, u1, eu1, h⟩ := tc_sd_ex h
  refine tc_iast is0.1 bu1 dX12_drawsBy_42 ?_
  refine tc_nmu eu1 ?_
  obtain ⟨x2, ex2, h⟩ := tc_let_ex h
  refine tc_iinc 1 (v := x2) [(2, .int x2), (0, .ref (z + v0))] dX12_drawsBy_43 rfl (by rw [ex2]; rfl) (by decide) rfl ?_
  refine tc_goto 7 dX12_drawsBy_46 (by decide) ?_
  refine tc_lvs [1, 0] rfl ?_
  exact hK7 v0 x2 u1 iv0 h
set_option maxRecDepth 100000 in
set_option maxHeartbeats 4000000 in
theorem sl_X12_drawsBy_7 {p : Program} {l : Launch} {e : Env} {s : State} {m : MethodId} {args : Array Value} {below : List Frame} {meth : Method} {c : Code} {z : Nat} {D : tc_D} {G : tc_G} (hW : tc_W G) (r : Int32) (ur : tc_S) : ∀ (n : Nat) (v0 : Nat) (v2 : Int32) (u : tc_S) (iv0 : tc_is G v0 12) (h : lo_X12_drawsBy_7 G n v0 v2 u = some (r, ur)), tc_R p l e { frames := 1, cells := 0, slots := 0, locals := 21 } s m args below meth c z D cX12_drawsBy RX12 3 none 0 0 (tc_pv G ur) 0 0 G u 7 [(0, .ref (z + v0)), (2, .int v2)] [] := by
  intro n
  induction n with
  | zero => intro v0 v2 u iv0 h; cases h
  | succ n ih =>
    intro v0 v2 u iv0 h
    rw [lo_X12_drawsBy_7] at h
    refine tc_iload_n 1 rfl dX12_drawsBy_7 ?_
    refine tc_iconst (v := 4) (by decide) dX12_drawsBy_8 ?_
    refine tc_icmp_ge 49 dX12_drawsBy_9 (by decide) (fun hc3 => ?_) (fun hc3 => ?_)
    · rw [if_pos hc3] at h
      cases h
      exact tc_return rfl dX12_drawsBy_49 rfl rfl ⟨rfl, rfl, rfl⟩
    · rw [if_neg hc3] at h
      refine tc_aload_n 0 rfl dX12_drawsBy_12 ?_
      refine tc_getp hW iv0 fl_X12_60 dX12_drawsBy_13 rfl ?_
      refine tc_iload_n 1 rfl dX12_drawsBy_16 ?_
      refine tc_iload_n 1 rfl dX12_drawsBy_17 ?_
      refine tc_iconst (v := 2) (by decide) dX12_drawsBy_18 ?_
      refine tc_irem' (by decide) dX12_drawsBy_19 ?_
      refine tc_if_ne 35 dX12_drawsBy_20 (by decide) (fun hc4 => ?_) (fun hc4 => ?_)
      · rw [if_neg hc4] at h
        refine tc_aload_n 0 rfl dX12_drawsBy_35 ?_
        refine tc_sipush (v := 1009) (by decide) dX12_drawsBy_36 ?_
        obtain ⟨x5, u6, hq7, h⟩ := tc_b_ex h
        refine tc_callVi [.int 1009] dX12_drawsBy_39 iv0.1 (ct_X12_below hW iv0 hq7) ml_X12_182 mw_X12_below mv_X12_below ⟨Nat.le_of_ble_eq_true rfl, Nat.le_of_ble_eq_true rfl⟩ rfl rfl (Nat.le_of_ble_eq_true rfl) ⟨Nat.le_refl _, Nat.le_refl _⟩ (by decide) ?_
        exact sb_X12_drawsBy_42 hW r ur _ ih v0 v2 (tc_p G v0 21) v2 x5 u6 iv0 (hW.p iv0 21 rfl) h
      · rw [if_pos hc4] at h
        refine tc_iconst (v := 1) (by decide) dX12_drawsBy_23 ?_
        refine tc_aload_n 0 rfl dX12_drawsBy_24 ?_
        refine tc_sipush (v := 1008) (by decide) dX12_drawsBy_25 ?_
        obtain ⟨x8, u9, hq10, h⟩ := tc_b_ex h
        refine tc_callVi [.int 1008] dX12_drawsBy_28 iv0.1 (ct_X12_below hW iv0 hq10) ml_X12_182 mw_X12_below mv_X12_below ⟨Nat.le_of_ble_eq_true rfl, Nat.le_of_ble_eq_true rfl⟩ rfl rfl (Nat.le_of_ble_eq_true rfl) ⟨Nat.le_refl _, Nat.le_refl _⟩ (by decide) ?_
        refine tc_iadd dX12_drawsBy_31 ?_
        refine tc_goto 42 dX12_drawsBy_32 (by decide) ?_
        exact sb_X12_drawsBy_42 hW r ur _ ih v0 v2 (tc_p G v0 21) v2 (1 + x8) u9 iv0 (hW.p iv0 21 rfl) h
set_option maxRecDepth 100000 in
set_option maxHeartbeats 4000000 in
theorem ct_X12_drawsBy {l : Launch} {z : Nat} {D : tc_D} {G : tc_G} (hW : tc_W G) {v0 : Nat} {v1 : Int32} {u : tc_S} {r : Int32} {ur : tc_S} (iv0 : tc_is G v0 12) (h : fn_X12_drawsBy G v0 v1 u = some (r, ur)) : tc_C l z D yX12_drawsBy cX12_drawsBy 3 none 1 21 0 0 [.ref (z + v0), .int v1] G u (tc_pv G ur) := by
  unfold fn_X12_drawsBy at h
  refine tc_C.of (by decide) (Nat.le_of_ble_eq_true rfl) fun p e s m args below meth c => ?_
  show tc_R p l e { frames := 1, cells := 0, slots := 0, locals := 21 } s m args below meth c z D cX12_drawsBy RX12 3 none 0 0 (tc_pv G ur) 0 0 G u 0 [(0, .ref (z + v0)), (1, .int v1)] []
  refine tc_aload_n 0 rfl dX12_drawsBy_0 ?_
  refine tc_iload_n 1 rfl dX12_drawsBy_1 ?_
  obtain ⟨u11, eu11, h⟩ := tc_let_ex h
  refine tc_puti iv0.1 fl_X12_179 dX12_drawsBy_2 ?_
  refine tc_nmu eu11 ?_
  refine tc_iconst (v := 0) (by decide) dX12_drawsBy_5 ?_
  refine tc_istore_n [(2, .int 0), (0, .ref (z + v0)), (1, .int v1)] dX12_drawsBy_6 (by decide) rfl ?_
  refine tc_lvs [1, 0] rfl ?_
  exact sl_X12_drawsBy_7 hW r ur  _ v0 0 u11 iv0 h
set_option maxRecDepth 100000 in
set_option maxHeartbeats 4000000 in
theorem sb_X12_least_89 {p : Program} {l : Launch} {e : Env} {s : State} {m : MethodId} {args : Array Value} {below : List Frame} {meth : Method} {c : Code} {z : Nat} {D : tc_D} {G : tc_G} (hW : tc_W G) (r : Int32) (ur : tc_S) (K44 : Nat → Int32 → Int32 → Int32 → tc_S → Option (Int32 × tc_S)) (hK44 : ∀ (v0 : Nat) (v1 : Int32) (v2 : Int32) (v3 : Int32) (u : tc_S), tc_is G v0 12 → K44 v0 v1 v2 v3 u = some (r, ur) → tc_R p l e { frames := 4, cells := 0, slots := 0, locals := 104 } s m args below meth c z D cX12_least RX12 4 (some .int) 0 0 (tc_po r G ur) 0 0 G u 44 [(0, .ref (z + v0)), (1, .int v1), (2, .int v2), (3, .int v3)] []) (v0 : Nat) (v1 : Int32) (v2 : Int32) (v3 : Int32) (s0 : Nat) (s1 : Int32) (s2 : Int32) (u : tc_S) (iv0 : tc_is G v0 12) (is0 : tc_is G s0 12) (h : bl_X12_least_89 G K44 v0 v1 v2 v3 s0 s1 s2 u = some (r, ur)) : tc_R p l e { frames := 4, cells := 0, slots := 0, locals := 104 } s m args below meth c z D cX12_least RX12 4 (some .int) 0 0 (tc_po r G ur) 0 0 G u 89 [(0, .ref (z + v0)), (1, .int v1), (2, .int v2), (3, .int v3)] [.int s2, .int s1, .ref (z + s0)] := by
  unfold bl_X12_least_89 at h
  obtain ⟨x1, u2, hq3, h⟩ := tc_b_ex h
  refine tc_callVi [.int s1, .int s2] dX12_least_89 is0.1 (ct_X12_overBy hW is0 hq3) ml_X12_221 mw_X12_overBy mv_X12_overBy ⟨Nat.le_of_ble_eq_true rfl, Nat.le_of_ble_eq_true rfl⟩ rfl rfl (Nat.le_of_ble_eq_true rfl) ⟨Nat.le_refl _, Nat.le_refl _⟩ (by decide) ?_
  refine tc_if_ne 97 dX12_least_92 (by decide) (fun hc4 => ?_) (fun hc4 => ?_)
  · rw [if_neg hc4] at h
    obtain ⟨x5, ex5, h⟩ := tc_let_ex h
    refine tc_iinc 3 (v := x5) [(3, .int x5), (0, .ref (z + v0)), (1, .int v1), (2, .int v2)] dX12_least_97 rfl (by rw [ex5]; rfl) (by decide) rfl ?_
    refine tc_goto 44 dX12_least_100 (by decide) ?_
    refine tc_lvs [1, 2, 3, 0] rfl ?_
    exact hK44 v0 v1 v2 x5 u2 iv0 h
  · rw [if_pos hc4] at h
    refine tc_iload_n 3 rfl dX12_least_95 ?_
    cases h
    exact tc_ireturn rfl dX12_least_96 rfl rfl ⟨rfl, rfl, rfl⟩
set_option maxRecDepth 100000 in
set_option maxHeartbeats 4000000 in
theorem sb_X12_least_74 {p : Program} {l : Launch} {e : Env} {s : State} {m : MethodId} {args : Array Value} {below : List Frame} {meth : Method} {c : Code} {z : Nat} {D : tc_D} {G : tc_G} (hW : tc_W G) (r : Int32) (ur : tc_S) (K44 : Nat → Int32 → Int32 → Int32 → tc_S → Option (Int32 × tc_S)) (hK44 : ∀ (v0 : Nat) (v1 : Int32) (v2 : Int32) (v3 : Int32) (u : tc_S), tc_is G v0 12 → K44 v0 v1 v2 v3 u = some (r, ur) → tc_R p l e { frames := 4, cells := 0, slots := 0, locals := 104 } s m args below meth c z D cX12_least RX12 4 (some .int) 0 0 (tc_po r G ur) 0 0 G u 44 [(0, .ref (z + v0)), (1, .int v1), (2, .int v2), (3, .int v3)] []) (v0 : Nat) (v1 : Int32) (v2 : Int32) (v3 : Int32) (s0 : Nat) (s1 : Int32) (u : tc_S) (iv0 : tc_is G v0 12) (is0 : tc_is G s0 12) (h : bl_X12_least_74 G K44 v0 v1 v2 v3 s0 s1 u = some (r, ur)) : tc_R p l e { frames := 4, cells := 0, slots := 0, locals := 104 } s m args below meth c z D cX12_least RX12 4 (some .int) 0 0 (tc_po r G ur) 0 0 G u 74 [(0, .ref (z + v0)), (1, .int v1), (2, .int v2), (3, .int v3)] [.int s1, .ref (z + s0)] := by
  unfold bl_X12_least_74 at h
  refine tc_iload_n 1 rfl dX12_least_74 ?_
  refine tc_iconst (v := 1) (by decide) dX12_least_75 ?_
  refine tc_icmp_ne 83 dX12_least_76 (by decide) (fun hc6 => ?_) (fun hc6 => ?_)
  · rw [if_neg hc6] at h
    refine tc_aload_n 0 rfl dX12_least_83 ?_
    refine tc_getp hW iv0 fl_X12_7 dX12_least_84 rfl ?_
    refine tc_iconst (v := 1) (by decide) dX12_least_87 ?_
    obtain ⟨bx7, x7, ex7, h⟩ := tc_ld_ex h
    refine tc_iald (hW.p iv0 0 rfl).1 bx7 dX12_least_88 ?_
    refine tc_nm ex7 ?_
    exact sb_X12_least_89 hW r ur K44 hK44 v0 v1 v2 v3 s0 s1 x7 u iv0 is0 h
  · rw [if_pos hc6] at h
    refine tc_iload_n 3 rfl dX12_least_79 ?_
    refine tc_goto 89 dX12_least_80 (by decide) ?_
    exact sb_X12_least_89 hW r ur K44 hK44 v0 v1 v2 v3 s0 s1 v3 u iv0 is0 h
set_option maxRecDepth 100000 in
set_option maxHeartbeats 4000000 in
theorem sb_X12_least_59 {p : Program} {l : Launch} {e : Env} {s : State} {m : MethodId} {args : Array Value} {below : List Frame} {meth : Method} {c : Code} {z : Nat} {D : tc_D} {G : tc_G} (hW : tc_W G) (r : Int32) (ur : tc_S) (K44 : Nat → Int32 → Int32 → Int32 → tc_S → Option (Int32 × tc_S)) (hK44 : ∀ (v0 : Nat) (v1 : Int32) (v2 : Int32) (v3 : Int32) (u : tc_S), tc_is G v0 12 → K44 v0 v1 v2 v3 u = some (r, ur) → tc_R p l e { frames := 4, cells := 0, slots := 0, locals := 104 } s m args below meth c z D cX12_least RX12 4 (some .int) 0 0 (tc_po r G ur) 0 0 G u 44 [(0, .ref (z + v0)), (1, .int v1), (2, .int v2), (3, .int v3)] []) (v0 : Nat) (v1 : Int32) (v2 : Int32) (v3 : Int32) (u : tc_S) (iv0 : tc_is G v0 12) (h : bl_X12_least_59 G K44 v0 v1 v2 v3 u = some (r, ur)) : tc_R p l e { frames := 4, cells := 0, slots := 0, locals := 104 } s m args below meth c z D cX12_least RX12 4 (some .int) 0 0 (tc_po r G ur) 0 0 G u 59 [(0, .ref (z + v0)), (1, .int v1), (2, .int v2), (3, .int v3)] [] := by
  unfold bl_X12_least_59 at h
  refine tc_aload_n 0 rfl dX12_least_59 ?_
  refine tc_iload_n 1 rfl dX12_least_60 ?_
  refine tc_if_ne 68 dX12_least_61 (by decide) (fun hc8 => ?_) (fun hc8 => ?_)
  · rw [if_neg hc8] at h
    refine tc_aload_n 0 rfl dX12_least_68 ?_
    refine tc_getp hW iv0 fl_X12_7 dX12_least_69 rfl ?_
    refine tc_iconst (v := 0) (by decide) dX12_least_72 ?_
    obtain ⟨bx9, x9, ex9, h⟩ := tc_ld_ex h
    refine tc_iald (hW.p iv0 0 rfl).1 bx9 dX12_least_73 ?_
    refine tc_nm ex9 ?_
    exact sb_X12_least_74 hW r ur K44 hK44 v0 v1 v2 v3 v0 x9 u iv0 iv0 h
  · rw [if_pos hc8] at h
    refine tc_iload_n 3 rfl dX12_least_64 ?_
    refine tc_goto 74 dX12_least_65 (by decide) ?_
    exact sb_X12_least_74 hW r ur K44 hK44 v0 v1 v2 v3 v0 v3 u iv0 iv0 h
set_option maxRecDepth 100000 in
set_option maxHeartbeats 4000000 in
theorem sl_X12_least_44 {p : Program} {l : Launch} {e : Env} {s : State} {m : MethodId} {args : Array Value} {below : List Frame} {meth : Method} {c : Code} {z : Nat} {D : tc_D} {G : tc_G} (hW : tc_W G) (r : Int32) (ur : tc_S) : ∀ (n : Nat) (v0 : Nat) (v1 : Int32) (v2 : Int32) (v3 : Int32) (u : tc_S) (iv0 : tc_is G v0 12) (h : lo_X12_least_44 G n v0 v1 v2 v3 u = some (r, ur)), tc_R p l e { frames := 4, cells := 0, slots := 0, locals := 104 } s m args below meth c z D cX12_least RX12 4 (some .int) 0 0 (tc_po r G ur) 0 0 G u 44 [(0, .ref (z + v0)), (1, .int v1), (2, .int v2), (3, .int v3)] [] := by
  intro n
  induction n with
  | zero => intro v0 v1 v2 v3 u iv0 h; cases h
  | succ n ih =>
    intro v0 v1 v2 v3 u iv0 h
    rw [lo_X12_least_44] at h
    refine tc_iload_n 3 rfl dX12_least_44 ?_
    refine tc_iload_n 2 rfl dX12_least_45 ?_
    refine tc_icmp_gt 103 dX12_least_46 (by decide) (fun hc10 => ?_) (fun hc10 => ?_)
    · rw [if_pos hc10] at h
      refine tc_iconst (v := (-1)) (by decide) dX12_least_103 ?_
      cases h
      exact tc_ireturn rfl dX12_least_104 rfl rfl ⟨rfl, rfl, rfl⟩
    · rw [if_neg hc10] at h
      refine tc_iload_n 1 rfl dX12_least_49 ?_
      refine tc_iconst (v := 2) (by decide) dX12_least_50 ?_
      refine tc_icmp_ne 59 dX12_least_51 (by decide) (fun hc11 => ?_) (fun hc11 => ?_)
      · rw [if_neg hc11] at h
        exact sb_X12_least_59 hW r ur _ ih v0 v1 v2 v3 u iv0 h
      · rw [if_pos hc11] at h
        refine tc_aload_n 0 rfl dX12_least_54 ?_
        refine tc_iload_n 3 rfl dX12_least_55 ?_
        obtain ⟨x12, u13, hq14, h⟩ := tc_b_ex h
        refine tc_callVv [.int v3] dX12_least_56 iv0.1 (ct_X12_drawsBy hW iv0 hq14) ml_X12_227 mw_X12_drawsBy mv_X12_drawsBy ⟨Nat.le_of_ble_eq_true rfl, Nat.le_of_ble_eq_true rfl⟩ rfl rfl (Nat.le_of_ble_eq_true rfl) ⟨Nat.le_refl _, Nat.le_refl _⟩ (by decide) ?_
        exact sb_X12_least_59 hW r ur _ ih v0 v1 v2 v3 u13 iv0 h
set_option maxRecDepth 100000 in
set_option maxHeartbeats 4000000 in
theorem sb_X12_least_41 {p : Program} {l : Launch} {e : Env} {s : State} {m : MethodId} {args : Array Value} {below : List Frame} {meth : Method} {c : Code} {z : Nat} {D : tc_D} {G : tc_G} (hW : tc_W G) (r : Int32) (ur : tc_S) (v0 : Nat) (v1 : Int32) (s0 : Int32) (u : tc_S) (iv0 : tc_is G v0 12) (h : bl_X12_least_41 G v0 v1 s0 u = some (r, ur)) : tc_R p l e { frames := 4, cells := 0, slots := 0, locals := 104 } s m args below meth c z D cX12_least RX12 4 (some .int) 0 0 (tc_po r G ur) 0 0 G u 41 [(0, .ref (z + v0)), (1, .int v1)] [.int s0] := by
  unfold bl_X12_least_41 at h
  refine tc_istore_n [(2, .int s0), (0, .ref (z + v0)), (1, .int v1)] dX12_least_41 (by decide) rfl ?_
  refine tc_iconst (v := 1) (by decide) dX12_least_42 ?_
  refine tc_istore_n [(3, .int 1), (2, .int s0), (0, .ref (z + v0)), (1, .int v1)] dX12_least_43 (by decide) rfl ?_
  refine tc_lvs [2, 3, 1, 0] rfl ?_
  exact sl_X12_least_44 hW r ur  _ v0 v1 s0 1 u iv0 h
set_option maxRecDepth 100000 in
set_option maxHeartbeats 4000000 in
theorem ct_X12_least {l : Launch} {z : Nat} {D : tc_D} {G : tc_G} (hW : tc_W G) {v0 : Nat} {v1 : Int32} {u : tc_S} {r : Int32} {ur : tc_S} (iv0 : tc_is G v0 12) (h : fn_X12_least G v0 v1 u = some (r, ur)) : tc_C l z D yX12_least cX12_least 4 (some .int) 4 104 0 0 [.ref (z + v0), .int v1] G u (tc_po r G ur) := by
  unfold fn_X12_least at h
  refine tc_C.of (by decide) (Nat.le_of_ble_eq_true rfl) fun p e s m args below meth c => ?_
  show tc_R p l e { frames := 4, cells := 0, slots := 0, locals := 104 } s m args below meth c z D cX12_least RX12 4 (some .int) 0 0 (tc_po r G ur) 0 0 G u 0 [(0, .ref (z + v0)), (1, .int v1)] []
  refine tc_iload_n 1 rfl dX12_least_0 ?_
  refine tc_iconst (v := 0) (by decide) dX12_least_1 ?_
  refine tc_iconst (v := 2) (by decide) dX12_least_2 ?_
  obtain ⟨x15, u16, hq17, h⟩ := tc_b_ex h
  refine tc_callSi [.int v1, .int 0, .int 2] dX12_least_3 (ct_X12_isIn hW hq17) ml_X12_79 mw_X12_isIn ms_X12_isIn ⟨Nat.le_of_ble_eq_true rfl, Nat.le_of_ble_eq_true rfl⟩ rfl rfl (Nat.le_of_ble_eq_true rfl) ⟨Nat.le_refl _, Nat.le_refl _⟩ ?_
  refine tc_if_ne 11 dX12_least_6 (by decide) (fun hc18 => ?_) (fun hc18 => ?_)
  · rw [if_neg hc18] at h
    refine tc_aload_n 0 rfl dX12_least_11 ?_
    refine tc_iconst (v := 0) (by decide) dX12_least_12 ?_
    obtain ⟨x19, u20, hq21, h⟩ := tc_b_ex h
    refine tc_callVv [.int 0] dX12_least_13 iv0.1 (ct_X12_lists hW iv0 hq21) ml_X12_152 mw_X12_lists mv_X12_lists ⟨Nat.le_of_ble_eq_true rfl, Nat.le_of_ble_eq_true rfl⟩ rfl rfl (Nat.le_of_ble_eq_true rfl) ⟨Nat.le_refl _, Nat.le_refl _⟩ (by decide) ?_
    refine tc_aload_n 0 rfl dX12_least_16 ?_
    obtain ⟨x22, u23, hq24, h⟩ := tc_b_ex h
    refine tc_callVv [] dX12_least_17 iv0.1 (ct_X12_asNow hW iv0 hq24) ml_X12_218 mw_X12_asNow mv_X12_asNow ⟨Nat.le_of_ble_eq_true rfl, Nat.le_of_ble_eq_true rfl⟩ rfl rfl (Nat.le_of_ble_eq_true rfl) ⟨Nat.le_refl _, Nat.le_refl _⟩ (by decide) ?_
    refine tc_iload_n 1 rfl dX12_least_20 ?_
    refine tc_if_ne 29 dX12_least_21 (by decide) (fun hc25 => ?_) (fun hc25 => ?_)
    · rw [if_neg hc25] at h
      refine tc_iload_n 1 rfl dX12_least_29 ?_
      refine tc_iconst (v := 1) (by decide) dX12_least_30 ?_
      refine tc_icmp_ne 39 dX12_least_31 (by decide) (fun hc26 => ?_) (fun hc26 => ?_)
      · rw [if_neg hc26] at h
        refine tc_bipush (v := 40) (by decide) dX12_least_39 ?_
        exact sb_X12_least_41 hW r ur  v0 v1 40 u23 iv0 h
      · rw [if_pos hc26] at h
        refine tc_bipush (v := 9) (by decide) dX12_least_34 ?_
        refine tc_goto 41 dX12_least_36 (by decide) ?_
        exact sb_X12_least_41 hW r ur  v0 v1 9 u23 iv0 h
    · rw [if_pos hc25] at h
      refine tc_bipush (v := 32) (by decide) dX12_least_24 ?_
      refine tc_goto 41 dX12_least_26 (by decide) ?_
      exact sb_X12_least_41 hW r ur  v0 v1 32 u23 iv0 h
  · rw [if_pos hc18] at h
    refine tc_iconst (v := (-1)) (by decide) dX12_least_9 ?_
    cases h
    exact tc_ireturn rfl dX12_least_10 rfl rfl ⟨rfl, rfl, rfl⟩
set_option maxRecDepth 100000 in
set_option maxHeartbeats 4000000 in
theorem sb_X12_partOf_85 {p : Program} {l : Launch} {e : Env} {s : State} {m : MethodId} {args : Array Value} {below : List Frame} {meth : Method} {c : Code} {z : Nat} {D : tc_D} {G : tc_G} (hW : tc_W G) (r : Int32) (ur : tc_S) (K11 : Nat → Int32 → Int32 → tc_S → Option (Int32 × tc_S)) (hK11 : ∀ (v0 : Nat) (v2 : Int32) (v3 : Int32) (u : tc_S), tc_is G v0 12 → K11 v0 v2 v3 u = some (r, ur) → tc_R p l e { frames := 3, cells := 0, slots := 0, locals := 66 } s m args below meth c z D cX12_partOf RX12 6 (some .int) 0 0 (tc_po r G ur) 0 0 G u 11 [(0, .ref (z + v0)), (2, .int v2), (3, .int v3)] []) (K21 : Nat → Int32 → Int32 → Int32 → tc_S → Option (Int32 × tc_S)) (hK21 : ∀ (v0 : Nat) (v2 : Int32) (v3 : Int32) (v4 : Int32) (u : tc_S), tc_is G v0 12 → K21 v0 v2 v3 v4 u = some (r, ur) → tc_R p l e { frames := 3, cells := 0, slots := 0, locals := 66 } s m args below meth c z D cX12_partOf RX12 6 (some .int) 0 0 (tc_po r G ur) 0 0 G u 21 [(0, .ref (z + v0)), (2, .int v2), (3, .int v3), (4, .int v4)] []) (v0 : Nat) (v3 : Int32) (v4 : Int32) (s0 : Int32) (s1 : Int32) (u : tc_S) (iv0 : tc_is G v0 12) (h : bl_X12_partOf_85 G K11 K21 v0 v3 v4 s0 s1 u = some (r, ur)) : tc_R p l e { frames := 3, cells := 0, slots := 0, locals := 66 } s m args below meth c z D cX12_partOf RX12 6 (some .int) 0 0 (tc_po r G ur) 0 0 G u 85 [(0, .ref (z + v0)), (3, .int v3), (4, .int v4)] [.int s1, .int s0] := by
  unfold bl_X12_partOf_85 at h
  refine tc_ior dX12_partOf_85 ?_
  obtain ⟨x1, ex1, h⟩ := tc_let_ex h
  refine tc_nm ex1 ?_
  refine tc_istore_n [(2, .int x1), (0, .ref (z + v0)), (3, .int v3), (4, .int v4)] dX12_partOf_86 (by decide) rfl ?_
  obtain ⟨x2, ex2, h⟩ := tc_let_ex h
  refine tc_iinc 3 (v := x2) [(4, .int x2), (2, .int x1), (0, .ref (z + v0)), (3, .int v3)] dX12_partOf_87 rfl (by rw [ex2]; rfl) (by decide) rfl ?_
  refine tc_goto 21 dX12_partOf_90 (by decide) ?_
  refine tc_lvs [2, 1, 3, 0] rfl ?_
  exact hK21 v0 x1 v3 x2 u iv0 h
set_option maxRecDepth 100000 in
set_option maxHeartbeats 4000000 in
theorem sl_X12_partOf_21 {p : Program} {l : Launch} {e : Env} {s : State} {m : MethodId} {args : Array Value} {below : List Frame} {meth : Method} {c : Code} {z : Nat} {D : tc_D} {G : tc_G} (hW : tc_W G) (r : Int32) (ur : tc_S) (K11 : Nat → Int32 → Int32 → tc_S → Option (Int32 × tc_S)) (hK11 : ∀ (v0 : Nat) (v2 : Int32) (v3 : Int32) (u : tc_S), tc_is G v0 12 → K11 v0 v2 v3 u = some (r, ur) → tc_R p l e { frames := 3, cells := 0, slots := 0, locals := 66 } s m args below meth c z D cX12_partOf RX12 6 (some .int) 0 0 (tc_po r G ur) 0 0 G u 11 [(0, .ref (z + v0)), (2, .int v2), (3, .int v3)] []) : ∀ (n : Nat) (v0 : Nat) (v2 : Int32) (v3 : Int32) (v4 : Int32) (u : tc_S) (iv0 : tc_is G v0 12) (h : lo_X12_partOf_21 G K11 n v0 v2 v3 v4 u = some (r, ur)), tc_R p l e { frames := 3, cells := 0, slots := 0, locals := 66 } s m args below meth c z D cX12_partOf RX12 6 (some .int) 0 0 (tc_po r G ur) 0 0 G u 21 [(0, .ref (z + v0)), (2, .int v2), (3, .int v3), (4, .int v4)] [] := by
  intro n
  induction n with
  | zero => intro v0 v2 v3 v4 u iv0 h; cases h
  | succ n ih =>
    intro v0 v2 v3 v4 u iv0 h
    rw [lo_X12_partOf_21] at h
    refine tc_iload 3 rfl dX12_partOf_21 ?_
    refine tc_aload_n 0 rfl dX12_partOf_23 ?_
    refine tc_geti iv0.1 fl_X12_142 dX12_partOf_24 ?_
    refine tc_icmp_ge 93 dX12_partOf_27 (by decide) (fun hc3 => ?_) (fun hc3 => ?_)
    · rw [if_pos hc3] at h
      refine tc_goto 11 dX12_partOf_93 (by decide) ?_
      refine tc_lvs [0, 1, 2] rfl ?_
      exact hK11 v0 v2 v3 u iv0 h
    · rw [if_neg hc3] at h
      refine tc_iconst (v := 1) (by decide) dX12_partOf_30 ?_
      refine tc_aload_n 0 rfl dX12_partOf_31 ?_
      refine tc_iconst (v := 0) (by decide) dX12_partOf_32 ?_
      refine tc_aload_n 0 rfl dX12_partOf_33 ?_
      refine tc_getp hW iv0 fl_X12_39 dX12_partOf_34 rfl ?_
      refine tc_iconst (v := 4) (by decide) dX12_partOf_37 ?_
      refine tc_iload 3 rfl dX12_partOf_38 ?_
      refine tc_imul dX12_partOf_40 ?_
      obtain ⟨bx4, x4, ex4, h⟩ := tc_ld_ex h
      refine tc_iald (hW.p iv0 11 rfl).1 bx4 dX12_partOf_41 ?_
      refine tc_nm ex4 ?_
      refine tc_iconst (v := 1) (by decide) dX12_partOf_42 ?_
      refine tc_isub dX12_partOf_43 ?_
      refine tc_iconst (v := 0) (by decide) dX12_partOf_44 ?_
      obtain ⟨x5, u6, hq7, h⟩ := tc_b_ex h
      refine tc_callVi [.int 0, .int (x4 - 1), .int 0] dX12_partOf_45 iv0.1 (ct_X12_hashOf hW iv0 hq7) ml_X12_88 mw_X12_hashOf mv_X12_hashOf ⟨Nat.le_of_ble_eq_true rfl, Nat.le_of_ble_eq_true rfl⟩ rfl rfl (Nat.le_of_ble_eq_true rfl) ⟨Nat.le_refl _, Nat.le_refl _⟩ (by decide) ?_
      refine tc_ishl dX12_partOf_48 ?_
      refine tc_iconst (v := 1) (by decide) dX12_partOf_49 ?_
      refine tc_aload_n 0 rfl dX12_partOf_50 ?_
      refine tc_iconst (v := 0) (by decide) dX12_partOf_51 ?_
      refine tc_aload_n 0 rfl dX12_partOf_52 ?_
      refine tc_getp hW iv0 fl_X12_39 dX12_partOf_53 rfl ?_
      refine tc_iconst (v := 4) (by decide) dX12_partOf_56 ?_
      refine tc_iload 3 rfl dX12_partOf_57 ?_
      refine tc_imul dX12_partOf_59 ?_
      obtain ⟨bx8, x8, ex8, h⟩ := tc_ld_ex h
      refine tc_iald (hW.p iv0 11 rfl).1 bx8 dX12_partOf_60 ?_
      refine tc_nm ex8 ?_
      refine tc_iconst (v := 1) (by decide) dX12_partOf_61 ?_
      refine tc_isub dX12_partOf_62 ?_
      refine tc_iconst (v := 1) (by decide) dX12_partOf_63 ?_
      obtain ⟨x9, u10, hq11, h⟩ := tc_b_ex h
      refine tc_callVi [.int 0, .int (x8 - 1), .int 1] dX12_partOf_64 iv0.1 (ct_X12_hashOf hW iv0 hq11) ml_X12_88 mw_X12_hashOf mv_X12_hashOf ⟨Nat.le_of_ble_eq_true rfl, Nat.le_of_ble_eq_true rfl⟩ rfl rfl (Nat.le_of_ble_eq_true rfl) ⟨Nat.le_refl _, Nat.le_refl _⟩ (by decide) ?_
      refine tc_ishl dX12_partOf_67 ?_
      refine tc_ior dX12_partOf_68 ?_
      obtain ⟨x12, ex12, h⟩ := tc_let_ex h
      refine tc_nm ex12 ?_
      refine tc_istore [(5, .int x12), (0, .ref (z + v0)), (2, .int v2), (3, .int v3), (4, .int v4)] dX12_partOf_69 (by decide) rfl ?_
      refine tc_iload_n 2 rfl dX12_partOf_71 ?_
      refine tc_iload_n 2 rfl dX12_partOf_72 ?_
      refine tc_iload 0 rfl dX12_partOf_73 ?_
      refine tc_iand dX12_partOf_75 ?_
      refine tc_if_eq 84 dX12_partOf_76 (by decide) (fun hc13 => ?_) (fun hc13 => ?_)
      · rw [if_pos hc13] at h
        refine tc_iconst (v := 0) (by decide) dX12_partOf_84 ?_
        refine tc_lvs [1, 3, 4] rfl ?_
        exact sb_X12_partOf_85 hW r ur K11 hK11 _ ih v0 v3 v4 v2 0 u10 iv0 h
      · rw [if_neg hc13] at h
        refine tc_iload 0 rfl dX12_partOf_79 ?_
        refine tc_goto 85 dX12_partOf_81 (by decide) ?_
        refine tc_lvs [1, 3, 4] rfl ?_
        exact sb_X12_partOf_85 hW r ur K11 hK11 _ ih v0 v3 v4 v2 x12 u10 iv0 h
set_option maxRecDepth 100000 in
set_option maxHeartbeats 4000000 in
theorem sl_X12_partOf_11 {p : Program} {l : Launch} {e : Env} {s : State} {m : MethodId} {args : Array Value} {below : List Frame} {meth : Method} {c : Code} {z : Nat} {D : tc_D} {G : tc_G} (hW : tc_W G) (r : Int32) (ur : tc_S) : ∀ (n : Nat) (v0 : Nat) (v2 : Int32) (v3 : Int32) (u : tc_S) (iv0 : tc_is G v0 12) (h : lo_X12_partOf_11 G n v0 v2 v3 u = some (r, ur)), tc_R p l e { frames := 3, cells := 0, slots := 0, locals := 66 } s m args below meth c z D cX12_partOf RX12 6 (some .int) 0 0 (tc_po r G ur) 0 0 G u 11 [(0, .ref (z + v0)), (2, .int v2), (3, .int v3)] [] := by
  intro n
  induction n with
  | zero => intro v0 v2 v3 u iv0 h; cases h
  | succ n ih =>
    intro v0 v2 v3 u iv0 h
    rw [lo_X12_partOf_11] at h
    refine tc_iload_n 1 rfl dX12_partOf_11 ?_
    refine tc_iload_n 2 rfl dX12_partOf_12 ?_
    refine tc_icmp_eq 96 dX12_partOf_13 (by decide) (fun hc14 => ?_) (fun hc14 => ?_)
    · rw [if_pos hc14] at h
      refine tc_iload_n 1 rfl dX12_partOf_96 ?_
      cases h
      exact tc_ireturn rfl dX12_partOf_97 rfl rfl ⟨rfl, rfl, rfl⟩
    · rw [if_neg hc14] at h
      refine tc_iload_n 1 rfl dX12_partOf_16 ?_
      refine tc_istore_n [(3, .int v2), (0, .ref (z + v0)), (2, .int v2)] dX12_partOf_17 (by decide) rfl ?_
      refine tc_iconst (v := 0) (by decide) dX12_partOf_18 ?_
      refine tc_istore [(4, .int 0), (3, .int v2), (0, .ref (z + v0)), (2, .int v2)] dX12_partOf_19 (by decide) rfl ?_
      refine tc_lvs [2, 3, 1, 0] rfl ?_
      exact sl_X12_partOf_21 hW r ur _ ih _ v0 v2 v2 0 u iv0 h
set_option maxRecDepth 100000 in
set_option maxHeartbeats 4000000 in
theorem ct_X12_partOf {l : Launch} {z : Nat} {D : tc_D} {G : tc_G} (hW : tc_W G) {v0 : Nat} {v1 : Int32} {u : tc_S} {r : Int32} {ur : tc_S} (iv0 : tc_is G v0 12) (h : fn_X12_partOf G v0 v1 u = some (r, ur)) : tc_C l z D yX12_partOf cX12_partOf 6 (some .int) 3 66 0 0 [.ref (z + v0), .int v1] G u (tc_po r G ur) := by
  unfold fn_X12_partOf at h
  refine tc_C.of (by decide) (Nat.le_of_ble_eq_true rfl) fun p e s m args below meth c => ?_
  show tc_R p l e { frames := 3, cells := 0, slots := 0, locals := 66 } s m args below meth c z D cX12_partOf RX12 6 (some .int) 0 0 (tc_po r G ur) 0 0 G u 0 [(0, .ref (z + v0)), (1, .int v1)] []
  refine tc_aload_n 0 rfl dX12_partOf_0 ?_
  refine tc_iconst (v := 0) (by decide) dX12_partOf_1 ?_
  obtain ⟨x15, u16, hq17, h⟩ := tc_b_ex h
  refine tc_callVv [.int 0] dX12_partOf_2 iv0.1 (ct_X12_lists hW iv0 hq17) ml_X12_152 mw_X12_lists mv_X12_lists ⟨Nat.le_of_ble_eq_true rfl, Nat.le_of_ble_eq_true rfl⟩ rfl rfl (Nat.le_of_ble_eq_true rfl) ⟨Nat.le_refl _, Nat.le_refl _⟩ (by decide) ?_
  refine tc_iconst (v := 1) (by decide) dX12_partOf_5 ?_
  refine tc_iload_n 1 rfl dX12_partOf_6 ?_
  refine tc_ishl dX12_partOf_7 ?_
  obtain ⟨x18, ex18, h⟩ := tc_let_ex h
  refine tc_nm ex18 ?_
  refine tc_istore_n [(2, .int x18), (0, .ref (z + v0)), (1, .int v1)] dX12_partOf_8 (by decide) rfl ?_
  refine tc_iconst (v := 0) (by decide) dX12_partOf_9 ?_
  refine tc_istore_n [(3, .int 0), (2, .int x18), (0, .ref (z + v0)), (1, .int v1)] dX12_partOf_10 (by decide) rfl ?_
  refine tc_lvs [2, 1, 0] rfl ?_
  exact sl_X12_partOf_11 hW r ur  _ v0 x18 0 u16 iv0 h
set_option maxRecDepth 100000 in
set_option maxHeartbeats 4000000 in
theorem sl_X12_bitsOf_4 {p : Program} {l : Launch} {e : Env} {s : State} {m : MethodId} {args : Array Value} {below : List Frame} {meth : Method} {c : Code} {z : Nat} {D : tc_D} {G : tc_G} (hW : tc_W G) (r : Int32) (ur : tc_S) : ∀ (n : Nat) (v1 : Int32) (v2 : Int32) (u : tc_S) (h : lo_X12_bitsOf_4 G n v1 v2 u = some (r, ur)), tc_R p l e { frames := 0, cells := 0, slots := 0, locals := 0 } s m args below meth c z D cX12_bitsOf RX12 3 (some .int) 0 0 (tc_po r G ur) 0 0 G u 4 [(1, .int v1), (2, .int v2)] [] := by
  intro n
  induction n with
  | zero => intro v1 v2 u  h; cases h
  | succ n ih =>
    intro v1 v2 u  h
    rw [lo_X12_bitsOf_4] at h
    refine tc_iload_n 1 rfl dX12_bitsOf_4 ?_
    refine tc_if_eq 20 dX12_bitsOf_5 (by decide) (fun hc1 => ?_) (fun hc1 => ?_)
    · rw [if_pos hc1] at h
      refine tc_iload_n 0 rfl dX12_bitsOf_20 ?_
      cases h
      exact tc_ireturn rfl dX12_bitsOf_21 rfl rfl ⟨rfl, rfl, rfl⟩
    · rw [if_neg hc1] at h
      obtain ⟨x2, ex2, h⟩ := tc_let_ex h
      refine tc_iinc 0 (v := x2) [(1, .int x2), (2, .int v2)] dX12_bitsOf_8 rfl (by rw [ex2]; rfl) (by decide) rfl ?_
      refine tc_iload_n 1 rfl dX12_bitsOf_11 ?_
      refine tc_iload_n 1 rfl dX12_bitsOf_12 ?_
      refine tc_iconst (v := 1) (by decide) dX12_bitsOf_13 ?_
      refine tc_isub dX12_bitsOf_14 ?_
      refine tc_iand dX12_bitsOf_15 ?_
      obtain ⟨x3, ex3, h⟩ := tc_let_ex h
      refine tc_nm ex3 ?_
      refine tc_istore_n [(2, .int x3), (1, .int x2)] dX12_bitsOf_16 (by decide) rfl ?_
      refine tc_goto 4 dX12_bitsOf_17 (by decide) ?_
      refine tc_lvs [1, 0] rfl ?_
      exact ih x2 x3 u  h
set_option maxRecDepth 100000 in
set_option maxHeartbeats 4000000 in
theorem ct_X12_bitsOf {l : Launch} {z : Nat} {D : tc_D} {G : tc_G} (hW : tc_W G) {v0 : Int32} {u : tc_S} {r : Int32} {ur : tc_S} (h : fn_X12_bitsOf G v0 u = some (r, ur)) : tc_C l z D yX12_bitsOf cX12_bitsOf 3 (some .int) 0 0 0 0 [.int v0] G u (tc_po r G ur) := by
  unfold fn_X12_bitsOf at h
  refine tc_C.of (by decide) (Nat.le_of_ble_eq_true rfl) fun p e s m args below meth c => ?_
  show tc_R p l e { frames := 0, cells := 0, slots := 0, locals := 0 } s m args below meth c z D cX12_bitsOf RX12 3 (some .int) 0 0 (tc_po r G ur) 0 0 G u 0 [(0, .int v0)] []
  refine tc_iconst (v := 0) (by decide) dX12_bitsOf_0 ?_
  refine tc_istore_n [(1, .int 0), (0, .int v0)] dX12_bitsOf_1 (by decide) rfl ?_
  refine tc_iload_n 1 rfl dX12_bitsOf_2 ?_
  refine tc_istore_n [(2, .int v0), (1, .int 0), (0, .int v0)] dX12_bitsOf_3 (by decide) rfl ?_
  refine tc_lvs [1, 0] rfl ?_
  exact sl_X12_bitsOf_4 hW r ur  _ 0 v0 u  h
set_option maxRecDepth 100000 in
set_option maxHeartbeats 4000000 in
theorem sl_X12_membersOf_4 {p : Program} {l : Launch} {e : Env} {s : State} {m : MethodId} {args : Array Value} {below : List Frame} {meth : Method} {c : Code} {z : Nat} {D : tc_D} {G : tc_G} (hW : tc_W G) (r : Int32) (ur : tc_S) : ∀ (n : Nat) (v0 : Nat) (v1 : Int32) (v2 : Int32) (v3 : Int32) (u : tc_S) (iv0 : tc_is G v0 12) (h : lo_X12_membersOf_4 G n v0 v1 v2 v3 u = some (r, ur)), tc_R p l e { frames := 1, cells := 0, slots := 0, locals := 23 } s m args below meth c z D cX12_membersOf RX12 4 (some .int) 0 0 (tc_po r G ur) 0 0 G u 4 [(0, .ref (z + v0)), (1, .int v1), (2, .int v2), (3, .int v3)] [] := by
  intro n
  induction n with
  | zero => intro v0 v1 v2 v3 u iv0 h; cases h
  | succ n ih =>
    intro v0 v1 v2 v3 u iv0 h
    rw [lo_X12_membersOf_4] at h
    refine tc_iload_n 3 rfl dX12_membersOf_4 ?_
    refine tc_aload_n 0 rfl dX12_membersOf_5 ?_
    refine tc_geti iv0.1 fl_X12_142 dX12_membersOf_6 ?_
    refine tc_icmp_ge 41 dX12_membersOf_9 (by decide) (fun hc1 => ?_) (fun hc1 => ?_)
    · rw [if_pos hc1] at h
      refine tc_iload_n 2 rfl dX12_membersOf_41 ?_
      cases h
      exact tc_ireturn rfl dX12_membersOf_42 rfl rfl ⟨rfl, rfl, rfl⟩
    · rw [if_neg hc1] at h
      refine tc_iload_n 2 rfl dX12_membersOf_12 ?_
      refine tc_iload_n 1 rfl dX12_membersOf_13 ?_
      refine tc_aload_n 0 rfl dX12_membersOf_14 ?_
      refine tc_iconst (v := 0) (by decide) dX12_membersOf_15 ?_
      refine tc_aload_n 0 rfl dX12_membersOf_16 ?_
      refine tc_getp hW iv0 fl_X12_39 dX12_membersOf_17 rfl ?_
      refine tc_iconst (v := 4) (by decide) dX12_membersOf_20 ?_
      refine tc_iload_n 3 rfl dX12_membersOf_21 ?_
      refine tc_imul dX12_membersOf_22 ?_
      obtain ⟨bx2, x2, ex2, h⟩ := tc_ld_ex h
      refine tc_iald (hW.p iv0 11 rfl).1 bx2 dX12_membersOf_23 ?_
      refine tc_nm ex2 ?_
      refine tc_iconst (v := 1) (by decide) dX12_membersOf_24 ?_
      refine tc_isub dX12_membersOf_25 ?_
      refine tc_iconst (v := 0) (by decide) dX12_membersOf_26 ?_
      obtain ⟨x3, u4, hq5, h⟩ := tc_b_ex h
      refine tc_callVi [.int 0, .int (x2 - 1), .int 0] dX12_membersOf_27 iv0.1 (ct_X12_hashOf hW iv0 hq5) ml_X12_88 mw_X12_hashOf mv_X12_hashOf ⟨Nat.le_of_ble_eq_true rfl, Nat.le_of_ble_eq_true rfl⟩ rfl rfl (Nat.le_of_ble_eq_true rfl) ⟨Nat.le_refl _, Nat.le_refl _⟩ (by decide) ?_
      refine tc_ishr dX12_membersOf_30 ?_
      refine tc_iconst (v := 1) (by decide) dX12_membersOf_31 ?_
      refine tc_iand dX12_membersOf_32 ?_
      refine tc_iadd dX12_membersOf_33 ?_
      obtain ⟨x6, ex6, h⟩ := tc_let_ex h
      refine tc_nm ex6 ?_
      refine tc_istore_n [(2, .int x6), (0, .ref (z + v0)), (1, .int v1), (3, .int v3)] dX12_membersOf_34 (by decide) rfl ?_
      obtain ⟨x7, ex7, h⟩ := tc_let_ex h
      refine tc_iinc 3 (v := x7) [(3, .int x7), (2, .int x6), (0, .ref (z + v0)), (1, .int v1)] dX12_membersOf_35 rfl (by rw [ex7]; rfl) (by decide) rfl ?_
      refine tc_goto 4 dX12_membersOf_38 (by decide) ?_
      refine tc_lvs [2, 3, 1, 0] rfl ?_
      exact ih v0 v1 x6 x7 u4 iv0 h
set_option maxRecDepth 100000 in
set_option maxHeartbeats 4000000 in
theorem ct_X12_membersOf {l : Launch} {z : Nat} {D : tc_D} {G : tc_G} (hW : tc_W G) {v0 : Nat} {v1 : Int32} {u : tc_S} {r : Int32} {ur : tc_S} (iv0 : tc_is G v0 12) (h : fn_X12_membersOf G v0 v1 u = some (r, ur)) : tc_C l z D yX12_membersOf cX12_membersOf 4 (some .int) 1 23 0 0 [.ref (z + v0), .int v1] G u (tc_po r G ur) := by
  unfold fn_X12_membersOf at h
  refine tc_C.of (by decide) (Nat.le_of_ble_eq_true rfl) fun p e s m args below meth c => ?_
  show tc_R p l e { frames := 1, cells := 0, slots := 0, locals := 23 } s m args below meth c z D cX12_membersOf RX12 4 (some .int) 0 0 (tc_po r G ur) 0 0 G u 0 [(0, .ref (z + v0)), (1, .int v1)] []
  refine tc_iconst (v := 0) (by decide) dX12_membersOf_0 ?_
  refine tc_istore_n [(2, .int 0), (0, .ref (z + v0)), (1, .int v1)] dX12_membersOf_1 (by decide) rfl ?_
  refine tc_iconst (v := 0) (by decide) dX12_membersOf_2 ?_
  refine tc_istore_n [(3, .int 0), (2, .int 0), (0, .ref (z + v0)), (1, .int v1)] dX12_membersOf_3 (by decide) rfl ?_
  refine tc_lvs [2, 3, 1, 0] rfl ?_
  exact sl_X12_membersOf_4 hW r ur  _ v0 v1 0 0 u iv0 h
set_option maxRecDepth 100000 in
set_option maxHeartbeats 4000000 in
theorem sb_X12_part_25 {p : Program} {l : Launch} {e : Env} {s : State} {m : MethodId} {args : Array Value} {below : List Frame} {meth : Method} {c : Code} {z : Nat} {D : tc_D} {G : tc_G} (hW : tc_W G) (r : Int32) (ur : tc_S) (u : tc_S) (h : bl_X12_part_25 G  u = some (r, ur)) : tc_R p l e { frames := 4, cells := 0, slots := 0, locals := 91 } s m args below meth c z D cX12_part RX12 8 (some .int) 0 0 (tc_po r G ur) 0 0 G u 25 [] [] := by
  unfold bl_X12_part_25 at h
  refine tc_iconst (v := (-1)) (by decide) dX12_part_25 ?_
  cases h
  exact tc_ireturn rfl dX12_part_26 rfl rfl ⟨rfl, rfl, rfl⟩
set_option maxRecDepth 100000 in
set_option maxHeartbeats 4000000 in
theorem sl_X12_part_110 {p : Program} {l : Launch} {e : Env} {s : State} {m : MethodId} {args : Array Value} {below : List Frame} {meth : Method} {c : Code} {z : Nat} {D : tc_D} {G : tc_G} (hW : tc_W G) (r : Int32) (ur : tc_S) : ∀ (n : Nat) (v0 : Nat) (v3 : Int32) (v5 : Int32) (v6 : Int32) (v7 : Int32) (u : tc_S) (iv0 : tc_is G v0 12) (h : lo_X12_part_110 G n v0 v3 v5 v6 v7 u = some (r, ur)), tc_R p l e { frames := 4, cells := 0, slots := 0, locals := 91 } s m args below meth c z D cX12_part RX12 8 (some .int) 0 0 (tc_po r G ur) 0 0 G u 110 [(0, .ref (z + v0)), (3, .int v3), (5, .int v5), (6, .int v6), (7, .int v7)] [] := by
  intro n
  induction n with
  | zero => intro v0 v3 v5 v6 v7 u iv0 h; cases h
  | succ n ih =>
    intro v0 v3 v5 v6 v7 u iv0 h
    rw [lo_X12_part_110] at h
    refine tc_iload 4 rfl dX12_part_110 ?_
    refine tc_aload_n 0 rfl dX12_part_112 ?_
    refine tc_getp hW iv0 fl_X12_7 dX12_part_113 rfl ?_
    refine tc_iconst (v := 0) (by decide) dX12_part_116 ?_
    obtain ⟨bx1, x1, ex1, h⟩ := tc_ld_ex h
    refine tc_iald (hW.p iv0 0 rfl).1 bx1 dX12_part_117 ?_
    refine tc_nm ex1 ?_
    refine tc_icmp_ge 146 dX12_part_118 (by decide) (fun hc2 => ?_) (fun hc2 => ?_)
    · rw [if_pos hc2] at h
      refine tc_iload 2 rfl dX12_part_146 ?_
      refine tc_aload_n 0 rfl dX12_part_148 ?_
      refine tc_getp hW iv0 fl_X12_7 dX12_part_149 rfl ?_
      refine tc_iconst (v := 1) (by decide) dX12_part_152 ?_
      obtain ⟨bx3, x3, ex3, h⟩ := tc_ld_ex h
      refine tc_iald (hW.p iv0 0 rfl).1 bx3 dX12_part_153 ?_
      refine tc_nm ex3 ?_
      refine tc_imul dX12_part_154 ?_
      refine tc_iload 3 rfl dX12_part_155 ?_
      refine tc_isub dX12_part_157 ?_
      cases h
      exact tc_ireturn rfl dX12_part_158 rfl rfl ⟨rfl, rfl, rfl⟩
    · rw [if_neg hc2] at h
      refine tc_iload 3 rfl dX12_part_121 ?_
      refine tc_iload_n 1 rfl dX12_part_123 ?_
      refine tc_iload 4 rfl dX12_part_124 ?_
      refine tc_ishr dX12_part_126 ?_
      refine tc_iconst (v := 1) (by decide) dX12_part_127 ?_
      refine tc_iand dX12_part_128 ?_
      refine tc_aload_n 0 rfl dX12_part_129 ?_
      refine tc_iconst (v := 0) (by decide) dX12_part_130 ?_
      refine tc_iload 4 rfl dX12_part_131 ?_
      obtain ⟨x4, u5, hq6, h⟩ := tc_b_ex h
      refine tc_callVi [.int 0, .int v7] dX12_part_133 iv0.1 (ct_X12_inBucket hW iv0 hq6) ml_X12_239 mw_X12_inBucket mv_X12_inBucket ⟨Nat.le_of_ble_eq_true rfl, Nat.le_of_ble_eq_true rfl⟩ rfl rfl (Nat.le_of_ble_eq_true rfl) ⟨Nat.le_refl _, Nat.le_refl _⟩ (by decide) ?_
      refine tc_imul dX12_part_136 ?_
      refine tc_iadd dX12_part_137 ?_
      obtain ⟨x7, ex7, h⟩ := tc_let_ex h
      refine tc_nm ex7 ?_
      refine tc_istore [(6, .int x7), (0, .ref (z + v0)), (3, .int v3), (5, .int v5), (7, .int v7)] dX12_part_138 (by decide) rfl ?_
      obtain ⟨x8, ex8, h⟩ := tc_let_ex h
      refine tc_iinc 4 (v := x8) [(7, .int x8), (6, .int x7), (0, .ref (z + v0)), (3, .int v3), (5, .int v5)] dX12_part_140 rfl (by rw [ex8]; rfl) (by decide) rfl ?_
      refine tc_goto 110 dX12_part_143 (by decide) ?_
      refine tc_lvs [2, 3, 4, 1, 0] rfl ?_
      exact ih v0 v3 v5 x7 x8 u5 iv0 h
set_option maxRecDepth 100000 in
set_option maxHeartbeats 4000000 in
theorem sb_X12_part_103 {p : Program} {l : Launch} {e : Env} {s : State} {m : MethodId} {args : Array Value} {below : List Frame} {meth : Method} {c : Code} {z : Nat} {D : tc_D} {G : tc_G} (hW : tc_W G) (r : Int32) (ur : tc_S) (s0 : Int32) (u : tc_S) (h : bl_X12_part_103 G s0 u = some (r, ur)) : tc_R p l e { frames := 4, cells := 0, slots := 0, locals := 91 } s m args below meth c z D cX12_part RX12 8 (some .int) 0 0 (tc_po r G ur) 0 0 G u 103 [] [.int s0] := by
  unfold bl_X12_part_103 at h
  cases h
  exact tc_ireturn rfl dX12_part_103 rfl rfl ⟨rfl, rfl, rfl⟩
set_option maxRecDepth 100000 in
set_option maxHeartbeats 4000000 in
theorem ct_X12_part {l : Launch} {z : Nat} {D : tc_D} {G : tc_G} (hW : tc_W G) {v0 : Nat} {v1 : Int32} {v2 : Int32} {u : tc_S} {r : Int32} {ur : tc_S} (iv0 : tc_is G v0 12) (h : fn_X12_part G v0 v1 v2 u = some (r, ur)) : tc_C l z D yX12_part cX12_part 8 (some .int) 4 91 0 0 [.ref (z + v0), .int v1, .int v2] G u (tc_po r G ur) := by
  unfold fn_X12_part at h
  refine tc_C.of (by decide) (Nat.le_of_ble_eq_true rfl) fun p e s m args below meth c => ?_
  show tc_R p l e { frames := 4, cells := 0, slots := 0, locals := 91 } s m args below meth c z D cX12_part RX12 8 (some .int) 0 0 (tc_po r G ur) 0 0 G u 0 [(0, .ref (z + v0)), (1, .int v1), (2, .int v2)] []
  refine tc_iload_n 1 rfl dX12_part_0 ?_
  refine tc_iconst (v := 0) (by decide) dX12_part_1 ?_
  refine tc_aload_n 0 rfl dX12_part_2 ?_
  refine tc_getp hW iv0 fl_X12_7 dX12_part_3 rfl ?_
  refine tc_iconst (v := 0) (by decide) dX12_part_6 ?_
  obtain ⟨bx9, x9, ex9, h⟩ := tc_ld_ex h
  refine tc_iald (hW.p iv0 0 rfl).1 bx9 dX12_part_7 ?_
  refine tc_nm ex9 ?_
  refine tc_iconst (v := 1) (by decide) dX12_part_8 ?_
  refine tc_isub dX12_part_9 ?_
  obtain ⟨x10, u11, hq12, h⟩ := tc_b_ex h
  refine tc_callSi [.int v1, .int 0, .int (x9 - 1)] dX12_part_10 (ct_X12_isIn hW hq12) ml_X12_79 mw_X12_isIn ms_X12_isIn ⟨Nat.le_of_ble_eq_true rfl, Nat.le_of_ble_eq_true rfl⟩ rfl rfl (Nat.le_of_ble_eq_true rfl) ⟨Nat.le_refl _, Nat.le_refl _⟩ ?_
  refine tc_if_eq 25 dX12_part_13 (by decide) (fun hc13 => ?_) (fun hc13 => ?_)
  · rw [if_pos hc13] at h
    refine tc_lvs [] rfl ?_
    exact sb_X12_part_25 hW r ur   u11  h
  · rw [if_neg hc13] at h
    refine tc_iload_n 2 rfl dX12_part_16 ?_
    refine tc_iconst (v := 0) (by decide) dX12_part_17 ?_
    refine tc_iconst (v := 4) (by decide) dX12_part_18 ?_
    obtain ⟨x14, u15, hq16, h⟩ := tc_b_ex h
    refine tc_callSi [.int v2, .int 0, .int 4] dX12_part_19 (ct_X12_isIn hW hq16) ml_X12_79 mw_X12_isIn ms_X12_isIn ⟨Nat.le_of_ble_eq_true rfl, Nat.le_of_ble_eq_true rfl⟩ rfl rfl (Nat.le_of_ble_eq_true rfl) ⟨Nat.le_refl _, Nat.le_refl _⟩ ?_
    refine tc_if_ne 27 dX12_part_22 (by decide) (fun hc17 => ?_) (fun hc17 => ?_)
    · rw [if_neg hc17] at h
      refine tc_aload_n 0 rfl dX12_part_27 ?_
      refine tc_iload_n 1 rfl dX12_part_28 ?_
      obtain ⟨x18, u19, hq20, h⟩ := tc_b_ex h
      refine tc_callVi [.int v1] dX12_part_29 iv0.1 (ct_X12_partOf hW iv0 hq20) ml_X12_230 mw_X12_partOf mv_X12_partOf ⟨Nat.le_of_ble_eq_true rfl, Nat.le_of_ble_eq_true rfl⟩ rfl rfl (Nat.le_of_ble_eq_true rfl) ⟨Nat.le_refl _, Nat.le_refl _⟩ (by decide) ?_
      refine tc_istore_n [(3, .int x18), (0, .ref (z + v0)), (1, .int v1), (2, .int v2)] dX12_part_32 (by decide) rfl ?_
      refine tc_aload_n 1 rfl dX12_part_33 ?_
      refine tc_iload_n 0 rfl dX12_part_34 ?_
      obtain ⟨x21, u22, hq23, h⟩ := tc_b_ex h
      refine tc_callVi [.int x18] dX12_part_35 iv0.1 (ct_X12_membersOf hW iv0 hq23) ml_X12_233 mw_X12_membersOf mv_X12_membersOf ⟨Nat.le_of_ble_eq_true rfl, Nat.le_of_ble_eq_true rfl⟩ rfl rfl (Nat.le_of_ble_eq_true rfl) ⟨Nat.le_refl _, Nat.le_refl _⟩ (by decide) ?_
      refine tc_istore [(4, .int x21), (3, .int x18), (0, .ref (z + v0)), (1, .int v1), (2, .int v2)] dX12_part_38 (by decide) rfl ?_
      refine tc_iload_n 1 rfl dX12_part_40 ?_
      obtain ⟨x24, u25, hq26, h⟩ := tc_b_ex h
      refine tc_callSi [.int x18] dX12_part_41 (ct_X12_bitsOf hW hq26) ml_X12_236 mw_X12_bitsOf ms_X12_bitsOf ⟨Nat.le_of_ble_eq_true rfl, Nat.le_of_ble_eq_true rfl⟩ rfl rfl (Nat.le_of_ble_eq_true rfl) ⟨Nat.le_refl _, Nat.le_refl _⟩ ?_
      refine tc_istore [(5, .int x24), (4, .int x21), (3, .int x18), (0, .ref (z + v0)), (1, .int v1), (2, .int v2)] dX12_part_44 (by decide) rfl ?_
      refine tc_iload_n 5 rfl dX12_part_46 ?_
      refine tc_if_ne 52 dX12_part_47 (by decide) (fun hc27 => ?_) (fun hc27 => ?_)
      · rw [if_neg hc27] at h
        refine tc_iload_n 5 rfl dX12_part_52 ?_
        refine tc_iconst (v := 1) (by decide) dX12_part_53 ?_
        refine tc_icmp_ne 60 dX12_part_54 (by decide) (fun hc28 => ?_) (fun hc28 => ?_)
        · rw [if_neg hc28] at h
          refine tc_iload_n 5 rfl dX12_part_60 ?_
          refine tc_iconst (v := 2) (by decide) dX12_part_61 ?_
          refine tc_icmp_ne 75 dX12_part_62 (by decide) (fun hc29 => ?_) (fun hc29 => ?_)
          · rw [if_neg hc29] at h
            refine tc_iload_n 5 rfl dX12_part_75 ?_
            refine tc_iconst (v := 3) (by decide) dX12_part_76 ?_
            refine tc_icmp_ne 104 dX12_part_77 (by decide) (fun hc30 => ?_) (fun hc30 => ?_)
            · rw [if_neg hc30] at h
              refine tc_iconst (v := 0) (by decide) dX12_part_104 ?_
              refine tc_istore [(6, .int 0), (5, .int x24), (4, .int x21), (3, .int x18), (0, .ref (z + v0)), (1, .int v1), (2, .int v2)] dX12_part_105 (by decide) rfl ?_
              refine tc_iconst (v := 0) (by decide) dX12_part_107 ?_
              refine tc_istore [(7, .int 0), (6, .int 0), (5, .int x24), (4, .int x21), (3, .int x18), (0, .ref (z + v0)), (1, .int v1), (2, .int v2)] dX12_part_108 (by decide) rfl ?_
              refine tc_lvs [5, 4, 2, 1, 0] rfl ?_
              exact sl_X12_part_110 hW r ur  _ v0 x18 x24 0 0 u25 iv0 h
            · rw [if_pos hc30] at h
              refine tc_iload 1 rfl dX12_part_80 ?_
              refine tc_iload 0 rfl dX12_part_82 ?_
              refine tc_icmp_ge 91 dX12_part_84 (by decide) (fun hc31 => ?_) (fun hc31 => ?_)
              · rw [if_pos hc31] at h
                refine tc_iload 1 rfl dX12_part_91 ?_
                refine tc_iload 0 rfl dX12_part_93 ?_
                refine tc_icmp_ne 102 dX12_part_95 (by decide) (fun hc32 => ?_) (fun hc32 => ?_)
                · rw [if_neg hc32] at h
                  refine tc_iconst (v := 2) (by decide) dX12_part_102 ?_
                  refine tc_lvs [] rfl ?_
                  exact sb_X12_part_103 hW r ur  2 u25  h
                · rw [if_pos hc32] at h
                  refine tc_iconst (v := 1) (by decide) dX12_part_98 ?_
                  refine tc_goto 103 dX12_part_99 (by decide) ?_
                  refine tc_lvs [] rfl ?_
                  exact sb_X12_part_103 hW r ur  1 u25  h
              · rw [if_neg hc31] at h
                refine tc_iconst (v := 0) (by decide) dX12_part_87 ?_
                refine tc_goto 103 dX12_part_88 (by decide) ?_
                refine tc_lvs [] rfl ?_
                exact sb_X12_part_103 hW r ur  0 u25  h
          · rw [if_pos hc29] at h
            refine tc_iload 0 rfl dX12_part_65 ?_
            refine tc_aload_n 3 rfl dX12_part_67 ?_
            refine tc_getp hW iv0 fl_X12_7 dX12_part_68 rfl ?_
            refine tc_iconst (v := 1) (by decide) dX12_part_71 ?_
            obtain ⟨bx33, x33, ex33, h⟩ := tc_ld_ex h
            refine tc_iald (hW.p iv0 0 rfl).1 bx33 dX12_part_72 ?_
            refine tc_nm ex33 ?_
            refine tc_imul dX12_part_73 ?_
            cases h
            exact tc_ireturn rfl dX12_part_74 rfl rfl ⟨rfl, rfl, rfl⟩
        · rw [if_pos hc28] at h
          refine tc_iload 1 rfl dX12_part_57 ?_
          cases h
          exact tc_ireturn rfl dX12_part_59 rfl rfl ⟨rfl, rfl, rfl⟩
      · rw [if_pos hc27] at h
        refine tc_iload_n 2 rfl dX12_part_50 ?_
        cases h
        exact tc_ireturn rfl dX12_part_51 rfl rfl ⟨rfl, rfl, rfl⟩
    · rw [if_pos hc17] at h
      refine tc_lvs [] rfl ?_
      exact sb_X12_part_25 hW r ur   u15  h
set_option maxRecDepth 100000 in
set_option maxHeartbeats 4000000 in
theorem sb_X12_feed_71 {p : Program} {l : Launch} {e : Env} {s : State} {m : MethodId} {args : Array Value} {below : List Frame} {meth : Method} {c : Code} {z : Nat} {D : tc_D} {G : tc_G} (hW : tc_W G) (r : Int32) (ur : tc_S) (K18 : Nat → Int32 → Int32 → Int32 → Int32 → Int32 → Int32 → tc_S → Option (Int32 × tc_S)) (hK18 : ∀ (v0 : Nat) (v1 : Int32) (v2 : Int32) (v3 : Int32) (v4 : Int32) (v5 : Int32) (v6 : Int32) (u : tc_S), tc_is G v0 12 → K18 v0 v1 v2 v3 v4 v5 v6 u = some (r, ur) → tc_R p l e { frames := 0, cells := 0, slots := 0, locals := 0 } s m args below meth c z D cX12_feed RX12 8 (some .int) 0 0 (tc_po r G ur) 0 0 G u 18 [(0, .ref (z + v0)), (1, .int v1), (2, .int v2), (3, .int v3), (4, .int v4), (5, .int v5), (6, .int v6)] []) (v0 : Nat) (v1 : Int32) (v2 : Int32) (v3 : Int32) (v4 : Int32) (v5 : Int32) (v6 : Int32) (s0 : Int32) (u : tc_S) (iv0 : tc_is G v0 12) (h : bl_X12_feed_71 G K18 v0 v1 v2 v3 v4 v5 v6 s0 u = some (r, ur)) : tc_R p l e { frames := 0, cells := 0, slots := 0, locals := 0 } s m args below meth c z D cX12_feed RX12 8 (some .int) 0 0 (tc_po r G ur) 0 0 G u 71 [(0, .ref (z + v0)), (1, .int v1), (2, .int v2), (3, .int v3), (4, .int v4), (5, .int v5), (6, .int v6)] [.int s0] := by
  unfold bl_X12_feed_71 at h
  refine tc_istore [(7, .int s0), (0, .ref (z + v0)), (1, .int v1), (2, .int v2), (3, .int v3), (4, .int v4), (5, .int v5), (6, .int v6)] dX12_feed_71 (by decide) rfl ?_
  refine tc_aload_n 1 rfl dX12_feed_73 ?_
  refine tc_getp hW iv0 fl_X12_13 dX12_feed_74 rfl ?_
  refine tc_aload_n 1 rfl dX12_feed_77 ?_
  refine tc_geti iv0.1 fl_X12_242 dX12_feed_78 ?_
  refine tc_iload 7 rfl dX12_feed_81 ?_
  refine tc_iadd dX12_feed_83 ?_
  refine tc_iload 0 rfl dX12_feed_84 ?_
  refine tc_bipush (v := 24) (by decide) dX12_feed_86 ?_
  refine tc_bipush (v := 8) (by decide) dX12_feed_88 ?_
  refine tc_iload 7 rfl dX12_feed_90 ?_
  refine tc_iconst (v := 3) (by decide) dX12_feed_92 ?_
  refine tc_iand dX12_feed_93 ?_
  refine tc_imul dX12_feed_94 ?_
  refine tc_isub dX12_feed_95 ?_
  refine tc_ishr dX12_feed_96 ?_
  refine tc_sipush (v := 255) (by decide) dX12_feed_97 ?_
  refine tc_iand dX12_feed_100 ?_
  obtain ⟨bu1, u1, eu1, h⟩ := tc_sd_ex h
  refine tc_iast (hW.p iv0 1 rfl).1 bu1 dX12_feed_101 ?_
  refine tc_nmu eu1 ?_
  obtain ⟨x2, ex2, h⟩ := tc_let_ex h
  refine tc_iinc 7 (v := x2) [(6, .int x2), (7, .int s0), (0, .ref (z + v0)), (1, .int v1), (2, .int v2), (3, .int v3), (4, .int v4), (5, .int v5)] dX12_feed_102 rfl (by rw [ex2]; rfl) (by decide) rfl ?_
  refine tc_goto 18 dX12_feed_105 (by decide) ?_
  refine tc_lvs [2, 3, 4, 5, 6, 7, 0] rfl ?_
  exact hK18 v0 v1 v2 v3 v4 v5 x2 u1 iv0 h
set_option maxRecDepth 100000 in
set_option maxHeartbeats 4000000 in
theorem sl_X12_feed_18 {p : Program} {l : Launch} {e : Env} {s : State} {m : MethodId} {args : Array Value} {below : List Frame} {meth : Method} {c : Code} {z : Nat} {D : tc_D} {G : tc_G} (hW : tc_W G) (r : Int32) (ur : tc_S) : ∀ (n : Nat) (v0 : Nat) (v1 : Int32) (v2 : Int32) (v3 : Int32) (v4 : Int32) (v5 : Int32) (v6 : Int32) (u : tc_S) (iv0 : tc_is G v0 12) (h : lo_X12_feed_18 G n v0 v1 v2 v3 v4 v5 v6 u = some (r, ur)), tc_R p l e { frames := 0, cells := 0, slots := 0, locals := 0 } s m args below meth c z D cX12_feed RX12 8 (some .int) 0 0 (tc_po r G ur) 0 0 G u 18 [(0, .ref (z + v0)), (1, .int v1), (2, .int v2), (3, .int v3), (4, .int v4), (5, .int v5), (6, .int v6)] [] := by
  intro n
  induction n with
  | zero => intro v0 v1 v2 v3 v4 v5 v6 u iv0 h; cases h
  | succ n ih =>
    intro v0 v1 v2 v3 v4 v5 v6 u iv0 h
    rw [lo_X12_feed_18] at h
    refine tc_iload 6 rfl dX12_feed_18 ?_
    refine tc_bipush (v := 20) (by decide) dX12_feed_20 ?_
    refine tc_icmp_ge 108 dX12_feed_22 (by decide) (fun hc3 => ?_) (fun hc3 => ?_)
    · rw [if_pos hc3] at h
      refine tc_aload_n 0 rfl dX12_feed_108 ?_
      refine tc_dup rfl dX12_feed_109 ?_
      refine tc_geti iv0.1 fl_X12_242 dX12_feed_110 ?_
      refine tc_bipush (v := 20) (by decide) dX12_feed_113 ?_
      refine tc_iadd dX12_feed_115 ?_
      obtain ⟨u4, eu4, h⟩ := tc_let_ex h
      refine tc_puti iv0.1 fl_X12_242 dX12_feed_116 ?_
      refine tc_nmu eu4 ?_
      refine tc_aload_n 0 rfl dX12_feed_119 ?_
      refine tc_geti iv0.1 fl_X12_242 dX12_feed_120 ?_
      cases h
      exact tc_ireturn rfl dX12_feed_123 rfl rfl ⟨rfl, rfl, rfl⟩
    · rw [if_neg hc3] at h
      refine tc_iload 6 rfl dX12_feed_25 ?_
      refine tc_iconst (v := 4) (by decide) dX12_feed_27 ?_
      refine tc_icmp_ge 35 dX12_feed_28 (by decide) (fun hc5 => ?_) (fun hc5 => ?_)
      · rw [if_pos hc5] at h
        refine tc_iload 6 rfl dX12_feed_35 ?_
        refine tc_bipush (v := 8) (by decide) dX12_feed_37 ?_
        refine tc_icmp_ge 46 dX12_feed_39 (by decide) (fun hc6 => ?_) (fun hc6 => ?_)
        · rw [if_pos hc6] at h
          refine tc_iload 6 rfl dX12_feed_46 ?_
          refine tc_bipush (v := 12) (by decide) dX12_feed_48 ?_
          refine tc_icmp_ge 57 dX12_feed_50 (by decide) (fun hc7 => ?_) (fun hc7 => ?_)
          · rw [if_pos hc7] at h
            refine tc_iload 6 rfl dX12_feed_57 ?_
            refine tc_bipush (v := 16) (by decide) dX12_feed_59 ?_
            refine tc_icmp_ge 69 dX12_feed_61 (by decide) (fun hc8 => ?_) (fun hc8 => ?_)
            · rw [if_pos hc8] at h
              refine tc_iload 5 rfl dX12_feed_69 ?_
              exact sb_X12_feed_71 hW r ur _ ih v0 v1 v2 v3 v4 v5 v6 v5 u iv0 h
            · rw [if_neg hc8] at h
              refine tc_iload 4 rfl dX12_feed_64 ?_
              refine tc_goto 71 dX12_feed_66 (by decide) ?_
              exact sb_X12_feed_71 hW r ur _ ih v0 v1 v2 v3 v4 v5 v6 v4 u iv0 h
          · rw [if_neg hc7] at h
            refine tc_iload_n 3 rfl dX12_feed_53 ?_
            refine tc_goto 71 dX12_feed_54 (by decide) ?_
            exact sb_X12_feed_71 hW r ur _ ih v0 v1 v2 v3 v4 v5 v6 v3 u iv0 h
        · rw [if_neg hc6] at h
          refine tc_iload_n 2 rfl dX12_feed_42 ?_
          refine tc_goto 71 dX12_feed_43 (by decide) ?_
          exact sb_X12_feed_71 hW r ur _ ih v0 v1 v2 v3 v4 v5 v6 v2 u iv0 h
      · rw [if_neg hc5] at h
        refine tc_iload_n 1 rfl dX12_feed_31 ?_
        refine tc_goto 71 dX12_feed_32 (by decide) ?_
        exact sb_X12_feed_71 hW r ur _ ih v0 v1 v2 v3 v4 v5 v6 v1 u iv0 h
set_option maxRecDepth 100000 in
set_option maxHeartbeats 4000000 in
theorem ct_X12_feed {l : Launch} {z : Nat} {D : tc_D} {G : tc_G} (hW : tc_W G) {v0 : Nat} {v1 : Int32} {v2 : Int32} {v3 : Int32} {v4 : Int32} {v5 : Int32} {u : tc_S} {r : Int32} {ur : tc_S} (iv0 : tc_is G v0 12) (h : fn_X12_feed G v0 v1 v2 v3 v4 v5 u = some (r, ur)) : tc_C l z D yX12_feed cX12_feed 8 (some .int) 0 0 0 0 [.ref (z + v0), .int v1, .int v2, .int v3, .int v4, .int v5] G u (tc_po r G ur) := by
  unfold fn_X12_feed at h
  refine tc_C.of (by decide) (Nat.le_of_ble_eq_true rfl) fun p e s m args below meth c => ?_
  show tc_R p l e { frames := 0, cells := 0, slots := 0, locals := 0 } s m args below meth c z D cX12_feed RX12 8 (some .int) 0 0 (tc_po r G ur) 0 0 G u 0 [(0, .ref (z + v0)), (1, .int v1), (2, .int v2), (3, .int v3), (4, .int v4), (5, .int v5)] []
  refine tc_aload_n 0 rfl dX12_feed_0 ?_
  refine tc_geti iv0.1 fl_X12_242 dX12_feed_1 ?_
  refine tc_bipush (v := 20) (by decide) dX12_feed_4 ?_
  refine tc_iadd dX12_feed_6 ?_
  refine tc_sipush (v := 400) (by decide) dX12_feed_7 ?_
  refine tc_icmp_le 15 dX12_feed_10 (by decide) (fun hc9 => ?_) (fun hc9 => ?_)
  · rw [if_pos hc9] at h
    refine tc_iconst (v := 0) (by decide) dX12_feed_15 ?_
    refine tc_istore [(6, .int 0), (0, .ref (z + v0)), (1, .int v1), (2, .int v2), (3, .int v3), (4, .int v4), (5, .int v5)] dX12_feed_16 (by decide) rfl ?_
    refine tc_lvs [1, 2, 3, 4, 5, 6, 0] rfl ?_
    exact sl_X12_feed_18 hW r ur  _ v0 v1 v2 v3 v4 v5 0 u iv0 h
  · rw [if_neg hc9] at h
    refine tc_iconst (v := (-1)) (by decide) dX12_feed_13 ?_
    cases h
    exact tc_ireturn rfl dX12_feed_14 rfl rfl ⟨rfl, rfl, rfl⟩
set_option maxRecDepth 100000 in
set_option maxHeartbeats 4000000 in
theorem ct_X12_end {l : Launch} {z : Nat} {D : tc_D} {G : tc_G} (hW : tc_W G) {v0 : Nat} {v1 : Int32} {u : tc_S} {r : Int32} {ur : tc_S} (iv0 : tc_is G v0 12) (h : fn_X12_end G v0 v1 u = some (r, ur)) : tc_C l z D yX12_end cX12_end 2 (some .int) 1 22 0 0 [.ref (z + v0), .int v1] G u (tc_po r G ur) := by
  unfold fn_X12_end at h
  refine tc_C.of (by decide) (Nat.le_of_ble_eq_true rfl) fun p e s m args below meth c => ?_
  show tc_R p l e { frames := 1, cells := 0, slots := 0, locals := 22 } s m args below meth c z D cX12_end RX12 2 (some .int) 0 0 (tc_po r G ur) 0 0 G u 0 [(0, .ref (z + v0)), (1, .int v1)] []
  refine tc_iload_n 1 rfl dX12_end_0 ?_
  refine tc_iconst (v := 0) (by decide) dX12_end_1 ?_
  refine tc_aload_n 0 rfl dX12_end_2 ?_
  refine tc_geti iv0.1 fl_X12_242 dX12_end_3 ?_
  obtain ⟨x1, u2, hq3, h⟩ := tc_b_ex h
  refine tc_callSi [.int v1, .int 0, .int (u.1 v0 3)] dX12_end_6 (ct_X12_isIn hW hq3) ml_X12_79 mw_X12_isIn ms_X12_isIn ⟨Nat.le_of_ble_eq_true rfl, Nat.le_of_ble_eq_true rfl⟩ rfl rfl (Nat.le_of_ble_eq_true rfl) ⟨Nat.le_refl _, Nat.le_refl _⟩ ?_
  refine tc_if_ne 14 dX12_end_9 (by decide) (fun hc4 => ?_) (fun hc4 => ?_)
  · rw [if_neg hc4] at h
    refine tc_aload_n 0 rfl dX12_end_14 ?_
    refine tc_iload_n 1 rfl dX12_end_15 ?_
    obtain ⟨u5, eu5, h⟩ := tc_let_ex h
    refine tc_puti iv0.1 fl_X12_242 dX12_end_16 ?_
    refine tc_nmu eu5 ?_
    refine tc_iload_n 1 rfl dX12_end_19 ?_
    cases h
    exact tc_ireturn rfl dX12_end_20 rfl rfl ⟨rfl, rfl, rfl⟩
  · rw [if_pos hc4] at h
    refine tc_iconst (v := (-1)) (by decide) dX12_end_12 ?_
    cases h
    exact tc_ireturn rfl dX12_end_13 rfl rfl ⟨rfl, rfl, rfl⟩
set_option maxRecDepth 100000 in
set_option maxHeartbeats 4000000 in
theorem sb_X12_fault_24 {p : Program} {l : Launch} {e : Env} {s : State} {m : MethodId} {args : Array Value} {below : List Frame} {meth : Method} {c : Code} {z : Nat} {D : tc_D} {G : tc_G} (hW : tc_W G) (r : Int32) (ur : tc_S) (s0 : Int32) (u : tc_S) (h : bl_X12_fault_24 G s0 u = some (r, ur)) : tc_R p l e { frames := 0, cells := 0, slots := 0, locals := 0 } s m args below meth c z D cX12_fault RX12 2 (some .int) 0 0 (tc_po r G ur) 0 0 G u 24 [] [.int s0] := by
  unfold bl_X12_fault_24 at h
  cases h
  exact tc_ireturn rfl dX12_fault_24 rfl rfl ⟨rfl, rfl, rfl⟩
set_option maxRecDepth 100000 in
set_option maxHeartbeats 4000000 in
theorem ct_X12_fault {l : Launch} {z : Nat} {D : tc_D} {G : tc_G} (hW : tc_W G) {v0 : Nat} {v1 : Int32} {u : tc_S} {r : Int32} {ur : tc_S} (iv0 : tc_is G v0 12) (h : fn_X12_fault G v0 v1 u = some (r, ur)) : tc_C l z D yX12_fault cX12_fault 2 (some .int) 0 0 0 0 [.ref (z + v0), .int v1] G u (tc_po r G ur) := by
  unfold fn_X12_fault at h
  refine tc_C.of (by decide) (Nat.le_of_ble_eq_true rfl) fun p e s m args below meth c => ?_
  show tc_R p l e { frames := 0, cells := 0, slots := 0, locals := 0 } s m args below meth c z D cX12_fault RX12 2 (some .int) 0 0 (tc_po r G ur) 0 0 G u 0 [(0, .ref (z + v0)), (1, .int v1)] []
  refine tc_iload_n 1 rfl dX12_fault_0 ?_
  refine tc_if_ne 11 dX12_fault_1 (by decide) (fun hc1 => ?_) (fun hc1 => ?_)
  · rw [if_neg hc1] at h
    refine tc_iload_n 1 rfl dX12_fault_11 ?_
    refine tc_iconst (v := 1) (by decide) dX12_fault_12 ?_
    refine tc_icmp_ne 23 dX12_fault_13 (by decide) (fun hc2 => ?_) (fun hc2 => ?_)
    · rw [if_neg hc2] at h
      refine tc_iconst (v := (-1)) (by decide) dX12_fault_23 ?_
      refine tc_lvs [] rfl ?_
      exact sb_X12_fault_24 hW r ur  (-1) u  h
    · rw [if_pos hc2] at h
      refine tc_aload_n 0 rfl dX12_fault_16 ?_
      refine tc_geti iv0.1 fl_X12_20 dX12_fault_17 ?_
      refine tc_goto 24 dX12_fault_20 (by decide) ?_
      refine tc_lvs [] rfl ?_
      exact sb_X12_fault_24 hW r ur  (u.1 v0 5) u  h
  · rw [if_pos hc1] at h
    refine tc_aload_n 0 rfl dX12_fault_4 ?_
    refine tc_geti iv0.1 fl_X12_245 dX12_fault_5 ?_
    refine tc_goto 24 dX12_fault_8 (by decide) ?_
    refine tc_lvs [] rfl ?_
    exact sb_X12_fault_24 hW r ur  (u.1 v0 4) u  h
set_option maxRecDepth 100000 in
set_option maxHeartbeats 4000000 in
theorem sb_X12_put_25 {p : Program} {l : Launch} {e : Env} {s : State} {m : MethodId} {args : Array Value} {below : List Frame} {meth : Method} {c : Code} {z : Nat} {D : tc_D} {G : tc_G} (hW : tc_W G) (r : Int32) (ur : tc_S) (s0 : Int32) (u : tc_S) (h : bl_X12_put_25 G s0 u = some (r, ur)) : tc_R p l e { frames := 8, cells := 0, slots := 0, locals := 208 } s m args below meth c z D cX12_put RX12 3 (some .int) 0 0 (tc_po r G ur) 0 0 G u 25 [] [.int s0] := by
  unfold bl_X12_put_25 at h
  cases h
  exact tc_ireturn rfl dX12_put_25 rfl rfl ⟨rfl, rfl, rfl⟩
set_option maxRecDepth 100000 in
set_option maxHeartbeats 4000000 in
theorem sb_X12_put_24 {p : Program} {l : Launch} {e : Env} {s : State} {m : MethodId} {args : Array Value} {below : List Frame} {meth : Method} {c : Code} {z : Nat} {D : tc_D} {G : tc_G} (hW : tc_W G) (r : Int32) (ur : tc_S) (u : tc_S) (h : bl_X12_put_24 G  u = some (r, ur)) : tc_R p l e { frames := 8, cells := 0, slots := 0, locals := 208 } s m args below meth c z D cX12_put RX12 3 (some .int) 0 0 (tc_po r G ur) 0 0 G u 24 [] [] := by
  unfold bl_X12_put_24 at h
  refine tc_iconst (v := (-1)) (by decide) dX12_put_24 ?_
  exact sb_X12_put_25 hW r ur  (-1) u  h
set_option maxRecDepth 100000 in
set_option maxHeartbeats 4000000 in
theorem ct_X12_put {l : Launch} {z : Nat} {D : tc_D} {G : tc_G} (hW : tc_W G) {v0 : Nat} {v1 : Int32} {v2 : Int32} {u : tc_S} {r : Int32} {ur : tc_S} (iv0 : tc_is G v0 12) (h : fn_X12_put G v0 v1 v2 u = some (r, ur)) : tc_C l z D yX12_put cX12_put 3 (some .int) 8 208 0 0 [.ref (z + v0), .int v1, .int v2] G u (tc_po r G ur) := by
  unfold fn_X12_put at h
  refine tc_C.of (by decide) (Nat.le_of_ble_eq_true rfl) fun p e s m args below meth c => ?_
  show tc_R p l e { frames := 8, cells := 0, slots := 0, locals := 208 } s m args below meth c z D cX12_put RX12 3 (some .int) 0 0 (tc_po r G ur) 0 0 G u 0 [(0, .ref (z + v0)), (1, .int v1), (2, .int v2)] []
  refine tc_iload_n 1 rfl dX12_put_0 ?_
  obtain ⟨x1, u2, hq3, h⟩ := tc_b_ex h
  refine tc_callSi [.int v1] dX12_put_1 (ct_X12_isKey hW hq3) ml_X12_224 mw_X12_isKey ms_X12_isKey ⟨Nat.le_of_ble_eq_true rfl, Nat.le_of_ble_eq_true rfl⟩ rfl rfl (Nat.le_of_ble_eq_true rfl) ⟨Nat.le_refl _, Nat.le_refl _⟩ ?_
  refine tc_if_eq 24 dX12_put_4 (by decide) (fun hc4 => ?_) (fun hc4 => ?_)
  · rw [if_pos hc4] at h
    refine tc_lvs [] rfl ?_
    exact sb_X12_put_24 hW r ur   u2  h
  · rw [if_neg hc4] at h
    refine tc_iload_n 2 rfl dX12_put_7 ?_
    obtain ⟨x5, u6, hq7, h⟩ := tc_b_ex h
    refine tc_callSi [.int v2] dX12_put_8 (ct_X12_isKey hW hq7) ml_X12_224 mw_X12_isKey ms_X12_isKey ⟨Nat.le_of_ble_eq_true rfl, Nat.le_of_ble_eq_true rfl⟩ rfl rfl (Nat.le_of_ble_eq_true rfl) ⟨Nat.le_refl _, Nat.le_refl _⟩ ?_
    refine tc_if_eq 24 dX12_put_11 (by decide) (fun hc8 => ?_) (fun hc8 => ?_)
    · rw [if_pos hc8] at h
      refine tc_lvs [] rfl ?_
      exact sb_X12_put_24 hW r ur   u6  h
    · rw [if_neg hc8] at h
      refine tc_aload_n 0 rfl dX12_put_14 ?_
      refine tc_iconst (v := 0) (by decide) dX12_put_15 ?_
      refine tc_iload_n 1 rfl dX12_put_16 ?_
      refine tc_iload_n 2 rfl dX12_put_17 ?_
      obtain ⟨x9, u10, hq11, h⟩ := tc_b_ex h
      refine tc_callVi [.int 0, .int v1, .int v2] dX12_put_18 iv0.1 (ct_X12_puts hW iv0 hq11) ml_X12_188 mw_X12_puts mv_X12_puts ⟨Nat.le_of_ble_eq_true rfl, Nat.le_of_ble_eq_true rfl⟩ rfl rfl (Nat.le_of_ble_eq_true rfl) ⟨Nat.le_refl _, Nat.le_refl _⟩ (by decide) ?_
      refine tc_goto 25 dX12_put_21 (by decide) ?_
      refine tc_lvs [] rfl ?_
      exact sb_X12_put_25 hW r ur  x9 u10  h
set_option maxRecDepth 100000 in
set_option maxHeartbeats 4000000 in
theorem sb_X12_reads_99 {p : Program} {l : Launch} {e : Env} {s : State} {m : MethodId} {args : Array Value} {below : List Frame} {meth : Method} {c : Code} {z : Nat} {D : tc_D} {G : tc_G} (hW : tc_W G) (r : Int32) (ur : tc_S) (s0 : Int32) (s1 : Int32) (u : tc_S) (h : bl_X12_reads_99 G s0 s1 u = some (r, ur)) : tc_R p l e { frames := 2, cells := 0, slots := 0, locals := 48 } s m args below meth c z D cX12_reads RX12 6 (some .int) 0 0 (tc_po r G ur) 0 0 G u 99 [] [.int s1, .int s0] := by
  unfold bl_X12_reads_99 at h
  refine tc_iadd dX12_reads_99 ?_
  cases h
  exact tc_ireturn rfl dX12_reads_100 rfl rfl ⟨rfl, rfl, rfl⟩
set_option maxRecDepth 100000 in
set_option maxHeartbeats 4000000 in
theorem sb_X12_reads_80 {p : Program} {l : Launch} {e : Env} {s : State} {m : MethodId} {args : Array Value} {below : List Frame} {meth : Method} {c : Code} {z : Nat} {D : tc_D} {G : tc_G} (hW : tc_W G) (r : Int32) (ur : tc_S) (v0 : Nat) (v1 : Int32) (v5 : Int32) (u : tc_S) (iv0 : tc_is G v0 12) (h : bl_X12_reads_80 G v0 v1 v5 u = some (r, ur)) : tc_R p l e { frames := 2, cells := 0, slots := 0, locals := 48 } s m args below meth c z D cX12_reads RX12 6 (some .int) 0 0 (tc_po r G ur) 0 0 G u 80 [(0, .ref (z + v0)), (1, .int v1), (5, .int v5)] [] := by
  unfold bl_X12_reads_80 at h
  refine tc_iload 2 rfl dX12_reads_80 ?_
  refine tc_aload_n 0 rfl dX12_reads_82 ?_
  refine tc_getp hW iv0 fl_X12_7 dX12_reads_83 rfl ?_
  refine tc_iload_n 1 rfl dX12_reads_86 ?_
  refine tc_bipush (v := 18) (by decide) dX12_reads_87 ?_
  refine tc_iadd dX12_reads_89 ?_
  obtain ⟨bx1, x1, ex1, h⟩ := tc_ld_ex h
  refine tc_iald (hW.p iv0 0 rfl).1 bx1 dX12_reads_90 ?_
  refine tc_nm ex1 ?_
  refine tc_if_le 98 dX12_reads_91 (by decide) (fun hc2 => ?_) (fun hc2 => ?_)
  · rw [if_pos hc2] at h
    refine tc_iconst (v := 0) (by decide) dX12_reads_98 ?_
    refine tc_lvs [] rfl ?_
    exact sb_X12_reads_99 hW r ur  v5 0 u  h
  · rw [if_neg hc2] at h
    refine tc_iconst (v := 1) (by decide) dX12_reads_94 ?_
    refine tc_goto 99 dX12_reads_95 (by decide) ?_
    refine tc_lvs [] rfl ?_
    exact sb_X12_reads_99 hW r ur  v5 1 u  h
set_option maxRecDepth 100000 in
set_option maxHeartbeats 4000000 in
theorem sb_X12_reads_62 {p : Program} {l : Launch} {e : Env} {s : State} {m : MethodId} {args : Array Value} {below : List Frame} {meth : Method} {c : Code} {z : Nat} {D : tc_D} {G : tc_G} (hW : tc_W G) (r : Int32) (ur : tc_S) (v0 : Nat) (v1 : Int32) (v3 : Int32) (s0 : Int32) (u : tc_S) (iv0 : tc_is G v0 12) (h : bl_X12_reads_62 G v0 v1 v3 s0 u = some (r, ur)) : tc_R p l e { frames := 2, cells := 0, slots := 0, locals := 48 } s m args below meth c z D cX12_reads RX12 6 (some .int) 0 0 (tc_po r G ur) 0 0 G u 62 [(0, .ref (z + v0)), (1, .int v1), (3, .int v3)] [.int s0] := by
  unfold bl_X12_reads_62 at h
  refine tc_istore [(5, .int s0), (0, .ref (z + v0)), (1, .int v1), (3, .int v3)] dX12_reads_62 (by decide) rfl ?_
  refine tc_iload_n 3 rfl dX12_reads_64 ?_
  refine tc_if_lt 80 dX12_reads_65 (by decide) (fun hc3 => ?_) (fun hc3 => ?_)
  · rw [if_pos hc3] at h
    refine tc_lvs [1, 2, 0] rfl ?_
    exact sb_X12_reads_80 hW r ur  v0 v1 s0 u iv0 h
  · rw [if_neg hc3] at h
    refine tc_iload_n 3 rfl dX12_reads_68 ?_
    refine tc_iload_n 2 rfl dX12_reads_69 ?_
    refine tc_sipush (v := 276) (by decide) dX12_reads_70 ?_
    refine tc_iadd dX12_reads_73 ?_
    refine tc_icmp_ge 80 dX12_reads_74 (by decide) (fun hc4 => ?_) (fun hc4 => ?_)
    · rw [if_pos hc4] at h
      refine tc_lvs [1, 2, 0] rfl ?_
      exact sb_X12_reads_80 hW r ur  v0 v1 s0 u iv0 h
    · rw [if_neg hc4] at h
      refine tc_iload 0 rfl dX12_reads_77 ?_
      cases h
      exact tc_ireturn rfl dX12_reads_79 rfl rfl ⟨rfl, rfl, rfl⟩
set_option maxRecDepth 100000 in
set_option maxHeartbeats 4000000 in
theorem sb_X12_reads_45 {p : Program} {l : Launch} {e : Env} {s : State} {m : MethodId} {args : Array Value} {below : List Frame} {meth : Method} {c : Code} {z : Nat} {D : tc_D} {G : tc_G} (hW : tc_W G) (r : Int32) (ur : tc_S) (v0 : Nat) (v1 : Int32) (v2 : Int32) (v3 : Int32) (v4 : Int32) (u : tc_S) (iv0 : tc_is G v0 12) (h : bl_X12_reads_45 G v0 v1 v2 v3 v4 u = some (r, ur)) : tc_R p l e { frames := 2, cells := 0, slots := 0, locals := 48 } s m args below meth c z D cX12_reads RX12 6 (some .int) 0 0 (tc_po r G ur) 0 0 G u 45 [(0, .ref (z + v0)), (1, .int v1), (2, .int v2), (3, .int v3), (4, .int v4)] [] := by
  unfold bl_X12_reads_45 at h
  refine tc_iload 4 rfl dX12_reads_45 ?_
  refine tc_aload_n 0 rfl dX12_reads_47 ?_
  refine tc_iload_n 1 rfl dX12_reads_48 ?_
  refine tc_iload_n 2 rfl dX12_reads_49 ?_
  refine tc_iconst (v := 1) (by decide) dX12_reads_50 ?_
  obtain ⟨x5, u6, hq7, h⟩ := tc_b_ex h
  refine tc_callVi [.int v1, .int v2, .int 1] dX12_reads_51 iv0.1 (ct_X12_hashOf hW iv0 hq7) ml_X12_88 mw_X12_hashOf mv_X12_hashOf ⟨Nat.le_of_ble_eq_true rfl, Nat.le_of_ble_eq_true rfl⟩ rfl rfl (Nat.le_of_ble_eq_true rfl) ⟨Nat.le_refl _, Nat.le_refl _⟩ (by decide) ?_
  refine tc_icmp_ne 61 dX12_reads_54 (by decide) (fun hc8 => ?_) (fun hc8 => ?_)
  · rw [if_neg hc8] at h
    refine tc_iconst (v := 2) (by decide) dX12_reads_61 ?_
    refine tc_lvs [0, 1, 3] rfl ?_
    exact sb_X12_reads_62 hW r ur  v0 v1 v3 2 u6 iv0 h
  · rw [if_pos hc8] at h
    refine tc_iconst (v := 1) (by decide) dX12_reads_57 ?_
    refine tc_goto 62 dX12_reads_58 (by decide) ?_
    refine tc_lvs [0, 1, 3] rfl ?_
    exact sb_X12_reads_62 hW r ur  v0 v1 v3 1 u6 iv0 h
set_option maxRecDepth 100000 in
set_option maxHeartbeats 4000000 in
theorem ct_X12_reads {l : Launch} {z : Nat} {D : tc_D} {G : tc_G} (hW : tc_W G) {v0 : Nat} {v1 : Int32} {v2 : Int32} {u : tc_S} {r : Int32} {ur : tc_S} (iv0 : tc_is G v0 12) (h : fn_X12_reads G v0 v1 v2 u = some (r, ur)) : tc_C l z D yX12_reads cX12_reads 6 (some .int) 2 48 0 0 [.ref (z + v0), .int v1, .int v2] G u (tc_po r G ur) := by
  unfold fn_X12_reads at h
  refine tc_C.of (by decide) (Nat.le_of_ble_eq_true rfl) fun p e s m args below meth c => ?_
  show tc_R p l e { frames := 2, cells := 0, slots := 0, locals := 48 } s m args below meth c z D cX12_reads RX12 6 (some .int) 0 0 (tc_po r G ur) 0 0 G u 0 [(0, .ref (z + v0)), (1, .int v1), (2, .int v2)] []
  refine tc_aload_n 0 rfl dX12_reads_0 ?_
  refine tc_iload_n 1 rfl dX12_reads_1 ?_
  refine tc_iload_n 2 rfl dX12_reads_2 ?_
  obtain ⟨x9, u10, hq11, h⟩ := tc_b_ex h
  refine tc_callVi [.int v1, .int v2] dX12_reads_3 iv0.1 (ct_X12_lies hW iv0 hq11) ml_X12_166 mw_X12_lies mv_X12_lies ⟨Nat.le_of_ble_eq_true rfl, Nat.le_of_ble_eq_true rfl⟩ rfl rfl (Nat.le_of_ble_eq_true rfl) ⟨Nat.le_refl _, Nat.le_refl _⟩ (by decide) ?_
  refine tc_istore_n [(3, .int x9), (0, .ref (z + v0)), (1, .int v1), (2, .int v2)] dX12_reads_6 (by decide) rfl ?_
  refine tc_aload_n 1 rfl dX12_reads_7 ?_
  refine tc_iload_n 2 rfl dX12_reads_8 ?_
  refine tc_iload_n 3 rfl dX12_reads_9 ?_
  refine tc_iconst (v := 0) (by decide) dX12_reads_10 ?_
  obtain ⟨x12, u13, hq14, h⟩ := tc_b_ex h
  refine tc_callVi [.int v1, .int v2, .int 0] dX12_reads_11 iv0.1 (ct_X12_hashOf hW iv0 hq14) ml_X12_88 mw_X12_hashOf mv_X12_hashOf ⟨Nat.le_of_ble_eq_true rfl, Nat.le_of_ble_eq_true rfl⟩ rfl rfl (Nat.le_of_ble_eq_true rfl) ⟨Nat.le_refl _, Nat.le_refl _⟩ (by decide) ?_
  refine tc_istore [(4, .int x12), (3, .int x9), (0, .ref (z + v0)), (1, .int v1), (2, .int v2)] dX12_reads_14 (by decide) rfl ?_
  refine tc_iload_n 1 rfl dX12_reads_16 ?_
  refine tc_if_lt 45 dX12_reads_17 (by decide) (fun hc15 => ?_) (fun hc15 => ?_)
  · rw [if_pos hc15] at h
    refine tc_lvs [2, 3, 4, 1, 0] rfl ?_
    exact sb_X12_reads_45 hW r ur  v0 v1 v2 x9 x12 u13 iv0 h
  · rw [if_neg hc15] at h
    refine tc_iload_n 1 rfl dX12_reads_20 ?_
    refine tc_iload_n 3 rfl dX12_reads_21 ?_
    refine tc_sipush (v := 276) (by decide) dX12_reads_22 ?_
    refine tc_iadd dX12_reads_25 ?_
    refine tc_icmp_ge 45 dX12_reads_26 (by decide) (fun hc16 => ?_) (fun hc16 => ?_)
    · rw [if_pos hc16] at h
      refine tc_lvs [2, 3, 4, 1, 0] rfl ?_
      exact sb_X12_reads_45 hW r ur  v0 v1 v2 x9 x12 u13 iv0 h
    · rw [if_neg hc16] at h
      refine tc_iload_n 1 rfl dX12_reads_29 ?_
      refine tc_iload_n 3 rfl dX12_reads_30 ?_
      refine tc_isub dX12_reads_31 ?_
      refine tc_bipush (v := 20) (by decide) dX12_reads_32 ?_
      refine tc_isub dX12_reads_34 ?_
      refine tc_bipush (v := 16) (by decide) dX12_reads_35 ?_
      refine tc_idiv (by decide) dX12_reads_37 ?_
      refine tc_iload 0 rfl dX12_reads_38 ?_
      refine tc_icmp_ne 45 dX12_reads_40 (by decide) (fun hc17 => ?_) (fun hc17 => ?_)
      · rw [if_neg hc17] at h
        refine tc_lvs [2, 3, 4, 1, 0] rfl ?_
        exact sb_X12_reads_45 hW r ur  v0 v1 v2 x9 x12 u13 iv0 h
      · rw [if_pos hc17] at h
        refine tc_iconst (v := 1) (by decide) dX12_reads_43 ?_
        cases h
        exact tc_ireturn rfl dX12_reads_44 rfl rfl ⟨rfl, rfl, rfl⟩
set_option maxRecDepth 100000 in
set_option maxHeartbeats 4000000 in
theorem sb_X12_get_48 {p : Program} {l : Launch} {e : Env} {s : State} {m : MethodId} {args : Array Value} {below : List Frame} {meth : Method} {c : Code} {z : Nat} {D : tc_D} {G : tc_G} (hW : tc_W G) (r : Int32) (ur : tc_S) (s0 : Int32) (u : tc_S) (h : bl_X12_get_48 G s0 u = some (r, ur)) : tc_R p l e { frames := 3, cells := 0, slots := 0, locals := 73 } s m args below meth c z D cX12_get RX12 3 (some .int) 0 0 (tc_po r G ur) 0 0 G u 48 [] [.int s0] := by
  unfold bl_X12_get_48 at h
  cases h
  exact tc_ireturn rfl dX12_get_48 rfl rfl ⟨rfl, rfl, rfl⟩
set_option maxRecDepth 100000 in
set_option maxHeartbeats 4000000 in
theorem ct_X12_get {l : Launch} {z : Nat} {D : tc_D} {G : tc_G} (hW : tc_W G) {v0 : Nat} {v1 : Int32} {u : tc_S} {r : Int32} {ur : tc_S} (iv0 : tc_is G v0 12) (h : fn_X12_get G v0 v1 u = some (r, ur)) : tc_C l z D yX12_get cX12_get 3 (some .int) 3 73 0 0 [.ref (z + v0), .int v1] G u (tc_po r G ur) := by
  unfold fn_X12_get at h
  refine tc_C.of (by decide) (Nat.le_of_ble_eq_true rfl) fun p e s m args below meth c => ?_
  show tc_R p l e { frames := 3, cells := 0, slots := 0, locals := 73 } s m args below meth c z D cX12_get RX12 3 (some .int) 0 0 (tc_po r G ur) 0 0 G u 0 [(0, .ref (z + v0)), (1, .int v1)] []
  refine tc_iload_n 1 rfl dX12_get_0 ?_
  obtain ⟨x1, u2, hq3, h⟩ := tc_b_ex h
  refine tc_callSi [.int v1] dX12_get_1 (ct_X12_isKey hW hq3) ml_X12_224 mw_X12_isKey ms_X12_isKey ⟨Nat.le_of_ble_eq_true rfl, Nat.le_of_ble_eq_true rfl⟩ rfl rfl (Nat.le_of_ble_eq_true rfl) ⟨Nat.le_refl _, Nat.le_refl _⟩ ?_
  refine tc_if_ne 9 dX12_get_4 (by decide) (fun hc4 => ?_) (fun hc4 => ?_)
  · rw [if_neg hc4] at h
    refine tc_aload_n 0 rfl dX12_get_9 ?_
    refine tc_getp hW iv0 fl_X12_7 dX12_get_10 rfl ?_
    refine tc_bipush (v := 16) (by decide) dX12_get_13 ?_
    refine tc_dup2 rfl rfl dX12_get_15 ?_
    obtain ⟨bx5, x5, ex5, h⟩ := tc_ld_ex h
    refine tc_iald (hW.p iv0 0 rfl).1 bx5 dX12_get_16 ?_
    refine tc_nm ex5 ?_
    refine tc_aload_n 0 rfl dX12_get_17 ?_
    refine tc_iconst (v := 0) (by decide) dX12_get_18 ?_
    refine tc_iload_n 1 rfl dX12_get_19 ?_
    obtain ⟨x6, u7, hq8, h⟩ := tc_b_ex h
    refine tc_callVi [.int 0, .int v1] dX12_get_20 iv0.1 (ct_X12_reads hW iv0 hq8) ml_X12_248 mw_X12_reads mv_X12_reads ⟨Nat.le_of_ble_eq_true rfl, Nat.le_of_ble_eq_true rfl⟩ rfl rfl (Nat.le_of_ble_eq_true rfl) ⟨Nat.le_refl _, Nat.le_refl _⟩ (by decide) ?_
    refine tc_iadd dX12_get_23 ?_
    obtain ⟨bu9, u9, eu9, h⟩ := tc_sd_ex h
    refine tc_iast (hW.p iv0 0 rfl).1 bu9 dX12_get_24 ?_
    refine tc_nmu eu9 ?_
    refine tc_aload_n 0 rfl dX12_get_25 ?_
    refine tc_iconst (v := 0) (by decide) dX12_get_26 ?_
    refine tc_iload_n 1 rfl dX12_get_27 ?_
    obtain ⟨x10, u11, hq12, h⟩ := tc_b_ex h
    refine tc_callVi [.int 0, .int v1] dX12_get_28 iv0.1 (ct_X12_lies hW iv0 hq12) ml_X12_166 mw_X12_lies mv_X12_lies ⟨Nat.le_of_ble_eq_true rfl, Nat.le_of_ble_eq_true rfl⟩ rfl rfl (Nat.le_of_ble_eq_true rfl) ⟨Nat.le_refl _, Nat.le_refl _⟩ (by decide) ?_
    refine tc_istore_n [(2, .int x10), (0, .ref (z + v0)), (1, .int v1)] dX12_get_31 (by decide) rfl ?_
    refine tc_iload_n 0 rfl dX12_get_32 ?_
    refine tc_if_ge 40 dX12_get_33 (by decide) (fun hc13 => ?_) (fun hc13 => ?_)
    · rw [if_pos hc13] at h
      refine tc_aload_n 1 rfl dX12_get_40 ?_
      refine tc_getp hW iv0 fl_X12_7 dX12_get_41 rfl ?_
      refine tc_iload_n 0 rfl dX12_get_44 ?_
      refine tc_iconst (v := 1) (by decide) dX12_get_45 ?_
      refine tc_iadd dX12_get_46 ?_
      obtain ⟨bx14, x14, ex14, h⟩ := tc_ld_ex h
      refine tc_iald (hW.p iv0 0 rfl).1 bx14 dX12_get_47 ?_
      refine tc_nm ex14 ?_
      refine tc_lvs [] rfl ?_
      exact sb_X12_get_48 hW r ur  x14 u11  h
    · rw [if_neg hc13] at h
      refine tc_iconst (v := (-1)) (by decide) dX12_get_36 ?_
      refine tc_goto 48 dX12_get_37 (by decide) ?_
      refine tc_lvs [] rfl ?_
      exact sb_X12_get_48 hW r ur  (-1) u11  h
  · rw [if_pos hc4] at h
    refine tc_iconst (v := (-1)) (by decide) dX12_get_7 ?_
    cases h
    exact tc_ireturn rfl dX12_get_8 rfl rfl ⟨rfl, rfl, rfl⟩
set_option maxRecDepth 100000 in
set_option maxHeartbeats 4000000 in
theorem sb_X12_drop_17 {p : Program} {l : Launch} {e : Env} {s : State} {m : MethodId} {args : Array Value} {below : List Frame} {meth : Method} {c : Code} {z : Nat} {D : tc_D} {G : tc_G} (hW : tc_W G) (r : Int32) (ur : tc_S) (s0 : Int32) (u : tc_S) (h : bl_X12_drop_17 G s0 u = some (r, ur)) : tc_R p l e { frames := 4, cells := 0, slots := 0, locals := 96 } s m args below meth c z D cX12_drop RX12 2 (some .int) 0 0 (tc_po r G ur) 0 0 G u 17 [] [.int s0] := by
  unfold bl_X12_drop_17 at h
  cases h
  exact tc_ireturn rfl dX12_drop_17 rfl rfl ⟨rfl, rfl, rfl⟩
set_option maxRecDepth 100000 in
set_option maxHeartbeats 4000000 in
theorem ct_X12_drop {l : Launch} {z : Nat} {D : tc_D} {G : tc_G} (hW : tc_W G) {v0 : Nat} {v1 : Int32} {u : tc_S} {r : Int32} {ur : tc_S} (iv0 : tc_is G v0 12) (h : fn_X12_drop G v0 v1 u = some (r, ur)) : tc_C l z D yX12_drop cX12_drop 2 (some .int) 4 96 0 0 [.ref (z + v0), .int v1] G u (tc_po r G ur) := by
  unfold fn_X12_drop at h
  refine tc_C.of (by decide) (Nat.le_of_ble_eq_true rfl) fun p e s m args below meth c => ?_
  show tc_R p l e { frames := 4, cells := 0, slots := 0, locals := 96 } s m args below meth c z D cX12_drop RX12 2 (some .int) 0 0 (tc_po r G ur) 0 0 G u 0 [(0, .ref (z + v0)), (1, .int v1)] []
  refine tc_iload_n 1 rfl dX12_drop_0 ?_
  obtain ⟨x1, u2, hq3, h⟩ := tc_b_ex h
  refine tc_callSi [.int v1] dX12_drop_1 (ct_X12_isKey hW hq3) ml_X12_224 mw_X12_isKey ms_X12_isKey ⟨Nat.le_of_ble_eq_true rfl, Nat.le_of_ble_eq_true rfl⟩ rfl rfl (Nat.le_of_ble_eq_true rfl) ⟨Nat.le_refl _, Nat.le_refl _⟩ ?_
  refine tc_if_eq 16 dX12_drop_4 (by decide) (fun hc4 => ?_) (fun hc4 => ?_)
  · rw [if_pos hc4] at h
    refine tc_iconst (v := (-1)) (by decide) dX12_drop_16 ?_
    refine tc_lvs [] rfl ?_
    exact sb_X12_drop_17 hW r ur  (-1) u2  h
  · rw [if_neg hc4] at h
    refine tc_aload_n 0 rfl dX12_drop_7 ?_
    refine tc_iconst (v := 0) (by decide) dX12_drop_8 ?_
    refine tc_iload_n 1 rfl dX12_drop_9 ?_
    obtain ⟨x5, u6, hq7, h⟩ := tc_b_ex h
    refine tc_callVi [.int 0, .int v1] dX12_drop_10 iv0.1 (ct_X12_drops hW iv0 hq7) ml_X12_185 mw_X12_drops mv_X12_drops ⟨Nat.le_of_ble_eq_true rfl, Nat.le_of_ble_eq_true rfl⟩ rfl rfl (Nat.le_of_ble_eq_true rfl) ⟨Nat.le_refl _, Nat.le_refl _⟩ (by decide) ?_
    refine tc_goto 17 dX12_drop_13 (by decide) ?_
    refine tc_lvs [] rfl ?_
    exact sb_X12_drop_17 hW r ur  x5 u6  h
set_option maxRecDepth 100000 in
set_option maxHeartbeats 4000000 in
theorem sb_X12_load_21 {p : Program} {l : Launch} {e : Env} {s : State} {m : MethodId} {args : Array Value} {below : List Frame} {meth : Method} {c : Code} {z : Nat} {D : tc_D} {G : tc_G} (hW : tc_W G) (r : Int32) (ur : tc_S) (s0 : Int32) (u : tc_S) (h : bl_X12_load_21 G s0 u = some (r, ur)) : tc_R p l e { frames := 9, cells := 0, slots := 0, locals := 236 } s m args below meth c z D cX12_load RX12 3 (some .int) 0 0 (tc_po r G ur) 0 0 G u 21 [] [.int s0] := by
  unfold bl_X12_load_21 at h
  cases h
  exact tc_ireturn rfl dX12_load_21 rfl rfl ⟨rfl, rfl, rfl⟩
set_option maxRecDepth 100000 in
set_option maxHeartbeats 4000000 in
theorem ct_X12_load {l : Launch} {z : Nat} {D : tc_D} {G : tc_G} (hW : tc_W G) {v0 : Nat} {v1 : Int32} {v2 : Int32} {u : tc_S} {r : Int32} {ur : tc_S} (iv0 : tc_is G v0 12) (h : fn_X12_load G v0 v1 v2 u = some (r, ur)) : tc_C l z D yX12_load cX12_load 3 (some .int) 9 236 0 0 [.ref (z + v0), .int v1, .int v2] G u (tc_po r G ur) := by
  unfold fn_X12_load at h
  refine tc_C.of (by decide) (Nat.le_of_ble_eq_true rfl) fun p e s m args below meth c => ?_
  show tc_R p l e { frames := 9, cells := 0, slots := 0, locals := 236 } s m args below meth c z D cX12_load RX12 3 (some .int) 0 0 (tc_po r G ur) 0 0 G u 0 [(0, .ref (z + v0)), (1, .int v1), (2, .int v2)] []
  refine tc_iload_n 2 rfl dX12_load_0 ?_
  refine tc_iconst (v := 1) (by decide) dX12_load_1 ?_
  refine tc_bipush (v := 12) (by decide) dX12_load_2 ?_
  obtain ⟨x1, u2, hq3, h⟩ := tc_b_ex h
  refine tc_callSi [.int v2, .int 1, .int 12] dX12_load_4 (ct_X12_isIn hW hq3) ml_X12_79 mw_X12_isIn ms_X12_isIn ⟨Nat.le_of_ble_eq_true rfl, Nat.le_of_ble_eq_true rfl⟩ rfl rfl (Nat.le_of_ble_eq_true rfl) ⟨Nat.le_refl _, Nat.le_refl _⟩ ?_
  refine tc_if_eq 20 dX12_load_7 (by decide) (fun hc4 => ?_) (fun hc4 => ?_)
  · rw [if_pos hc4] at h
    refine tc_iconst (v := (-1)) (by decide) dX12_load_20 ?_
    refine tc_lvs [] rfl ?_
    exact sb_X12_load_21 hW r ur  (-1) u2  h
  · rw [if_neg hc4] at h
    refine tc_aload_n 0 rfl dX12_load_10 ?_
    refine tc_iconst (v := 0) (by decide) dX12_load_11 ?_
    refine tc_iload_n 1 rfl dX12_load_12 ?_
    refine tc_iload_n 2 rfl dX12_load_13 ?_
    obtain ⟨x5, u6, hq7, h⟩ := tc_b_ex h
    refine tc_callVi [.int 0, .int v1, .int v2] dX12_load_14 iv0.1 (ct_X12_loads hW iv0 hq7) ml_X12_251 mw_X12_loads mv_X12_loads ⟨Nat.le_of_ble_eq_true rfl, Nat.le_of_ble_eq_true rfl⟩ rfl rfl (Nat.le_of_ble_eq_true rfl) ⟨Nat.le_refl _, Nat.le_refl _⟩ (by decide) ?_
    refine tc_goto 21 dX12_load_17 (by decide) ?_
    refine tc_lvs [] rfl ?_
    exact sb_X12_load_21 hW r ur  x5 u6  h
set_option maxRecDepth 100000 in
set_option maxHeartbeats 4000000 in
theorem sb_X12_bucketOf_19 {p : Program} {l : Launch} {e : Env} {s : State} {m : MethodId} {args : Array Value} {below : List Frame} {meth : Method} {c : Code} {z : Nat} {D : tc_D} {G : tc_G} (hW : tc_W G) (r : Int32) (ur : tc_S) (s0 : Int32) (u : tc_S) (h : bl_X12_bucketOf_19 G s0 u = some (r, ur)) : tc_R p l e { frames := 0, cells := 0, slots := 0, locals := 0 } s m args below meth c z D cX12_bucketOf RX12 2 (some .int) 0 0 (tc_po r G ur) 0 0 G u 19 [] [.int s0] := by
  unfold bl_X12_bucketOf_19 at h
  cases h
  exact tc_ireturn rfl dX12_bucketOf_19 rfl rfl ⟨rfl, rfl, rfl⟩
set_option maxRecDepth 100000 in
set_option maxHeartbeats 4000000 in
theorem ct_X12_bucketOf {l : Launch} {z : Nat} {D : tc_D} {G : tc_G} (hW : tc_W G) {v0 : Nat} {v1 : Int32} {u : tc_S} {r : Int32} {ur : tc_S} (iv0 : tc_is G v0 12) (h : fn_X12_bucketOf G v0 v1 u = some (r, ur)) : tc_C l z D yX12_bucketOf cX12_bucketOf 2 (some .int) 0 0 0 0 [.ref (z + v0), .int v1] G u (tc_po r G ur) := by
  unfold fn_X12_bucketOf at h
  refine tc_C.of (by decide) (Nat.le_of_ble_eq_true rfl) fun p e s m args below meth c => ?_
  show tc_R p l e { frames := 0, cells := 0, slots := 0, locals := 0 } s m args below meth c z D cX12_bucketOf RX12 2 (some .int) 0 0 (tc_po r G ur) 0 0 G u 0 [(0, .ref (z + v0)), (1, .int v1)] []
  refine tc_iload_n 1 rfl dX12_bucketOf_0 ?_
  refine tc_sipush (v := 276) (by decide) dX12_bucketOf_1 ?_
  refine tc_icmp_lt 12 dX12_bucketOf_4 (by decide) (fun hc1 => ?_) (fun hc1 => ?_)
  · rw [if_pos hc1] at h
    refine tc_iload_n 1 rfl dX12_bucketOf_12 ?_
    refine tc_bipush (v := 20) (by decide) dX12_bucketOf_13 ?_
    refine tc_isub dX12_bucketOf_15 ?_
    refine tc_bipush (v := 16) (by decide) dX12_bucketOf_16 ?_
    refine tc_idiv (by decide) dX12_bucketOf_18 ?_
    refine tc_lvs [] rfl ?_
    exact sb_X12_bucketOf_19 hW r ur  ((v1 - 20) / 16) u  h
  · rw [if_neg hc1] at h
    refine tc_bipush (v := 100) (by decide) dX12_bucketOf_7 ?_
    refine tc_goto 19 dX12_bucketOf_9 (by decide) ?_
    refine tc_lvs [] rfl ?_
    exact sb_X12_bucketOf_19 hW r ur  100 u  h
set_option maxRecDepth 100000 in
set_option maxHeartbeats 4000000 in
theorem sb_X12_placeOf_25 {p : Program} {l : Launch} {e : Env} {s : State} {m : MethodId} {args : Array Value} {below : List Frame} {meth : Method} {c : Code} {z : Nat} {D : tc_D} {G : tc_G} (hW : tc_W G) (r : Int32) (ur : tc_S) (s0 : Int32) (u : tc_S) (h : bl_X12_placeOf_25 G s0 u = some (r, ur)) : tc_R p l e { frames := 0, cells := 0, slots := 0, locals := 0 } s m args below meth c z D cX12_placeOf RX12 2 (some .int) 0 0 (tc_po r G ur) 0 0 G u 25 [] [.int s0] := by
  unfold bl_X12_placeOf_25 at h
  cases h
  exact tc_ireturn rfl dX12_placeOf_25 rfl rfl ⟨rfl, rfl, rfl⟩
set_option maxRecDepth 100000 in
set_option maxHeartbeats 4000000 in
theorem ct_X12_placeOf {l : Launch} {z : Nat} {D : tc_D} {G : tc_G} (hW : tc_W G) {v0 : Nat} {v1 : Int32} {u : tc_S} {r : Int32} {ur : tc_S} (iv0 : tc_is G v0 12) (h : fn_X12_placeOf G v0 v1 u = some (r, ur)) : tc_C l z D yX12_placeOf cX12_placeOf 2 (some .int) 0 0 0 0 [.ref (z + v0), .int v1] G u (tc_po r G ur) := by
  unfold fn_X12_placeOf at h
  refine tc_C.of (by decide) (Nat.le_of_ble_eq_true rfl) fun p e s m args below meth c => ?_
  show tc_R p l e { frames := 0, cells := 0, slots := 0, locals := 0 } s m args below meth c z D cX12_placeOf RX12 2 (some .int) 0 0 (tc_po r G ur) 0 0 G u 0 [(0, .ref (z + v0)), (1, .int v1)] []
  refine tc_iload_n 1 rfl dX12_placeOf_0 ?_
  refine tc_sipush (v := 276) (by decide) dX12_placeOf_1 ?_
  refine tc_icmp_lt 17 dX12_placeOf_4 (by decide) (fun hc1 => ?_) (fun hc1 => ?_)
  · rw [if_pos hc1] at h
    refine tc_iload_n 1 rfl dX12_placeOf_17 ?_
    refine tc_bipush (v := 20) (by decide) dX12_placeOf_18 ?_
    refine tc_isub dX12_placeOf_20 ?_
    refine tc_iconst (v := 4) (by decide) dX12_placeOf_21 ?_
    refine tc_idiv (by decide) dX12_placeOf_22 ?_
    refine tc_iconst (v := 4) (by decide) dX12_placeOf_23 ?_
    refine tc_irem' (by decide) dX12_placeOf_24 ?_
    refine tc_lvs [] rfl ?_
    exact sb_X12_placeOf_25 hW r ur  (tc_mod ((v1 - 20) / 4) 4) u  h
  · rw [if_neg hc1] at h
    refine tc_iload_n 1 rfl dX12_placeOf_7 ?_
    refine tc_sipush (v := 276) (by decide) dX12_placeOf_8 ?_
    refine tc_isub dX12_placeOf_11 ?_
    refine tc_iconst (v := 4) (by decide) dX12_placeOf_12 ?_
    refine tc_idiv (by decide) dX12_placeOf_13 ?_
    refine tc_goto 25 dX12_placeOf_14 (by decide) ?_
    refine tc_lvs [] rfl ?_
    exact sb_X12_placeOf_25 hW r ur  ((v1 - 276) / 4) u  h
set_option maxRecDepth 100000 in
set_option maxHeartbeats 4000000 in
theorem sb_X12_readTo_117 {p : Program} {l : Launch} {e : Env} {s : State} {m : MethodId} {args : Array Value} {below : List Frame} {meth : Method} {c : Code} {z : Nat} {D : tc_D} {G : tc_G} (hW : tc_W G) (r : Int32) (ur : tc_S) (v3 : Int32) (u : tc_S) (h : bl_X12_readTo_117 G v3 u = some (r, ur)) : tc_R p l e { frames := 2, cells := 0, slots := 0, locals := 46 } s m args below meth c z D cX12_readTo RX12 6 (some .int) 0 0 (tc_po r G ur) 0 0 G u 117 [(3, .int v3)] [] := by
  unfold bl_X12_readTo_117 at h
  refine tc_iload_n 0 rfl dX12_readTo_117 ?_
  cases h
  exact tc_ireturn rfl dX12_readTo_118 rfl rfl ⟨rfl, rfl, rfl⟩
set_option maxRecDepth 100000 in
set_option maxHeartbeats 4000000 in
theorem sb_X12_readTo_78 {p : Program} {l : Launch} {e : Env} {s : State} {m : MethodId} {args : Array Value} {below : List Frame} {meth : Method} {c : Code} {z : Nat} {D : tc_D} {G : tc_G} (hW : tc_W G) (r : Int32) (ur : tc_S) (v0 : Nat) (v2 : Int32) (v3 : Int32) (v4 : Int32) (u : tc_S) (iv0 : tc_is G v0 12) (h : bl_X12_readTo_78 G v0 v2 v3 v4 u = some (r, ur)) : tc_R p l e { frames := 2, cells := 0, slots := 0, locals := 46 } s m args below meth c z D cX12_readTo RX12 6 (some .int) 0 0 (tc_po r G ur) 0 0 G u 78 [(0, .ref (z + v0)), (2, .int v2), (3, .int v3), (4, .int v4)] [] := by
  unfold bl_X12_readTo_78 at h
  refine tc_iload 3 rfl dX12_readTo_78 ?_
  refine tc_bipush (v := 100) (by decide) dX12_readTo_80 ?_
  refine tc_icmp_ne 117 dX12_readTo_82 (by decide) (fun hc1 => ?_) (fun hc1 => ?_)
  · rw [if_neg hc1] at h
    refine tc_lvs [2] rfl ?_
    exact sb_X12_readTo_117 hW r ur  v3 u  h
  · rw [if_pos hc1] at h
    refine tc_aload_n 0 rfl dX12_readTo_85 ?_
    refine tc_iconst (v := 0) (by decide) dX12_readTo_86 ?_
    refine tc_iload_n 1 rfl dX12_readTo_87 ?_
    refine tc_iconst (v := 1) (by decide) dX12_readTo_88 ?_
    obtain ⟨x2, u3, hq4, h⟩ := tc_b_ex h
    refine tc_callVi [.int 0, .int v2, .int 1] dX12_readTo_89 iv0.1 (ct_X12_hashOf hW iv0 hq4) ml_X12_88 mw_X12_hashOf mv_X12_hashOf ⟨Nat.le_of_ble_eq_true rfl, Nat.le_of_ble_eq_true rfl⟩ rfl rfl (Nat.le_of_ble_eq_true rfl) ⟨Nat.le_refl _, Nat.le_refl _⟩ (by decide) ?_
    refine tc_aload_n 0 rfl dX12_readTo_92 ?_
    refine tc_iconst (v := 0) (by decide) dX12_readTo_93 ?_
    refine tc_iload_n 1 rfl dX12_readTo_94 ?_
    refine tc_iconst (v := 0) (by decide) dX12_readTo_95 ?_
    obtain ⟨x5, u6, hq7, h⟩ := tc_b_ex h
    refine tc_callVi [.int 0, .int v2, .int 0] dX12_readTo_96 iv0.1 (ct_X12_hashOf hW iv0 hq7) ml_X12_88 mw_X12_hashOf mv_X12_hashOf ⟨Nat.le_of_ble_eq_true rfl, Nat.le_of_ble_eq_true rfl⟩ rfl rfl (Nat.le_of_ble_eq_true rfl) ⟨Nat.le_refl _, Nat.le_refl _⟩ (by decide) ?_
    refine tc_icmp_eq 117 dX12_readTo_99 (by decide) (fun hc8 => ?_) (fun hc8 => ?_)
    · rw [if_pos hc8] at h
      refine tc_lvs [2] rfl ?_
      exact sb_X12_readTo_117 hW r ur  v3 u6  h
    · rw [if_neg hc8] at h
      refine tc_iload_n 2 rfl dX12_readTo_102 ?_
      refine tc_aload_n 0 rfl dX12_readTo_103 ?_
      refine tc_iconst (v := 0) (by decide) dX12_readTo_104 ?_
      refine tc_aload_n 0 rfl dX12_readTo_105 ?_
      refine tc_iconst (v := 0) (by decide) dX12_readTo_106 ?_
      refine tc_iload_n 1 rfl dX12_readTo_107 ?_
      refine tc_iconst (v := 1) (by decide) dX12_readTo_108 ?_
      obtain ⟨x9, u10, hq11, h⟩ := tc_b_ex h
      refine tc_callVi [.int 0, .int v2, .int 1] dX12_readTo_109 iv0.1 (ct_X12_hashOf hW iv0 hq11) ml_X12_88 mw_X12_hashOf mv_X12_hashOf ⟨Nat.le_of_ble_eq_true rfl, Nat.le_of_ble_eq_true rfl⟩ rfl rfl (Nat.le_of_ble_eq_true rfl) ⟨Nat.le_refl _, Nat.le_refl _⟩ (by decide) ?_
      obtain ⟨x12, u13, hq14, h⟩ := tc_b_ex h
      refine tc_callVi [.int 0, .int x9] dX12_readTo_112 iv0.1 (ct_X12_inBucket hW iv0 hq14) ml_X12_239 mw_X12_inBucket mv_X12_inBucket ⟨Nat.le_of_ble_eq_true rfl, Nat.le_of_ble_eq_true rfl⟩ rfl rfl (Nat.le_of_ble_eq_true rfl) ⟨Nat.le_refl _, Nat.le_refl _⟩ (by decide) ?_
      refine tc_iadd dX12_readTo_115 ?_
      obtain ⟨x15, ex15, h⟩ := tc_let_ex h
      refine tc_nm ex15 ?_
      refine tc_istore_n [(3, .int x15), (0, .ref (z + v0)), (2, .int v2), (4, .int v4)] dX12_readTo_116 (by decide) rfl ?_
      refine tc_lvs [0] rfl ?_
      exact sb_X12_readTo_117 hW r ur  x15 u13  h
set_option maxRecDepth 100000 in
set_option maxHeartbeats 4000000 in
theorem sb_X12_readTo_43 {p : Program} {l : Launch} {e : Env} {s : State} {m : MethodId} {args : Array Value} {below : List Frame} {meth : Method} {c : Code} {z : Nat} {D : tc_D} {G : tc_G} (hW : tc_W G) (r : Int32) (ur : tc_S) (K12 : Nat → Int32 → Int32 → Int32 → Int32 → Int32 → tc_S → Option (Int32 × tc_S)) (hK12 : ∀ (v0 : Nat) (v1 : Int32) (v2 : Int32) (v3 : Int32) (v4 : Int32) (v5 : Int32) (u : tc_S), tc_is G v0 12 → K12 v0 v1 v2 v3 v4 v5 u = some (r, ur) → tc_R p l e { frames := 2, cells := 0, slots := 0, locals := 46 } s m args below meth c z D cX12_readTo RX12 6 (some .int) 0 0 (tc_po r G ur) 0 0 G u 12 [(0, .ref (z + v0)), (1, .int v1), (2, .int v2), (3, .int v3), (4, .int v4), (5, .int v5)] []) (v0 : Nat) (v1 : Int32) (v2 : Int32) (v4 : Int32) (v5 : Int32) (s0 : Int32) (s1 : Int32) (u : tc_S) (iv0 : tc_is G v0 12) (h : bl_X12_readTo_43 G K12 v0 v1 v2 v4 v5 s0 s1 u = some (r, ur)) : tc_R p l e { frames := 2, cells := 0, slots := 0, locals := 46 } s m args below meth c z D cX12_readTo RX12 6 (some .int) 0 0 (tc_po r G ur) 0 0 G u 43 [(0, .ref (z + v0)), (1, .int v1), (2, .int v2), (4, .int v4), (5, .int v5)] [.int s1, .int s0] := by
  unfold bl_X12_readTo_43 at h
  refine tc_iadd dX12_readTo_43 ?_
  obtain ⟨x16, ex16, h⟩ := tc_let_ex h
  refine tc_nm ex16 ?_
  refine tc_istore_n [(3, .int x16), (0, .ref (z + v0)), (1, .int v1), (2, .int v2), (4, .int v4), (5, .int v5)] dX12_readTo_44 (by decide) rfl ?_
  obtain ⟨x17, ex17, h⟩ := tc_let_ex h
  refine tc_iinc 5 (v := x17) [(5, .int x17), (3, .int x16), (0, .ref (z + v0)), (1, .int v1), (2, .int v2), (4, .int v4)] dX12_readTo_45 rfl (by rw [ex17]; rfl) (by decide) rfl ?_
  refine tc_goto 12 dX12_readTo_48 (by decide) ?_
  refine tc_lvs [2, 3, 4, 1, 5, 0] rfl ?_
  exact hK12 v0 v1 v2 x16 v4 x17 u iv0 h
set_option maxRecDepth 100000 in
set_option maxHeartbeats 4000000 in
theorem sl_X12_readTo_12 {p : Program} {l : Launch} {e : Env} {s : State} {m : MethodId} {args : Array Value} {below : List Frame} {meth : Method} {c : Code} {z : Nat} {D : tc_D} {G : tc_G} (hW : tc_W G) (r : Int32) (ur : tc_S) : ∀ (n : Nat) (v0 : Nat) (v1 : Int32) (v2 : Int32) (v3 : Int32) (v4 : Int32) (v5 : Int32) (u : tc_S) (iv0 : tc_is G v0 12) (h : lo_X12_readTo_12 G n v0 v1 v2 v3 v4 v5 u = some (r, ur)), tc_R p l e { frames := 2, cells := 0, slots := 0, locals := 46 } s m args below meth c z D cX12_readTo RX12 6 (some .int) 0 0 (tc_po r G ur) 0 0 G u 12 [(0, .ref (z + v0)), (1, .int v1), (2, .int v2), (3, .int v3), (4, .int v4), (5, .int v5)] [] := by
  intro n
  induction n with
  | zero => intro v0 v1 v2 v3 v4 v5 u iv0 h; cases h
  | succ n ih =>
    intro v0 v1 v2 v3 v4 v5 u iv0 h
    rw [lo_X12_readTo_12] at h
    refine tc_iload 5 rfl dX12_readTo_12 ?_
    refine tc_aload_n 0 rfl dX12_readTo_14 ?_
    refine tc_iload_n 1 rfl dX12_readTo_15 ?_
    obtain ⟨x18, u19, hq20, h⟩ := tc_b_ex h
    refine tc_callVi [.int v1] dX12_readTo_16 iv0.1 (ct_X12_placeOf hW iv0 hq20) ml_X12_257 mw_X12_placeOf mv_X12_placeOf ⟨Nat.le_of_ble_eq_true rfl, Nat.le_of_ble_eq_true rfl⟩ rfl rfl (Nat.le_of_ble_eq_true rfl) ⟨Nat.le_refl _, Nat.le_refl _⟩ (by decide) ?_
    refine tc_icmp_ge 51 dX12_readTo_19 (by decide) (fun hc21 => ?_) (fun hc21 => ?_)
    · rw [if_pos hc21] at h
      refine tc_iload 4 rfl dX12_readTo_51 ?_
      refine tc_aload_n 0 rfl dX12_readTo_53 ?_
      refine tc_iconst (v := 0) (by decide) dX12_readTo_54 ?_
      refine tc_iload_n 2 rfl dX12_readTo_55 ?_
      refine tc_iconst (v := 0) (by decide) dX12_readTo_56 ?_
      obtain ⟨x22, u23, hq24, h⟩ := tc_b_ex h
      refine tc_callVi [.int 0, .int v2, .int 0] dX12_readTo_57 iv0.1 (ct_X12_hashOf hW iv0 hq24) ml_X12_88 mw_X12_hashOf mv_X12_hashOf ⟨Nat.le_of_ble_eq_true rfl, Nat.le_of_ble_eq_true rfl⟩ rfl rfl (Nat.le_of_ble_eq_true rfl) ⟨Nat.le_refl _, Nat.le_refl _⟩ (by decide) ?_
      refine tc_icmp_eq 78 dX12_readTo_60 (by decide) (fun hc25 => ?_) (fun hc25 => ?_)
      · rw [if_pos hc25] at h
        refine tc_lvs [0, 2, 3, 4] rfl ?_
        exact sb_X12_readTo_78 hW r ur  v0 v2 v3 v4 u23 iv0 h
      · rw [if_neg hc25] at h
        refine tc_iload_n 3 rfl dX12_readTo_63 ?_
        refine tc_aload_n 0 rfl dX12_readTo_64 ?_
        refine tc_iconst (v := 0) (by decide) dX12_readTo_65 ?_
        refine tc_aload_n 0 rfl dX12_readTo_66 ?_
        refine tc_iconst (v := 0) (by decide) dX12_readTo_67 ?_
        refine tc_iload_n 2 rfl dX12_readTo_68 ?_
        refine tc_iconst (v := 0) (by decide) dX12_readTo_69 ?_
        obtain ⟨x26, u27, hq28, h⟩ := tc_b_ex h
        refine tc_callVi [.int 0, .int v2, .int 0] dX12_readTo_70 iv0.1 (ct_X12_hashOf hW iv0 hq28) ml_X12_88 mw_X12_hashOf mv_X12_hashOf ⟨Nat.le_of_ble_eq_true rfl, Nat.le_of_ble_eq_true rfl⟩ rfl rfl (Nat.le_of_ble_eq_true rfl) ⟨Nat.le_refl _, Nat.le_refl _⟩ (by decide) ?_
        obtain ⟨x29, u30, hq31, h⟩ := tc_b_ex h
        refine tc_callVi [.int 0, .int x26] dX12_readTo_73 iv0.1 (ct_X12_inBucket hW iv0 hq31) ml_X12_239 mw_X12_inBucket mv_X12_inBucket ⟨Nat.le_of_ble_eq_true rfl, Nat.le_of_ble_eq_true rfl⟩ rfl rfl (Nat.le_of_ble_eq_true rfl) ⟨Nat.le_refl _, Nat.le_refl _⟩ (by decide) ?_
        refine tc_iadd dX12_readTo_76 ?_
        obtain ⟨x32, ex32, h⟩ := tc_let_ex h
        refine tc_nm ex32 ?_
        refine tc_istore_n [(3, .int x32), (0, .ref (z + v0)), (1, .int v1), (2, .int v2), (4, .int v4), (5, .int v5)] dX12_readTo_77 (by decide) rfl ?_
        refine tc_lvs [1, 3, 0, 4] rfl ?_
        exact sb_X12_readTo_78 hW r ur  v0 v2 x32 v4 u30 iv0 h
    · rw [if_neg hc21] at h
      refine tc_iload_n 3 rfl dX12_readTo_22 ?_
      refine tc_aload_n 0 rfl dX12_readTo_23 ?_
      refine tc_iconst (v := 0) (by decide) dX12_readTo_24 ?_
      refine tc_iload 4 rfl dX12_readTo_25 ?_
      refine tc_iload 5 rfl dX12_readTo_27 ?_
      obtain ⟨x33, u34, hq35, h⟩ := tc_b_ex h
      refine tc_callSi [.int 0, .int v4, .int v5] dX12_readTo_29 (ct_X12_cell hW hq35) ml_X12_92 mw_X12_cell ms_X12_cell ⟨Nat.le_of_ble_eq_true rfl, Nat.le_of_ble_eq_true rfl⟩ rfl rfl (Nat.le_of_ble_eq_true rfl) ⟨Nat.le_refl _, Nat.le_refl _⟩ ?_
      obtain ⟨x36, u37, hq38, h⟩ := tc_b_ex h
      refine tc_callVi [.int x33] dX12_readTo_32 iv0.1 (ct_X12_isEntry hW iv0 hq38) ml_X12_95 mw_X12_isEntry mv_X12_isEntry ⟨Nat.le_of_ble_eq_true rfl, Nat.le_of_ble_eq_true rfl⟩ rfl rfl (Nat.le_of_ble_eq_true rfl) ⟨Nat.le_refl _, Nat.le_refl _⟩ (by decide) ?_
      refine tc_if_eq 42 dX12_readTo_35 (by decide) (fun hc39 => ?_) (fun hc39 => ?_)
      · rw [if_pos hc39] at h
        refine tc_iconst (v := 0) (by decide) dX12_readTo_42 ?_
        refine tc_lvs [0, 1, 2, 4, 5] rfl ?_
        exact sb_X12_readTo_43 hW r ur _ ih v0 v1 v2 v4 v5 v3 0 u37 iv0 h
      · rw [if_neg hc39] at h
        refine tc_iconst (v := 1) (by decide) dX12_readTo_38 ?_
        refine tc_goto 43 dX12_readTo_39 (by decide) ?_
        refine tc_lvs [0, 1, 2, 4, 5] rfl ?_
        exact sb_X12_readTo_43 hW r ur _ ih v0 v1 v2 v4 v5 v3 1 u37 iv0 h
set_option maxRecDepth 100000 in
set_option maxHeartbeats 4000000 in
theorem ct_X12_readTo {l : Launch} {z : Nat} {D : tc_D} {G : tc_G} (hW : tc_W G) {v0 : Nat} {v1 : Int32} {v2 : Int32} {u : tc_S} {r : Int32} {ur : tc_S} (iv0 : tc_is G v0 12) (h : fn_X12_readTo G v0 v1 v2 u = some (r, ur)) : tc_C l z D yX12_readTo cX12_readTo 6 (some .int) 2 46 0 0 [.ref (z + v0), .int v1, .int v2] G u (tc_po r G ur) := by
  unfold fn_X12_readTo at h
  refine tc_C.of (by decide) (Nat.le_of_ble_eq_true rfl) fun p e s m args below meth c => ?_
  show tc_R p l e { frames := 2, cells := 0, slots := 0, locals := 46 } s m args below meth c z D cX12_readTo RX12 6 (some .int) 0 0 (tc_po r G ur) 0 0 G u 0 [(0, .ref (z + v0)), (1, .int v1), (2, .int v2)] []
  refine tc_iconst (v := 1) (by decide) dX12_readTo_0 ?_
  refine tc_istore_n [(3, .int 1), (0, .ref (z + v0)), (1, .int v1), (2, .int v2)] dX12_readTo_1 (by decide) rfl ?_
  refine tc_aload_n 1 rfl dX12_readTo_2 ?_
  refine tc_iload_n 2 rfl dX12_readTo_3 ?_
  obtain ⟨x40, u41, hq42, h⟩ := tc_b_ex h
  refine tc_callVi [.int v1] dX12_readTo_4 iv0.1 (ct_X12_bucketOf hW iv0 hq42) ml_X12_254 mw_X12_bucketOf mv_X12_bucketOf ⟨Nat.le_of_ble_eq_true rfl, Nat.le_of_ble_eq_true rfl⟩ rfl rfl (Nat.le_of_ble_eq_true rfl) ⟨Nat.le_refl _, Nat.le_refl _⟩ (by decide) ?_
  refine tc_istore [(4, .int x40), (3, .int 1), (0, .ref (z + v0)), (1, .int v1), (2, .int v2)] dX12_readTo_7 (by decide) rfl ?_
  refine tc_iconst (v := 0) (by decide) dX12_readTo_9 ?_
  refine tc_istore [(5, .int 0), (4, .int x40), (3, .int 1), (0, .ref (z + v0)), (1, .int v1), (2, .int v2)] dX12_readTo_10 (by decide) rfl ?_
  refine tc_lvs [3, 4, 5, 2, 1, 0] rfl ?_
  exact sl_X12_readTo_12 hW r ur  _ v0 v1 v2 1 x40 0 u41 iv0 h
set_option maxRecDepth 100000 in
set_option maxHeartbeats 4000000 in
theorem sb_X12_find_17 {p : Program} {l : Launch} {e : Env} {s : State} {m : MethodId} {args : Array Value} {below : List Frame} {meth : Method} {c : Code} {z : Nat} {D : tc_D} {G : tc_G} (hW : tc_W G) (r : Int32) (ur : tc_S) (v0 : Nat) (v1 : Int32) (v2 : Int32) (s0 : Int32) (u : tc_S) (iv0 : tc_is G v0 12) (h : bl_X12_find_17 G v0 v1 v2 s0 u = some (r, ur)) : tc_R p l e { frames := 3, cells := 0, slots := 0, locals := 73 } s m args below meth c z D cX12_find RX12 4 (some .int) 0 0 (tc_po r G ur) 0 0 G u 17 [(0, .ref (z + v0)), (1, .int v1), (2, .int v2)] [.int s0] := by
  unfold bl_X12_find_17 at h
  refine tc_istore_n [(3, .int s0), (0, .ref (z + v0)), (1, .int v1), (2, .int v2)] dX12_find_17 (by decide) rfl ?_
  refine tc_iload_n 0 rfl dX12_find_18 ?_
  refine tc_if_ge 24 dX12_find_19 (by decide) (fun hc1 => ?_) (fun hc1 => ?_)
  · rw [if_pos hc1] at h
    refine tc_iload_n 3 rfl dX12_find_24 ?_
    by_cases hc2 : v2.toInt = 0
    · rw [if_pos hc2] at h
      refine tc_tswIn 64 dX12_find_25 (by rw [hc2]; decide) (by rw [hc2]; decide) (by rw [hc2]; rfl) (by decide) ?_
      refine tc_aload_n 1 rfl dX12_find_64 ?_
      refine tc_iload_n 0 rfl dX12_find_65 ?_
      obtain ⟨x3, u4, hq5, h⟩ := tc_b_ex h
      refine tc_callVi [.int s0] dX12_find_66 iv0.1 (ct_X12_bucketOf hW iv0 hq5) ml_X12_254 mw_X12_bucketOf mv_X12_bucketOf ⟨Nat.le_of_ble_eq_true rfl, Nat.le_of_ble_eq_true rfl⟩ rfl rfl (Nat.le_of_ble_eq_true rfl) ⟨Nat.le_refl _, Nat.le_refl _⟩ (by decide) ?_
      cases h
      exact tc_ireturn rfl dX12_find_69 rfl rfl ⟨rfl, rfl, rfl⟩
    rw [if_neg hc2] at h
    by_cases hc6 : v2.toInt = 1
    · rw [if_pos hc6] at h
      refine tc_tswIn 70 dX12_find_25 (by rw [hc6]; decide) (by rw [hc6]; decide) (by rw [hc6]; rfl) (by decide) ?_
      refine tc_aload_n 1 rfl dX12_find_70 ?_
      refine tc_iload_n 0 rfl dX12_find_71 ?_
      obtain ⟨x7, u8, hq9, h⟩ := tc_b_ex h
      refine tc_callVi [.int s0] dX12_find_72 iv0.1 (ct_X12_placeOf hW iv0 hq9) ml_X12_257 mw_X12_placeOf mv_X12_placeOf ⟨Nat.le_of_ble_eq_true rfl, Nat.le_of_ble_eq_true rfl⟩ rfl rfl (Nat.le_of_ble_eq_true rfl) ⟨Nat.le_refl _, Nat.le_refl _⟩ (by decide) ?_
      cases h
      exact tc_ireturn rfl dX12_find_75 rfl rfl ⟨rfl, rfl, rfl⟩
    rw [if_neg hc6] at h
    by_cases hc10 : v2.toInt = 2
    · rw [if_pos hc10] at h
      refine tc_tswIn 76 dX12_find_25 (by rw [hc10]; decide) (by rw [hc10]; decide) (by rw [hc10]; rfl) (by decide) ?_
      refine tc_aload_n 1 rfl dX12_find_76 ?_
      refine tc_iconst (v := 0) (by decide) dX12_find_77 ?_
      refine tc_iload_n 2 rfl dX12_find_78 ?_
      obtain ⟨x11, u12, hq13, h⟩ := tc_b_ex h
      refine tc_callVi [.int 0, .int v1] dX12_find_79 iv0.1 (ct_X12_reads hW iv0 hq13) ml_X12_248 mw_X12_reads mv_X12_reads ⟨Nat.le_of_ble_eq_true rfl, Nat.le_of_ble_eq_true rfl⟩ rfl rfl (Nat.le_of_ble_eq_true rfl) ⟨Nat.le_refl _, Nat.le_refl _⟩ (by decide) ?_
      cases h
      exact tc_ireturn rfl dX12_find_82 rfl rfl ⟨rfl, rfl, rfl⟩
    rw [if_neg hc10] at h
    by_cases hc14 : v2.toInt = 3
    · rw [if_pos hc14] at h
      refine tc_tswIn 83 dX12_find_25 (by rw [hc14]; decide) (by rw [hc14]; decide) (by rw [hc14]; rfl) (by decide) ?_
      refine tc_aload_n 1 rfl dX12_find_83 ?_
      refine tc_getp hW iv0 fl_X12_7 dX12_find_84 rfl ?_
      refine tc_iload_n 0 rfl dX12_find_87 ?_
      refine tc_iconst (v := 2) (by decide) dX12_find_88 ?_
      refine tc_iadd dX12_find_89 ?_
      obtain ⟨bx15, x15, ex15, h⟩ := tc_ld_ex h
      refine tc_iald (hW.p iv0 0 rfl).1 bx15 dX12_find_90 ?_
      refine tc_nm ex15 ?_
      cases h
      exact tc_ireturn rfl dX12_find_91 rfl rfl ⟨rfl, rfl, rfl⟩
    rw [if_neg hc14] at h
    by_cases hc16 : v2.toInt = 4
    · rw [if_pos hc16] at h
      refine tc_tswIn 92 dX12_find_25 (by rw [hc16]; decide) (by rw [hc16]; decide) (by rw [hc16]; rfl) (by decide) ?_
      refine tc_aload_n 1 rfl dX12_find_92 ?_
      refine tc_getp hW iv0 fl_X12_7 dX12_find_93 rfl ?_
      refine tc_iload_n 0 rfl dX12_find_96 ?_
      refine tc_iconst (v := 3) (by decide) dX12_find_97 ?_
      refine tc_iadd dX12_find_98 ?_
      obtain ⟨bx17, x17, ex17, h⟩ := tc_ld_ex h
      refine tc_iald (hW.p iv0 0 rfl).1 bx17 dX12_find_99 ?_
      refine tc_nm ex17 ?_
      cases h
      exact tc_ireturn rfl dX12_find_100 rfl rfl ⟨rfl, rfl, rfl⟩
    rw [if_neg hc16] at h
    by_cases hc18 : v2.toInt = 5
    · rw [if_pos hc18] at h
      refine tc_tswIn 101 dX12_find_25 (by rw [hc18]; decide) (by rw [hc18]; decide) (by rw [hc18]; rfl) (by decide) ?_
      refine tc_aload_n 1 rfl dX12_find_101 ?_
      refine tc_iload_n 0 rfl dX12_find_102 ?_
      refine tc_iload_n 2 rfl dX12_find_103 ?_
      obtain ⟨x19, u20, hq21, h⟩ := tc_b_ex h
      refine tc_callVi [.int s0, .int v1] dX12_find_104 iv0.1 (ct_X12_readTo hW iv0 hq21) ml_X12_260 mw_X12_readTo mv_X12_readTo ⟨Nat.le_of_ble_eq_true rfl, Nat.le_of_ble_eq_true rfl⟩ rfl rfl (Nat.le_of_ble_eq_true rfl) ⟨Nat.le_refl _, Nat.le_refl _⟩ (by decide) ?_
      cases h
      exact tc_ireturn rfl dX12_find_107 rfl rfl ⟨rfl, rfl, rfl⟩
    rw [if_neg hc18] at h
    have sw22 : v2.toInt < 0 ∨ 5 < v2.toInt := by omega
    refine tc_tswOut 108 dX12_find_25 sw22 (by decide) ?_
    refine tc_iconst (v := (-1)) (by decide) dX12_find_108 ?_
    cases h
    exact tc_ireturn rfl dX12_find_109 rfl rfl ⟨rfl, rfl, rfl⟩
  · rw [if_neg hc1] at h
    refine tc_iconst (v := (-1)) (by decide) dX12_find_22 ?_
    cases h
    exact tc_ireturn rfl dX12_find_23 rfl rfl ⟨rfl, rfl, rfl⟩
set_option maxRecDepth 100000 in
set_option maxHeartbeats 4000000 in
theorem ct_X12_find {l : Launch} {z : Nat} {D : tc_D} {G : tc_G} (hW : tc_W G) {v0 : Nat} {v1 : Int32} {v2 : Int32} {u : tc_S} {r : Int32} {ur : tc_S} (iv0 : tc_is G v0 12) (h : fn_X12_find G v0 v1 v2 u = some (r, ur)) : tc_C l z D yX12_find cX12_find 4 (some .int) 3 73 0 0 [.ref (z + v0), .int v1, .int v2] G u (tc_po r G ur) := by
  unfold fn_X12_find at h
  refine tc_C.of (by decide) (Nat.le_of_ble_eq_true rfl) fun p e s m args below meth c => ?_
  show tc_R p l e { frames := 3, cells := 0, slots := 0, locals := 73 } s m args below meth c z D cX12_find RX12 4 (some .int) 0 0 (tc_po r G ur) 0 0 G u 0 [(0, .ref (z + v0)), (1, .int v1), (2, .int v2)] []
  refine tc_iload_n 1 rfl dX12_find_0 ?_
  obtain ⟨x23, u24, hq25, h⟩ := tc_b_ex h
  refine tc_callSi [.int v1] dX12_find_1 (ct_X12_isKey hW hq25) ml_X12_224 mw_X12_isKey ms_X12_isKey ⟨Nat.le_of_ble_eq_true rfl, Nat.le_of_ble_eq_true rfl⟩ rfl rfl (Nat.le_of_ble_eq_true rfl) ⟨Nat.le_refl _, Nat.le_refl _⟩ ?_
  refine tc_if_eq 16 dX12_find_4 (by decide) (fun hc26 => ?_) (fun hc26 => ?_)
  · rw [if_pos hc26] at h
    refine tc_iconst (v := (-1)) (by decide) dX12_find_16 ?_
    exact sb_X12_find_17 hW r ur  v0 v1 v2 (-1) u24 iv0 h
  · rw [if_neg hc26] at h
    refine tc_aload_n 0 rfl dX12_find_7 ?_
    refine tc_iconst (v := 0) (by decide) dX12_find_8 ?_
    refine tc_iload_n 1 rfl dX12_find_9 ?_
    obtain ⟨x27, u28, hq29, h⟩ := tc_b_ex h
    refine tc_callVi [.int 0, .int v1] dX12_find_10 iv0.1 (ct_X12_lies hW iv0 hq29) ml_X12_166 mw_X12_lies mv_X12_lies ⟨Nat.le_of_ble_eq_true rfl, Nat.le_of_ble_eq_true rfl⟩ rfl rfl (Nat.le_of_ble_eq_true rfl) ⟨Nat.le_refl _, Nat.le_refl _⟩ (by decide) ?_
    refine tc_goto 17 dX12_find_13 (by decide) ?_
    exact sb_X12_find_17 hW r ur  v0 v1 v2 x27 u28 iv0 h
set_option maxRecDepth 100000 in
set_option maxHeartbeats 4000000 in
theorem sb_X12_at_80 {p : Program} {l : Launch} {e : Env} {s : State} {m : MethodId} {args : Array Value} {below : List Frame} {meth : Method} {c : Code} {z : Nat} {D : tc_D} {G : tc_G} (hW : tc_W G) (r : Int32) (ur : tc_S) (u : tc_S) (h : bl_X12_at_80 G  u = some (r, ur)) : tc_R p l e { frames := 2, cells := 0, slots := 0, locals := 48 } s m args below meth c z D cX12_at RX12 6 (some .int) 0 0 (tc_po r G ur) 0 0 G u 80 [] [] := by
  unfold bl_X12_at_80 at h
  refine tc_iconst (v := (-1)) (by decide) dX12_at_80 ?_
  cases h
  exact tc_ireturn rfl dX12_at_81 rfl rfl ⟨rfl, rfl, rfl⟩
set_option maxRecDepth 100000 in
set_option maxHeartbeats 4000000 in
theorem sb_X12_at_162 {p : Program} {l : Launch} {e : Env} {s : State} {m : MethodId} {args : Array Value} {below : List Frame} {meth : Method} {c : Code} {z : Nat} {D : tc_D} {G : tc_G} (hW : tc_W G) (r : Int32) (ur : tc_S) (s0 : Int32) (u : tc_S) (h : bl_X12_at_162 G s0 u = some (r, ur)) : tc_R p l e { frames := 2, cells := 0, slots := 0, locals := 48 } s m args below meth c z D cX12_at RX12 6 (some .int) 0 0 (tc_po r G ur) 0 0 G u 162 [] [.int s0] := by
  unfold bl_X12_at_162 at h
  cases h
  exact tc_ireturn rfl dX12_at_162 rfl rfl ⟨rfl, rfl, rfl⟩
set_option maxRecDepth 100000 in
set_option maxHeartbeats 4000000 in
theorem sb_X12_at_136 {p : Program} {l : Launch} {e : Env} {s : State} {m : MethodId} {args : Array Value} {below : List Frame} {meth : Method} {c : Code} {z : Nat} {D : tc_D} {G : tc_G} (hW : tc_W G) (r : Int32) (ur : tc_S) (s0 : Nat) (s1 : Int32) (s2 : Int32) (s3 : Int32) (u : tc_S) (is0 : tc_is G s0 12) (h : bl_X12_at_136 G s0 s1 s2 s3 u = some (r, ur)) : tc_R p l e { frames := 2, cells := 0, slots := 0, locals := 48 } s m args below meth c z D cX12_at RX12 6 (some .int) 0 0 (tc_po r G ur) 0 0 G u 136 [] [.int s3, .int s2, .int s1, .ref (z + s0)] := by
  unfold bl_X12_at_136 at h
  obtain ⟨x1, u2, hq3, h⟩ := tc_b_ex h
  refine tc_callVi [.int s1, .int s2, .int s3] dX12_at_136 is0.1 (ct_X12_otherOf hW is0 hq3) ml_X12_107 mw_X12_otherOf mv_X12_otherOf ⟨Nat.le_of_ble_eq_true rfl, Nat.le_of_ble_eq_true rfl⟩ rfl rfl (Nat.le_of_ble_eq_true rfl) ⟨Nat.le_refl _, Nat.le_refl _⟩ (by decide) ?_
  cases h
  exact tc_ireturn rfl dX12_at_139 rfl rfl ⟨rfl, rfl, rfl⟩
set_option maxRecDepth 100000 in
set_option maxHeartbeats 4000000 in
theorem sb_X12_at_60 {p : Program} {l : Launch} {e : Env} {s : State} {m : MethodId} {args : Array Value} {below : List Frame} {meth : Method} {c : Code} {z : Nat} {D : tc_D} {G : tc_G} (hW : tc_W G) (r : Int32) (ur : tc_S) (v0 : Nat) (v1 : Int32) (v2 : Int32) (v3 : Int32) (s0 : Int32) (u : tc_S) (iv0 : tc_is G v0 12) (h : bl_X12_at_60 G v0 v1 v2 v3 s0 u = some (r, ur)) : tc_R p l e { frames := 2, cells := 0, slots := 0, locals := 48 } s m args below meth c z D cX12_at RX12 6 (some .int) 0 0 (tc_po r G ur) 0 0 G u 60 [(0, .ref (z + v0)), (1, .int v1), (2, .int v2), (3, .int v3)] [.int s0] := by
  unfold bl_X12_at_60 at h
  refine tc_istore [(4, .int s0), (0, .ref (z + v0)), (1, .int v1), (2, .int v2), (3, .int v3)] dX12_at_60 (by decide) rfl ?_
  refine tc_iload 0 rfl dX12_at_62 ?_
  refine tc_if_eq 80 dX12_at_64 (by decide) (fun hc4 => ?_) (fun hc4 => ?_)
  · rw [if_pos hc4] at h
    refine tc_lvs [] rfl ?_
    exact sb_X12_at_80 hW r ur   u  h
  · rw [if_neg hc4] at h
    refine tc_aload_n 1 rfl dX12_at_67 ?_
    refine tc_iconst (v := 0) (by decide) dX12_at_68 ?_
    refine tc_iload_n 2 rfl dX12_at_69 ?_
    refine tc_iload_n 3 rfl dX12_at_70 ?_
    obtain ⟨x5, u6, hq7, h⟩ := tc_b_ex h
    refine tc_callSi [.int 0, .int v1, .int v2] dX12_at_71 (ct_X12_cell hW hq7) ml_X12_92 mw_X12_cell ms_X12_cell ⟨Nat.le_of_ble_eq_true rfl, Nat.le_of_ble_eq_true rfl⟩ rfl rfl (Nat.le_of_ble_eq_true rfl) ⟨Nat.le_refl _, Nat.le_refl _⟩ ?_
    obtain ⟨x8, u9, hq10, h⟩ := tc_b_ex h
    refine tc_callVi [.int x5] dX12_at_74 iv0.1 (ct_X12_isEntry hW iv0 hq10) ml_X12_95 mw_X12_isEntry mv_X12_isEntry ⟨Nat.le_of_ble_eq_true rfl, Nat.le_of_ble_eq_true rfl⟩ rfl rfl (Nat.le_of_ble_eq_true rfl) ⟨Nat.le_refl _, Nat.le_refl _⟩ (by decide) ?_
    refine tc_if_ne 82 dX12_at_77 (by decide) (fun hc11 => ?_) (fun hc11 => ?_)
    · rw [if_neg hc11] at h
      refine tc_iconst (v := 0) (by decide) dX12_at_82 ?_
      refine tc_iload_n 2 rfl dX12_at_83 ?_
      refine tc_iload_n 3 rfl dX12_at_84 ?_
      obtain ⟨x12, u13, hq14, h⟩ := tc_b_ex h
      refine tc_callSi [.int 0, .int v1, .int v2] dX12_at_85 (ct_X12_cell hW hq14) ml_X12_92 mw_X12_cell ms_X12_cell ⟨Nat.le_of_ble_eq_true rfl, Nat.le_of_ble_eq_true rfl⟩ rfl rfl (Nat.le_of_ble_eq_true rfl) ⟨Nat.le_refl _, Nat.le_refl _⟩ ?_
      refine tc_istore [(5, .int x12), (4, .int s0), (0, .ref (z + v0)), (1, .int v1), (2, .int v2), (3, .int v3)] dX12_at_88 (by decide) rfl ?_
      refine tc_iload_n 5 rfl dX12_at_90 ?_
      refine tc_if_ne 101 dX12_at_91 (by decide) (fun hc15 => ?_) (fun hc15 => ?_)
      · rw [if_neg hc15] at h
        refine tc_iload_n 5 rfl dX12_at_101 ?_
        refine tc_iconst (v := 4) (by decide) dX12_at_102 ?_
        refine tc_icmp_ne 140 dX12_at_103 (by decide) (fun hc16 => ?_) (fun hc16 => ?_)
        · rw [if_neg hc16] at h
          refine tc_iload_n 5 rfl dX12_at_140 ?_
          refine tc_iconst (v := 1) (by decide) dX12_at_141 ?_
          refine tc_iconst (v := 3) (by decide) dX12_at_142 ?_
          obtain ⟨x17, u18, hq19, h⟩ := tc_b_ex h
          refine tc_callSi [.int v3, .int 1, .int 3] dX12_at_143 (ct_X12_isIn hW hq19) ml_X12_79 mw_X12_isIn ms_X12_isIn ⟨Nat.le_of_ble_eq_true rfl, Nat.le_of_ble_eq_true rfl⟩ rfl rfl (Nat.le_of_ble_eq_true rfl) ⟨Nat.le_refl _, Nat.le_refl _⟩ ?_
          refine tc_if_eq 161 dX12_at_146 (by decide) (fun hc20 => ?_) (fun hc20 => ?_)
          · rw [if_pos hc20] at h
            refine tc_iconst (v := (-1)) (by decide) dX12_at_161 ?_
            refine tc_lvs [] rfl ?_
            exact sb_X12_at_162 hW r ur  (-1) u18  h
          · rw [if_neg hc20] at h
            refine tc_aload_n 2 rfl dX12_at_149 ?_
            refine tc_getp hW iv0 fl_X12_7 dX12_at_150 rfl ?_
            refine tc_iload 0 rfl dX12_at_153 ?_
            refine tc_iload_n 5 rfl dX12_at_155 ?_
            refine tc_iadd dX12_at_156 ?_
            obtain ⟨bx21, x21, ex21, h⟩ := tc_ld_ex h
            refine tc_iald (hW.p iv0 0 rfl).1 bx21 dX12_at_157 ?_
            refine tc_nm ex21 ?_
            refine tc_goto 162 dX12_at_158 (by decide) ?_
            refine tc_lvs [] rfl ?_
            exact sb_X12_at_162 hW r ur  x21 u18  h
        · rw [if_pos hc16] at h
          refine tc_aload_n 2 rfl dX12_at_106 ?_
          refine tc_iconst (v := 0) (by decide) dX12_at_107 ?_
          refine tc_aload_n 2 rfl dX12_at_108 ?_
          refine tc_iload 0 rfl dX12_at_109 ?_
          obtain ⟨x22, u23, hq24, h⟩ := tc_b_ex h
          refine tc_callVi [.int x12] dX12_at_111 iv0.1 (ct_X12_keyOf hW iv0 hq24) ml_X12_103 mw_X12_keyOf mv_X12_keyOf ⟨Nat.le_of_ble_eq_true rfl, Nat.le_of_ble_eq_true rfl⟩ rfl rfl (Nat.le_of_ble_eq_true rfl) ⟨Nat.le_refl _, Nat.le_refl _⟩ (by decide) ?_
          refine tc_iload_n 3 rfl dX12_at_114 ?_
          refine tc_bipush (v := 100) (by decide) dX12_at_115 ?_
          refine tc_icmp_ne 135 dX12_at_117 (by decide) (fun hc25 => ?_) (fun hc25 => ?_)
          · rw [if_neg hc25] at h
            refine tc_iload_n 3 rfl dX12_at_135 ?_
            refine tc_lvs [] rfl ?_
            exact sb_X12_at_136 hW r ur  v0 0 x22 v1 u23 iv0 h
          · rw [if_pos hc25] at h
            refine tc_aload_n 2 rfl dX12_at_120 ?_
            refine tc_iconst (v := 0) (by decide) dX12_at_121 ?_
            refine tc_aload_n 2 rfl dX12_at_122 ?_
            refine tc_iload 0 rfl dX12_at_123 ?_
            obtain ⟨x26, u27, hq28, h⟩ := tc_b_ex h
            refine tc_callVi [.int x12] dX12_at_125 iv0.1 (ct_X12_keyOf hW iv0 hq28) ml_X12_103 mw_X12_keyOf mv_X12_keyOf ⟨Nat.le_of_ble_eq_true rfl, Nat.le_of_ble_eq_true rfl⟩ rfl rfl (Nat.le_of_ble_eq_true rfl) ⟨Nat.le_refl _, Nat.le_refl _⟩ (by decide) ?_
            refine tc_iconst (v := 0) (by decide) dX12_at_128 ?_
            obtain ⟨x29, u30, hq31, h⟩ := tc_b_ex h
            refine tc_callVi [.int 0, .int x26, .int 0] dX12_at_129 iv0.1 (ct_X12_hashOf hW iv0 hq31) ml_X12_88 mw_X12_hashOf mv_X12_hashOf ⟨Nat.le_of_ble_eq_true rfl, Nat.le_of_ble_eq_true rfl⟩ rfl rfl (Nat.le_of_ble_eq_true rfl) ⟨Nat.le_refl _, Nat.le_refl _⟩ (by decide) ?_
            refine tc_goto 136 dX12_at_132 (by decide) ?_
            refine tc_lvs [] rfl ?_
            exact sb_X12_at_136 hW r ur  v0 0 x22 x29 u30 iv0 h
      · rw [if_pos hc15] at h
        refine tc_aload_n 2 rfl dX12_at_94 ?_
        refine tc_iload 0 rfl dX12_at_95 ?_
        obtain ⟨x32, u33, hq34, h⟩ := tc_b_ex h
        refine tc_callVi [.int x12] dX12_at_97 iv0.1 (ct_X12_keyOf hW iv0 hq34) ml_X12_103 mw_X12_keyOf mv_X12_keyOf ⟨Nat.le_of_ble_eq_true rfl, Nat.le_of_ble_eq_true rfl⟩ rfl rfl (Nat.le_of_ble_eq_true rfl) ⟨Nat.le_refl _, Nat.le_refl _⟩ (by decide) ?_
        cases h
        exact tc_ireturn rfl dX12_at_100 rfl rfl ⟨rfl, rfl, rfl⟩
    · rw [if_pos hc11] at h
      refine tc_lvs [] rfl ?_
      exact sb_X12_at_80 hW r ur   u9  h
set_option maxRecDepth 100000 in
set_option maxHeartbeats 4000000 in
theorem sb_X12_at_59 {p : Program} {l : Launch} {e : Env} {s : State} {m : MethodId} {args : Array Value} {below : List Frame} {meth : Method} {c : Code} {z : Nat} {D : tc_D} {G : tc_G} (hW : tc_W G) (r : Int32) (ur : tc_S) (v0 : Nat) (v1 : Int32) (v2 : Int32) (v3 : Int32) (u : tc_S) (iv0 : tc_is G v0 12) (h : bl_X12_at_59 G v0 v1 v2 v3 u = some (r, ur)) : tc_R p l e { frames := 2, cells := 0, slots := 0, locals := 48 } s m args below meth c z D cX12_at RX12 6 (some .int) 0 0 (tc_po r G ur) 0 0 G u 59 [(0, .ref (z + v0)), (1, .int v1), (2, .int v2), (3, .int v3)] [] := by
  unfold bl_X12_at_59 at h
  refine tc_iconst (v := 0) (by decide) dX12_at_59 ?_
  exact sb_X12_at_60 hW r ur  v0 v1 v2 v3 0 u iv0 h
set_option maxRecDepth 100000 in
set_option maxHeartbeats 4000000 in
theorem ct_X12_at {l : Launch} {z : Nat} {D : tc_D} {G : tc_G} (hW : tc_W G) {v0 : Nat} {v1 : Int32} {v2 : Int32} {v3 : Int32} {u : tc_S} {r : Int32} {ur : tc_S} (iv0 : tc_is G v0 12) (h : fn_X12_at G v0 v1 v2 v3 u = some (r, ur)) : tc_C l z D yX12_at cX12_at 6 (some .int) 2 48 0 0 [.ref (z + v0), .int v1, .int v2, .int v3] G u (tc_po r G ur) := by
  unfold fn_X12_at at h
  refine tc_C.of (by decide) (Nat.le_of_ble_eq_true rfl) fun p e s m args below meth c => ?_
  show tc_R p l e { frames := 2, cells := 0, slots := 0, locals := 48 } s m args below meth c z D cX12_at RX12 6 (some .int) 0 0 (tc_po r G ur) 0 0 G u 0 [(0, .ref (z + v0)), (1, .int v1), (2, .int v2), (3, .int v3)] []
  refine tc_iload_n 1 rfl dX12_at_0 ?_
  refine tc_bipush (v := 100) (by decide) dX12_at_1 ?_
  refine tc_icmp_ne 23 dX12_at_3 (by decide) (fun hc35 => ?_) (fun hc35 => ?_)
  · rw [if_neg hc35] at h
    refine tc_iload_n 1 rfl dX12_at_23 ?_
    refine tc_iconst (v := 0) (by decide) dX12_at_24 ?_
    refine tc_aload_n 0 rfl dX12_at_25 ?_
    refine tc_getp hW iv0 fl_X12_7 dX12_at_26 rfl ?_
    refine tc_iconst (v := 0) (by decide) dX12_at_29 ?_
    obtain ⟨bx36, x36, ex36, h⟩ := tc_ld_ex h
    refine tc_iald (hW.p iv0 0 rfl).1 bx36 dX12_at_30 ?_
    refine tc_nm ex36 ?_
    refine tc_iconst (v := 1) (by decide) dX12_at_31 ?_
    refine tc_isub dX12_at_32 ?_
    obtain ⟨x37, u38, hq39, h⟩ := tc_b_ex h
    refine tc_callSi [.int v1, .int 0, .int (x36 - 1)] dX12_at_33 (ct_X12_isIn hW hq39) ml_X12_79 mw_X12_isIn ms_X12_isIn ⟨Nat.le_of_ble_eq_true rfl, Nat.le_of_ble_eq_true rfl⟩ rfl rfl (Nat.le_of_ble_eq_true rfl) ⟨Nat.le_refl _, Nat.le_refl _⟩ ?_
    refine tc_if_eq 59 dX12_at_36 (by decide) (fun hc40 => ?_) (fun hc40 => ?_)
    · rw [if_pos hc40] at h
      exact sb_X12_at_59 hW r ur  v0 v1 v2 v3 u38 iv0 h
    · rw [if_neg hc40] at h
      refine tc_iload_n 2 rfl dX12_at_39 ?_
      refine tc_iconst (v := 0) (by decide) dX12_at_40 ?_
      refine tc_aload_n 0 rfl dX12_at_41 ?_
      refine tc_getp hW iv0 fl_X12_7 dX12_at_42 rfl ?_
      refine tc_iconst (v := 1) (by decide) dX12_at_45 ?_
      obtain ⟨bx41, x41, ex41, h⟩ := tc_ld_ex h
      refine tc_iald (hW.p iv0 0 rfl).1 bx41 dX12_at_46 ?_
      refine tc_nm ex41 ?_
      refine tc_iconst (v := 1) (by decide) dX12_at_47 ?_
      refine tc_isub dX12_at_48 ?_
      obtain ⟨x42, u43, hq44, h⟩ := tc_b_ex h
      refine tc_callSi [.int v2, .int 0, .int (x41 - 1)] dX12_at_49 (ct_X12_isIn hW hq44) ml_X12_79 mw_X12_isIn ms_X12_isIn ⟨Nat.le_of_ble_eq_true rfl, Nat.le_of_ble_eq_true rfl⟩ rfl rfl (Nat.le_of_ble_eq_true rfl) ⟨Nat.le_refl _, Nat.le_refl _⟩ ?_
      refine tc_if_eq 59 dX12_at_52 (by decide) (fun hc45 => ?_) (fun hc45 => ?_)
      · rw [if_pos hc45] at h
        exact sb_X12_at_59 hW r ur  v0 v1 v2 v3 u43 iv0 h
      · rw [if_neg hc45] at h
        refine tc_iconst (v := 1) (by decide) dX12_at_55 ?_
        refine tc_goto 60 dX12_at_56 (by decide) ?_
        exact sb_X12_at_60 hW r ur  v0 v1 v2 v3 1 u43 iv0 h
  · rw [if_pos hc35] at h
    refine tc_iload_n 2 rfl dX12_at_6 ?_
    refine tc_iconst (v := 0) (by decide) dX12_at_7 ?_
    refine tc_aload_n 0 rfl dX12_at_8 ?_
    refine tc_getp hW iv0 fl_X12_7 dX12_at_9 rfl ?_
    refine tc_bipush (v := 18) (by decide) dX12_at_12 ?_
    obtain ⟨bx46, x46, ex46, h⟩ := tc_ld_ex h
    refine tc_iald (hW.p iv0 0 rfl).1 bx46 dX12_at_14 ?_
    refine tc_nm ex46 ?_
    refine tc_iconst (v := 1) (by decide) dX12_at_15 ?_
    refine tc_isub dX12_at_16 ?_
    obtain ⟨x47, u48, hq49, h⟩ := tc_b_ex h
    refine tc_callSi [.int v2, .int 0, .int (x46 - 1)] dX12_at_17 (ct_X12_isIn hW hq49) ml_X12_79 mw_X12_isIn ms_X12_isIn ⟨Nat.le_of_ble_eq_true rfl, Nat.le_of_ble_eq_true rfl⟩ rfl rfl (Nat.le_of_ble_eq_true rfl) ⟨Nat.le_refl _, Nat.le_refl _⟩ ?_
    refine tc_goto 60 dX12_at_20 (by decide) ?_
    exact sb_X12_at_60 hW r ur  v0 v1 v2 v3 x47 u48 iv0 h
set_option maxRecDepth 100000 in
set_option maxHeartbeats 4000000 in
theorem sb_X12_hash_26 {p : Program} {l : Launch} {e : Env} {s : State} {m : MethodId} {args : Array Value} {below : List Frame} {meth : Method} {c : Code} {z : Nat} {D : tc_D} {G : tc_G} (hW : tc_W G) (r : Int32) (ur : tc_S) (s0 : Int32) (u : tc_S) (h : bl_X12_hash_26 G s0 u = some (r, ur)) : tc_R p l e { frames := 2, cells := 0, slots := 0, locals := 42 } s m args below meth c z D cX12_hash RX12 3 (some .int) 0 0 (tc_po r G ur) 0 0 G u 26 [] [.int s0] := by
  unfold bl_X12_hash_26 at h
  cases h
  exact tc_ireturn rfl dX12_hash_26 rfl rfl ⟨rfl, rfl, rfl⟩
set_option maxRecDepth 100000 in
set_option maxHeartbeats 4000000 in
theorem sb_X12_hash_19 {p : Program} {l : Launch} {e : Env} {s : State} {m : MethodId} {args : Array Value} {below : List Frame} {meth : Method} {c : Code} {z : Nat} {D : tc_D} {G : tc_G} (hW : tc_W G) (r : Int32) (ur : tc_S) (s0 : Nat) (s1 : Int32) (s2 : Int32) (s3 : Int32) (u : tc_S) (is0 : tc_is G s0 12) (h : bl_X12_hash_19 G s0 s1 s2 s3 u = some (r, ur)) : tc_R p l e { frames := 2, cells := 0, slots := 0, locals := 42 } s m args below meth c z D cX12_hash RX12 3 (some .int) 0 0 (tc_po r G ur) 0 0 G u 19 [] [.int s3, .int s2, .int s1, .ref (z + s0)] := by
  unfold bl_X12_hash_19 at h
  obtain ⟨x1, u2, hq3, h⟩ := tc_b_ex h
  refine tc_callVi [.int s1, .int s2, .int s3] dX12_hash_19 is0.1 (ct_X12_hashOf hW is0 hq3) ml_X12_88 mw_X12_hashOf mv_X12_hashOf ⟨Nat.le_of_ble_eq_true rfl, Nat.le_of_ble_eq_true rfl⟩ rfl rfl (Nat.le_of_ble_eq_true rfl) ⟨Nat.le_refl _, Nat.le_refl _⟩ (by decide) ?_
  refine tc_goto 26 dX12_hash_22 (by decide) ?_
  exact sb_X12_hash_26 hW r ur  x1 u2  h
set_option maxRecDepth 100000 in
set_option maxHeartbeats 4000000 in
theorem ct_X12_hash {l : Launch} {z : Nat} {D : tc_D} {G : tc_G} (hW : tc_W G) {v0 : Nat} {v1 : Int32} {v2 : Int32} {u : tc_S} {r : Int32} {ur : tc_S} (iv0 : tc_is G v0 12) (h : fn_X12_hash G v0 v1 v2 u = some (r, ur)) : tc_C l z D yX12_hash cX12_hash 3 (some .int) 2 42 0 0 [.ref (z + v0), .int v1, .int v2] G u (tc_po r G ur) := by
  unfold fn_X12_hash at h
  refine tc_C.of (by decide) (Nat.le_of_ble_eq_true rfl) fun p e s m args below meth c => ?_
  show tc_R p l e { frames := 2, cells := 0, slots := 0, locals := 42 } s m args below meth c z D cX12_hash RX12 3 (some .int) 0 0 (tc_po r G ur) 0 0 G u 0 [(0, .ref (z + v0)), (1, .int v1), (2, .int v2)] []
  refine tc_iload_n 1 rfl dX12_hash_0 ?_
  obtain ⟨x4, u5, hq6, h⟩ := tc_b_ex h
  refine tc_callSi [.int v1] dX12_hash_1 (ct_X12_isKey hW hq6) ml_X12_224 mw_X12_isKey ms_X12_isKey ⟨Nat.le_of_ble_eq_true rfl, Nat.le_of_ble_eq_true rfl⟩ rfl rfl (Nat.le_of_ble_eq_true rfl) ⟨Nat.le_refl _, Nat.le_refl _⟩ ?_
  refine tc_if_eq 25 dX12_hash_4 (by decide) (fun hc7 => ?_) (fun hc7 => ?_)
  · rw [if_pos hc7] at h
    refine tc_iconst (v := (-1)) (by decide) dX12_hash_25 ?_
    refine tc_lvs [] rfl ?_
    exact sb_X12_hash_26 hW r ur  (-1) u5  h
  · rw [if_neg hc7] at h
    refine tc_aload_n 0 rfl dX12_hash_7 ?_
    refine tc_iconst (v := 0) (by decide) dX12_hash_8 ?_
    refine tc_iload_n 1 rfl dX12_hash_9 ?_
    refine tc_iload_n 2 rfl dX12_hash_10 ?_
    refine tc_if_eq 18 dX12_hash_11 (by decide) (fun hc8 => ?_) (fun hc8 => ?_)
    · rw [if_pos hc8] at h
      refine tc_iconst (v := 0) (by decide) dX12_hash_18 ?_
      refine tc_lvs [] rfl ?_
      exact sb_X12_hash_19 hW r ur  v0 0 v1 0 u5 iv0 h
    · rw [if_neg hc8] at h
      refine tc_iconst (v := 1) (by decide) dX12_hash_14 ?_
      refine tc_goto 19 dX12_hash_15 (by decide) ?_
      refine tc_lvs [] rfl ?_
      exact sb_X12_hash_19 hW r ur  v0 0 v1 1 u5 iv0 h
set_option maxRecDepth 100000 in
set_option maxHeartbeats 4000000 in
theorem sb_X12_chain_66 {p : Program} {l : Launch} {e : Env} {s : State} {m : MethodId} {args : Array Value} {below : List Frame} {meth : Method} {c : Code} {z : Nat} {D : tc_D} {G : tc_G} (hW : tc_W G) (r : Int32) (ur : tc_S) (s0 : Int32) (u : tc_S) (h : bl_X12_chain_66 G s0 u = some (r, ur)) : tc_R p l e { frames := 4, cells := 0, slots := 0, locals := 104 } s m args below meth c z D cX12_chain RX12 4 (some .int) 0 0 (tc_po r G ur) 0 0 G u 66 [] [.int s0] := by
  unfold bl_X12_chain_66 at h
  cases h
  exact tc_ireturn rfl dX12_chain_66 rfl rfl ⟨rfl, rfl, rfl⟩
set_option maxRecDepth 100000 in
set_option maxHeartbeats 4000000 in
theorem sb_X12_chain_17 {p : Program} {l : Launch} {e : Env} {s : State} {m : MethodId} {args : Array Value} {below : List Frame} {meth : Method} {c : Code} {z : Nat} {D : tc_D} {G : tc_G} (hW : tc_W G) (r : Int32) (ur : tc_S) (v0 : Nat) (v2 : Int32) (s0 : Int32) (u : tc_S) (iv0 : tc_is G v0 12) (h : bl_X12_chain_17 G v0 v2 s0 u = some (r, ur)) : tc_R p l e { frames := 4, cells := 0, slots := 0, locals := 104 } s m args below meth c z D cX12_chain RX12 4 (some .int) 0 0 (tc_po r G ur) 0 0 G u 17 [(0, .ref (z + v0)), (2, .int v2)] [.int s0] := by
  unfold bl_X12_chain_17 at h
  refine tc_istore_n [(3, .int s0), (0, .ref (z + v0)), (2, .int v2)] dX12_chain_17 (by decide) rfl ?_
  refine tc_iload_n 0 rfl dX12_chain_18 ?_
  refine tc_if_ge 25 dX12_chain_19 (by decide) (fun hc1 => ?_) (fun hc1 => ?_)
  · rw [if_pos hc1] at h
    refine tc_iload_n 2 rfl dX12_chain_25 ?_
    refine tc_iconst (v := (-1)) (by decide) dX12_chain_26 ?_
    refine tc_icmp_ne 34 dX12_chain_27 (by decide) (fun hc2 => ?_) (fun hc2 => ?_)
    · rw [if_neg hc2] at h
      refine tc_iload_n 2 rfl dX12_chain_34 ?_
      refine tc_iconst (v := 0) (by decide) dX12_chain_35 ?_
      refine tc_iload_n 0 rfl dX12_chain_36 ?_
      refine tc_iconst (v := 1) (by decide) dX12_chain_37 ?_
      refine tc_isub dX12_chain_38 ?_
      obtain ⟨x3, u4, hq5, h⟩ := tc_b_ex h
      refine tc_callSi [.int v2, .int 0, .int (s0 - 1)] dX12_chain_39 (ct_X12_isIn hW hq5) ml_X12_79 mw_X12_isIn ms_X12_isIn ⟨Nat.le_of_ble_eq_true rfl, Nat.le_of_ble_eq_true rfl⟩ rfl rfl (Nat.le_of_ble_eq_true rfl) ⟨Nat.le_refl _, Nat.le_refl _⟩ ?_
      refine tc_if_eq 64 dX12_chain_42 (by decide) (fun hc6 => ?_) (fun hc6 => ?_)
      · rw [if_pos hc6] at h
        refine tc_bipush (v := (-2)) (by decide) dX12_chain_64 ?_
        refine tc_lvs [] rfl ?_
        exact sb_X12_chain_66 hW r ur  (-2) u4  h
      · rw [if_neg hc6] at h
        refine tc_bipush (v := 10) (by decide) dX12_chain_45 ?_
        refine tc_aload_n 1 rfl dX12_chain_47 ?_
        refine tc_getp hW iv0 fl_X12_27 dX12_chain_48 rfl ?_
        refine tc_iload_n 2 rfl dX12_chain_51 ?_
        obtain ⟨bx7, x7, ex7, h⟩ := tc_ld_ex h
        refine tc_iald (hW.p iv0 7 rfl).1 bx7 dX12_chain_52 ?_
        refine tc_nm ex7 ?_
        refine tc_imul dX12_chain_53 ?_
        refine tc_aload_n 1 rfl dX12_chain_54 ?_
        refine tc_getp hW iv0 fl_X12_30 dX12_chain_55 rfl ?_
        refine tc_iload_n 2 rfl dX12_chain_58 ?_
        obtain ⟨bx8, x8, ex8, h⟩ := tc_ld_ex h
        refine tc_iald (hW.p iv0 8 rfl).1 bx8 dX12_chain_59 ?_
        refine tc_nm ex8 ?_
        refine tc_iadd dX12_chain_60 ?_
        refine tc_goto 66 dX12_chain_61 (by decide) ?_
        refine tc_lvs [] rfl ?_
        exact sb_X12_chain_66 hW r ur  ((10 * x7) + x8) u4  h
    · rw [if_pos hc2] at h
      refine tc_iload_n 0 rfl dX12_chain_30 ?_
      refine tc_goto 66 dX12_chain_31 (by decide) ?_
      refine tc_lvs [] rfl ?_
      exact sb_X12_chain_66 hW r ur  s0 u  h
  · rw [if_neg hc1] at h
    refine tc_bipush (v := (-2)) (by decide) dX12_chain_22 ?_
    cases h
    exact tc_ireturn rfl dX12_chain_24 rfl rfl ⟨rfl, rfl, rfl⟩
set_option maxRecDepth 100000 in
set_option maxHeartbeats 4000000 in
theorem ct_X12_chain {l : Launch} {z : Nat} {D : tc_D} {G : tc_G} (hW : tc_W G) {v0 : Nat} {v1 : Int32} {v2 : Int32} {u : tc_S} {r : Int32} {ur : tc_S} (iv0 : tc_is G v0 12) (h : fn_X12_chain G v0 v1 v2 u = some (r, ur)) : tc_C l z D yX12_chain cX12_chain 4 (some .int) 4 104 0 0 [.ref (z + v0), .int v1, .int v2] G u (tc_po r G ur) := by
  unfold fn_X12_chain at h
  refine tc_C.of (by decide) (Nat.le_of_ble_eq_true rfl) fun p e s m args below meth c => ?_
  show tc_R p l e { frames := 4, cells := 0, slots := 0, locals := 104 } s m args below meth c z D cX12_chain RX12 4 (some .int) 0 0 (tc_po r G ur) 0 0 G u 0 [(0, .ref (z + v0)), (1, .int v1), (2, .int v2)] []
  refine tc_iload_n 1 rfl dX12_chain_0 ?_
  obtain ⟨x9, u10, hq11, h⟩ := tc_b_ex h
  refine tc_callSi [.int v1] dX12_chain_1 (ct_X12_isKey hW hq11) ml_X12_224 mw_X12_isKey ms_X12_isKey ⟨Nat.le_of_ble_eq_true rfl, Nat.le_of_ble_eq_true rfl⟩ rfl rfl (Nat.le_of_ble_eq_true rfl) ⟨Nat.le_refl _, Nat.le_refl _⟩ ?_
  refine tc_if_eq 16 dX12_chain_4 (by decide) (fun hc12 => ?_) (fun hc12 => ?_)
  · rw [if_pos hc12] at h
    refine tc_iconst (v := (-1)) (by decide) dX12_chain_16 ?_
    refine tc_lvs [0, 2] rfl ?_
    exact sb_X12_chain_17 hW r ur  v0 v2 (-1) u10 iv0 h
  · rw [if_neg hc12] at h
    refine tc_aload_n 0 rfl dX12_chain_7 ?_
    refine tc_iconst (v := 0) (by decide) dX12_chain_8 ?_
    refine tc_iload_n 1 rfl dX12_chain_9 ?_
    obtain ⟨x13, u14, hq15, h⟩ := tc_b_ex h
    refine tc_callVi [.int 0, .int v1] dX12_chain_10 iv0.1 (ct_X12_chainOf hW iv0 hq15) ml_X12_132 mw_X12_chainOf mv_X12_chainOf ⟨Nat.le_of_ble_eq_true rfl, Nat.le_of_ble_eq_true rfl⟩ rfl rfl (Nat.le_of_ble_eq_true rfl) ⟨Nat.le_refl _, Nat.le_refl _⟩ (by decide) ?_
    refine tc_goto 17 dX12_chain_13 (by decide) ?_
    refine tc_lvs [0, 2] rfl ?_
    exact sb_X12_chain_17 hW r ur  v0 v2 x13 u14 iv0 h
set_option maxRecDepth 100000 in
set_option maxHeartbeats 4000000 in
theorem ct_X12_would {l : Launch} {z : Nat} {D : tc_D} {G : tc_G} (hW : tc_W G) {v0 : Nat} {v1 : Int32} {u : tc_S} {r : Int32} {ur : tc_S} (iv0 : tc_is G v0 12) (h : fn_X12_would G v0 v1 u = some (r, ur)) : tc_C l z D yX12_would cX12_would 2 (some .int) 8 208 0 0 [.ref (z + v0), .int v1] G u (tc_po r G ur) := by
  unfold fn_X12_would at h
  refine tc_C.of (by decide) (Nat.le_of_ble_eq_true rfl) fun p e s m args below meth c => ?_
  show tc_R p l e { frames := 8, cells := 0, slots := 0, locals := 208 } s m args below meth c z D cX12_would RX12 2 (some .int) 0 0 (tc_po r G ur) 0 0 G u 0 [(0, .ref (z + v0)), (1, .int v1)] []
  refine tc_iload_n 1 rfl dX12_would_0 ?_
  obtain ⟨x1, u2, hq3, h⟩ := tc_b_ex h
  refine tc_callSi [.int v1] dX12_would_1 (ct_X12_isKey hW hq3) ml_X12_224 mw_X12_isKey ms_X12_isKey ⟨Nat.le_of_ble_eq_true rfl, Nat.le_of_ble_eq_true rfl⟩ rfl rfl (Nat.le_of_ble_eq_true rfl) ⟨Nat.le_refl _, Nat.le_refl _⟩ ?_
  refine tc_if_ne 10 dX12_would_4 (by decide) (fun hc4 => ?_) (fun hc4 => ?_)
  · rw [if_neg hc4] at h
    refine tc_aload_n 0 rfl dX12_would_10 ?_
    refine tc_iconst (v := 0) (by decide) dX12_would_11 ?_
    refine tc_sipush (v := 292) (by decide) dX12_would_12 ?_
    obtain ⟨x5, u6, hq7, h⟩ := tc_b_ex h
    refine tc_callVv [.int 0, .int 292] dX12_would_15 iv0.1 (ct_X12_copies hW iv0 hq7) ml_X12_83 mw_X12_copies mv_X12_copies ⟨Nat.le_of_ble_eq_true rfl, Nat.le_of_ble_eq_true rfl⟩ rfl rfl (Nat.le_of_ble_eq_true rfl) ⟨Nat.le_refl _, Nat.le_refl _⟩ (by decide) ?_
    refine tc_aload_n 0 rfl dX12_would_18 ?_
    refine tc_sipush (v := 292) (by decide) dX12_would_19 ?_
    refine tc_iload_n 1 rfl dX12_would_22 ?_
    refine tc_iconst (v := 0) (by decide) dX12_would_23 ?_
    obtain ⟨x8, u9, hq10, h⟩ := tc_b_ex h
    refine tc_callVi [.int 292, .int v1, .int 0] dX12_would_24 iv0.1 (ct_X12_puts hW iv0 hq10) ml_X12_188 mw_X12_puts mv_X12_puts ⟨Nat.le_of_ble_eq_true rfl, Nat.le_of_ble_eq_true rfl⟩ rfl rfl (Nat.le_of_ble_eq_true rfl) ⟨Nat.le_refl _, Nat.le_refl _⟩ (by decide) ?_
    cases h
    exact tc_ireturn rfl dX12_would_27 rfl rfl ⟨rfl, rfl, rfl⟩
  · rw [if_pos hc4] at h
    refine tc_bipush (v := (-2)) (by decide) dX12_would_7 ?_
    cases h
    exact tc_ireturn rfl dX12_would_9 rfl rfl ⟨rfl, rfl, rfl⟩
set_option maxRecDepth 100000 in
set_option maxHeartbeats 4000000 in
theorem sb_X12_which_44 {p : Program} {l : Launch} {e : Env} {s : State} {m : MethodId} {args : Array Value} {below : List Frame} {meth : Method} {c : Code} {z : Nat} {D : tc_D} {G : tc_G} (hW : tc_W G) (r : Int32) (ur : tc_S) (K18 : Nat → Int32 → Int32 → tc_S → Option (Int32 × tc_S)) (hK18 : ∀ (v0 : Nat) (v1 : Int32) (v2 : Int32) (u : tc_S), tc_is G v0 12 → K18 v0 v1 v2 u = some (r, ur) → tc_R p l e { frames := 9, cells := 0, slots := 0, locals := 229 } s m args below meth c z D cX12_which RX12 3 (some .int) 0 0 (tc_po r G ur) 0 0 G u 18 [(0, .ref (z + v0)), (1, .int v1), (2, .int v2)] []) (v0 : Nat) (v1 : Int32) (v2 : Int32) (u : tc_S) (iv0 : tc_is G v0 12) (h : bl_X12_which_44 G K18 v0 v1 v2 u = some (r, ur)) : tc_R p l e { frames := 9, cells := 0, slots := 0, locals := 229 } s m args below meth c z D cX12_which RX12 3 (some .int) 0 0 (tc_po r G ur) 0 0 G u 44 [(0, .ref (z + v0)), (1, .int v1), (2, .int v2)] [] := by
  unfold bl_X12_which_44 at h
  obtain ⟨x1, ex1, h⟩ := tc_let_ex h
  refine tc_iinc 2 (v := x1) [(2, .int x1), (0, .ref (z + v0)), (1, .int v1)] dX12_which_44 rfl (by rw [ex1]; rfl) (by decide) rfl ?_
  refine tc_goto 18 dX12_which_47 (by decide) ?_
  refine tc_lvs [1, 2, 0] rfl ?_
  exact hK18 v0 v1 x1 u iv0 h
set_option maxRecDepth 100000 in
set_option maxHeartbeats 4000000 in
theorem sl_X12_which_18 {p : Program} {l : Launch} {e : Env} {s : State} {m : MethodId} {args : Array Value} {below : List Frame} {meth : Method} {c : Code} {z : Nat} {D : tc_D} {G : tc_G} (hW : tc_W G) (r : Int32) (ur : tc_S) : ∀ (n : Nat) (v0 : Nat) (v1 : Int32) (v2 : Int32) (u : tc_S) (iv0 : tc_is G v0 12) (h : lo_X12_which_18 G n v0 v1 v2 u = some (r, ur)), tc_R p l e { frames := 9, cells := 0, slots := 0, locals := 229 } s m args below meth c z D cX12_which RX12 3 (some .int) 0 0 (tc_po r G ur) 0 0 G u 18 [(0, .ref (z + v0)), (1, .int v1), (2, .int v2)] [] := by
  intro n
  induction n with
  | zero => intro v0 v1 v2 u iv0 h; cases h
  | succ n ih =>
    intro v0 v1 v2 u iv0 h
    rw [lo_X12_which_18] at h
    refine tc_iload_n 2 rfl dX12_which_18 ?_
    refine tc_bipush (v := 100) (by decide) dX12_which_19 ?_
    refine tc_icmp_ge 50 dX12_which_21 (by decide) (fun hc2 => ?_) (fun hc2 => ?_)
    · rw [if_pos hc2] at h
      refine tc_iconst (v := (-1)) (by decide) dX12_which_50 ?_
      cases h
      exact tc_ireturn rfl dX12_which_51 rfl rfl ⟨rfl, rfl, rfl⟩
    · rw [if_neg hc2] at h
      refine tc_aload_n 0 rfl dX12_which_24 ?_
      refine tc_iconst (v := 0) (by decide) dX12_which_25 ?_
      refine tc_iload_n 2 rfl dX12_which_26 ?_
      obtain ⟨x3, u4, hq5, h⟩ := tc_b_ex h
      refine tc_callVi [.int 0, .int v2] dX12_which_27 iv0.1 (ct_X12_lies hW iv0 hq5) ml_X12_166 mw_X12_lies mv_X12_lies ⟨Nat.le_of_ble_eq_true rfl, Nat.le_of_ble_eq_true rfl⟩ rfl rfl (Nat.le_of_ble_eq_true rfl) ⟨Nat.le_refl _, Nat.le_refl _⟩ (by decide) ?_
      refine tc_if_ge 44 dX12_which_30 (by decide) (fun hc6 => ?_) (fun hc6 => ?_)
      · rw [if_pos hc6] at h
        exact sb_X12_which_44 hW r ur _ ih v0 v1 v2 u4 iv0 h
      · rw [if_neg hc6] at h
        refine tc_aload_n 0 rfl dX12_which_33 ?_
        refine tc_iload_n 2 rfl dX12_which_34 ?_
        obtain ⟨x7, u8, hq9, h⟩ := tc_b_ex h
        refine tc_callVi [.int v2] dX12_which_35 iv0.1 (ct_X12_would hW iv0 hq9) ml_X12_263 mw_X12_would mv_X12_would ⟨Nat.le_of_ble_eq_true rfl, Nat.le_of_ble_eq_true rfl⟩ rfl rfl (Nat.le_of_ble_eq_true rfl) ⟨Nat.le_refl _, Nat.le_refl _⟩ (by decide) ?_
        refine tc_iload_n 1 rfl dX12_which_38 ?_
        refine tc_icmp_ne 44 dX12_which_39 (by decide) (fun hc10 => ?_) (fun hc10 => ?_)
        · rw [if_neg hc10] at h
          exact sb_X12_which_44 hW r ur _ ih v0 v1 v2 u8 iv0 h
        · rw [if_pos hc10] at h
          refine tc_iload_n 2 rfl dX12_which_42 ?_
          cases h
          exact tc_ireturn rfl dX12_which_43 rfl rfl ⟨rfl, rfl, rfl⟩
set_option maxRecDepth 100000 in
set_option maxHeartbeats 4000000 in
theorem sb_X12_which_16 {p : Program} {l : Launch} {e : Env} {s : State} {m : MethodId} {args : Array Value} {below : List Frame} {meth : Method} {c : Code} {z : Nat} {D : tc_D} {G : tc_G} (hW : tc_W G) (r : Int32) (ur : tc_S) (v0 : Nat) (v1 : Int32) (u : tc_S) (iv0 : tc_is G v0 12) (h : bl_X12_which_16 G v0 v1 u = some (r, ur)) : tc_R p l e { frames := 9, cells := 0, slots := 0, locals := 229 } s m args below meth c z D cX12_which RX12 3 (some .int) 0 0 (tc_po r G ur) 0 0 G u 16 [(0, .ref (z + v0)), (1, .int v1)] [] := by
  unfold bl_X12_which_16 at h
  refine tc_iconst (v := 0) (by decide) dX12_which_16 ?_
  refine tc_istore_n [(2, .int 0), (0, .ref (z + v0)), (1, .int v1)] dX12_which_17 (by decide) rfl ?_
  refine tc_lvs [1, 2, 0] rfl ?_
  exact sl_X12_which_18 hW r ur  _ v0 v1 0 u iv0 h
set_option maxRecDepth 100000 in
set_option maxHeartbeats 4000000 in
theorem ct_X12_which {l : Launch} {z : Nat} {D : tc_D} {G : tc_G} (hW : tc_W G) {v0 : Nat} {v1 : Int32} {u : tc_S} {r : Int32} {ur : tc_S} (iv0 : tc_is G v0 12) (h : fn_X12_which G v0 v1 u = some (r, ur)) : tc_C l z D yX12_which cX12_which 3 (some .int) 9 229 0 0 [.ref (z + v0), .int v1] G u (tc_po r G ur) := by
  unfold fn_X12_which at h
  refine tc_C.of (by decide) (Nat.le_of_ble_eq_true rfl) fun p e s m args below meth c => ?_
  show tc_R p l e { frames := 9, cells := 0, slots := 0, locals := 229 } s m args below meth c z D cX12_which RX12 3 (some .int) 0 0 (tc_po r G ur) 0 0 G u 0 [(0, .ref (z + v0)), (1, .int v1)] []
  refine tc_iload_n 1 rfl dX12_which_0 ?_
  refine tc_iconst (v := (-1)) (by decide) dX12_which_1 ?_
  refine tc_icmp_eq 16 dX12_which_2 (by decide) (fun hc11 => ?_) (fun hc11 => ?_)
  · rw [if_pos hc11] at h
    exact sb_X12_which_16 hW r ur  v0 v1 u iv0 h
  · rw [if_neg hc11] at h
    refine tc_iload_n 1 rfl dX12_which_5 ?_
    refine tc_iconst (v := 1) (by decide) dX12_which_6 ?_
    refine tc_iconst (v := 5) (by decide) dX12_which_7 ?_
    obtain ⟨x12, u13, hq14, h⟩ := tc_b_ex h
    refine tc_callSi [.int v1, .int 1, .int 5] dX12_which_8 (ct_X12_isIn hW hq14) ml_X12_79 mw_X12_isIn ms_X12_isIn ⟨Nat.le_of_ble_eq_true rfl, Nat.le_of_ble_eq_true rfl⟩ rfl rfl (Nat.le_of_ble_eq_true rfl) ⟨Nat.le_refl _, Nat.le_refl _⟩ ?_
    refine tc_if_ne 16 dX12_which_11 (by decide) (fun hc15 => ?_) (fun hc15 => ?_)
    · rw [if_neg hc15] at h
      exact sb_X12_which_16 hW r ur  v0 v1 u13 iv0 h
    · rw [if_pos hc15] at h
      refine tc_iconst (v := (-1)) (by decide) dX12_which_14 ?_
      cases h
      exact tc_ireturn rfl dX12_which_15 rfl rfl ⟨rfl, rfl, rfl⟩
