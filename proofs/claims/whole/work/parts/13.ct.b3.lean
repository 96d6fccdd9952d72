set_option maxRecDepth 100000 in
set_option maxHeartbeats 4000000 in
theorem sb_X12_settle_81 {p : Program} {l : Launch} {e : Env} {s : State} {m : MethodId} {args : Array Value} {below : List Frame} {meth : Method} {c : Code} {z : Nat} {D : tc_D} {G : tc_G} (hW : tc_W G) (r : Int32) (ur : tc_S) (K4 : Nat → Int32 → Int32 → tc_S → Option (Int32 × tc_S)) (hK4 : ∀ (v0 : Nat) (v1 : Int32) (v2 : Int32) (u : tc_S), tc_is G v0 12 → K4 v0 v1 v2 u = some (r, ur) → tc_R p l e { frames := 4, cells := 0, slots := 0, locals := 104 } s m args below meth c z D cX12_settle RX12 6 (some .int) 0 0 (tc_po r G ur) 0 0 G u 4 [(0, .ref (z + v0)), (1, .int v1), (2, .int v2)] []) (v0 : Nat) (v1 : Int32) (v2 : Int32) (v3 : Int32) (v4 : Int32) (u : tc_S) (iv0 : tc_is G v0 12) (h : bl_X12_settle_81 G K4 v0 v1 v2 v3 v4 u = some (r, ur)) : tc_R p l e { frames := 4, cells := 0, slots := 0, locals := 104 } s m args below meth c z D cX12_settle RX12 6 (some .int) 0 0 (tc_po r G ur) 0 0 G u 81 [(0, .ref (z + v0)), (1, .int v1), (2, .int v2), (3, .int v3), (4, .int v4)] [] := by
  unfold bl_X12_settle_81 at h
  refine tc_iload 4 rfl dX12_settle_81 ?_
  refine tc_if_ge 92 dX12_settle_83 (by decide) (fun hc1 => ?_) (fun hc1 => ?_)
  · rw [if_pos hc1] at h
    refine tc_aload_n 0 rfl dX12_settle_92 ?_
    refine tc_iload_n 3 rfl dX12_settle_93 ?_
    refine tc_iload 4 rfl dX12_settle_94 ?_
    obtain ⟨x2, u3, hq4, h⟩ := tc_b_ex h
    refine tc_callVv [.int v3, .int v4] dX12_settle_96 iv0.1 (ct_X12_moves hW iv0 hq4) ml_X12_116 mw_X12_moves mv_X12_moves ⟨Nat.le_of_ble_eq_true rfl, Nat.le_of_ble_eq_true rfl⟩ rfl rfl (Nat.le_of_ble_eq_true rfl) ⟨Nat.le_refl _, Nat.le_refl _⟩ (by decide) ?_
    refine tc_aload_n 0 rfl dX12_settle_99 ?_
    refine tc_iconst (v := 0) (by decide) dX12_settle_100 ?_
    refine tc_iload_n 3 rfl dX12_settle_101 ?_
    obtain ⟨x5, u6, hq7, h⟩ := tc_b_ex h
    refine tc_callVv [.int 0, .int v3] dX12_settle_102 iv0.1 (ct_X12_goesOut hW iv0 hq7) ml_X12_176 mw_X12_goesOut mv_X12_goesOut ⟨Nat.le_of_ble_eq_true rfl, Nat.le_of_ble_eq_true rfl⟩ rfl rfl (Nat.le_of_ble_eq_true rfl) ⟨Nat.le_refl _, Nat.le_refl _⟩ (by decide) ?_
    obtain ⟨x8, ex8, h⟩ := tc_let_ex h
    refine tc_iinc 1 (v := x8) [(1, .int x8), (0, .ref (z + v0)), (2, .int v2), (3, .int v3), (4, .int v4)] dX12_settle_105 rfl (by rw [ex8]; rfl) (by decide) rfl ?_
    refine tc_goto 4 dX12_settle_108 (by decide) ?_
    refine tc_lvs [1, 0, 2] rfl ?_
    exact hK4 v0 x8 v2 u6 iv0 h
  · rw [if_neg hc1] at h
    obtain ⟨x9, ex9, h⟩ := tc_let_ex h
    refine tc_iinc 2 (v := x9) [(2, .int x9), (0, .ref (z + v0)), (1, .int v1), (3, .int v3), (4, .int v4)] dX12_settle_86 rfl (by rw [ex9]; rfl) (by decide) rfl ?_
    refine tc_goto 4 dX12_settle_89 (by decide) ?_
    refine tc_lvs [1, 2, 0] rfl ?_
    exact hK4 v0 v1 x9 u iv0 h
set_option maxRecDepth 100000 in
set_option maxHeartbeats 4000000 in
theorem sb_X12_settle_54 {p : Program} {l : Launch} {e : Env} {s : State} {m : MethodId} {args : Array Value} {below : List Frame} {meth : Method} {c : Code} {z : Nat} {D : tc_D} {G : tc_G} (hW : tc_W G) (r : Int32) (ur : tc_S) (K4 : Nat → Int32 → Int32 → tc_S → Option (Int32 × tc_S)) (hK4 : ∀ (v0 : Nat) (v1 : Int32) (v2 : Int32) (u : tc_S), tc_is G v0 12 → K4 v0 v1 v2 u = some (r, ur) → tc_R p l e { frames := 4, cells := 0, slots := 0, locals := 104 } s m args below meth c z D cX12_settle RX12 6 (some .int) 0 0 (tc_po r G ur) 0 0 G u 4 [(0, .ref (z + v0)), (1, .int v1), (2, .int v2)] []) (v0 : Nat) (v1 : Int32) (v2 : Int32) (v3 : Int32) (v4 : Int32) (s0 : Int32) (u : tc_S) (iv0 : tc_is G v0 12) (h : bl_X12_settle_54 G K4 v0 v1 v2 v3 v4 s0 u = some (r, ur)) : tc_R p l e { frames := 4, cells := 0, slots := 0, locals := 104 } s m args below meth c z D cX12_settle RX12 6 (some .int) 0 0 (tc_po r G ur) 0 0 G u 54 [(0, .ref (z + v0)), (1, .int v1), (2, .int v2), (3, .int v3), (4, .int v4)] [.int s0] := by
  unfold bl_X12_settle_54 at h
  refine tc_istore [(5, .int s0), (0, .ref (z + v0)), (1, .int v1), (2, .int v2), (3, .int v3), (4, .int v4)] dX12_settle_54 (by decide) rfl ?_
  refine tc_iload 0 rfl dX12_settle_56 ?_
  refine tc_if_le 81 dX12_settle_58 (by decide) (fun hc10 => ?_) (fun hc10 => ?_)
  · rw [if_pos hc10] at h
    refine tc_lvs [1, 2, 3, 4, 5] rfl ?_
    exact sb_X12_settle_81 hW r ur K4 hK4 v0 v1 v2 v3 v4 u iv0 h
  · rw [if_neg hc10] at h
    refine tc_iload 0 rfl dX12_settle_61 ?_
    refine tc_aload_n 1 rfl dX12_settle_63 ?_
    refine tc_getp hW iv0 fl_X12_7 dX12_settle_64 rfl ?_
    refine tc_iconst (v := 3) (by decide) dX12_settle_67 ?_
    obtain ⟨bx11, x11, ex11, h⟩ := tc_ld_ex h
    refine tc_iald (hW.p iv0 0 rfl).1 bx11 dX12_settle_68 ?_
    refine tc_nm ex11 ?_
    refine tc_icmp_gt 81 dX12_settle_69 (by decide) (fun hc12 => ?_) (fun hc12 => ?_)
    · rw [if_pos hc12] at h
      refine tc_lvs [1, 2, 3, 4, 5] rfl ?_
      exact sb_X12_settle_81 hW r ur K4 hK4 v0 v1 v2 v3 v4 u iv0 h
    · rw [if_neg hc12] at h
      refine tc_aload_n 1 rfl dX12_settle_72 ?_
      refine tc_iconst (v := 0) (by decide) dX12_settle_73 ?_
      refine tc_iload 0 rfl dX12_settle_74 ?_
      obtain ⟨x13, u14, hq15, h⟩ := tc_b_ex h
      refine tc_callVi [.int 0, .int s0] dX12_settle_76 iv0.1 (ct_X12_opens hW iv0 hq15) ml_X12_135 mw_X12_opens mv_X12_opens ⟨Nat.le_of_ble_eq_true rfl, Nat.le_of_ble_eq_true rfl⟩ rfl rfl (Nat.le_of_ble_eq_true rfl) ⟨Nat.le_refl _, Nat.le_refl _⟩ (by decide) ?_
      refine tc_istore [(4, .int x13), (5, .int s0), (0, .ref (z + v0)), (1, .int v1), (2, .int v2), (3, .int v3)] dX12_settle_79 (by decide) rfl ?_
      refine tc_lvs [2, 3, 4, 5, 0] rfl ?_
      exact sb_X12_settle_81 hW r ur K4 hK4 v0 v1 v2 v3 x13 u14 iv0 h
set_option maxRecDepth 100000 in
set_option maxHeartbeats 4000000 in
theorem sl_X12_settle_4 {p : Program} {l : Launch} {e : Env} {s : State} {m : MethodId} {args : Array Value} {below : List Frame} {meth : Method} {c : Code} {z : Nat} {D : tc_D} {G : tc_G} (hW : tc_W G) (r : Int32) (ur : tc_S) : ∀ (n : Nat) (v0 : Nat) (v1 : Int32) (v2 : Int32) (u : tc_S) (iv0 : tc_is G v0 12) (h : lo_X12_settle_4 G n v0 v1 v2 u = some (r, ur)), tc_R p l e { frames := 4, cells := 0, slots := 0, locals := 104 } s m args below meth c z D cX12_settle RX12 6 (some .int) 0 0 (tc_po r G ur) 0 0 G u 4 [(0, .ref (z + v0)), (1, .int v1), (2, .int v2)] [] := by
  intro n
  induction n with
  | zero => intro v0 v1 v2 u iv0 h; cases h
  | succ n ih =>
    intro v0 v1 v2 u iv0 h
    rw [lo_X12_settle_4] at h
    refine tc_iload_n 2 rfl dX12_settle_4 ?_
    refine tc_aload_n 0 rfl dX12_settle_5 ?_
    refine tc_getp hW iv0 fl_X12_7 dX12_settle_6 rfl ?_
    refine tc_bipush (v := 18) (by decide) dX12_settle_9 ?_
    obtain ⟨bx16, x16, ex16, h⟩ := tc_ld_ex h
    refine tc_iald (hW.p iv0 0 rfl).1 bx16 dX12_settle_11 ?_
    refine tc_nm ex16 ?_
    refine tc_icmp_ge 111 dX12_settle_12 (by decide) (fun hc17 => ?_) (fun hc17 => ?_)
    · rw [if_pos hc17] at h
      refine tc_iload_n 1 rfl dX12_settle_111 ?_
      cases h
      exact tc_ireturn rfl dX12_settle_112 rfl rfl ⟨rfl, rfl, rfl⟩
    · rw [if_neg hc17] at h
      refine tc_iconst (v := 0) (by decide) dX12_settle_15 ?_
      refine tc_bipush (v := 100) (by decide) dX12_settle_16 ?_
      refine tc_iload_n 2 rfl dX12_settle_18 ?_
      obtain ⟨x18, u19, hq20, h⟩ := tc_b_ex h
      refine tc_callSi [.int 0, .int 100, .int v2] dX12_settle_19 (ct_X12_cell hW hq20) ml_X12_92 mw_X12_cell ms_X12_cell ⟨Nat.le_of_ble_eq_true rfl, Nat.le_of_ble_eq_true rfl⟩ rfl rfl (Nat.le_of_ble_eq_true rfl) ⟨Nat.le_refl _, Nat.le_refl _⟩ ?_
      refine tc_istore_n [(3, .int x18), (0, .ref (z + v0)), (1, .int v1), (2, .int v2)] dX12_settle_22 (by decide) rfl ?_
      refine tc_aload_n 1 rfl dX12_settle_23 ?_
      refine tc_iconst (v := 0) (by decide) dX12_settle_24 ?_
      refine tc_aload_n 1 rfl dX12_settle_25 ?_
      refine tc_iload_n 0 rfl dX12_settle_26 ?_
      obtain ⟨x21, u22, hq23, h⟩ := tc_b_ex h
      refine tc_callVi [.int x18] dX12_settle_27 iv0.1 (ct_X12_keyOf hW iv0 hq23) ml_X12_103 mw_X12_keyOf mv_X12_keyOf ⟨Nat.le_of_ble_eq_true rfl, Nat.le_of_ble_eq_true rfl⟩ rfl rfl (Nat.le_of_ble_eq_true rfl) ⟨Nat.le_refl _, Nat.le_refl _⟩ (by decide) ?_
      obtain ⟨x24, u25, hq26, h⟩ := tc_b_ex h
      refine tc_callVi [.int 0, .int x21] dX12_settle_30 iv0.1 (ct_X12_freeFor hW iv0 hq26) ml_X12_125 mw_X12_freeFor mv_X12_freeFor ⟨Nat.le_of_ble_eq_true rfl, Nat.le_of_ble_eq_true rfl⟩ rfl rfl (Nat.le_of_ble_eq_true rfl) ⟨Nat.le_refl _, Nat.le_refl _⟩ (by decide) ?_
      refine tc_istore [(4, .int x24), (3, .int x18), (0, .ref (z + v0)), (1, .int v1), (2, .int v2)] dX12_settle_33 (by decide) rfl ?_
      refine tc_iload 0 rfl dX12_settle_35 ?_
      refine tc_if_ge 53 dX12_settle_37 (by decide) (fun hc27 => ?_) (fun hc27 => ?_)
      · rw [if_pos hc27] at h
        refine tc_iconst (v := (-1)) (by decide) dX12_settle_53 ?_
        refine tc_lvs [2, 3, 4, 1, 0] rfl ?_
        exact sb_X12_settle_54 hW r ur _ ih v0 v1 v2 x18 x24 (-1) u25 iv0 h
      · rw [if_neg hc27] at h
        refine tc_aload_n 2 rfl dX12_settle_40 ?_
        refine tc_iconst (v := 0) (by decide) dX12_settle_41 ?_
        refine tc_aload_n 2 rfl dX12_settle_42 ?_
        refine tc_iload_n 1 rfl dX12_settle_43 ?_
        obtain ⟨x28, u29, hq30, h⟩ := tc_b_ex h
        refine tc_callVi [.int x18] dX12_settle_44 iv0.1 (ct_X12_keyOf hW iv0 hq30) ml_X12_103 mw_X12_keyOf mv_X12_keyOf ⟨Nat.le_of_ble_eq_true rfl, Nat.le_of_ble_eq_true rfl⟩ rfl rfl (Nat.le_of_ble_eq_true rfl) ⟨Nat.le_refl _, Nat.le_refl _⟩ (by decide) ?_
        obtain ⟨x31, u32, hq33, h⟩ := tc_b_ex h
        refine tc_callVi [.int 0, .int x28] dX12_settle_47 iv0.1 (ct_X12_chainOf hW iv0 hq33) ml_X12_132 mw_X12_chainOf mv_X12_chainOf ⟨Nat.le_of_ble_eq_true rfl, Nat.le_of_ble_eq_true rfl⟩ rfl rfl (Nat.le_of_ble_eq_true rfl) ⟨Nat.le_refl _, Nat.le_refl _⟩ (by decide) ?_
        refine tc_goto 54 dX12_settle_50 (by decide) ?_
        refine tc_lvs [2, 3, 4, 1, 0] rfl ?_
        exact sb_X12_settle_54 hW r ur _ ih v0 v1 v2 x18 x24 x31 u32 iv0 h
set_option maxRecDepth 100000 in
set_option maxHeartbeats 4000000 in
theorem ct_X12_settle {l : Launch} {z : Nat} {D : tc_D} {G : tc_G} (hW : tc_W G) {v0 : Nat} {u : tc_S} {r : Int32} {ur : tc_S} (iv0 : tc_is G v0 12) (h : fn_X12_settle G v0 u = some (r, ur)) : tc_C l z D yX12_settle cX12_settle 6 (some .int) 4 104 0 0 [.ref (z + v0)] G u (tc_po r G ur) := by
  unfold fn_X12_settle at h
  refine tc_C.of (by decide) (Nat.le_of_ble_eq_true rfl) fun p e s m args below meth c => ?_
  show tc_R p l e { frames := 4, cells := 0, slots := 0, locals := 104 } s m args below meth c z D cX12_settle RX12 6 (some .int) 0 0 (tc_po r G ur) 0 0 G u 0 [(0, .ref (z + v0))] []
  refine tc_iconst (v := 0) (by decide) dX12_settle_0 ?_
  refine tc_istore_n [(1, .int 0), (0, .ref (z + v0))] dX12_settle_1 (by decide) rfl ?_
  refine tc_iconst (v := 0) (by decide) dX12_settle_2 ?_
  refine tc_istore_n [(2, .int 0), (1, .int 0), (0, .ref (z + v0))] dX12_settle_3 (by decide) rfl ?_
  refine tc_lvs [2, 1, 0] rfl ?_
  exact sl_X12_settle_4 hW r ur  _ v0 0 0 u iv0 h
set_option maxRecDepth 100000 in
set_option maxHeartbeats 4000000 in
theorem ct_X12_below {l : Launch} {z : Nat} {D : tc_D} {G : tc_G} (hW : tc_W G) {v0 : Nat} {v1 : Int32} {u : tc_S} {r : Int32} {ur : tc_S} (iv0 : tc_is G v0 12) (h : fn_X12_below G v0 v1 u = some (r, ur)) : tc_C l z D yX12_below cX12_below 2 (some .int) 0 0 0 0 [.ref (z + v0), .int v1] G u (tc_po r G ur) := by
  unfold fn_X12_below at h
  refine tc_C.of (by decide) (Nat.le_of_ble_eq_true rfl) fun p e s m args below meth c => ?_
  show tc_R p l e { frames := 0, cells := 0, slots := 0, locals := 0 } s m args below meth c z D cX12_below RX12 2 (some .int) 0 0 (tc_po r G ur) 0 0 G u 0 [(0, .ref (z + v0)), (1, .int v1)] []
  refine tc_aload_n 0 rfl dX12_below_0 ?_
  refine tc_aload_n 0 rfl dX12_below_1 ?_
  refine tc_geti iv0.1 fl_X12_179 dX12_below_2 ?_
  refine tc_ldc (v := 1103515245) co_X12_87 dX12_below_5 ?_
  refine tc_imul dX12_below_7 ?_
  refine tc_sipush (v := 12345) (by decide) dX12_below_8 ?_
  refine tc_iadd dX12_below_11 ?_
  obtain ⟨u1, eu1, h⟩ := tc_let_ex h
  refine tc_puti iv0.1 fl_X12_179 dX12_below_12 ?_
  refine tc_nmu eu1 ?_
  refine tc_aload_n 0 rfl dX12_below_15 ?_
  refine tc_geti iv0.1 fl_X12_179 dX12_below_16 ?_
  refine tc_bipush (v := 16) (by decide) dX12_below_19 ?_
  refine tc_iushr' dX12_below_21 ?_
  refine tc_iload_n 1 rfl dX12_below_22 ?_
  obtain ⟨hz2, h⟩ := tc_nz_ex h
  refine tc_irem' hz2 dX12_below_23 ?_
  cases h
  exact tc_ireturn rfl dX12_below_24 rfl rfl ⟨rfl, rfl, rfl⟩
set_option maxRecDepth 100000 in
set_option maxHeartbeats 4000000 in
theorem sb_X12_loads_82 {p : Program} {l : Launch} {e : Env} {s : State} {m : MethodId} {args : Array Value} {below : List Frame} {meth : Method} {c : Code} {z : Nat} {D : tc_D} {G : tc_G} (hW : tc_W G) (r : Int32) (ur : tc_S) (K11 : Nat → Int32 → Int32 → Int32 → Int32 → tc_S → Option (Int32 × tc_S)) (hK11 : ∀ (v0 : Nat) (v1 : Int32) (v3 : Int32) (v4 : Int32) (v5 : Int32) (u : tc_S), tc_is G v0 12 → K11 v0 v1 v3 v4 v5 u = some (r, ur) → tc_R p l e { frames := 8, cells := 0, slots := 0, locals := 208 } s m args below meth c z D cX12_loads RX12 9 (some .int) 0 0 (tc_po r G ur) 0 0 G u 11 [(0, .ref (z + v0)), (1, .int v1), (3, .int v3), (4, .int v4), (5, .int v5)] []) (v0 : Nat) (v1 : Int32) (v3 : Int32) (v5 : Int32) (s0 : Int32) (s1 : Int32) (u : tc_S) (iv0 : tc_is G v0 12) (h : bl_X12_loads_82 G K11 v0 v1 v3 v5 s0 s1 u = some (r, ur)) : tc_R p l e { frames := 8, cells := 0, slots := 0, locals := 208 } s m args below meth c z D cX12_loads RX12 9 (some .int) 0 0 (tc_po r G ur) 0 0 G u 82 [(0, .ref (z + v0)), (1, .int v1), (3, .int v3), (5, .int v5)] [.int s1, .int s0] := by
  unfold bl_X12_loads_82 at h
  refine tc_iadd dX12_loads_82 ?_
  obtain ⟨x1, ex1, h⟩ := tc_let_ex h
  refine tc_nm ex1 ?_
  refine tc_istore [(4, .int x1), (0, .ref (z + v0)), (1, .int v1), (3, .int v3), (5, .int v5)] dX12_loads_83 (by decide) rfl ?_
  obtain ⟨x2, ex2, h⟩ := tc_let_ex h
  refine tc_iinc 4 (v := x2) [(5, .int x2), (4, .int x1), (0, .ref (z + v0)), (1, .int v1), (3, .int v3)] dX12_loads_85 rfl (by rw [ex2]; rfl) (by decide) rfl ?_
  refine tc_goto 11 dX12_loads_88 (by decide) ?_
  refine tc_lvs [2, 3, 4, 1, 0] rfl ?_
  exact hK11 v0 v1 v3 x1 x2 u iv0 h
set_option maxRecDepth 100000 in
set_option maxHeartbeats 4000000 in
theorem sb_X12_loads_81 {p : Program} {l : Launch} {e : Env} {s : State} {m : MethodId} {args : Array Value} {below : List Frame} {meth : Method} {c : Code} {z : Nat} {D : tc_D} {G : tc_G} (hW : tc_W G) (r : Int32) (ur : tc_S) (K11 : Nat → Int32 → Int32 → Int32 → Int32 → tc_S → Option (Int32 × tc_S)) (hK11 : ∀ (v0 : Nat) (v1 : Int32) (v3 : Int32) (v4 : Int32) (v5 : Int32) (u : tc_S), tc_is G v0 12 → K11 v0 v1 v3 v4 v5 u = some (r, ur) → tc_R p l e { frames := 8, cells := 0, slots := 0, locals := 208 } s m args below meth c z D cX12_loads RX12 9 (some .int) 0 0 (tc_po r G ur) 0 0 G u 11 [(0, .ref (z + v0)), (1, .int v1), (3, .int v3), (4, .int v4), (5, .int v5)] []) (v0 : Nat) (v1 : Int32) (v3 : Int32) (v5 : Int32) (s0 : Int32) (u : tc_S) (iv0 : tc_is G v0 12) (h : bl_X12_loads_81 G K11 v0 v1 v3 v5 s0 u = some (r, ur)) : tc_R p l e { frames := 8, cells := 0, slots := 0, locals := 208 } s m args below meth c z D cX12_loads RX12 9 (some .int) 0 0 (tc_po r G ur) 0 0 G u 81 [(0, .ref (z + v0)), (1, .int v1), (3, .int v3), (5, .int v5)] [.int s0] := by
  unfold bl_X12_loads_81 at h
  refine tc_iconst (v := 0) (by decide) dX12_loads_81 ?_
  exact sb_X12_loads_82 hW r ur K11 hK11 v0 v1 v3 v5 s0 0 u iv0 h
set_option maxRecDepth 100000 in
set_option maxHeartbeats 4000000 in
theorem sb_X12_loads_62 {p : Program} {l : Launch} {e : Env} {s : State} {m : MethodId} {args : Array Value} {below : List Frame} {meth : Method} {c : Code} {z : Nat} {D : tc_D} {G : tc_G} (hW : tc_W G) (r : Int32) (ur : tc_S) (K11 : Nat → Int32 → Int32 → Int32 → Int32 → tc_S → Option (Int32 × tc_S)) (hK11 : ∀ (v0 : Nat) (v1 : Int32) (v3 : Int32) (v4 : Int32) (v5 : Int32) (u : tc_S), tc_is G v0 12 → K11 v0 v1 v3 v4 v5 u = some (r, ur) → tc_R p l e { frames := 8, cells := 0, slots := 0, locals := 208 } s m args below meth c z D cX12_loads RX12 9 (some .int) 0 0 (tc_po r G ur) 0 0 G u 11 [(0, .ref (z + v0)), (1, .int v1), (3, .int v3), (4, .int v4), (5, .int v5)] []) (v0 : Nat) (v1 : Int32) (v3 : Int32) (v4 : Int32) (v5 : Int32) (v6 : Int32) (s0 : Int32) (u : tc_S) (iv0 : tc_is G v0 12) (h : bl_X12_loads_62 G K11 v0 v1 v3 v4 v5 v6 s0 u = some (r, ur)) : tc_R p l e { frames := 8, cells := 0, slots := 0, locals := 208 } s m args below meth c z D cX12_loads RX12 9 (some .int) 0 0 (tc_po r G ur) 0 0 G u 62 [(0, .ref (z + v0)), (1, .int v1), (3, .int v3), (4, .int v4), (5, .int v5), (6, .int v6)] [.int s0] := by
  unfold bl_X12_loads_62 at h
  refine tc_istore [(8, .int s0), (0, .ref (z + v0)), (1, .int v1), (3, .int v3), (4, .int v4), (5, .int v5), (6, .int v6)] dX12_loads_62 (by decide) rfl ?_
  refine tc_iload 4 rfl dX12_loads_64 ?_
  refine tc_iload 6 rfl dX12_loads_66 ?_
  refine tc_if_le 81 dX12_loads_68 (by decide) (fun hc3 => ?_) (fun hc3 => ?_)
  · rw [if_pos hc3] at h
    refine tc_lvs [1, 2, 3, 5] rfl ?_
    exact sb_X12_loads_81 hW r ur K11 hK11 v0 v1 v3 v5 v4 u iv0 h
  · rw [if_neg hc3] at h
    refine tc_iload 0 rfl dX12_loads_71 ?_
    refine tc_iconst (v := (-1)) (by decide) dX12_loads_73 ?_
    refine tc_icmp_ne 81 dX12_loads_74 (by decide) (fun hc4 => ?_) (fun hc4 => ?_)
    · rw [if_neg hc4] at h
      refine tc_lvs [1, 2, 3, 5] rfl ?_
      exact sb_X12_loads_81 hW r ur K11 hK11 v0 v1 v3 v5 v4 u iv0 h
    · rw [if_pos hc4] at h
      refine tc_iconst (v := 1) (by decide) dX12_loads_77 ?_
      refine tc_goto 82 dX12_loads_78 (by decide) ?_
      refine tc_lvs [1, 2, 3, 5] rfl ?_
      exact sb_X12_loads_82 hW r ur K11 hK11 v0 v1 v3 v5 v4 1 u iv0 h
set_option maxRecDepth 100000 in
set_option maxHeartbeats 4000000 in
theorem sl_X12_loads_11 {p : Program} {l : Launch} {e : Env} {s : State} {m : MethodId} {args : Array Value} {below : List Frame} {meth : Method} {c : Code} {z : Nat} {D : tc_D} {G : tc_G} (hW : tc_W G) (r : Int32) (ur : tc_S) : ∀ (n : Nat) (v0 : Nat) (v1 : Int32) (v3 : Int32) (v4 : Int32) (v5 : Int32) (u : tc_S) (iv0 : tc_is G v0 12) (h : lo_X12_loads_11 G n v0 v1 v3 v4 v5 u = some (r, ur)), tc_R p l e { frames := 8, cells := 0, slots := 0, locals := 208 } s m args below meth c z D cX12_loads RX12 9 (some .int) 0 0 (tc_po r G ur) 0 0 G u 11 [(0, .ref (z + v0)), (1, .int v1), (3, .int v3), (4, .int v4), (5, .int v5)] [] := by
  intro n
  induction n with
  | zero => intro v0 v1 v3 v4 v5 u iv0 h; cases h
  | succ n ih =>
    intro v0 v1 v3 v4 v5 u iv0 h
    rw [lo_X12_loads_11] at h
    refine tc_iload 4 rfl dX12_loads_11 ?_
    refine tc_iload_n 2 rfl dX12_loads_13 ?_
    refine tc_icmp_ge 91 dX12_loads_14 (by decide) (fun hc5 => ?_) (fun hc5 => ?_)
    · rw [if_pos hc5] at h
      refine tc_iload 3 rfl dX12_loads_91 ?_
      cases h
      exact tc_ireturn rfl dX12_loads_93 rfl rfl ⟨rfl, rfl, rfl⟩
    · rw [if_neg hc5] at h
      refine tc_aload_n 0 rfl dX12_loads_17 ?_
      refine tc_iconst (v := 4) (by decide) dX12_loads_18 ?_
      obtain ⟨x6, u7, hq8, h⟩ := tc_b_ex h
      refine tc_callVi [.int 4] dX12_loads_19 iv0.1 (ct_X12_below hW iv0 hq8) ml_X12_182 mw_X12_below mv_X12_below ⟨Nat.le_of_ble_eq_true rfl, Nat.le_of_ble_eq_true rfl⟩ rfl rfl (Nat.le_of_ble_eq_true rfl) ⟨Nat.le_refl _, Nat.le_refl _⟩ (by decide) ?_
      refine tc_istore [(6, .int x6), (0, .ref (z + v0)), (1, .int v1), (3, .int v3), (4, .int v4), (5, .int v5)] dX12_loads_22 (by decide) rfl ?_
      refine tc_aload_n 1 rfl dX12_loads_24 ?_
      refine tc_sipush (v := 1000) (by decide) dX12_loads_25 ?_
      obtain ⟨x9, u10, hq11, h⟩ := tc_b_ex h
      refine tc_callVi [.int 1000] dX12_loads_28 iv0.1 (ct_X12_below hW iv0 hq11) ml_X12_182 mw_X12_below mv_X12_below ⟨Nat.le_of_ble_eq_true rfl, Nat.le_of_ble_eq_true rfl⟩ rfl rfl (Nat.le_of_ble_eq_true rfl) ⟨Nat.le_refl _, Nat.le_refl _⟩ (by decide) ?_
      refine tc_istore [(7, .int x9), (6, .int x6), (0, .ref (z + v0)), (1, .int v1), (3, .int v3), (4, .int v4), (5, .int v5)] dX12_loads_31 (by decide) rfl ?_
      refine tc_iload 1 rfl dX12_loads_33 ?_
      refine tc_if_ne 48 dX12_loads_35 (by decide) (fun hc12 => ?_) (fun hc12 => ?_)
      · rw [if_neg hc12] at h
        refine tc_aload_n 2 rfl dX12_loads_48 ?_
        refine tc_iload_n 3 rfl dX12_loads_49 ?_
        refine tc_iload 0 rfl dX12_loads_50 ?_
        refine tc_aload_n 2 rfl dX12_loads_52 ?_
        refine tc_sipush (v := 1000) (by decide) dX12_loads_53 ?_
        obtain ⟨x13, u14, hq15, h⟩ := tc_b_ex h
        refine tc_callVi [.int 1000] dX12_loads_56 iv0.1 (ct_X12_below hW iv0 hq15) ml_X12_182 mw_X12_below mv_X12_below ⟨Nat.le_of_ble_eq_true rfl, Nat.le_of_ble_eq_true rfl⟩ rfl rfl (Nat.le_of_ble_eq_true rfl) ⟨Nat.le_refl _, Nat.le_refl _⟩ (by decide) ?_
        obtain ⟨x16, u17, hq18, h⟩ := tc_b_ex h
        refine tc_callVi [.int v1, .int x9, .int x13] dX12_loads_59 iv0.1 (ct_X12_puts hW iv0 hq18) ml_X12_188 mw_X12_puts mv_X12_puts ⟨Nat.le_of_ble_eq_true rfl, Nat.le_of_ble_eq_true rfl⟩ rfl rfl (Nat.le_of_ble_eq_true rfl) ⟨Nat.le_refl _, Nat.le_refl _⟩ (by decide) ?_
        refine tc_lvs [2, 3, 4, 5, 6, 1] rfl ?_
        exact sb_X12_loads_62 hW r ur _ ih v0 v1 v3 v4 v5 x6 x16 u17 iv0 h
      · rw [if_pos hc12] at h
        refine tc_aload_n 2 rfl dX12_loads_38 ?_
        refine tc_iload_n 3 rfl dX12_loads_39 ?_
        refine tc_iload 0 rfl dX12_loads_40 ?_
        obtain ⟨x19, u20, hq21, h⟩ := tc_b_ex h
        refine tc_callVi [.int v1, .int x9] dX12_loads_42 iv0.1 (ct_X12_drops hW iv0 hq21) ml_X12_185 mw_X12_drops mv_X12_drops ⟨Nat.le_of_ble_eq_true rfl, Nat.le_of_ble_eq_true rfl⟩ rfl rfl (Nat.le_of_ble_eq_true rfl) ⟨Nat.le_refl _, Nat.le_refl _⟩ (by decide) ?_
        refine tc_goto 62 dX12_loads_45 (by decide) ?_
        refine tc_lvs [2, 3, 4, 5, 6, 1] rfl ?_
        exact sb_X12_loads_62 hW r ur _ ih v0 v1 v3 v4 v5 x6 x19 u20 iv0 h
set_option maxRecDepth 100000 in
set_option maxHeartbeats 4000000 in
theorem ct_X12_loads {l : Launch} {z : Nat} {D : tc_D} {G : tc_G} (hW : tc_W G) {v0 : Nat} {v1 : Int32} {v2 : Int32} {v3 : Int32} {u : tc_S} {r : Int32} {ur : tc_S} (iv0 : tc_is G v0 12) (h : fn_X12_loads G v0 v1 v2 v3 u = some (r, ur)) : tc_C l z D yX12_loads cX12_loads 9 (some .int) 8 208 0 0 [.ref (z + v0), .int v1, .int v2, .int v3] G u (tc_po r G ur) := by
  unfold fn_X12_loads at h
  refine tc_C.of (by decide) (Nat.le_of_ble_eq_true rfl) fun p e s m args below meth c => ?_
  show tc_R p l e { frames := 8, cells := 0, slots := 0, locals := 208 } s m args below meth c z D cX12_loads RX12 9 (some .int) 0 0 (tc_po r G ur) 0 0 G u 0 [(0, .ref (z + v0)), (1, .int v1), (2, .int v2), (3, .int v3)] []
  refine tc_aload_n 0 rfl dX12_loads_0 ?_
  refine tc_iload_n 2 rfl dX12_loads_1 ?_
  obtain ⟨u22, eu22, h⟩ := tc_let_ex h
  refine tc_puti iv0.1 fl_X12_179 dX12_loads_2 ?_
  refine tc_nmu eu22 ?_
  refine tc_iconst (v := 0) (by decide) dX12_loads_5 ?_
  refine tc_istore [(4, .int 0), (0, .ref (z + v0)), (1, .int v1), (2, .int v2), (3, .int v3)] dX12_loads_6 (by decide) rfl ?_
  refine tc_iconst (v := 0) (by decide) dX12_loads_8 ?_
  refine tc_istore [(5, .int 0), (4, .int 0), (0, .ref (z + v0)), (1, .int v1), (2, .int v2), (3, .int v3)] dX12_loads_9 (by decide) rfl ?_
  refine tc_lvs [2, 3, 5, 1, 0] rfl ?_
  exact sl_X12_loads_11 hW r ur  _ v0 v1 v3 0 0 u22 iv0 h
set_option maxRecDepth 100000 in
set_option maxHeartbeats 4000000 in
theorem sb_X12_meets_41 {p : Program} {l : Launch} {e : Env} {s : State} {m : MethodId} {args : Array Value} {below : List Frame} {meth : Method} {c : Code} {z : Nat} {D : tc_D} {G : tc_G} (hW : tc_W G) (r : Int32) (ur : tc_S) (s0 : Int32) (u : tc_S) (h : bl_X12_meets_41 G s0 u = some (r, ur)) : tc_R p l e { frames := 1, cells := 0, slots := 0, locals := 23 } s m args below meth c z D cX12_meets RX12 5 (some .boolean) 0 0 (tc_po r G ur) 0 0 G u 41 [] [.int s0] := by
  unfold bl_X12_meets_41 at h
  obtain ⟨hz1, h⟩ := tc_zo_ex h
  cases h
  exact tc_zreturn hz1 rfl dX12_meets_41 rfl rfl ⟨rfl, rfl, rfl⟩
set_option maxRecDepth 100000 in
set_option maxHeartbeats 4000000 in
theorem sb_X12_meets_36 {p : Program} {l : Launch} {e : Env} {s : State} {m : MethodId} {args : Array Value} {below : List Frame} {meth : Method} {c : Code} {z : Nat} {D : tc_D} {G : tc_G} (hW : tc_W G) (r : Int32) (ur : tc_S) (u : tc_S) (h : bl_X12_meets_36 G  u = some (r, ur)) : tc_R p l e { frames := 1, cells := 0, slots := 0, locals := 23 } s m args below meth c z D cX12_meets RX12 5 (some .boolean) 0 0 (tc_po r G ur) 0 0 G u 36 [] [] := by
  unfold bl_X12_meets_36 at h
  refine tc_iconst (v := 1) (by decide) dX12_meets_36 ?_
  refine tc_goto 41 dX12_meets_37 (by decide) ?_
  exact sb_X12_meets_41 hW r ur  1 u  h
set_option maxRecDepth 100000 in
set_option maxHeartbeats 4000000 in
theorem ct_X12_meets {l : Launch} {z : Nat} {D : tc_D} {G : tc_G} (hW : tc_W G) {v0 : Nat} {v1 : Int32} {v2 : Int32} {v3 : Int32} {u : tc_S} {r : Int32} {ur : tc_S} (iv0 : tc_is G v0 12) (h : fn_X12_meets G v0 v1 v2 v3 u = some (r, ur)) : tc_C l z D yX12_meets cX12_meets 5 (some .boolean) 1 23 0 0 [.ref (z + v0), .int v1, .int v2, .int v3] G u (tc_po r G ur) := by
  unfold fn_X12_meets at h
  refine tc_C.of (by decide) (Nat.le_of_ble_eq_true rfl) fun p e s m args below meth c => ?_
  show tc_R p l e { frames := 1, cells := 0, slots := 0, locals := 23 } s m args below meth c z D cX12_meets RX12 5 (some .boolean) 0 0 (tc_po r G ur) 0 0 G u 0 [(0, .ref (z + v0)), (1, .int v1), (2, .int v2), (3, .int v3)] []
  refine tc_aload_n 0 rfl dX12_meets_0 ?_
  refine tc_getp hW iv0 fl_X12_39 dX12_meets_1 rfl ?_
  refine tc_iconst (v := 4) (by decide) dX12_meets_4 ?_
  refine tc_iload_n 2 rfl dX12_meets_5 ?_
  refine tc_imul dX12_meets_6 ?_
  obtain ⟨bx2, x2, ex2, h⟩ := tc_ld_ex h
  refine tc_iald (hW.p iv0 11 rfl).1 bx2 dX12_meets_7 ?_
  refine tc_nm ex2 ?_
  refine tc_iconst (v := 1) (by decide) dX12_meets_8 ?_
  refine tc_isub dX12_meets_9 ?_
  obtain ⟨x3, ex3, h⟩ := tc_let_ex h
  refine tc_nm ex3 ?_
  refine tc_istore [(4, .int x3), (0, .ref (z + v0)), (1, .int v1), (2, .int v2), (3, .int v3)] dX12_meets_10 (by decide) rfl ?_
  refine tc_aload_n 1 rfl dX12_meets_12 ?_
  refine tc_iload_n 2 rfl dX12_meets_13 ?_
  refine tc_iload 0 rfl dX12_meets_14 ?_
  refine tc_iconst (v := 0) (by decide) dX12_meets_16 ?_
  obtain ⟨x4, u5, hq6, h⟩ := tc_b_ex h
  refine tc_callVi [.int v1, .int x3, .int 0] dX12_meets_17 iv0.1 (ct_X12_hashOf hW iv0 hq6) ml_X12_88 mw_X12_hashOf mv_X12_hashOf ⟨Nat.le_of_ble_eq_true rfl, Nat.le_of_ble_eq_true rfl⟩ rfl rfl (Nat.le_of_ble_eq_true rfl) ⟨Nat.le_refl _, Nat.le_refl _⟩ (by decide) ?_
  refine tc_iload_n 4 rfl dX12_meets_20 ?_
  refine tc_icmp_eq 36 dX12_meets_21 (by decide) (fun hc7 => ?_) (fun hc7 => ?_)
  · rw [if_pos hc7] at h
    refine tc_lvs [] rfl ?_
    exact sb_X12_meets_36 hW r ur   u5  h
  · rw [if_neg hc7] at h
    refine tc_aload_n 1 rfl dX12_meets_24 ?_
    refine tc_iload_n 2 rfl dX12_meets_25 ?_
    refine tc_iload 0 rfl dX12_meets_26 ?_
    refine tc_iconst (v := 1) (by decide) dX12_meets_28 ?_
    obtain ⟨x8, u9, hq10, h⟩ := tc_b_ex h
    refine tc_callVi [.int v1, .int x3, .int 1] dX12_meets_29 iv0.1 (ct_X12_hashOf hW iv0 hq10) ml_X12_88 mw_X12_hashOf mv_X12_hashOf ⟨Nat.le_of_ble_eq_true rfl, Nat.le_of_ble_eq_true rfl⟩ rfl rfl (Nat.le_of_ble_eq_true rfl) ⟨Nat.le_refl _, Nat.le_refl _⟩ (by decide) ?_
    refine tc_iload_n 4 rfl dX12_meets_32 ?_
    refine tc_icmp_ne 40 dX12_meets_33 (by decide) (fun hc11 => ?_) (fun hc11 => ?_)
    · rw [if_neg hc11] at h
      refine tc_iconst (v := 0) (by decide) dX12_meets_40 ?_
      refine tc_lvs [] rfl ?_
      exact sb_X12_meets_41 hW r ur  0 u9  h
    · rw [if_pos hc11] at h
      refine tc_lvs [] rfl ?_
      exact sb_X12_meets_36 hW r ur   u9  h
set_option maxRecDepth 100000 in
set_option maxHeartbeats 4000000 in
theorem sb_X12_leftIn_41 {p : Program} {l : Launch} {e : Env} {s : State} {m : MethodId} {args : Array Value} {below : List Frame} {meth : Method} {c : Code} {z : Nat} {D : tc_D} {G : tc_G} (hW : tc_W G) (r : Int32) (ur : tc_S) (K5 : Nat → Int32 → Int32 → Int32 → Int32 → tc_S → Option (Int32 × tc_S)) (hK5 : ∀ (v0 : Nat) (v1 : Int32) (v2 : Int32) (v3 : Int32) (v4 : Int32) (u : tc_S), tc_is G v0 12 → K5 v0 v1 v2 v3 v4 u = some (r, ur) → tc_R p l e { frames := 2, cells := 0, slots := 0, locals := 47 } s m args below meth c z D cX12_leftIn RX12 5 (some .int) 0 0 (tc_po r G ur) 0 0 G u 5 [(0, .ref (z + v0)), (1, .int v1), (2, .int v2), (3, .int v3), (4, .int v4)] []) (v0 : Nat) (v1 : Int32) (v2 : Int32) (v4 : Int32) (s0 : Int32) (s1 : Int32) (u : tc_S) (iv0 : tc_is G v0 12) (h : bl_X12_leftIn_41 G K5 v0 v1 v2 v4 s0 s1 u = some (r, ur)) : tc_R p l e { frames := 2, cells := 0, slots := 0, locals := 47 } s m args below meth c z D cX12_leftIn RX12 5 (some .int) 0 0 (tc_po r G ur) 0 0 G u 41 [(0, .ref (z + v0)), (1, .int v1), (2, .int v2), (4, .int v4)] [.int s1, .int s0] := by
  unfold bl_X12_leftIn_41 at h
  refine tc_iadd dX12_leftIn_41 ?_
  obtain ⟨x1, ex1, h⟩ := tc_let_ex h
  refine tc_nm ex1 ?_
  refine tc_istore_n [(3, .int x1), (0, .ref (z + v0)), (1, .int v1), (2, .int v2), (4, .int v4)] dX12_leftIn_42 (by decide) rfl ?_
  obtain ⟨x2, ex2, h⟩ := tc_let_ex h
  refine tc_iinc 4 (v := x2) [(4, .int x2), (3, .int x1), (0, .ref (z + v0)), (1, .int v1), (2, .int v2)] dX12_leftIn_43 rfl (by rw [ex2]; rfl) (by decide) rfl ?_
  refine tc_goto 5 dX12_leftIn_46 (by decide) ?_
  refine tc_lvs [2, 3, 4, 1, 0] rfl ?_
  exact hK5 v0 v1 v2 x1 x2 u iv0 h
set_option maxRecDepth 100000 in
set_option maxHeartbeats 4000000 in
theorem sb_X12_leftIn_40 {p : Program} {l : Launch} {e : Env} {s : State} {m : MethodId} {args : Array Value} {below : List Frame} {meth : Method} {c : Code} {z : Nat} {D : tc_D} {G : tc_G} (hW : tc_W G) (r : Int32) (ur : tc_S) (K5 : Nat → Int32 → Int32 → Int32 → Int32 → tc_S → Option (Int32 × tc_S)) (hK5 : ∀ (v0 : Nat) (v1 : Int32) (v2 : Int32) (v3 : Int32) (v4 : Int32) (u : tc_S), tc_is G v0 12 → K5 v0 v1 v2 v3 v4 u = some (r, ur) → tc_R p l e { frames := 2, cells := 0, slots := 0, locals := 47 } s m args below meth c z D cX12_leftIn RX12 5 (some .int) 0 0 (tc_po r G ur) 0 0 G u 5 [(0, .ref (z + v0)), (1, .int v1), (2, .int v2), (3, .int v3), (4, .int v4)] []) (v0 : Nat) (v1 : Int32) (v2 : Int32) (v4 : Int32) (s0 : Int32) (u : tc_S) (iv0 : tc_is G v0 12) (h : bl_X12_leftIn_40 G K5 v0 v1 v2 v4 s0 u = some (r, ur)) : tc_R p l e { frames := 2, cells := 0, slots := 0, locals := 47 } s m args below meth c z D cX12_leftIn RX12 5 (some .int) 0 0 (tc_po r G ur) 0 0 G u 40 [(0, .ref (z + v0)), (1, .int v1), (2, .int v2), (4, .int v4)] [.int s0] := by
  unfold bl_X12_leftIn_40 at h
  refine tc_iconst (v := 0) (by decide) dX12_leftIn_40 ?_
  exact sb_X12_leftIn_41 hW r ur K5 hK5 v0 v1 v2 v4 s0 0 u iv0 h
set_option maxRecDepth 100000 in
set_option maxHeartbeats 4000000 in
theorem sl_X12_leftIn_5 {p : Program} {l : Launch} {e : Env} {s : State} {m : MethodId} {args : Array Value} {below : List Frame} {meth : Method} {c : Code} {z : Nat} {D : tc_D} {G : tc_G} (hW : tc_W G) (r : Int32) (ur : tc_S) : ∀ (n : Nat) (v0 : Nat) (v1 : Int32) (v2 : Int32) (v3 : Int32) (v4 : Int32) (u : tc_S) (iv0 : tc_is G v0 12) (h : lo_X12_leftIn_5 G n v0 v1 v2 v3 v4 u = some (r, ur)), tc_R p l e { frames := 2, cells := 0, slots := 0, locals := 47 } s m args below meth c z D cX12_leftIn RX12 5 (some .int) 0 0 (tc_po r G ur) 0 0 G u 5 [(0, .ref (z + v0)), (1, .int v1), (2, .int v2), (3, .int v3), (4, .int v4)] [] := by
  intro n
  induction n with
  | zero => intro v0 v1 v2 v3 v4 u iv0 h; cases h
  | succ n ih =>
    intro v0 v1 v2 v3 v4 u iv0 h
    rw [lo_X12_leftIn_5] at h
    refine tc_iload 4 rfl dX12_leftIn_5 ?_
    refine tc_aload_n 0 rfl dX12_leftIn_7 ?_
    refine tc_geti iv0.1 fl_X12_142 dX12_leftIn_8 ?_
    refine tc_icmp_ge 49 dX12_leftIn_11 (by decide) (fun hc3 => ?_) (fun hc3 => ?_)
    · rw [if_pos hc3] at h
      refine tc_iload_n 3 rfl dX12_leftIn_49 ?_
      cases h
      exact tc_ireturn rfl dX12_leftIn_50 rfl rfl ⟨rfl, rfl, rfl⟩
    · rw [if_neg hc3] at h
      refine tc_iload_n 3 rfl dX12_leftIn_14 ?_
      refine tc_aload_n 0 rfl dX12_leftIn_15 ?_
      refine tc_getp hW iv0 fl_X12_48 dX12_leftIn_16 rfl ?_
      refine tc_iload 4 rfl dX12_leftIn_19 ?_
      obtain ⟨bx4, x4, ex4, h⟩ := tc_ld_ex h
      refine tc_zald (hW.p iv0 16 rfl).1 bx4 dX12_leftIn_21 ?_
      refine tc_nm ex4 ?_
      refine tc_if_eq 40 dX12_leftIn_22 (by decide) (fun hc5 => ?_) (fun hc5 => ?_)
      · rw [if_pos hc5] at h
        refine tc_lvs [0, 1, 2, 4] rfl ?_
        exact sb_X12_leftIn_40 hW r ur _ ih v0 v1 v2 v4 v3 u iv0 h
      · rw [if_neg hc5] at h
        refine tc_aload_n 0 rfl dX12_leftIn_25 ?_
        refine tc_iload_n 1 rfl dX12_leftIn_26 ?_
        refine tc_iload 4 rfl dX12_leftIn_27 ?_
        refine tc_iload_n 2 rfl dX12_leftIn_29 ?_
        obtain ⟨x6, u7, hq8, h⟩ := tc_b_ex h
        refine tc_callVi [.int v1, .int v4, .int v2] dX12_leftIn_30 iv0.1 (ct_X12_meets hW iv0 hq8) ml_X12_191 mw_X12_meets mv_X12_meets ⟨Nat.le_of_ble_eq_true rfl, Nat.le_of_ble_eq_true rfl⟩ rfl rfl (Nat.le_of_ble_eq_true rfl) ⟨Nat.le_refl _, Nat.le_refl _⟩ (by decide) ?_
        refine tc_if_eq 40 dX12_leftIn_33 (by decide) (fun hc9 => ?_) (fun hc9 => ?_)
        · rw [if_pos hc9] at h
          refine tc_lvs [0, 1, 2, 4] rfl ?_
          exact sb_X12_leftIn_40 hW r ur _ ih v0 v1 v2 v4 v3 u7 iv0 h
        · rw [if_neg hc9] at h
          refine tc_iconst (v := 1) (by decide) dX12_leftIn_36 ?_
          refine tc_goto 41 dX12_leftIn_37 (by decide) ?_
          refine tc_lvs [0, 1, 2, 4] rfl ?_
          exact sb_X12_leftIn_41 hW r ur _ ih v0 v1 v2 v4 v3 1 u7 iv0 h
set_option maxRecDepth 100000 in
set_option maxHeartbeats 4000000 in
theorem ct_X12_leftIn {l : Launch} {z : Nat} {D : tc_D} {G : tc_G} (hW : tc_W G) {v0 : Nat} {v1 : Int32} {v2 : Int32} {u : tc_S} {r : Int32} {ur : tc_S} (iv0 : tc_is G v0 12) (h : fn_X12_leftIn G v0 v1 v2 u = some (r, ur)) : tc_C l z D yX12_leftIn cX12_leftIn 5 (some .int) 2 47 0 0 [.ref (z + v0), .int v1, .int v2] G u (tc_po r G ur) := by
  unfold fn_X12_leftIn at h
  refine tc_C.of (by decide) (Nat.le_of_ble_eq_true rfl) fun p e s m args below meth c => ?_
  show tc_R p l e { frames := 2, cells := 0, slots := 0, locals := 47 } s m args below meth c z D cX12_leftIn RX12 5 (some .int) 0 0 (tc_po r G ur) 0 0 G u 0 [(0, .ref (z + v0)), (1, .int v1), (2, .int v2)] []
  refine tc_iconst (v := 0) (by decide) dX12_leftIn_0 ?_
  refine tc_istore_n [(3, .int 0), (0, .ref (z + v0)), (1, .int v1), (2, .int v2)] dX12_leftIn_1 (by decide) rfl ?_
  refine tc_iconst (v := 0) (by decide) dX12_leftIn_2 ?_
  refine tc_istore [(4, .int 0), (3, .int 0), (0, .ref (z + v0)), (1, .int v1), (2, .int v2)] dX12_leftIn_3 (by decide) rfl ?_
  refine tc_lvs [2, 3, 4, 1, 0] rfl ?_
  exact sl_X12_leftIn_5 hW r ur  _ v0 v1 v2 0 0 u iv0 h
set_option maxRecDepth 100000 in
set_option maxHeartbeats 4000000 in
theorem sb_X12_leastLeft_73 {p : Program} {l : Launch} {e : Env} {s : State} {m : MethodId} {args : Array Value} {below : List Frame} {meth : Method} {c : Code} {z : Nat} {D : tc_D} {G : tc_G} (hW : tc_W G) (r : Int32) (ur : tc_S) (K5 : Nat → Int32 → Int32 → Int32 → Int32 → tc_S → Option (Int32 × tc_S)) (hK5 : ∀ (v0 : Nat) (v1 : Int32) (v2 : Int32) (v3 : Int32) (v4 : Int32) (u : tc_S), tc_is G v0 12 → K5 v0 v1 v2 v3 v4 u = some (r, ur) → tc_R p l e { frames := 2, cells := 0, slots := 0, locals := 47 } s m args below meth c z D cX12_leastLeft RX12 5 (some .int) 0 0 (tc_po r G ur) 0 0 G u 5 [(0, .ref (z + v0)), (1, .int v1), (2, .int v2), (3, .int v3), (4, .int v4)] []) (v0 : Nat) (v1 : Int32) (v2 : Int32) (v3 : Int32) (v4 : Int32) (u : tc_S) (iv0 : tc_is G v0 12) (h : bl_X12_leastLeft_73 G K5 v0 v1 v2 v3 v4 u = some (r, ur)) : tc_R p l e { frames := 2, cells := 0, slots := 0, locals := 47 } s m args below meth c z D cX12_leastLeft RX12 5 (some .int) 0 0 (tc_po r G ur) 0 0 G u 73 [(0, .ref (z + v0)), (1, .int v1), (2, .int v2), (3, .int v3), (4, .int v4)] [] := by
  unfold bl_X12_leastLeft_73 at h
  obtain ⟨x1, ex1, h⟩ := tc_let_ex h
  refine tc_iinc 4 (v := x1) [(4, .int x1), (0, .ref (z + v0)), (1, .int v1), (2, .int v2), (3, .int v3)] dX12_leastLeft_73 rfl (by rw [ex1]; rfl) (by decide) rfl ?_
  refine tc_goto 5 dX12_leastLeft_76 (by decide) ?_
  refine tc_lvs [1, 2, 3, 4, 0] rfl ?_
  exact hK5 v0 v1 v2 v3 x1 u iv0 h
set_option maxRecDepth 100000 in
set_option maxHeartbeats 4000000 in
theorem sb_X12_leastLeft_72 {p : Program} {l : Launch} {e : Env} {s : State} {m : MethodId} {args : Array Value} {below : List Frame} {meth : Method} {c : Code} {z : Nat} {D : tc_D} {G : tc_G} (hW : tc_W G) (r : Int32) (ur : tc_S) (K5 : Nat → Int32 → Int32 → Int32 → Int32 → tc_S → Option (Int32 × tc_S)) (hK5 : ∀ (v0 : Nat) (v1 : Int32) (v2 : Int32) (v3 : Int32) (v4 : Int32) (u : tc_S), tc_is G v0 12 → K5 v0 v1 v2 v3 v4 u = some (r, ur) → tc_R p l e { frames := 2, cells := 0, slots := 0, locals := 47 } s m args below meth c z D cX12_leastLeft RX12 5 (some .int) 0 0 (tc_po r G ur) 0 0 G u 5 [(0, .ref (z + v0)), (1, .int v1), (2, .int v2), (3, .int v3), (4, .int v4)] []) (v0 : Nat) (v1 : Int32) (v2 : Int32) (v4 : Int32) (s0 : Int32) (u : tc_S) (iv0 : tc_is G v0 12) (h : bl_X12_leastLeft_72 G K5 v0 v1 v2 v4 s0 u = some (r, ur)) : tc_R p l e { frames := 2, cells := 0, slots := 0, locals := 47 } s m args below meth c z D cX12_leastLeft RX12 5 (some .int) 0 0 (tc_po r G ur) 0 0 G u 72 [(0, .ref (z + v0)), (1, .int v1), (2, .int v2), (4, .int v4)] [.int s0] := by
  unfold bl_X12_leastLeft_72 at h
  refine tc_istore_n [(3, .int s0), (0, .ref (z + v0)), (1, .int v1), (2, .int v2), (4, .int v4)] dX12_leastLeft_72 (by decide) rfl ?_
  refine tc_lvs [1, 2, 3, 0, 4] rfl ?_
  exact sb_X12_leastLeft_73 hW r ur K5 hK5 v0 v1 v2 s0 v4 u iv0 h
set_option maxRecDepth 100000 in
set_option maxHeartbeats 4000000 in
theorem sb_X12_leastLeft_66 {p : Program} {l : Launch} {e : Env} {s : State} {m : MethodId} {args : Array Value} {below : List Frame} {meth : Method} {c : Code} {z : Nat} {D : tc_D} {G : tc_G} (hW : tc_W G) (r : Int32) (ur : tc_S) (K5 : Nat → Int32 → Int32 → Int32 → Int32 → tc_S → Option (Int32 × tc_S)) (hK5 : ∀ (v0 : Nat) (v1 : Int32) (v2 : Int32) (v3 : Int32) (v4 : Int32) (u : tc_S), tc_is G v0 12 → K5 v0 v1 v2 v3 v4 u = some (r, ur) → tc_R p l e { frames := 2, cells := 0, slots := 0, locals := 47 } s m args below meth c z D cX12_leastLeft RX12 5 (some .int) 0 0 (tc_po r G ur) 0 0 G u 5 [(0, .ref (z + v0)), (1, .int v1), (2, .int v2), (3, .int v3), (4, .int v4)] []) (v0 : Nat) (v1 : Int32) (v2 : Int32) (v4 : Int32) (u : tc_S) (iv0 : tc_is G v0 12) (h : bl_X12_leastLeft_66 G K5 v0 v1 v2 v4 u = some (r, ur)) : tc_R p l e { frames := 2, cells := 0, slots := 0, locals := 47 } s m args below meth c z D cX12_leastLeft RX12 5 (some .int) 0 0 (tc_po r G ur) 0 0 G u 66 [(0, .ref (z + v0)), (1, .int v1), (2, .int v2), (4, .int v4)] [] := by
  unfold bl_X12_leastLeft_66 at h
  refine tc_iload 3 rfl dX12_leastLeft_66 ?_
  refine tc_goto 72 dX12_leastLeft_68 (by decide) ?_
  exact sb_X12_leastLeft_72 hW r ur K5 hK5 v0 v1 v2 v4 v4 u iv0 h
set_option maxRecDepth 100000 in
set_option maxHeartbeats 4000000 in
theorem sb_X12_leastLeft_42 {p : Program} {l : Launch} {e : Env} {s : State} {m : MethodId} {args : Array Value} {below : List Frame} {meth : Method} {c : Code} {z : Nat} {D : tc_D} {G : tc_G} (hW : tc_W G) (r : Int32) (ur : tc_S) (K5 : Nat → Int32 → Int32 → Int32 → Int32 → tc_S → Option (Int32 × tc_S)) (hK5 : ∀ (v0 : Nat) (v1 : Int32) (v2 : Int32) (v3 : Int32) (v4 : Int32) (u : tc_S), tc_is G v0 12 → K5 v0 v1 v2 v3 v4 u = some (r, ur) → tc_R p l e { frames := 2, cells := 0, slots := 0, locals := 47 } s m args below meth c z D cX12_leastLeft RX12 5 (some .int) 0 0 (tc_po r G ur) 0 0 G u 5 [(0, .ref (z + v0)), (1, .int v1), (2, .int v2), (3, .int v3), (4, .int v4)] []) (v0 : Nat) (v1 : Int32) (v2 : Int32) (v3 : Int32) (v4 : Int32) (u : tc_S) (iv0 : tc_is G v0 12) (h : bl_X12_leastLeft_42 G K5 v0 v1 v2 v3 v4 u = some (r, ur)) : tc_R p l e { frames := 2, cells := 0, slots := 0, locals := 47 } s m args below meth c z D cX12_leastLeft RX12 5 (some .int) 0 0 (tc_po r G ur) 0 0 G u 42 [(0, .ref (z + v0)), (1, .int v1), (2, .int v2), (3, .int v3), (4, .int v4)] [] := by
  unfold bl_X12_leastLeft_42 at h
  refine tc_iload_n 3 rfl dX12_leastLeft_42 ?_
  refine tc_if_lt 66 dX12_leastLeft_43 (by decide) (fun hc2 => ?_) (fun hc2 => ?_)
  · rw [if_pos hc2] at h
    refine tc_lvs [0, 1, 2, 4] rfl ?_
    exact sb_X12_leastLeft_66 hW r ur K5 hK5 v0 v1 v2 v4 u iv0 h
  · rw [if_neg hc2] at h
    refine tc_aload_n 0 rfl dX12_leastLeft_46 ?_
    refine tc_getp hW iv0 fl_X12_39 dX12_leastLeft_47 rfl ?_
    refine tc_iconst (v := 4) (by decide) dX12_leastLeft_50 ?_
    refine tc_iload 4 rfl dX12_leastLeft_51 ?_
    refine tc_imul dX12_leastLeft_53 ?_
    obtain ⟨bx3, x3, ex3, h⟩ := tc_ld_ex h
    refine tc_iald (hW.p iv0 11 rfl).1 bx3 dX12_leastLeft_54 ?_
    refine tc_nm ex3 ?_
    refine tc_aload_n 0 rfl dX12_leastLeft_55 ?_
    refine tc_getp hW iv0 fl_X12_39 dX12_leastLeft_56 rfl ?_
    refine tc_iconst (v := 4) (by decide) dX12_leastLeft_59 ?_
    refine tc_iload_n 3 rfl dX12_leastLeft_60 ?_
    refine tc_imul dX12_leastLeft_61 ?_
    obtain ⟨bx4, x4, ex4, h⟩ := tc_ld_ex h
    refine tc_iald (hW.p iv0 11 rfl).1 bx4 dX12_leastLeft_62 ?_
    refine tc_nm ex4 ?_
    refine tc_icmp_ge 71 dX12_leastLeft_63 (by decide) (fun hc5 => ?_) (fun hc5 => ?_)
    · rw [if_pos hc5] at h
      refine tc_iload_n 3 rfl dX12_leastLeft_71 ?_
      refine tc_lvs [0, 1, 2, 4] rfl ?_
      exact sb_X12_leastLeft_72 hW r ur K5 hK5 v0 v1 v2 v4 v3 u iv0 h
    · rw [if_neg hc5] at h
      refine tc_lvs [0, 1, 2, 4] rfl ?_
      exact sb_X12_leastLeft_66 hW r ur K5 hK5 v0 v1 v2 v4 u iv0 h
set_option maxRecDepth 100000 in
set_option maxHeartbeats 4000000 in
theorem sl_X12_leastLeft_5 {p : Program} {l : Launch} {e : Env} {s : State} {m : MethodId} {args : Array Value} {below : List Frame} {meth : Method} {c : Code} {z : Nat} {D : tc_D} {G : tc_G} (hW : tc_W G) (r : Int32) (ur : tc_S) : ∀ (n : Nat) (v0 : Nat) (v1 : Int32) (v2 : Int32) (v3 : Int32) (v4 : Int32) (u : tc_S) (iv0 : tc_is G v0 12) (h : lo_X12_leastLeft_5 G n v0 v1 v2 v3 v4 u = some (r, ur)), tc_R p l e { frames := 2, cells := 0, slots := 0, locals := 47 } s m args below meth c z D cX12_leastLeft RX12 5 (some .int) 0 0 (tc_po r G ur) 0 0 G u 5 [(0, .ref (z + v0)), (1, .int v1), (2, .int v2), (3, .int v3), (4, .int v4)] [] := by
  intro n
  induction n with
  | zero => intro v0 v1 v2 v3 v4 u iv0 h; cases h
  | succ n ih =>
    intro v0 v1 v2 v3 v4 u iv0 h
    rw [lo_X12_leastLeft_5] at h
    refine tc_iload 4 rfl dX12_leastLeft_5 ?_
    refine tc_aload_n 0 rfl dX12_leastLeft_7 ?_
    refine tc_geti iv0.1 fl_X12_142 dX12_leastLeft_8 ?_
    refine tc_icmp_ge 79 dX12_leastLeft_11 (by decide) (fun hc6 => ?_) (fun hc6 => ?_)
    · rw [if_pos hc6] at h
      refine tc_iload_n 3 rfl dX12_leastLeft_79 ?_
      cases h
      exact tc_ireturn rfl dX12_leastLeft_80 rfl rfl ⟨rfl, rfl, rfl⟩
    · rw [if_neg hc6] at h
      refine tc_aload_n 0 rfl dX12_leastLeft_14 ?_
      refine tc_getp hW iv0 fl_X12_48 dX12_leastLeft_15 rfl ?_
      refine tc_iload 4 rfl dX12_leastLeft_18 ?_
      obtain ⟨bx7, x7, ex7, h⟩ := tc_ld_ex h
      refine tc_zald (hW.p iv0 16 rfl).1 bx7 dX12_leastLeft_20 ?_
      refine tc_nm ex7 ?_
      refine tc_if_eq 73 dX12_leastLeft_21 (by decide) (fun hc8 => ?_) (fun hc8 => ?_)
      · rw [if_pos hc8] at h
        exact sb_X12_leastLeft_73 hW r ur _ ih v0 v1 v2 v3 v4 u iv0 h
      · rw [if_neg hc8] at h
        refine tc_iload_n 2 rfl dX12_leastLeft_24 ?_
        refine tc_if_lt 42 dX12_leastLeft_25 (by decide) (fun hc9 => ?_) (fun hc9 => ?_)
        · rw [if_pos hc9] at h
          exact sb_X12_leastLeft_42 hW r ur _ ih v0 v1 v2 v3 v4 u iv0 h
        · rw [if_neg hc9] at h
          refine tc_aload_n 0 rfl dX12_leastLeft_28 ?_
          refine tc_iload_n 1 rfl dX12_leastLeft_29 ?_
          refine tc_iload 4 rfl dX12_leastLeft_30 ?_
          refine tc_iload_n 2 rfl dX12_leastLeft_32 ?_
          obtain ⟨x10, u11, hq12, h⟩ := tc_b_ex h
          refine tc_callVi [.int v1, .int v4, .int v2] dX12_leastLeft_33 iv0.1 (ct_X12_meets hW iv0 hq12) ml_X12_191 mw_X12_meets mv_X12_meets ⟨Nat.le_of_ble_eq_true rfl, Nat.le_of_ble_eq_true rfl⟩ rfl rfl (Nat.le_of_ble_eq_true rfl) ⟨Nat.le_refl _, Nat.le_refl _⟩ (by decide) ?_
          refine tc_if_ne 42 dX12_leastLeft_36 (by decide) (fun hc13 => ?_) (fun hc13 => ?_)
          · rw [if_neg hc13] at h
            exact sb_X12_leastLeft_42 hW r ur _ ih v0 v1 v2 v3 v4 u11 iv0 h
          · rw [if_pos hc13] at h
            refine tc_goto 73 dX12_leastLeft_39 (by decide) ?_
            exact sb_X12_leastLeft_73 hW r ur _ ih v0 v1 v2 v3 v4 u11 iv0 h
set_option maxRecDepth 100000 in
set_option maxHeartbeats 4000000 in
theorem ct_X12_leastLeft {l : Launch} {z : Nat} {D : tc_D} {G : tc_G} (hW : tc_W G) {v0 : Nat} {v1 : Int32} {v2 : Int32} {u : tc_S} {r : Int32} {ur : tc_S} (iv0 : tc_is G v0 12) (h : fn_X12_leastLeft G v0 v1 v2 u = some (r, ur)) : tc_C l z D yX12_leastLeft cX12_leastLeft 5 (some .int) 2 47 0 0 [.ref (z + v0), .int v1, .int v2] G u (tc_po r G ur) := by
  unfold fn_X12_leastLeft at h
  refine tc_C.of (by decide) (Nat.le_of_ble_eq_true rfl) fun p e s m args below meth c => ?_
  show tc_R p l e { frames := 2, cells := 0, slots := 0, locals := 47 } s m args below meth c z D cX12_leastLeft RX12 5 (some .int) 0 0 (tc_po r G ur) 0 0 G u 0 [(0, .ref (z + v0)), (1, .int v1), (2, .int v2)] []
  refine tc_iconst (v := (-1)) (by decide) dX12_leastLeft_0 ?_
  refine tc_istore_n [(3, .int (-1)), (0, .ref (z + v0)), (1, .int v1), (2, .int v2)] dX12_leastLeft_1 (by decide) rfl ?_
  refine tc_iconst (v := 0) (by decide) dX12_leastLeft_2 ?_
  refine tc_istore [(4, .int 0), (3, .int (-1)), (0, .ref (z + v0)), (1, .int v1), (2, .int v2)] dX12_leastLeft_3 (by decide) rfl ?_
  refine tc_lvs [2, 3, 4, 1, 0] rfl ?_
  exact sl_X12_leastLeft_5 hW r ur  _ v0 v1 v2 (-1) 0 u iv0 h
set_option maxRecDepth 100000 in
set_option maxHeartbeats 4000000 in
theorem sl_X12_peelable_2 {p : Program} {l : Launch} {e : Env} {s : State} {m : MethodId} {args : Array Value} {below : List Frame} {meth : Method} {c : Code} {z : Nat} {D : tc_D} {G : tc_G} (hW : tc_W G) (r : Int32) (ur : tc_S) : ∀ (n : Nat) (v0 : Nat) (v1 : Int32) (v2 : Int32) (u : tc_S) (iv0 : tc_is G v0 12) (h : lo_X12_peelable_2 G n v0 v1 v2 u = some (r, ur)), tc_R p l e { frames := 3, cells := 0, slots := 0, locals := 71 } s m args below meth c z D cX12_peelable RX12 3 (some .int) 0 0 (tc_po r G ur) 0 0 G u 2 [(0, .ref (z + v0)), (1, .int v1), (2, .int v2)] [] := by
  intro n
  induction n with
  | zero => intro v0 v1 v2 u iv0 h; cases h
  | succ n ih =>
    intro v0 v1 v2 u iv0 h
    rw [lo_X12_peelable_2] at h
    refine tc_iload_n 2 rfl dX12_peelable_2 ?_
    refine tc_aload_n 0 rfl dX12_peelable_3 ?_
    refine tc_getp hW iv0 fl_X12_7 dX12_peelable_4 rfl ?_
    refine tc_iload_n 1 rfl dX12_peelable_7 ?_
    refine tc_iconst (v := 0) (by decide) dX12_peelable_8 ?_
    refine tc_iadd dX12_peelable_9 ?_
    obtain ⟨bx1, x1, ex1, h⟩ := tc_ld_ex h
    refine tc_iald (hW.p iv0 0 rfl).1 bx1 dX12_peelable_10 ?_
    refine tc_nm ex1 ?_
    refine tc_icmp_ge 43 dX12_peelable_11 (by decide) (fun hc2 => ?_) (fun hc2 => ?_)
    · rw [if_pos hc2] at h
      refine tc_iconst (v := (-1)) (by decide) dX12_peelable_43 ?_
      cases h
      exact tc_ireturn rfl dX12_peelable_44 rfl rfl ⟨rfl, rfl, rfl⟩
    · rw [if_neg hc2] at h
      refine tc_aload_n 0 rfl dX12_peelable_14 ?_
      refine tc_iload_n 1 rfl dX12_peelable_15 ?_
      refine tc_iload_n 2 rfl dX12_peelable_16 ?_
      obtain ⟨x3, u4, hq5, h⟩ := tc_b_ex h
      refine tc_callVi [.int v1, .int v2] dX12_peelable_17 iv0.1 (ct_X12_leftIn hW iv0 hq5) ml_X12_194 mw_X12_leftIn mv_X12_leftIn ⟨Nat.le_of_ble_eq_true rfl, Nat.le_of_ble_eq_true rfl⟩ rfl rfl (Nat.le_of_ble_eq_true rfl) ⟨Nat.le_refl _, Nat.le_refl _⟩ (by decide) ?_
      refine tc_iconst (v := 1) (by decide) dX12_peelable_20 ?_
      refine tc_aload_n 0 rfl dX12_peelable_21 ?_
      refine tc_getp hW iv0 fl_X12_7 dX12_peelable_22 rfl ?_
      refine tc_iload_n 1 rfl dX12_peelable_25 ?_
      refine tc_iconst (v := 1) (by decide) dX12_peelable_26 ?_
      refine tc_iadd dX12_peelable_27 ?_
      obtain ⟨bx6, x6, ex6, h⟩ := tc_ld_ex h
      refine tc_iald (hW.p iv0 0 rfl).1 bx6 dX12_peelable_28 ?_
      refine tc_nm ex6 ?_
      obtain ⟨x7, u8, hq9, h⟩ := tc_b_ex h
      refine tc_callSi [.int x3, .int 1, .int x6] dX12_peelable_29 (ct_X12_isIn hW hq9) ml_X12_79 mw_X12_isIn ms_X12_isIn ⟨Nat.le_of_ble_eq_true rfl, Nat.le_of_ble_eq_true rfl⟩ rfl rfl (Nat.le_of_ble_eq_true rfl) ⟨Nat.le_refl _, Nat.le_refl _⟩ ?_
      refine tc_if_eq 37 dX12_peelable_32 (by decide) (fun hc10 => ?_) (fun hc10 => ?_)
      · rw [if_pos hc10] at h
        obtain ⟨x11, ex11, h⟩ := tc_let_ex h
        refine tc_iinc 2 (v := x11) [(2, .int x11), (0, .ref (z + v0)), (1, .int v1)] dX12_peelable_37 rfl (by rw [ex11]; rfl) (by decide) rfl ?_
        refine tc_goto 2 dX12_peelable_40 (by decide) ?_
        refine tc_lvs [1, 2, 0] rfl ?_
        exact ih v0 v1 x11 u8 iv0 h
      · rw [if_neg hc10] at h
        refine tc_iload_n 2 rfl dX12_peelable_35 ?_
        cases h
        exact tc_ireturn rfl dX12_peelable_36 rfl rfl ⟨rfl, rfl, rfl⟩
set_option maxRecDepth 100000 in
set_option maxHeartbeats 4000000 in
theorem ct_X12_peelable {l : Launch} {z : Nat} {D : tc_D} {G : tc_G} (hW : tc_W G) {v0 : Nat} {v1 : Int32} {u : tc_S} {r : Int32} {ur : tc_S} (iv0 : tc_is G v0 12) (h : fn_X12_peelable G v0 v1 u = some (r, ur)) : tc_C l z D yX12_peelable cX12_peelable 3 (some .int) 3 71 0 0 [.ref (z + v0), .int v1] G u (tc_po r G ur) := by
  unfold fn_X12_peelable at h
  refine tc_C.of (by decide) (Nat.le_of_ble_eq_true rfl) fun p e s m args below meth c => ?_
  show tc_R p l e { frames := 3, cells := 0, slots := 0, locals := 71 } s m args below meth c z D cX12_peelable RX12 3 (some .int) 0 0 (tc_po r G ur) 0 0 G u 0 [(0, .ref (z + v0)), (1, .int v1)] []
  refine tc_iconst (v := 0) (by decide) dX12_peelable_0 ?_
  refine tc_istore_n [(2, .int 0), (0, .ref (z + v0)), (1, .int v1)] dX12_peelable_1 (by decide) rfl ?_
  refine tc_lvs [1, 2, 0] rfl ?_
  exact sl_X12_peelable_2 hW r ur  _ v0 v1 0 u iv0 h
set_option maxRecDepth 100000 in
set_option maxHeartbeats 4000000 in
theorem sl_X12_peelsAll_50 {p : Program} {l : Launch} {e : Env} {s : State} {m : MethodId} {args : Array Value} {below : List Frame} {meth : Method} {c : Code} {z : Nat} {D : tc_D} {G : tc_G} (hW : tc_W G) (r : Int32) (ur : tc_S) (K39 : Nat → Int32 → Int32 → tc_S → Option (Int32 × tc_S)) (hK39 : ∀ (v0 : Nat) (v1 : Int32) (v2 : Int32) (u : tc_S), tc_is G v0 12 → K39 v0 v1 v2 u = some (r, ur) → tc_R p l e { frames := 4, cells := 0, slots := 0, locals := 93 } s m args below meth c z D cX12_peelsAll RX12 4 none 0 0 (tc_pv G ur) 0 0 G u 39 [(0, .ref (z + v0)), (1, .int v1), (2, .int v2)] []) : ∀ (n : Nat) (v0 : Nat) (v1 : Int32) (v2 : Int32) (v3 : Int32) (u : tc_S) (iv0 : tc_is G v0 12) (h : lo_X12_peelsAll_50 G K39 n v0 v1 v2 v3 u = some (r, ur)), tc_R p l e { frames := 4, cells := 0, slots := 0, locals := 93 } s m args below meth c z D cX12_peelsAll RX12 4 none 0 0 (tc_pv G ur) 0 0 G u 50 [(0, .ref (z + v0)), (1, .int v1), (2, .int v2), (3, .int v3)] [] := by
  intro n
  induction n with
  | zero => intro v0 v1 v2 v3 u iv0 h; cases h
  | succ n ih =>
    intro v0 v1 v2 v3 u iv0 h
    rw [lo_X12_peelsAll_50] at h
    refine tc_iload_n 3 rfl dX12_peelsAll_50 ?_
    refine tc_if_lt 101 dX12_peelsAll_51 (by decide) (fun hc1 => ?_) (fun hc1 => ?_)
    · rw [if_pos hc1] at h
      refine tc_aload_n 0 rfl dX12_peelsAll_101 ?_
      refine tc_iload_n 1 rfl dX12_peelsAll_102 ?_
      obtain ⟨x2, u3, hq4, h⟩ := tc_b_ex h
      refine tc_callVi [.int v1] dX12_peelsAll_103 iv0.1 (ct_X12_peelable hW iv0 hq4) ml_X12_200 mw_X12_peelable mv_X12_peelable ⟨Nat.le_of_ble_eq_true rfl, Nat.le_of_ble_eq_true rfl⟩ rfl rfl (Nat.le_of_ble_eq_true rfl) ⟨Nat.le_refl _, Nat.le_refl _⟩ (by decide) ?_
      refine tc_istore_n [(2, .int x2), (0, .ref (z + v0)), (1, .int v1), (3, .int v3)] dX12_peelsAll_106 (by decide) rfl ?_
      refine tc_goto 39 dX12_peelsAll_107 (by decide) ?_
      refine tc_lvs [1, 2, 0] rfl ?_
      exact hK39 v0 v1 x2 u3 iv0 h
    · rw [if_neg hc1] at h
      refine tc_aload_n 0 rfl dX12_peelsAll_54 ?_
      refine tc_getp hW iv0 fl_X12_48 dX12_peelsAll_55 rfl ?_
      refine tc_iload_n 3 rfl dX12_peelsAll_58 ?_
      refine tc_iconst (v := 0) (by decide) dX12_peelsAll_59 ?_
      obtain ⟨hz6, h⟩ := tc_zo_ex h
      obtain ⟨bu5, u5, eu5, h⟩ := tc_sd_ex h
      refine tc_zast hz6 (hW.p iv0 16 rfl).1 bu5 dX12_peelsAll_60 ?_
      refine tc_nmu eu5 ?_
      refine tc_aload_n 0 rfl dX12_peelsAll_61 ?_
      refine tc_getp hW iv0 fl_X12_42 dX12_peelsAll_62 rfl ?_
      refine tc_aload_n 0 rfl dX12_peelsAll_65 ?_
      refine tc_geti iv0.1 fl_X12_197 dX12_peelsAll_66 ?_
      refine tc_iload_n 3 rfl dX12_peelsAll_69 ?_
      obtain ⟨bu7, u7, eu7, h⟩ := tc_sd_ex h
      refine tc_iast (hW.p iv0 14 rfl).1 bu7 dX12_peelsAll_70 ?_
      refine tc_nmu eu7 ?_
      refine tc_aload_n 0 rfl dX12_peelsAll_71 ?_
      refine tc_getp hW iv0 fl_X12_45 dX12_peelsAll_72 rfl ?_
      refine tc_aload_n 0 rfl dX12_peelsAll_75 ?_
      refine tc_geti iv0.1 fl_X12_197 dX12_peelsAll_76 ?_
      refine tc_iload_n 2 rfl dX12_peelsAll_79 ?_
      obtain ⟨bu8, u8, eu8, h⟩ := tc_sd_ex h
      refine tc_iast (hW.p iv0 15 rfl).1 bu8 dX12_peelsAll_80 ?_
      refine tc_nmu eu8 ?_
      refine tc_aload_n 0 rfl dX12_peelsAll_81 ?_
      refine tc_dup rfl dX12_peelsAll_82 ?_
      refine tc_geti iv0.1 fl_X12_197 dX12_peelsAll_83 ?_
      refine tc_iconst (v := 1) (by decide) dX12_peelsAll_86 ?_
      refine tc_iadd dX12_peelsAll_87 ?_
      obtain ⟨u9, eu9, h⟩ := tc_let_ex h
      refine tc_puti iv0.1 fl_X12_197 dX12_peelsAll_88 ?_
      refine tc_nmu eu9 ?_
      refine tc_aload_n 0 rfl dX12_peelsAll_91 ?_
      refine tc_iload_n 1 rfl dX12_peelsAll_92 ?_
      refine tc_iload_n 2 rfl dX12_peelsAll_93 ?_
      obtain ⟨x10, u11, hq12, h⟩ := tc_b_ex h
      refine tc_callVi [.int v1, .int v2] dX12_peelsAll_94 iv0.1 (ct_X12_leastLeft hW iv0 hq12) ml_X12_203 mw_X12_leastLeft mv_X12_leastLeft ⟨Nat.le_of_ble_eq_true rfl, Nat.le_of_ble_eq_true rfl⟩ rfl rfl (Nat.le_of_ble_eq_true rfl) ⟨Nat.le_refl _, Nat.le_refl _⟩ (by decide) ?_
      refine tc_istore_n [(3, .int x10), (0, .ref (z + v0)), (1, .int v1), (2, .int v2)] dX12_peelsAll_97 (by decide) rfl ?_
      refine tc_goto 50 dX12_peelsAll_98 (by decide) ?_
      refine tc_lvs [1, 2, 3, 0] rfl ?_
      exact ih v0 v1 v2 x10 u11 iv0 h
set_option maxRecDepth 100000 in
set_option maxHeartbeats 4000000 in
theorem sl_X12_peelsAll_39 {p : Program} {l : Launch} {e : Env} {s : State} {m : MethodId} {args : Array Value} {below : List Frame} {meth : Method} {c : Code} {z : Nat} {D : tc_D} {G : tc_G} (hW : tc_W G) (r : Int32) (ur : tc_S) : ∀ (n : Nat) (v0 : Nat) (v1 : Int32) (v2 : Int32) (u : tc_S) (iv0 : tc_is G v0 12) (h : lo_X12_peelsAll_39 G n v0 v1 v2 u = some (r, ur)), tc_R p l e { frames := 4, cells := 0, slots := 0, locals := 93 } s m args below meth c z D cX12_peelsAll RX12 4 none 0 0 (tc_pv G ur) 0 0 G u 39 [(0, .ref (z + v0)), (1, .int v1), (2, .int v2)] [] := by
  intro n
  induction n with
  | zero => intro v0 v1 v2 u iv0 h; cases h
  | succ n ih =>
    intro v0 v1 v2 u iv0 h
    rw [lo_X12_peelsAll_39] at h
    refine tc_iload_n 2 rfl dX12_peelsAll_39 ?_
    refine tc_if_lt 110 dX12_peelsAll_40 (by decide) (fun hc13 => ?_) (fun hc13 => ?_)
    · rw [if_pos hc13] at h
      cases h
      exact tc_return rfl dX12_peelsAll_110 rfl rfl ⟨rfl, rfl, rfl⟩
    · rw [if_neg hc13] at h
      refine tc_aload_n 0 rfl dX12_peelsAll_43 ?_
      refine tc_iload_n 1 rfl dX12_peelsAll_44 ?_
      refine tc_iload_n 2 rfl dX12_peelsAll_45 ?_
      obtain ⟨x14, u15, hq16, h⟩ := tc_b_ex h
      refine tc_callVi [.int v1, .int v2] dX12_peelsAll_46 iv0.1 (ct_X12_leastLeft hW iv0 hq16) ml_X12_203 mw_X12_leastLeft mv_X12_leastLeft ⟨Nat.le_of_ble_eq_true rfl, Nat.le_of_ble_eq_true rfl⟩ rfl rfl (Nat.le_of_ble_eq_true rfl) ⟨Nat.le_refl _, Nat.le_refl _⟩ (by decide) ?_
      refine tc_istore_n [(3, .int x14), (0, .ref (z + v0)), (1, .int v1), (2, .int v2)] dX12_peelsAll_49 (by decide) rfl ?_
      refine tc_lvs [1, 2, 3, 0] rfl ?_
      exact sl_X12_peelsAll_50 hW r ur _ ih _ v0 v1 v2 x14 u15 iv0 h
set_option maxRecDepth 100000 in
set_option maxHeartbeats 4000000 in
theorem sl_X12_peelsAll_12 {p : Program} {l : Launch} {e : Env} {s : State} {m : MethodId} {args : Array Value} {below : List Frame} {meth : Method} {c : Code} {z : Nat} {D : tc_D} {G : tc_G} (hW : tc_W G) (r : Int32) (ur : tc_S) : ∀ (n : Nat) (v0 : Nat) (v1 : Int32) (v2 : Int32) (u : tc_S) (iv0 : tc_is G v0 12) (h : lo_X12_peelsAll_12 G n v0 v1 v2 u = some (r, ur)), tc_R p l e { frames := 4, cells := 0, slots := 0, locals := 93 } s m args below meth c z D cX12_peelsAll RX12 4 none 0 0 (tc_pv G ur) 0 0 G u 12 [(0, .ref (z + v0)), (1, .int v1), (2, .int v2)] [] := by
  intro n
  induction n with
  | zero => intro v0 v1 v2 u iv0 h; cases h
  | succ n ih =>
    intro v0 v1 v2 u iv0 h
    rw [lo_X12_peelsAll_12] at h
    refine tc_iload_n 2 rfl dX12_peelsAll_12 ?_
    refine tc_aload_n 0 rfl dX12_peelsAll_13 ?_
    refine tc_geti iv0.1 fl_X12_142 dX12_peelsAll_14 ?_
    refine tc_icmp_ge 33 dX12_peelsAll_17 (by decide) (fun hc17 => ?_) (fun hc17 => ?_)
    · rw [if_pos hc17] at h
      refine tc_aload_n 0 rfl dX12_peelsAll_33 ?_
      refine tc_iload_n 1 rfl dX12_peelsAll_34 ?_
      obtain ⟨x18, u19, hq20, h⟩ := tc_b_ex h
      refine tc_callVi [.int v1] dX12_peelsAll_35 iv0.1 (ct_X12_peelable hW iv0 hq20) ml_X12_200 mw_X12_peelable mv_X12_peelable ⟨Nat.le_of_ble_eq_true rfl, Nat.le_of_ble_eq_true rfl⟩ rfl rfl (Nat.le_of_ble_eq_true rfl) ⟨Nat.le_refl _, Nat.le_refl _⟩ (by decide) ?_
      refine tc_istore_n [(2, .int x18), (0, .ref (z + v0)), (1, .int v1)] dX12_peelsAll_38 (by decide) rfl ?_
      refine tc_lvs [1, 2, 0] rfl ?_
      exact sl_X12_peelsAll_39 hW r ur  _ v0 v1 x18 u19 iv0 h
    · rw [if_neg hc17] at h
      refine tc_aload_n 0 rfl dX12_peelsAll_20 ?_
      refine tc_getp hW iv0 fl_X12_48 dX12_peelsAll_21 rfl ?_
      refine tc_iload_n 2 rfl dX12_peelsAll_24 ?_
      refine tc_iconst (v := 1) (by decide) dX12_peelsAll_25 ?_
      obtain ⟨hz22, h⟩ := tc_zo_ex h
      obtain ⟨bu21, u21, eu21, h⟩ := tc_sd_ex h
      refine tc_zast hz22 (hW.p iv0 16 rfl).1 bu21 dX12_peelsAll_26 ?_
      refine tc_nmu eu21 ?_
      obtain ⟨x23, ex23, h⟩ := tc_let_ex h
      refine tc_iinc 2 (v := x23) [(2, .int x23), (0, .ref (z + v0)), (1, .int v1)] dX12_peelsAll_27 rfl (by rw [ex23]; rfl) (by decide) rfl ?_
      refine tc_goto 12 dX12_peelsAll_30 (by decide) ?_
      refine tc_lvs [1, 2, 0] rfl ?_
      exact ih v0 v1 x23 u21 iv0 h
set_option maxRecDepth 100000 in
set_option maxHeartbeats 4000000 in
theorem ct_X12_peelsAll {l : Launch} {z : Nat} {D : tc_D} {G : tc_G} (hW : tc_W G) {v0 : Nat} {v1 : Int32} {u : tc_S} {r : Int32} {ur : tc_S} (iv0 : tc_is G v0 12) (h : fn_X12_peelsAll G v0 v1 u = some (r, ur)) : tc_C l z D yX12_peelsAll cX12_peelsAll 4 none 4 93 0 0 [.ref (z + v0), .int v1] G u (tc_pv G ur) := by
  unfold fn_X12_peelsAll at h
  refine tc_C.of (by decide) (Nat.le_of_ble_eq_true rfl) fun p e s m args below meth c => ?_
  show tc_R p l e { frames := 4, cells := 0, slots := 0, locals := 93 } s m args below meth c z D cX12_peelsAll RX12 4 none 0 0 (tc_pv G ur) 0 0 G u 0 [(0, .ref (z + v0)), (1, .int v1)] []
  refine tc_aload_n 0 rfl dX12_peelsAll_0 ?_
  refine tc_iload_n 1 rfl dX12_peelsAll_1 ?_
  obtain ⟨x24, u25, hq26, h⟩ := tc_b_ex h
  refine tc_callVv [.int v1] dX12_peelsAll_2 iv0.1 (ct_X12_lists hW iv0 hq26) ml_X12_152 mw_X12_lists mv_X12_lists ⟨Nat.le_of_ble_eq_true rfl, Nat.le_of_ble_eq_true rfl⟩ rfl rfl (Nat.le_of_ble_eq_true rfl) ⟨Nat.le_refl _, Nat.le_refl _⟩ (by decide) ?_
  refine tc_aload_n 0 rfl dX12_peelsAll_5 ?_
  refine tc_iconst (v := 0) (by decide) dX12_peelsAll_6 ?_
  obtain ⟨u27, eu27, h⟩ := tc_let_ex h
  refine tc_puti iv0.1 fl_X12_197 dX12_peelsAll_7 ?_
  refine tc_nmu eu27 ?_
  refine tc_iconst (v := 0) (by decide) dX12_peelsAll_10 ?_
  refine tc_istore_n [(2, .int 0), (0, .ref (z + v0)), (1, .int v1)] dX12_peelsAll_11 (by decide) rfl ?_
  refine tc_lvs [1, 2, 0] rfl ?_
  exact sl_X12_peelsAll_12 hW r ur  _ v0 v1 0 u27 iv0 h
set_option maxRecDepth 100000 in
set_option maxHeartbeats 4000000 in
theorem sl_X12_batch_107 {p : Program} {l : Launch} {e : Env} {s : State} {m : MethodId} {args : Array Value} {below : List Frame} {meth : Method} {c : Code} {z : Nat} {D : tc_D} {G : tc_G} (hW : tc_W G) (r : Int32) (ur : tc_S) : ∀ (n : Nat) (v0 : Nat) (v1 : Int32) (u : tc_S) (iv0 : tc_is G v0 12) (h : lo_X12_batch_107 G n v0 v1 u = some (r, ur)), tc_R p l e { frames := 5, cells := 0, slots := 0, locals := 131 } s m args below meth c z D cX12_batch RX12 3 (some .boolean) 0 0 (tc_po r G ur) 0 0 G u 107 [(0, .ref (z + v0)), (1, .int v1)] [] := by
  intro n
  induction n with
  | zero => intro v0 v1 u iv0 h; cases h
  | succ n ih =>
    intro v0 v1 u iv0 h
    rw [lo_X12_batch_107] at h
    refine tc_iload_n 1 rfl dX12_batch_107 ?_
    refine tc_if_lt 189 dX12_batch_108 (by decide) (fun hc1 => ?_) (fun hc1 => ?_)
    · rw [if_pos hc1] at h
      refine tc_iconst (v := 1) (by decide) dX12_batch_189 ?_
      obtain ⟨hz2, h⟩ := tc_zo_ex h
      cases h
      exact tc_zreturn hz2 rfl dX12_batch_190 rfl rfl ⟨rfl, rfl, rfl⟩
    · rw [if_neg hc1] at h
      refine tc_aload_n 0 rfl dX12_batch_111 ?_
      refine tc_getp hW iv0 fl_X12_48 dX12_batch_112 rfl ?_
      refine tc_iload_n 1 rfl dX12_batch_115 ?_
      refine tc_iconst (v := 0) (by decide) dX12_batch_116 ?_
      obtain ⟨hz4, h⟩ := tc_zo_ex h
      obtain ⟨bu3, u3, eu3, h⟩ := tc_sd_ex h
      refine tc_zast hz4 (hW.p iv0 16 rfl).1 bu3 dX12_batch_117 ?_
      refine tc_nmu eu3 ?_
      refine tc_aload_n 0 rfl dX12_batch_118 ?_
      refine tc_iconst (v := 0) (by decide) dX12_batch_119 ?_
      refine tc_aload_n 0 rfl dX12_batch_120 ?_
      refine tc_getp hW iv0 fl_X12_39 dX12_batch_121 rfl ?_
      refine tc_iconst (v := 4) (by decide) dX12_batch_124 ?_
      refine tc_iload_n 1 rfl dX12_batch_125 ?_
      refine tc_imul dX12_batch_126 ?_
      obtain ⟨bx5, x5, ex5, h⟩ := tc_ld_ex h
      refine tc_iald (hW.p iv0 11 rfl).1 bx5 dX12_batch_127 ?_
      refine tc_nm ex5 ?_
      refine tc_iconst (v := 1) (by decide) dX12_batch_128 ?_
      refine tc_isub dX12_batch_129 ?_
      refine tc_aload_n 0 rfl dX12_batch_130 ?_
      refine tc_getp hW iv0 fl_X12_39 dX12_batch_131 rfl ?_
      refine tc_iconst (v := 4) (by decide) dX12_batch_134 ?_
      refine tc_iload_n 1 rfl dX12_batch_135 ?_
      refine tc_imul dX12_batch_136 ?_
      refine tc_iconst (v := 1) (by decide) dX12_batch_137 ?_
      refine tc_iadd dX12_batch_138 ?_
      obtain ⟨bx6, x6, ex6, h⟩ := tc_ld_ex h
      refine tc_iald (hW.p iv0 11 rfl).1 bx6 dX12_batch_139 ?_
      refine tc_nm ex6 ?_
      refine tc_aload_n 0 rfl dX12_batch_140 ?_
      refine tc_getp hW iv0 fl_X12_39 dX12_batch_141 rfl ?_
      refine tc_iconst (v := 4) (by decide) dX12_batch_144 ?_
      refine tc_iload_n 1 rfl dX12_batch_145 ?_
      refine tc_imul dX12_batch_146 ?_
      refine tc_iconst (v := 2) (by decide) dX12_batch_147 ?_
      refine tc_iadd dX12_batch_148 ?_
      obtain ⟨bx7, x7, ex7, h⟩ := tc_ld_ex h
      refine tc_iald (hW.p iv0 11 rfl).1 bx7 dX12_batch_149 ?_
      refine tc_nm ex7 ?_
      refine tc_aload_n 0 rfl dX12_batch_150 ?_
      refine tc_getp hW iv0 fl_X12_39 dX12_batch_151 rfl ?_
      refine tc_iconst (v := 4) (by decide) dX12_batch_154 ?_
      refine tc_iload_n 1 rfl dX12_batch_155 ?_
      refine tc_imul dX12_batch_156 ?_
      refine tc_iconst (v := 3) (by decide) dX12_batch_157 ?_
      refine tc_iadd dX12_batch_158 ?_
      obtain ⟨bx8, x8, ex8, h⟩ := tc_ld_ex h
      refine tc_iald (hW.p iv0 11 rfl).1 bx8 dX12_batch_159 ?_
      refine tc_nm ex8 ?_
      obtain ⟨x9, u10, hq11, h⟩ := tc_b_ex h
      refine tc_callVi [.int 0, .int (x5 - 1), .int x6, .int x7, .int x8] dX12_batch_160 iv0.1 (ct_X12_comesIn hW iv0 hq11) ml_X12_148 mw_X12_comesIn mv_X12_comesIn ⟨Nat.le_of_ble_eq_true rfl, Nat.le_of_ble_eq_true rfl⟩ rfl rfl (Nat.le_of_ble_eq_true rfl) ⟨Nat.le_refl _, Nat.le_refl _⟩ (by decide) ?_
      refine tc_if_le 169 dX12_batch_163 (by decide) (fun hc12 => ?_) (fun hc12 => ?_)
      · rw [if_pos hc12] at h
        refine tc_aload_n 0 rfl dX12_batch_169 ?_
        refine tc_sipush (v := 584) (by decide) dX12_batch_170 ?_
        refine tc_iconst (v := 0) (by decide) dX12_batch_173 ?_
        obtain ⟨x13, u14, hq15, h⟩ := tc_b_ex h
        refine tc_callVv [.int 584, .int 0] dX12_batch_174 iv0.1 (ct_X12_comesBack hW iv0 hq15) ml_X12_122 mw_X12_comesBack mv_X12_comesBack ⟨Nat.le_of_ble_eq_true rfl, Nat.le_of_ble_eq_true rfl⟩ rfl rfl (Nat.le_of_ble_eq_true rfl) ⟨Nat.le_refl _, Nat.le_refl _⟩ (by decide) ?_
        refine tc_iconst (v := 0) (by decide) dX12_batch_177 ?_
        obtain ⟨hz16, h⟩ := tc_zo_ex h
        cases h
        exact tc_zreturn hz16 rfl dX12_batch_178 rfl rfl ⟨rfl, rfl, rfl⟩
      · rw [if_neg hc12] at h
        refine tc_goto 179 dX12_batch_166 (by decide) ?_
        refine tc_aload_n 0 rfl dX12_batch_179 ?_
        refine tc_iconst (v := 0) (by decide) dX12_batch_180 ?_
        refine tc_iconst (v := (-1)) (by decide) dX12_batch_181 ?_
        obtain ⟨x17, u18, hq19, h⟩ := tc_b_ex h
        refine tc_callVi [.int 0, .int (-1)] dX12_batch_182 iv0.1 (ct_X12_leastLeft hW iv0 hq19) ml_X12_203 mw_X12_leastLeft mv_X12_leastLeft ⟨Nat.le_of_ble_eq_true rfl, Nat.le_of_ble_eq_true rfl⟩ rfl rfl (Nat.le_of_ble_eq_true rfl) ⟨Nat.le_refl _, Nat.le_refl _⟩ (by decide) ?_
        refine tc_istore_n [(1, .int x17), (0, .ref (z + v0))] dX12_batch_185 (by decide) rfl ?_
        refine tc_goto 107 dX12_batch_186 (by decide) ?_
        refine tc_lvs [1, 0] rfl ?_
        exact ih v0 x17 u18 iv0 h
set_option maxRecDepth 100000 in
set_option maxHeartbeats 4000000 in
theorem sl_X12_batch_20 {p : Program} {l : Launch} {e : Env} {s : State} {m : MethodId} {args : Array Value} {below : List Frame} {meth : Method} {c : Code} {z : Nat} {D : tc_D} {G : tc_G} (hW : tc_W G) (r : Int32) (ur : tc_S) : ∀ (n : Nat) (v0 : Nat) (v1 : Int32) (u : tc_S) (iv0 : tc_is G v0 12) (h : lo_X12_batch_20 G n v0 v1 u = some (r, ur)), tc_R p l e { frames := 5, cells := 0, slots := 0, locals := 131 } s m args below meth c z D cX12_batch RX12 3 (some .boolean) 0 0 (tc_po r G ur) 0 0 G u 20 [(0, .ref (z + v0)), (1, .int v1)] [] := by
  intro n
  induction n with
  | zero => intro v0 v1 u iv0 h; cases h
  | succ n ih =>
    intro v0 v1 u iv0 h
    rw [lo_X12_batch_20] at h
    refine tc_iload_n 1 rfl dX12_batch_20 ?_
    refine tc_aload_n 0 rfl dX12_batch_21 ?_
    refine tc_geti iv0.1 fl_X12_197 dX12_batch_22 ?_
    refine tc_icmp_ge 100 dX12_batch_25 (by decide) (fun hc20 => ?_) (fun hc20 => ?_)
    · rw [if_pos hc20] at h
      refine tc_aload_n 0 rfl dX12_batch_100 ?_
      refine tc_iconst (v := 0) (by decide) dX12_batch_101 ?_
      refine tc_iconst (v := (-1)) (by decide) dX12_batch_102 ?_
      obtain ⟨x21, u22, hq23, h⟩ := tc_b_ex h
      refine tc_callVi [.int 0, .int (-1)] dX12_batch_103 iv0.1 (ct_X12_leastLeft hW iv0 hq23) ml_X12_203 mw_X12_leastLeft mv_X12_leastLeft ⟨Nat.le_of_ble_eq_true rfl, Nat.le_of_ble_eq_true rfl⟩ rfl rfl (Nat.le_of_ble_eq_true rfl) ⟨Nat.le_refl _, Nat.le_refl _⟩ (by decide) ?_
      refine tc_istore_n [(1, .int x21), (0, .ref (z + v0))] dX12_batch_106 (by decide) rfl ?_
      refine tc_lvs [1, 0] rfl ?_
      exact sl_X12_batch_107 hW r ur  _ v0 x21 u22 iv0 h
    · rw [if_neg hc20] at h
      refine tc_iconst (v := 4) (by decide) dX12_batch_28 ?_
      refine tc_aload_n 0 rfl dX12_batch_29 ?_
      refine tc_getp hW iv0 fl_X12_42 dX12_batch_30 rfl ?_
      refine tc_iload_n 1 rfl dX12_batch_33 ?_
      obtain ⟨bx24, x24, ex24, h⟩ := tc_ld_ex h
      refine tc_iald (hW.p iv0 14 rfl).1 bx24 dX12_batch_34 ?_
      refine tc_nm ex24 ?_
      refine tc_imul dX12_batch_35 ?_
      obtain ⟨x25, ex25, h⟩ := tc_let_ex h
      refine tc_nm ex25 ?_
      refine tc_istore_n [(2, .int x25), (0, .ref (z + v0)), (1, .int v1)] dX12_batch_36 (by decide) rfl ?_
      refine tc_aload_n 1 rfl dX12_batch_37 ?_
      refine tc_iconst (v := 0) (by decide) dX12_batch_38 ?_
      refine tc_aload_n 1 rfl dX12_batch_39 ?_
      refine tc_getp hW iv0 fl_X12_45 dX12_batch_40 rfl ?_
      refine tc_iload_n 2 rfl dX12_batch_43 ?_
      obtain ⟨bx26, x26, ex26, h⟩ := tc_ld_ex h
      refine tc_iald (hW.p iv0 15 rfl).1 bx26 dX12_batch_44 ?_
      refine tc_nm ex26 ?_
      refine tc_aload_n 1 rfl dX12_batch_45 ?_
      refine tc_iconst (v := 0) (by decide) dX12_batch_46 ?_
      refine tc_aload_n 1 rfl dX12_batch_47 ?_
      refine tc_getp hW iv0 fl_X12_45 dX12_batch_48 rfl ?_
      refine tc_iload_n 2 rfl dX12_batch_51 ?_
      obtain ⟨bx27, x27, ex27, h⟩ := tc_ld_ex h
      refine tc_iald (hW.p iv0 15 rfl).1 bx27 dX12_batch_52 ?_
      refine tc_nm ex27 ?_
      obtain ⟨x28, u29, hq30, h⟩ := tc_b_ex h
      refine tc_callVi [.int 0, .int x27] dX12_batch_53 iv0.1 (ct_X12_emptyIn hW iv0 hq30) ml_X12_99 mw_X12_emptyIn mv_X12_emptyIn ⟨Nat.le_of_ble_eq_true rfl, Nat.le_of_ble_eq_true rfl⟩ rfl rfl (Nat.le_of_ble_eq_true rfl) ⟨Nat.le_refl _, Nat.le_refl _⟩ (by decide) ?_
      obtain ⟨x31, u32, hq33, h⟩ := tc_b_ex h
      refine tc_callSi [.int 0, .int x26, .int x28] dX12_batch_56 (ct_X12_cell hW hq33) ml_X12_92 mw_X12_cell ms_X12_cell ⟨Nat.le_of_ble_eq_true rfl, Nat.le_of_ble_eq_true rfl⟩ rfl rfl (Nat.le_of_ble_eq_true rfl) ⟨Nat.le_refl _, Nat.le_refl _⟩ ?_
      refine tc_aload_n 1 rfl dX12_batch_59 ?_
      refine tc_getp hW iv0 fl_X12_39 dX12_batch_60 rfl ?_
      refine tc_iload_n 0 rfl dX12_batch_63 ?_
      obtain ⟨bx34, x34, ex34, h⟩ := tc_ld_ex h
      refine tc_iald (hW.p iv0 11 rfl).1 bx34 dX12_batch_64 ?_
      refine tc_nm ex34 ?_
      refine tc_iconst (v := 1) (by decide) dX12_batch_65 ?_
      refine tc_isub dX12_batch_66 ?_
      refine tc_aload_n 1 rfl dX12_batch_67 ?_
      refine tc_getp hW iv0 fl_X12_39 dX12_batch_68 rfl ?_
      refine tc_iload_n 0 rfl dX12_batch_71 ?_
      refine tc_iconst (v := 1) (by decide) dX12_batch_72 ?_
      refine tc_iadd dX12_batch_73 ?_
      obtain ⟨bx35, x35, ex35, h⟩ := tc_ld_ex h
      refine tc_iald (hW.p iv0 11 rfl).1 bx35 dX12_batch_74 ?_
      refine tc_nm ex35 ?_
      refine tc_aload_n 1 rfl dX12_batch_75 ?_
      refine tc_getp hW iv0 fl_X12_39 dX12_batch_76 rfl ?_
      refine tc_iload_n 0 rfl dX12_batch_79 ?_
      refine tc_iconst (v := 2) (by decide) dX12_batch_80 ?_
      refine tc_iadd dX12_batch_81 ?_
      obtain ⟨bx36, x36, ex36, h⟩ := tc_ld_ex h
      refine tc_iald (hW.p iv0 11 rfl).1 bx36 dX12_batch_82 ?_
      refine tc_nm ex36 ?_
      refine tc_aload_n 1 rfl dX12_batch_83 ?_
      refine tc_getp hW iv0 fl_X12_39 dX12_batch_84 rfl ?_
      refine tc_iload_n 0 rfl dX12_batch_87 ?_
      refine tc_iconst (v := 3) (by decide) dX12_batch_88 ?_
      refine tc_iadd dX12_batch_89 ?_
      obtain ⟨bx37, x37, ex37, h⟩ := tc_ld_ex h
      refine tc_iald (hW.p iv0 11 rfl).1 bx37 dX12_batch_90 ?_
      refine tc_nm ex37 ?_
      obtain ⟨x38, u39, hq40, h⟩ := tc_b_ex h
      refine tc_callVv [.int x31, .int (x34 - 1), .int x35, .int x36, .int x37] dX12_batch_91 iv0.1 (ct_X12_lays hW iv0 hq40) ml_X12_128 mw_X12_lays mv_X12_lays ⟨Nat.le_of_ble_eq_true rfl, Nat.le_of_ble_eq_true rfl⟩ rfl rfl (Nat.le_of_ble_eq_true rfl) ⟨Nat.le_refl _, Nat.le_refl _⟩ (by decide) ?_
      obtain ⟨x41, ex41, h⟩ := tc_let_ex h
      refine tc_iinc 2 (v := x41) [(1, .int x41), (2, .int x25), (0, .ref (z + v0))] dX12_batch_94 rfl (by rw [ex41]; rfl) (by decide) rfl ?_
      refine tc_goto 20 dX12_batch_97 (by decide) ?_
      refine tc_lvs [2, 0] rfl ?_
      exact ih v0 x41 u39 iv0 h
set_option maxRecDepth 100000 in
set_option maxHeartbeats 4000000 in
theorem ct_X12_batch {l : Launch} {z : Nat} {D : tc_D} {G : tc_G} (hW : tc_W G) {v0 : Nat} {u : tc_S} {r : Int32} {ur : tc_S} (iv0 : tc_is G v0 12) (h : fn_X12_batch G v0 u = some (r, ur)) : tc_C l z D yX12_batch cX12_batch 3 (some .boolean) 5 131 0 0 [.ref (z + v0)] G u (tc_po r G ur) := by
  unfold fn_X12_batch at h
  refine tc_C.of (by decide) (Nat.le_of_ble_eq_true rfl) fun p e s m args below meth c => ?_
  show tc_R p l e { frames := 5, cells := 0, slots := 0, locals := 131 } s m args below meth c z D cX12_batch RX12 3 (some .boolean) 0 0 (tc_po r G ur) 0 0 G u 0 [(0, .ref (z + v0))] []
  refine tc_aload_n 0 rfl dX12_batch_0 ?_
  refine tc_iconst (v := 0) (by decide) dX12_batch_1 ?_
  refine tc_sipush (v := 584) (by decide) dX12_batch_2 ?_
  obtain ⟨x42, u43, hq44, h⟩ := tc_b_ex h
  refine tc_callVv [.int 0, .int 584] dX12_batch_5 iv0.1 (ct_X12_copies hW iv0 hq44) ml_X12_83 mw_X12_copies mv_X12_copies ⟨Nat.le_of_ble_eq_true rfl, Nat.le_of_ble_eq_true rfl⟩ rfl rfl (Nat.le_of_ble_eq_true rfl) ⟨Nat.le_refl _, Nat.le_refl _⟩ (by decide) ?_
  refine tc_aload_n 0 rfl dX12_batch_8 ?_
  refine tc_iconst (v := 0) (by decide) dX12_batch_9 ?_
  obtain ⟨x45, u46, hq47, h⟩ := tc_b_ex h
  refine tc_callVv [.int 0] dX12_batch_10 iv0.1 (ct_X12_peelsAll hW iv0 hq47) ml_X12_206 mw_X12_peelsAll mv_X12_peelsAll ⟨Nat.le_of_ble_eq_true rfl, Nat.le_of_ble_eq_true rfl⟩ rfl rfl (Nat.le_of_ble_eq_true rfl) ⟨Nat.le_refl _, Nat.le_refl _⟩ (by decide) ?_
  refine tc_aload_n 0 rfl dX12_batch_13 ?_
  refine tc_iconst (v := 0) (by decide) dX12_batch_14 ?_
  obtain ⟨x48, u49, hq50, h⟩ := tc_b_ex h
  refine tc_callVv [.int 0] dX12_batch_15 iv0.1 (ct_X12_empties hW iv0 hq50) ml_X12_159 mw_X12_empties mv_X12_empties ⟨Nat.le_of_ble_eq_true rfl, Nat.le_of_ble_eq_true rfl⟩ rfl rfl (Nat.le_of_ble_eq_true rfl) ⟨Nat.le_refl _, Nat.le_refl _⟩ (by decide) ?_
  refine tc_iconst (v := 0) (by decide) dX12_batch_18 ?_
  refine tc_istore_n [(1, .int 0), (0, .ref (z + v0))] dX12_batch_19 (by decide) rfl ?_
  refine tc_lvs [1, 0] rfl ?_
  exact sl_X12_batch_20 hW r ur  _ v0 0 u49 iv0 h
set_option maxRecDepth 100000 in
set_option maxHeartbeats 4000000 in
theorem sb_X12_peel_47 {p : Program} {l : Launch} {e : Env} {s : State} {m : MethodId} {args : Array Value} {below : List Frame} {meth : Method} {c : Code} {z : Nat} {D : tc_D} {G : tc_G} (hW : tc_W G) (r : Int32) (ur : tc_S) (u : tc_S) (h : bl_X12_peel_47 G  u = some (r, ur)) : tc_R p l e { frames := 5, cells := 0, slots := 0, locals := 116 } s m args below meth c z D cX12_peel RX12 3 (some .int) 0 0 (tc_po r G ur) 0 0 G u 47 [] [] := by
  unfold bl_X12_peel_47 at h
  refine tc_bipush (v := (-2)) (by decide) dX12_peel_47 ?_
  cases h
  exact tc_ireturn rfl dX12_peel_49 rfl rfl ⟨rfl, rfl, rfl⟩
set_option maxRecDepth 100000 in
set_option maxHeartbeats 4000000 in
theorem sb_X12_peel_78 {p : Program} {l : Launch} {e : Env} {s : State} {m : MethodId} {args : Array Value} {below : List Frame} {meth : Method} {c : Code} {z : Nat} {D : tc_D} {G : tc_G} (hW : tc_W G) (r : Int32) (ur : tc_S) (s0 : Int32) (u : tc_S) (h : bl_X12_peel_78 G s0 u = some (r, ur)) : tc_R p l e { frames := 5, cells := 0, slots := 0, locals := 116 } s m args below meth c z D cX12_peel RX12 3 (some .int) 0 0 (tc_po r G ur) 0 0 G u 78 [] [.int s0] := by
  unfold bl_X12_peel_78 at h
  cases h
  exact tc_ireturn rfl dX12_peel_78 rfl rfl ⟨rfl, rfl, rfl⟩
set_option maxRecDepth 100000 in
set_option maxHeartbeats 4000000 in
theorem sb_X12_peel_23 {p : Program} {l : Launch} {e : Env} {s : State} {m : MethodId} {args : Array Value} {below : List Frame} {meth : Method} {c : Code} {z : Nat} {D : tc_D} {G : tc_G} (hW : tc_W G) (r : Int32) (ur : tc_S) (s0 : Int32) (u : tc_S) (h : bl_X12_peel_23 G s0 u = some (r, ur)) : tc_R p l e { frames := 5, cells := 0, slots := 0, locals := 116 } s m args below meth c z D cX12_peel RX12 3 (some .int) 0 0 (tc_po r G ur) 0 0 G u 23 [] [.int s0] := by
  unfold bl_X12_peel_23 at h
  cases h
  exact tc_ireturn rfl dX12_peel_23 rfl rfl ⟨rfl, rfl, rfl⟩
set_option maxRecDepth 100000 in
set_option maxHeartbeats 4000000 in
theorem ct_X12_peel {l : Launch} {z : Nat} {D : tc_D} {G : tc_G} (hW : tc_W G) {v0 : Nat} {v1 : Int32} {v2 : Int32} {u : tc_S} {r : Int32} {ur : tc_S} (iv0 : tc_is G v0 12) (h : fn_X12_peel G v0 v1 v2 u = some (r, ur)) : tc_C l z D yX12_peel cX12_peel 3 (some .int) 5 116 0 0 [.ref (z + v0), .int v1, .int v2] G u (tc_po r G ur) := by
  unfold fn_X12_peel at h
  refine tc_C.of (by decide) (Nat.le_of_ble_eq_true rfl) fun p e s m args below meth c => ?_
  show tc_R p l e { frames := 5, cells := 0, slots := 0, locals := 116 } s m args below meth c z D cX12_peel RX12 3 (some .int) 0 0 (tc_po r G ur) 0 0 G u 0 [(0, .ref (z + v0)), (1, .int v1), (2, .int v2)] []
  refine tc_aload_n 0 rfl dX12_peel_0 ?_
  refine tc_iconst (v := 0) (by decide) dX12_peel_1 ?_
  obtain ⟨x1, u2, hq3, h⟩ := tc_b_ex h
  refine tc_callVv [.int 0] dX12_peel_2 iv0.1 (ct_X12_peelsAll hW iv0 hq3) ml_X12_206 mw_X12_peelsAll mv_X12_peelsAll ⟨Nat.le_of_ble_eq_true rfl, Nat.le_of_ble_eq_true rfl⟩ rfl rfl (Nat.le_of_ble_eq_true rfl) ⟨Nat.le_refl _, Nat.le_refl _⟩ (by decide) ?_
  refine tc_iload_n 1 rfl dX12_peel_5 ?_
  refine tc_iconst (v := (-1)) (by decide) dX12_peel_6 ?_
  refine tc_icmp_ne 24 dX12_peel_7 (by decide) (fun hc4 => ?_) (fun hc4 => ?_)
  · rw [if_neg hc4] at h
    refine tc_iload_n 1 rfl dX12_peel_24 ?_
    refine tc_iconst (v := 0) (by decide) dX12_peel_25 ?_
    refine tc_aload_n 0 rfl dX12_peel_26 ?_
    refine tc_geti iv0.1 fl_X12_197 dX12_peel_27 ?_
    refine tc_iconst (v := 1) (by decide) dX12_peel_30 ?_
    refine tc_isub dX12_peel_31 ?_
    obtain ⟨x5, u6, hq7, h⟩ := tc_b_ex h
    refine tc_callSi [.int v1, .int 0, .int ((u2.1 v0 17) - 1)] dX12_peel_32 (ct_X12_isIn hW hq7) ml_X12_79 mw_X12_isIn ms_X12_isIn ⟨Nat.le_of_ble_eq_true rfl, Nat.le_of_ble_eq_true rfl⟩ rfl rfl (Nat.le_of_ble_eq_true rfl) ⟨Nat.le_refl _, Nat.le_refl _⟩ ?_
    refine tc_if_eq 47 dX12_peel_35 (by decide) (fun hc8 => ?_) (fun hc8 => ?_)
    · rw [if_pos hc8] at h
      refine tc_lvs [] rfl ?_
      exact sb_X12_peel_47 hW r ur   u6  h
    · rw [if_neg hc8] at h
      refine tc_iload_n 2 rfl dX12_peel_38 ?_
      refine tc_iconst (v := 0) (by decide) dX12_peel_39 ?_
      refine tc_iconst (v := 1) (by decide) dX12_peel_40 ?_
      obtain ⟨x9, u10, hq11, h⟩ := tc_b_ex h
      refine tc_callSi [.int v2, .int 0, .int 1] dX12_peel_41 (ct_X12_isIn hW hq11) ml_X12_79 mw_X12_isIn ms_X12_isIn ⟨Nat.le_of_ble_eq_true rfl, Nat.le_of_ble_eq_true rfl⟩ rfl rfl (Nat.le_of_ble_eq_true rfl) ⟨Nat.le_refl _, Nat.le_refl _⟩ ?_
      refine tc_if_ne 50 dX12_peel_44 (by decide) (fun hc12 => ?_) (fun hc12 => ?_)
      · rw [if_neg hc12] at h
        refine tc_iload_n 2 rfl dX12_peel_50 ?_
        refine tc_if_ne 72 dX12_peel_51 (by decide) (fun hc13 => ?_) (fun hc13 => ?_)
        · rw [if_neg hc13] at h
          refine tc_aload_n 0 rfl dX12_peel_72 ?_
          refine tc_getp hW iv0 fl_X12_45 dX12_peel_73 rfl ?_
          refine tc_iload_n 1 rfl dX12_peel_76 ?_
          obtain ⟨bx14, x14, ex14, h⟩ := tc_ld_ex h
          refine tc_iald (hW.p iv0 15 rfl).1 bx14 dX12_peel_77 ?_
          refine tc_nm ex14 ?_
          refine tc_lvs [] rfl ?_
          exact sb_X12_peel_78 hW r ur  x14 u10  h
        · rw [if_pos hc13] at h
          refine tc_aload_n 0 rfl dX12_peel_54 ?_
          refine tc_getp hW iv0 fl_X12_39 dX12_peel_55 rfl ?_
          refine tc_iconst (v := 4) (by decide) dX12_peel_58 ?_
          refine tc_aload_n 0 rfl dX12_peel_59 ?_
          refine tc_getp hW iv0 fl_X12_42 dX12_peel_60 rfl ?_
          refine tc_iload_n 1 rfl dX12_peel_63 ?_
          obtain ⟨bx15, x15, ex15, h⟩ := tc_ld_ex h
          refine tc_iald (hW.p iv0 14 rfl).1 bx15 dX12_peel_64 ?_
          refine tc_nm ex15 ?_
          refine tc_imul dX12_peel_65 ?_
          obtain ⟨bx16, x16, ex16, h⟩ := tc_ld_ex h
          refine tc_iald (hW.p iv0 11 rfl).1 bx16 dX12_peel_66 ?_
          refine tc_nm ex16 ?_
          refine tc_iconst (v := 1) (by decide) dX12_peel_67 ?_
          refine tc_isub dX12_peel_68 ?_
          refine tc_goto 78 dX12_peel_69 (by decide) ?_
          refine tc_lvs [] rfl ?_
          exact sb_X12_peel_78 hW r ur  (x16 - 1) u10  h
      · rw [if_pos hc12] at h
        refine tc_lvs [] rfl ?_
        exact sb_X12_peel_47 hW r ur   u10  h
  · rw [if_pos hc4] at h
    refine tc_iload_n 2 rfl dX12_peel_10 ?_
    refine tc_if_ne 21 dX12_peel_11 (by decide) (fun hc17 => ?_) (fun hc17 => ?_)
    · rw [if_neg hc17] at h
      refine tc_bipush (v := (-2)) (by decide) dX12_peel_21 ?_
      refine tc_lvs [] rfl ?_
      exact sb_X12_peel_23 hW r ur  (-2) u2  h
    · rw [if_pos hc17] at h
      refine tc_aload_n 0 rfl dX12_peel_14 ?_
      refine tc_geti iv0.1 fl_X12_197 dX12_peel_15 ?_
      refine tc_goto 23 dX12_peel_18 (by decide) ?_
      refine tc_lvs [] rfl ?_
      exact sb_X12_peel_23 hW r ur  (u2.1 v0 17) u2  h
set_option maxRecDepth 100000 in
set_option maxHeartbeats 4000000 in
theorem sb_X12_rehash_45 {p : Program} {l : Launch} {e : Env} {s : State} {m : MethodId} {args : Array Value} {below : List Frame} {meth : Method} {c : Code} {z : Nat} {D : tc_D} {G : tc_G} (hW : tc_W G) (r : Int32) (ur : tc_S) (u : tc_S) (h : bl_X12_rehash_45 G  u = some (r, ur)) : tc_R p l e { frames := 6, cells := 0, slots := 0, locals := 154 } s m args below meth c z D cX12_rehash RX12 6 (some .boolean) 0 0 (tc_po r G ur) 0 0 G u 45 [] [] := by
  unfold bl_X12_rehash_45 at h
  refine tc_iconst (v := 0) (by decide) dX12_rehash_45 ?_
  obtain ⟨hz1, h⟩ := tc_zo_ex h
  cases h
  exact tc_zreturn hz1 rfl dX12_rehash_46 rfl rfl ⟨rfl, rfl, rfl⟩
set_option maxRecDepth 100000 in
set_option maxHeartbeats 4000000 in
theorem sb_X12_rehash_133 {p : Program} {l : Launch} {e : Env} {s : State} {m : MethodId} {args : Array Value} {below : List Frame} {meth : Method} {c : Code} {z : Nat} {D : tc_D} {G : tc_G} (hW : tc_W G) (r : Int32) (ur : tc_S) (v5 : Int32) (u : tc_S) (h : bl_X12_rehash_133 G v5 u = some (r, ur)) : tc_R p l e { frames := 6, cells := 0, slots := 0, locals := 154 } s m args below meth c z D cX12_rehash RX12 6 (some .boolean) 0 0 (tc_po r G ur) 0 0 G u 133 [(5, .int v5)] [] := by
  unfold bl_X12_rehash_133 at h
  refine tc_iload 0 rfl dX12_rehash_133 ?_
  obtain ⟨hz2, h⟩ := tc_zo_ex h
  cases h
  exact tc_zreturn hz2 rfl dX12_rehash_135 rfl rfl ⟨rfl, rfl, rfl⟩
set_option maxRecDepth 100000 in
set_option maxHeartbeats 4000000 in
theorem ct_X12_rehash {l : Launch} {z : Nat} {D : tc_D} {G : tc_G} (hW : tc_W G) {v0 : Nat} {v1 : Int32} {v2 : Int32} {v3 : Int32} {v4 : Int32} {u : tc_S} {r : Int32} {ur : tc_S} (iv0 : tc_is G v0 12) (h : fn_X12_rehash G v0 v1 v2 v3 v4 u = some (r, ur)) : tc_C l z D yX12_rehash cX12_rehash 6 (some .boolean) 6 154 0 0 [.ref (z + v0), .int v1, .int v2, .int v3, .int v4] G u (tc_po r G ur) := by
  unfold fn_X12_rehash at h
  refine tc_C.of (by decide) (Nat.le_of_ble_eq_true rfl) fun p e s m args below meth c => ?_
  show tc_R p l e { frames := 6, cells := 0, slots := 0, locals := 154 } s m args below meth c z D cX12_rehash RX12 6 (some .boolean) 0 0 (tc_po r G ur) 0 0 G u 0 [(0, .ref (z + v0)), (1, .int v1), (2, .int v2), (3, .int v3), (4, .int v4)] []
  refine tc_iload_n 1 rfl dX12_rehash_0 ?_
  refine tc_iconst (v := 1) (by decide) dX12_rehash_1 ?_
  refine tc_sipush (v := 1008) (by decide) dX12_rehash_2 ?_
  obtain ⟨x3, u4, hq5, h⟩ := tc_b_ex h
  refine tc_callSi [.int v1, .int 1, .int 1008] dX12_rehash_5 (ct_X12_isIn hW hq5) ml_X12_79 mw_X12_isIn ms_X12_isIn ⟨Nat.le_of_ble_eq_true rfl, Nat.le_of_ble_eq_true rfl⟩ rfl rfl (Nat.le_of_ble_eq_true rfl) ⟨Nat.le_refl _, Nat.le_refl _⟩ ?_
  refine tc_if_eq 45 dX12_rehash_8 (by decide) (fun hc6 => ?_) (fun hc6 => ?_)
  · rw [if_pos hc6] at h
    refine tc_lvs [] rfl ?_
    exact sb_X12_rehash_45 hW r ur   u4  h
  · rw [if_neg hc6] at h
    refine tc_iload_n 2 rfl dX12_rehash_11 ?_
    refine tc_iconst (v := 0) (by decide) dX12_rehash_12 ?_
    refine tc_sipush (v := 1008) (by decide) dX12_rehash_13 ?_
    obtain ⟨x7, u8, hq9, h⟩ := tc_b_ex h
    refine tc_callSi [.int v2, .int 0, .int 1008] dX12_rehash_16 (ct_X12_isIn hW hq9) ml_X12_79 mw_X12_isIn ms_X12_isIn ⟨Nat.le_of_ble_eq_true rfl, Nat.le_of_ble_eq_true rfl⟩ rfl rfl (Nat.le_of_ble_eq_true rfl) ⟨Nat.le_refl _, Nat.le_refl _⟩ ?_
    refine tc_if_eq 45 dX12_rehash_19 (by decide) (fun hc10 => ?_) (fun hc10 => ?_)
    · rw [if_pos hc10] at h
      refine tc_lvs [] rfl ?_
      exact sb_X12_rehash_45 hW r ur   u8  h
    · rw [if_neg hc10] at h
      refine tc_iload_n 3 rfl dX12_rehash_22 ?_
      refine tc_iconst (v := 1) (by decide) dX12_rehash_23 ?_
      refine tc_sipush (v := 1008) (by decide) dX12_rehash_24 ?_
      obtain ⟨x11, u12, hq13, h⟩ := tc_b_ex h
      refine tc_callSi [.int v3, .int 1, .int 1008] dX12_rehash_27 (ct_X12_isIn hW hq13) ml_X12_79 mw_X12_isIn ms_X12_isIn ⟨Nat.le_of_ble_eq_true rfl, Nat.le_of_ble_eq_true rfl⟩ rfl rfl (Nat.le_of_ble_eq_true rfl) ⟨Nat.le_refl _, Nat.le_refl _⟩ ?_
      refine tc_if_eq 45 dX12_rehash_30 (by decide) (fun hc14 => ?_) (fun hc14 => ?_)
      · rw [if_pos hc14] at h
        refine tc_lvs [] rfl ?_
        exact sb_X12_rehash_45 hW r ur   u12  h
      · rw [if_neg hc14] at h
        refine tc_iload 4 rfl dX12_rehash_33 ?_
        refine tc_iconst (v := 0) (by decide) dX12_rehash_35 ?_
        refine tc_sipush (v := 1008) (by decide) dX12_rehash_36 ?_
        obtain ⟨x15, u16, hq17, h⟩ := tc_b_ex h
        refine tc_callSi [.int v4, .int 0, .int 1008] dX12_rehash_39 (ct_X12_isIn hW hq17) ml_X12_79 mw_X12_isIn ms_X12_isIn ⟨Nat.le_of_ble_eq_true rfl, Nat.le_of_ble_eq_true rfl⟩ rfl rfl (Nat.le_of_ble_eq_true rfl) ⟨Nat.le_refl _, Nat.le_refl _⟩ ?_
        refine tc_if_ne 47 dX12_rehash_42 (by decide) (fun hc18 => ?_) (fun hc18 => ?_)
        · rw [if_neg hc18] at h
          refine tc_aload_n 0 rfl dX12_rehash_47 ?_
          refine tc_iconst (v := 0) (by decide) dX12_rehash_48 ?_
          refine tc_sipush (v := 584) (by decide) dX12_rehash_49 ?_
          obtain ⟨x19, u20, hq21, h⟩ := tc_b_ex h
          refine tc_callVv [.int 0, .int 584] dX12_rehash_52 iv0.1 (ct_X12_copies hW iv0 hq21) ml_X12_83 mw_X12_copies mv_X12_copies ⟨Nat.le_of_ble_eq_true rfl, Nat.le_of_ble_eq_true rfl⟩ rfl rfl (Nat.le_of_ble_eq_true rfl) ⟨Nat.le_refl _, Nat.le_refl _⟩ (by decide) ?_
          refine tc_aload_n 0 rfl dX12_rehash_55 ?_
          refine tc_iconst (v := 0) (by decide) dX12_rehash_56 ?_
          obtain ⟨x22, u23, hq24, h⟩ := tc_b_ex h
          refine tc_callVv [.int 0] dX12_rehash_57 iv0.1 (ct_X12_lists hW iv0 hq24) ml_X12_152 mw_X12_lists mv_X12_lists ⟨Nat.le_of_ble_eq_true rfl, Nat.le_of_ble_eq_true rfl⟩ rfl rfl (Nat.le_of_ble_eq_true rfl) ⟨Nat.le_refl _, Nat.le_refl _⟩ (by decide) ?_
          refine tc_aload_n 0 rfl dX12_rehash_60 ?_
          refine tc_getp hW iv0 fl_X12_7 dX12_rehash_61 rfl ?_
          refine tc_bipush (v := 7) (by decide) dX12_rehash_64 ?_
          refine tc_iload_n 1 rfl dX12_rehash_66 ?_
          obtain ⟨bu25, u25, eu25, h⟩ := tc_sd_ex h
          refine tc_iast (hW.p iv0 0 rfl).1 bu25 dX12_rehash_67 ?_
          refine tc_nmu eu25 ?_
          refine tc_aload_n 0 rfl dX12_rehash_68 ?_
          refine tc_getp hW iv0 fl_X12_7 dX12_rehash_69 rfl ?_
          refine tc_bipush (v := 8) (by decide) dX12_rehash_72 ?_
          refine tc_iload_n 2 rfl dX12_rehash_74 ?_
          obtain ⟨bu26, u26, eu26, h⟩ := tc_sd_ex h
          refine tc_iast (hW.p iv0 0 rfl).1 bu26 dX12_rehash_75 ?_
          refine tc_nmu eu26 ?_
          refine tc_aload_n 0 rfl dX12_rehash_76 ?_
          refine tc_getp hW iv0 fl_X12_7 dX12_rehash_77 rfl ?_
          refine tc_bipush (v := 9) (by decide) dX12_rehash_80 ?_
          refine tc_iload_n 3 rfl dX12_rehash_82 ?_
          obtain ⟨bu27, u27, eu27, h⟩ := tc_sd_ex h
          refine tc_iast (hW.p iv0 0 rfl).1 bu27 dX12_rehash_83 ?_
          refine tc_nmu eu27 ?_
          refine tc_aload_n 0 rfl dX12_rehash_84 ?_
          refine tc_getp hW iv0 fl_X12_7 dX12_rehash_85 rfl ?_
          refine tc_bipush (v := 10) (by decide) dX12_rehash_88 ?_
          refine tc_iload 4 rfl dX12_rehash_90 ?_
          obtain ⟨bu28, u28, eu28, h⟩ := tc_sd_ex h
          refine tc_iast (hW.p iv0 0 rfl).1 bu28 dX12_rehash_92 ?_
          refine tc_nmu eu28 ?_
          refine tc_aload_n 0 rfl dX12_rehash_93 ?_
          refine tc_iconst (v := 0) (by decide) dX12_rehash_94 ?_
          obtain ⟨x29, u30, hq31, h⟩ := tc_b_ex h
          refine tc_callVv [.int 0] dX12_rehash_95 iv0.1 (ct_X12_empties hW iv0 hq31) ml_X12_159 mw_X12_empties mv_X12_empties ⟨Nat.le_of_ble_eq_true rfl, Nat.le_of_ble_eq_true rfl⟩ rfl rfl (Nat.le_of_ble_eq_true rfl) ⟨Nat.le_refl _, Nat.le_refl _⟩ (by decide) ?_
          refine tc_aload_n 0 rfl dX12_rehash_98 ?_
          refine tc_iconst (v := 0) (by decide) dX12_rehash_99 ?_
          refine tc_iconst (v := 0) (by decide) dX12_rehash_100 ?_
          obtain ⟨x32, u33, hq34, h⟩ := tc_b_ex h
          refine tc_callVi [.int 0, .int 0] dX12_rehash_101 iv0.1 (ct_X12_doAllCome hW iv0 hq34) ml_X12_162 mw_X12_doAllCome mv_X12_doAllCome ⟨Nat.le_of_ble_eq_true rfl, Nat.le_of_ble_eq_true rfl⟩ rfl rfl (Nat.le_of_ble_eq_true rfl) ⟨Nat.le_refl _, Nat.le_refl _⟩ (by decide) ?_
          refine tc_istore [(5, .int x32), (0, .ref (z + v0)), (1, .int v1), (2, .int v2), (3, .int v3), (4, .int v4)] dX12_rehash_104 (by decide) rfl ?_
          refine tc_iload 0 rfl dX12_rehash_106 ?_
          refine tc_if_eq 125 dX12_rehash_108 (by decide) (fun hc35 => ?_) (fun hc35 => ?_)
          · rw [if_pos hc35] at h
            refine tc_aload_n 1 rfl dX12_rehash_125 ?_
            refine tc_sipush (v := 584) (by decide) dX12_rehash_126 ?_
            refine tc_iconst (v := 0) (by decide) dX12_rehash_129 ?_
            obtain ⟨x36, u37, hq38, h⟩ := tc_b_ex h
            refine tc_callVv [.int 584, .int 0] dX12_rehash_130 iv0.1 (ct_X12_comesBack hW iv0 hq38) ml_X12_122 mw_X12_comesBack mv_X12_comesBack ⟨Nat.le_of_ble_eq_true rfl, Nat.le_of_ble_eq_true rfl⟩ rfl rfl (Nat.le_of_ble_eq_true rfl) ⟨Nat.le_refl _, Nat.le_refl _⟩ (by decide) ?_
            refine tc_lvs [0] rfl ?_
            exact sb_X12_rehash_133 hW r ur  x32 u37  h
          · rw [if_neg hc35] at h
            refine tc_aload_n 1 rfl dX12_rehash_111 ?_
            refine tc_getp hW iv0 fl_X12_7 dX12_rehash_112 rfl ?_
            refine tc_bipush (v := 14) (by decide) dX12_rehash_115 ?_
            refine tc_dup2 rfl rfl dX12_rehash_117 ?_
            obtain ⟨bx39, x39, ex39, h⟩ := tc_ld_ex h
            refine tc_iald (hW.p iv0 0 rfl).1 bx39 dX12_rehash_118 ?_
            refine tc_nm ex39 ?_
            refine tc_iconst (v := 1) (by decide) dX12_rehash_119 ?_
            refine tc_iadd dX12_rehash_120 ?_
            obtain ⟨bu40, u40, eu40, h⟩ := tc_sd_ex h
            refine tc_iast (hW.p iv0 0 rfl).1 bu40 dX12_rehash_121 ?_
            refine tc_nmu eu40 ?_
            refine tc_goto 133 dX12_rehash_122 (by decide) ?_
            refine tc_lvs [0] rfl ?_
            exact sb_X12_rehash_133 hW r ur  x32 u40  h
        · rw [if_pos hc18] at h
          refine tc_lvs [] rfl ?_
          exact sb_X12_rehash_45 hW r ur   u16  h
set_option maxRecDepth 100000 in
set_option maxHeartbeats 4000000 in
theorem ct_X12_hashBy {l : Launch} {z : Nat} {D : tc_D} {G : tc_G} (hW : tc_W G) {v0 : Nat} {v1 : Int32} {v2 : Int32} {v3 : Int32} {u : tc_S} {r : Int32} {ur : tc_S} (iv0 : tc_is G v0 12) (h : fn_X12_hashBy G v0 v1 v2 v3 u = some (r, ur)) : tc_C l z D yX12_hashBy cX12_hashBy 4 (some .int) 0 0 0 0 [.ref (z + v0), .int v1, .int v2, .int v3] G u (tc_po r G ur) := by
  unfold fn_X12_hashBy at h
  refine tc_C.of (by decide) (Nat.le_of_ble_eq_true rfl) fun p e s m args below meth c => ?_
  show tc_R p l e { frames := 0, cells := 0, slots := 0, locals := 0 } s m args below meth c z D cX12_hashBy RX12 4 (some .int) 0 0 (tc_po r G ur) 0 0 G u 0 [(0, .ref (z + v0)), (1, .int v1), (2, .int v2), (3, .int v3)] []
  refine tc_aload_n 0 rfl dX12_hashBy_0 ?_
  refine tc_getp hW iv0 fl_X12_60 dX12_hashBy_1 rfl ?_
  refine tc_iconst (v := 2) (by decide) dX12_hashBy_4 ?_
  refine tc_iload_n 2 rfl dX12_hashBy_5 ?_
  refine tc_imul dX12_hashBy_6 ?_
  obtain ⟨bx1, x1, ex1, h⟩ := tc_ld_ex h
  refine tc_iald (hW.p iv0 21 rfl).1 bx1 dX12_hashBy_7 ?_
  refine tc_nm ex1 ?_
  refine tc_iload_n 1 rfl dX12_hashBy_8 ?_
  refine tc_imul dX12_hashBy_9 ?_
  refine tc_aload_n 0 rfl dX12_hashBy_10 ?_
  refine tc_getp hW iv0 fl_X12_60 dX12_hashBy_11 rfl ?_
  refine tc_iconst (v := 2) (by decide) dX12_hashBy_14 ?_
  refine tc_iload_n 2 rfl dX12_hashBy_15 ?_
  refine tc_imul dX12_hashBy_16 ?_
  refine tc_iconst (v := 1) (by decide) dX12_hashBy_17 ?_
  refine tc_iadd dX12_hashBy_18 ?_
  obtain ⟨bx2, x2, ex2, h⟩ := tc_ld_ex h
  refine tc_iald (hW.p iv0 21 rfl).1 bx2 dX12_hashBy_19 ?_
  refine tc_nm ex2 ?_
  refine tc_iadd dX12_hashBy_20 ?_
  refine tc_sipush (v := 1009) (by decide) dX12_hashBy_21 ?_
  refine tc_irem' (by decide) dX12_hashBy_24 ?_
  refine tc_iload_n 3 rfl dX12_hashBy_25 ?_
  obtain ⟨hz3, h⟩ := tc_nz_ex h
  refine tc_irem' hz3 dX12_hashBy_26 ?_
  cases h
  exact tc_ireturn rfl dX12_hashBy_27 rfl rfl ⟨rfl, rfl, rfl⟩
set_option maxRecDepth 100000 in
set_option maxHeartbeats 4000000 in
theorem sb_X12_otherBy_27 {p : Program} {l : Launch} {e : Env} {s : State} {m : MethodId} {args : Array Value} {below : List Frame} {meth : Method} {c : Code} {z : Nat} {D : tc_D} {G : tc_G} (hW : tc_W G) (r : Int32) (ur : tc_S) (s0 : Int32) (u : tc_S) (h : bl_X12_otherBy_27 G s0 u = some (r, ur)) : tc_R p l e { frames := 1, cells := 0, slots := 0, locals := 23 } s m args below meth c z D cX12_otherBy RX12 5 (some .int) 0 0 (tc_po r G ur) 0 0 G u 27 [] [.int s0] := by
  unfold bl_X12_otherBy_27 at h
  cases h
  exact tc_ireturn rfl dX12_otherBy_27 rfl rfl ⟨rfl, rfl, rfl⟩
set_option maxRecDepth 100000 in
set_option maxHeartbeats 4000000 in
theorem ct_X12_otherBy {l : Launch} {z : Nat} {D : tc_D} {G : tc_G} (hW : tc_W G) {v0 : Nat} {v1 : Int32} {v2 : Int32} {v3 : Int32} {u : tc_S} {r : Int32} {ur : tc_S} (iv0 : tc_is G v0 12) (h : fn_X12_otherBy G v0 v1 v2 v3 u = some (r, ur)) : tc_C l z D yX12_otherBy cX12_otherBy 5 (some .int) 1 23 0 0 [.ref (z + v0), .int v1, .int v2, .int v3] G u (tc_po r G ur) := by
  unfold fn_X12_otherBy at h
  refine tc_C.of (by decide) (Nat.le_of_ble_eq_true rfl) fun p e s m args below meth c => ?_
  show tc_R p l e { frames := 1, cells := 0, slots := 0, locals := 23 } s m args below meth c z D cX12_otherBy RX12 5 (some .int) 0 0 (tc_po r G ur) 0 0 G u 0 [(0, .ref (z + v0)), (1, .int v1), (2, .int v2), (3, .int v3)] []
  refine tc_aload_n 0 rfl dX12_otherBy_0 ?_
  refine tc_iload_n 1 rfl dX12_otherBy_1 ?_
  refine tc_iconst (v := 0) (by decide) dX12_otherBy_2 ?_
  refine tc_iload_n 3 rfl dX12_otherBy_3 ?_
  obtain ⟨x1, u2, hq3, h⟩ := tc_b_ex h
  refine tc_callVi [.int v1, .int 0, .int v3] dX12_otherBy_4 iv0.1 (ct_X12_hashBy hW iv0 hq3) ml_X12_209 mw_X12_hashBy mv_X12_hashBy ⟨Nat.le_of_ble_eq_true rfl, Nat.le_of_ble_eq_true rfl⟩ rfl rfl (Nat.le_of_ble_eq_true rfl) ⟨Nat.le_refl _, Nat.le_refl _⟩ (by decide) ?_
  refine tc_istore [(4, .int x1), (0, .ref (z + v0)), (1, .int v1), (2, .int v2), (3, .int v3)] dX12_otherBy_7 (by decide) rfl ?_
  refine tc_iload 0 rfl dX12_otherBy_9 ?_
  refine tc_iload_n 3 rfl dX12_otherBy_11 ?_
  refine tc_icmp_ne 25 dX12_otherBy_12 (by decide) (fun hc4 => ?_) (fun hc4 => ?_)
  · rw [if_neg hc4] at h
    refine tc_iload 0 rfl dX12_otherBy_25 ?_
    refine tc_lvs [] rfl ?_
    exact sb_X12_otherBy_27 hW r ur  x1 u2  h
  · rw [if_pos hc4] at h
    refine tc_aload_n 1 rfl dX12_otherBy_15 ?_
    refine tc_iload_n 2 rfl dX12_otherBy_16 ?_
    refine tc_iconst (v := 1) (by decide) dX12_otherBy_17 ?_
    refine tc_iload_n 4 rfl dX12_otherBy_18 ?_
    obtain ⟨x5, u6, hq7, h⟩ := tc_b_ex h
    refine tc_callVi [.int v1, .int 1, .int v3] dX12_otherBy_19 iv0.1 (ct_X12_hashBy hW iv0 hq7) ml_X12_209 mw_X12_hashBy mv_X12_hashBy ⟨Nat.le_of_ble_eq_true rfl, Nat.le_of_ble_eq_true rfl⟩ rfl rfl (Nat.le_of_ble_eq_true rfl) ⟨Nat.le_refl _, Nat.le_refl _⟩ (by decide) ?_
    refine tc_goto 27 dX12_otherBy_22 (by decide) ?_
    refine tc_lvs [] rfl ?_
    exact sb_X12_otherBy_27 hW r ur  x5 u6  h
set_option maxRecDepth 100000 in
set_option maxHeartbeats 4000000 in
theorem sl_X12_asNow_2 {p : Program} {l : Launch} {e : Env} {s : State} {m : MethodId} {args : Array Value} {below : List Frame} {meth : Method} {c : Code} {z : Nat} {D : tc_D} {G : tc_G} (hW : tc_W G) (r : Int32) (ur : tc_S) : ∀ (n : Nat) (v0 : Nat) (v1 : Int32) (u : tc_S) (iv0 : tc_is G v0 12) (h : lo_X12_asNow_2 G n v0 v1 u = some (r, ur)), tc_R p l e { frames := 0, cells := 0, slots := 0, locals := 0 } s m args below meth c z D cX12_asNow RX12 2 none 0 0 (tc_pv G ur) 0 0 G u 2 [(0, .ref (z + v0)), (1, .int v1)] [] := by
  intro n
  induction n with
  | zero => intro v0 v1 u iv0 h; cases h
  | succ n ih =>
    intro v0 v1 u iv0 h
    rw [lo_X12_asNow_2] at h
    refine tc_iload_n 1 rfl dX12_asNow_2 ?_
    refine tc_iconst (v := 4) (by decide) dX12_asNow_3 ?_
    refine tc_icmp_ge 28 dX12_asNow_4 (by decide) (fun hc1 => ?_) (fun hc1 => ?_)
    · rw [if_pos hc1] at h
      cases h
      exact tc_return rfl dX12_asNow_28 rfl rfl ⟨rfl, rfl, rfl⟩
    · rw [if_neg hc1] at h
      refine tc_aload_n 0 rfl dX12_asNow_7 ?_
      refine tc_getp hW iv0 fl_X12_60 dX12_asNow_8 rfl ?_
      refine tc_iload_n 1 rfl dX12_asNow_11 ?_
      refine tc_aload_n 0 rfl dX12_asNow_12 ?_
      refine tc_getp hW iv0 fl_X12_7 dX12_asNow_13 rfl ?_
      refine tc_bipush (v := 7) (by decide) dX12_asNow_16 ?_
      refine tc_iload_n 1 rfl dX12_asNow_18 ?_
      refine tc_iadd dX12_asNow_19 ?_
      obtain ⟨bx2, x2, ex2, h⟩ := tc_ld_ex h
      refine tc_iald (hW.p iv0 0 rfl).1 bx2 dX12_asNow_20 ?_
      refine tc_nm ex2 ?_
      obtain ⟨bu3, u3, eu3, h⟩ := tc_sd_ex h
      refine tc_iast (hW.p iv0 21 rfl).1 bu3 dX12_asNow_21 ?_
      refine tc_nmu eu3 ?_
      obtain ⟨x4, ex4, h⟩ := tc_let_ex h
      refine tc_iinc 1 (v := x4) [(1, .int x4), (0, .ref (z + v0))] dX12_asNow_22 rfl (by rw [ex4]; rfl) (by decide) rfl ?_
      refine tc_goto 2 dX12_asNow_25 (by decide) ?_
      refine tc_lvs [1, 0] rfl ?_
      exact ih v0 x4 u3 iv0 h
set_option maxRecDepth 100000 in
set_option maxHeartbeats 4000000 in
theorem ct_X12_asNow {l : Launch} {z : Nat} {D : tc_D} {G : tc_G} (hW : tc_W G) {v0 : Nat} {u : tc_S} {r : Int32} {ur : tc_S} (iv0 : tc_is G v0 12) (h : fn_X12_asNow G v0 u = some (r, ur)) : tc_C l z D yX12_asNow cX12_asNow 2 none 0 0 0 0 [.ref (z + v0)] G u (tc_pv G ur) := by
  unfold fn_X12_asNow at h
  refine tc_C.of (by decide) (Nat.le_of_ble_eq_true rfl) fun p e s m args below meth c => ?_
  show tc_R p l e { frames := 0, cells := 0, slots := 0, locals := 0 } s m args below meth c z D cX12_asNow RX12 2 none 0 0 (tc_pv G ur) 0 0 G u 0 [(0, .ref (z + v0))] []
  refine tc_iconst (v := 0) (by decide) dX12_asNow_0 ?_
  refine tc_istore_n [(1, .int 0), (0, .ref (z + v0))] dX12_asNow_1 (by decide) rfl ?_
  refine tc_lvs [1, 0] rfl ?_
  exact sl_X12_asNow_2 hW r ur  _ v0 0 u iv0 h
set_option maxRecDepth 100000 in
set_option maxHeartbeats 4000000 in
theorem sb_X12_laysFar_140 {p : Program} {l : Launch} {e : Env} {s : State} {m : MethodId} {args : Array Value} {below : List Frame} {meth : Method} {c : Code} {z : Nat} {D : tc_D} {G : tc_G} (hW : tc_W G) (r : Int32) (ur : tc_S) (K43 : Nat → Int32 → Int32 → Int32 → tc_S → Option (Int32 × tc_S)) (hK43 : ∀ (v0 : Nat) (v1 : Int32) (v2 : Int32) (v4 : Int32) (u : tc_S), tc_is G v0 12 → K43 v0 v1 v2 v4 u = some (r, ur) → tc_R p l e { frames := 2, cells := 0, slots := 0, locals := 47 } s m args below meth c z D cX12_laysFar RX12 8 none 0 0 (tc_pv G ur) 0 0 G u 43 [(0, .ref (z + v0)), (1, .int v1), (2, .int v2), (4, .int v4)] []) (K52 : Nat → Int32 → Int32 → Int32 → Int32 → tc_S → Option (Int32 × tc_S)) (hK52 : ∀ (v0 : Nat) (v1 : Int32) (v2 : Int32) (v4 : Int32) (v5 : Int32) (u : tc_S), tc_is G v0 12 → K52 v0 v1 v2 v4 v5 u = some (r, ur) → tc_R p l e { frames := 2, cells := 0, slots := 0, locals := 47 } s m args below meth c z D cX12_laysFar RX12 8 none 0 0 (tc_pv G ur) 0 0 G u 52 [(0, .ref (z + v0)), (1, .int v1), (2, .int v2), (4, .int v4), (5, .int v5)] []) (v0 : Nat) (v1 : Int32) (v2 : Int32) (v4 : Int32) (v5 : Int32) (u : tc_S) (iv0 : tc_is G v0 12) (h : bl_X12_laysFar_140 G K43 K52 v0 v1 v2 v4 v5 u = some (r, ur)) : tc_R p l e { frames := 2, cells := 0, slots := 0, locals := 47 } s m args below meth c z D cX12_laysFar RX12 8 none 0 0 (tc_pv G ur) 0 0 G u 140 [(0, .ref (z + v0)), (1, .int v1), (2, .int v2), (4, .int v4), (5, .int v5)] [] := by
  unfold bl_X12_laysFar_140 at h
  obtain ⟨x1, ex1, h⟩ := tc_let_ex h
  refine tc_iinc 4 (v := x1) [(5, .int x1), (0, .ref (z + v0)), (1, .int v1), (2, .int v2), (4, .int v4)] dX12_laysFar_140 rfl (by rw [ex1]; rfl) (by decide) rfl ?_
  refine tc_goto 52 dX12_laysFar_143 (by decide) ?_
  refine tc_lvs [1, 2, 3, 4, 0] rfl ?_
  exact hK52 v0 v1 v2 v4 x1 u iv0 h
set_option maxRecDepth 100000 in
set_option maxHeartbeats 4000000 in
theorem sb_X12_laysFar_139 {p : Program} {l : Launch} {e : Env} {s : State} {m : MethodId} {args : Array Value} {below : List Frame} {meth : Method} {c : Code} {z : Nat} {D : tc_D} {G : tc_G} (hW : tc_W G) (r : Int32) (ur : tc_S) (K43 : Nat → Int32 → Int32 → Int32 → tc_S → Option (Int32 × tc_S)) (hK43 : ∀ (v0 : Nat) (v1 : Int32) (v2 : Int32) (v4 : Int32) (u : tc_S), tc_is G v0 12 → K43 v0 v1 v2 v4 u = some (r, ur) → tc_R p l e { frames := 2, cells := 0, slots := 0, locals := 47 } s m args below meth c z D cX12_laysFar RX12 8 none 0 0 (tc_pv G ur) 0 0 G u 43 [(0, .ref (z + v0)), (1, .int v1), (2, .int v2), (4, .int v4)] []) (K52 : Nat → Int32 → Int32 → Int32 → Int32 → tc_S → Option (Int32 × tc_S)) (hK52 : ∀ (v0 : Nat) (v1 : Int32) (v2 : Int32) (v4 : Int32) (v5 : Int32) (u : tc_S), tc_is G v0 12 → K52 v0 v1 v2 v4 v5 u = some (r, ur) → tc_R p l e { frames := 2, cells := 0, slots := 0, locals := 47 } s m args below meth c z D cX12_laysFar RX12 8 none 0 0 (tc_pv G ur) 0 0 G u 52 [(0, .ref (z + v0)), (1, .int v1), (2, .int v2), (4, .int v4), (5, .int v5)] []) (v0 : Nat) (v1 : Int32) (v2 : Int32) (v4 : Int32) (v5 : Int32) (s0 : Nat) (s1 : Int32) (s2 : Int32) (u : tc_S) (iv0 : tc_is G v0 12) (is0 : tc_is G s0 100) (h : bl_X12_laysFar_139 G K43 K52 v0 v1 v2 v4 v5 s0 s1 s2 u = some (r, ur)) : tc_R p l e { frames := 2, cells := 0, slots := 0, locals := 47 } s m args below meth c z D cX12_laysFar RX12 8 none 0 0 (tc_pv G ur) 0 0 G u 139 [(0, .ref (z + v0)), (1, .int v1), (2, .int v2), (4, .int v4), (5, .int v5)] [.int s2, .int s1, .ref (z + s0)] := by
  unfold bl_X12_laysFar_139 at h
  obtain ⟨bu2, u2, eu2, h⟩ := tc_sd_ex h
  refine tc_iast is0.1 bu2 dX12_laysFar_139 ?_
  refine tc_nmu eu2 ?_
  exact sb_X12_laysFar_140 hW r ur K43 hK43 K52 hK52 v0 v1 v2 v4 v5 u2 iv0 h
set_option maxRecDepth 100000 in
set_option maxHeartbeats 4000000 in
theorem sl_X12_laysFar_52 {p : Program} {l : Launch} {e : Env} {s : State} {m : MethodId} {args : Array Value} {below : List Frame} {meth : Method} {c : Code} {z : Nat} {D : tc_D} {G : tc_G} (hW : tc_W G) (r : Int32) (ur : tc_S) (K43 : Nat → Int32 → Int32 → Int32 → tc_S → Option (Int32 × tc_S)) (hK43 : ∀ (v0 : Nat) (v1 : Int32) (v2 : Int32) (v4 : Int32) (u : tc_S), tc_is G v0 12 → K43 v0 v1 v2 v4 u = some (r, ur) → tc_R p l e { frames := 2, cells := 0, slots := 0, locals := 47 } s m args below meth c z D cX12_laysFar RX12 8 none 0 0 (tc_pv G ur) 0 0 G u 43 [(0, .ref (z + v0)), (1, .int v1), (2, .int v2), (4, .int v4)] []) : ∀ (n : Nat) (v0 : Nat) (v1 : Int32) (v2 : Int32) (v4 : Int32) (v5 : Int32) (u : tc_S) (iv0 : tc_is G v0 12) (h : lo_X12_laysFar_52 G K43 n v0 v1 v2 v4 v5 u = some (r, ur)), tc_R p l e { frames := 2, cells := 0, slots := 0, locals := 47 } s m args below meth c z D cX12_laysFar RX12 8 none 0 0 (tc_pv G ur) 0 0 G u 52 [(0, .ref (z + v0)), (1, .int v1), (2, .int v2), (4, .int v4), (5, .int v5)] [] := by
  intro n
  induction n with
  | zero => intro v0 v1 v2 v4 v5 u iv0 h; cases h
  | succ n ih =>
    intro v0 v1 v2 v4 v5 u iv0 h
    rw [lo_X12_laysFar_52] at h
    refine tc_iload 4 rfl dX12_laysFar_52 ?_
    refine tc_iload_n 1 rfl dX12_laysFar_54 ?_
    refine tc_icmp_ge 146 dX12_laysFar_55 (by decide) (fun hc3 => ?_) (fun hc3 => ?_)
    · rw [if_pos hc3] at h
      obtain ⟨x4, ex4, h⟩ := tc_let_ex h
      refine tc_iinc 3 (v := x4) [(4, .int x4), (0, .ref (z + v0)), (1, .int v1), (2, .int v2), (5, .int v5)] dX12_laysFar_146 rfl (by rw [ex4]; rfl) (by decide) rfl ?_
      refine tc_goto 43 dX12_laysFar_149 (by decide) ?_
      refine tc_lvs [1, 2, 3, 0] rfl ?_
      exact hK43 v0 v1 v2 x4 u iv0 h
    · rw [if_neg hc3] at h
      refine tc_aload_n 0 rfl dX12_laysFar_58 ?_
      refine tc_getp hW iv0 fl_X12_51 dX12_laysFar_59 rfl ?_
      refine tc_iload 4 rfl dX12_laysFar_62 ?_
      obtain ⟨bx5, x5, ex5, h⟩ := tc_ld_ex h
      refine tc_iald (hW.p iv0 18 rfl).1 bx5 dX12_laysFar_64 ?_
      refine tc_nm ex5 ?_
      refine tc_istore [(6, .int x5), (0, .ref (z + v0)), (1, .int v1), (2, .int v2), (4, .int v4), (5, .int v5)] dX12_laysFar_65 (by decide) rfl ?_
      refine tc_iload 0 rfl dX12_laysFar_67 ?_
      refine tc_if_ge 75 dX12_laysFar_69 (by decide) (fun hc6 => ?_) (fun hc6 => ?_)
      · rw [if_pos hc6] at h
        refine tc_aload_n 1 rfl dX12_laysFar_75 ?_
        refine tc_aload_n 1 rfl dX12_laysFar_76 ?_
        refine tc_getp hW iv0 fl_X12_39 dX12_laysFar_77 rfl ?_
        refine tc_iconst (v := 4) (by decide) dX12_laysFar_80 ?_
        refine tc_iload 5 rfl dX12_laysFar_81 ?_
        refine tc_imul dX12_laysFar_83 ?_
        obtain ⟨bx7, x7, ex7, h⟩ := tc_ld_ex h
        refine tc_iald (hW.p iv0 11 rfl).1 bx7 dX12_laysFar_84 ?_
        refine tc_nm ex7 ?_
        refine tc_iconst (v := 1) (by decide) dX12_laysFar_85 ?_
        refine tc_isub dX12_laysFar_86 ?_
        refine tc_iload 0 rfl dX12_laysFar_87 ?_
        refine tc_iload_n 3 rfl dX12_laysFar_89 ?_
        obtain ⟨x8, u9, hq10, h⟩ := tc_b_ex h
        refine tc_callVi [.int (x7 - 1), .int x5, .int v2] dX12_laysFar_90 iv0.1 (ct_X12_otherBy hW iv0 hq10) ml_X12_212 mw_X12_otherBy mv_X12_otherBy ⟨Nat.le_of_ble_eq_true rfl, Nat.le_of_ble_eq_true rfl⟩ rfl rfl (Nat.le_of_ble_eq_true rfl) ⟨Nat.le_refl _, Nat.le_refl _⟩ (by decide) ?_
        refine tc_istore [(7, .int x8), (6, .int x5), (0, .ref (z + v0)), (1, .int v1), (2, .int v2), (4, .int v4), (5, .int v5)] dX12_laysFar_93 (by decide) rfl ?_
        refine tc_aload_n 2 rfl dX12_laysFar_95 ?_
        refine tc_getp hW iv0 fl_X12_57 dX12_laysFar_96 rfl ?_
        refine tc_iload 1 rfl dX12_laysFar_99 ?_
        refine tc_aload_n 2 rfl dX12_laysFar_101 ?_
        refine tc_getp hW iv0 fl_X12_57 dX12_laysFar_102 rfl ?_
        refine tc_iload 0 rfl dX12_laysFar_105 ?_
        obtain ⟨bx11, x11, ex11, h⟩ := tc_ld_ex h
        refine tc_iald (hW.p iv0 20 rfl).1 bx11 dX12_laysFar_107 ?_
        refine tc_nm ex11 ?_
        refine tc_iconst (v := 1) (by decide) dX12_laysFar_108 ?_
        refine tc_iadd dX12_laysFar_109 ?_
        refine tc_aload_n 2 rfl dX12_laysFar_110 ?_
        refine tc_getp hW iv0 fl_X12_57 dX12_laysFar_111 rfl ?_
        refine tc_iload 1 rfl dX12_laysFar_114 ?_
        obtain ⟨bx12, x12, ex12, h⟩ := tc_ld_ex h
        refine tc_iald (hW.p iv0 20 rfl).1 bx12 dX12_laysFar_116 ?_
        refine tc_nm ex12 ?_
        refine tc_icmp_ge 132 dX12_laysFar_117 (by decide) (fun hc13 => ?_) (fun hc13 => ?_)
        · rw [if_pos hc13] at h
          refine tc_aload_n 2 rfl dX12_laysFar_132 ?_
          refine tc_getp hW iv0 fl_X12_57 dX12_laysFar_133 rfl ?_
          refine tc_iload 1 rfl dX12_laysFar_136 ?_
          obtain ⟨bx14, x14, ex14, h⟩ := tc_ld_ex h
          refine tc_iald (hW.p iv0 20 rfl).1 bx14 dX12_laysFar_138 ?_
          refine tc_nm ex14 ?_
          refine tc_lvs [2, 3, 4, 5, 6] rfl ?_
          exact sb_X12_laysFar_139 hW r ur K43 hK43 _ ih v0 v1 v2 v4 v5 (tc_p G v0 20) x5 x14 u9 iv0 (hW.p iv0 20 rfl) h
        · rw [if_neg hc13] at h
          refine tc_aload_n 2 rfl dX12_laysFar_120 ?_
          refine tc_getp hW iv0 fl_X12_57 dX12_laysFar_121 rfl ?_
          refine tc_iload 0 rfl dX12_laysFar_124 ?_
          obtain ⟨bx15, x15, ex15, h⟩ := tc_ld_ex h
          refine tc_iald (hW.p iv0 20 rfl).1 bx15 dX12_laysFar_126 ?_
          refine tc_nm ex15 ?_
          refine tc_iconst (v := 1) (by decide) dX12_laysFar_127 ?_
          refine tc_iadd dX12_laysFar_128 ?_
          refine tc_goto 139 dX12_laysFar_129 (by decide) ?_
          refine tc_lvs [2, 3, 4, 5, 6] rfl ?_
          exact sb_X12_laysFar_139 hW r ur K43 hK43 _ ih v0 v1 v2 v4 v5 (tc_p G v0 20) x5 (x15 + 1) u9 iv0 (hW.p iv0 20 rfl) h
      · rw [if_neg hc6] at h
        refine tc_goto 140 dX12_laysFar_72 (by decide) ?_
        refine tc_lvs [1, 2, 3, 4, 5] rfl ?_
        exact sb_X12_laysFar_140 hW r ur K43 hK43 _ ih v0 v1 v2 v4 v5 u iv0 h
set_option maxRecDepth 100000 in
set_option maxHeartbeats 4000000 in
theorem sl_X12_laysFar_43 {p : Program} {l : Launch} {e : Env} {s : State} {m : MethodId} {args : Array Value} {below : List Frame} {meth : Method} {c : Code} {z : Nat} {D : tc_D} {G : tc_G} (hW : tc_W G) (r : Int32) (ur : tc_S) : ∀ (n : Nat) (v0 : Nat) (v1 : Int32) (v2 : Int32) (v4 : Int32) (u : tc_S) (iv0 : tc_is G v0 12) (h : lo_X12_laysFar_43 G n v0 v1 v2 v4 u = some (r, ur)), tc_R p l e { frames := 2, cells := 0, slots := 0, locals := 47 } s m args below meth c z D cX12_laysFar RX12 8 none 0 0 (tc_pv G ur) 0 0 G u 43 [(0, .ref (z + v0)), (1, .int v1), (2, .int v2), (4, .int v4)] [] := by
  intro n
  induction n with
  | zero => intro v0 v1 v2 v4 u iv0 h; cases h
  | succ n ih =>
    intro v0 v1 v2 v4 u iv0 h
    rw [lo_X12_laysFar_43] at h
    refine tc_iload 3 rfl dX12_laysFar_43 ?_
    refine tc_iload_n 2 rfl dX12_laysFar_45 ?_
    refine tc_icmp_ge 152 dX12_laysFar_46 (by decide) (fun hc16 => ?_) (fun hc16 => ?_)
    · rw [if_pos hc16] at h
      cases h
      exact tc_return rfl dX12_laysFar_152 rfl rfl ⟨rfl, rfl, rfl⟩
    · rw [if_neg hc16] at h
      refine tc_iconst (v := 0) (by decide) dX12_laysFar_49 ?_
      refine tc_istore [(5, .int 0), (0, .ref (z + v0)), (1, .int v1), (2, .int v2), (4, .int v4)] dX12_laysFar_50 (by decide) rfl ?_
      refine tc_lvs [1, 2, 3, 4, 0] rfl ?_
      exact sl_X12_laysFar_52 hW r ur _ ih _ v0 v1 v2 v4 0 u iv0 h
set_option maxRecDepth 100000 in
set_option maxHeartbeats 4000000 in
theorem sb_X12_laysFar_33 {p : Program} {l : Launch} {e : Env} {s : State} {m : MethodId} {args : Array Value} {below : List Frame} {meth : Method} {c : Code} {z : Nat} {D : tc_D} {G : tc_G} (hW : tc_W G) (r : Int32) (ur : tc_S) (K3 : Nat → Int32 → Int32 → Int32 → Int32 → tc_S → Option (Int32 × tc_S)) (hK3 : ∀ (v0 : Nat) (v1 : Int32) (v2 : Int32) (v3 : Int32) (v4 : Int32) (u : tc_S), tc_is G v0 12 → K3 v0 v1 v2 v3 v4 u = some (r, ur) → tc_R p l e { frames := 2, cells := 0, slots := 0, locals := 47 } s m args below meth c z D cX12_laysFar RX12 8 none 0 0 (tc_pv G ur) 0 0 G u 3 [(0, .ref (z + v0)), (1, .int v1), (2, .int v2), (3, .int v3), (4, .int v4)] []) (v0 : Nat) (v1 : Int32) (v2 : Int32) (v3 : Int32) (v4 : Int32) (s0 : Nat) (s1 : Int32) (s2 : Int32) (u : tc_S) (iv0 : tc_is G v0 12) (is0 : tc_is G s0 100) (h : bl_X12_laysFar_33 G K3 v0 v1 v2 v3 v4 s0 s1 s2 u = some (r, ur)) : tc_R p l e { frames := 2, cells := 0, slots := 0, locals := 47 } s m args below meth c z D cX12_laysFar RX12 8 none 0 0 (tc_pv G ur) 0 0 G u 33 [(0, .ref (z + v0)), (1, .int v1), (2, .int v2), (3, .int v3), (4, .int v4)] [.int s2, .int s1, .ref (z + s0)] := by
  unfold bl_X12_laysFar_33 at h
  obtain ⟨bu17, u17, eu17, h⟩ := tc_sd_ex h
  refine tc_iast is0.1 bu17 dX12_laysFar_33 ?_
  refine tc_nmu eu17 ?_
  obtain ⟨x18, ex18, h⟩ := tc_let_ex h
  refine tc_iinc 4 (v := x18) [(4, .int x18), (0, .ref (z + v0)), (1, .int v1), (2, .int v2), (3, .int v3)] dX12_laysFar_34 rfl (by rw [ex18]; rfl) (by decide) rfl ?_
  refine tc_goto 3 dX12_laysFar_37 (by decide) ?_
  refine tc_lvs [1, 2, 3, 4, 0] rfl ?_
  exact hK3 v0 v1 v2 v3 x18 u17 iv0 h
set_option maxRecDepth 100000 in
set_option maxHeartbeats 4000000 in
theorem sl_X12_laysFar_3 {p : Program} {l : Launch} {e : Env} {s : State} {m : MethodId} {args : Array Value} {below : List Frame} {meth : Method} {c : Code} {z : Nat} {D : tc_D} {G : tc_G} (hW : tc_W G) (r : Int32) (ur : tc_S) : ∀ (n : Nat) (v0 : Nat) (v1 : Int32) (v2 : Int32) (v3 : Int32) (v4 : Int32) (u : tc_S) (iv0 : tc_is G v0 12) (h : lo_X12_laysFar_3 G n v0 v1 v2 v3 v4 u = some (r, ur)), tc_R p l e { frames := 2, cells := 0, slots := 0, locals := 47 } s m args below meth c z D cX12_laysFar RX12 8 none 0 0 (tc_pv G ur) 0 0 G u 3 [(0, .ref (z + v0)), (1, .int v1), (2, .int v2), (3, .int v3), (4, .int v4)] [] := by
  intro n
  induction n with
  | zero => intro v0 v1 v2 v3 v4 u iv0 h; cases h
  | succ n ih =>
    intro v0 v1 v2 v3 v4 u iv0 h
    rw [lo_X12_laysFar_3] at h
    refine tc_iload 4 rfl dX12_laysFar_3 ?_
    refine tc_iload_n 2 rfl dX12_laysFar_5 ?_
    refine tc_icmp_ge 40 dX12_laysFar_6 (by decide) (fun hc19 => ?_) (fun hc19 => ?_)
    · rw [if_pos hc19] at h
      refine tc_iconst (v := 0) (by decide) dX12_laysFar_40 ?_
      refine tc_istore [(4, .int 0), (0, .ref (z + v0)), (1, .int v1), (2, .int v2), (3, .int v3)] dX12_laysFar_41 (by decide) rfl ?_
      refine tc_lvs [1, 2, 3, 0] rfl ?_
      exact sl_X12_laysFar_43 hW r ur  _ v0 v1 v2 0 u iv0 h
    · rw [if_neg hc19] at h
      refine tc_aload_n 0 rfl dX12_laysFar_9 ?_
      refine tc_getp hW iv0 fl_X12_57 dX12_laysFar_10 rfl ?_
      refine tc_iload 4 rfl dX12_laysFar_13 ?_
      refine tc_aload_n 0 rfl dX12_laysFar_15 ?_
      refine tc_getp hW iv0 fl_X12_54 dX12_laysFar_16 rfl ?_
      refine tc_iload 4 rfl dX12_laysFar_19 ?_
      obtain ⟨bx20, x20, ex20, h⟩ := tc_ld_ex h
      refine tc_iald (hW.p iv0 19 rfl).1 bx20 dX12_laysFar_21 ?_
      refine tc_nm ex20 ?_
      refine tc_iload_n 3 rfl dX12_laysFar_22 ?_
      refine tc_icmp_ge 30 dX12_laysFar_23 (by decide) (fun hc21 => ?_) (fun hc21 => ?_)
      · rw [if_pos hc21] at h
        refine tc_sipush (v := 1000) (by decide) dX12_laysFar_30 ?_
        exact sb_X12_laysFar_33 hW r ur _ ih v0 v1 v2 v3 v4 (tc_p G v0 20) v4 1000 u iv0 (hW.p iv0 20 rfl) h
      · rw [if_neg hc21] at h
        refine tc_iconst (v := 0) (by decide) dX12_laysFar_26 ?_
        refine tc_goto 33 dX12_laysFar_27 (by decide) ?_
        exact sb_X12_laysFar_33 hW r ur _ ih v0 v1 v2 v3 v4 (tc_p G v0 20) v4 0 u iv0 (hW.p iv0 20 rfl) h
set_option maxRecDepth 100000 in
set_option maxHeartbeats 4000000 in
theorem ct_X12_laysFar {l : Launch} {z : Nat} {D : tc_D} {G : tc_G} (hW : tc_W G) {v0 : Nat} {v1 : Int32} {v2 : Int32} {v3 : Int32} {u : tc_S} {r : Int32} {ur : tc_S} (iv0 : tc_is G v0 12) (h : fn_X12_laysFar G v0 v1 v2 v3 u = some (r, ur)) : tc_C l z D yX12_laysFar cX12_laysFar 8 none 2 47 0 0 [.ref (z + v0), .int v1, .int v2, .int v3] G u (tc_pv G ur) := by
  unfold fn_X12_laysFar at h
  refine tc_C.of (by decide) (Nat.le_of_ble_eq_true rfl) fun p e s m args below meth c => ?_
  show tc_R p l e { frames := 2, cells := 0, slots := 0, locals := 47 } s m args below meth c z D cX12_laysFar RX12 8 none 0 0 (tc_pv G ur) 0 0 G u 0 [(0, .ref (z + v0)), (1, .int v1), (2, .int v2), (3, .int v3)] []
  refine tc_iconst (v := 0) (by decide) dX12_laysFar_0 ?_
  refine tc_istore [(4, .int 0), (0, .ref (z + v0)), (1, .int v1), (2, .int v2), (3, .int v3)] dX12_laysFar_1 (by decide) rfl ?_
  refine tc_lvs [1, 2, 3, 4, 0] rfl ?_
  exact sl_X12_laysFar_3 hW r ur  _ v0 v1 v2 v3 0 u iv0 h
set_option maxRecDepth 100000 in
set_option maxHeartbeats 4000000 in
theorem sb_X12_overBy_298 {p : Program} {l : Launch} {e : Env} {s : State} {m : MethodId} {args : Array Value} {below : List Frame} {meth : Method} {c : Code} {z : Nat} {D : tc_D} {G : tc_G} (hW : tc_W G) (r : Int32) (ur : tc_S) (K28 : Nat → Int32 → Int32 → Int32 → Int32 → tc_S → Option (Int32 × tc_S)) (hK28 : ∀ (v0 : Nat) (v1 : Int32) (v2 : Int32) (v3 : Int32) (v4 : Int32) (u : tc_S), tc_is G v0 12 → K28 v0 v1 v2 v3 v4 u = some (r, ur) → tc_R p l e { frames := 3, cells := 0, slots := 0, locals := 74 } s m args below meth c z D cX12_overBy RX12 11 (some .int) 0 0 (tc_po r G ur) 0 0 G u 28 [(0, .ref (z + v0)), (1, .int v1), (2, .int v2), (3, .int v3), (4, .int v4)] []) (v0 : Nat) (v1 : Int32) (v2 : Int32) (v3 : Int32) (v4 : Int32) (u : tc_S) (iv0 : tc_is G v0 12) (h : bl_X12_overBy_298 G K28 v0 v1 v2 v3 v4 u = some (r, ur)) : tc_R p l e { frames := 3, cells := 0, slots := 0, locals := 74 } s m args below meth c z D cX12_overBy RX12 11 (some .int) 0 0 (tc_po r G ur) 0 0 G u 298 [(0, .ref (z + v0)), (1, .int v1), (2, .int v2), (3, .int v3), (4, .int v4)] [] := by
  unfold bl_X12_overBy_298 at h
  obtain ⟨x1, ex1, h⟩ := tc_let_ex h
  refine tc_iinc 4 (v := x1) [(4, .int x1), (0, .ref (z + v0)), (1, .int v1), (2, .int v2), (3, .int v3)] dX12_overBy_298 rfl (by rw [ex1]; rfl) (by decide) rfl ?_
  refine tc_goto 28 dX12_overBy_301 (by decide) ?_
  refine tc_lvs [1, 2, 3, 4, 0] rfl ?_
  exact hK28 v0 v1 v2 v3 x1 u iv0 h
set_option maxRecDepth 100000 in
set_option maxHeartbeats 4000000 in
theorem sb_X12_overBy_245 {p : Program} {l : Launch} {e : Env} {s : State} {m : MethodId} {args : Array Value} {below : List Frame} {meth : Method} {c : Code} {z : Nat} {D : tc_D} {G : tc_G} (hW : tc_W G) (r : Int32) (ur : tc_S) (K28 : Nat → Int32 → Int32 → Int32 → Int32 → tc_S → Option (Int32 × tc_S)) (hK28 : ∀ (v0 : Nat) (v1 : Int32) (v2 : Int32) (v3 : Int32) (v4 : Int32) (u : tc_S), tc_is G v0 12 → K28 v0 v1 v2 v3 v4 u = some (r, ur) → tc_R p l e { frames := 3, cells := 0, slots := 0, locals := 74 } s m args below meth c z D cX12_overBy RX12 11 (some .int) 0 0 (tc_po r G ur) 0 0 G u 28 [(0, .ref (z + v0)), (1, .int v1), (2, .int v2), (3, .int v3), (4, .int v4)] []) (K171 : Nat → Int32 → Int32 → Int32 → Int32 → Int32 → Int32 → tc_S → Option (Int32 × tc_S)) (hK171 : ∀ (v0 : Nat) (v1 : Int32) (v2 : Int32) (v3 : Int32) (v4 : Int32) (v8 : Int32) (v9 : Int32) (u : tc_S), tc_is G v0 12 → K171 v0 v1 v2 v3 v4 v8 v9 u = some (r, ur) → tc_R p l e { frames := 3, cells := 0, slots := 0, locals := 74 } s m args below meth c z D cX12_overBy RX12 11 (some .int) 0 0 (tc_po r G ur) 0 0 G u 171 [(0, .ref (z + v0)), (1, .int v1), (2, .int v2), (3, .int v3), (4, .int v4), (8, .int v8), (9, .int v9)] []) (K184 : Nat → Int32 → Int32 → Int32 → Int32 → Int32 → Int32 → Int32 → tc_S → Option (Int32 × tc_S)) (hK184 : ∀ (v0 : Nat) (v1 : Int32) (v2 : Int32) (v3 : Int32) (v4 : Int32) (v8 : Int32) (v9 : Int32) (v10 : Int32) (u : tc_S), tc_is G v0 12 → K184 v0 v1 v2 v3 v4 v8 v9 v10 u = some (r, ur) → tc_R p l e { frames := 3, cells := 0, slots := 0, locals := 74 } s m args below meth c z D cX12_overBy RX12 11 (some .int) 0 0 (tc_po r G ur) 0 0 G u 184 [(0, .ref (z + v0)), (1, .int v1), (2, .int v2), (3, .int v3), (4, .int v4), (8, .int v8), (9, .int v9), (10, .int v10)] []) (v0 : Nat) (v1 : Int32) (v2 : Int32) (v3 : Int32) (v4 : Int32) (v8 : Int32) (v9 : Int32) (v10 : Int32) (u : tc_S) (iv0 : tc_is G v0 12) (h : bl_X12_overBy_245 G K28 K171 K184 v0 v1 v2 v3 v4 v8 v9 v10 u = some (r, ur)) : tc_R p l e { frames := 3, cells := 0, slots := 0, locals := 74 } s m args below meth c z D cX12_overBy RX12 11 (some .int) 0 0 (tc_po r G ur) 0 0 G u 245 [(0, .ref (z + v0)), (1, .int v1), (2, .int v2), (3, .int v3), (4, .int v4), (8, .int v8), (9, .int v9), (10, .int v10)] [] := by
  unfold bl_X12_overBy_245 at h
  obtain ⟨x2, ex2, h⟩ := tc_let_ex h
  refine tc_iinc 7 (v := x2) [(10, .int x2), (0, .ref (z + v0)), (1, .int v1), (2, .int v2), (3, .int v3), (4, .int v4), (8, .int v8), (9, .int v9)] dX12_overBy_245 rfl (by rw [ex2]; rfl) (by decide) rfl ?_
  refine tc_goto 184 dX12_overBy_248 (by decide) ?_
  refine tc_lvs [1, 2, 3, 4, 5, 6, 7, 0] rfl ?_
  exact hK184 v0 v1 v2 v3 v4 v8 v9 x2 u iv0 h
set_option maxRecDepth 100000 in
set_option maxHeartbeats 4000000 in
theorem sl_X12_overBy_184 {p : Program} {l : Launch} {e : Env} {s : State} {m : MethodId} {args : Array Value} {below : List Frame} {meth : Method} {c : Code} {z : Nat} {D : tc_D} {G : tc_G} (hW : tc_W G) (r : Int32) (ur : tc_S) (K28 : Nat → Int32 → Int32 → Int32 → Int32 → tc_S → Option (Int32 × tc_S)) (hK28 : ∀ (v0 : Nat) (v1 : Int32) (v2 : Int32) (v3 : Int32) (v4 : Int32) (u : tc_S), tc_is G v0 12 → K28 v0 v1 v2 v3 v4 u = some (r, ur) → tc_R p l e { frames := 3, cells := 0, slots := 0, locals := 74 } s m args below meth c z D cX12_overBy RX12 11 (some .int) 0 0 (tc_po r G ur) 0 0 G u 28 [(0, .ref (z + v0)), (1, .int v1), (2, .int v2), (3, .int v3), (4, .int v4)] []) (K171 : Nat → Int32 → Int32 → Int32 → Int32 → Int32 → Int32 → tc_S → Option (Int32 × tc_S)) (hK171 : ∀ (v0 : Nat) (v1 : Int32) (v2 : Int32) (v3 : Int32) (v4 : Int32) (v8 : Int32) (v9 : Int32) (u : tc_S), tc_is G v0 12 → K171 v0 v1 v2 v3 v4 v8 v9 u = some (r, ur) → tc_R p l e { frames := 3, cells := 0, slots := 0, locals := 74 } s m args below meth c z D cX12_overBy RX12 11 (some .int) 0 0 (tc_po r G ur) 0 0 G u 171 [(0, .ref (z + v0)), (1, .int v1), (2, .int v2), (3, .int v3), (4, .int v4), (8, .int v8), (9, .int v9)] []) : ∀ (n : Nat) (v0 : Nat) (v1 : Int32) (v2 : Int32) (v3 : Int32) (v4 : Int32) (v8 : Int32) (v9 : Int32) (v10 : Int32) (u : tc_S) (iv0 : tc_is G v0 12) (h : lo_X12_overBy_184 G K28 K171 n v0 v1 v2 v3 v4 v8 v9 v10 u = some (r, ur)), tc_R p l e { frames := 3, cells := 0, slots := 0, locals := 74 } s m args below meth c z D cX12_overBy RX12 11 (some .int) 0 0 (tc_po r G ur) 0 0 G u 184 [(0, .ref (z + v0)), (1, .int v1), (2, .int v2), (3, .int v3), (4, .int v4), (8, .int v8), (9, .int v9), (10, .int v10)] [] := by
  intro n
  induction n with
  | zero => intro v0 v1 v2 v3 v4 v8 v9 v10 u iv0 h; cases h
  | succ n ih =>
    intro v0 v1 v2 v3 v4 v8 v9 v10 u iv0 h
    rw [lo_X12_overBy_184] at h
    refine tc_iload 7 rfl dX12_overBy_184 ?_
    refine tc_iload 6 rfl dX12_overBy_186 ?_
    refine tc_icmp_eq 245 dX12_overBy_188 (by decide) (fun hc3 => ?_) (fun hc3 => ?_)
    · rw [if_pos hc3] at h
      exact sb_X12_overBy_245 hW r ur K28 hK28 K171 hK171 _ ih v0 v1 v2 v3 v4 v8 v9 v10 u iv0 h
    · rw [if_neg hc3] at h
      refine tc_iload 7 rfl dX12_overBy_191 ?_
      refine tc_iload 4 rfl dX12_overBy_193 ?_
      refine tc_icmp_ge 245 dX12_overBy_195 (by decide) (fun hc4 => ?_) (fun hc4 => ?_)
      · rw [if_pos hc4] at h
        exact sb_X12_overBy_245 hW r ur K28 hK28 K171 hK171 _ ih v0 v1 v2 v3 v4 v8 v9 v10 u iv0 h
      · rw [if_neg hc4] at h
        refine tc_aload_n 0 rfl dX12_overBy_198 ?_
        refine tc_getp hW iv0 fl_X12_51 dX12_overBy_199 rfl ?_
        refine tc_iload 7 rfl dX12_overBy_202 ?_
        obtain ⟨bx5, x5, ex5, h⟩ := tc_ld_ex h
        refine tc_iald (hW.p iv0 18 rfl).1 bx5 dX12_overBy_204 ?_
        refine tc_nm ex5 ?_
        refine tc_iload 5 rfl dX12_overBy_205 ?_
        refine tc_icmp_ne 245 dX12_overBy_207 (by decide) (fun hc6 => ?_) (fun hc6 => ?_)
        · rw [if_neg hc6] at h
          exact sb_X12_overBy_245 hW r ur K28 hK28 K171 hK171 _ ih v0 v1 v2 v3 v4 v8 v9 v10 u iv0 h
        · rw [if_pos hc6] at h
          refine tc_aload_n 0 rfl dX12_overBy_210 ?_
          refine tc_getp hW iv0 fl_X12_57 dX12_overBy_211 rfl ?_
          refine tc_aload_n 0 rfl dX12_overBy_214 ?_
          refine tc_aload_n 0 rfl dX12_overBy_215 ?_
          refine tc_getp hW iv0 fl_X12_39 dX12_overBy_216 rfl ?_
          refine tc_iconst (v := 4) (by decide) dX12_overBy_219 ?_
          refine tc_iload 7 rfl dX12_overBy_220 ?_
          refine tc_imul dX12_overBy_222 ?_
          obtain ⟨bx7, x7, ex7, h⟩ := tc_ld_ex h
          refine tc_iald (hW.p iv0 11 rfl).1 bx7 dX12_overBy_223 ?_
          refine tc_nm ex7 ?_
          refine tc_iconst (v := 1) (by decide) dX12_overBy_224 ?_
          refine tc_isub dX12_overBy_225 ?_
          refine tc_iload 5 rfl dX12_overBy_226 ?_
          refine tc_iload_n 1 rfl dX12_overBy_228 ?_
          obtain ⟨x8, u9, hq10, h⟩ := tc_b_ex h
          refine tc_callVi [.int (x7 - 1), .int v8, .int v1] dX12_overBy_229 iv0.1 (ct_X12_otherBy hW iv0 hq10) ml_X12_212 mw_X12_otherBy mv_X12_otherBy ⟨Nat.le_of_ble_eq_true rfl, Nat.le_of_ble_eq_true rfl⟩ rfl rfl (Nat.le_of_ble_eq_true rfl) ⟨Nat.le_refl _, Nat.le_refl _⟩ (by decide) ?_
          obtain ⟨bx11, x11, ex11, h⟩ := tc_ld_ex h
          refine tc_iald (hW.p iv0 20 rfl).1 bx11 dX12_overBy_232 ?_
          refine tc_nm ex11 ?_
          refine tc_aload_n 0 rfl dX12_overBy_233 ?_
          refine tc_getp hW iv0 fl_X12_57 dX12_overBy_234 rfl ?_
          refine tc_iload 5 rfl dX12_overBy_237 ?_
          obtain ⟨bx12, x12, ex12, h⟩ := tc_ld_ex h
          refine tc_iald (hW.p iv0 20 rfl).1 bx12 dX12_overBy_239 ?_
          refine tc_nm ex12 ?_
          refine tc_iconst (v := 1) (by decide) dX12_overBy_240 ?_
          refine tc_isub dX12_overBy_241 ?_
          refine tc_icmp_eq 251 dX12_overBy_242 (by decide) (fun hc13 => ?_) (fun hc13 => ?_)
          · rw [if_pos hc13] at h
            refine tc_aload_n 0 rfl dX12_overBy_251 ?_
            refine tc_aload_n 0 rfl dX12_overBy_252 ?_
            refine tc_getp hW iv0 fl_X12_39 dX12_overBy_253 rfl ?_
            refine tc_iconst (v := 4) (by decide) dX12_overBy_256 ?_
            refine tc_iload 7 rfl dX12_overBy_257 ?_
            refine tc_imul dX12_overBy_259 ?_
            obtain ⟨bx14, x14, ex14, h⟩ := tc_ld_ex h
            refine tc_iald (hW.p iv0 11 rfl).1 bx14 dX12_overBy_260 ?_
            refine tc_nm ex14 ?_
            refine tc_iconst (v := 1) (by decide) dX12_overBy_261 ?_
            refine tc_isub dX12_overBy_262 ?_
            refine tc_iload 5 rfl dX12_overBy_263 ?_
            refine tc_iload_n 1 rfl dX12_overBy_265 ?_
            obtain ⟨x15, u16, hq17, h⟩ := tc_b_ex h
            refine tc_callVi [.int (x14 - 1), .int v8, .int v1] dX12_overBy_266 iv0.1 (ct_X12_otherBy hW iv0 hq17) ml_X12_212 mw_X12_otherBy mv_X12_otherBy ⟨Nat.le_of_ble_eq_true rfl, Nat.le_of_ble_eq_true rfl⟩ rfl rfl (Nat.le_of_ble_eq_true rfl) ⟨Nat.le_refl _, Nat.le_refl _⟩ (by decide) ?_
            refine tc_istore [(8, .int x15), (0, .ref (z + v0)), (1, .int v1), (2, .int v2), (3, .int v3), (4, .int v4), (9, .int v9), (10, .int v10)] dX12_overBy_269 (by decide) rfl ?_
            refine tc_aload_n 1 rfl dX12_overBy_271 ?_
            refine tc_getp hW iv0 fl_X12_51 dX12_overBy_272 rfl ?_
            refine tc_iload 7 rfl dX12_overBy_275 ?_
            refine tc_iload 0 rfl dX12_overBy_277 ?_
            obtain ⟨bu18, u18, eu18, h⟩ := tc_sd_ex h
            refine tc_iast (hW.p iv0 18 rfl).1 bu18 dX12_overBy_279 ?_
            refine tc_nmu eu18 ?_
            refine tc_iload 7 rfl dX12_overBy_280 ?_
            refine tc_istore [(9, .int v10), (8, .int x15), (0, .ref (z + v0)), (1, .int v1), (2, .int v2), (3, .int v3), (4, .int v4), (10, .int v10)] dX12_overBy_282 (by decide) rfl ?_
            refine tc_goto 171 dX12_overBy_284 (by decide) ?_
            refine tc_lvs [2, 3, 4, 5, 6, 1, 0] rfl ?_
            exact hK171 v0 v1 v2 v3 v4 x15 v10 u18 iv0 h
          · rw [if_neg hc13] at h
            exact sb_X12_overBy_245 hW r ur K28 hK28 K171 hK171 _ ih v0 v1 v2 v3 v4 v8 v9 v10 u9 iv0 h
set_option maxRecDepth 100000 in
set_option maxHeartbeats 4000000 in
theorem sl_X12_overBy_171 {p : Program} {l : Launch} {e : Env} {s : State} {m : MethodId} {args : Array Value} {below : List Frame} {meth : Method} {c : Code} {z : Nat} {D : tc_D} {G : tc_G} (hW : tc_W G) (r : Int32) (ur : tc_S) (K28 : Nat → Int32 → Int32 → Int32 → Int32 → tc_S → Option (Int32 × tc_S)) (hK28 : ∀ (v0 : Nat) (v1 : Int32) (v2 : Int32) (v3 : Int32) (v4 : Int32) (u : tc_S), tc_is G v0 12 → K28 v0 v1 v2 v3 v4 u = some (r, ur) → tc_R p l e { frames := 3, cells := 0, slots := 0, locals := 74 } s m args below meth c z D cX12_overBy RX12 11 (some .int) 0 0 (tc_po r G ur) 0 0 G u 28 [(0, .ref (z + v0)), (1, .int v1), (2, .int v2), (3, .int v3), (4, .int v4)] []) : ∀ (n : Nat) (v0 : Nat) (v1 : Int32) (v2 : Int32) (v3 : Int32) (v4 : Int32) (v8 : Int32) (v9 : Int32) (u : tc_S) (iv0 : tc_is G v0 12) (h : lo_X12_overBy_171 G K28 n v0 v1 v2 v3 v4 v8 v9 u = some (r, ur)), tc_R p l e { frames := 3, cells := 0, slots := 0, locals := 74 } s m args below meth c z D cX12_overBy RX12 11 (some .int) 0 0 (tc_po r G ur) 0 0 G u 171 [(0, .ref (z + v0)), (1, .int v1), (2, .int v2), (3, .int v3), (4, .int v4), (8, .int v8), (9, .int v9)] [] := by
  intro n
  induction n with
  | zero => intro v0 v1 v2 v3 v4 v8 v9 u iv0 h; cases h
  | succ n ih =>
    intro v0 v1 v2 v3 v4 v8 v9 u iv0 h
    rw [lo_X12_overBy_171] at h
    refine tc_aload_n 0 rfl dX12_overBy_171 ?_
    refine tc_getp hW iv0 fl_X12_57 dX12_overBy_172 rfl ?_
    refine tc_iload 5 rfl dX12_overBy_175 ?_
    obtain ⟨bx19, x19, ex19, h⟩ := tc_ld_ex h
    refine tc_iald (hW.p iv0 20 rfl).1 bx19 dX12_overBy_177 ?_
    refine tc_nm ex19 ?_
    refine tc_if_le 287 dX12_overBy_178 (by decide) (fun hc20 => ?_) (fun hc20 => ?_)
    · rw [if_pos hc20] at h
      refine tc_aload_n 0 rfl dX12_overBy_287 ?_
      refine tc_getp hW iv0 fl_X12_54 dX12_overBy_288 rfl ?_
      refine tc_iload 5 rfl dX12_overBy_291 ?_
      refine tc_dup2 rfl rfl dX12_overBy_293 ?_
      obtain ⟨bx21, x21, ex21, h⟩ := tc_ld_ex h
      refine tc_iald (hW.p iv0 19 rfl).1 bx21 dX12_overBy_294 ?_
      refine tc_nm ex21 ?_
      refine tc_iconst (v := 1) (by decide) dX12_overBy_295 ?_
      refine tc_iadd dX12_overBy_296 ?_
      obtain ⟨bu22, u22, eu22, h⟩ := tc_sd_ex h
      refine tc_iast (hW.p iv0 19 rfl).1 bu22 dX12_overBy_297 ?_
      refine tc_nmu eu22 ?_
      refine tc_lvs [0, 1, 2, 3, 4] rfl ?_
      exact sb_X12_overBy_298 hW r ur K28 hK28 v0 v1 v2 v3 v4 u22 iv0 h
    · rw [if_neg hc20] at h
      refine tc_iconst (v := 0) (by decide) dX12_overBy_181 ?_
      refine tc_istore [(10, .int 0), (0, .ref (z + v0)), (1, .int v1), (2, .int v2), (3, .int v3), (4, .int v4), (8, .int v8), (9, .int v9)] dX12_overBy_182 (by decide) rfl ?_
      refine tc_lvs [1, 2, 3, 4, 5, 6, 7, 0] rfl ?_
      exact sl_X12_overBy_184 hW r ur K28 hK28 _ ih _ v0 v1 v2 v3 v4 v8 v9 0 u iv0 h
set_option maxRecDepth 100000 in
set_option maxHeartbeats 4000000 in
theorem sb_X12_overBy_149 {p : Program} {l : Launch} {e : Env} {s : State} {m : MethodId} {args : Array Value} {below : List Frame} {meth : Method} {c : Code} {z : Nat} {D : tc_D} {G : tc_G} (hW : tc_W G) (r : Int32) (ur : tc_S) (K28 : Nat → Int32 → Int32 → Int32 → Int32 → tc_S → Option (Int32 × tc_S)) (hK28 : ∀ (v0 : Nat) (v1 : Int32) (v2 : Int32) (v3 : Int32) (v4 : Int32) (u : tc_S), tc_is G v0 12 → K28 v0 v1 v2 v3 v4 u = some (r, ur) → tc_R p l e { frames := 3, cells := 0, slots := 0, locals := 74 } s m args below meth c z D cX12_overBy RX12 11 (some .int) 0 0 (tc_po r G ur) 0 0 G u 28 [(0, .ref (z + v0)), (1, .int v1), (2, .int v2), (3, .int v3), (4, .int v4)] []) (v0 : Nat) (v1 : Int32) (v2 : Int32) (v4 : Int32) (v8 : Int32) (s0 : Int32) (s1 : Int32) (u : tc_S) (iv0 : tc_is G v0 12) (h : bl_X12_overBy_149 G K28 v0 v1 v2 v4 v8 s0 s1 u = some (r, ur)) : tc_R p l e { frames := 3, cells := 0, slots := 0, locals := 74 } s m args below meth c z D cX12_overBy RX12 11 (some .int) 0 0 (tc_po r G ur) 0 0 G u 149 [(0, .ref (z + v0)), (1, .int v1), (2, .int v2), (4, .int v4), (8, .int v8)] [.int s1, .int s0] := by
  unfold bl_X12_overBy_149 at h
  refine tc_iadd dX12_overBy_149 ?_
  obtain ⟨x23, ex23, h⟩ := tc_let_ex h
  refine tc_nm ex23 ?_
  refine tc_istore_n [(3, .int x23), (0, .ref (z + v0)), (1, .int v1), (2, .int v2), (4, .int v4), (8, .int v8)] dX12_overBy_150 (by decide) rfl ?_
  refine tc_aload_n 1 rfl dX12_overBy_151 ?_
  refine tc_getp hW iv0 fl_X12_57 dX12_overBy_152 rfl ?_
  refine tc_iload 5 rfl dX12_overBy_155 ?_
  obtain ⟨bx24, x24, ex24, h⟩ := tc_ld_ex h
  refine tc_iald (hW.p iv0 20 rfl).1 bx24 dX12_overBy_157 ?_
  refine tc_nm ex24 ?_
  refine tc_sipush (v := 1000) (by decide) dX12_overBy_158 ?_
  refine tc_icmp_lt 167 dX12_overBy_161 (by decide) (fun hc25 => ?_) (fun hc25 => ?_)
  · rw [if_pos hc25] at h
    refine tc_iload 4 rfl dX12_overBy_167 ?_
    refine tc_istore [(9, .int v4), (3, .int x23), (0, .ref (z + v0)), (1, .int v1), (2, .int v2), (4, .int v4), (8, .int v8)] dX12_overBy_169 (by decide) rfl ?_
    refine tc_lvs [2, 3, 4, 1, 5, 6, 0] rfl ?_
    exact sl_X12_overBy_171 hW r ur K28 hK28 _ v0 v1 v2 x23 v4 v8 v4 u iv0 h
  · rw [if_neg hc25] at h
    refine tc_goto 298 dX12_overBy_164 (by decide) ?_
    refine tc_lvs [1, 2, 3, 0, 4] rfl ?_
    exact sb_X12_overBy_298 hW r ur K28 hK28 v0 v1 v2 x23 v4 u iv0 h
set_option maxRecDepth 100000 in
set_option maxHeartbeats 4000000 in
theorem sb_X12_overBy_129 {p : Program} {l : Launch} {e : Env} {s : State} {m : MethodId} {args : Array Value} {below : List Frame} {meth : Method} {c : Code} {z : Nat} {D : tc_D} {G : tc_G} (hW : tc_W G) (r : Int32) (ur : tc_S) (K28 : Nat → Int32 → Int32 → Int32 → Int32 → tc_S → Option (Int32 × tc_S)) (hK28 : ∀ (v0 : Nat) (v1 : Int32) (v2 : Int32) (v3 : Int32) (v4 : Int32) (u : tc_S), tc_is G v0 12 → K28 v0 v1 v2 v3 v4 u = some (r, ur) → tc_R p l e { frames := 3, cells := 0, slots := 0, locals := 74 } s m args below meth c z D cX12_overBy RX12 11 (some .int) 0 0 (tc_po r G ur) 0 0 G u 28 [(0, .ref (z + v0)), (1, .int v1), (2, .int v2), (3, .int v3), (4, .int v4)] []) (v0 : Nat) (v1 : Int32) (v2 : Int32) (v3 : Int32) (v4 : Int32) (v8 : Int32) (s0 : Nat) (s1 : Int32) (s2 : Int32) (u : tc_S) (iv0 : tc_is G v0 12) (is0 : tc_is G s0 100) (h : bl_X12_overBy_129 G K28 v0 v1 v2 v3 v4 v8 s0 s1 s2 u = some (r, ur)) : tc_R p l e { frames := 3, cells := 0, slots := 0, locals := 74 } s m args below meth c z D cX12_overBy RX12 11 (some .int) 0 0 (tc_po r G ur) 0 0 G u 129 [(0, .ref (z + v0)), (1, .int v1), (2, .int v2), (3, .int v3), (4, .int v4), (8, .int v8)] [.int s2, .int s1, .ref (z + s0)] := by
  unfold bl_X12_overBy_129 at h
  obtain ⟨bu26, u26, eu26, h⟩ := tc_sd_ex h
  refine tc_iast is0.1 bu26 dX12_overBy_129 ?_
  refine tc_nmu eu26 ?_
  refine tc_iload_n 3 rfl dX12_overBy_130 ?_
  refine tc_aload_n 0 rfl dX12_overBy_131 ?_
  refine tc_getp hW iv0 fl_X12_57 dX12_overBy_132 rfl ?_
  refine tc_iload 5 rfl dX12_overBy_135 ?_
  obtain ⟨bx27, x27, ex27, h⟩ := tc_ld_ex h
  refine tc_iald (hW.p iv0 20 rfl).1 bx27 dX12_overBy_137 ?_
  refine tc_nm ex27 ?_
  refine tc_sipush (v := 1000) (by decide) dX12_overBy_138 ?_
  refine tc_icmp_lt 148 dX12_overBy_141 (by decide) (fun hc28 => ?_) (fun hc28 => ?_)
  · rw [if_pos hc28] at h
    refine tc_iconst (v := 0) (by decide) dX12_overBy_148 ?_
    refine tc_lvs [0, 1, 2, 4, 5] rfl ?_
    exact sb_X12_overBy_149 hW r ur K28 hK28 v0 v1 v2 v4 v8 v3 0 u26 iv0 h
  · rw [if_neg hc28] at h
    refine tc_iconst (v := 1) (by decide) dX12_overBy_144 ?_
    refine tc_goto 149 dX12_overBy_145 (by decide) ?_
    refine tc_lvs [0, 1, 2, 4, 5] rfl ?_
    exact sb_X12_overBy_149 hW r ur K28 hK28 v0 v1 v2 v4 v8 v3 1 u26 iv0 h
set_option maxRecDepth 100000 in
set_option maxHeartbeats 4000000 in
theorem sb_X12_overBy_102 {p : Program} {l : Launch} {e : Env} {s : State} {m : MethodId} {args : Array Value} {below : List Frame} {meth : Method} {c : Code} {z : Nat} {D : tc_D} {G : tc_G} (hW : tc_W G) (r : Int32) (ur : tc_S) (K28 : Nat → Int32 → Int32 → Int32 → Int32 → tc_S → Option (Int32 × tc_S)) (hK28 : ∀ (v0 : Nat) (v1 : Int32) (v2 : Int32) (v3 : Int32) (v4 : Int32) (u : tc_S), tc_is G v0 12 → K28 v0 v1 v2 v3 v4 u = some (r, ur) → tc_R p l e { frames := 3, cells := 0, slots := 0, locals := 74 } s m args below meth c z D cX12_overBy RX12 11 (some .int) 0 0 (tc_po r G ur) 0 0 G u 28 [(0, .ref (z + v0)), (1, .int v1), (2, .int v2), (3, .int v3), (4, .int v4)] []) (v0 : Nat) (v1 : Int32) (v2 : Int32) (v3 : Int32) (v4 : Int32) (s0 : Int32) (u : tc_S) (iv0 : tc_is G v0 12) (h : bl_X12_overBy_102 G K28 v0 v1 v2 v3 v4 s0 u = some (r, ur)) : tc_R p l e { frames := 3, cells := 0, slots := 0, locals := 74 } s m args below meth c z D cX12_overBy RX12 11 (some .int) 0 0 (tc_po r G ur) 0 0 G u 102 [(0, .ref (z + v0)), (1, .int v1), (2, .int v2), (3, .int v3), (4, .int v4)] [.int s0] := by
  unfold bl_X12_overBy_102 at h
  refine tc_istore [(8, .int s0), (0, .ref (z + v0)), (1, .int v1), (2, .int v2), (3, .int v3), (4, .int v4)] dX12_overBy_102 (by decide) rfl ?_
  refine tc_aload_n 1 rfl dX12_overBy_104 ?_
  refine tc_getp hW iv0 fl_X12_51 dX12_overBy_105 rfl ?_
  refine tc_iload 5 rfl dX12_overBy_108 ?_
  refine tc_aload_n 1 rfl dX12_overBy_110 ?_
  refine tc_getp hW iv0 fl_X12_57 dX12_overBy_111 rfl ?_
  refine tc_iload 0 rfl dX12_overBy_114 ?_
  obtain ⟨bx29, x29, ex29, h⟩ := tc_ld_ex h
  refine tc_iald (hW.p iv0 20 rfl).1 bx29 dX12_overBy_116 ?_
  refine tc_nm ex29 ?_
  refine tc_sipush (v := 1000) (by decide) dX12_overBy_117 ?_
  refine tc_icmp_lt 127 dX12_overBy_120 (by decide) (fun hc30 => ?_) (fun hc30 => ?_)
  · rw [if_pos hc30] at h
    refine tc_iload 0 rfl dX12_overBy_127 ?_
    refine tc_lvs [1, 2, 3, 4, 5, 0] rfl ?_
    exact sb_X12_overBy_129 hW r ur K28 hK28 v0 v1 v2 v3 v4 s0 (tc_p G v0 18) v4 s0 u iv0 (hW.p iv0 18 rfl) h
  · rw [if_neg hc30] at h
    refine tc_iconst (v := (-1)) (by decide) dX12_overBy_123 ?_
    refine tc_goto 129 dX12_overBy_124 (by decide) ?_
    refine tc_lvs [1, 2, 3, 4, 5, 0] rfl ?_
    exact sb_X12_overBy_129 hW r ur K28 hK28 v0 v1 v2 v3 v4 s0 (tc_p G v0 18) v4 (-1) u iv0 (hW.p iv0 18 rfl) h
set_option maxRecDepth 100000 in
set_option maxHeartbeats 4000000 in
theorem sl_X12_overBy_28 {p : Program} {l : Launch} {e : Env} {s : State} {m : MethodId} {args : Array Value} {below : List Frame} {meth : Method} {c : Code} {z : Nat} {D : tc_D} {G : tc_G} (hW : tc_W G) (r : Int32) (ur : tc_S) : ∀ (n : Nat) (v0 : Nat) (v1 : Int32) (v2 : Int32) (v3 : Int32) (v4 : Int32) (u : tc_S) (iv0 : tc_is G v0 12) (h : lo_X12_overBy_28 G n v0 v1 v2 v3 v4 u = some (r, ur)), tc_R p l e { frames := 3, cells := 0, slots := 0, locals := 74 } s m args below meth c z D cX12_overBy RX12 11 (some .int) 0 0 (tc_po r G ur) 0 0 G u 28 [(0, .ref (z + v0)), (1, .int v1), (2, .int v2), (3, .int v3), (4, .int v4)] [] := by
  intro n
  induction n with
  | zero => intro v0 v1 v2 v3 v4 u iv0 h; cases h
  | succ n ih =>
    intro v0 v1 v2 v3 v4 u iv0 h
    rw [lo_X12_overBy_28] at h
    refine tc_iload 4 rfl dX12_overBy_28 ?_
    refine tc_aload_n 0 rfl dX12_overBy_30 ?_
    refine tc_geti iv0.1 fl_X12_142 dX12_overBy_31 ?_
    refine tc_icmp_ge 304 dX12_overBy_34 (by decide) (fun hc31 => ?_) (fun hc31 => ?_)
    · rw [if_pos hc31] at h
      refine tc_iload_n 3 rfl dX12_overBy_304 ?_
      cases h
      exact tc_ireturn rfl dX12_overBy_305 rfl rfl ⟨rfl, rfl, rfl⟩
    · rw [if_neg hc31] at h
      refine tc_aload_n 0 rfl dX12_overBy_37 ?_
      refine tc_getp hW iv0 fl_X12_39 dX12_overBy_38 rfl ?_
      refine tc_iconst (v := 4) (by decide) dX12_overBy_41 ?_
      refine tc_iload 4 rfl dX12_overBy_42 ?_
      refine tc_imul dX12_overBy_44 ?_
      obtain ⟨bx32, x32, ex32, h⟩ := tc_ld_ex h
      refine tc_iald (hW.p iv0 11 rfl).1 bx32 dX12_overBy_45 ?_
      refine tc_nm ex32 ?_
      refine tc_iconst (v := 1) (by decide) dX12_overBy_46 ?_
      refine tc_isub dX12_overBy_47 ?_
      obtain ⟨x33, ex33, h⟩ := tc_let_ex h
      refine tc_nm ex33 ?_
      refine tc_istore [(5, .int x33), (0, .ref (z + v0)), (1, .int v1), (2, .int v2), (3, .int v3), (4, .int v4)] dX12_overBy_48 (by decide) rfl ?_
      refine tc_aload_n 1 rfl dX12_overBy_50 ?_
      refine tc_iload 5 rfl dX12_overBy_51 ?_
      refine tc_iload_n 2 rfl dX12_overBy_53 ?_
      refine tc_iload_n 3 rfl dX12_overBy_54 ?_
      obtain ⟨x34, u35, hq36, h⟩ := tc_b_ex h
      refine tc_callVv [.int v4, .int v1, .int v2] dX12_overBy_55 iv0.1 (ct_X12_laysFar hW iv0 hq36) ml_X12_215 mw_X12_laysFar mv_X12_laysFar ⟨Nat.le_of_ble_eq_true rfl, Nat.le_of_ble_eq_true rfl⟩ rfl rfl (Nat.le_of_ble_eq_true rfl) ⟨Nat.le_refl _, Nat.le_refl _⟩ (by decide) ?_
      refine tc_aload_n 1 rfl dX12_overBy_58 ?_
      refine tc_iload 0 rfl dX12_overBy_59 ?_
      refine tc_iconst (v := 0) (by decide) dX12_overBy_61 ?_
      refine tc_iload_n 2 rfl dX12_overBy_62 ?_
      obtain ⟨x37, u38, hq39, h⟩ := tc_b_ex h
      refine tc_callVi [.int x33, .int 0, .int v1] dX12_overBy_63 iv0.1 (ct_X12_hashBy hW iv0 hq39) ml_X12_209 mw_X12_hashBy mv_X12_hashBy ⟨Nat.le_of_ble_eq_true rfl, Nat.le_of_ble_eq_true rfl⟩ rfl rfl (Nat.le_of_ble_eq_true rfl) ⟨Nat.le_refl _, Nat.le_refl _⟩ (by decide) ?_
      refine tc_istore [(6, .int x37), (5, .int x33), (0, .ref (z + v0)), (1, .int v1), (2, .int v2), (3, .int v3), (4, .int v4)] dX12_overBy_66 (by decide) rfl ?_
      refine tc_aload_n 2 rfl dX12_overBy_68 ?_
      refine tc_iload 1 rfl dX12_overBy_69 ?_
      refine tc_iconst (v := 1) (by decide) dX12_overBy_71 ?_
      refine tc_iload_n 3 rfl dX12_overBy_72 ?_
      obtain ⟨x40, u41, hq42, h⟩ := tc_b_ex h
      refine tc_callVi [.int x33, .int 1, .int v1] dX12_overBy_73 iv0.1 (ct_X12_hashBy hW iv0 hq42) ml_X12_209 mw_X12_hashBy mv_X12_hashBy ⟨Nat.le_of_ble_eq_true rfl, Nat.le_of_ble_eq_true rfl⟩ rfl rfl (Nat.le_of_ble_eq_true rfl) ⟨Nat.le_refl _, Nat.le_refl _⟩ (by decide) ?_
      refine tc_istore [(7, .int x40), (6, .int x37), (5, .int x33), (0, .ref (z + v0)), (1, .int v1), (2, .int v2), (3, .int v3), (4, .int v4)] dX12_overBy_76 (by decide) rfl ?_
      refine tc_aload_n 3 rfl dX12_overBy_78 ?_
      refine tc_getp hW iv0 fl_X12_57 dX12_overBy_79 rfl ?_
      refine tc_iload 0 rfl dX12_overBy_82 ?_
      obtain ⟨bx43, x43, ex43, h⟩ := tc_ld_ex h
      refine tc_iald (hW.p iv0 20 rfl).1 bx43 dX12_overBy_84 ?_
      refine tc_nm ex43 ?_
      refine tc_aload_n 3 rfl dX12_overBy_85 ?_
      refine tc_getp hW iv0 fl_X12_57 dX12_overBy_86 rfl ?_
      refine tc_iload 1 rfl dX12_overBy_89 ?_
      obtain ⟨bx44, x44, ex44, h⟩ := tc_ld_ex h
      refine tc_iald (hW.p iv0 20 rfl).1 bx44 dX12_overBy_91 ?_
      refine tc_nm ex44 ?_
      refine tc_icmp_ge 100 dX12_overBy_92 (by decide) (fun hc45 => ?_) (fun hc45 => ?_)
      · rw [if_pos hc45] at h
        refine tc_iload 1 rfl dX12_overBy_100 ?_
        refine tc_lvs [3, 4, 5, 6, 7] rfl ?_
        exact sb_X12_overBy_102 hW r ur _ ih v0 v1 v2 v3 v4 x37 u41 iv0 h
      · rw [if_neg hc45] at h
        refine tc_iload 0 rfl dX12_overBy_95 ?_
        refine tc_goto 102 dX12_overBy_97 (by decide) ?_
        refine tc_lvs [3, 4, 5, 6, 7] rfl ?_
        exact sb_X12_overBy_102 hW r ur _ ih v0 v1 v2 v3 v4 x40 u41 iv0 h
set_option maxRecDepth 100000 in
set_option maxHeartbeats 4000000 in
theorem sl_X12_overBy_5 {p : Program} {l : Launch} {e : Env} {s : State} {m : MethodId} {args : Array Value} {below : List Frame} {meth : Method} {c : Code} {z : Nat} {D : tc_D} {G : tc_G} (hW : tc_W G) (r : Int32) (ur : tc_S) : ∀ (n : Nat) (v0 : Nat) (v1 : Int32) (v2 : Int32) (v3 : Int32) (v4 : Int32) (u : tc_S) (iv0 : tc_is G v0 12) (h : lo_X12_overBy_5 G n v0 v1 v2 v3 v4 u = some (r, ur)), tc_R p l e { frames := 3, cells := 0, slots := 0, locals := 74 } s m args below meth c z D cX12_overBy RX12 11 (some .int) 0 0 (tc_po r G ur) 0 0 G u 5 [(0, .ref (z + v0)), (1, .int v1), (2, .int v2), (3, .int v3), (4, .int v4)] [] := by
  intro n
  induction n with
  | zero => intro v0 v1 v2 v3 v4 u iv0 h; cases h
  | succ n ih =>
    intro v0 v1 v2 v3 v4 u iv0 h
    rw [lo_X12_overBy_5] at h
    refine tc_iload 4 rfl dX12_overBy_5 ?_
    refine tc_iload_n 1 rfl dX12_overBy_7 ?_
    refine tc_icmp_ge 25 dX12_overBy_8 (by decide) (fun hc46 => ?_) (fun hc46 => ?_)
    · rw [if_pos hc46] at h
      refine tc_iconst (v := 0) (by decide) dX12_overBy_25 ?_
      refine tc_istore [(4, .int 0), (0, .ref (z + v0)), (1, .int v1), (2, .int v2), (3, .int v3)] dX12_overBy_26 (by decide) rfl ?_
      refine tc_lvs [1, 2, 3, 4, 0] rfl ?_
      exact sl_X12_overBy_28 hW r ur  _ v0 v1 v2 v3 0 u iv0 h
    · rw [if_neg hc46] at h
      refine tc_aload_n 0 rfl dX12_overBy_11 ?_
      refine tc_getp hW iv0 fl_X12_54 dX12_overBy_12 rfl ?_
      refine tc_iload 4 rfl dX12_overBy_15 ?_
      refine tc_iconst (v := 0) (by decide) dX12_overBy_17 ?_
      obtain ⟨bu47, u47, eu47, h⟩ := tc_sd_ex h
      refine tc_iast (hW.p iv0 19 rfl).1 bu47 dX12_overBy_18 ?_
      refine tc_nmu eu47 ?_
      obtain ⟨x48, ex48, h⟩ := tc_let_ex h
      refine tc_iinc 4 (v := x48) [(4, .int x48), (0, .ref (z + v0)), (1, .int v1), (2, .int v2), (3, .int v3)] dX12_overBy_19 rfl (by rw [ex48]; rfl) (by decide) rfl ?_
      refine tc_goto 5 dX12_overBy_22 (by decide) ?_
      refine tc_lvs [1, 2, 3, 4, 0] rfl ?_
      exact ih v0 v1 v2 v3 x48 u47 iv0 h
set_option maxRecDepth 100000 in
set_option maxHeartbeats 4000000 in
theorem ct_X12_overBy {l : Launch} {z : Nat} {D : tc_D} {G : tc_G} (hW : tc_W G) {v0 : Nat} {v1 : Int32} {v2 : Int32} {u : tc_S} {r : Int32} {ur : tc_S} (iv0 : tc_is G v0 12) (h : fn_X12_overBy G v0 v1 v2 u = some (r, ur)) : tc_C l z D yX12_overBy cX12_overBy 11 (some .int) 3 74 0 0 [.ref (z + v0), .int v1, .int v2] G u (tc_po r G ur) := by
  unfold fn_X12_overBy at h
  refine tc_C.of (by decide) (Nat.le_of_ble_eq_true rfl) fun p e s m args below meth c => ?_
  show tc_R p l e { frames := 3, cells := 0, slots := 0, locals := 74 } s m args below meth c z D cX12_overBy RX12 11 (some .int) 0 0 (tc_po r G ur) 0 0 G u 0 [(0, .ref (z + v0)), (1, .int v1), (2, .int v2)] []
  refine tc_iconst (v := 0) (by decide) dX12_overBy_0 ?_
  refine tc_istore_n [(3, .int 0), (0, .ref (z + v0)), (1, .int v1), (2, .int v2)] dX12_overBy_1 (by decide) rfl ?_
  refine tc_iconst (v := 0) (by decide) dX12_overBy_2 ?_
  refine tc_istore [(4, .int 0), (3, .int 0), (0, .ref (z + v0)), (1, .int v1), (2, .int v2)] dX12_overBy_3 (by decide) rfl ?_
  refine tc_lvs [2, 3, 4, 1, 0] rfl ?_
  exact sl_X12_overBy_5 hW r ur  _ v0 v1 v2 0 0 u iv0 h
set_option maxRecDepth 100000 in
set_option maxHeartbeats 4000000 in
theorem ct_X12_over {l : Launch} {z : Nat} {D : tc_D} {G : tc_G} (hW : tc_W G) {v0 : Nat} {u : tc_S} {r : Int32} {ur : tc_S} (iv0 : tc_is G v0 12) (h : fn_X12_over G v0 u = some (r, ur)) : tc_C l z D yX12_over cX12_over 1 (some .int) 4 104 0 0 [.ref (z + v0)] G u (tc_po r G ur) := by
  unfold fn_X12_over at h
  refine tc_C.of (by decide) (Nat.le_of_ble_eq_true rfl) fun p e s m args below meth c => ?_
  show tc_R p l e { frames := 4, cells := 0, slots := 0, locals := 104 } s m args below meth c z D cX12_over RX12 1 (some .int) 0 0 (tc_po r G ur) 0 0 G u 0 [(0, .ref (z + v0))] []
  refine tc_aload_n 0 rfl dX12_over_0 ?_
  refine tc_iconst (v := 0) (by decide) dX12_over_1 ?_
  obtain ⟨x1, u2, hq3, h⟩ := tc_b_ex h
  refine tc_callVv [.int 0] dX12_over_2 iv0.1 (ct_X12_lists hW iv0 hq3) ml_X12_152 mw_X12_lists mv_X12_lists ⟨Nat.le_of_ble_eq_true rfl, Nat.le_of_ble_eq_true rfl⟩ rfl rfl (Nat.le_of_ble_eq_true rfl) ⟨Nat.le_refl _, Nat.le_refl _⟩ (by decide) ?_
  refine tc_aload_n 0 rfl dX12_over_5 ?_
  obtain ⟨x4, u5, hq6, h⟩ := tc_b_ex h
  refine tc_callVv [] dX12_over_6 iv0.1 (ct_X12_asNow hW iv0 hq6) ml_X12_218 mw_X12_asNow mv_X12_asNow ⟨Nat.le_of_ble_eq_true rfl, Nat.le_of_ble_eq_true rfl⟩ rfl rfl (Nat.le_of_ble_eq_true rfl) ⟨Nat.le_refl _, Nat.le_refl _⟩ (by decide) ?_
  refine tc_aload_n 0 rfl dX12_over_9 ?_
  refine tc_aload_n 0 rfl dX12_over_10 ?_
  refine tc_getp hW iv0 fl_X12_7 dX12_over_11 rfl ?_
  refine tc_iconst (v := 0) (by decide) dX12_over_14 ?_
  obtain ⟨bx7, x7, ex7, h⟩ := tc_ld_ex h
  refine tc_iald (hW.p iv0 0 rfl).1 bx7 dX12_over_15 ?_
  refine tc_nm ex7 ?_
  refine tc_aload_n 0 rfl dX12_over_16 ?_
  refine tc_getp hW iv0 fl_X12_7 dX12_over_17 rfl ?_
  refine tc_iconst (v := 1) (by decide) dX12_over_20 ?_
  obtain ⟨bx8, x8, ex8, h⟩ := tc_ld_ex h
  refine tc_iald (hW.p iv0 0 rfl).1 bx8 dX12_over_21 ?_
  refine tc_nm ex8 ?_
  obtain ⟨x9, u10, hq11, h⟩ := tc_b_ex h
  refine tc_callVi [.int x7, .int x8] dX12_over_22 iv0.1 (ct_X12_overBy hW iv0 hq11) ml_X12_221 mw_X12_overBy mv_X12_overBy ⟨Nat.le_of_ble_eq_true rfl, Nat.le_of_ble_eq_true rfl⟩ rfl rfl (Nat.le_of_ble_eq_true rfl) ⟨Nat.le_refl _, Nat.le_refl _⟩ (by decide) ?_
  cases h
  exact tc_ireturn rfl dX12_over_25 rfl rfl ⟨rfl, rfl, rfl⟩
