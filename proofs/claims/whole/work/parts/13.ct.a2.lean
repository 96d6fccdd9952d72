set_option maxRecDepth 100000 in
set_option maxHeartbeats 4000000 in
theorem sb_X9_locate_72 {p : Program} {l : Launch} {e : Env} {s : State} {m : MethodId} {args : Array Value} {below : List Frame} {meth : Method} {c : Code} {z : Nat} {D : tc_D} {G : tc_G} (hW : tc_W G) (r : Int32) (ur : tc_S) (v2 : Int32) (u : tc_S) (h : bl_X9_locate_72 G v2 u = some (r, ur)) : tc_R p l e { frames := 2, cells := 0, slots := 0, locals := 45 } s m args below meth c z D cX9_locate RX9 4 (some .int) 0 0 (tc_po r G ur) 0 0 G u 72 [(2, .int v2)] [] := by
  unfold bl_X9_locate_72 at h
  refine tc_iload_n 0 rfl dX9_locate_72 ?_
  cases h
  exact tc_ireturn rfl dX9_locate_73 rfl rfl ⟨rfl, rfl, rfl⟩
set_option maxRecDepth 100000 in
set_option maxHeartbeats 4000000 in
theorem sb_X9_locate_66 {p : Program} {l : Launch} {e : Env} {s : State} {m : MethodId} {args : Array Value} {below : List Frame} {meth : Method} {c : Code} {z : Nat} {D : tc_D} {G : tc_G} (hW : tc_W G) (r : Int32) (ur : tc_S) (K37 : Nat → Int32 → Int32 → Int32 → tc_S → Option (Int32 × tc_S)) (hK37 : ∀ (v0 : Nat) (v1 : Int32) (v2 : Int32) (v3 : Int32) (u : tc_S), tc_is G v0 9 → K37 v0 v1 v2 v3 u = some (r, ur) → tc_R p l e { frames := 2, cells := 0, slots := 0, locals := 45 } s m args below meth c z D cX9_locate RX9 4 (some .int) 0 0 (tc_po r G ur) 0 0 G u 37 [(0, .ref (z + v0)), (1, .int v1), (2, .int v2), (3, .int v3)] []) (v0 : Nat) (v1 : Int32) (v2 : Int32) (v3 : Int32) (u : tc_S) (iv0 : tc_is G v0 9) (h : bl_X9_locate_66 G K37 v0 v1 v2 v3 u = some (r, ur)) : tc_R p l e { frames := 2, cells := 0, slots := 0, locals := 45 } s m args below meth c z D cX9_locate RX9 4 (some .int) 0 0 (tc_po r G ur) 0 0 G u 66 [(0, .ref (z + v0)), (1, .int v1), (2, .int v2), (3, .int v3)] [] := by
  unfold bl_X9_locate_66 at h
  obtain ⟨x1, ex1, h⟩ := tc_let_ex h
  refine tc_iinc 3 (v := x1) [(3, .int x1), (0, .ref (z + v0)), (1, .int v1), (2, .int v2)] dX9_locate_66 rfl (by rw [ex1]; rfl) (by decide) rfl ?_
  refine tc_goto 37 dX9_locate_69 (by decide) ?_
  refine tc_lvs [1, 2, 3, 0] rfl ?_
  exact hK37 v0 v1 v2 x1 u iv0 h
set_option maxRecDepth 100000 in
set_option maxHeartbeats 4000000 in
theorem sl_X9_locate_37 {p : Program} {l : Launch} {e : Env} {s : State} {m : MethodId} {args : Array Value} {below : List Frame} {meth : Method} {c : Code} {z : Nat} {D : tc_D} {G : tc_G} (hW : tc_W G) (r : Int32) (ur : tc_S) : ∀ (n : Nat) (v0 : Nat) (v1 : Int32) (v2 : Int32) (v3 : Int32) (u : tc_S) (iv0 : tc_is G v0 9) (h : lo_X9_locate_37 G n v0 v1 v2 v3 u = some (r, ur)), tc_R p l e { frames := 2, cells := 0, slots := 0, locals := 45 } s m args below meth c z D cX9_locate RX9 4 (some .int) 0 0 (tc_po r G ur) 0 0 G u 37 [(0, .ref (z + v0)), (1, .int v1), (2, .int v2), (3, .int v3)] [] := by
  intro n
  induction n with
  | zero => intro v0 v1 v2 v3 u iv0 h; cases h
  | succ n ih =>
    intro v0 v1 v2 v3 u iv0 h
    rw [lo_X9_locate_37] at h
    refine tc_iload_n 2 rfl dX9_locate_37 ?_
    refine tc_if_ge 72 dX9_locate_38 (by decide) (fun hc2 => ?_) (fun hc2 => ?_)
    · rw [if_pos hc2] at h
      refine tc_lvs [2] rfl ?_
      exact sb_X9_locate_72 hW r ur  v2 u  h
    · rw [if_neg hc2] at h
      refine tc_iload_n 3 rfl dX9_locate_41 ?_
      refine tc_aload_n 0 rfl dX9_locate_42 ?_
      refine tc_geti iv0.1 fl_X9_22 dX9_locate_43 ?_
      refine tc_aload_n 0 rfl dX9_locate_46 ?_
      refine tc_geti iv0.1 fl_X9_77 dX9_locate_47 ?_
      refine tc_iadd dX9_locate_50 ?_
      refine tc_icmp_ge 72 dX9_locate_51 (by decide) (fun hc3 => ?_) (fun hc3 => ?_)
      · rw [if_pos hc3] at h
        refine tc_lvs [2] rfl ?_
        exact sb_X9_locate_72 hW r ur  v2 u  h
      · rw [if_neg hc3] at h
        refine tc_aload_n 0 rfl dX9_locate_54 ?_
        refine tc_getp hW iv0 fl_X9_29 dX9_locate_55 rfl ?_
        refine tc_iload_n 3 rfl dX9_locate_58 ?_
        obtain ⟨bx4, x4, ex4, h⟩ := tc_ld_ex h
        refine tc_iald (hW.p iv0 3 rfl).1 bx4 dX9_locate_59 ?_
        refine tc_nm ex4 ?_
        refine tc_iload_n 1 rfl dX9_locate_60 ?_
        refine tc_icmp_ne 66 dX9_locate_61 (by decide) (fun hc5 => ?_) (fun hc5 => ?_)
        · rw [if_neg hc5] at h
          exact sb_X9_locate_66 hW r ur _ ih v0 v1 v2 v3 u iv0 h
        · rw [if_pos hc5] at h
          refine tc_iload_n 3 rfl dX9_locate_64 ?_
          refine tc_istore_n [(2, .int v3), (0, .ref (z + v0)), (1, .int v1), (3, .int v3)] dX9_locate_65 (by decide) rfl ?_
          refine tc_lvs [1, 2, 0, 3] rfl ?_
          exact sb_X9_locate_66 hW r ur _ ih v0 v1 v3 v3 u iv0 h
set_option maxRecDepth 100000 in
set_option maxHeartbeats 4000000 in
theorem sb_X9_locate_32 {p : Program} {l : Launch} {e : Env} {s : State} {m : MethodId} {args : Array Value} {below : List Frame} {meth : Method} {c : Code} {z : Nat} {D : tc_D} {G : tc_G} (hW : tc_W G) (r : Int32) (ur : tc_S) (v0 : Nat) (v1 : Int32) (v2 : Int32) (u : tc_S) (iv0 : tc_is G v0 9) (h : bl_X9_locate_32 G v0 v1 v2 u = some (r, ur)) : tc_R p l e { frames := 2, cells := 0, slots := 0, locals := 45 } s m args below meth c z D cX9_locate RX9 4 (some .int) 0 0 (tc_po r G ur) 0 0 G u 32 [(0, .ref (z + v0)), (1, .int v1), (2, .int v2)] [] := by
  unfold bl_X9_locate_32 at h
  refine tc_aload_n 0 rfl dX9_locate_32 ?_
  refine tc_geti iv0.1 fl_X9_22 dX9_locate_33 ?_
  obtain ⟨x6, ex6, h⟩ := tc_let_ex h
  refine tc_nm ex6 ?_
  refine tc_istore_n [(3, .int x6), (0, .ref (z + v0)), (1, .int v1), (2, .int v2)] dX9_locate_36 (by decide) rfl ?_
  refine tc_lvs [1, 2, 3, 0] rfl ?_
  exact sl_X9_locate_37 hW r ur  _ v0 v1 v2 x6 u iv0 h
set_option maxRecDepth 100000 in
set_option maxHeartbeats 4000000 in
theorem ct_X9_locate {l : Launch} {z : Nat} {D : tc_D} {G : tc_G} (hW : tc_W G) {v0 : Nat} {v1 : Int32} {u : tc_S} {r : Int32} {ur : tc_S} (iv0 : tc_is G v0 9) (h : fn_X9_locate G v0 v1 u = some (r, ur)) : tc_C l z D yX9_locate cX9_locate 4 (some .int) 2 45 0 0 [.ref (z + v0), .int v1] G u (tc_po r G ur) := by
  unfold fn_X9_locate at h
  refine tc_C.of (by decide) (Nat.le_of_ble_eq_true rfl) fun p e s m args below meth c => ?_
  show tc_R p l e { frames := 2, cells := 0, slots := 0, locals := 45 } s m args below meth c z D cX9_locate RX9 4 (some .int) 0 0 (tc_po r G ur) 0 0 G u 0 [(0, .ref (z + v0)), (1, .int v1)] []
  refine tc_aload_n 0 rfl dX9_locate_0 ?_
  refine tc_aload_n 0 rfl dX9_locate_1 ?_
  refine tc_getp hW iv0 fl_X9_12 dX9_locate_2 rfl ?_
  refine tc_iload_n 1 rfl dX9_locate_5 ?_
  obtain ⟨x7, u8, hq9, h⟩ := tc_b_ex h
  refine tc_callVi [.int v1] dX9_locate_6 (hW.p iv0 0 rfl).1 (ct_X8_firstOf hW (hW.p iv0 0 rfl) hq9) ml_X9_108 mw_X8_firstOf mv_X8_firstOf ⟨Nat.le_of_ble_eq_true rfl, Nat.le_of_ble_eq_true rfl⟩ rfl rfl (Nat.le_of_ble_eq_true rfl) ⟨Nat.le_refl _, Nat.le_refl _⟩ (by decide) ?_
  refine tc_iload_n 1 rfl dX9_locate_9 ?_
  obtain ⟨x10, u11, hq12, h⟩ := tc_b_ex h
  refine tc_callVi [.int x7, .int v1] dX9_locate_10 iv0.1 (ct_X9_indexIn hW iv0 hq12) ml_X9_111 mw_X9_indexIn mv_X9_indexIn ⟨Nat.le_of_ble_eq_true rfl, Nat.le_of_ble_eq_true rfl⟩ rfl rfl (Nat.le_of_ble_eq_true rfl) ⟨Nat.le_refl _, Nat.le_refl _⟩ (by decide) ?_
  refine tc_istore_n [(2, .int x10), (0, .ref (z + v0)), (1, .int v1)] dX9_locate_13 (by decide) rfl ?_
  refine tc_iload_n 0 rfl dX9_locate_14 ?_
  refine tc_if_ge 32 dX9_locate_15 (by decide) (fun hc13 => ?_) (fun hc13 => ?_)
  · rw [if_pos hc13] at h
    refine tc_lvs [1, 2, 0] rfl ?_
    exact sb_X9_locate_32 hW r ur  v0 v1 x10 u11 iv0 h
  · rw [if_neg hc13] at h
    refine tc_aload_n 1 rfl dX9_locate_18 ?_
    refine tc_aload_n 1 rfl dX9_locate_19 ?_
    refine tc_getp hW iv0 fl_X9_12 dX9_locate_20 rfl ?_
    refine tc_iload_n 2 rfl dX9_locate_23 ?_
    obtain ⟨x14, u15, hq16, h⟩ := tc_b_ex h
    refine tc_callVi [.int v1] dX9_locate_24 (hW.p iv0 0 rfl).1 (ct_X8_secondOf hW (hW.p iv0 0 rfl) hq16) ml_X9_115 mw_X8_secondOf mv_X8_secondOf ⟨Nat.le_of_ble_eq_true rfl, Nat.le_of_ble_eq_true rfl⟩ rfl rfl (Nat.le_of_ble_eq_true rfl) ⟨Nat.le_refl _, Nat.le_refl _⟩ (by decide) ?_
    refine tc_iload_n 2 rfl dX9_locate_27 ?_
    obtain ⟨x17, u18, hq19, h⟩ := tc_b_ex h
    refine tc_callVi [.int x14, .int v1] dX9_locate_28 iv0.1 (ct_X9_indexIn hW iv0 hq19) ml_X9_111 mw_X9_indexIn mv_X9_indexIn ⟨Nat.le_of_ble_eq_true rfl, Nat.le_of_ble_eq_true rfl⟩ rfl rfl (Nat.le_of_ble_eq_true rfl) ⟨Nat.le_refl _, Nat.le_refl _⟩ (by decide) ?_
    refine tc_istore_n [(2, .int x17), (0, .ref (z + v0)), (1, .int v1)] dX9_locate_31 (by decide) rfl ?_
    refine tc_lvs [1, 2, 0] rfl ?_
    exact sb_X9_locate_32 hW r ur  v0 v1 x17 u18 iv0 h
set_option maxRecDepth 100000 in
set_option maxHeartbeats 4000000 in
theorem ct_X9_swapHand {l : Launch} {z : Nat} {D : tc_D} {G : tc_G} (hW : tc_W G) {v0 : Nat} {v1 : Int32} {u : tc_S} {r : Int32} {ur : tc_S} (iv0 : tc_is G v0 9) (h : fn_X9_swapHand G v0 v1 u = some (r, ur)) : tc_C l z D yX9_swapHand cX9_swapHand 8 none 0 0 0 0 [.ref (z + v0), .int v1] G u (tc_pv G ur) := by
  unfold fn_X9_swapHand at h
  refine tc_C.of (by decide) (Nat.le_of_ble_eq_true rfl) fun p e s m args below meth c => ?_
  show tc_R p l e { frames := 0, cells := 0, slots := 0, locals := 0 } s m args below meth c z D cX9_swapHand RX9 8 none 0 0 (tc_pv G ur) 0 0 G u 0 [(0, .ref (z + v0)), (1, .int v1)] []
  refine tc_aload_n 0 rfl dX9_swapHand_0 ?_
  refine tc_getp hW iv0 fl_X9_29 dX9_swapHand_1 rfl ?_
  refine tc_aload_n 0 rfl dX9_swapHand_4 ?_
  refine tc_geti iv0.1 fl_X9_26 dX9_swapHand_5 ?_
  obtain ⟨bx1, x1, ex1, h⟩ := tc_ld_ex h
  refine tc_iald (hW.p iv0 3 rfl).1 bx1 dX9_swapHand_8 ?_
  refine tc_nm ex1 ?_
  refine tc_istore_n [(2, .int x1), (0, .ref (z + v0)), (1, .int v1)] dX9_swapHand_9 (by decide) rfl ?_
  refine tc_aload_n 1 rfl dX9_swapHand_10 ?_
  refine tc_getp hW iv0 fl_X9_32 dX9_swapHand_11 rfl ?_
  refine tc_aload_n 1 rfl dX9_swapHand_14 ?_
  refine tc_geti iv0.1 fl_X9_26 dX9_swapHand_15 ?_
  obtain ⟨bx2, x2, ex2, h⟩ := tc_ld_ex h
  refine tc_iald (hW.p iv0 4 rfl).1 bx2 dX9_swapHand_18 ?_
  refine tc_nm ex2 ?_
  refine tc_istore_n [(3, .int x2), (2, .int x1), (0, .ref (z + v0)), (1, .int v1)] dX9_swapHand_19 (by decide) rfl ?_
  refine tc_aload_n 2 rfl dX9_swapHand_20 ?_
  refine tc_getp hW iv0 fl_X9_35 dX9_swapHand_21 rfl ?_
  refine tc_aload_n 2 rfl dX9_swapHand_24 ?_
  refine tc_geti iv0.1 fl_X9_26 dX9_swapHand_25 ?_
  obtain ⟨bx3, x3, ex3, h⟩ := tc_ld_ex h
  refine tc_iald (hW.p iv0 5 rfl).1 bx3 dX9_swapHand_28 ?_
  refine tc_nm ex3 ?_
  refine tc_istore [(4, .int x3), (3, .int x2), (2, .int x1), (0, .ref (z + v0)), (1, .int v1)] dX9_swapHand_29 (by decide) rfl ?_
  refine tc_aload_n 3 rfl dX9_swapHand_31 ?_
  refine tc_getp hW iv0 fl_X9_38 dX9_swapHand_32 rfl ?_
  refine tc_aload_n 3 rfl dX9_swapHand_35 ?_
  refine tc_geti iv0.1 fl_X9_26 dX9_swapHand_36 ?_
  obtain ⟨bx4, x4, ex4, h⟩ := tc_ld_ex h
  refine tc_iald (hW.p iv0 6 rfl).1 bx4 dX9_swapHand_39 ?_
  refine tc_nm ex4 ?_
  refine tc_istore [(5, .int x4), (4, .int x3), (3, .int x2), (2, .int x1), (0, .ref (z + v0)), (1, .int v1)] dX9_swapHand_40 (by decide) rfl ?_
  refine tc_aload_n 4 rfl dX9_swapHand_42 ?_
  refine tc_getp hW iv0 fl_X9_41 dX9_swapHand_43 rfl ?_
  refine tc_aload_n 4 rfl dX9_swapHand_46 ?_
  refine tc_geti iv0.1 fl_X9_26 dX9_swapHand_47 ?_
  obtain ⟨bx5, x5, ex5, h⟩ := tc_ld_ex h
  refine tc_iald (hW.p iv0 7 rfl).1 bx5 dX9_swapHand_50 ?_
  refine tc_nm ex5 ?_
  refine tc_istore [(6, .int x5), (5, .int x4), (4, .int x3), (3, .int x2), (2, .int x1), (0, .ref (z + v0)), (1, .int v1)] dX9_swapHand_51 (by decide) rfl ?_
  refine tc_aload_n 5 rfl dX9_swapHand_53 ?_
  refine tc_getp hW iv0 fl_X9_44 dX9_swapHand_54 rfl ?_
  refine tc_aload_n 5 rfl dX9_swapHand_57 ?_
  refine tc_geti iv0.1 fl_X9_26 dX9_swapHand_58 ?_
  obtain ⟨bx6, x6, ex6, h⟩ := tc_ld_ex h
  refine tc_iald (hW.p iv0 8 rfl).1 bx6 dX9_swapHand_61 ?_
  refine tc_nm ex6 ?_
  refine tc_istore [(7, .int x6), (6, .int x5), (5, .int x4), (4, .int x3), (3, .int x2), (2, .int x1), (0, .ref (z + v0)), (1, .int v1)] dX9_swapHand_62 (by decide) rfl ?_
  refine tc_aload_n 6 rfl dX9_swapHand_64 ?_
  refine tc_getp hW iv0 fl_X9_29 dX9_swapHand_65 rfl ?_
  refine tc_aload_n 6 rfl dX9_swapHand_68 ?_
  refine tc_geti iv0.1 fl_X9_26 dX9_swapHand_69 ?_
  refine tc_aload_n 6 rfl dX9_swapHand_72 ?_
  refine tc_getp hW iv0 fl_X9_29 dX9_swapHand_73 rfl ?_
  refine tc_iload_n 7 rfl dX9_swapHand_76 ?_
  obtain ⟨bx7, x7, ex7, h⟩ := tc_ld_ex h
  refine tc_iald (hW.p iv0 3 rfl).1 bx7 dX9_swapHand_77 ?_
  refine tc_nm ex7 ?_
  obtain ⟨bu8, u8, eu8, h⟩ := tc_sd_ex h
  refine tc_iast (hW.p iv0 3 rfl).1 bu8 dX9_swapHand_78 ?_
  refine tc_nmu eu8 ?_
  refine tc_aload_n 6 rfl dX9_swapHand_79 ?_
  refine tc_getp hW iv0 fl_X9_32 dX9_swapHand_80 rfl ?_
  refine tc_aload_n 6 rfl dX9_swapHand_83 ?_
  refine tc_geti iv0.1 fl_X9_26 dX9_swapHand_84 ?_
  refine tc_aload_n 6 rfl dX9_swapHand_87 ?_
  refine tc_getp hW iv0 fl_X9_32 dX9_swapHand_88 rfl ?_
  refine tc_iload_n 7 rfl dX9_swapHand_91 ?_
  obtain ⟨bx9, x9, ex9, h⟩ := tc_ld_ex h
  refine tc_iald (hW.p iv0 4 rfl).1 bx9 dX9_swapHand_92 ?_
  refine tc_nm ex9 ?_
  obtain ⟨bu10, u10, eu10, h⟩ := tc_sd_ex h
  refine tc_iast (hW.p iv0 4 rfl).1 bu10 dX9_swapHand_93 ?_
  refine tc_nmu eu10 ?_
  refine tc_aload_n 6 rfl dX9_swapHand_94 ?_
  refine tc_getp hW iv0 fl_X9_35 dX9_swapHand_95 rfl ?_
  refine tc_aload_n 6 rfl dX9_swapHand_98 ?_
  refine tc_geti iv0.1 fl_X9_26 dX9_swapHand_99 ?_
  refine tc_aload_n 6 rfl dX9_swapHand_102 ?_
  refine tc_getp hW iv0 fl_X9_35 dX9_swapHand_103 rfl ?_
  refine tc_iload_n 7 rfl dX9_swapHand_106 ?_
  obtain ⟨bx11, x11, ex11, h⟩ := tc_ld_ex h
  refine tc_iald (hW.p iv0 5 rfl).1 bx11 dX9_swapHand_107 ?_
  refine tc_nm ex11 ?_
  obtain ⟨bu12, u12, eu12, h⟩ := tc_sd_ex h
  refine tc_iast (hW.p iv0 5 rfl).1 bu12 dX9_swapHand_108 ?_
  refine tc_nmu eu12 ?_
  refine tc_aload_n 6 rfl dX9_swapHand_109 ?_
  refine tc_getp hW iv0 fl_X9_38 dX9_swapHand_110 rfl ?_
  refine tc_aload_n 6 rfl dX9_swapHand_113 ?_
  refine tc_geti iv0.1 fl_X9_26 dX9_swapHand_114 ?_
  refine tc_aload_n 6 rfl dX9_swapHand_117 ?_
  refine tc_getp hW iv0 fl_X9_38 dX9_swapHand_118 rfl ?_
  refine tc_iload_n 7 rfl dX9_swapHand_121 ?_
  obtain ⟨bx13, x13, ex13, h⟩ := tc_ld_ex h
  refine tc_iald (hW.p iv0 6 rfl).1 bx13 dX9_swapHand_122 ?_
  refine tc_nm ex13 ?_
  obtain ⟨bu14, u14, eu14, h⟩ := tc_sd_ex h
  refine tc_iast (hW.p iv0 6 rfl).1 bu14 dX9_swapHand_123 ?_
  refine tc_nmu eu14 ?_
  refine tc_aload_n 6 rfl dX9_swapHand_124 ?_
  refine tc_getp hW iv0 fl_X9_41 dX9_swapHand_125 rfl ?_
  refine tc_aload_n 6 rfl dX9_swapHand_128 ?_
  refine tc_geti iv0.1 fl_X9_26 dX9_swapHand_129 ?_
  refine tc_aload_n 6 rfl dX9_swapHand_132 ?_
  refine tc_getp hW iv0 fl_X9_41 dX9_swapHand_133 rfl ?_
  refine tc_iload_n 7 rfl dX9_swapHand_136 ?_
  obtain ⟨bx15, x15, ex15, h⟩ := tc_ld_ex h
  refine tc_iald (hW.p iv0 7 rfl).1 bx15 dX9_swapHand_137 ?_
  refine tc_nm ex15 ?_
  obtain ⟨bu16, u16, eu16, h⟩ := tc_sd_ex h
  refine tc_iast (hW.p iv0 7 rfl).1 bu16 dX9_swapHand_138 ?_
  refine tc_nmu eu16 ?_
  refine tc_aload_n 6 rfl dX9_swapHand_139 ?_
  refine tc_getp hW iv0 fl_X9_44 dX9_swapHand_140 rfl ?_
  refine tc_aload_n 6 rfl dX9_swapHand_143 ?_
  refine tc_geti iv0.1 fl_X9_26 dX9_swapHand_144 ?_
  refine tc_aload_n 6 rfl dX9_swapHand_147 ?_
  refine tc_getp hW iv0 fl_X9_44 dX9_swapHand_148 rfl ?_
  refine tc_iload_n 7 rfl dX9_swapHand_151 ?_
  obtain ⟨bx17, x17, ex17, h⟩ := tc_ld_ex h
  refine tc_iald (hW.p iv0 8 rfl).1 bx17 dX9_swapHand_152 ?_
  refine tc_nm ex17 ?_
  obtain ⟨bu18, u18, eu18, h⟩ := tc_sd_ex h
  refine tc_iast (hW.p iv0 8 rfl).1 bu18 dX9_swapHand_153 ?_
  refine tc_nmu eu18 ?_
  refine tc_aload_n 6 rfl dX9_swapHand_154 ?_
  refine tc_getp hW iv0 fl_X9_29 dX9_swapHand_155 rfl ?_
  refine tc_iload_n 7 rfl dX9_swapHand_158 ?_
  refine tc_iload_n 5 rfl dX9_swapHand_159 ?_
  obtain ⟨bu19, u19, eu19, h⟩ := tc_sd_ex h
  refine tc_iast (hW.p iv0 3 rfl).1 bu19 dX9_swapHand_160 ?_
  refine tc_nmu eu19 ?_
  refine tc_aload_n 6 rfl dX9_swapHand_161 ?_
  refine tc_getp hW iv0 fl_X9_32 dX9_swapHand_162 rfl ?_
  refine tc_iload_n 7 rfl dX9_swapHand_165 ?_
  refine tc_iload_n 4 rfl dX9_swapHand_166 ?_
  obtain ⟨bu20, u20, eu20, h⟩ := tc_sd_ex h
  refine tc_iast (hW.p iv0 4 rfl).1 bu20 dX9_swapHand_167 ?_
  refine tc_nmu eu20 ?_
  refine tc_aload_n 6 rfl dX9_swapHand_168 ?_
  refine tc_getp hW iv0 fl_X9_35 dX9_swapHand_169 rfl ?_
  refine tc_iload_n 7 rfl dX9_swapHand_172 ?_
  refine tc_iload 3 rfl dX9_swapHand_173 ?_
  obtain ⟨bu21, u21, eu21, h⟩ := tc_sd_ex h
  refine tc_iast (hW.p iv0 5 rfl).1 bu21 dX9_swapHand_175 ?_
  refine tc_nmu eu21 ?_
  refine tc_aload_n 6 rfl dX9_swapHand_176 ?_
  refine tc_getp hW iv0 fl_X9_38 dX9_swapHand_177 rfl ?_
  refine tc_iload_n 7 rfl dX9_swapHand_180 ?_
  refine tc_iload 2 rfl dX9_swapHand_181 ?_
  obtain ⟨bu22, u22, eu22, h⟩ := tc_sd_ex h
  refine tc_iast (hW.p iv0 6 rfl).1 bu22 dX9_swapHand_183 ?_
  refine tc_nmu eu22 ?_
  refine tc_aload_n 6 rfl dX9_swapHand_184 ?_
  refine tc_getp hW iv0 fl_X9_41 dX9_swapHand_185 rfl ?_
  refine tc_iload_n 7 rfl dX9_swapHand_188 ?_
  refine tc_iload 1 rfl dX9_swapHand_189 ?_
  obtain ⟨bu23, u23, eu23, h⟩ := tc_sd_ex h
  refine tc_iast (hW.p iv0 7 rfl).1 bu23 dX9_swapHand_191 ?_
  refine tc_nmu eu23 ?_
  refine tc_aload_n 6 rfl dX9_swapHand_192 ?_
  refine tc_getp hW iv0 fl_X9_44 dX9_swapHand_193 rfl ?_
  refine tc_iload_n 7 rfl dX9_swapHand_196 ?_
  refine tc_iload 0 rfl dX9_swapHand_197 ?_
  obtain ⟨bu24, u24, eu24, h⟩ := tc_sd_ex h
  refine tc_iast (hW.p iv0 8 rfl).1 bu24 dX9_swapHand_199 ?_
  refine tc_nmu eu24 ?_
  cases h
  exact tc_return rfl dX9_swapHand_200 rfl rfl ⟨rfl, rfl, rfl⟩
set_option maxRecDepth 100000 in
set_option maxHeartbeats 4000000 in
theorem sl_X4_walk_157 {p : Program} {l : Launch} {e : Env} {s : State} {m : MethodId} {args : Array Value} {below : List Frame} {meth : Method} {c : Code} {z : Nat} {D : tc_D} {G : tc_G} (hW : tc_W G) (r : Int32) (ur : tc_S) : ∀ (n : Nat) (v0 : Nat) (v1 : Nat) (v5 : Int32) (u : tc_S) (iv0 : tc_is G v0 4) (iv1 : tc_is G v1 9) (h : lo_X4_walk_157 G n v0 v1 v5 u = some (r, ur)), tc_R p l e { frames := 1, cells := 0, slots := 0, locals := 27 } s m args below meth c z D cX4_walk RX4 8 (some .boolean) 0 0 (tc_po r G ur) 0 0 G u 157 [(0, .ref (z + v0)), (1, .ref (z + v1)), (5, .int v5)] [] := by
  intro n
  induction n with
  | zero => intro v0 v1 v5 u iv0 iv1 h; cases h
  | succ n ih =>
    intro v0 v1 v5 u iv0 iv1 h
    rw [lo_X4_walk_157] at h
    refine tc_iload 2 rfl dX4_walk_157 ?_
    refine tc_if_lt 195 dX4_walk_159 (by decide) (fun hc1 => ?_) (fun hc1 => ?_)
    · rw [if_pos hc1] at h
      refine tc_iconst (v := 0) (by decide) dX4_walk_195 ?_
      obtain ⟨hz2, h⟩ := tc_zo_ex h
      cases h
      exact tc_zreturn hz2 rfl dX4_walk_196 rfl rfl ⟨rfl, rfl, rfl⟩
    · rw [if_neg hc1] at h
      refine tc_aload_n 1 rfl dX4_walk_162 ?_
      refine tc_aload_n 0 rfl dX4_walk_163 ?_
      refine tc_getp hW iv0 fl_X4_9 dX4_walk_164 rfl ?_
      refine tc_iload 2 rfl dX4_walk_167 ?_
      obtain ⟨bx3, x3, ex3, h⟩ := tc_ld_ex h
      refine tc_iald (hW.p iv0 1 rfl).1 bx3 dX4_walk_169 ?_
      refine tc_nm ex3 ?_
      obtain ⟨x4, u5, hq6, h⟩ := tc_b_ex h
      refine tc_callVv [.int x3] dX4_walk_170 iv1.1 (ct_X9_swapHand hW iv1 hq6) ml_X4_113 mw_X9_swapHand mv_X9_swapHand ⟨Nat.le_of_ble_eq_true rfl, Nat.le_of_ble_eq_true rfl⟩ rfl rfl (Nat.le_of_ble_eq_true rfl) ⟨Nat.le_refl _, Nat.le_refl _⟩ (by decide) ?_
      refine tc_aload_n 1 rfl dX4_walk_173 ?_
      refine tc_getp hW iv1 fl_X4_86 dX4_walk_174 rfl ?_
      refine tc_aload_n 0 rfl dX4_walk_177 ?_
      refine tc_getp hW iv0 fl_X4_9 dX4_walk_178 rfl ?_
      refine tc_iload 2 rfl dX4_walk_181 ?_
      obtain ⟨bx7, x7, ex7, h⟩ := tc_ld_ex h
      refine tc_iald (hW.p iv0 1 rfl).1 bx7 dX4_walk_183 ?_
      refine tc_nm ex7 ?_
      refine tc_dup2 rfl rfl dX4_walk_184 ?_
      obtain ⟨bx8, x8, ex8, h⟩ := tc_ld_ex h
      refine tc_iald (hW.p iv1 6 rfl).1 bx8 dX4_walk_185 ?_
      refine tc_nm ex8 ?_
      refine tc_iconst (v := 1) (by decide) dX4_walk_186 ?_
      refine tc_isub dX4_walk_187 ?_
      obtain ⟨bu9, u9, eu9, h⟩ := tc_sd_ex h
      refine tc_iast (hW.p iv1 6 rfl).1 bu9 dX4_walk_188 ?_
      refine tc_nmu eu9 ?_
      obtain ⟨x10, ex10, h⟩ := tc_let_ex h
      refine tc_iinc 2 (v := x10) [(5, .int x10), (0, .ref (z + v0)), (1, .ref (z + v1))] dX4_walk_189 rfl (by rw [ex10]; rfl) (by decide) rfl ?_
      refine tc_goto 157 dX4_walk_192 (by decide) ?_
      refine tc_lvs [1, 2, 0] rfl ?_
      exact ih v0 v1 x10 u9 iv0 iv1 h
set_option maxRecDepth 100000 in
set_option maxHeartbeats 4000000 in
theorem sb_X4_walk_117 {p : Program} {l : Launch} {e : Env} {s : State} {m : MethodId} {args : Array Value} {below : List Frame} {meth : Method} {c : Code} {z : Nat} {D : tc_D} {G : tc_G} (hW : tc_W G) (r : Int32) (ur : tc_S) (K35 : Nat → Nat → Int32 → Int32 → Int32 → Int32 → tc_S → Option (Int32 × tc_S)) (hK35 : ∀ (v0 : Nat) (v1 : Nat) (v2 : Int32) (v3 : Int32) (v4 : Int32) (v5 : Int32) (u : tc_S), tc_is G v0 4 → tc_is G v1 9 → K35 v0 v1 v2 v3 v4 v5 u = some (r, ur) → tc_R p l e { frames := 1, cells := 0, slots := 0, locals := 27 } s m args below meth c z D cX4_walk RX4 8 (some .boolean) 0 0 (tc_po r G ur) 0 0 G u 35 [(0, .ref (z + v0)), (1, .ref (z + v1)), (2, .int v2), (3, .int v3), (4, .int v4), (5, .int v5)] []) (v0 : Nat) (v1 : Nat) (v2 : Int32) (v3 : Int32) (v5 : Int32) (s0 : Int32) (u : tc_S) (iv0 : tc_is G v0 4) (iv1 : tc_is G v1 9) (h : bl_X4_walk_117 G K35 v0 v1 v2 v3 v5 s0 u = some (r, ur)) : tc_R p l e { frames := 1, cells := 0, slots := 0, locals := 27 } s m args below meth c z D cX4_walk RX4 8 (some .boolean) 0 0 (tc_po r G ur) 0 0 G u 117 [(0, .ref (z + v0)), (1, .ref (z + v1)), (2, .int v2), (3, .int v3), (5, .int v5)] [.int s0] := by
  unfold bl_X4_walk_117 at h
  refine tc_istore [(4, .int s0), (0, .ref (z + v0)), (1, .ref (z + v1)), (2, .int v2), (3, .int v3), (5, .int v5)] dX4_walk_117 (by decide) rfl ?_
  refine tc_aload_n 2 rfl dX4_walk_119 ?_
  refine tc_getp hW iv1 fl_X4_117 dX4_walk_120 rfl ?_
  refine tc_iload 0 rfl dX4_walk_123 ?_
  obtain ⟨bx11, x11, ex11, h⟩ := tc_ld_ex h
  refine tc_iald (hW.p iv1 9 rfl).1 bx11 dX4_walk_125 ?_
  refine tc_nm ex11 ?_
  refine tc_iload_n 3 rfl dX4_walk_126 ?_
  refine tc_icmp_ge 146 dX4_walk_127 (by decide) (fun hc12 => ?_) (fun hc12 => ?_)
  · rw [if_pos hc12] at h
    obtain ⟨x13, ex13, h⟩ := tc_let_ex h
    refine tc_iinc 5 (v := x13) [(5, .int x13), (4, .int s0), (0, .ref (z + v0)), (1, .ref (z + v1)), (2, .int v2), (3, .int v3)] dX4_walk_146 rfl (by rw [ex13]; rfl) (by decide) rfl ?_
    refine tc_goto 35 dX4_walk_149 (by decide) ?_
    refine tc_lvs [2, 3, 4, 5, 1, 0] rfl ?_
    exact hK35 v0 v1 v2 v3 s0 x13 u iv0 iv1 h
  · rw [if_neg hc12] at h
    refine tc_aload_n 2 rfl dX4_walk_130 ?_
    refine tc_aload_n 2 rfl dX4_walk_131 ?_
    refine tc_geti iv1.1 fl_X4_19 dX4_walk_132 ?_
    refine tc_aload_n 2 rfl dX4_walk_135 ?_
    refine tc_iload 0 rfl dX4_walk_136 ?_
    obtain ⟨x14, u15, hq16, h⟩ := tc_b_ex h
    refine tc_callVi [.int s0] dX4_walk_138 iv1.1 (ct_X9_emptyPlaceIn hW iv1 hq16) ml_X4_33 mw_X9_emptyPlaceIn mv_X9_emptyPlaceIn ⟨Nat.le_of_ble_eq_true rfl, Nat.le_of_ble_eq_true rfl⟩ rfl rfl (Nat.le_of_ble_eq_true rfl) ⟨Nat.le_refl _, Nat.le_refl _⟩ (by decide) ?_
    obtain ⟨x17, u18, hq19, h⟩ := tc_b_ex h
    refine tc_callVv [.int (u.1 v1 2), .int x14] dX4_walk_141 iv1.1 (ct_X9_move hW iv1 hq19) ml_X4_36 mw_X9_move mv_X9_move ⟨Nat.le_of_ble_eq_true rfl, Nat.le_of_ble_eq_true rfl⟩ rfl rfl (Nat.le_of_ble_eq_true rfl) ⟨Nat.le_refl _, Nat.le_refl _⟩ (by decide) ?_
    refine tc_iconst (v := 1) (by decide) dX4_walk_144 ?_
    obtain ⟨hz20, h⟩ := tc_zo_ex h
    cases h
    exact tc_zreturn hz20 rfl dX4_walk_145 rfl rfl ⟨rfl, rfl, rfl⟩
set_option maxRecDepth 100000 in
set_option maxHeartbeats 4000000 in
theorem sl_X4_walk_35 {p : Program} {l : Launch} {e : Env} {s : State} {m : MethodId} {args : Array Value} {below : List Frame} {meth : Method} {c : Code} {z : Nat} {D : tc_D} {G : tc_G} (hW : tc_W G) (r : Int32) (ur : tc_S) : ∀ (n : Nat) (v0 : Nat) (v1 : Nat) (v2 : Int32) (v3 : Int32) (v4 : Int32) (v5 : Int32) (u : tc_S) (iv0 : tc_is G v0 4) (iv1 : tc_is G v1 9) (h : lo_X4_walk_35 G n v0 v1 v2 v3 v4 v5 u = some (r, ur)), tc_R p l e { frames := 1, cells := 0, slots := 0, locals := 27 } s m args below meth c z D cX4_walk RX4 8 (some .boolean) 0 0 (tc_po r G ur) 0 0 G u 35 [(0, .ref (z + v0)), (1, .ref (z + v1)), (2, .int v2), (3, .int v3), (4, .int v4), (5, .int v5)] [] := by
  intro n
  induction n with
  | zero => intro v0 v1 v2 v3 v4 v5 u iv0 iv1 h; cases h
  | succ n ih =>
    intro v0 v1 v2 v3 v4 v5 u iv0 iv1 h
    rw [lo_X4_walk_35] at h
    refine tc_iload 5 rfl dX4_walk_35 ?_
    refine tc_iload_n 3 rfl dX4_walk_37 ?_
    refine tc_icmp_ge 152 dX4_walk_38 (by decide) (fun hc21 => ?_) (fun hc21 => ?_)
    · rw [if_pos hc21] at h
      refine tc_iload_n 3 rfl dX4_walk_152 ?_
      refine tc_iconst (v := 1) (by decide) dX4_walk_153 ?_
      refine tc_isub dX4_walk_154 ?_
      obtain ⟨x22, ex22, h⟩ := tc_let_ex h
      refine tc_nm ex22 ?_
      refine tc_istore [(5, .int x22), (0, .ref (z + v0)), (1, .ref (z + v1)), (2, .int v2), (3, .int v3), (4, .int v4)] dX4_walk_155 (by decide) rfl ?_
      refine tc_lvs [1, 2, 0] rfl ?_
      exact sl_X4_walk_157 hW r ur  _ v0 v1 x22 u iv0 iv1 h
    · rw [if_neg hc21] at h
      refine tc_iload 4 rfl dX4_walk_41 ?_
      refine tc_iload_n 2 rfl dX4_walk_43 ?_
      refine tc_imul dX4_walk_44 ?_
      refine tc_aload_n 1 rfl dX4_walk_45 ?_
      refine tc_getp hW iv1 fl_X4_25 dX4_walk_46 rfl ?_
      refine tc_getp hW (hW.p iv1 0 rfl) fl_X4_104 dX4_walk_49 rfl ?_
      refine tc_iload_n 2 rfl dX4_walk_52 ?_
      obtain ⟨x23, u24, hq25, h⟩ := tc_b_ex h
      refine tc_callVi [.int v2] dX4_walk_53 (hW.p (hW.p iv1 0 rfl) 11 rfl).1 (ct_X2_below hW (hW.p (hW.p iv1 0 rfl) 11 rfl) hq25) ml_X4_108 mw_X2_below mv_X2_below ⟨Nat.le_of_ble_eq_true rfl, Nat.le_of_ble_eq_true rfl⟩ rfl rfl (Nat.le_of_ble_eq_true rfl) ⟨Nat.le_refl _, Nat.le_refl _⟩ (by decide) ?_
      refine tc_iadd dX4_walk_56 ?_
      obtain ⟨x26, ex26, h⟩ := tc_let_ex h
      refine tc_nm ex26 ?_
      refine tc_istore [(6, .int x26), (0, .ref (z + v0)), (1, .ref (z + v1)), (2, .int v2), (3, .int v3), (4, .int v4), (5, .int v5)] dX4_walk_57 (by decide) rfl ?_
      refine tc_aload_n 2 rfl dX4_walk_59 ?_
      refine tc_getp hW iv1 fl_X4_86 dX4_walk_60 rfl ?_
      refine tc_iload 0 rfl dX4_walk_63 ?_
      refine tc_dup2 rfl rfl dX4_walk_65 ?_
      obtain ⟨bx27, x27, ex27, h⟩ := tc_ld_ex h
      refine tc_iald (hW.p iv1 6 rfl).1 bx27 dX4_walk_66 ?_
      refine tc_nm ex27 ?_
      refine tc_iconst (v := 1) (by decide) dX4_walk_67 ?_
      refine tc_iadd dX4_walk_68 ?_
      obtain ⟨bu28, u28, eu28, h⟩ := tc_sd_ex h
      refine tc_iast (hW.p iv1 6 rfl).1 bu28 dX4_walk_69 ?_
      refine tc_nmu eu28 ?_
      refine tc_aload_n 2 rfl dX4_walk_70 ?_
      refine tc_iload 0 rfl dX4_walk_71 ?_
      obtain ⟨x29, u30, hq31, h⟩ := tc_b_ex h
      refine tc_callVv [.int x26] dX4_walk_73 iv1.1 (ct_X9_swapHand hW iv1 hq31) ml_X4_113 mw_X9_swapHand mv_X9_swapHand ⟨Nat.le_of_ble_eq_true rfl, Nat.le_of_ble_eq_true rfl⟩ rfl rfl (Nat.le_of_ble_eq_true rfl) ⟨Nat.le_refl _, Nat.le_refl _⟩ (by decide) ?_
      refine tc_aload_n 1 rfl dX4_walk_76 ?_
      refine tc_getp hW iv0 fl_X4_9 dX4_walk_77 rfl ?_
      refine tc_iload 6 rfl dX4_walk_80 ?_
      refine tc_iload 0 rfl dX4_walk_82 ?_
      obtain ⟨bu32, u32, eu32, h⟩ := tc_sd_ex h
      refine tc_iast (hW.p iv0 1 rfl).1 bu32 dX4_walk_84 ?_
      refine tc_nmu eu32 ?_
      refine tc_aload_n 2 rfl dX4_walk_85 ?_
      refine tc_getp hW iv1 fl_X4_45 dX4_walk_86 rfl ?_
      refine tc_aload_n 2 rfl dX4_walk_89 ?_
      refine tc_geti iv1.1 fl_X4_19 dX4_walk_90 ?_
      obtain ⟨bx33, x33, ex33, h⟩ := tc_ld_ex h
      refine tc_iald (hW.p iv1 7 rfl).1 bx33 dX4_walk_93 ?_
      refine tc_nm ex33 ?_
      refine tc_istore [(7, .int x33), (6, .int x26), (0, .ref (z + v0)), (1, .ref (z + v1)), (2, .int v2), (3, .int v3), (4, .int v4), (5, .int v5)] dX4_walk_94 (by decide) rfl ?_
      refine tc_iload 0 rfl dX4_walk_96 ?_
      refine tc_iload 6 rfl dX4_walk_98 ?_
      refine tc_icmp_ne 115 dX4_walk_100 (by decide) (fun hc34 => ?_) (fun hc34 => ?_)
      · rw [if_neg hc34] at h
        refine tc_iload 0 rfl dX4_walk_115 ?_
        refine tc_lvs [2, 3, 4, 5, 7] rfl ?_
        exact sb_X4_walk_117 hW r ur _ ih v0 v1 v2 v3 v5 x33 u32 iv0 iv1 h
      · rw [if_pos hc34] at h
        refine tc_aload_n 3 rfl dX4_walk_103 ?_
        refine tc_getp hW iv1 fl_X4_48 dX4_walk_104 rfl ?_
        refine tc_aload_n 3 rfl dX4_walk_107 ?_
        refine tc_geti iv1.1 fl_X4_19 dX4_walk_108 ?_
        obtain ⟨bx35, x35, ex35, h⟩ := tc_ld_ex h
        refine tc_iald (hW.p iv1 8 rfl).1 bx35 dX4_walk_111 ?_
        refine tc_nm ex35 ?_
        refine tc_goto 117 dX4_walk_112 (by decide) ?_
        refine tc_lvs [2, 3, 4, 5, 7] rfl ?_
        exact sb_X4_walk_117 hW r ur _ ih v0 v1 v2 v3 v5 x35 u32 iv0 iv1 h
set_option maxRecDepth 100000 in
set_option maxHeartbeats 4000000 in
theorem ct_X4_walk {l : Launch} {z : Nat} {D : tc_D} {G : tc_G} (hW : tc_W G) {v0 : Nat} {v1 : Nat} {u : tc_S} {r : Int32} {ur : tc_S} (iv0 : tc_is G v0 4) (iv1 : tc_is G v1 9) (h : fn_X4_walk G v0 v1 u = some (r, ur)) : tc_C l z D yX4_walk cX4_walk 8 (some .boolean) 1 27 0 0 [.ref (z + v0), .ref (z + v1)] G u (tc_po r G ur) := by
  unfold fn_X4_walk at h
  refine tc_C.of (by decide) (Nat.le_of_ble_eq_true rfl) fun p e s m args below meth c => ?_
  show tc_R p l e { frames := 1, cells := 0, slots := 0, locals := 27 } s m args below meth c z D cX4_walk RX4 8 (some .boolean) 0 0 (tc_po r G ur) 0 0 G u 0 [(0, .ref (z + v0)), (1, .ref (z + v1))] []
  refine tc_aload_n 1 rfl dX4_walk_0 ?_
  refine tc_getp hW iv1 fl_X4_25 dX4_walk_1 rfl ?_
  refine tc_geti (hW.p iv1 0 rfl).1 fl_X4_98 dX4_walk_4 ?_
  obtain ⟨x36, ex36, h⟩ := tc_let_ex h
  refine tc_nm ex36 ?_
  refine tc_istore_n [(2, .int x36), (0, .ref (z + v0)), (1, .ref (z + v1))] dX4_walk_7 (by decide) rfl ?_
  refine tc_aload_n 2 rfl dX4_walk_8 ?_
  refine tc_getp hW iv1 fl_X4_25 dX4_walk_9 rfl ?_
  refine tc_geti (hW.p iv1 0 rfl).1 fl_X4_60 dX4_walk_12 ?_
  refine tc_bipush (v := 16) (by decide) dX4_walk_15 ?_
  refine tc_mmin dX4_walk_17 ml_X4_101 wm_min_s wm_i wm_min_c (Nat.le_of_ble_eq_true rfl) (Nat.le_of_ble_eq_true rfl) (Nat.zero_le _) (Nat.zero_le _) ?_
  obtain ⟨x37, ex37, h⟩ := tc_let_ex h
  refine tc_nm ex37 ?_
  refine tc_istore_n [(3, .int x37), (2, .int x36), (0, .ref (z + v0)), (1, .ref (z + v1))] dX4_walk_20 (by decide) rfl ?_
  refine tc_aload_n 3 rfl dX4_walk_21 ?_
  refine tc_getp hW iv1 fl_X4_45 dX4_walk_22 rfl ?_
  refine tc_aload_n 3 rfl dX4_walk_25 ?_
  refine tc_geti iv1.1 fl_X4_19 dX4_walk_26 ?_
  obtain ⟨bx38, x38, ex38, h⟩ := tc_ld_ex h
  refine tc_iald (hW.p iv1 7 rfl).1 bx38 dX4_walk_29 ?_
  refine tc_nm ex38 ?_
  refine tc_istore [(4, .int x38), (3, .int x37), (2, .int x36), (0, .ref (z + v0)), (1, .ref (z + v1))] dX4_walk_30 (by decide) rfl ?_
  refine tc_iconst (v := 0) (by decide) dX4_walk_32 ?_
  refine tc_istore [(5, .int 0), (4, .int x38), (3, .int x37), (2, .int x36), (0, .ref (z + v0)), (1, .ref (z + v1))] dX4_walk_33 (by decide) rfl ?_
  refine tc_lvs [4, 5, 3, 2, 1, 0] rfl ?_
  exact sl_X4_walk_35 hW r ur  _ v0 v1 x36 x37 x38 0 u iv0 iv1 h
set_option maxRecDepth 100000 in
set_option maxHeartbeats 4000000 in
theorem sb_X4_comeIn_151 {p : Program} {l : Launch} {e : Env} {s : State} {m : MethodId} {args : Array Value} {below : List Frame} {meth : Method} {c : Code} {z : Nat} {D : tc_D} {G : tc_G} (hW : tc_W G) (r : Int32) (ur : tc_S) (u : tc_S) (h : bl_X4_comeIn_151 G  u = some (r, ur)) : tc_R p l e { frames := 2, cells := 0, slots := 0, locals := 54 } s m args below meth c z D cX4_comeIn RX4 5 (some .int) 0 0 (tc_po r G ur) 0 0 G u 151 [] [] := by
  unfold bl_X4_comeIn_151 at h
  refine tc_iconst (v := 0) (by decide) dX4_comeIn_151 ?_
  cases h
  exact tc_ireturn rfl dX4_comeIn_152 rfl rfl ⟨rfl, rfl, rfl⟩
set_option maxRecDepth 100000 in
set_option maxHeartbeats 4000000 in
theorem sb_X4_comeIn_106 {p : Program} {l : Launch} {e : Env} {s : State} {m : MethodId} {args : Array Value} {below : List Frame} {meth : Method} {c : Code} {z : Nat} {D : tc_D} {G : tc_G} (hW : tc_W G) (r : Int32) (ur : tc_S) (v1 : Nat) (v2 : Int32) (v3 : Nat) (u : tc_S) (iv1 : tc_is G v1 9) (iv3 : tc_is G v3 8) (h : bl_X4_comeIn_106 G v1 v2 v3 u = some (r, ur)) : tc_R p l e { frames := 2, cells := 0, slots := 0, locals := 54 } s m args below meth c z D cX4_comeIn RX4 5 (some .int) 0 0 (tc_po r G ur) 0 0 G u 106 [(1, .ref (z + v1)), (2, .int v2), (3, .ref (z + v3))] [] := by
  unfold bl_X4_comeIn_106 at h
  refine tc_aload_n 0 rfl dX4_comeIn_106 ?_
  refine tc_geti iv1.1 fl_X4_71 dX4_comeIn_107 ?_
  refine tc_aload_n 2 rfl dX4_comeIn_110 ?_
  refine tc_geti iv3.1 fl_X4_74 dX4_comeIn_111 ?_
  refine tc_icmp_ge 151 dX4_comeIn_114 (by decide) (fun hc1 => ?_) (fun hc1 => ?_)
  · rw [if_pos hc1] at h
    refine tc_lvs [] rfl ?_
    exact sb_X4_comeIn_151 hW r ur   u  h
  · rw [if_neg hc1] at h
    refine tc_aload_n 0 rfl dX4_comeIn_117 ?_
    refine tc_geti iv1.1 fl_X4_71 dX4_comeIn_118 ?_
    refine tc_iconst (v := 4) (by decide) dX4_comeIn_121 ?_
    refine tc_icmp_ge 151 dX4_comeIn_122 (by decide) (fun hc2 => ?_) (fun hc2 => ?_)
    · rw [if_pos hc2] at h
      refine tc_lvs [] rfl ?_
      exact sb_X4_comeIn_151 hW r ur   u  h
    · rw [if_neg hc2] at h
      refine tc_aload_n 0 rfl dX4_comeIn_125 ?_
      refine tc_iload_n 1 rfl dX4_comeIn_126 ?_
      refine tc_aload_n 0 rfl dX4_comeIn_127 ?_
      refine tc_geti iv1.1 fl_X4_77 dX4_comeIn_128 ?_
      refine tc_aload_n 0 rfl dX4_comeIn_131 ?_
      refine tc_geti iv1.1 fl_X4_71 dX4_comeIn_132 ?_
      refine tc_iadd dX4_comeIn_135 ?_
      obtain ⟨x3, u4, hq5, h⟩ := tc_b_ex h
      refine tc_callVv [.int v2, .int ((u.1 v1 1) + (u.1 v1 10))] dX4_comeIn_136 iv1.1 (ct_X9_move hW iv1 hq5) ml_X4_36 mw_X9_move mv_X9_move ⟨Nat.le_of_ble_eq_true rfl, Nat.le_of_ble_eq_true rfl⟩ rfl rfl (Nat.le_of_ble_eq_true rfl) ⟨Nat.le_refl _, Nat.le_refl _⟩ (by decide) ?_
      refine tc_aload_n 0 rfl dX4_comeIn_139 ?_
      refine tc_dup rfl dX4_comeIn_140 ?_
      refine tc_geti iv1.1 fl_X4_71 dX4_comeIn_141 ?_
      refine tc_iconst (v := 1) (by decide) dX4_comeIn_144 ?_
      refine tc_iadd dX4_comeIn_145 ?_
      obtain ⟨u6, eu6, h⟩ := tc_let_ex h
      refine tc_puti iv1.1 fl_X4_71 dX4_comeIn_146 ?_
      refine tc_nmu eu6 ?_
      refine tc_iconst (v := 3) (by decide) dX4_comeIn_149 ?_
      cases h
      exact tc_ireturn rfl dX4_comeIn_150 rfl rfl ⟨rfl, rfl, rfl⟩
set_option maxRecDepth 100000 in
set_option maxHeartbeats 4000000 in
theorem sb_X4_comeIn_88 {p : Program} {l : Launch} {e : Env} {s : State} {m : MethodId} {args : Array Value} {below : List Frame} {meth : Method} {c : Code} {z : Nat} {D : tc_D} {G : tc_G} (hW : tc_W G) (r : Int32) (ur : tc_S) (v0 : Nat) (v1 : Nat) (v2 : Int32) (v3 : Nat) (u : tc_S) (iv0 : tc_is G v0 4) (iv1 : tc_is G v1 9) (iv3 : tc_is G v3 8) (h : bl_X4_comeIn_88 G v0 v1 v2 v3 u = some (r, ur)) : tc_R p l e { frames := 2, cells := 0, slots := 0, locals := 54 } s m args below meth c z D cX4_comeIn RX4 5 (some .int) 0 0 (tc_po r G ur) 0 0 G u 88 [(0, .ref (z + v0)), (1, .ref (z + v1)), (2, .int v2), (3, .ref (z + v3))] [] := by
  unfold bl_X4_comeIn_88 at h
  refine tc_aload_n 3 rfl dX4_comeIn_88 ?_
  refine tc_geti iv3.1 fl_X4_40 dX4_comeIn_89 ?_
  refine tc_iconst (v := 1) (by decide) dX4_comeIn_92 ?_
  refine tc_icmp_ne 106 dX4_comeIn_93 (by decide) (fun hc7 => ?_) (fun hc7 => ?_)
  · rw [if_neg hc7] at h
    refine tc_lvs [1, 2, 3] rfl ?_
    exact sb_X4_comeIn_106 hW r ur  v1 v2 v3 u iv1 iv3 h
  · rw [if_pos hc7] at h
    refine tc_aload_n 0 rfl dX4_comeIn_96 ?_
    refine tc_aload_n 1 rfl dX4_comeIn_97 ?_
    obtain ⟨x8, u9, hq10, h⟩ := tc_b_ex h
    refine tc_callVi [.ref (z + v1)] dX4_comeIn_98 iv0.1 (ct_X4_walk hW iv0 iv1 hq10) ml_X4_67 mw_X4_walk mv_X4_walk ⟨Nat.le_of_ble_eq_true rfl, Nat.le_of_ble_eq_true rfl⟩ rfl rfl (Nat.le_of_ble_eq_true rfl) ⟨Nat.le_refl _, Nat.le_refl _⟩ (by decide) ?_
    refine tc_if_eq 106 dX4_comeIn_101 (by decide) (fun hc11 => ?_) (fun hc11 => ?_)
    · rw [if_pos hc11] at h
      refine tc_lvs [1, 2, 3] rfl ?_
      exact sb_X4_comeIn_106 hW r ur  v1 v2 v3 u9 iv1 iv3 h
    · rw [if_neg hc11] at h
      refine tc_iconst (v := 2) (by decide) dX4_comeIn_104 ?_
      cases h
      exact tc_ireturn rfl dX4_comeIn_105 rfl rfl ⟨rfl, rfl, rfl⟩
set_option maxRecDepth 100000 in
set_option maxHeartbeats 4000000 in
theorem ct_X4_comeIn {l : Launch} {z : Nat} {D : tc_D} {G : tc_G} (hW : tc_W G) {v0 : Nat} {v1 : Nat} {u : tc_S} {r : Int32} {ur : tc_S} (iv0 : tc_is G v0 4) (iv1 : tc_is G v1 9) (h : fn_X4_comeIn G v0 v1 u = some (r, ur)) : tc_C l z D yX4_comeIn cX4_comeIn 5 (some .int) 2 54 0 0 [.ref (z + v0), .ref (z + v1)] G u (tc_po r G ur) := by
  unfold fn_X4_comeIn at h
  refine tc_C.of (by decide) (Nat.le_of_ble_eq_true rfl) fun p e s m args below meth c => ?_
  show tc_R p l e { frames := 2, cells := 0, slots := 0, locals := 54 } s m args below meth c z D cX4_comeIn RX4 5 (some .int) 0 0 (tc_po r G ur) 0 0 G u 0 [(0, .ref (z + v0)), (1, .ref (z + v1))] []
  refine tc_aload_n 1 rfl dX4_comeIn_0 ?_
  refine tc_geti iv1.1 fl_X4_19 dX4_comeIn_1 ?_
  obtain ⟨x12, ex12, h⟩ := tc_let_ex h
  refine tc_nm ex12 ?_
  refine tc_istore_n [(2, .int x12), (0, .ref (z + v0)), (1, .ref (z + v1))] dX4_comeIn_4 (by decide) rfl ?_
  refine tc_aload_n 2 rfl dX4_comeIn_5 ?_
  refine tc_getp hW iv1 fl_X4_25 dX4_comeIn_6 rfl ?_
  refine tc_astore_n [(3, .ref (z + (tc_p G v1 0))), (2, .int x12), (0, .ref (z + v0)), (1, .ref (z + v1))] dX4_comeIn_9 (by decide) rfl ?_
  refine tc_aload_n 3 rfl dX4_comeIn_10 ?_
  refine tc_iload_n 1 rfl dX4_comeIn_11 ?_
  obtain ⟨x13, u14, hq15, h⟩ := tc_b_ex h
  refine tc_callVi [.int x12] dX4_comeIn_12 iv1.1 (ct_X9_openBucketFor hW iv1 hq15) ml_X4_29 mw_X9_openBucketFor mv_X9_openBucketFor ⟨Nat.le_of_ble_eq_true rfl, Nat.le_of_ble_eq_true rfl⟩ rfl rfl (Nat.le_of_ble_eq_true rfl) ⟨Nat.le_refl _, Nat.le_refl _⟩ (by decide) ?_
  refine tc_istore [(4, .int x13), (3, .ref (z + (tc_p G v1 0))), (2, .int x12), (0, .ref (z + v0)), (1, .ref (z + v1))] dX4_comeIn_15 (by decide) rfl ?_
  refine tc_iload 0 rfl dX4_comeIn_17 ?_
  refine tc_if_lt 35 dX4_comeIn_19 (by decide) (fun hc16 => ?_) (fun hc16 => ?_)
  · rw [if_pos hc16] at h
    refine tc_aload_n 1 rfl dX4_comeIn_35 ?_
    refine tc_geti (hW.p iv1 0 rfl).1 fl_X4_40 dX4_comeIn_36 ?_
    refine tc_iconst (v := 2) (by decide) dX4_comeIn_39 ?_
    refine tc_icmp_ne 88 dX4_comeIn_40 (by decide) (fun hc17 => ?_) (fun hc17 => ?_)
    · rw [if_neg hc17] at h
      refine tc_lvs [3, 4, 2, 1] rfl ?_
      exact sb_X4_comeIn_88 hW r ur  v0 v1 x12 (tc_p G v1 0) u14 iv0 iv1 (hW.p iv1 0 rfl) h
    · rw [if_pos hc17] at h
      refine tc_aload_n 3 rfl dX4_comeIn_43 ?_
      refine tc_getp hW iv0 fl_X4_15 dX4_comeIn_44 rfl ?_
      refine tc_aload_n 4 rfl dX4_comeIn_47 ?_
      refine tc_aload_n 4 rfl dX4_comeIn_48 ?_
      refine tc_getp hW iv1 fl_X4_45 dX4_comeIn_49 rfl ?_
      refine tc_iload_n 2 rfl dX4_comeIn_52 ?_
      obtain ⟨bx18, x18, ex18, h⟩ := tc_ld_ex h
      refine tc_iald (hW.p iv1 7 rfl).1 bx18 dX4_comeIn_53 ?_
      refine tc_nm ex18 ?_
      refine tc_aload_n 4 rfl dX4_comeIn_54 ?_
      refine tc_getp hW iv1 fl_X4_48 dX4_comeIn_55 rfl ?_
      refine tc_iload_n 2 rfl dX4_comeIn_58 ?_
      obtain ⟨bx19, x19, ex19, h⟩ := tc_ld_ex h
      refine tc_iald (hW.p iv1 8 rfl).1 bx19 dX4_comeIn_59 ?_
      refine tc_nm ex19 ?_
      obtain ⟨x20, u21, hq22, h⟩ := tc_b_ex h
      refine tc_callVi [.ref (z + v1), .int x18, .int x19] dX4_comeIn_60 (hW.p iv0 0 rfl).1 (ct_X1_seek hW (hW.p iv0 0 rfl) iv1 hq22) ml_X4_51 mw_X1_seek mv_X1_seek ⟨Nat.le_of_ble_eq_true rfl, Nat.le_of_ble_eq_true rfl⟩ rfl rfl (Nat.le_of_ble_eq_true rfl) ⟨Nat.le_refl _, Nat.le_refl _⟩ (by decide) ?_
      refine tc_if_eq 88 dX4_comeIn_63 (by decide) (fun hc23 => ?_) (fun hc23 => ?_)
      · rw [if_pos hc23] at h
        refine tc_lvs [3, 4, 2, 1] rfl ?_
        exact sb_X4_comeIn_88 hW r ur  v0 v1 x12 (tc_p G v1 0) u21 iv0 iv1 (hW.p iv1 0 rfl) h
      · rw [if_neg hc23] at h
        refine tc_aload_n 3 rfl dX4_comeIn_66 ?_
        refine tc_getp hW iv0 fl_X4_15 dX4_comeIn_67 rfl ?_
        refine tc_geti (hW.p iv0 0 rfl).1 fl_X4_57 dX4_comeIn_70 ?_
        refine tc_aload_n 1 rfl dX4_comeIn_73 ?_
        refine tc_geti (hW.p iv1 0 rfl).1 fl_X4_60 dX4_comeIn_74 ?_
        refine tc_icmp_gt 88 dX4_comeIn_77 (by decide) (fun hc24 => ?_) (fun hc24 => ?_)
        · rw [if_pos hc24] at h
          refine tc_lvs [3, 4, 2, 1] rfl ?_
          exact sb_X4_comeIn_88 hW r ur  v0 v1 x12 (tc_p G v1 0) u21 iv0 iv1 (hW.p iv1 0 rfl) h
        · rw [if_neg hc24] at h
          refine tc_aload_n 3 rfl dX4_comeIn_80 ?_
          refine tc_aload_n 4 rfl dX4_comeIn_81 ?_
          refine tc_iload_n 2 rfl dX4_comeIn_82 ?_
          obtain ⟨x25, u26, hq27, h⟩ := tc_b_ex h
          refine tc_callVv [.ref (z + v1), .int x12] dX4_comeIn_83 iv0.1 (ct_X4_follow hW iv0 iv1 hq27) ml_X4_63 mw_X4_follow mv_X4_follow ⟨Nat.le_of_ble_eq_true rfl, Nat.le_of_ble_eq_true rfl⟩ rfl rfl (Nat.le_of_ble_eq_true rfl) ⟨Nat.le_refl _, Nat.le_refl _⟩ (by decide) ?_
          refine tc_iconst (v := 2) (by decide) dX4_comeIn_86 ?_
          cases h
          exact tc_ireturn rfl dX4_comeIn_87 rfl rfl ⟨rfl, rfl, rfl⟩
  · rw [if_neg hc16] at h
    refine tc_aload_n 4 rfl dX4_comeIn_22 ?_
    refine tc_iload_n 2 rfl dX4_comeIn_23 ?_
    refine tc_aload_n 4 rfl dX4_comeIn_24 ?_
    refine tc_iload 0 rfl dX4_comeIn_25 ?_
    obtain ⟨x28, u29, hq30, h⟩ := tc_b_ex h
    refine tc_callVi [.int x13] dX4_comeIn_27 iv1.1 (ct_X9_emptyPlaceIn hW iv1 hq30) ml_X4_33 mw_X9_emptyPlaceIn mv_X9_emptyPlaceIn ⟨Nat.le_of_ble_eq_true rfl, Nat.le_of_ble_eq_true rfl⟩ rfl rfl (Nat.le_of_ble_eq_true rfl) ⟨Nat.le_refl _, Nat.le_refl _⟩ (by decide) ?_
    obtain ⟨x31, u32, hq33, h⟩ := tc_b_ex h
    refine tc_callVv [.int x12, .int x28] dX4_comeIn_30 iv1.1 (ct_X9_move hW iv1 hq33) ml_X4_36 mw_X9_move mv_X9_move ⟨Nat.le_of_ble_eq_true rfl, Nat.le_of_ble_eq_true rfl⟩ rfl rfl (Nat.le_of_ble_eq_true rfl) ⟨Nat.le_refl _, Nat.le_refl _⟩ (by decide) ?_
    refine tc_iconst (v := 1) (by decide) dX4_comeIn_33 ?_
    cases h
    exact tc_ireturn rfl dX4_comeIn_34 rfl rfl ⟨rfl, rfl, rfl⟩
set_option maxRecDepth 100000 in
set_option maxHeartbeats 4000000 in
theorem ct_X9_copyFrom {l : Launch} {z : Nat} {D : tc_D} {G : tc_G} (hW : tc_W G) {v0 : Nat} {v1 : Nat} {u : tc_S} {r : Int32} {ur : tc_S} (iv0 : tc_is G v0 9) (iv1 : tc_is G v1 9) (h : fn_X9_copyFrom G v0 v1 u = some (r, ur)) : tc_C l z D yX9_copyFrom cX9_copyFrom 2 none 2 45 0 0 [.ref (z + v0), .ref (z + v1)] G u (tc_pv G ur) := by
  unfold fn_X9_copyFrom at h
  refine tc_C.of (by decide) (Nat.le_of_ble_eq_true rfl) fun p e s m args below meth c => ?_
  show tc_R p l e { frames := 2, cells := 0, slots := 0, locals := 45 } s m args below meth c z D cX9_copyFrom RX9 2 none 0 0 (tc_pv G ur) 0 0 G u 0 [(0, .ref (z + v0)), (1, .ref (z + v1))] []
  refine tc_aload_n 1 rfl dX9_copyFrom_0 ?_
  refine tc_geti iv1.1 fl_X9_22 dX9_copyFrom_1 ?_
  refine tc_aload_n 0 rfl dX9_copyFrom_4 ?_
  refine tc_geti iv0.1 fl_X9_22 dX9_copyFrom_5 ?_
  refine tc_icmp_eq 12 dX9_copyFrom_8 (by decide) (fun hc1 => ?_) (fun hc1 => ?_)
  · rw [if_pos hc1] at h
    refine tc_aload_n 0 rfl dX9_copyFrom_12 ?_
    refine tc_getp hW iv0 fl_X9_12 dX9_copyFrom_13 rfl ?_
    refine tc_aload_n 1 rfl dX9_copyFrom_16 ?_
    refine tc_getp hW iv1 fl_X9_12 dX9_copyFrom_17 rfl ?_
    obtain ⟨x2, u3, hq4, h⟩ := tc_b_ex h
    refine tc_callVv [.ref (z + (tc_p G v1 0))] dX9_copyFrom_20 (hW.p iv0 0 rfl).1 (ct_X8_copyFrom hW (hW.p iv0 0 rfl) (hW.p iv1 0 rfl) hq4) ml_X9_50 mw_X8_copyFrom mv_X8_copyFrom ⟨Nat.le_of_ble_eq_true rfl, Nat.le_of_ble_eq_true rfl⟩ rfl rfl (Nat.le_of_ble_eq_true rfl) ⟨Nat.le_refl _, Nat.le_refl _⟩ (by decide) ?_
    refine tc_aload_n 1 rfl dX9_copyFrom_23 ?_
    refine tc_getp hW iv1 fl_X9_29 dX9_copyFrom_24 rfl ?_
    refine tc_iconst (v := 0) (by decide) dX9_copyFrom_27 ?_
    refine tc_aload_n 0 rfl dX9_copyFrom_28 ?_
    refine tc_getp hW iv0 fl_X9_29 dX9_copyFrom_29 rfl ?_
    refine tc_iconst (v := 0) (by decide) dX9_copyFrom_32 ?_
    refine tc_aload_n 0 rfl dX9_copyFrom_33 ?_
    refine tc_geti iv0.1 fl_X9_26 dX9_copyFrom_34 ?_
    refine tc_iconst (v := 1) (by decide) dX9_copyFrom_37 ?_
    refine tc_iadd dX9_copyFrom_38 ?_
    obtain ⟨bu5, u5, eu5, h⟩ := tc_cp_ex h
    refine tc_copy (hW.p iv1 3 rfl).1 (hW.p iv0 3 rfl).1 (by decide) bu5 dX9_copyFrom_39 ml_X9_80 (Nat.le_of_ble_eq_true rfl) (Nat.le_of_ble_eq_true rfl) ?_
    refine tc_nmu eu5 ?_
    refine tc_aload_n 1 rfl dX9_copyFrom_42 ?_
    refine tc_getp hW iv1 fl_X9_32 dX9_copyFrom_43 rfl ?_
    refine tc_iconst (v := 0) (by decide) dX9_copyFrom_46 ?_
    refine tc_aload_n 0 rfl dX9_copyFrom_47 ?_
    refine tc_getp hW iv0 fl_X9_32 dX9_copyFrom_48 rfl ?_
    refine tc_iconst (v := 0) (by decide) dX9_copyFrom_51 ?_
    refine tc_aload_n 0 rfl dX9_copyFrom_52 ?_
    refine tc_geti iv0.1 fl_X9_26 dX9_copyFrom_53 ?_
    refine tc_iconst (v := 1) (by decide) dX9_copyFrom_56 ?_
    refine tc_iadd dX9_copyFrom_57 ?_
    obtain ⟨bu6, u6, eu6, h⟩ := tc_cp_ex h
    refine tc_copy (hW.p iv1 4 rfl).1 (hW.p iv0 4 rfl).1 (by decide) bu6 dX9_copyFrom_58 ml_X9_80 (Nat.le_of_ble_eq_true rfl) (Nat.le_of_ble_eq_true rfl) ?_
    refine tc_nmu eu6 ?_
    refine tc_aload_n 1 rfl dX9_copyFrom_61 ?_
    refine tc_getp hW iv1 fl_X9_35 dX9_copyFrom_62 rfl ?_
    refine tc_iconst (v := 0) (by decide) dX9_copyFrom_65 ?_
    refine tc_aload_n 0 rfl dX9_copyFrom_66 ?_
    refine tc_getp hW iv0 fl_X9_35 dX9_copyFrom_67 rfl ?_
    refine tc_iconst (v := 0) (by decide) dX9_copyFrom_70 ?_
    refine tc_aload_n 0 rfl dX9_copyFrom_71 ?_
    refine tc_geti iv0.1 fl_X9_26 dX9_copyFrom_72 ?_
    refine tc_iconst (v := 1) (by decide) dX9_copyFrom_75 ?_
    refine tc_iadd dX9_copyFrom_76 ?_
    obtain ⟨bu7, u7, eu7, h⟩ := tc_cp_ex h
    refine tc_copy (hW.p iv1 5 rfl).1 (hW.p iv0 5 rfl).1 (by decide) bu7 dX9_copyFrom_77 ml_X9_80 (Nat.le_of_ble_eq_true rfl) (Nat.le_of_ble_eq_true rfl) ?_
    refine tc_nmu eu7 ?_
    refine tc_aload_n 1 rfl dX9_copyFrom_80 ?_
    refine tc_getp hW iv1 fl_X9_38 dX9_copyFrom_81 rfl ?_
    refine tc_iconst (v := 0) (by decide) dX9_copyFrom_84 ?_
    refine tc_aload_n 0 rfl dX9_copyFrom_85 ?_
    refine tc_getp hW iv0 fl_X9_38 dX9_copyFrom_86 rfl ?_
    refine tc_iconst (v := 0) (by decide) dX9_copyFrom_89 ?_
    refine tc_aload_n 0 rfl dX9_copyFrom_90 ?_
    refine tc_geti iv0.1 fl_X9_26 dX9_copyFrom_91 ?_
    refine tc_iconst (v := 1) (by decide) dX9_copyFrom_94 ?_
    refine tc_iadd dX9_copyFrom_95 ?_
    obtain ⟨bu8, u8, eu8, h⟩ := tc_cp_ex h
    refine tc_copy (hW.p iv1 6 rfl).1 (hW.p iv0 6 rfl).1 (by decide) bu8 dX9_copyFrom_96 ml_X9_80 (Nat.le_of_ble_eq_true rfl) (Nat.le_of_ble_eq_true rfl) ?_
    refine tc_nmu eu8 ?_
    refine tc_aload_n 1 rfl dX9_copyFrom_99 ?_
    refine tc_getp hW iv1 fl_X9_41 dX9_copyFrom_100 rfl ?_
    refine tc_iconst (v := 0) (by decide) dX9_copyFrom_103 ?_
    refine tc_aload_n 0 rfl dX9_copyFrom_104 ?_
    refine tc_getp hW iv0 fl_X9_41 dX9_copyFrom_105 rfl ?_
    refine tc_iconst (v := 0) (by decide) dX9_copyFrom_108 ?_
    refine tc_aload_n 0 rfl dX9_copyFrom_109 ?_
    refine tc_geti iv0.1 fl_X9_26 dX9_copyFrom_110 ?_
    refine tc_iconst (v := 1) (by decide) dX9_copyFrom_113 ?_
    refine tc_iadd dX9_copyFrom_114 ?_
    obtain ⟨bu9, u9, eu9, h⟩ := tc_cp_ex h
    refine tc_copy (hW.p iv1 7 rfl).1 (hW.p iv0 7 rfl).1 (by decide) bu9 dX9_copyFrom_115 ml_X9_80 (Nat.le_of_ble_eq_true rfl) (Nat.le_of_ble_eq_true rfl) ?_
    refine tc_nmu eu9 ?_
    refine tc_aload_n 1 rfl dX9_copyFrom_118 ?_
    refine tc_getp hW iv1 fl_X9_44 dX9_copyFrom_119 rfl ?_
    refine tc_iconst (v := 0) (by decide) dX9_copyFrom_122 ?_
    refine tc_aload_n 0 rfl dX9_copyFrom_123 ?_
    refine tc_getp hW iv0 fl_X9_44 dX9_copyFrom_124 rfl ?_
    refine tc_iconst (v := 0) (by decide) dX9_copyFrom_127 ?_
    refine tc_aload_n 0 rfl dX9_copyFrom_128 ?_
    refine tc_geti iv0.1 fl_X9_26 dX9_copyFrom_129 ?_
    refine tc_iconst (v := 1) (by decide) dX9_copyFrom_132 ?_
    refine tc_iadd dX9_copyFrom_133 ?_
    obtain ⟨bu10, u10, eu10, h⟩ := tc_cp_ex h
    refine tc_copy (hW.p iv1 8 rfl).1 (hW.p iv0 8 rfl).1 (by decide) bu10 dX9_copyFrom_134 ml_X9_80 (Nat.le_of_ble_eq_true rfl) (Nat.le_of_ble_eq_true rfl) ?_
    refine tc_nmu eu10 ?_
    refine tc_aload_n 1 rfl dX9_copyFrom_137 ?_
    refine tc_getp hW iv1 fl_X9_18 dX9_copyFrom_138 rfl ?_
    refine tc_iconst (v := 0) (by decide) dX9_copyFrom_141 ?_
    refine tc_aload_n 0 rfl dX9_copyFrom_142 ?_
    refine tc_getp hW iv0 fl_X9_18 dX9_copyFrom_143 rfl ?_
    refine tc_iconst (v := 0) (by decide) dX9_copyFrom_146 ?_
    refine tc_bipush (v := 32) (by decide) dX9_copyFrom_147 ?_
    obtain ⟨bu11, u11, eu11, h⟩ := tc_cp_ex h
    refine tc_copy (hW.p iv1 9 rfl).1 (hW.p iv0 9 rfl).1 (by decide) bu11 dX9_copyFrom_149 ml_X9_80 (Nat.le_of_ble_eq_true rfl) (Nat.le_of_ble_eq_true rfl) ?_
    refine tc_nmu eu11 ?_
    refine tc_aload_n 0 rfl dX9_copyFrom_152 ?_
    refine tc_aload_n 1 rfl dX9_copyFrom_153 ?_
    refine tc_geti iv1.1 fl_X9_77 dX9_copyFrom_154 ?_
    obtain ⟨u12, eu12, h⟩ := tc_let_ex h
    refine tc_puti iv0.1 fl_X9_77 dX9_copyFrom_157 ?_
    refine tc_nmu eu12 ?_
    refine tc_aload_n 0 rfl dX9_copyFrom_160 ?_
    refine tc_aload_n 1 rfl dX9_copyFrom_161 ?_
    refine tc_geti iv1.1 fl_X9_54 dX9_copyFrom_162 ?_
    obtain ⟨u13, eu13, h⟩ := tc_let_ex h
    refine tc_puti iv0.1 fl_X9_54 dX9_copyFrom_165 ?_
    refine tc_nmu eu13 ?_
    refine tc_aload_n 0 rfl dX9_copyFrom_168 ?_
    refine tc_aload_n 1 rfl dX9_copyFrom_169 ?_
    refine tc_geti iv1.1 fl_X9_57 dX9_copyFrom_170 ?_
    obtain ⟨u14, eu14, h⟩ := tc_let_ex h
    refine tc_puti iv0.1 fl_X9_57 dX9_copyFrom_173 ?_
    refine tc_nmu eu14 ?_
    refine tc_aload_n 0 rfl dX9_copyFrom_176 ?_
    refine tc_aload_n 1 rfl dX9_copyFrom_177 ?_
    refine tc_geti iv1.1 fl_X9_60 dX9_copyFrom_178 ?_
    obtain ⟨u15, eu15, h⟩ := tc_let_ex h
    refine tc_puti iv0.1 fl_X9_60 dX9_copyFrom_181 ?_
    refine tc_nmu eu15 ?_
    refine tc_aload_n 0 rfl dX9_copyFrom_184 ?_
    refine tc_aload_n 1 rfl dX9_copyFrom_185 ?_
    refine tc_geti iv1.1 fl_X9_63 dX9_copyFrom_186 ?_
    obtain ⟨u16, eu16, h⟩ := tc_let_ex h
    refine tc_puti iv0.1 fl_X9_63 dX9_copyFrom_189 ?_
    refine tc_nmu eu16 ?_
    refine tc_aload_n 0 rfl dX9_copyFrom_192 ?_
    refine tc_aload_n 1 rfl dX9_copyFrom_193 ?_
    refine tc_geti iv1.1 fl_X9_66 dX9_copyFrom_194 ?_
    obtain ⟨u17, eu17, h⟩ := tc_let_ex h
    refine tc_puti iv0.1 fl_X9_66 dX9_copyFrom_197 ?_
    refine tc_nmu eu17 ?_
    refine tc_aload_n 0 rfl dX9_copyFrom_200 ?_
    refine tc_aload_n 1 rfl dX9_copyFrom_201 ?_
    refine tc_geti iv1.1 fl_X9_69 dX9_copyFrom_202 ?_
    obtain ⟨u18, eu18, h⟩ := tc_let_ex h
    refine tc_puti iv0.1 fl_X9_69 dX9_copyFrom_205 ?_
    refine tc_nmu eu18 ?_
    cases h
    exact tc_return rfl dX9_copyFrom_208 rfl rfl ⟨rfl, rfl, rfl⟩
  · rw [if_neg hc1] at h
    cases h
    exact tc_return rfl dX9_copyFrom_11 rfl rfl ⟨rfl, rfl, rfl⟩
set_option maxRecDepth 100000 in
set_option maxHeartbeats 4000000 in
theorem ct_X3_takeOver {l : Launch} {z : Nat} {D : tc_D} {G : tc_G} (hW : tc_W G) {v0 : Nat} {v1 : Nat} {v2 : Int32} {u : tc_S} {r : Int32} {ur : tc_S} (iv0 : tc_is G v0 3) (iv1 : tc_is G v1 9) (h : fn_X3_takeOver G v0 v1 v2 u = some (r, ur)) : tc_C l z D yX3_takeOver cX3_takeOver 3 none 2 45 0 0 [.ref (z + v0), .ref (z + v1), .int v2] G u (tc_pv G ur) := by
  unfold fn_X3_takeOver at h
  refine tc_C.of (by decide) (Nat.le_of_ble_eq_true rfl) fun p e s m args below meth c => ?_
  show tc_R p l e { frames := 2, cells := 0, slots := 0, locals := 45 } s m args below meth c z D cX3_takeOver RX3 3 none 0 0 (tc_pv G ur) 0 0 G u 0 [(0, .ref (z + v0)), (1, .ref (z + v1)), (2, .int v2)] []
  refine tc_aload_n 1 rfl dX3_takeOver_0 ?_
  refine tc_aload_n 0 rfl dX3_takeOver_1 ?_
  refine tc_getp hW iv0 fl_X3_14 dX3_takeOver_2 rfl ?_
  refine tc_getp hW (hW.p iv0 2 rfl) fl_X3_121 dX3_takeOver_5 rfl ?_
  refine tc_iload_n 2 rfl dX3_takeOver_8 ?_
  obtain ⟨bx1, x1, ex1, h⟩ := tc_ld_ex h
  refine tc_iald (hW.p (hW.p iv0 2 rfl) 3 rfl).1 bx1 dX3_takeOver_9 ?_
  refine tc_nm ex1 ?_
  refine tc_aload_n 0 rfl dX3_takeOver_10 ?_
  refine tc_getp hW iv0 fl_X3_14 dX3_takeOver_11 rfl ?_
  refine tc_getp hW (hW.p iv0 2 rfl) fl_X3_43 dX3_takeOver_14 rfl ?_
  refine tc_iload_n 2 rfl dX3_takeOver_17 ?_
  obtain ⟨bx2, x2, ex2, h⟩ := tc_ld_ex h
  refine tc_iald (hW.p (hW.p iv0 2 rfl) 4 rfl).1 bx2 dX3_takeOver_18 ?_
  refine tc_nm ex2 ?_
  refine tc_aload_n 0 rfl dX3_takeOver_19 ?_
  refine tc_getp hW iv0 fl_X3_14 dX3_takeOver_20 rfl ?_
  refine tc_getp hW (hW.p iv0 2 rfl) fl_X3_127 dX3_takeOver_23 rfl ?_
  refine tc_iload_n 2 rfl dX3_takeOver_26 ?_
  obtain ⟨bx3, x3, ex3, h⟩ := tc_ld_ex h
  refine tc_iald (hW.p (hW.p iv0 2 rfl) 5 rfl).1 bx3 dX3_takeOver_27 ?_
  refine tc_nm ex3 ?_
  refine tc_aload_n 0 rfl dX3_takeOver_28 ?_
  refine tc_getp hW iv0 fl_X3_14 dX3_takeOver_29 rfl ?_
  refine tc_getp hW (hW.p iv0 2 rfl) fl_X3_130 dX3_takeOver_32 rfl ?_
  refine tc_iload_n 2 rfl dX3_takeOver_35 ?_
  obtain ⟨bx4, x4, ex4, h⟩ := tc_ld_ex h
  refine tc_iald (hW.p (hW.p iv0 2 rfl) 6 rfl).1 bx4 dX3_takeOver_36 ?_
  refine tc_nm ex4 ?_
  obtain ⟨x5, u6, hq7, h⟩ := tc_b_ex h
  refine tc_callVv [.int x1, .int x2, .int x3, .int x4] dX3_takeOver_37 iv1.1 (ct_X9_takeInHand hW iv1 hq7) ml_X3_47 mw_X9_takeInHand mv_X9_takeInHand ⟨Nat.le_of_ble_eq_true rfl, Nat.le_of_ble_eq_true rfl⟩ rfl rfl (Nat.le_of_ble_eq_true rfl) ⟨Nat.le_refl _, Nat.le_refl _⟩ (by decide) ?_
  cases h
  exact tc_return rfl dX3_takeOver_40 rfl rfl ⟨rfl, rfl, rfl⟩
set_option maxRecDepth 100000 in
set_option maxHeartbeats 4000000 in
theorem sb_X3_layAnew_48 {p : Program} {l : Launch} {e : Env} {s : State} {m : MethodId} {args : Array Value} {below : List Frame} {meth : Method} {c : Code} {z : Nat} {D : tc_D} {G : tc_G} (hW : tc_W G) (r : Int32) (ur : tc_S) (K6 : Nat → Nat → Int32 → tc_S → Option (Int32 × tc_S)) (hK6 : ∀ (v0 : Nat) (v1 : Nat) (v2 : Int32) (u : tc_S), tc_is G v0 3 → tc_is G v1 9 → K6 v0 v1 v2 u = some (r, ur) → tc_R p l e { frames := 3, cells := 0, slots := 0, locals := 78 } s m args below meth c z D cX3_layAnew RX3 3 (some .boolean) 0 0 (tc_po r G ur) 0 0 G u 6 [(0, .ref (z + v0)), (1, .ref (z + v1)), (2, .int v2)] []) (v0 : Nat) (v1 : Nat) (v2 : Int32) (u : tc_S) (iv0 : tc_is G v0 3) (iv1 : tc_is G v1 9) (h : bl_X3_layAnew_48 G K6 v0 v1 v2 u = some (r, ur)) : tc_R p l e { frames := 3, cells := 0, slots := 0, locals := 78 } s m args below meth c z D cX3_layAnew RX3 3 (some .boolean) 0 0 (tc_po r G ur) 0 0 G u 48 [(0, .ref (z + v0)), (1, .ref (z + v1)), (2, .int v2)] [] := by
  unfold bl_X3_layAnew_48 at h
  obtain ⟨x1, ex1, h⟩ := tc_let_ex h
  refine tc_iinc 2 (v := x1) [(2, .int x1), (0, .ref (z + v0)), (1, .ref (z + v1))] dX3_layAnew_48 rfl (by rw [ex1]; rfl) (by decide) rfl ?_
  refine tc_goto 6 dX3_layAnew_51 (by decide) ?_
  refine tc_lvs [1, 2, 0] rfl ?_
  exact hK6 v0 v1 x1 u iv0 iv1 h
set_option maxRecDepth 100000 in
set_option maxHeartbeats 4000000 in
theorem sl_X3_layAnew_6 {p : Program} {l : Launch} {e : Env} {s : State} {m : MethodId} {args : Array Value} {below : List Frame} {meth : Method} {c : Code} {z : Nat} {D : tc_D} {G : tc_G} (hW : tc_W G) (r : Int32) (ur : tc_S) : ∀ (n : Nat) (v0 : Nat) (v1 : Nat) (v2 : Int32) (u : tc_S) (iv0 : tc_is G v0 3) (iv1 : tc_is G v1 9) (h : lo_X3_layAnew_6 G n v0 v1 v2 u = some (r, ur)), tc_R p l e { frames := 3, cells := 0, slots := 0, locals := 78 } s m args below meth c z D cX3_layAnew RX3 3 (some .boolean) 0 0 (tc_po r G ur) 0 0 G u 6 [(0, .ref (z + v0)), (1, .ref (z + v1)), (2, .int v2)] [] := by
  intro n
  induction n with
  | zero => intro v0 v1 v2 u iv0 iv1 h; cases h
  | succ n ih =>
    intro v0 v1 v2 u iv0 iv1 h
    rw [lo_X3_layAnew_6] at h
    refine tc_iload_n 2 rfl dX3_layAnew_6 ?_
    refine tc_aload_n 0 rfl dX3_layAnew_7 ?_
    refine tc_getp hW iv0 fl_X3_14 dX3_layAnew_8 rfl ?_
    refine tc_geti (hW.p iv0 2 rfl).1 fl_X3_66 dX3_layAnew_11 ?_
    refine tc_icmp_gt 54 dX3_layAnew_14 (by decide) (fun hc2 => ?_) (fun hc2 => ?_)
    · rw [if_pos hc2] at h
      refine tc_iconst (v := 1) (by decide) dX3_layAnew_54 ?_
      obtain ⟨hz3, h⟩ := tc_zo_ex h
      cases h
      exact tc_zreturn hz3 rfl dX3_layAnew_55 rfl rfl ⟨rfl, rfl, rfl⟩
    · rw [if_neg hc2] at h
      refine tc_aload_n 0 rfl dX3_layAnew_17 ?_
      refine tc_getp hW iv0 fl_X3_14 dX3_layAnew_18 rfl ?_
      refine tc_getp hW (hW.p iv0 2 rfl) fl_X3_121 dX3_layAnew_21 rfl ?_
      refine tc_iload_n 2 rfl dX3_layAnew_24 ?_
      obtain ⟨bx4, x4, ex4, h⟩ := tc_ld_ex h
      refine tc_iald (hW.p (hW.p iv0 2 rfl) 3 rfl).1 bx4 dX3_layAnew_25 ?_
      refine tc_nm ex4 ?_
      refine tc_if_lt 48 dX3_layAnew_26 (by decide) (fun hc5 => ?_) (fun hc5 => ?_)
      · rw [if_pos hc5] at h
        exact sb_X3_layAnew_48 hW r ur _ ih v0 v1 v2 u iv0 iv1 h
      · rw [if_neg hc5] at h
        refine tc_aload_n 0 rfl dX3_layAnew_29 ?_
        refine tc_aload_n 1 rfl dX3_layAnew_30 ?_
        refine tc_iload_n 2 rfl dX3_layAnew_31 ?_
        obtain ⟨x6, u7, hq8, h⟩ := tc_b_ex h
        refine tc_callVv [.ref (z + v1), .int v2] dX3_layAnew_32 iv0.1 (ct_X3_takeOver hW iv0 iv1 hq8) ml_X3_124 mw_X3_takeOver mv_X3_takeOver ⟨Nat.le_of_ble_eq_true rfl, Nat.le_of_ble_eq_true rfl⟩ rfl rfl (Nat.le_of_ble_eq_true rfl) ⟨Nat.le_refl _, Nat.le_refl _⟩ (by decide) ?_
        refine tc_aload_n 0 rfl dX3_layAnew_35 ?_
        refine tc_getp hW iv0 fl_X3_27 dX3_layAnew_36 rfl ?_
        refine tc_aload_n 1 rfl dX3_layAnew_39 ?_
        obtain ⟨x9, u10, hq11, h⟩ := tc_b_ex h
        refine tc_callVi [.ref (z + v1)] dX3_layAnew_40 (hW.p iv0 0 rfl).1 (ct_X4_comeIn hW (hW.p iv0 0 rfl) iv1 hq11) ml_X3_51 mw_X4_comeIn mv_X4_comeIn ⟨Nat.le_of_ble_eq_true rfl, Nat.le_of_ble_eq_true rfl⟩ rfl rfl (Nat.le_of_ble_eq_true rfl) ⟨Nat.le_refl _, Nat.le_refl _⟩ (by decide) ?_
        refine tc_if_ne 48 dX3_layAnew_43 (by decide) (fun hc12 => ?_) (fun hc12 => ?_)
        · rw [if_neg hc12] at h
          exact sb_X3_layAnew_48 hW r ur _ ih v0 v1 v2 u10 iv0 iv1 h
        · rw [if_pos hc12] at h
          refine tc_iconst (v := 0) (by decide) dX3_layAnew_46 ?_
          obtain ⟨hz13, h⟩ := tc_zo_ex h
          cases h
          exact tc_zreturn hz13 rfl dX3_layAnew_47 rfl rfl ⟨rfl, rfl, rfl⟩
set_option maxRecDepth 100000 in
set_option maxHeartbeats 4000000 in
theorem ct_X3_layAnew {l : Launch} {z : Nat} {D : tc_D} {G : tc_G} (hW : tc_W G) {v0 : Nat} {v1 : Nat} {u : tc_S} {r : Int32} {ur : tc_S} (iv0 : tc_is G v0 3) (iv1 : tc_is G v1 9) (h : fn_X3_layAnew G v0 v1 u = some (r, ur)) : tc_C l z D yX3_layAnew cX3_layAnew 3 (some .boolean) 3 78 0 0 [.ref (z + v0), .ref (z + v1)] G u (tc_po r G ur) := by
  unfold fn_X3_layAnew at h
  refine tc_C.of (by decide) (Nat.le_of_ble_eq_true rfl) fun p e s m args below meth c => ?_
  show tc_R p l e { frames := 3, cells := 0, slots := 0, locals := 78 } s m args below meth c z D cX3_layAnew RX3 3 (some .boolean) 0 0 (tc_po r G ur) 0 0 G u 0 [(0, .ref (z + v0)), (1, .ref (z + v1))] []
  refine tc_aload_n 1 rfl dX3_layAnew_0 ?_
  obtain ⟨x14, u15, hq16, h⟩ := tc_b_ex h
  refine tc_callVv [] dX3_layAnew_1 iv1.1 (ct_X9_clear hW iv1 hq16) ml_X3_118 mw_X9_clear mv_X9_clear ⟨Nat.le_of_ble_eq_true rfl, Nat.le_of_ble_eq_true rfl⟩ rfl rfl (Nat.le_of_ble_eq_true rfl) ⟨Nat.le_refl _, Nat.le_refl _⟩ (by decide) ?_
  refine tc_iconst (v := 0) (by decide) dX3_layAnew_4 ?_
  refine tc_istore_n [(2, .int 0), (0, .ref (z + v0)), (1, .ref (z + v1))] dX3_layAnew_5 (by decide) rfl ?_
  refine tc_lvs [1, 2, 0] rfl ?_
  exact sl_X3_layAnew_6 hW r ur  _ v0 v1 0 u15 iv0 iv1 h
set_option maxRecDepth 100000 in
set_option maxHeartbeats 4000000 in
theorem ct_X9_goBackTo {l : Launch} {z : Nat} {D : tc_D} {G : tc_G} (hW : tc_W G) {v0 : Nat} {v1 : Nat} {u : tc_S} {r : Int32} {ur : tc_S} (iv0 : tc_is G v0 9) (iv1 : tc_is G v1 9) (h : fn_X9_goBackTo G v0 v1 u = some (r, ur)) : tc_C l z D yX9_goBackTo cX9_goBackTo 3 none 3 66 0 0 [.ref (z + v0), .ref (z + v1)] G u (tc_pv G ur) := by
  unfold fn_X9_goBackTo at h
  refine tc_C.of (by decide) (Nat.le_of_ble_eq_true rfl) fun p e s m args below meth c => ?_
  show tc_R p l e { frames := 3, cells := 0, slots := 0, locals := 66 } s m args below meth c z D cX9_goBackTo RX9 3 none 0 0 (tc_pv G ur) 0 0 G u 0 [(0, .ref (z + v0)), (1, .ref (z + v1))] []
  refine tc_aload_n 0 rfl dX9_goBackTo_0 ?_
  refine tc_getp hW iv0 fl_X9_12 dX9_goBackTo_1 rfl ?_
  refine tc_getp hW (hW.p iv0 0 rfl) fl_X9_86 dX9_goBackTo_4 rfl ?_
  refine tc_geti (hW.p (hW.p iv0 0 rfl) 11 rfl).1 fl_X9_90 dX9_goBackTo_7 ?_
  obtain ⟨x1, ex1, h⟩ := tc_let_ex h
  refine tc_nm ex1 ?_
  refine tc_istore_n [(2, .int x1), (0, .ref (z + v0)), (1, .ref (z + v1))] dX9_goBackTo_10 (by decide) rfl ?_
  refine tc_aload_n 1 rfl dX9_goBackTo_11 ?_
  refine tc_aload_n 2 rfl dX9_goBackTo_12 ?_
  obtain ⟨x2, u3, hq4, h⟩ := tc_b_ex h
  refine tc_callVv [.ref (z + v1)] dX9_goBackTo_13 iv0.1 (ct_X9_copyFrom hW iv0 iv1 hq4) ml_X9_95 mw_X9_copyFrom mv_X9_copyFrom ⟨Nat.le_of_ble_eq_true rfl, Nat.le_of_ble_eq_true rfl⟩ rfl rfl (Nat.le_of_ble_eq_true rfl) ⟨Nat.le_refl _, Nat.le_refl _⟩ (by decide) ?_
  refine tc_aload_n 1 rfl dX9_goBackTo_16 ?_
  refine tc_getp hW iv0 fl_X9_12 dX9_goBackTo_17 rfl ?_
  refine tc_getp hW (hW.p iv0 0 rfl) fl_X9_86 dX9_goBackTo_20 rfl ?_
  refine tc_iload_n 0 rfl dX9_goBackTo_23 ?_
  obtain ⟨u5, eu5, h⟩ := tc_let_ex h
  refine tc_puti (hW.p (hW.p iv0 0 rfl) 11 rfl).1 fl_X9_90 dX9_goBackTo_24 ?_
  refine tc_nmu eu5 ?_
  cases h
  exact tc_return rfl dX9_goBackTo_27 rfl rfl ⟨rfl, rfl, rfl⟩
set_option maxRecDepth 100000 in
set_option maxHeartbeats 4000000 in
theorem sl_X3_grow_10 {p : Program} {l : Launch} {e : Env} {s : State} {m : MethodId} {args : Array Value} {below : List Frame} {meth : Method} {c : Code} {z : Nat} {D : tc_D} {G : tc_G} (hW : tc_W G) (r : Int32) (ur : tc_S) : ∀ (n : Nat) (v0 : Nat) (v1 : Nat) (v2 : Int32) (u : tc_S) (iv0 : tc_is G v0 3) (iv1 : tc_is G v1 9) (h : lo_X3_grow_10 G n v0 v1 v2 u = some (r, ur)), tc_R p l e { frames := 4, cells := 0, slots := 0, locals := 100 } s m args below meth c z D cX3_grow RX3 4 (some .boolean) 0 0 (tc_po r G ur) 0 0 G u 10 [(0, .ref (z + v0)), (1, .ref (z + v1)), (2, .int v2)] [] := by
  intro n
  induction n with
  | zero => intro v0 v1 v2 u iv0 iv1 h; cases h
  | succ n ih =>
    intro v0 v1 v2 u iv0 iv1 h
    rw [lo_X3_grow_10] at h
    refine tc_iload_n 2 rfl dX3_grow_10 ?_
    refine tc_iconst (v := 4) (by decide) dX3_grow_11 ?_
    refine tc_icmp_gt 78 dX3_grow_12 (by decide) (fun hc1 => ?_) (fun hc1 => ?_)
    · rw [if_pos hc1] at h
      refine tc_iconst (v := 0) (by decide) dX3_grow_78 ?_
      obtain ⟨hz2, h⟩ := tc_zo_ex h
      cases h
      exact tc_zreturn hz2 rfl dX3_grow_79 rfl rfl ⟨rfl, rfl, rfl⟩
    · rw [if_neg hc1] at h
      refine tc_aload_n 0 rfl dX3_grow_15 ?_
      refine tc_getp hW iv0 fl_X3_14 dX3_grow_16 rfl ?_
      refine tc_getp hW (hW.p iv0 2 rfl) fl_X3_57 dX3_grow_19 rfl ?_
      refine tc_geti (hW.p (hW.p iv0 2 rfl) 0 rfl).1 fl_X3_109 dX3_grow_22 ?_
      refine tc_iload_n 2 rfl dX3_grow_25 ?_
      refine tc_ishl dX3_grow_26 ?_
      obtain ⟨x3, ex3, h⟩ := tc_let_ex h
      refine tc_nm ex3 ?_
      refine tc_istore_n [(3, .int x3), (0, .ref (z + v0)), (1, .ref (z + v1)), (2, .int v2)] dX3_grow_27 (by decide) rfl ?_
      refine tc_iload_n 0 rfl dX3_grow_28 ?_
      refine tc_bipush (v := 16) (by decide) dX3_grow_29 ?_
      refine tc_icmp_le 36 dX3_grow_31 (by decide) (fun hc4 => ?_) (fun hc4 => ?_)
      · rw [if_pos hc4] at h
        refine tc_aload_n 2 rfl dX3_grow_36 ?_
        refine tc_getp hW iv1 fl_X3_57 dX3_grow_37 rfl ?_
        refine tc_iload_n 0 rfl dX3_grow_40 ?_
        obtain ⟨u5, eu5, h⟩ := tc_let_ex h
        refine tc_puti (hW.p iv1 0 rfl).1 fl_X3_109 dX3_grow_41 ?_
        refine tc_nmu eu5 ?_
        refine tc_aload_n 1 rfl dX3_grow_44 ?_
        refine tc_aload_n 2 rfl dX3_grow_45 ?_
        obtain ⟨x6, u7, hq8, h⟩ := tc_b_ex h
        refine tc_callVi [.ref (z + v1)] dX3_grow_46 iv0.1 (ct_X3_layAnew hW iv0 iv1 hq8) ml_X3_100 mw_X3_layAnew mv_X3_layAnew ⟨Nat.le_of_ble_eq_true rfl, Nat.le_of_ble_eq_true rfl⟩ rfl rfl (Nat.le_of_ble_eq_true rfl) ⟨Nat.le_refl _, Nat.le_refl _⟩ (by decide) ?_
        refine tc_if_eq 64 dX3_grow_49 (by decide) (fun hc9 => ?_) (fun hc9 => ?_)
        · rw [if_pos hc9] at h
          refine tc_aload_n 2 rfl dX3_grow_64 ?_
          refine tc_aload_n 1 rfl dX3_grow_65 ?_
          refine tc_getp hW iv0 fl_X3_14 dX3_grow_66 rfl ?_
          obtain ⟨x10, u11, hq12, h⟩ := tc_b_ex h
          refine tc_callVv [.ref (z + (tc_p G v0 2))] dX3_grow_69 iv1.1 (ct_X9_goBackTo hW iv1 (hW.p iv0 2 rfl) hq12) ml_X3_106 mw_X9_goBackTo mv_X9_goBackTo ⟨Nat.le_of_ble_eq_true rfl, Nat.le_of_ble_eq_true rfl⟩ rfl rfl (Nat.le_of_ble_eq_true rfl) ⟨Nat.le_refl _, Nat.le_refl _⟩ (by decide) ?_
          obtain ⟨x13, ex13, h⟩ := tc_let_ex h
          refine tc_iinc 3 (v := x13) [(2, .int x13), (3, .int x3), (0, .ref (z + v0)), (1, .ref (z + v1))] dX3_grow_72 rfl (by rw [ex13]; rfl) (by decide) rfl ?_
          refine tc_goto 10 dX3_grow_75 (by decide) ?_
          refine tc_lvs [2, 3, 0] rfl ?_
          exact ih v0 v1 x13 u11 iv0 iv1 h
        · rw [if_neg hc9] at h
          refine tc_aload_n 2 rfl dX3_grow_52 ?_
          refine tc_dup rfl dX3_grow_53 ?_
          refine tc_geti iv1.1 fl_X3_112 dX3_grow_54 ?_
          refine tc_iload_n 3 rfl dX3_grow_57 ?_
          refine tc_iadd dX3_grow_58 ?_
          obtain ⟨u14, eu14, h⟩ := tc_let_ex h
          refine tc_puti iv1.1 fl_X3_112 dX3_grow_59 ?_
          refine tc_nmu eu14 ?_
          refine tc_iconst (v := 1) (by decide) dX3_grow_62 ?_
          obtain ⟨hz15, h⟩ := tc_zo_ex h
          cases h
          exact tc_zreturn hz15 rfl dX3_grow_63 rfl rfl ⟨rfl, rfl, rfl⟩
      · rw [if_neg hc4] at h
        refine tc_iconst (v := 0) (by decide) dX3_grow_34 ?_
        obtain ⟨hz16, h⟩ := tc_zo_ex h
        cases h
        exact tc_zreturn hz16 rfl dX3_grow_35 rfl rfl ⟨rfl, rfl, rfl⟩
set_option maxRecDepth 100000 in
set_option maxHeartbeats 4000000 in
theorem ct_X3_grow {l : Launch} {z : Nat} {D : tc_D} {G : tc_G} (hW : tc_W G) {v0 : Nat} {v1 : Nat} {u : tc_S} {r : Int32} {ur : tc_S} (iv0 : tc_is G v0 3) (iv1 : tc_is G v1 9) (h : fn_X3_grow G v0 v1 u = some (r, ur)) : tc_C l z D yX3_grow cX3_grow 4 (some .boolean) 4 100 0 0 [.ref (z + v0), .ref (z + v1)] G u (tc_po r G ur) := by
  unfold fn_X3_grow at h
  refine tc_C.of (by decide) (Nat.le_of_ble_eq_true rfl) fun p e s m args below meth c => ?_
  show tc_R p l e { frames := 4, cells := 0, slots := 0, locals := 100 } s m args below meth c z D cX3_grow RX3 4 (some .boolean) 0 0 (tc_po r G ur) 0 0 G u 0 [(0, .ref (z + v0)), (1, .ref (z + v1))] []
  refine tc_aload_n 0 rfl dX3_grow_0 ?_
  refine tc_getp hW iv0 fl_X3_14 dX3_grow_1 rfl ?_
  refine tc_aload_n 1 rfl dX3_grow_4 ?_
  obtain ⟨x17, u18, hq19, h⟩ := tc_b_ex h
  refine tc_callVv [.ref (z + v1)] dX3_grow_5 (hW.p iv0 2 rfl).1 (ct_X9_copyFrom hW (hW.p iv0 2 rfl) iv1 hq19) ml_X3_90 mw_X9_copyFrom mv_X9_copyFrom ⟨Nat.le_of_ble_eq_true rfl, Nat.le_of_ble_eq_true rfl⟩ rfl rfl (Nat.le_of_ble_eq_true rfl) ⟨Nat.le_refl _, Nat.le_refl _⟩ (by decide) ?_
  refine tc_iconst (v := 1) (by decide) dX3_grow_8 ?_
  refine tc_istore_n [(2, .int 1), (0, .ref (z + v0)), (1, .ref (z + v1))] dX3_grow_9 (by decide) rfl ?_
  refine tc_lvs [1, 2, 0] rfl ?_
  exact sl_X3_grow_10 hW r ur  _ v0 v1 1 u18 iv0 iv1 h
set_option maxRecDepth 100000 in
set_option maxHeartbeats 4000000 in
theorem sl_X3_redraw_10 {p : Program} {l : Launch} {e : Env} {s : State} {m : MethodId} {args : Array Value} {below : List Frame} {meth : Method} {c : Code} {z : Nat} {D : tc_D} {G : tc_G} (hW : tc_W G) (r : Int32) (ur : tc_S) : ∀ (n : Nat) (v0 : Nat) (v1 : Nat) (v2 : Int32) (u : tc_S) (iv0 : tc_is G v0 3) (iv1 : tc_is G v1 9) (h : lo_X3_redraw_10 G n v0 v1 v2 u = some (r, ur)), tc_R p l e { frames := 4, cells := 0, slots := 0, locals := 100 } s m args below meth c z D cX3_redraw RX3 3 (some .boolean) 0 0 (tc_po r G ur) 0 0 G u 10 [(0, .ref (z + v0)), (1, .ref (z + v1)), (2, .int v2)] [] := by
  intro n
  induction n with
  | zero => intro v0 v1 v2 u iv0 iv1 h; cases h
  | succ n ih =>
    intro v0 v1 v2 u iv0 iv1 h
    rw [lo_X3_redraw_10] at h
    refine tc_iload_n 2 rfl dX3_redraw_10 ?_
    refine tc_aload_n 0 rfl dX3_redraw_11 ?_
    refine tc_getp hW iv0 fl_X3_14 dX3_redraw_12 rfl ?_
    refine tc_getp hW (hW.p iv0 2 rfl) fl_X3_57 dX3_redraw_15 rfl ?_
    refine tc_geti (hW.p (hW.p iv0 2 rfl) 0 rfl).1 fl_X3_94 dX3_redraw_18 ?_
    refine tc_icmp_ge 65 dX3_redraw_21 (by decide) (fun hc1 => ?_) (fun hc1 => ?_)
    · rw [if_pos hc1] at h
      refine tc_iconst (v := 0) (by decide) dX3_redraw_65 ?_
      obtain ⟨hz2, h⟩ := tc_zo_ex h
      cases h
      exact tc_zreturn hz2 rfl dX3_redraw_66 rfl rfl ⟨rfl, rfl, rfl⟩
    · rw [if_neg hc1] at h
      refine tc_aload_n 1 rfl dX3_redraw_24 ?_
      refine tc_getp hW iv1 fl_X3_57 dX3_redraw_25 rfl ?_
      obtain ⟨x3, u4, hq5, h⟩ := tc_b_ex h
      refine tc_callVv [] dX3_redraw_28 (hW.p iv1 0 rfl).1 (ct_X8_drawHashes hW (hW.p iv1 0 rfl) hq5) ml_X3_97 mw_X8_drawHashes mv_X8_drawHashes ⟨Nat.le_of_ble_eq_true rfl, Nat.le_of_ble_eq_true rfl⟩ rfl rfl (Nat.le_of_ble_eq_true rfl) ⟨Nat.le_refl _, Nat.le_refl _⟩ (by decide) ?_
      refine tc_aload_n 0 rfl dX3_redraw_31 ?_
      refine tc_aload_n 1 rfl dX3_redraw_32 ?_
      obtain ⟨x6, u7, hq8, h⟩ := tc_b_ex h
      refine tc_callVi [.ref (z + v1)] dX3_redraw_33 iv0.1 (ct_X3_layAnew hW iv0 iv1 hq8) ml_X3_100 mw_X3_layAnew mv_X3_layAnew ⟨Nat.le_of_ble_eq_true rfl, Nat.le_of_ble_eq_true rfl⟩ rfl rfl (Nat.le_of_ble_eq_true rfl) ⟨Nat.le_refl _, Nat.le_refl _⟩ (by decide) ?_
      refine tc_if_eq 51 dX3_redraw_36 (by decide) (fun hc9 => ?_) (fun hc9 => ?_)
      · rw [if_pos hc9] at h
        refine tc_aload_n 1 rfl dX3_redraw_51 ?_
        refine tc_aload_n 0 rfl dX3_redraw_52 ?_
        refine tc_getp hW iv0 fl_X3_14 dX3_redraw_53 rfl ?_
        obtain ⟨x10, u11, hq12, h⟩ := tc_b_ex h
        refine tc_callVv [.ref (z + (tc_p G v0 2))] dX3_redraw_56 iv1.1 (ct_X9_goBackTo hW iv1 (hW.p iv0 2 rfl) hq12) ml_X3_106 mw_X9_goBackTo mv_X9_goBackTo ⟨Nat.le_of_ble_eq_true rfl, Nat.le_of_ble_eq_true rfl⟩ rfl rfl (Nat.le_of_ble_eq_true rfl) ⟨Nat.le_refl _, Nat.le_refl _⟩ (by decide) ?_
        obtain ⟨x13, ex13, h⟩ := tc_let_ex h
        refine tc_iinc 2 (v := x13) [(2, .int x13), (0, .ref (z + v0)), (1, .ref (z + v1))] dX3_redraw_59 rfl (by rw [ex13]; rfl) (by decide) rfl ?_
        refine tc_goto 10 dX3_redraw_62 (by decide) ?_
        refine tc_lvs [1, 2, 0] rfl ?_
        exact ih v0 v1 x13 u11 iv0 iv1 h
      · rw [if_neg hc9] at h
        refine tc_aload_n 1 rfl dX3_redraw_39 ?_
        refine tc_dup rfl dX3_redraw_40 ?_
        refine tc_geti iv1.1 fl_X3_103 dX3_redraw_41 ?_
        refine tc_iconst (v := 1) (by decide) dX3_redraw_44 ?_
        refine tc_iadd dX3_redraw_45 ?_
        obtain ⟨u14, eu14, h⟩ := tc_let_ex h
        refine tc_puti iv1.1 fl_X3_103 dX3_redraw_46 ?_
        refine tc_nmu eu14 ?_
        refine tc_iconst (v := 1) (by decide) dX3_redraw_49 ?_
        obtain ⟨hz15, h⟩ := tc_zo_ex h
        cases h
        exact tc_zreturn hz15 rfl dX3_redraw_50 rfl rfl ⟨rfl, rfl, rfl⟩
set_option maxRecDepth 100000 in
set_option maxHeartbeats 4000000 in
theorem ct_X3_redraw {l : Launch} {z : Nat} {D : tc_D} {G : tc_G} (hW : tc_W G) {v0 : Nat} {v1 : Nat} {u : tc_S} {r : Int32} {ur : tc_S} (iv0 : tc_is G v0 3) (iv1 : tc_is G v1 9) (h : fn_X3_redraw G v0 v1 u = some (r, ur)) : tc_C l z D yX3_redraw cX3_redraw 3 (some .boolean) 4 100 0 0 [.ref (z + v0), .ref (z + v1)] G u (tc_po r G ur) := by
  unfold fn_X3_redraw at h
  refine tc_C.of (by decide) (Nat.le_of_ble_eq_true rfl) fun p e s m args below meth c => ?_
  show tc_R p l e { frames := 4, cells := 0, slots := 0, locals := 100 } s m args below meth c z D cX3_redraw RX3 3 (some .boolean) 0 0 (tc_po r G ur) 0 0 G u 0 [(0, .ref (z + v0)), (1, .ref (z + v1))] []
  refine tc_aload_n 0 rfl dX3_redraw_0 ?_
  refine tc_getp hW iv0 fl_X3_14 dX3_redraw_1 rfl ?_
  refine tc_aload_n 1 rfl dX3_redraw_4 ?_
  obtain ⟨x16, u17, hq18, h⟩ := tc_b_ex h
  refine tc_callVv [.ref (z + v1)] dX3_redraw_5 (hW.p iv0 2 rfl).1 (ct_X9_copyFrom hW (hW.p iv0 2 rfl) iv1 hq18) ml_X3_90 mw_X9_copyFrom mv_X9_copyFrom ⟨Nat.le_of_ble_eq_true rfl, Nat.le_of_ble_eq_true rfl⟩ rfl rfl (Nat.le_of_ble_eq_true rfl) ⟨Nat.le_refl _, Nat.le_refl _⟩ (by decide) ?_
  refine tc_iconst (v := 0) (by decide) dX3_redraw_8 ?_
  refine tc_istore_n [(2, .int 0), (0, .ref (z + v0)), (1, .ref (z + v1))] dX3_redraw_9 (by decide) rfl ?_
  refine tc_lvs [1, 2, 0] rfl ?_
  exact sl_X3_redraw_10 hW r ur  _ v0 v1 0 u17 iv0 iv1 h
set_option maxRecDepth 100000 in
set_option maxHeartbeats 4000000 in
theorem sb_X3_enter_143 {p : Program} {l : Launch} {e : Env} {s : State} {m : MethodId} {args : Array Value} {below : List Frame} {meth : Method} {c : Code} {z : Nat} {D : tc_D} {G : tc_G} (hW : tc_W G) (r : Int32) (ur : tc_S) (v1 : Nat) (u : tc_S) (iv1 : tc_is G v1 9) (h : bl_X3_enter_143 G v1 u = some (r, ur)) : tc_R p l e { frames := 5, cells := 0, slots := 0, locals := 123 } s m args below meth c z D cX3_enter RX3 7 (some .int) 0 0 (tc_po r G ur) 0 0 G u 143 [(1, .ref (z + v1))] [] := by
  unfold bl_X3_enter_143 at h
  refine tc_aload_n 0 rfl dX3_enter_143 ?_
  obtain ⟨x1, u2, hq3, h⟩ := tc_b_ex h
  refine tc_callVv [] dX3_enter_144 iv1.1 (ct_X9_emptyHand hW iv1 hq3) ml_X3_84 mw_X9_emptyHand mv_X9_emptyHand ⟨Nat.le_of_ble_eq_true rfl, Nat.le_of_ble_eq_true rfl⟩ rfl rfl (Nat.le_of_ble_eq_true rfl) ⟨Nat.le_refl _, Nat.le_refl _⟩ (by decide) ?_
  refine tc_aload_n 0 rfl dX3_enter_147 ?_
  refine tc_dup rfl dX3_enter_148 ?_
  refine tc_geti iv1.1 fl_X3_87 dX3_enter_149 ?_
  refine tc_iconst (v := 1) (by decide) dX3_enter_152 ?_
  refine tc_iadd dX3_enter_153 ?_
  obtain ⟨u4, eu4, h⟩ := tc_let_ex h
  refine tc_puti iv1.1 fl_X3_87 dX3_enter_154 ?_
  refine tc_nmu eu4 ?_
  refine tc_iconst (v := (-1)) (by decide) dX3_enter_157 ?_
  cases h
  exact tc_ireturn rfl dX3_enter_158 rfl rfl ⟨rfl, rfl, rfl⟩
set_option maxRecDepth 100000 in
set_option maxHeartbeats 4000000 in
theorem sb_X3_enter_133 {p : Program} {l : Launch} {e : Env} {s : State} {m : MethodId} {args : Array Value} {below : List Frame} {meth : Method} {c : Code} {z : Nat} {D : tc_D} {G : tc_G} (hW : tc_W G) (r : Int32) (ur : tc_S) (v0 : Nat) (v1 : Nat) (u : tc_S) (iv0 : tc_is G v0 3) (iv1 : tc_is G v1 9) (h : bl_X3_enter_133 G v0 v1 u = some (r, ur)) : tc_R p l e { frames := 5, cells := 0, slots := 0, locals := 123 } s m args below meth c z D cX3_enter RX3 7 (some .int) 0 0 (tc_po r G ur) 0 0 G u 133 [(0, .ref (z + v0)), (1, .ref (z + v1))] [] := by
  unfold bl_X3_enter_133 at h
  refine tc_aload_n 0 rfl dX3_enter_133 ?_
  refine tc_aload_n 1 rfl dX3_enter_134 ?_
  obtain ⟨x5, u6, hq7, h⟩ := tc_b_ex h
  refine tc_callVi [.ref (z + v1)] dX3_enter_135 iv0.1 (ct_X3_redraw hW iv0 iv1 hq7) ml_X3_81 mw_X3_redraw mv_X3_redraw ⟨Nat.le_of_ble_eq_true rfl, Nat.le_of_ble_eq_true rfl⟩ rfl rfl (Nat.le_of_ble_eq_true rfl) ⟨Nat.le_refl _, Nat.le_refl _⟩ (by decide) ?_
  refine tc_if_eq 143 dX3_enter_138 (by decide) (fun hc8 => ?_) (fun hc8 => ?_)
  · rw [if_pos hc8] at h
    refine tc_lvs [1] rfl ?_
    exact sb_X3_enter_143 hW r ur  v1 u6 iv1 h
  · rw [if_neg hc8] at h
    refine tc_iconst (v := 4) (by decide) dX3_enter_141 ?_
    cases h
    exact tc_ireturn rfl dX3_enter_142 rfl rfl ⟨rfl, rfl, rfl⟩
set_option maxRecDepth 100000 in
set_option maxHeartbeats 4000000 in
theorem sb_X3_enter_121 {p : Program} {l : Launch} {e : Env} {s : State} {m : MethodId} {args : Array Value} {below : List Frame} {meth : Method} {c : Code} {z : Nat} {D : tc_D} {G : tc_G} (hW : tc_W G) (r : Int32) (ur : tc_S) (v0 : Nat) (v1 : Nat) (v6 : Int32) (u : tc_S) (iv0 : tc_is G v0 3) (iv1 : tc_is G v1 9) (h : bl_X3_enter_121 G v0 v1 v6 u = some (r, ur)) : tc_R p l e { frames := 5, cells := 0, slots := 0, locals := 123 } s m args below meth c z D cX3_enter RX3 7 (some .int) 0 0 (tc_po r G ur) 0 0 G u 121 [(0, .ref (z + v0)), (1, .ref (z + v1)), (6, .int v6)] [] := by
  unfold bl_X3_enter_121 at h
  refine tc_iload 2 rfl dX3_enter_121 ?_
  refine tc_iconst (v := 1) (by decide) dX3_enter_123 ?_
  refine tc_icmp_eq 133 dX3_enter_124 (by decide) (fun hc9 => ?_) (fun hc9 => ?_)
  · rw [if_pos hc9] at h
    refine tc_lvs [0, 1] rfl ?_
    exact sb_X3_enter_133 hW r ur  v0 v1 u iv0 iv1 h
  · rw [if_neg hc9] at h
    refine tc_iload 2 rfl dX3_enter_127 ?_
    refine tc_iconst (v := 3) (by decide) dX3_enter_129 ?_
    refine tc_icmp_ne 143 dX3_enter_130 (by decide) (fun hc10 => ?_) (fun hc10 => ?_)
    · rw [if_neg hc10] at h
      refine tc_lvs [1] rfl ?_
      exact sb_X3_enter_143 hW r ur  v1 u iv1 h
    · rw [if_pos hc10] at h
      refine tc_lvs [0, 1] rfl ?_
      exact sb_X3_enter_133 hW r ur  v0 v1 u iv0 iv1 h
set_option maxRecDepth 100000 in
set_option maxHeartbeats 4000000 in
theorem sb_X3_enter_105 {p : Program} {l : Launch} {e : Env} {s : State} {m : MethodId} {args : Array Value} {below : List Frame} {meth : Method} {c : Code} {z : Nat} {D : tc_D} {G : tc_G} (hW : tc_W G) (r : Int32) (ur : tc_S) (v0 : Nat) (v1 : Nat) (v6 : Int32) (u : tc_S) (iv0 : tc_is G v0 3) (iv1 : tc_is G v1 9) (h : bl_X3_enter_105 G v0 v1 v6 u = some (r, ur)) : tc_R p l e { frames := 5, cells := 0, slots := 0, locals := 123 } s m args below meth c z D cX3_enter RX3 7 (some .int) 0 0 (tc_po r G ur) 0 0 G u 105 [(0, .ref (z + v0)), (1, .ref (z + v1)), (6, .int v6)] [] := by
  unfold bl_X3_enter_105 at h
  refine tc_iload 2 rfl dX3_enter_105 ?_
  refine tc_iconst (v := 2) (by decide) dX3_enter_107 ?_
  refine tc_icmp_ne 121 dX3_enter_108 (by decide) (fun hc11 => ?_) (fun hc11 => ?_)
  · rw [if_neg hc11] at h
    exact sb_X3_enter_121 hW r ur  v0 v1 v6 u iv0 iv1 h
  · rw [if_pos hc11] at h
    refine tc_aload_n 0 rfl dX3_enter_111 ?_
    refine tc_aload_n 1 rfl dX3_enter_112 ?_
    obtain ⟨x12, u13, hq14, h⟩ := tc_b_ex h
    refine tc_callVi [.ref (z + v1)] dX3_enter_113 iv0.1 (ct_X3_grow hW iv0 iv1 hq14) ml_X3_77 mw_X3_grow mv_X3_grow ⟨Nat.le_of_ble_eq_true rfl, Nat.le_of_ble_eq_true rfl⟩ rfl rfl (Nat.le_of_ble_eq_true rfl) ⟨Nat.le_refl _, Nat.le_refl _⟩ (by decide) ?_
    refine tc_if_eq 121 dX3_enter_116 (by decide) (fun hc15 => ?_) (fun hc15 => ?_)
    · rw [if_pos hc15] at h
      exact sb_X3_enter_121 hW r ur  v0 v1 v6 u13 iv0 iv1 h
    · rw [if_neg hc15] at h
      refine tc_iconst (v := 5) (by decide) dX3_enter_119 ?_
      cases h
      exact tc_ireturn rfl dX3_enter_120 rfl rfl ⟨rfl, rfl, rfl⟩
set_option maxRecDepth 100000 in
set_option maxHeartbeats 4000000 in
theorem ct_X3_enter {l : Launch} {z : Nat} {D : tc_D} {G : tc_G} (hW : tc_W G) {v0 : Nat} {v1 : Nat} {v2 : Int32} {v3 : Int32} {u : tc_S} {r : Int32} {ur : tc_S} (iv0 : tc_is G v0 3) (iv1 : tc_is G v1 9) (h : fn_X3_enter G v0 v1 v2 v3 u = some (r, ur)) : tc_C l z D yX3_enter cX3_enter 7 (some .int) 5 123 0 0 [.ref (z + v0), .ref (z + v1), .int v2, .int v3] G u (tc_po r G ur) := by
  unfold fn_X3_enter at h
  refine tc_C.of (by decide) (Nat.le_of_ble_eq_true rfl) fun p e s m args below meth c => ?_
  show tc_R p l e { frames := 5, cells := 0, slots := 0, locals := 123 } s m args below meth c z D cX3_enter RX3 7 (some .int) 0 0 (tc_po r G ur) 0 0 G u 0 [(0, .ref (z + v0)), (1, .ref (z + v1)), (2, .int v2), (3, .int v3)] []
  refine tc_aload_n 1 rfl dX3_enter_0 ?_
  refine tc_dup rfl dX3_enter_1 ?_
  refine tc_geti iv1.1 fl_X3_35 dX3_enter_2 ?_
  refine tc_iconst (v := 1) (by decide) dX3_enter_5 ?_
  refine tc_iadd dX3_enter_6 ?_
  obtain ⟨u16, eu16, h⟩ := tc_let_ex h
  refine tc_puti iv1.1 fl_X3_35 dX3_enter_7 ?_
  refine tc_nmu eu16 ?_
  refine tc_aload_n 1 rfl dX3_enter_10 ?_
  refine tc_iload_n 2 rfl dX3_enter_11 ?_
  obtain ⟨x17, u18, hq19, h⟩ := tc_b_ex h
  refine tc_callVi [.int v2] dX3_enter_12 iv1.1 (ct_X9_locate hW iv1 hq19) ml_X3_39 mw_X9_locate mv_X9_locate ⟨Nat.le_of_ble_eq_true rfl, Nat.le_of_ble_eq_true rfl⟩ rfl rfl (Nat.le_of_ble_eq_true rfl) ⟨Nat.le_refl _, Nat.le_refl _⟩ (by decide) ?_
  refine tc_istore [(4, .int x17), (0, .ref (z + v0)), (1, .ref (z + v1)), (2, .int v2), (3, .int v3)] dX3_enter_15 (by decide) rfl ?_
  refine tc_iload 0 rfl dX3_enter_17 ?_
  refine tc_if_lt 32 dX3_enter_19 (by decide) (fun hc20 => ?_) (fun hc20 => ?_)
  · rw [if_pos hc20] at h
    refine tc_aload_n 2 rfl dX3_enter_32 ?_
    refine tc_iload_n 3 rfl dX3_enter_33 ?_
    refine tc_iload_n 4 rfl dX3_enter_34 ?_
    refine tc_aload_n 2 rfl dX3_enter_35 ?_
    refine tc_geti iv1.1 fl_X3_35 dX3_enter_36 ?_
    refine tc_iconst (v := 0) (by decide) dX3_enter_39 ?_
    obtain ⟨x21, u22, hq23, h⟩ := tc_b_ex h
    refine tc_callVv [.int v2, .int v3, .int (u18.1 v1 11), .int 0] dX3_enter_40 iv1.1 (ct_X9_takeInHand hW iv1 hq23) ml_X3_47 mw_X9_takeInHand mv_X9_takeInHand ⟨Nat.le_of_ble_eq_true rfl, Nat.le_of_ble_eq_true rfl⟩ rfl rfl (Nat.le_of_ble_eq_true rfl) ⟨Nat.le_refl _, Nat.le_refl _⟩ (by decide) ?_
    refine tc_aload_n 1 rfl dX3_enter_43 ?_
    refine tc_getp hW iv0 fl_X3_27 dX3_enter_44 rfl ?_
    refine tc_aload_n 2 rfl dX3_enter_47 ?_
    obtain ⟨x24, u25, hq26, h⟩ := tc_b_ex h
    refine tc_callVi [.ref (z + v1)] dX3_enter_48 (hW.p iv0 0 rfl).1 (ct_X4_comeIn hW (hW.p iv0 0 rfl) iv1 hq26) ml_X3_51 mw_X4_comeIn mv_X4_comeIn ⟨Nat.le_of_ble_eq_true rfl, Nat.le_of_ble_eq_true rfl⟩ rfl rfl (Nat.le_of_ble_eq_true rfl) ⟨Nat.le_refl _, Nat.le_refl _⟩ (by decide) ?_
    refine tc_istore [(5, .int x24), (4, .int x17), (0, .ref (z + v0)), (1, .ref (z + v1)), (2, .int v2), (3, .int v3)] dX3_enter_51 (by decide) rfl ?_
    refine tc_iload 0 rfl dX3_enter_53 ?_
    refine tc_if_le 61 dX3_enter_55 (by decide) (fun hc27 => ?_) (fun hc27 => ?_)
    · rw [if_pos hc27] at h
      refine tc_aload_n 3 rfl dX3_enter_61 ?_
      refine tc_getp hW iv1 fl_X3_57 dX3_enter_62 rfl ?_
      refine tc_geti (hW.p iv1 0 rfl).1 fl_X3_61 dX3_enter_65 ?_
      obtain ⟨x28, ex28, h⟩ := tc_let_ex h
      refine tc_nm ex28 ?_
      refine tc_istore [(6, .int x28), (5, .int x24), (4, .int x17), (0, .ref (z + v0)), (1, .ref (z + v1)), (2, .int v2), (3, .int v3)] dX3_enter_68 (by decide) rfl ?_
      refine tc_iload 0 rfl dX3_enter_70 ?_
      refine tc_iconst (v := 3) (by decide) dX3_enter_72 ?_
      refine tc_icmp_ne 105 dX3_enter_73 (by decide) (fun hc29 => ?_) (fun hc29 => ?_)
      · rw [if_neg hc29] at h
        refine tc_lvs [3, 4, 0] rfl ?_
        exact sb_X3_enter_105 hW r ur  v0 v1 x28 u25 iv0 iv1 h
      · rw [if_pos hc29] at h
        refine tc_aload_n 3 rfl dX3_enter_76 ?_
        refine tc_getp hW iv0 fl_X3_27 dX3_enter_77 rfl ?_
        refine tc_aload_n 4 rfl dX3_enter_80 ?_
        refine tc_aload_n 4 rfl dX3_enter_81 ?_
        refine tc_geti iv1.1 fl_X3_66 dX3_enter_82 ?_
        obtain ⟨x30, u31, hq32, h⟩ := tc_b_ex h
        refine tc_callVi [.ref (z + v1), .int (u25.1 v1 2)] dX3_enter_85 (hW.p iv0 0 rfl).1 (ct_X4_seekFor hW (hW.p iv0 0 rfl) iv1 hq32) ml_X3_69 mw_X4_seekFor mv_X4_seekFor ⟨Nat.le_of_ble_eq_true rfl, Nat.le_of_ble_eq_true rfl⟩ rfl rfl (Nat.le_of_ble_eq_true rfl) ⟨Nat.le_refl _, Nat.le_refl _⟩ (by decide) ?_
        refine tc_if_eq 105 dX3_enter_88 (by decide) (fun hc33 => ?_) (fun hc33 => ?_)
        · rw [if_pos hc33] at h
          refine tc_lvs [3, 4, 0] rfl ?_
          exact sb_X3_enter_105 hW r ur  v0 v1 x28 u31 iv0 iv1 h
        · rw [if_neg hc33] at h
          refine tc_aload_n 3 rfl dX3_enter_91 ?_
          refine tc_getp hW iv0 fl_X3_27 dX3_enter_92 rfl ?_
          refine tc_aload_n 4 rfl dX3_enter_95 ?_
          refine tc_aload_n 4 rfl dX3_enter_96 ?_
          refine tc_geti iv1.1 fl_X3_66 dX3_enter_97 ?_
          obtain ⟨x34, u35, hq36, h⟩ := tc_b_ex h
          refine tc_callVv [.ref (z + v1), .int (u31.1 v1 2)] dX3_enter_100 (hW.p iv0 0 rfl).1 (ct_X4_follow hW (hW.p iv0 0 rfl) iv1 hq36) ml_X3_73 mw_X4_follow mv_X4_follow ⟨Nat.le_of_ble_eq_true rfl, Nat.le_of_ble_eq_true rfl⟩ rfl rfl (Nat.le_of_ble_eq_true rfl) ⟨Nat.le_refl _, Nat.le_refl _⟩ (by decide) ?_
          refine tc_iconst (v := 2) (by decide) dX3_enter_103 ?_
          cases h
          exact tc_ireturn rfl dX3_enter_104 rfl rfl ⟨rfl, rfl, rfl⟩
    · rw [if_neg hc27] at h
      refine tc_iload 0 rfl dX3_enter_58 ?_
      cases h
      exact tc_ireturn rfl dX3_enter_60 rfl rfl ⟨rfl, rfl, rfl⟩
  · rw [if_neg hc20] at h
    refine tc_aload_n 2 rfl dX3_enter_22 ?_
    refine tc_getp hW iv1 fl_X3_43 dX3_enter_23 rfl ?_
    refine tc_iload 0 rfl dX3_enter_26 ?_
    refine tc_iload_n 4 rfl dX3_enter_28 ?_
    obtain ⟨bu37, u37, eu37, h⟩ := tc_sd_ex h
    refine tc_iast (hW.p iv1 4 rfl).1 bu37 dX3_enter_29 ?_
    refine tc_nmu eu37 ?_
    refine tc_iconst (v := 0) (by decide) dX3_enter_30 ?_
    cases h
    exact tc_ireturn rfl dX3_enter_31 rfl rfl ⟨rfl, rfl, rfl⟩
set_option maxRecDepth 100000 in
set_option maxHeartbeats 4000000 in
theorem ct_X3_rehashBy {l : Launch} {z : Nat} {D : tc_D} {G : tc_G} (hW : tc_W G) {v0 : Nat} {v1 : Nat} {v2 : Int32} {v3 : Int32} {v4 : Int32} {v5 : Int32} {u : tc_S} {r : Int32} {ur : tc_S} (iv0 : tc_is G v0 3) (iv1 : tc_is G v1 9) (h : fn_X3_rehashBy G v0 v1 v2 v3 v4 v5 u = some (r, ur)) : tc_C l z D yX3_rehashBy cX3_rehashBy 6 (some .boolean) 4 100 0 0 [.ref (z + v0), .ref (z + v1), .int v2, .int v3, .int v4, .int v5] G u (tc_po r G ur) := by
  unfold fn_X3_rehashBy at h
  refine tc_C.of (by decide) (Nat.le_of_ble_eq_true rfl) fun p e s m args below meth c => ?_
  show tc_R p l e { frames := 4, cells := 0, slots := 0, locals := 100 } s m args below meth c z D cX3_rehashBy RX3 6 (some .boolean) 0 0 (tc_po r G ur) 0 0 G u 0 [(0, .ref (z + v0)), (1, .ref (z + v1)), (2, .int v2), (3, .int v3), (4, .int v4), (5, .int v5)] []
  refine tc_aload_n 0 rfl dX3_rehashBy_0 ?_
  refine tc_getp hW iv0 fl_X3_14 dX3_rehashBy_1 rfl ?_
  refine tc_aload_n 1 rfl dX3_rehashBy_4 ?_
  obtain ⟨x1, u2, hq3, h⟩ := tc_b_ex h
  refine tc_callVv [.ref (z + v1)] dX3_rehashBy_5 (hW.p iv0 2 rfl).1 (ct_X9_copyFrom hW (hW.p iv0 2 rfl) iv1 hq3) ml_X3_90 mw_X9_copyFrom mv_X9_copyFrom ⟨Nat.le_of_ble_eq_true rfl, Nat.le_of_ble_eq_true rfl⟩ rfl rfl (Nat.le_of_ble_eq_true rfl) ⟨Nat.le_refl _, Nat.le_refl _⟩ (by decide) ?_
  refine tc_aload_n 1 rfl dX3_rehashBy_8 ?_
  refine tc_getp hW iv1 fl_X3_57 dX3_rehashBy_9 rfl ?_
  refine tc_iload_n 2 rfl dX3_rehashBy_12 ?_
  refine tc_iload_n 3 rfl dX3_rehashBy_13 ?_
  refine tc_iload 4 rfl dX3_rehashBy_14 ?_
  refine tc_iload 5 rfl dX3_rehashBy_16 ?_
  obtain ⟨x4, u5, hq6, h⟩ := tc_b_ex h
  refine tc_callVv [.int v2, .int v3, .int v4, .int v5] dX3_rehashBy_18 (hW.p iv1 0 rfl).1 (ct_X8_takeHashes hW (hW.p iv1 0 rfl) hq6) ml_X3_115 mw_X8_takeHashes mv_X8_takeHashes ⟨Nat.le_of_ble_eq_true rfl, Nat.le_of_ble_eq_true rfl⟩ rfl rfl (Nat.le_of_ble_eq_true rfl) ⟨Nat.le_refl _, Nat.le_refl _⟩ (by decide) ?_
  refine tc_aload_n 0 rfl dX3_rehashBy_21 ?_
  refine tc_aload_n 1 rfl dX3_rehashBy_22 ?_
  obtain ⟨x7, u8, hq9, h⟩ := tc_b_ex h
  refine tc_callVi [.ref (z + v1)] dX3_rehashBy_23 iv0.1 (ct_X3_layAnew hW iv0 iv1 hq9) ml_X3_100 mw_X3_layAnew mv_X3_layAnew ⟨Nat.le_of_ble_eq_true rfl, Nat.le_of_ble_eq_true rfl⟩ rfl rfl (Nat.le_of_ble_eq_true rfl) ⟨Nat.le_refl _, Nat.le_refl _⟩ (by decide) ?_
  refine tc_if_eq 41 dX3_rehashBy_26 (by decide) (fun hc10 => ?_) (fun hc10 => ?_)
  · rw [if_pos hc10] at h
    refine tc_aload_n 1 rfl dX3_rehashBy_41 ?_
    refine tc_aload_n 0 rfl dX3_rehashBy_42 ?_
    refine tc_getp hW iv0 fl_X3_14 dX3_rehashBy_43 rfl ?_
    obtain ⟨x11, u12, hq13, h⟩ := tc_b_ex h
    refine tc_callVv [.ref (z + (tc_p G v0 2))] dX3_rehashBy_46 iv1.1 (ct_X9_goBackTo hW iv1 (hW.p iv0 2 rfl) hq13) ml_X3_106 mw_X9_goBackTo mv_X9_goBackTo ⟨Nat.le_of_ble_eq_true rfl, Nat.le_of_ble_eq_true rfl⟩ rfl rfl (Nat.le_of_ble_eq_true rfl) ⟨Nat.le_refl _, Nat.le_refl _⟩ (by decide) ?_
    refine tc_iconst (v := 0) (by decide) dX3_rehashBy_49 ?_
    obtain ⟨hz14, h⟩ := tc_zo_ex h
    cases h
    exact tc_zreturn hz14 rfl dX3_rehashBy_50 rfl rfl ⟨rfl, rfl, rfl⟩
  · rw [if_neg hc10] at h
    refine tc_aload_n 1 rfl dX3_rehashBy_29 ?_
    refine tc_dup rfl dX3_rehashBy_30 ?_
    refine tc_geti iv1.1 fl_X3_103 dX3_rehashBy_31 ?_
    refine tc_iconst (v := 1) (by decide) dX3_rehashBy_34 ?_
    refine tc_iadd dX3_rehashBy_35 ?_
    obtain ⟨u15, eu15, h⟩ := tc_let_ex h
    refine tc_puti iv1.1 fl_X3_103 dX3_rehashBy_36 ?_
    refine tc_nmu eu15 ?_
    refine tc_iconst (v := 1) (by decide) dX3_rehashBy_39 ?_
    obtain ⟨hz16, h⟩ := tc_zo_ex h
    cases h
    exact tc_zreturn hz16 rfl dX3_rehashBy_40 rfl rfl ⟨rfl, rfl, rfl⟩
set_option maxRecDepth 100000 in
set_option maxHeartbeats 4000000 in
theorem sb_X7_gather_128 {p : Program} {l : Launch} {e : Env} {s : State} {m : MethodId} {args : Array Value} {below : List Frame} {meth : Method} {c : Code} {z : Nat} {D : tc_D} {G : tc_G} (hW : tc_W G) (r : Int32) (ur : tc_S) (u : tc_S) (h : bl_X7_gather_128 G  u = some (r, ur)) : tc_R p l e { frames := 0, cells := 0, slots := 0, locals := 0 } s m args below meth c z D cX7_gather RX7 6 none 0 0 (tc_pv G ur) 0 0 G u 128 [] [] := by
  unfold bl_X7_gather_128 at h
  cases h
  exact tc_return rfl dX7_gather_128 rfl rfl ⟨rfl, rfl, rfl⟩
set_option maxRecDepth 100000 in
set_option maxHeartbeats 4000000 in
theorem sb_X7_gather_122 {p : Program} {l : Launch} {e : Env} {s : State} {m : MethodId} {args : Array Value} {below : List Frame} {meth : Method} {c : Code} {z : Nat} {D : tc_D} {G : tc_G} (hW : tc_W G) (r : Int32) (ur : tc_S) (K24 : Nat → Nat → Nat → Int32 → tc_S → Option (Int32 × tc_S)) (hK24 : ∀ (v0 : Nat) (v1 : Nat) (v3 : Nat) (v4 : Int32) (u : tc_S), tc_is G v0 7 → tc_is G v1 9 → tc_is G v3 100 → K24 v0 v1 v3 v4 u = some (r, ur) → tc_R p l e { frames := 0, cells := 0, slots := 0, locals := 0 } s m args below meth c z D cX7_gather RX7 6 none 0 0 (tc_pv G ur) 0 0 G u 24 [(0, .ref (z + v0)), (1, .ref (z + v1)), (3, .ref (z + v3)), (4, .int v4)] []) (v0 : Nat) (v1 : Nat) (v3 : Nat) (v4 : Int32) (u : tc_S) (iv0 : tc_is G v0 7) (iv1 : tc_is G v1 9) (iv3 : tc_is G v3 100) (h : bl_X7_gather_122 G K24 v0 v1 v3 v4 u = some (r, ur)) : tc_R p l e { frames := 0, cells := 0, slots := 0, locals := 0 } s m args below meth c z D cX7_gather RX7 6 none 0 0 (tc_pv G ur) 0 0 G u 122 [(0, .ref (z + v0)), (1, .ref (z + v1)), (3, .ref (z + v3)), (4, .int v4)] [] := by
  unfold bl_X7_gather_122 at h
  obtain ⟨x1, ex1, h⟩ := tc_let_ex h
  refine tc_iinc 3 (v := x1) [(4, .int x1), (0, .ref (z + v0)), (1, .ref (z + v1)), (3, .ref (z + v3))] dX7_gather_122 rfl (by rw [ex1]; rfl) (by decide) rfl ?_
  refine tc_goto 24 dX7_gather_125 (by decide) ?_
  refine tc_lvs [1, 2, 3, 0] rfl ?_
  exact hK24 v0 v1 v3 x1 u iv0 iv1 iv3 h
set_option maxRecDepth 100000 in
set_option maxHeartbeats 4000000 in
theorem sb_X7_gather_103 {p : Program} {l : Launch} {e : Env} {s : State} {m : MethodId} {args : Array Value} {below : List Frame} {meth : Method} {c : Code} {z : Nat} {D : tc_D} {G : tc_G} (hW : tc_W G) (r : Int32) (ur : tc_S) (K24 : Nat → Nat → Nat → Int32 → tc_S → Option (Int32 × tc_S)) (hK24 : ∀ (v0 : Nat) (v1 : Nat) (v3 : Nat) (v4 : Int32) (u : tc_S), tc_is G v0 7 → tc_is G v1 9 → tc_is G v3 100 → K24 v0 v1 v3 v4 u = some (r, ur) → tc_R p l e { frames := 0, cells := 0, slots := 0, locals := 0 } s m args below meth c z D cX7_gather RX7 6 none 0 0 (tc_pv G ur) 0 0 G u 24 [(0, .ref (z + v0)), (1, .ref (z + v1)), (3, .ref (z + v3)), (4, .int v4)] []) (v0 : Nat) (v1 : Nat) (v3 : Nat) (v4 : Int32) (v5 : Int32) (u : tc_S) (iv0 : tc_is G v0 7) (iv1 : tc_is G v1 9) (iv3 : tc_is G v3 100) (h : bl_X7_gather_103 G K24 v0 v1 v3 v4 v5 u = some (r, ur)) : tc_R p l e { frames := 0, cells := 0, slots := 0, locals := 0 } s m args below meth c z D cX7_gather RX7 6 none 0 0 (tc_pv G ur) 0 0 G u 103 [(0, .ref (z + v0)), (1, .ref (z + v1)), (3, .ref (z + v3)), (4, .int v4), (5, .int v5)] [] := by
  unfold bl_X7_gather_103 at h
  refine tc_aload_n 0 rfl dX7_gather_103 ?_
  refine tc_getp hW iv0 fl_X7_9 dX7_gather_104 rfl ?_
  refine tc_iload 4 rfl dX7_gather_107 ?_
  refine tc_iload 3 rfl dX7_gather_109 ?_
  obtain ⟨bu2, u2, eu2, h⟩ := tc_sd_ex h
  refine tc_iast (hW.p iv0 0 rfl).1 bu2 dX7_gather_111 ?_
  refine tc_nmu eu2 ?_
  refine tc_aload_n 0 rfl dX7_gather_112 ?_
  refine tc_dup rfl dX7_gather_113 ?_
  refine tc_geti iv0.1 fl_X7_36 dX7_gather_114 ?_
  refine tc_iconst (v := 1) (by decide) dX7_gather_117 ?_
  refine tc_iadd dX7_gather_118 ?_
  obtain ⟨u3, eu3, h⟩ := tc_let_ex h
  refine tc_puti iv0.1 fl_X7_36 dX7_gather_119 ?_
  refine tc_nmu eu3 ?_
  refine tc_lvs [0, 1, 2, 3] rfl ?_
  exact sb_X7_gather_122 hW r ur K24 hK24 v0 v1 v3 v4 u3 iv0 iv1 iv3 h
set_option maxRecDepth 100000 in
set_option maxHeartbeats 4000000 in
theorem sl_X7_gather_58 {p : Program} {l : Launch} {e : Env} {s : State} {m : MethodId} {args : Array Value} {below : List Frame} {meth : Method} {c : Code} {z : Nat} {D : tc_D} {G : tc_G} (hW : tc_W G) (r : Int32) (ur : tc_S) (K24 : Nat → Nat → Nat → Int32 → tc_S → Option (Int32 × tc_S)) (hK24 : ∀ (v0 : Nat) (v1 : Nat) (v3 : Nat) (v4 : Int32) (u : tc_S), tc_is G v0 7 → tc_is G v1 9 → tc_is G v3 100 → K24 v0 v1 v3 v4 u = some (r, ur) → tc_R p l e { frames := 0, cells := 0, slots := 0, locals := 0 } s m args below meth c z D cX7_gather RX7 6 none 0 0 (tc_pv G ur) 0 0 G u 24 [(0, .ref (z + v0)), (1, .ref (z + v1)), (3, .ref (z + v3)), (4, .int v4)] []) : ∀ (n : Nat) (v0 : Nat) (v1 : Nat) (v3 : Nat) (v4 : Int32) (v5 : Int32) (u : tc_S) (iv0 : tc_is G v0 7) (iv1 : tc_is G v1 9) (iv3 : tc_is G v3 100) (h : lo_X7_gather_58 G K24 n v0 v1 v3 v4 v5 u = some (r, ur)), tc_R p l e { frames := 0, cells := 0, slots := 0, locals := 0 } s m args below meth c z D cX7_gather RX7 6 none 0 0 (tc_pv G ur) 0 0 G u 58 [(0, .ref (z + v0)), (1, .ref (z + v1)), (3, .ref (z + v3)), (4, .int v4), (5, .int v5)] [] := by
  intro n
  induction n with
  | zero => intro v0 v1 v3 v4 v5 u iv0 iv1 iv3 h; cases h
  | succ n ih =>
    intro v0 v1 v3 v4 v5 u iv0 iv1 iv3 h
    rw [lo_X7_gather_58] at h
    refine tc_iload 4 rfl dX7_gather_58 ?_
    refine tc_if_le 103 dX7_gather_60 (by decide) (fun hc4 => ?_) (fun hc4 => ?_)
    · rw [if_pos hc4] at h
      exact sb_X7_gather_103 hW r ur K24 hK24 v0 v1 v3 v4 v5 u iv0 iv1 iv3 h
    · rw [if_neg hc4] at h
      refine tc_aload_n 2 rfl dX7_gather_63 ?_
      refine tc_aload_n 0 rfl dX7_gather_64 ?_
      refine tc_getp hW iv0 fl_X7_9 dX7_gather_65 rfl ?_
      refine tc_iload 4 rfl dX7_gather_68 ?_
      refine tc_iconst (v := 1) (by decide) dX7_gather_70 ?_
      refine tc_isub dX7_gather_71 ?_
      obtain ⟨bx5, x5, ex5, h⟩ := tc_ld_ex h
      refine tc_iald (hW.p iv0 0 rfl).1 bx5 dX7_gather_72 ?_
      refine tc_nm ex5 ?_
      obtain ⟨bx6, x6, ex6, h⟩ := tc_ld_ex h
      refine tc_iald iv3.1 bx6 dX7_gather_73 ?_
      refine tc_nm ex6 ?_
      refine tc_aload_n 2 rfl dX7_gather_74 ?_
      refine tc_iload 3 rfl dX7_gather_75 ?_
      obtain ⟨bx7, x7, ex7, h⟩ := tc_ld_ex h
      refine tc_iald iv3.1 bx7 dX7_gather_77 ?_
      refine tc_nm ex7 ?_
      refine tc_icmp_le 103 dX7_gather_78 (by decide) (fun hc8 => ?_) (fun hc8 => ?_)
      · rw [if_pos hc8] at h
        exact sb_X7_gather_103 hW r ur K24 hK24 v0 v1 v3 v4 v5 u iv0 iv1 iv3 h
      · rw [if_neg hc8] at h
        refine tc_aload_n 0 rfl dX7_gather_81 ?_
        refine tc_getp hW iv0 fl_X7_9 dX7_gather_82 rfl ?_
        refine tc_iload 4 rfl dX7_gather_85 ?_
        refine tc_aload_n 0 rfl dX7_gather_87 ?_
        refine tc_getp hW iv0 fl_X7_9 dX7_gather_88 rfl ?_
        refine tc_iload 4 rfl dX7_gather_91 ?_
        refine tc_iconst (v := 1) (by decide) dX7_gather_93 ?_
        refine tc_isub dX7_gather_94 ?_
        obtain ⟨bx9, x9, ex9, h⟩ := tc_ld_ex h
        refine tc_iald (hW.p iv0 0 rfl).1 bx9 dX7_gather_95 ?_
        refine tc_nm ex9 ?_
        obtain ⟨bu10, u10, eu10, h⟩ := tc_sd_ex h
        refine tc_iast (hW.p iv0 0 rfl).1 bu10 dX7_gather_96 ?_
        refine tc_nmu eu10 ?_
        obtain ⟨x11, ex11, h⟩ := tc_let_ex h
        refine tc_iinc 4 (v := x11) [(5, .int x11), (0, .ref (z + v0)), (1, .ref (z + v1)), (3, .ref (z + v3)), (4, .int v4)] dX7_gather_97 rfl (by rw [ex11]; rfl) (by decide) rfl ?_
        refine tc_goto 58 dX7_gather_100 (by decide) ?_
        refine tc_lvs [1, 2, 3, 4, 0] rfl ?_
        exact ih v0 v1 v3 v4 x11 u10 iv0 iv1 iv3 h
set_option maxRecDepth 100000 in
set_option maxHeartbeats 4000000 in
theorem sl_X7_gather_24 {p : Program} {l : Launch} {e : Env} {s : State} {m : MethodId} {args : Array Value} {below : List Frame} {meth : Method} {c : Code} {z : Nat} {D : tc_D} {G : tc_G} (hW : tc_W G) (r : Int32) (ur : tc_S) : ∀ (n : Nat) (v0 : Nat) (v1 : Nat) (v3 : Nat) (v4 : Int32) (u : tc_S) (iv0 : tc_is G v0 7) (iv1 : tc_is G v1 9) (iv3 : tc_is G v3 100) (h : lo_X7_gather_24 G n v0 v1 v3 v4 u = some (r, ur)), tc_R p l e { frames := 0, cells := 0, slots := 0, locals := 0 } s m args below meth c z D cX7_gather RX7 6 none 0 0 (tc_pv G ur) 0 0 G u 24 [(0, .ref (z + v0)), (1, .ref (z + v1)), (3, .ref (z + v3)), (4, .int v4)] [] := by
  intro n
  induction n with
  | zero => intro v0 v1 v3 v4 u iv0 iv1 iv3 h; cases h
  | succ n ih =>
    intro v0 v1 v3 v4 u iv0 iv1 iv3 h
    rw [lo_X7_gather_24] at h
    refine tc_iload 3 rfl dX7_gather_24 ?_
    refine tc_aload_n 1 rfl dX7_gather_26 ?_
    refine tc_geti iv1.1 fl_X7_40 dX7_gather_27 ?_
    refine tc_icmp_ge 128 dX7_gather_30 (by decide) (fun hc12 => ?_) (fun hc12 => ?_)
    · rw [if_pos hc12] at h
      refine tc_lvs [] rfl ?_
      exact sb_X7_gather_128 hW r ur   u  h
    · rw [if_neg hc12] at h
      refine tc_aload_n 0 rfl dX7_gather_33 ?_
      refine tc_geti iv0.1 fl_X7_36 dX7_gather_34 ?_
      refine tc_bipush (v := 68) (by decide) dX7_gather_37 ?_
      refine tc_icmp_ge 128 dX7_gather_39 (by decide) (fun hc13 => ?_) (fun hc13 => ?_)
      · rw [if_pos hc13] at h
        refine tc_lvs [] rfl ?_
        exact sb_X7_gather_128 hW r ur   u  h
      · rw [if_neg hc13] at h
        refine tc_aload_n 1 rfl dX7_gather_42 ?_
        refine tc_getp hW iv1 fl_X7_33 dX7_gather_43 rfl ?_
        refine tc_iload 3 rfl dX7_gather_46 ?_
        obtain ⟨bx14, x14, ex14, h⟩ := tc_ld_ex h
        refine tc_iald (hW.p iv1 3 rfl).1 bx14 dX7_gather_48 ?_
        refine tc_nm ex14 ?_
        refine tc_if_lt 122 dX7_gather_49 (by decide) (fun hc15 => ?_) (fun hc15 => ?_)
        · rw [if_pos hc15] at h
          exact sb_X7_gather_122 hW r ur _ ih v0 v1 v3 v4 u iv0 iv1 iv3 h
        · rw [if_neg hc15] at h
          refine tc_aload_n 0 rfl dX7_gather_52 ?_
          refine tc_geti iv0.1 fl_X7_36 dX7_gather_53 ?_
          obtain ⟨x16, ex16, h⟩ := tc_let_ex h
          refine tc_nm ex16 ?_
          refine tc_istore [(5, .int x16), (0, .ref (z + v0)), (1, .ref (z + v1)), (3, .ref (z + v3)), (4, .int v4)] dX7_gather_56 (by decide) rfl ?_
          refine tc_lvs [1, 2, 3, 4, 0] rfl ?_
          exact sl_X7_gather_58 hW r ur _ ih _ v0 v1 v3 v4 x16 u iv0 iv1 iv3 h
set_option maxRecDepth 100000 in
set_option maxHeartbeats 4000000 in
theorem sb_X7_gather_15 {p : Program} {l : Launch} {e : Env} {s : State} {m : MethodId} {args : Array Value} {below : List Frame} {meth : Method} {c : Code} {z : Nat} {D : tc_D} {G : tc_G} (hW : tc_W G) (r : Int32) (ur : tc_S) (v0 : Nat) (v1 : Nat) (s0 : Nat) (u : tc_S) (iv0 : tc_is G v0 7) (iv1 : tc_is G v1 9) (is0 : tc_is G s0 100) (h : bl_X7_gather_15 G v0 v1 s0 u = some (r, ur)) : tc_R p l e { frames := 0, cells := 0, slots := 0, locals := 0 } s m args below meth c z D cX7_gather RX7 6 none 0 0 (tc_pv G ur) 0 0 G u 15 [(0, .ref (z + v0)), (1, .ref (z + v1))] [.ref (z + s0)] := by
  unfold bl_X7_gather_15 at h
  refine tc_astore_n [(3, .ref (z + s0)), (0, .ref (z + v0)), (1, .ref (z + v1))] dX7_gather_15 (by decide) rfl ?_
  refine tc_aload_n 1 rfl dX7_gather_16 ?_
  refine tc_iconst (v := 0) (by decide) dX7_gather_17 ?_
  obtain ⟨u17, eu17, h⟩ := tc_let_ex h
  refine tc_puti iv0.1 fl_X7_36 dX7_gather_18 ?_
  refine tc_nmu eu17 ?_
  refine tc_iconst (v := 0) (by decide) dX7_gather_21 ?_
  refine tc_istore [(4, .int 0), (3, .ref (z + s0)), (0, .ref (z + v0)), (1, .ref (z + v1))] dX7_gather_22 (by decide) rfl ?_
  refine tc_lvs [2, 3, 1, 0] rfl ?_
  exact sl_X7_gather_24 hW r ur  _ v0 v1 s0 0 u17 iv0 iv1 is0 h
set_option maxRecDepth 100000 in
set_option maxHeartbeats 4000000 in
theorem ct_X7_gather {l : Launch} {z : Nat} {D : tc_D} {G : tc_G} (hW : tc_W G) {v0 : Nat} {v1 : Nat} {v2 : Int32} {u : tc_S} {r : Int32} {ur : tc_S} (iv0 : tc_is G v0 7) (iv1 : tc_is G v1 9) (h : fn_X7_gather G v0 v1 v2 u = some (r, ur)) : tc_C l z D yX7_gather cX7_gather 6 none 0 0 0 0 [.ref (z + v0), .ref (z + v1), .int v2] G u (tc_pv G ur) := by
  unfold fn_X7_gather at h
  refine tc_C.of (by decide) (Nat.le_of_ble_eq_true rfl) fun p e s m args below meth c => ?_
  show tc_R p l e { frames := 0, cells := 0, slots := 0, locals := 0 } s m args below meth c z D cX7_gather RX7 6 none 0 0 (tc_pv G ur) 0 0 G u 0 [(0, .ref (z + v0)), (1, .ref (z + v1)), (2, .int v2)] []
  refine tc_iload_n 2 rfl dX7_gather_0 ?_
  refine tc_if_eq 11 dX7_gather_1 (by decide) (fun hc18 => ?_) (fun hc18 => ?_)
  · rw [if_pos hc18] at h
    refine tc_aload_n 1 rfl dX7_gather_11 ?_
    refine tc_getp hW iv1 fl_X7_33 dX7_gather_12 rfl ?_
    refine tc_lvs [0, 1] rfl ?_
    exact sb_X7_gather_15 hW r ur  v0 v1 (tc_p G v1 3) u iv0 iv1 (hW.p iv1 3 rfl) h
  · rw [if_neg hc18] at h
    refine tc_aload_n 1 rfl dX7_gather_4 ?_
    refine tc_getp hW iv1 fl_X7_28 dX7_gather_5 rfl ?_
    refine tc_goto 15 dX7_gather_8 (by decide) ?_
    refine tc_lvs [0, 1] rfl ?_
    exact sb_X7_gather_15 hW r ur  v0 v1 (tc_p G v1 5) u iv0 iv1 (hW.p iv1 5 rfl) h
set_option maxRecDepth 100000 in
set_option maxHeartbeats 4000000 in
theorem sb_X7_addDegrees_45 {p : Program} {l : Launch} {e : Env} {s : State} {m : MethodId} {args : Array Value} {below : List Frame} {meth : Method} {c : Code} {z : Nat} {D : tc_D} {G : tc_G} (hW : tc_W G) (r : Int32) (ur : tc_S) (u : tc_S) (h : bl_X7_addDegrees_45 G  u = some (r, ur)) : tc_R p l e { frames := 0, cells := 0, slots := 0, locals := 0 } s m args below meth c z D cX7_addDegrees RX7 6 none 0 0 (tc_pv G ur) 0 0 G u 45 [] [] := by
  unfold bl_X7_addDegrees_45 at h
  cases h
  exact tc_return rfl dX7_addDegrees_45 rfl rfl ⟨rfl, rfl, rfl⟩
set_option maxRecDepth 100000 in
set_option maxHeartbeats 4000000 in
theorem ct_X7_addDegrees {l : Launch} {z : Nat} {D : tc_D} {G : tc_G} (hW : tc_W G) {v0 : Nat} {v1 : Nat} {v2 : Int32} {v3 : Int32} {u : tc_S} {r : Int32} {ur : tc_S} (iv0 : tc_is G v0 7) (iv1 : tc_is G v1 9) (h : fn_X7_addDegrees G v0 v1 v2 v3 u = some (r, ur)) : tc_C l z D yX7_addDegrees cX7_addDegrees 6 none 0 0 0 0 [.ref (z + v0), .ref (z + v1), .int v2, .int v3] G u (tc_pv G ur) := by
  unfold fn_X7_addDegrees at h
  refine tc_C.of (by decide) (Nat.le_of_ble_eq_true rfl) fun p e s m args below meth c => ?_
  show tc_R p l e { frames := 0, cells := 0, slots := 0, locals := 0 } s m args below meth c z D cX7_addDegrees RX7 6 none 0 0 (tc_pv G ur) 0 0 G u 0 [(0, .ref (z + v0)), (1, .ref (z + v1)), (2, .int v2), (3, .int v3)] []
  refine tc_aload_n 1 rfl dX7_addDegrees_0 ?_
  refine tc_getp hW iv1 fl_X7_80 dX7_addDegrees_1 rfl ?_
  refine tc_iload_n 2 rfl dX7_addDegrees_4 ?_
  obtain ⟨bx1, x1, ex1, h⟩ := tc_ld_ex h
  refine tc_iald (hW.p iv1 7 rfl).1 bx1 dX7_addDegrees_5 ?_
  refine tc_nm ex1 ?_
  refine tc_istore [(4, .int x1), (0, .ref (z + v0)), (1, .ref (z + v1)), (2, .int v2), (3, .int v3)] dX7_addDegrees_6 (by decide) rfl ?_
  refine tc_aload_n 2 rfl dX7_addDegrees_8 ?_
  refine tc_getp hW iv1 fl_X7_83 dX7_addDegrees_9 rfl ?_
  refine tc_iload_n 3 rfl dX7_addDegrees_12 ?_
  obtain ⟨bx2, x2, ex2, h⟩ := tc_ld_ex h
  refine tc_iald (hW.p iv1 8 rfl).1 bx2 dX7_addDegrees_13 ?_
  refine tc_nm ex2 ?_
  refine tc_istore [(5, .int x2), (4, .int x1), (0, .ref (z + v0)), (1, .ref (z + v1)), (2, .int v2), (3, .int v3)] dX7_addDegrees_14 (by decide) rfl ?_
  refine tc_aload_n 2 rfl dX7_addDegrees_16 ?_
  refine tc_getp hW iv0 fl_X7_25 dX7_addDegrees_17 rfl ?_
  refine tc_iload 1 rfl dX7_addDegrees_20 ?_
  refine tc_dup2 rfl rfl dX7_addDegrees_22 ?_
  obtain ⟨bx3, x3, ex3, h⟩ := tc_ld_ex h
  refine tc_iald (hW.p iv0 6 rfl).1 bx3 dX7_addDegrees_23 ?_
  refine tc_nm ex3 ?_
  refine tc_iload_n 5 rfl dX7_addDegrees_24 ?_
  refine tc_iadd dX7_addDegrees_25 ?_
  obtain ⟨bu4, u4, eu4, h⟩ := tc_sd_ex h
  refine tc_iast (hW.p iv0 6 rfl).1 bu4 dX7_addDegrees_26 ?_
  refine tc_nmu eu4 ?_
  refine tc_iload 0 rfl dX7_addDegrees_27 ?_
  refine tc_iload 1 rfl dX7_addDegrees_29 ?_
  refine tc_icmp_eq 45 dX7_addDegrees_31 (by decide) (fun hc5 => ?_) (fun hc5 => ?_)
  · rw [if_pos hc5] at h
    refine tc_lvs [] rfl ?_
    exact sb_X7_addDegrees_45 hW r ur   u4  h
  · rw [if_neg hc5] at h
    refine tc_aload_n 2 rfl dX7_addDegrees_34 ?_
    refine tc_getp hW iv0 fl_X7_25 dX7_addDegrees_35 rfl ?_
    refine tc_iload 0 rfl dX7_addDegrees_38 ?_
    refine tc_dup2 rfl rfl dX7_addDegrees_40 ?_
    obtain ⟨bx6, x6, ex6, h⟩ := tc_ld_ex h
    refine tc_iald (hW.p iv0 6 rfl).1 bx6 dX7_addDegrees_41 ?_
    refine tc_nm ex6 ?_
    refine tc_iload_n 5 rfl dX7_addDegrees_42 ?_
    refine tc_iadd dX7_addDegrees_43 ?_
    obtain ⟨bu7, u7, eu7, h⟩ := tc_sd_ex h
    refine tc_iast (hW.p iv0 6 rfl).1 bu7 dX7_addDegrees_44 ?_
    refine tc_nmu eu7 ?_
    refine tc_lvs [] rfl ?_
    exact sb_X7_addDegrees_45 hW r ur   u7  h
set_option maxRecDepth 100000 in
set_option maxHeartbeats 4000000 in
theorem sb_X7_leastOpen_28 {p : Program} {l : Launch} {e : Env} {s : State} {m : MethodId} {args : Array Value} {below : List Frame} {meth : Method} {c : Code} {z : Nat} {D : tc_D} {G : tc_G} (hW : tc_W G) (r : Int32) (ur : tc_S) (K2 : Nat → Int32 → Int32 → Int32 → tc_S → Option (Int32 × tc_S)) (hK2 : ∀ (v0 : Nat) (v1 : Int32) (v2 : Int32) (v3 : Int32) (u : tc_S), tc_is G v0 7 → K2 v0 v1 v2 v3 u = some (r, ur) → tc_R p l e { frames := 0, cells := 0, slots := 0, locals := 0 } s m args below meth c z D cX7_leastOpen RX7 4 (some .int) 0 0 (tc_po r G ur) 0 0 G u 2 [(0, .ref (z + v0)), (1, .int v1), (2, .int v2), (3, .int v3)] []) (v0 : Nat) (v1 : Int32) (v2 : Int32) (v3 : Int32) (u : tc_S) (iv0 : tc_is G v0 7) (h : bl_X7_leastOpen_28 G K2 v0 v1 v2 v3 u = some (r, ur)) : tc_R p l e { frames := 0, cells := 0, slots := 0, locals := 0 } s m args below meth c z D cX7_leastOpen RX7 4 (some .int) 0 0 (tc_po r G ur) 0 0 G u 28 [(0, .ref (z + v0)), (1, .int v1), (2, .int v2), (3, .int v3)] [] := by
  unfold bl_X7_leastOpen_28 at h
  obtain ⟨x1, ex1, h⟩ := tc_let_ex h
  refine tc_iinc 3 (v := x1) [(3, .int x1), (0, .ref (z + v0)), (1, .int v1), (2, .int v2)] dX7_leastOpen_28 rfl (by rw [ex1]; rfl) (by decide) rfl ?_
  refine tc_goto 2 dX7_leastOpen_31 (by decide) ?_
  refine tc_lvs [1, 2, 3, 0] rfl ?_
  exact hK2 v0 v1 v2 x1 u iv0 h
set_option maxRecDepth 100000 in
set_option maxHeartbeats 4000000 in
theorem sl_X7_leastOpen_2 {p : Program} {l : Launch} {e : Env} {s : State} {m : MethodId} {args : Array Value} {below : List Frame} {meth : Method} {c : Code} {z : Nat} {D : tc_D} {G : tc_G} (hW : tc_W G) (r : Int32) (ur : tc_S) : ∀ (n : Nat) (v0 : Nat) (v1 : Int32) (v2 : Int32) (v3 : Int32) (u : tc_S) (iv0 : tc_is G v0 7) (h : lo_X7_leastOpen_2 G n v0 v1 v2 v3 u = some (r, ur)), tc_R p l e { frames := 0, cells := 0, slots := 0, locals := 0 } s m args below meth c z D cX7_leastOpen RX7 4 (some .int) 0 0 (tc_po r G ur) 0 0 G u 2 [(0, .ref (z + v0)), (1, .int v1), (2, .int v2), (3, .int v3)] [] := by
  intro n
  induction n with
  | zero => intro v0 v1 v2 v3 u iv0 h; cases h
  | succ n ih =>
    intro v0 v1 v2 v3 u iv0 h
    rw [lo_X7_leastOpen_2] at h
    refine tc_iload_n 3 rfl dX7_leastOpen_2 ?_
    refine tc_iload_n 1 rfl dX7_leastOpen_3 ?_
    refine tc_icmp_ge 34 dX7_leastOpen_4 (by decide) (fun hc2 => ?_) (fun hc2 => ?_)
    · rw [if_pos hc2] at h
      refine tc_iconst (v := (-1)) (by decide) dX7_leastOpen_34 ?_
      cases h
      exact tc_ireturn rfl dX7_leastOpen_35 rfl rfl ⟨rfl, rfl, rfl⟩
    · rw [if_neg hc2] at h
      refine tc_aload_n 0 rfl dX7_leastOpen_7 ?_
      refine tc_getp hW iv0 fl_X7_25 dX7_leastOpen_8 rfl ?_
      refine tc_iload_n 3 rfl dX7_leastOpen_11 ?_
      obtain ⟨bx3, x3, ex3, h⟩ := tc_ld_ex h
      refine tc_iald (hW.p iv0 6 rfl).1 bx3 dX7_leastOpen_12 ?_
      refine tc_nm ex3 ?_
      refine tc_if_le 28 dX7_leastOpen_13 (by decide) (fun hc4 => ?_) (fun hc4 => ?_)
      · rw [if_pos hc4] at h
        exact sb_X7_leastOpen_28 hW r ur _ ih v0 v1 v2 v3 u iv0 h
      · rw [if_neg hc4] at h
        refine tc_aload_n 0 rfl dX7_leastOpen_16 ?_
        refine tc_getp hW iv0 fl_X7_25 dX7_leastOpen_17 rfl ?_
        refine tc_iload_n 3 rfl dX7_leastOpen_20 ?_
        obtain ⟨bx5, x5, ex5, h⟩ := tc_ld_ex h
        refine tc_iald (hW.p iv0 6 rfl).1 bx5 dX7_leastOpen_21 ?_
        refine tc_nm ex5 ?_
        refine tc_iload_n 2 rfl dX7_leastOpen_22 ?_
        refine tc_icmp_gt 28 dX7_leastOpen_23 (by decide) (fun hc6 => ?_) (fun hc6 => ?_)
        · rw [if_pos hc6] at h
          exact sb_X7_leastOpen_28 hW r ur _ ih v0 v1 v2 v3 u iv0 h
        · rw [if_neg hc6] at h
          refine tc_iload_n 3 rfl dX7_leastOpen_26 ?_
          cases h
          exact tc_ireturn rfl dX7_leastOpen_27 rfl rfl ⟨rfl, rfl, rfl⟩
set_option maxRecDepth 100000 in
set_option maxHeartbeats 4000000 in
theorem ct_X7_leastOpen {l : Launch} {z : Nat} {D : tc_D} {G : tc_G} (hW : tc_W G) {v0 : Nat} {v1 : Int32} {v2 : Int32} {u : tc_S} {r : Int32} {ur : tc_S} (iv0 : tc_is G v0 7) (h : fn_X7_leastOpen G v0 v1 v2 u = some (r, ur)) : tc_C l z D yX7_leastOpen cX7_leastOpen 4 (some .int) 0 0 0 0 [.ref (z + v0), .int v1, .int v2] G u (tc_po r G ur) := by
  unfold fn_X7_leastOpen at h
  refine tc_C.of (by decide) (Nat.le_of_ble_eq_true rfl) fun p e s m args below meth c => ?_
  show tc_R p l e { frames := 0, cells := 0, slots := 0, locals := 0 } s m args below meth c z D cX7_leastOpen RX7 4 (some .int) 0 0 (tc_po r G ur) 0 0 G u 0 [(0, .ref (z + v0)), (1, .int v1), (2, .int v2)] []
  refine tc_iconst (v := 0) (by decide) dX7_leastOpen_0 ?_
  refine tc_istore_n [(3, .int 0), (0, .ref (z + v0)), (1, .int v1), (2, .int v2)] dX7_leastOpen_1 (by decide) rfl ?_
  refine tc_lvs [1, 2, 3, 0] rfl ?_
  exact sl_X7_leastOpen_2 hW r ur  _ v0 v1 v2 0 u iv0 h
