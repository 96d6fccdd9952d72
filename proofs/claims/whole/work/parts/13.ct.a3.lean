set_option maxRecDepth 100000 in
set_option maxHeartbeats 4000000 in
theorem sb_X5_join_129 {p : Program} {l : Launch} {e : Env} {s : State} {m : MethodId} {args : Array Value} {below : List Frame} {meth : Method} {c : Code} {z : Nat} {D : tc_D} {G : tc_G} (hW : tc_W G) (r : Int32) (ur : tc_S) (K57 : Nat → Nat → Int32 → Int32 → Int32 → tc_S → Option (Int32 × tc_S)) (hK57 : ∀ (v0 : Nat) (v1 : Nat) (v2 : Int32) (v3 : Int32) (v4 : Int32) (u : tc_S), tc_is G v0 5 → tc_is G v1 9 → K57 v0 v1 v2 v3 v4 u = some (r, ur) → tc_R p l e { frames := 1, cells := 0, slots := 0, locals := 24 } s m args below meth c z D cX5_join RX5 5 (some .int) 0 0 (tc_po r G ur) 0 0 G u 57 [(0, .ref (z + v0)), (1, .ref (z + v1)), (2, .int v2), (3, .int v3), (4, .int v4)] []) (v0 : Nat) (v1 : Nat) (v2 : Int32) (v3 : Int32) (v4 : Int32) (u : tc_S) (iv0 : tc_is G v0 5) (iv1 : tc_is G v1 9) (h : bl_X5_join_129 G K57 v0 v1 v2 v3 v4 u = some (r, ur)) : tc_R p l e { frames := 1, cells := 0, slots := 0, locals := 24 } s m args below meth c z D cX5_join RX5 5 (some .int) 0 0 (tc_po r G ur) 0 0 G u 129 [(0, .ref (z + v0)), (1, .ref (z + v1)), (2, .int v2), (3, .int v3), (4, .int v4)] [] := by
  unfold bl_X5_join_129 at h
  obtain ⟨x1, ex1, h⟩ := tc_let_ex h
  refine tc_iinc 4 (v := x1) [(4, .int x1), (0, .ref (z + v0)), (1, .ref (z + v1)), (2, .int v2), (3, .int v3)] dX5_join_129 rfl (by rw [ex1]; rfl) (by decide) rfl ?_
  refine tc_goto 57 dX5_join_132 (by decide) ?_
  refine tc_lvs [1, 2, 3, 4, 0] rfl ?_
  exact hK57 v0 v1 v2 v3 x1 u iv0 iv1 h
set_option maxRecDepth 100000 in
set_option maxHeartbeats 4000000 in
theorem sl_X5_join_57 {p : Program} {l : Launch} {e : Env} {s : State} {m : MethodId} {args : Array Value} {below : List Frame} {meth : Method} {c : Code} {z : Nat} {D : tc_D} {G : tc_G} (hW : tc_W G) (r : Int32) (ur : tc_S) : ∀ (n : Nat) (v0 : Nat) (v1 : Nat) (v2 : Int32) (v3 : Int32) (v4 : Int32) (u : tc_S) (iv0 : tc_is G v0 5) (iv1 : tc_is G v1 9) (h : lo_X5_join_57 G n v0 v1 v2 v3 v4 u = some (r, ur)), tc_R p l e { frames := 1, cells := 0, slots := 0, locals := 24 } s m args below meth c z D cX5_join RX5 5 (some .int) 0 0 (tc_po r G ur) 0 0 G u 57 [(0, .ref (z + v0)), (1, .ref (z + v1)), (2, .int v2), (3, .int v3), (4, .int v4)] [] := by
  intro n
  induction n with
  | zero => intro v0 v1 v2 v3 v4 u iv0 iv1 h; cases h
  | succ n ih =>
    intro v0 v1 v2 v3 v4 u iv0 iv1 h
    rw [lo_X5_join_57] at h
    refine tc_iload 4 rfl dX5_join_57 ?_
    refine tc_aload_n 1 rfl dX5_join_59 ?_
    refine tc_geti iv1 fl_X5_33 dX5_join_60 ?_
    refine tc_icmp_ge 135 dX5_join_63 (by decide) (fun hc2 => ?_) (fun hc2 => ?_)
    · rw [if_pos hc2] at h
      refine tc_iload_n 3 rfl dX5_join_135 ?_
      cases h
      exact tc_ireturn rfl dX5_join_136 rfl rfl ⟨rfl, rfl, rfl⟩
    · rw [if_neg hc2] at h
      refine tc_aload_n 1 rfl dX5_join_66 ?_
      refine tc_getp hW iv1 fl_X5_36 dX5_join_67 rfl ?_
      refine tc_iload 4 rfl dX5_join_70 ?_
      obtain ⟨bx3, x3, ex3, h⟩ := tc_ld_ex h
      refine tc_iald (hW.p iv1 3 rfl) bx3 dX5_join_72 ?_
      refine tc_nm ex3 ?_
      refine tc_if_lt 129 dX5_join_73 (by decide) (fun hc4 => ?_) (fun hc4 => ?_)
      · rw [if_pos hc4] at h
        exact sb_X5_join_129 hW r ur _ ih v0 v1 v2 v3 v4 u iv0 iv1 h
      · rw [if_neg hc4] at h
        refine tc_iload_n 3 rfl dX5_join_76 ?_
        refine tc_aload_n 0 rfl dX5_join_77 ?_
        refine tc_aload_n 0 rfl dX5_join_78 ?_
        refine tc_getp hW iv0 fl_X5_9 dX5_join_79 rfl ?_
        refine tc_aload_n 1 rfl dX5_join_82 ?_
        refine tc_getp hW iv1 fl_X5_39 dX5_join_83 rfl ?_
        refine tc_iload 4 rfl dX5_join_86 ?_
        obtain ⟨bx5, x5, ex5, h⟩ := tc_ld_ex h
        refine tc_iald (hW.p iv1 7 rfl) bx5 dX5_join_88 ?_
        refine tc_nm ex5 ?_
        obtain ⟨bx6, x6, ex6, h⟩ := tc_ld_ex h
        refine tc_iald (hW.p iv0 0 rfl) bx6 dX5_join_89 ?_
        refine tc_nm ex6 ?_
        refine tc_aload_n 0 rfl dX5_join_90 ?_
        refine tc_getp hW iv0 fl_X5_9 dX5_join_91 rfl ?_
        refine tc_aload_n 1 rfl dX5_join_94 ?_
        refine tc_getp hW iv1 fl_X5_42 dX5_join_95 rfl ?_
        refine tc_iload 4 rfl dX5_join_98 ?_
        obtain ⟨bx7, x7, ex7, h⟩ := tc_ld_ex h
        refine tc_iald (hW.p iv1 8 rfl) bx7 dX5_join_100 ?_
        refine tc_nm ex7 ?_
        obtain ⟨bx8, x8, ex8, h⟩ := tc_ld_ex h
        refine tc_iald (hW.p iv0 0 rfl) bx8 dX5_join_101 ?_
        refine tc_nm ex8 ?_
        refine tc_iload_n 2 rfl dX5_join_102 ?_
        obtain ⟨x9, u10, hq11, h⟩ := tc_b_ex h
        refine tc_callVi [.int x6, .int x8, .int v2] dX5_join_103 iv0 (ct_X5_unite hW iv0 hq11) ml_X5_45 mw_X5_unite mv_X5_unite ⟨Nat.le_of_ble_eq_true rfl, Nat.le_of_ble_eq_true rfl⟩ rfl rfl (Nat.le_of_ble_eq_true rfl) ⟨Nat.le_refl _, Nat.le_refl _⟩ (by decide) ?_
        refine tc_isub dX5_join_106 ?_
        obtain ⟨x12, ex12, h⟩ := tc_let_ex h
        refine tc_nm ex12 ?_
        refine tc_istore_n [(3, .int x12), (0, .ref (z + v0)), (1, .ref (z + v1)), (2, .int v2), (4, .int v4)] dX5_join_107 (by decide) rfl ?_
        refine tc_aload_n 1 rfl dX5_join_108 ?_
        refine tc_getp hW iv0 fl_X5_15 dX5_join_109 rfl ?_
        refine tc_aload_n 1 rfl dX5_join_112 ?_
        refine tc_getp hW iv0 fl_X5_9 dX5_join_113 rfl ?_
        refine tc_aload_n 2 rfl dX5_join_116 ?_
        refine tc_getp hW iv1 fl_X5_39 dX5_join_117 rfl ?_
        refine tc_iload 4 rfl dX5_join_120 ?_
        obtain ⟨bx13, x13, ex13, h⟩ := tc_ld_ex h
        refine tc_iald (hW.p iv1 7 rfl) bx13 dX5_join_122 ?_
        refine tc_nm ex13 ?_
        obtain ⟨bx14, x14, ex14, h⟩ := tc_ld_ex h
        refine tc_iald (hW.p iv0 0 rfl) bx14 dX5_join_123 ?_
        refine tc_nm ex14 ?_
        refine tc_dup2 rfl rfl dX5_join_124 ?_
        obtain ⟨bx15, x15, ex15, h⟩ := tc_ld_ex h
        refine tc_iald (hW.p iv0 1 rfl) bx15 dX5_join_125 ?_
        refine tc_nm ex15 ?_
        refine tc_iconst (v := 1) (by decide) dX5_join_126 ?_
        refine tc_iadd dX5_join_127 ?_
        obtain ⟨bu16, u16, eu16, h⟩ := tc_sd_ex h
        refine tc_iast (hW.p iv0 1 rfl) bu16 dX5_join_128 ?_
        refine tc_nmu eu16 ?_
        refine tc_lvs [1, 2, 3, 0, 4] rfl ?_
        exact sb_X5_join_129 hW r ur _ ih v0 v1 v2 x12 v4 u16 iv0 iv1 h
set_option maxRecDepth 100000 in
set_option maxHeartbeats 4000000 in
theorem sb_X5_join_45 {p : Program} {l : Launch} {e : Env} {s : State} {m : MethodId} {args : Array Value} {below : List Frame} {meth : Method} {c : Code} {z : Nat} {D : tc_D} {G : tc_G} (hW : tc_W G) (r : Int32) (ur : tc_S) (K10 : Nat → Nat → Int32 → Int32 → tc_S → Option (Int32 × tc_S)) (hK10 : ∀ (v0 : Nat) (v1 : Nat) (v2 : Int32) (v3 : Int32) (u : tc_S), tc_is G v0 5 → tc_is G v1 9 → K10 v0 v1 v2 v3 u = some (r, ur) → tc_R p l e { frames := 1, cells := 0, slots := 0, locals := 24 } s m args below meth c z D cX5_join RX5 5 (some .int) 0 0 (tc_po r G ur) 0 0 G u 10 [(0, .ref (z + v0)), (1, .ref (z + v1)), (2, .int v2), (3, .int v3)] []) (v0 : Nat) (v1 : Nat) (v2 : Int32) (v3 : Int32) (s0 : Nat) (s1 : Int32) (s2 : Int32) (u : tc_S) (iv0 : tc_is G v0 5) (iv1 : tc_is G v1 9) (is0 : tc_is G s0 100) (h : bl_X5_join_45 G K10 v0 v1 v2 v3 s0 s1 s2 u = some (r, ur)) : tc_R p l e { frames := 1, cells := 0, slots := 0, locals := 24 } s m args below meth c z D cX5_join RX5 5 (some .int) 0 0 (tc_po r G ur) 0 0 G u 45 [(0, .ref (z + v0)), (1, .ref (z + v1)), (2, .int v2), (3, .int v3)] [.int s2, .int s1, .ref (z + s0)] := by
  unfold bl_X5_join_45 at h
  obtain ⟨bu17, u17, eu17, h⟩ := tc_sd_ex h
  refine tc_iast is0 bu17 dX5_join_45 ?_
  refine tc_nmu eu17 ?_
  obtain ⟨x18, ex18, h⟩ := tc_let_ex h
  refine tc_iinc 3 (v := x18) [(3, .int x18), (0, .ref (z + v0)), (1, .ref (z + v1)), (2, .int v2)] dX5_join_46 rfl (by rw [ex18]; rfl) (by decide) rfl ?_
  refine tc_goto 10 dX5_join_49 (by decide) ?_
  refine tc_lvs [1, 2, 3, 0] rfl ?_
  exact hK10 v0 v1 v2 x18 u17 iv0 iv1 h
set_option maxRecDepth 100000 in
set_option maxHeartbeats 4000000 in
theorem sl_X5_join_10 {p : Program} {l : Launch} {e : Env} {s : State} {m : MethodId} {args : Array Value} {below : List Frame} {meth : Method} {c : Code} {z : Nat} {D : tc_D} {G : tc_G} (hW : tc_W G) (r : Int32) (ur : tc_S) : ∀ (n : Nat) (v0 : Nat) (v1 : Nat) (v2 : Int32) (v3 : Int32) (u : tc_S) (iv0 : tc_is G v0 5) (iv1 : tc_is G v1 9) (h : lo_X5_join_10 G n v0 v1 v2 v3 u = some (r, ur)), tc_R p l e { frames := 1, cells := 0, slots := 0, locals := 24 } s m args below meth c z D cX5_join RX5 5 (some .int) 0 0 (tc_po r G ur) 0 0 G u 10 [(0, .ref (z + v0)), (1, .ref (z + v1)), (2, .int v2), (3, .int v3)] [] := by
  intro n
  induction n with
  | zero => intro v0 v1 v2 v3 u iv0 iv1 h; cases h
  | succ n ih =>
    intro v0 v1 v2 v3 u iv0 iv1 h
    rw [lo_X5_join_10] at h
    refine tc_iload_n 3 rfl dX5_join_10 ?_
    refine tc_bipush (v := 32) (by decide) dX5_join_11 ?_
    refine tc_icmp_ge 52 dX5_join_13 (by decide) (fun hc19 => ?_) (fun hc19 => ?_)
    · rw [if_pos hc19] at h
      refine tc_iload_n 2 rfl dX5_join_52 ?_
      refine tc_istore_n [(3, .int v2), (0, .ref (z + v0)), (1, .ref (z + v1)), (2, .int v2)] dX5_join_53 (by decide) rfl ?_
      refine tc_iconst (v := 0) (by decide) dX5_join_54 ?_
      refine tc_istore [(4, .int 0), (3, .int v2), (0, .ref (z + v0)), (1, .ref (z + v1)), (2, .int v2)] dX5_join_55 (by decide) rfl ?_
      refine tc_lvs [2, 3, 4, 1, 0] rfl ?_
      exact sl_X5_join_57 hW r ur  _ v0 v1 v2 v2 0 u iv0 iv1 h
    · rw [if_neg hc19] at h
      refine tc_aload_n 0 rfl dX5_join_16 ?_
      refine tc_getp hW iv0 fl_X5_9 dX5_join_17 rfl ?_
      refine tc_iload_n 3 rfl dX5_join_20 ?_
      refine tc_iload_n 3 rfl dX5_join_21 ?_
      obtain ⟨bu20, u20, eu20, h⟩ := tc_sd_ex h
      refine tc_iast (hW.p iv0 0 rfl) bu20 dX5_join_22 ?_
      refine tc_nmu eu20 ?_
      refine tc_aload_n 0 rfl dX5_join_23 ?_
      refine tc_getp hW iv0 fl_X5_15 dX5_join_24 rfl ?_
      refine tc_iload_n 3 rfl dX5_join_27 ?_
      refine tc_iconst (v := 0) (by decide) dX5_join_28 ?_
      obtain ⟨bu21, u21, eu21, h⟩ := tc_sd_ex h
      refine tc_iast (hW.p iv0 1 rfl) bu21 dX5_join_29 ?_
      refine tc_nmu eu21 ?_
      refine tc_aload_n 0 rfl dX5_join_30 ?_
      refine tc_getp hW iv0 fl_X5_18 dX5_join_31 rfl ?_
      refine tc_iload_n 3 rfl dX5_join_34 ?_
      refine tc_iload_n 3 rfl dX5_join_35 ?_
      refine tc_iload_n 2 rfl dX5_join_36 ?_
      refine tc_icmp_ge 44 dX5_join_37 (by decide) (fun hc22 => ?_) (fun hc22 => ?_)
      · rw [if_pos hc22] at h
        refine tc_iconst (v := 0) (by decide) dX5_join_44 ?_
        exact sb_X5_join_45 hW r ur _ ih v0 v1 v2 v3 (tc_p G v0 2) v3 0 u21 iv0 iv1 (hW.p iv0 2 rfl) h
      · rw [if_neg hc22] at h
        refine tc_iconst (v := 1) (by decide) dX5_join_40 ?_
        refine tc_goto 45 dX5_join_41 (by decide) ?_
        exact sb_X5_join_45 hW r ur _ ih v0 v1 v2 v3 (tc_p G v0 2) v3 1 u21 iv0 iv1 (hW.p iv0 2 rfl) h
set_option maxRecDepth 100000 in
set_option maxHeartbeats 4000000 in
theorem ct_X5_join {l : Launch} {z : Nat} {D : tc_D} {G : tc_G} (hW : tc_W G) {v0 : Nat} {v1 : Nat} {u : tc_S} {r : Int32} {ur : tc_S} (iv0 : tc_is G v0 5) (iv1 : tc_is G v1 9) (h : fn_X5_join G v0 v1 u = some (r, ur)) : tc_C l z D yX5_join cX5_join 5 (some .int) 1 24 0 0 [.ref (z + v0), .ref (z + v1)] G u (tc_po r G ur) := by
  unfold fn_X5_join at h
  refine tc_C.of (by decide) (Nat.le_of_ble_eq_true rfl) fun p e s m args below meth c => ?_
  show tc_R p l e { frames := 1, cells := 0, slots := 0, locals := 24 } s m args below meth c z D cX5_join RX5 5 (some .int) 0 0 (tc_po r G ur) 0 0 G u 0 [(0, .ref (z + v0)), (1, .ref (z + v1))] []
  refine tc_aload_n 1 rfl dX5_join_0 ?_
  refine tc_getp hW iv1 fl_X5_21 dX5_join_1 rfl ?_
  refine tc_geti (hW.p iv1 0 rfl) fl_X5_27 dX5_join_4 ?_
  obtain ⟨x23, ex23, h⟩ := tc_let_ex h
  refine tc_nm ex23 ?_
  refine tc_istore_n [(2, .int x23), (0, .ref (z + v0)), (1, .ref (z + v1))] dX5_join_7 (by decide) rfl ?_
  refine tc_iconst (v := 0) (by decide) dX5_join_8 ?_
  refine tc_istore_n [(3, .int 0), (2, .int x23), (0, .ref (z + v0)), (1, .ref (z + v1))] dX5_join_9 (by decide) rfl ?_
  refine tc_lvs [2, 3, 1, 0] rfl ?_
  exact sl_X5_join_10 hW r ur  _ v0 v1 x23 0 u iv0 iv1 h
set_option maxRecDepth 100000 in
set_option maxHeartbeats 4000000 in
theorem sb_X5_bits_28 {p : Program} {l : Launch} {e : Env} {s : State} {m : MethodId} {args : Array Value} {below : List Frame} {meth : Method} {c : Code} {z : Nat} {D : tc_D} {G : tc_G} (hW : tc_W G) (r : Int32) (ur : tc_S) (K4 : Nat → Int32 → Int32 → Int32 → tc_S → Option (Int32 × tc_S)) (hK4 : ∀ (v0 : Nat) (v1 : Int32) (v2 : Int32) (v3 : Int32) (u : tc_S), tc_is G v0 5 → K4 v0 v1 v2 v3 u = some (r, ur) → tc_R p l e { frames := 0, cells := 0, slots := 0, locals := 0 } s m args below meth c z D cX5_bits RX5 4 (some .int) 0 0 (tc_po r G ur) 0 0 G u 4 [(0, .ref (z + v0)), (1, .int v1), (2, .int v2), (3, .int v3)] []) (v0 : Nat) (v1 : Int32) (v3 : Int32) (s0 : Int32) (s1 : Int32) (u : tc_S) (iv0 : tc_is G v0 5) (h : bl_X5_bits_28 G K4 v0 v1 v3 s0 s1 u = some (r, ur)) : tc_R p l e { frames := 0, cells := 0, slots := 0, locals := 0 } s m args below meth c z D cX5_bits RX5 4 (some .int) 0 0 (tc_po r G ur) 0 0 G u 28 [(0, .ref (z + v0)), (1, .int v1), (3, .int v3)] [.int s1, .int s0] := by
  unfold bl_X5_bits_28 at h
  refine tc_ior dX5_bits_28 ?_
  obtain ⟨x1, ex1, h⟩ := tc_let_ex h
  refine tc_nm ex1 ?_
  refine tc_istore_n [(2, .int x1), (0, .ref (z + v0)), (1, .int v1), (3, .int v3)] dX5_bits_29 (by decide) rfl ?_
  obtain ⟨x2, ex2, h⟩ := tc_let_ex h
  refine tc_iinc 3 (v := x2) [(3, .int x2), (2, .int x1), (0, .ref (z + v0)), (1, .int v1)] dX5_bits_30 rfl (by rw [ex2]; rfl) (by decide) rfl ?_
  refine tc_goto 4 dX5_bits_33 (by decide) ?_
  refine tc_lvs [2, 3, 1, 0] rfl ?_
  exact hK4 v0 v1 x1 x2 u iv0 h
set_option maxRecDepth 100000 in
set_option maxHeartbeats 4000000 in
theorem sl_X5_bits_4 {p : Program} {l : Launch} {e : Env} {s : State} {m : MethodId} {args : Array Value} {below : List Frame} {meth : Method} {c : Code} {z : Nat} {D : tc_D} {G : tc_G} (hW : tc_W G) (r : Int32) (ur : tc_S) : ∀ (n : Nat) (v0 : Nat) (v1 : Int32) (v2 : Int32) (v3 : Int32) (u : tc_S) (iv0 : tc_is G v0 5) (h : lo_X5_bits_4 G n v0 v1 v2 v3 u = some (r, ur)), tc_R p l e { frames := 0, cells := 0, slots := 0, locals := 0 } s m args below meth c z D cX5_bits RX5 4 (some .int) 0 0 (tc_po r G ur) 0 0 G u 4 [(0, .ref (z + v0)), (1, .int v1), (2, .int v2), (3, .int v3)] [] := by
  intro n
  induction n with
  | zero => intro v0 v1 v2 v3 u iv0 h; cases h
  | succ n ih =>
    intro v0 v1 v2 v3 u iv0 h
    rw [lo_X5_bits_4] at h
    refine tc_iload_n 3 rfl dX5_bits_4 ?_
    refine tc_bipush (v := 16) (by decide) dX5_bits_5 ?_
    refine tc_icmp_ge 36 dX5_bits_7 (by decide) (fun hc3 => ?_) (fun hc3 => ?_)
    · rw [if_pos hc3] at h
      refine tc_iload_n 2 rfl dX5_bits_36 ?_
      cases h
      exact tc_ireturn rfl dX5_bits_37 rfl rfl ⟨rfl, rfl, rfl⟩
    · rw [if_neg hc3] at h
      refine tc_iload_n 2 rfl dX5_bits_10 ?_
      refine tc_aload_n 0 rfl dX5_bits_11 ?_
      refine tc_getp hW iv0 fl_X5_9 dX5_bits_12 rfl ?_
      refine tc_iload_n 3 rfl dX5_bits_15 ?_
      obtain ⟨bx4, x4, ex4, h⟩ := tc_ld_ex h
      refine tc_iald (hW.p iv0 0 rfl) bx4 dX5_bits_16 ?_
      refine tc_nm ex4 ?_
      refine tc_iload_n 1 rfl dX5_bits_17 ?_
      refine tc_icmp_ne 27 dX5_bits_18 (by decide) (fun hc5 => ?_) (fun hc5 => ?_)
      · rw [if_neg hc5] at h
        refine tc_iconst (v := 0) (by decide) dX5_bits_27 ?_
        refine tc_lvs [0, 1, 3] rfl ?_
        exact sb_X5_bits_28 hW r ur _ ih v0 v1 v3 v2 0 u iv0 h
      · rw [if_pos hc5] at h
        refine tc_iconst (v := 1) (by decide) dX5_bits_21 ?_
        refine tc_iload_n 3 rfl dX5_bits_22 ?_
        refine tc_ishl dX5_bits_23 ?_
        refine tc_goto 28 dX5_bits_24 (by decide) ?_
        refine tc_lvs [0, 1, 3] rfl ?_
        exact sb_X5_bits_28 hW r ur _ ih v0 v1 v3 v2 (1 <<< (v3 &&& 31)) u iv0 h
set_option maxRecDepth 100000 in
set_option maxHeartbeats 4000000 in
theorem ct_X5_bits {l : Launch} {z : Nat} {D : tc_D} {G : tc_G} (hW : tc_W G) {v0 : Nat} {v1 : Int32} {u : tc_S} {r : Int32} {ur : tc_S} (iv0 : tc_is G v0 5) (h : fn_X5_bits G v0 v1 u = some (r, ur)) : tc_C l z D yX5_bits cX5_bits 4 (some .int) 0 0 0 0 [.ref (z + v0), .int v1] G u (tc_po r G ur) := by
  unfold fn_X5_bits at h
  refine tc_C.of (by decide) (Nat.le_of_ble_eq_true rfl) fun p e s m args below meth c => ?_
  show tc_R p l e { frames := 0, cells := 0, slots := 0, locals := 0 } s m args below meth c z D cX5_bits RX5 4 (some .int) 0 0 (tc_po r G ur) 0 0 G u 0 [(0, .ref (z + v0)), (1, .int v1)] []
  refine tc_iconst (v := 0) (by decide) dX5_bits_0 ?_
  refine tc_istore_n [(2, .int 0), (0, .ref (z + v0)), (1, .int v1)] dX5_bits_1 (by decide) rfl ?_
  refine tc_iconst (v := 0) (by decide) dX5_bits_2 ?_
  refine tc_istore_n [(3, .int 0), (2, .int 0), (0, .ref (z + v0)), (1, .int v1)] dX5_bits_3 (by decide) rfl ?_
  refine tc_lvs [2, 3, 1, 0] rfl ?_
  exact sl_X5_bits_4 hW r ur  _ v0 v1 0 0 u iv0 h
set_option maxRecDepth 100000 in
set_option maxHeartbeats 4000000 in
theorem sb_X5_entriesIn_40 {p : Program} {l : Launch} {e : Env} {s : State} {m : MethodId} {args : Array Value} {below : List Frame} {meth : Method} {c : Code} {z : Nat} {D : tc_D} {G : tc_G} (hW : tc_W G) (r : Int32) (ur : tc_S) (K5 : Nat → Nat → Int32 → Int32 → Int32 → tc_S → Option (Int32 × tc_S)) (hK5 : ∀ (v0 : Nat) (v1 : Nat) (v2 : Int32) (v3 : Int32) (v4 : Int32) (u : tc_S), tc_is G v0 5 → tc_is G v1 9 → K5 v0 v1 v2 v3 v4 u = some (r, ur) → tc_R p l e { frames := 0, cells := 0, slots := 0, locals := 0 } s m args below meth c z D cX5_entriesIn RX5 5 (some .int) 0 0 (tc_po r G ur) 0 0 G u 5 [(0, .ref (z + v0)), (1, .ref (z + v1)), (2, .int v2), (3, .int v3), (4, .int v4)] []) (v0 : Nat) (v1 : Nat) (v2 : Int32) (v4 : Int32) (s0 : Int32) (s1 : Int32) (u : tc_S) (iv0 : tc_is G v0 5) (iv1 : tc_is G v1 9) (h : bl_X5_entriesIn_40 G K5 v0 v1 v2 v4 s0 s1 u = some (r, ur)) : tc_R p l e { frames := 0, cells := 0, slots := 0, locals := 0 } s m args below meth c z D cX5_entriesIn RX5 5 (some .int) 0 0 (tc_po r G ur) 0 0 G u 40 [(0, .ref (z + v0)), (1, .ref (z + v1)), (2, .int v2), (4, .int v4)] [.int s1, .int s0] := by
  unfold bl_X5_entriesIn_40 at h
  refine tc_iadd dX5_entriesIn_40 ?_
  obtain ⟨x1, ex1, h⟩ := tc_let_ex h
  refine tc_nm ex1 ?_
  refine tc_istore_n [(3, .int x1), (0, .ref (z + v0)), (1, .ref (z + v1)), (2, .int v2), (4, .int v4)] dX5_entriesIn_41 (by decide) rfl ?_
  obtain ⟨x2, ex2, h⟩ := tc_let_ex h
  refine tc_iinc 4 (v := x2) [(4, .int x2), (3, .int x1), (0, .ref (z + v0)), (1, .ref (z + v1)), (2, .int v2)] dX5_entriesIn_42 rfl (by rw [ex2]; rfl) (by decide) rfl ?_
  refine tc_goto 5 dX5_entriesIn_45 (by decide) ?_
  refine tc_lvs [2, 3, 4, 1, 0] rfl ?_
  exact hK5 v0 v1 v2 x1 x2 u iv0 iv1 h
set_option maxRecDepth 100000 in
set_option maxHeartbeats 4000000 in
theorem sl_X5_entriesIn_5 {p : Program} {l : Launch} {e : Env} {s : State} {m : MethodId} {args : Array Value} {below : List Frame} {meth : Method} {c : Code} {z : Nat} {D : tc_D} {G : tc_G} (hW : tc_W G) (r : Int32) (ur : tc_S) : ∀ (n : Nat) (v0 : Nat) (v1 : Nat) (v2 : Int32) (v3 : Int32) (v4 : Int32) (u : tc_S) (iv0 : tc_is G v0 5) (iv1 : tc_is G v1 9) (h : lo_X5_entriesIn_5 G n v0 v1 v2 v3 v4 u = some (r, ur)), tc_R p l e { frames := 0, cells := 0, slots := 0, locals := 0 } s m args below meth c z D cX5_entriesIn RX5 5 (some .int) 0 0 (tc_po r G ur) 0 0 G u 5 [(0, .ref (z + v0)), (1, .ref (z + v1)), (2, .int v2), (3, .int v3), (4, .int v4)] [] := by
  intro n
  induction n with
  | zero => intro v0 v1 v2 v3 v4 u iv0 iv1 h; cases h
  | succ n ih =>
    intro v0 v1 v2 v3 v4 u iv0 iv1 h
    rw [lo_X5_entriesIn_5] at h
    refine tc_iload 4 rfl dX5_entriesIn_5 ?_
    refine tc_aload_n 1 rfl dX5_entriesIn_7 ?_
    refine tc_getp hW iv1 fl_X5_21 dX5_entriesIn_8 rfl ?_
    refine tc_geti (hW.p iv1 0 rfl) fl_X5_27 dX5_entriesIn_11 ?_
    refine tc_icmp_ge 48 dX5_entriesIn_14 (by decide) (fun hc3 => ?_) (fun hc3 => ?_)
    · rw [if_pos hc3] at h
      refine tc_iload_n 3 rfl dX5_entriesIn_48 ?_
      cases h
      exact tc_ireturn rfl dX5_entriesIn_49 rfl rfl ⟨rfl, rfl, rfl⟩
    · rw [if_neg hc3] at h
      refine tc_iload_n 3 rfl dX5_entriesIn_17 ?_
      refine tc_aload_n 0 rfl dX5_entriesIn_18 ?_
      refine tc_getp hW iv0 fl_X5_9 dX5_entriesIn_19 rfl ?_
      refine tc_iload 4 rfl dX5_entriesIn_22 ?_
      obtain ⟨bx4, x4, ex4, h⟩ := tc_ld_ex h
      refine tc_iald (hW.p iv0 0 rfl) bx4 dX5_entriesIn_24 ?_
      refine tc_nm ex4 ?_
      refine tc_iload_n 2 rfl dX5_entriesIn_25 ?_
      refine tc_icmp_ne 39 dX5_entriesIn_26 (by decide) (fun hc5 => ?_) (fun hc5 => ?_)
      · rw [if_neg hc5] at h
        refine tc_iconst (v := 0) (by decide) dX5_entriesIn_39 ?_
        refine tc_lvs [0, 1, 2, 4] rfl ?_
        exact sb_X5_entriesIn_40 hW r ur _ ih v0 v1 v2 v4 v3 0 u iv0 iv1 h
      · rw [if_pos hc5] at h
        refine tc_aload_n 1 rfl dX5_entriesIn_29 ?_
        refine tc_getp hW iv1 fl_X5_49 dX5_entriesIn_30 rfl ?_
        refine tc_iload 4 rfl dX5_entriesIn_33 ?_
        obtain ⟨bx6, x6, ex6, h⟩ := tc_ld_ex h
        refine tc_iald (hW.p iv1 9 rfl) bx6 dX5_entriesIn_35 ?_
        refine tc_nm ex6 ?_
        refine tc_goto 40 dX5_entriesIn_36 (by decide) ?_
        refine tc_lvs [0, 1, 2, 4] rfl ?_
        exact sb_X5_entriesIn_40 hW r ur _ ih v0 v1 v2 v4 v3 x6 u iv0 iv1 h
set_option maxRecDepth 100000 in
set_option maxHeartbeats 4000000 in
theorem ct_X5_entriesIn {l : Launch} {z : Nat} {D : tc_D} {G : tc_G} (hW : tc_W G) {v0 : Nat} {v1 : Nat} {v2 : Int32} {u : tc_S} {r : Int32} {ur : tc_S} (iv0 : tc_is G v0 5) (iv1 : tc_is G v1 9) (h : fn_X5_entriesIn G v0 v1 v2 u = some (r, ur)) : tc_C l z D yX5_entriesIn cX5_entriesIn 5 (some .int) 0 0 0 0 [.ref (z + v0), .ref (z + v1), .int v2] G u (tc_po r G ur) := by
  unfold fn_X5_entriesIn at h
  refine tc_C.of (by decide) (Nat.le_of_ble_eq_true rfl) fun p e s m args below meth c => ?_
  show tc_R p l e { frames := 0, cells := 0, slots := 0, locals := 0 } s m args below meth c z D cX5_entriesIn RX5 5 (some .int) 0 0 (tc_po r G ur) 0 0 G u 0 [(0, .ref (z + v0)), (1, .ref (z + v1)), (2, .int v2)] []
  refine tc_iconst (v := 0) (by decide) dX5_entriesIn_0 ?_
  refine tc_istore_n [(3, .int 0), (0, .ref (z + v0)), (1, .ref (z + v1)), (2, .int v2)] dX5_entriesIn_1 (by decide) rfl ?_
  refine tc_iconst (v := 0) (by decide) dX5_entriesIn_2 ?_
  refine tc_istore [(4, .int 0), (3, .int 0), (0, .ref (z + v0)), (1, .ref (z + v1)), (2, .int v2)] dX5_entriesIn_3 (by decide) rfl ?_
  refine tc_lvs [2, 3, 4, 1, 0] rfl ?_
  exact sl_X5_entriesIn_5 hW r ur  _ v0 v1 v2 0 0 u iv0 iv1 h
set_option maxRecDepth 100000 in
set_option maxHeartbeats 4000000 in
theorem sb_X5_kindOf_37 {p : Program} {l : Launch} {e : Env} {s : State} {m : MethodId} {args : Array Value} {below : List Frame} {meth : Method} {c : Code} {z : Nat} {D : tc_D} {G : tc_G} (hW : tc_W G) (r : Int32) (ur : tc_S) (s0 : Int32) (u : tc_S) (h : bl_X5_kindOf_37 G s0 u = some (r, ur)) : tc_R p l e { frames := 0, cells := 0, slots := 0, locals := 0 } s m args below meth c z D cX5_kindOf RX5 2 (some .int) 0 0 (tc_po r G ur) 0 0 G u 37 [] [.int s0] := by
  unfold bl_X5_kindOf_37 at h
  cases h
  exact tc_ireturn rfl dX5_kindOf_37 rfl rfl ⟨rfl, rfl, rfl⟩
set_option maxRecDepth 100000 in
set_option maxHeartbeats 4000000 in
theorem ct_X5_kindOf {l : Launch} {z : Nat} {D : tc_D} {G : tc_G} (hW : tc_W G) {v0 : Nat} {v1 : Int32} {u : tc_S} {r : Int32} {ur : tc_S} (iv0 : tc_is G v0 5) (h : fn_X5_kindOf G v0 v1 u = some (r, ur)) : tc_C l z D yX5_kindOf cX5_kindOf 2 (some .int) 0 0 0 0 [.ref (z + v0), .int v1] G u (tc_po r G ur) := by
  unfold fn_X5_kindOf at h
  refine tc_C.of (by decide) (Nat.le_of_ble_eq_true rfl) fun p e s m args below meth c => ?_
  show tc_R p l e { frames := 0, cells := 0, slots := 0, locals := 0 } s m args below meth c z D cX5_kindOf RX5 2 (some .int) 0 0 (tc_po r G ur) 0 0 G u 0 [(0, .ref (z + v0)), (1, .int v1)] []
  refine tc_aload_n 0 rfl dX5_kindOf_0 ?_
  refine tc_getp hW iv0 fl_X5_15 dX5_kindOf_1 rfl ?_
  refine tc_iload_n 1 rfl dX5_kindOf_4 ?_
  obtain ⟨bx1, x1, ex1, h⟩ := tc_ld_ex h
  refine tc_iald (hW.p iv0 1 rfl) bx1 dX5_kindOf_5 ?_
  refine tc_nm ex1 ?_
  refine tc_aload_n 0 rfl dX5_kindOf_6 ?_
  refine tc_getp hW iv0 fl_X5_18 dX5_kindOf_7 rfl ?_
  refine tc_iload_n 1 rfl dX5_kindOf_10 ?_
  obtain ⟨bx2, x2, ex2, h⟩ := tc_ld_ex h
  refine tc_iald (hW.p iv0 2 rfl) bx2 dX5_kindOf_11 ?_
  refine tc_nm ex2 ?_
  refine tc_icmp_ge 17 dX5_kindOf_12 (by decide) (fun hc3 => ?_) (fun hc3 => ?_)
  · rw [if_pos hc3] at h
    refine tc_aload_n 0 rfl dX5_kindOf_17 ?_
    refine tc_getp hW iv0 fl_X5_15 dX5_kindOf_18 rfl ?_
    refine tc_iload_n 1 rfl dX5_kindOf_21 ?_
    obtain ⟨bx4, x4, ex4, h⟩ := tc_ld_ex h
    refine tc_iald (hW.p iv0 1 rfl) bx4 dX5_kindOf_22 ?_
    refine tc_nm ex4 ?_
    refine tc_aload_n 0 rfl dX5_kindOf_23 ?_
    refine tc_getp hW iv0 fl_X5_18 dX5_kindOf_24 rfl ?_
    refine tc_iload_n 1 rfl dX5_kindOf_27 ?_
    obtain ⟨bx5, x5, ex5, h⟩ := tc_ld_ex h
    refine tc_iald (hW.p iv0 2 rfl) bx5 dX5_kindOf_28 ?_
    refine tc_nm ex5 ?_
    refine tc_icmp_ne 36 dX5_kindOf_29 (by decide) (fun hc6 => ?_) (fun hc6 => ?_)
    · rw [if_neg hc6] at h
      refine tc_iconst (v := 2) (by decide) dX5_kindOf_36 ?_
      refine tc_lvs [] rfl ?_
      exact sb_X5_kindOf_37 hW r ur  2 u  h
    · rw [if_pos hc6] at h
      refine tc_iconst (v := 1) (by decide) dX5_kindOf_32 ?_
      refine tc_goto 37 dX5_kindOf_33 (by decide) ?_
      refine tc_lvs [] rfl ?_
      exact sb_X5_kindOf_37 hW r ur  1 u  h
  · rw [if_neg hc3] at h
    refine tc_iconst (v := 0) (by decide) dX5_kindOf_15 ?_
    cases h
    exact tc_ireturn rfl dX5_kindOf_16 rfl rfl ⟨rfl, rfl, rfl⟩
set_option maxRecDepth 100000 in
set_option maxHeartbeats 4000000 in
theorem sb_X5_tangled_34 {p : Program} {l : Launch} {e : Env} {s : State} {m : MethodId} {args : Array Value} {below : List Frame} {meth : Method} {c : Code} {z : Nat} {D : tc_D} {G : tc_G} (hW : tc_W G) (r : Int32) (ur : tc_S) (K4 : Nat → Int32 → Int32 → Int32 → tc_S → Option (Int32 × tc_S)) (hK4 : ∀ (v0 : Nat) (v1 : Int32) (v2 : Int32) (v3 : Int32) (u : tc_S), tc_is G v0 5 → K4 v0 v1 v2 v3 u = some (r, ur) → tc_R p l e { frames := 1, cells := 0, slots := 0, locals := 21 } s m args below meth c z D cX5_tangled RX5 4 (some .int) 0 0 (tc_po r G ur) 0 0 G u 4 [(0, .ref (z + v0)), (1, .int v1), (2, .int v2), (3, .int v3)] []) (v0 : Nat) (v1 : Int32) (v3 : Int32) (s0 : Int32) (s1 : Int32) (u : tc_S) (iv0 : tc_is G v0 5) (h : bl_X5_tangled_34 G K4 v0 v1 v3 s0 s1 u = some (r, ur)) : tc_R p l e { frames := 1, cells := 0, slots := 0, locals := 21 } s m args below meth c z D cX5_tangled RX5 4 (some .int) 0 0 (tc_po r G ur) 0 0 G u 34 [(0, .ref (z + v0)), (1, .int v1), (3, .int v3)] [.int s1, .int s0] := by
  unfold bl_X5_tangled_34 at h
  refine tc_iadd dX5_tangled_34 ?_
  obtain ⟨x1, ex1, h⟩ := tc_let_ex h
  refine tc_nm ex1 ?_
  refine tc_istore_n [(2, .int x1), (0, .ref (z + v0)), (1, .int v1), (3, .int v3)] dX5_tangled_35 (by decide) rfl ?_
  obtain ⟨x2, ex2, h⟩ := tc_let_ex h
  refine tc_iinc 3 (v := x2) [(3, .int x2), (2, .int x1), (0, .ref (z + v0)), (1, .int v1)] dX5_tangled_36 rfl (by rw [ex2]; rfl) (by decide) rfl ?_
  refine tc_goto 4 dX5_tangled_39 (by decide) ?_
  refine tc_lvs [2, 3, 1, 0] rfl ?_
  exact hK4 v0 v1 x1 x2 u iv0 h
set_option maxRecDepth 100000 in
set_option maxHeartbeats 4000000 in
theorem sb_X5_tangled_33 {p : Program} {l : Launch} {e : Env} {s : State} {m : MethodId} {args : Array Value} {below : List Frame} {meth : Method} {c : Code} {z : Nat} {D : tc_D} {G : tc_G} (hW : tc_W G) (r : Int32) (ur : tc_S) (K4 : Nat → Int32 → Int32 → Int32 → tc_S → Option (Int32 × tc_S)) (hK4 : ∀ (v0 : Nat) (v1 : Int32) (v2 : Int32) (v3 : Int32) (u : tc_S), tc_is G v0 5 → K4 v0 v1 v2 v3 u = some (r, ur) → tc_R p l e { frames := 1, cells := 0, slots := 0, locals := 21 } s m args below meth c z D cX5_tangled RX5 4 (some .int) 0 0 (tc_po r G ur) 0 0 G u 4 [(0, .ref (z + v0)), (1, .int v1), (2, .int v2), (3, .int v3)] []) (v0 : Nat) (v1 : Int32) (v3 : Int32) (s0 : Int32) (u : tc_S) (iv0 : tc_is G v0 5) (h : bl_X5_tangled_33 G K4 v0 v1 v3 s0 u = some (r, ur)) : tc_R p l e { frames := 1, cells := 0, slots := 0, locals := 21 } s m args below meth c z D cX5_tangled RX5 4 (some .int) 0 0 (tc_po r G ur) 0 0 G u 33 [(0, .ref (z + v0)), (1, .int v1), (3, .int v3)] [.int s0] := by
  unfold bl_X5_tangled_33 at h
  refine tc_iconst (v := 0) (by decide) dX5_tangled_33 ?_
  exact sb_X5_tangled_34 hW r ur K4 hK4 v0 v1 v3 s0 0 u iv0 h
set_option maxRecDepth 100000 in
set_option maxHeartbeats 4000000 in
theorem sl_X5_tangled_4 {p : Program} {l : Launch} {e : Env} {s : State} {m : MethodId} {args : Array Value} {below : List Frame} {meth : Method} {c : Code} {z : Nat} {D : tc_D} {G : tc_G} (hW : tc_W G) (r : Int32) (ur : tc_S) : ∀ (n : Nat) (v0 : Nat) (v1 : Int32) (v2 : Int32) (v3 : Int32) (u : tc_S) (iv0 : tc_is G v0 5) (h : lo_X5_tangled_4 G n v0 v1 v2 v3 u = some (r, ur)), tc_R p l e { frames := 1, cells := 0, slots := 0, locals := 21 } s m args below meth c z D cX5_tangled RX5 4 (some .int) 0 0 (tc_po r G ur) 0 0 G u 4 [(0, .ref (z + v0)), (1, .int v1), (2, .int v2), (3, .int v3)] [] := by
  intro n
  induction n with
  | zero => intro v0 v1 v2 v3 u iv0 h; cases h
  | succ n ih =>
    intro v0 v1 v2 v3 u iv0 h
    rw [lo_X5_tangled_4] at h
    refine tc_iload_n 3 rfl dX5_tangled_4 ?_
    refine tc_iload_n 1 rfl dX5_tangled_5 ?_
    refine tc_icmp_ge 42 dX5_tangled_6 (by decide) (fun hc3 => ?_) (fun hc3 => ?_)
    · rw [if_pos hc3] at h
      refine tc_iload_n 2 rfl dX5_tangled_42 ?_
      cases h
      exact tc_ireturn rfl dX5_tangled_43 rfl rfl ⟨rfl, rfl, rfl⟩
    · rw [if_neg hc3] at h
      refine tc_iload_n 2 rfl dX5_tangled_9 ?_
      refine tc_aload_n 0 rfl dX5_tangled_10 ?_
      refine tc_getp hW iv0 fl_X5_9 dX5_tangled_11 rfl ?_
      refine tc_iload_n 3 rfl dX5_tangled_14 ?_
      obtain ⟨bx4, x4, ex4, h⟩ := tc_ld_ex h
      refine tc_iald (hW.p iv0 0 rfl) bx4 dX5_tangled_15 ?_
      refine tc_nm ex4 ?_
      refine tc_iload_n 3 rfl dX5_tangled_16 ?_
      refine tc_icmp_ne 33 dX5_tangled_17 (by decide) (fun hc5 => ?_) (fun hc5 => ?_)
      · rw [if_neg hc5] at h
        refine tc_lvs [0, 1, 3] rfl ?_
        exact sb_X5_tangled_33 hW r ur _ ih v0 v1 v3 v2 u iv0 h
      · rw [if_pos hc5] at h
        refine tc_aload_n 0 rfl dX5_tangled_20 ?_
        refine tc_iload_n 3 rfl dX5_tangled_21 ?_
        obtain ⟨x6, u7, hq8, h⟩ := tc_b_ex h
        refine tc_callVi [.int v3] dX5_tangled_22 iv0 (ct_X5_kindOf hW iv0 hq8) ml_X5_52 mw_X5_kindOf mv_X5_kindOf ⟨Nat.le_of_ble_eq_true rfl, Nat.le_of_ble_eq_true rfl⟩ rfl rfl (Nat.le_of_ble_eq_true rfl) ⟨Nat.le_refl _, Nat.le_refl _⟩ (by decide) ?_
        refine tc_iconst (v := 2) (by decide) dX5_tangled_25 ?_
        refine tc_icmp_ne 33 dX5_tangled_26 (by decide) (fun hc9 => ?_) (fun hc9 => ?_)
        · rw [if_neg hc9] at h
          refine tc_lvs [0, 1, 3] rfl ?_
          exact sb_X5_tangled_33 hW r ur _ ih v0 v1 v3 v2 u7 iv0 h
        · rw [if_pos hc9] at h
          refine tc_iconst (v := 1) (by decide) dX5_tangled_29 ?_
          refine tc_goto 34 dX5_tangled_30 (by decide) ?_
          refine tc_lvs [0, 1, 3] rfl ?_
          exact sb_X5_tangled_34 hW r ur _ ih v0 v1 v3 v2 1 u7 iv0 h
set_option maxRecDepth 100000 in
set_option maxHeartbeats 4000000 in
theorem ct_X5_tangled {l : Launch} {z : Nat} {D : tc_D} {G : tc_G} (hW : tc_W G) {v0 : Nat} {v1 : Int32} {u : tc_S} {r : Int32} {ur : tc_S} (iv0 : tc_is G v0 5) (h : fn_X5_tangled G v0 v1 u = some (r, ur)) : tc_C l z D yX5_tangled cX5_tangled 4 (some .int) 1 21 0 0 [.ref (z + v0), .int v1] G u (tc_po r G ur) := by
  unfold fn_X5_tangled at h
  refine tc_C.of (by decide) (Nat.le_of_ble_eq_true rfl) fun p e s m args below meth c => ?_
  show tc_R p l e { frames := 1, cells := 0, slots := 0, locals := 21 } s m args below meth c z D cX5_tangled RX5 4 (some .int) 0 0 (tc_po r G ur) 0 0 G u 0 [(0, .ref (z + v0)), (1, .int v1)] []
  refine tc_iconst (v := 0) (by decide) dX5_tangled_0 ?_
  refine tc_istore_n [(2, .int 0), (0, .ref (z + v0)), (1, .int v1)] dX5_tangled_1 (by decide) rfl ?_
  refine tc_iconst (v := 0) (by decide) dX5_tangled_2 ?_
  refine tc_istore_n [(3, .int 0), (2, .int 0), (0, .ref (z + v0)), (1, .int v1)] dX5_tangled_3 (by decide) rfl ?_
  refine tc_lvs [2, 3, 1, 0] rfl ?_
  exact sl_X5_tangled_4 hW r ur  _ v0 v1 0 0 u iv0 h
set_option maxRecDepth 100000 in
set_option maxHeartbeats 4000000 in
theorem sb_X6_isDigit_17 {p : Program} {l : Launch} {e : Env} {s : State} {m : MethodId} {args : Array Value} {below : List Frame} {meth : Method} {c : Code} {z : Nat} {D : tc_D} {G : tc_G} (hW : tc_W G) (r : Int32) (ur : tc_S) (s0 : Int32) (u : tc_S) (h : bl_X6_isDigit_17 G s0 u = some (r, ur)) : tc_R p l e { frames := 0, cells := 0, slots := 0, locals := 0 } s m args below meth c z D cX6_isDigit RX6 1 (some .boolean) 0 0 (tc_po r G ur) 0 0 G u 17 [] [.int s0] := by
  unfold bl_X6_isDigit_17 at h
  obtain ⟨hz1, h⟩ := tc_zo_ex h
  cases h
  exact tc_zreturn hz1 rfl dX6_isDigit_17 rfl rfl ⟨rfl, rfl, rfl⟩
set_option maxRecDepth 100000 in
set_option maxHeartbeats 4000000 in
theorem sb_X6_isDigit_16 {p : Program} {l : Launch} {e : Env} {s : State} {m : MethodId} {args : Array Value} {below : List Frame} {meth : Method} {c : Code} {z : Nat} {D : tc_D} {G : tc_G} (hW : tc_W G) (r : Int32) (ur : tc_S) (u : tc_S) (h : bl_X6_isDigit_16 G  u = some (r, ur)) : tc_R p l e { frames := 0, cells := 0, slots := 0, locals := 0 } s m args below meth c z D cX6_isDigit RX6 1 (some .boolean) 0 0 (tc_po r G ur) 0 0 G u 16 [] [] := by
  unfold bl_X6_isDigit_16 at h
  refine tc_iconst (v := 0) (by decide) dX6_isDigit_16 ?_
  exact sb_X6_isDigit_17 hW r ur  0 u  h
set_option maxRecDepth 100000 in
set_option maxHeartbeats 4000000 in
theorem ct_X6_isDigit {l : Launch} {z : Nat} {D : tc_D} {G : tc_G} (hW : tc_W G) {v0 : Int32} {u : tc_S} {r : Int32} {ur : tc_S} (h : fn_X6_isDigit G v0 u = some (r, ur)) : tc_C l z D yX6_isDigit cX6_isDigit 1 (some .boolean) 0 0 0 0 [.int v0] G u (tc_po r G ur) := by
  unfold fn_X6_isDigit at h
  refine tc_C.of (by decide) (Nat.le_of_ble_eq_true rfl) fun p e s m args below meth c => ?_
  show tc_R p l e { frames := 0, cells := 0, slots := 0, locals := 0 } s m args below meth c z D cX6_isDigit RX6 1 (some .boolean) 0 0 (tc_po r G ur) 0 0 G u 0 [(0, .int v0)] []
  refine tc_iload_n 0 rfl dX6_isDigit_0 ?_
  refine tc_bipush (v := 48) (by decide) dX6_isDigit_1 ?_
  refine tc_icmp_lt 16 dX6_isDigit_3 (by decide) (fun hc2 => ?_) (fun hc2 => ?_)
  · rw [if_pos hc2] at h
    refine tc_lvs [] rfl ?_
    exact sb_X6_isDigit_16 hW r ur   u  h
  · rw [if_neg hc2] at h
    refine tc_iload_n 0 rfl dX6_isDigit_6 ?_
    refine tc_bipush (v := 57) (by decide) dX6_isDigit_7 ?_
    refine tc_icmp_gt 16 dX6_isDigit_9 (by decide) (fun hc3 => ?_) (fun hc3 => ?_)
    · rw [if_pos hc3] at h
      refine tc_lvs [] rfl ?_
      exact sb_X6_isDigit_16 hW r ur   u  h
    · rw [if_neg hc3] at h
      refine tc_iconst (v := 1) (by decide) dX6_isDigit_12 ?_
      refine tc_goto 17 dX6_isDigit_13 (by decide) ?_
      refine tc_lvs [] rfl ?_
      exact sb_X6_isDigit_17 hW r ur  1 u  h
set_option maxRecDepth 100000 in
set_option maxHeartbeats 4000000 in
theorem sb_X6_stepOverDigits_100 {p : Program} {l : Launch} {e : Env} {s : State} {m : MethodId} {args : Array Value} {below : List Frame} {meth : Method} {c : Code} {z : Nat} {D : tc_D} {G : tc_G} (hW : tc_W G) (r : Int32) (ur : tc_S) (s0 : Nat) (s1 : Int32) (u : tc_S) (is0 : tc_is G s0 6) (h : bl_X6_stepOverDigits_100 G s0 s1 u = some (r, ur)) : tc_R p l e { frames := 1, cells := 0, slots := 0, locals := 20 } s m args below meth c z D cX6_stepOverDigits RX6 2 none 0 0 (tc_pv G ur) 0 0 G u 100 [] [.int s1, .ref (z + s0)] := by
  unfold bl_X6_stepOverDigits_100 at h
  obtain ⟨u1, eu1, h⟩ := tc_let_ex h
  refine tc_puti is0 fl_X6_60 dX6_stepOverDigits_100 ?_
  refine tc_nmu eu1 ?_
  cases h
  exact tc_return rfl dX6_stepOverDigits_103 rfl rfl ⟨rfl, rfl, rfl⟩
set_option maxRecDepth 100000 in
set_option maxHeartbeats 4000000 in
theorem sb_X6_stepOverDigits_76 {p : Program} {l : Launch} {e : Env} {s : State} {m : MethodId} {args : Array Value} {below : List Frame} {meth : Method} {c : Code} {z : Nat} {D : tc_D} {G : tc_G} (hW : tc_W G) (r : Int32) (ur : tc_S) (v0 : Nat) (v1 : Int32) (u : tc_S) (iv0 : tc_is G v0 6) (h : bl_X6_stepOverDigits_76 G v0 v1 u = some (r, ur)) : tc_R p l e { frames := 1, cells := 0, slots := 0, locals := 20 } s m args below meth c z D cX6_stepOverDigits RX6 2 none 0 0 (tc_pv G ur) 0 0 G u 76 [(0, .ref (z + v0)), (1, .int v1)] [] := by
  unfold bl_X6_stepOverDigits_76 at h
  refine tc_aload_n 0 rfl dX6_stepOverDigits_76 ?_
  refine tc_iload_n 1 rfl dX6_stepOverDigits_77 ?_
  obtain ⟨u2, eu2, h⟩ := tc_let_ex h
  refine tc_puti iv0 fl_X6_170 dX6_stepOverDigits_78 ?_
  refine tc_nmu eu2 ?_
  refine tc_aload_n 0 rfl dX6_stepOverDigits_81 ?_
  refine tc_aload_n 0 rfl dX6_stepOverDigits_82 ?_
  refine tc_geti iv0 fl_X6_54 dX6_stepOverDigits_83 ?_
  refine tc_aload_n 0 rfl dX6_stepOverDigits_86 ?_
  refine tc_geti iv0 fl_X6_163 dX6_stepOverDigits_87 ?_
  refine tc_isub dX6_stepOverDigits_90 ?_
  refine tc_iconst (v := 4) (by decide) dX6_stepOverDigits_91 ?_
  refine tc_icmp_gt 99 dX6_stepOverDigits_92 (by decide) (fun hc3 => ?_) (fun hc3 => ?_)
  · rw [if_pos hc3] at h
    refine tc_iconst (v := 4) (by decide) dX6_stepOverDigits_99 ?_
    refine tc_lvs [] rfl ?_
    exact sb_X6_stepOverDigits_100 hW r ur  v0 4 u2 iv0 h
  · rw [if_neg hc3] at h
    refine tc_iconst (v := 2) (by decide) dX6_stepOverDigits_95 ?_
    refine tc_goto 100 dX6_stepOverDigits_96 (by decide) ?_
    refine tc_lvs [] rfl ?_
    exact sb_X6_stepOverDigits_100 hW r ur  v0 2 u2 iv0 h
set_option maxRecDepth 100000 in
set_option maxHeartbeats 4000000 in
theorem sb_X6_stepOverDigits_62 {p : Program} {l : Launch} {e : Env} {s : State} {m : MethodId} {args : Array Value} {below : List Frame} {meth : Method} {c : Code} {z : Nat} {D : tc_D} {G : tc_G} (hW : tc_W G) (r : Int32) (ur : tc_S) (K2 : Nat → Int32 → tc_S → Option (Int32 × tc_S)) (hK2 : ∀ (v0 : Nat) (v1 : Int32) (u : tc_S), tc_is G v0 6 → K2 v0 v1 u = some (r, ur) → tc_R p l e { frames := 1, cells := 0, slots := 0, locals := 20 } s m args below meth c z D cX6_stepOverDigits RX6 2 none 0 0 (tc_pv G ur) 0 0 G u 2 [(0, .ref (z + v0)), (1, .int v1)] []) (v0 : Nat) (s0 : Int32) (u : tc_S) (iv0 : tc_is G v0 6) (h : bl_X6_stepOverDigits_62 G K2 v0 s0 u = some (r, ur)) : tc_R p l e { frames := 1, cells := 0, slots := 0, locals := 20 } s m args below meth c z D cX6_stepOverDigits RX6 2 none 0 0 (tc_pv G ur) 0 0 G u 62 [(0, .ref (z + v0))] [.int s0] := by
  unfold bl_X6_stepOverDigits_62 at h
  refine tc_istore_n [(1, .int s0), (0, .ref (z + v0))] dX6_stepOverDigits_62 (by decide) rfl ?_
  refine tc_aload_n 1 rfl dX6_stepOverDigits_63 ?_
  refine tc_dup rfl dX6_stepOverDigits_64 ?_
  refine tc_geti iv0 fl_X6_54 dX6_stepOverDigits_65 ?_
  refine tc_iconst (v := 1) (by decide) dX6_stepOverDigits_68 ?_
  refine tc_iadd dX6_stepOverDigits_69 ?_
  obtain ⟨u4, eu4, h⟩ := tc_let_ex h
  refine tc_puti iv0 fl_X6_54 dX6_stepOverDigits_70 ?_
  refine tc_nmu eu4 ?_
  refine tc_goto 2 dX6_stepOverDigits_73 (by decide) ?_
  refine tc_lvs [1, 0] rfl ?_
  exact hK2 v0 s0 u4 iv0 h
set_option maxRecDepth 100000 in
set_option maxHeartbeats 4000000 in
theorem sl_X6_stepOverDigits_2 {p : Program} {l : Launch} {e : Env} {s : State} {m : MethodId} {args : Array Value} {below : List Frame} {meth : Method} {c : Code} {z : Nat} {D : tc_D} {G : tc_G} (hW : tc_W G) (r : Int32) (ur : tc_S) : ∀ (n : Nat) (v0 : Nat) (v1 : Int32) (u : tc_S) (iv0 : tc_is G v0 6) (h : lo_X6_stepOverDigits_2 G n v0 v1 u = some (r, ur)), tc_R p l e { frames := 1, cells := 0, slots := 0, locals := 20 } s m args below meth c z D cX6_stepOverDigits RX6 2 none 0 0 (tc_pv G ur) 0 0 G u 2 [(0, .ref (z + v0)), (1, .int v1)] [] := by
  intro n
  induction n with
  | zero => intro v0 v1 u iv0 h; cases h
  | succ n ih =>
    intro v0 v1 u iv0 h
    rw [lo_X6_stepOverDigits_2] at h
    refine tc_aload_n 0 rfl dX6_stepOverDigits_2 ?_
    refine tc_geti iv0 fl_X6_54 dX6_stepOverDigits_3 ?_
    refine tc_aload_n 0 rfl dX6_stepOverDigits_6 ?_
    refine tc_geti iv0 fl_X6_38 dX6_stepOverDigits_7 ?_
    refine tc_icmp_ge 76 dX6_stepOverDigits_10 (by decide) (fun hc5 => ?_) (fun hc5 => ?_)
    · rw [if_pos hc5] at h
      exact sb_X6_stepOverDigits_76 hW r ur  v0 v1 u iv0 h
    · rw [if_neg hc5] at h
      refine tc_aload_n 0 rfl dX6_stepOverDigits_13 ?_
      refine tc_getp hW iv0 fl_X6_28 dX6_stepOverDigits_14 rfl ?_
      refine tc_aload_n 0 rfl dX6_stepOverDigits_17 ?_
      refine tc_geti iv0 fl_X6_54 dX6_stepOverDigits_18 ?_
      obtain ⟨bx6, x6, ex6, h⟩ := tc_ld_ex h
      refine tc_bald (hW.p iv0 7 rfl) bx6 dX6_stepOverDigits_21 ?_
      refine tc_nm ex6 ?_
      obtain ⟨x7, u8, hq9, h⟩ := tc_b_ex h
      refine tc_callSi [.int x6] dX6_stepOverDigits_22 (ct_X6_isDigit hW hq9) ml_X6_173 mw_X6_isDigit ms_X6_isDigit ⟨Nat.le_of_ble_eq_true rfl, Nat.le_of_ble_eq_true rfl⟩ rfl rfl (Nat.le_of_ble_eq_true rfl) ⟨Nat.le_refl _, Nat.le_refl _⟩ ?_
      refine tc_if_eq 76 dX6_stepOverDigits_25 (by decide) (fun hc10 => ?_) (fun hc10 => ?_)
      · rw [if_pos hc10] at h
        exact sb_X6_stepOverDigits_76 hW r ur  v0 v1 u8 iv0 h
      · rw [if_neg hc10] at h
        refine tc_aload_n 0 rfl dX6_stepOverDigits_28 ?_
        refine tc_geti iv0 fl_X6_54 dX6_stepOverDigits_29 ?_
        refine tc_aload_n 0 rfl dX6_stepOverDigits_32 ?_
        refine tc_geti iv0 fl_X6_163 dX6_stepOverDigits_33 ?_
        refine tc_isub dX6_stepOverDigits_36 ?_
        refine tc_iconst (v := 4) (by decide) dX6_stepOverDigits_37 ?_
        refine tc_icmp_ge 61 dX6_stepOverDigits_38 (by decide) (fun hc11 => ?_) (fun hc11 => ?_)
        · rw [if_pos hc11] at h
          refine tc_iload_n 1 rfl dX6_stepOverDigits_61 ?_
          refine tc_lvs [0] rfl ?_
          exact sb_X6_stepOverDigits_62 hW r ur _ ih v0 v1 u8 iv0 h
        · rw [if_neg hc11] at h
          refine tc_bipush (v := 10) (by decide) dX6_stepOverDigits_41 ?_
          refine tc_iload_n 1 rfl dX6_stepOverDigits_43 ?_
          refine tc_imul dX6_stepOverDigits_44 ?_
          refine tc_aload_n 0 rfl dX6_stepOverDigits_45 ?_
          refine tc_getp hW iv0 fl_X6_28 dX6_stepOverDigits_46 rfl ?_
          refine tc_aload_n 0 rfl dX6_stepOverDigits_49 ?_
          refine tc_geti iv0 fl_X6_54 dX6_stepOverDigits_50 ?_
          obtain ⟨bx12, x12, ex12, h⟩ := tc_ld_ex h
          refine tc_bald (hW.p iv0 7 rfl) bx12 dX6_stepOverDigits_53 ?_
          refine tc_nm ex12 ?_
          refine tc_iadd dX6_stepOverDigits_54 ?_
          refine tc_bipush (v := 48) (by decide) dX6_stepOverDigits_55 ?_
          refine tc_isub dX6_stepOverDigits_57 ?_
          refine tc_goto 62 dX6_stepOverDigits_58 (by decide) ?_
          refine tc_lvs [0] rfl ?_
          exact sb_X6_stepOverDigits_62 hW r ur _ ih v0 (((10 * v1) + x12) - 48) u8 iv0 h
set_option maxRecDepth 100000 in
set_option maxHeartbeats 4000000 in
theorem ct_X6_stepOverDigits {l : Launch} {z : Nat} {D : tc_D} {G : tc_G} (hW : tc_W G) {v0 : Nat} {u : tc_S} {r : Int32} {ur : tc_S} (iv0 : tc_is G v0 6) (h : fn_X6_stepOverDigits G v0 u = some (r, ur)) : tc_C l z D yX6_stepOverDigits cX6_stepOverDigits 2 none 1 20 0 0 [.ref (z + v0)] G u (tc_pv G ur) := by
  unfold fn_X6_stepOverDigits at h
  refine tc_C.of (by decide) (Nat.le_of_ble_eq_true rfl) fun p e s m args below meth c => ?_
  show tc_R p l e { frames := 1, cells := 0, slots := 0, locals := 20 } s m args below meth c z D cX6_stepOverDigits RX6 2 none 0 0 (tc_pv G ur) 0 0 G u 0 [(0, .ref (z + v0))] []
  refine tc_iconst (v := 0) (by decide) dX6_stepOverDigits_0 ?_
  refine tc_istore_n [(1, .int 0), (0, .ref (z + v0))] dX6_stepOverDigits_1 (by decide) rfl ?_
  refine tc_lvs [1, 0] rfl ?_
  exact sl_X6_stepOverDigits_2 hW r ur  _ v0 0 u iv0 h
set_option maxRecDepth 100000 in
set_option maxHeartbeats 4000000 in
theorem sb_X6_step_205 {p : Program} {l : Launch} {e : Env} {s : State} {m : MethodId} {args : Array Value} {below : List Frame} {meth : Method} {c : Code} {z : Nat} {D : tc_D} {G : tc_G} (hW : tc_W G) (r : Int32) (ur : tc_S) (u : tc_S) (h : bl_X6_step_205 G  u = some (r, ur)) : tc_R p l e { frames := 2, cells := 0, slots := 0, locals := 41 } s m args below meth c z D cX6_step RX6 1 none 0 0 (tc_pv G ur) 0 0 G u 205 [] [] := by
  unfold bl_X6_step_205 at h
  cases h
  exact tc_return rfl dX6_step_205 rfl rfl ⟨rfl, rfl, rfl⟩
set_option maxRecDepth 100000 in
set_option maxHeartbeats 4000000 in
theorem sb_X6_step_202 {p : Program} {l : Launch} {e : Env} {s : State} {m : MethodId} {args : Array Value} {below : List Frame} {meth : Method} {c : Code} {z : Nat} {D : tc_D} {G : tc_G} (hW : tc_W G) (r : Int32) (ur : tc_S) (s0 : Nat) (s1 : Int32) (u : tc_S) (is0 : tc_is G s0 6) (h : bl_X6_step_202 G s0 s1 u = some (r, ur)) : tc_R p l e { frames := 2, cells := 0, slots := 0, locals := 41 } s m args below meth c z D cX6_step RX6 1 none 0 0 (tc_pv G ur) 0 0 G u 202 [] [.int s1, .ref (z + s0)] := by
  unfold bl_X6_step_202 at h
  obtain ⟨u1, eu1, h⟩ := tc_let_ex h
  refine tc_puti is0 fl_X6_60 dX6_step_202 ?_
  refine tc_nmu eu1 ?_
  exact sb_X6_step_205 hW r ur   u1  h
set_option maxRecDepth 100000 in
set_option maxHeartbeats 4000000 in
theorem sb_X6_step_185 {p : Program} {l : Launch} {e : Env} {s : State} {m : MethodId} {args : Array Value} {below : List Frame} {meth : Method} {c : Code} {z : Nat} {D : tc_D} {G : tc_G} (hW : tc_W G) (r : Int32) (ur : tc_S) (v0 : Nat) (u : tc_S) (iv0 : tc_is G v0 6) (h : bl_X6_step_185 G v0 u = some (r, ur)) : tc_R p l e { frames := 2, cells := 0, slots := 0, locals := 41 } s m args below meth c z D cX6_step RX6 1 none 0 0 (tc_pv G ur) 0 0 G u 185 [(0, .ref (z + v0))] [] := by
  unfold bl_X6_step_185 at h
  refine tc_aload_n 0 rfl dX6_step_185 ?_
  refine tc_aload_n 0 rfl dX6_step_186 ?_
  refine tc_geti iv0 fl_X6_54 dX6_step_187 ?_
  refine tc_aload_n 0 rfl dX6_step_190 ?_
  refine tc_geti iv0 fl_X6_163 dX6_step_191 ?_
  refine tc_icmp_le 201 dX6_step_194 (by decide) (fun hc2 => ?_) (fun hc2 => ?_)
  · rw [if_pos hc2] at h
    refine tc_iconst (v := 4) (by decide) dX6_step_201 ?_
    refine tc_lvs [] rfl ?_
    exact sb_X6_step_202 hW r ur  v0 4 u iv0 h
  · rw [if_neg hc2] at h
    refine tc_iconst (v := 1) (by decide) dX6_step_197 ?_
    refine tc_goto 202 dX6_step_198 (by decide) ?_
    refine tc_lvs [] rfl ?_
    exact sb_X6_step_202 hW r ur  v0 1 u iv0 h
set_option maxRecDepth 100000 in
set_option maxHeartbeats 4000000 in
theorem sl_X6_step_133 {p : Program} {l : Launch} {e : Env} {s : State} {m : MethodId} {args : Array Value} {below : List Frame} {meth : Method} {c : Code} {z : Nat} {D : tc_D} {G : tc_G} (hW : tc_W G) (r : Int32) (ur : tc_S) : ∀ (n : Nat) (v0 : Nat) (u : tc_S) (iv0 : tc_is G v0 6) (h : lo_X6_step_133 G n v0 u = some (r, ur)), tc_R p l e { frames := 2, cells := 0, slots := 0, locals := 41 } s m args below meth c z D cX6_step RX6 1 none 0 0 (tc_pv G ur) 0 0 G u 133 [(0, .ref (z + v0))] [] := by
  intro n
  induction n with
  | zero => intro v0 u iv0 h; cases h
  | succ n ih =>
    intro v0 u iv0 h
    rw [lo_X6_step_133] at h
    refine tc_aload_n 0 rfl dX6_step_133 ?_
    refine tc_geti iv0 fl_X6_54 dX6_step_134 ?_
    refine tc_aload_n 0 rfl dX6_step_137 ?_
    refine tc_geti iv0 fl_X6_38 dX6_step_138 ?_
    refine tc_icmp_ge 185 dX6_step_141 (by decide) (fun hc3 => ?_) (fun hc3 => ?_)
    · rw [if_pos hc3] at h
      exact sb_X6_step_185 hW r ur  v0 u iv0 h
    · rw [if_neg hc3] at h
      refine tc_aload_n 0 rfl dX6_step_144 ?_
      refine tc_getp hW iv0 fl_X6_28 dX6_step_145 rfl ?_
      refine tc_aload_n 0 rfl dX6_step_148 ?_
      refine tc_geti iv0 fl_X6_54 dX6_step_149 ?_
      obtain ⟨bx4, x4, ex4, h⟩ := tc_ld_ex h
      refine tc_bald (hW.p iv0 7 rfl) bx4 dX6_step_152 ?_
      refine tc_nm ex4 ?_
      refine tc_bipush (v := 97) (by decide) dX6_step_153 ?_
      refine tc_icmp_lt 185 dX6_step_155 (by decide) (fun hc5 => ?_) (fun hc5 => ?_)
      · rw [if_pos hc5] at h
        exact sb_X6_step_185 hW r ur  v0 u iv0 h
      · rw [if_neg hc5] at h
        refine tc_aload_n 0 rfl dX6_step_158 ?_
        refine tc_getp hW iv0 fl_X6_28 dX6_step_159 rfl ?_
        refine tc_aload_n 0 rfl dX6_step_162 ?_
        refine tc_geti iv0 fl_X6_54 dX6_step_163 ?_
        obtain ⟨bx6, x6, ex6, h⟩ := tc_ld_ex h
        refine tc_bald (hW.p iv0 7 rfl) bx6 dX6_step_166 ?_
        refine tc_nm ex6 ?_
        refine tc_bipush (v := 122) (by decide) dX6_step_167 ?_
        refine tc_icmp_gt 185 dX6_step_169 (by decide) (fun hc7 => ?_) (fun hc7 => ?_)
        · rw [if_pos hc7] at h
          exact sb_X6_step_185 hW r ur  v0 u iv0 h
        · rw [if_neg hc7] at h
          refine tc_aload_n 0 rfl dX6_step_172 ?_
          refine tc_dup rfl dX6_step_173 ?_
          refine tc_geti iv0 fl_X6_54 dX6_step_174 ?_
          refine tc_iconst (v := 1) (by decide) dX6_step_177 ?_
          refine tc_iadd dX6_step_178 ?_
          obtain ⟨u8, eu8, h⟩ := tc_let_ex h
          refine tc_puti iv0 fl_X6_54 dX6_step_179 ?_
          refine tc_nmu eu8 ?_
          refine tc_goto 133 dX6_step_182 (by decide) ?_
          exact ih v0 u8 iv0 h
set_option maxRecDepth 100000 in
set_option maxHeartbeats 4000000 in
theorem sb_X6_step_52 {p : Program} {l : Launch} {e : Env} {s : State} {m : MethodId} {args : Array Value} {below : List Frame} {meth : Method} {c : Code} {z : Nat} {D : tc_D} {G : tc_G} (hW : tc_W G) (r : Int32) (ur : tc_S) (v0 : Nat) (u : tc_S) (iv0 : tc_is G v0 6) (h : bl_X6_step_52 G v0 u = some (r, ur)) : tc_R p l e { frames := 2, cells := 0, slots := 0, locals := 41 } s m args below meth c z D cX6_step RX6 1 none 0 0 (tc_pv G ur) 0 0 G u 52 [(0, .ref (z + v0))] [] := by
  unfold bl_X6_step_52 at h
  refine tc_aload_n 0 rfl dX6_step_52 ?_
  refine tc_aload_n 0 rfl dX6_step_53 ?_
  refine tc_geti iv0 fl_X6_54 dX6_step_54 ?_
  obtain ⟨u9, eu9, h⟩ := tc_let_ex h
  refine tc_puti iv0 fl_X6_163 dX6_step_57 ?_
  refine tc_nmu eu9 ?_
  refine tc_aload_n 0 rfl dX6_step_60 ?_
  refine tc_geti iv0 fl_X6_54 dX6_step_61 ?_
  refine tc_aload_n 0 rfl dX6_step_64 ?_
  refine tc_geti iv0 fl_X6_38 dX6_step_65 ?_
  refine tc_icmp_lt 79 dX6_step_68 (by decide) (fun hc10 => ?_) (fun hc10 => ?_)
  · rw [if_pos hc10] at h
    refine tc_aload_n 0 rfl dX6_step_79 ?_
    refine tc_getp hW iv0 fl_X6_28 dX6_step_80 rfl ?_
    refine tc_aload_n 0 rfl dX6_step_83 ?_
    refine tc_geti iv0 fl_X6_54 dX6_step_84 ?_
    obtain ⟨bx11, x11, ex11, h⟩ := tc_ld_ex h
    refine tc_bald (hW.p iv0 7 rfl) bx11 dX6_step_87 ?_
    refine tc_nm ex11 ?_
    refine tc_bipush (v := 59) (by decide) dX6_step_88 ?_
    refine tc_icmp_ne 111 dX6_step_90 (by decide) (fun hc12 => ?_) (fun hc12 => ?_)
    · rw [if_neg hc12] at h
      refine tc_aload_n 0 rfl dX6_step_111 ?_
      refine tc_getp hW iv0 fl_X6_28 dX6_step_112 rfl ?_
      refine tc_aload_n 0 rfl dX6_step_115 ?_
      refine tc_geti iv0 fl_X6_54 dX6_step_116 ?_
      obtain ⟨bx13, x13, ex13, h⟩ := tc_ld_ex h
      refine tc_bald (hW.p iv0 7 rfl) bx13 dX6_step_119 ?_
      refine tc_nm ex13 ?_
      obtain ⟨x14, u15, hq16, h⟩ := tc_b_ex h
      refine tc_callSi [.int x13] dX6_step_120 (ct_X6_isDigit hW hq16) ml_X6_173 mw_X6_isDigit ms_X6_isDigit ⟨Nat.le_of_ble_eq_true rfl, Nat.le_of_ble_eq_true rfl⟩ rfl rfl (Nat.le_of_ble_eq_true rfl) ⟨Nat.le_refl _, Nat.le_refl _⟩ ?_
      refine tc_if_eq 133 dX6_step_123 (by decide) (fun hc17 => ?_) (fun hc17 => ?_)
      · rw [if_pos hc17] at h
        exact sl_X6_step_133 hW r ur  _ v0 u15 iv0 h
      · rw [if_neg hc17] at h
        refine tc_aload_n 0 rfl dX6_step_126 ?_
        obtain ⟨x18, u19, hq20, h⟩ := tc_b_ex h
        refine tc_callVv [] dX6_step_127 iv0 (ct_X6_stepOverDigits hW iv0 hq20) ml_X6_176 mw_X6_stepOverDigits mv_X6_stepOverDigits ⟨Nat.le_of_ble_eq_true rfl, Nat.le_of_ble_eq_true rfl⟩ rfl rfl (Nat.le_of_ble_eq_true rfl) ⟨Nat.le_refl _, Nat.le_refl _⟩ (by decide) ?_
        refine tc_goto 205 dX6_step_130 (by decide) ?_
        refine tc_lvs [] rfl ?_
        exact sb_X6_step_205 hW r ur   u19  h
    · rw [if_pos hc12] at h
      refine tc_aload_n 0 rfl dX6_step_93 ?_
      refine tc_iconst (v := 3) (by decide) dX6_step_94 ?_
      obtain ⟨u21, eu21, h⟩ := tc_let_ex h
      refine tc_puti iv0 fl_X6_60 dX6_step_95 ?_
      refine tc_nmu eu21 ?_
      refine tc_aload_n 0 rfl dX6_step_98 ?_
      refine tc_dup rfl dX6_step_99 ?_
      refine tc_geti iv0 fl_X6_54 dX6_step_100 ?_
      refine tc_iconst (v := 1) (by decide) dX6_step_103 ?_
      refine tc_iadd dX6_step_104 ?_
      obtain ⟨u22, eu22, h⟩ := tc_let_ex h
      refine tc_puti iv0 fl_X6_54 dX6_step_105 ?_
      refine tc_nmu eu22 ?_
      refine tc_goto 205 dX6_step_108 (by decide) ?_
      refine tc_lvs [] rfl ?_
      exact sb_X6_step_205 hW r ur   u22  h
  · rw [if_neg hc10] at h
    refine tc_aload_n 0 rfl dX6_step_71 ?_
    refine tc_iconst (v := 0) (by decide) dX6_step_72 ?_
    obtain ⟨u23, eu23, h⟩ := tc_let_ex h
    refine tc_puti iv0 fl_X6_60 dX6_step_73 ?_
    refine tc_nmu eu23 ?_
    refine tc_goto 205 dX6_step_76 (by decide) ?_
    refine tc_lvs [] rfl ?_
    exact sb_X6_step_205 hW r ur   u23  h
set_option maxRecDepth 100000 in
set_option maxHeartbeats 4000000 in
theorem sb_X6_step_39 {p : Program} {l : Launch} {e : Env} {s : State} {m : MethodId} {args : Array Value} {below : List Frame} {meth : Method} {c : Code} {z : Nat} {D : tc_D} {G : tc_G} (hW : tc_W G) (r : Int32) (ur : tc_S) (K0 : Nat → tc_S → Option (Int32 × tc_S)) (hK0 : ∀ (v0 : Nat) (u : tc_S), tc_is G v0 6 → K0 v0 u = some (r, ur) → tc_R p l e { frames := 2, cells := 0, slots := 0, locals := 41 } s m args below meth c z D cX6_step RX6 1 none 0 0 (tc_pv G ur) 0 0 G u 0 [(0, .ref (z + v0))] []) (v0 : Nat) (u : tc_S) (iv0 : tc_is G v0 6) (h : bl_X6_step_39 G K0 v0 u = some (r, ur)) : tc_R p l e { frames := 2, cells := 0, slots := 0, locals := 41 } s m args below meth c z D cX6_step RX6 1 none 0 0 (tc_pv G ur) 0 0 G u 39 [(0, .ref (z + v0))] [] := by
  unfold bl_X6_step_39 at h
  refine tc_aload_n 0 rfl dX6_step_39 ?_
  refine tc_dup rfl dX6_step_40 ?_
  refine tc_geti iv0 fl_X6_54 dX6_step_41 ?_
  refine tc_iconst (v := 1) (by decide) dX6_step_44 ?_
  refine tc_iadd dX6_step_45 ?_
  obtain ⟨u24, eu24, h⟩ := tc_let_ex h
  refine tc_puti iv0 fl_X6_54 dX6_step_46 ?_
  refine tc_nmu eu24 ?_
  refine tc_goto 0 dX6_step_49 (by decide) ?_
  exact hK0 v0 u24 iv0 h
set_option maxRecDepth 100000 in
set_option maxHeartbeats 4000000 in
theorem sl_X6_step_0 {p : Program} {l : Launch} {e : Env} {s : State} {m : MethodId} {args : Array Value} {below : List Frame} {meth : Method} {c : Code} {z : Nat} {D : tc_D} {G : tc_G} (hW : tc_W G) (r : Int32) (ur : tc_S) : ∀ (n : Nat) (v0 : Nat) (u : tc_S) (iv0 : tc_is G v0 6) (h : lo_X6_step_0 G n v0 u = some (r, ur)), tc_R p l e { frames := 2, cells := 0, slots := 0, locals := 41 } s m args below meth c z D cX6_step RX6 1 none 0 0 (tc_pv G ur) 0 0 G u 0 [(0, .ref (z + v0))] [] := by
  intro n
  induction n with
  | zero => intro v0 u iv0 h; cases h
  | succ n ih =>
    intro v0 u iv0 h
    rw [lo_X6_step_0] at h
    refine tc_aload_n 0 rfl dX6_step_0 ?_
    refine tc_geti iv0 fl_X6_54 dX6_step_1 ?_
    refine tc_aload_n 0 rfl dX6_step_4 ?_
    refine tc_geti iv0 fl_X6_38 dX6_step_5 ?_
    refine tc_icmp_ge 52 dX6_step_8 (by decide) (fun hc25 => ?_) (fun hc25 => ?_)
    · rw [if_pos hc25] at h
      exact sb_X6_step_52 hW r ur  v0 u iv0 h
    · rw [if_neg hc25] at h
      refine tc_aload_n 0 rfl dX6_step_11 ?_
      refine tc_getp hW iv0 fl_X6_28 dX6_step_12 rfl ?_
      refine tc_aload_n 0 rfl dX6_step_15 ?_
      refine tc_geti iv0 fl_X6_54 dX6_step_16 ?_
      obtain ⟨bx26, x26, ex26, h⟩ := tc_ld_ex h
      refine tc_bald (hW.p iv0 7 rfl) bx26 dX6_step_19 ?_
      refine tc_nm ex26 ?_
      refine tc_bipush (v := 10) (by decide) dX6_step_20 ?_
      refine tc_icmp_eq 39 dX6_step_22 (by decide) (fun hc27 => ?_) (fun hc27 => ?_)
      · rw [if_pos hc27] at h
        exact sb_X6_step_39 hW r ur _ ih v0 u iv0 h
      · rw [if_neg hc27] at h
        refine tc_aload_n 0 rfl dX6_step_25 ?_
        refine tc_getp hW iv0 fl_X6_28 dX6_step_26 rfl ?_
        refine tc_aload_n 0 rfl dX6_step_29 ?_
        refine tc_geti iv0 fl_X6_54 dX6_step_30 ?_
        obtain ⟨bx28, x28, ex28, h⟩ := tc_ld_ex h
        refine tc_bald (hW.p iv0 7 rfl) bx28 dX6_step_33 ?_
        refine tc_nm ex28 ?_
        refine tc_bipush (v := 32) (by decide) dX6_step_34 ?_
        refine tc_icmp_ne 52 dX6_step_36 (by decide) (fun hc29 => ?_) (fun hc29 => ?_)
        · rw [if_neg hc29] at h
          exact sb_X6_step_52 hW r ur  v0 u iv0 h
        · rw [if_pos hc29] at h
          exact sb_X6_step_39 hW r ur _ ih v0 u iv0 h
set_option maxRecDepth 100000 in
set_option maxHeartbeats 4000000 in
theorem ct_X6_step {l : Launch} {z : Nat} {D : tc_D} {G : tc_G} (hW : tc_W G) {v0 : Nat} {u : tc_S} {r : Int32} {ur : tc_S} (iv0 : tc_is G v0 6) (h : fn_X6_step G v0 u = some (r, ur)) : tc_C l z D yX6_step cX6_step 1 none 2 41 0 0 [.ref (z + v0)] G u (tc_pv G ur) := by
  unfold fn_X6_step at h
  refine tc_C.of (by decide) (Nat.le_of_ble_eq_true rfl) fun p e s m args below meth c => ?_
  show tc_R p l e { frames := 2, cells := 0, slots := 0, locals := 41 } s m args below meth c z D cX6_step RX6 1 none 0 0 (tc_pv G ur) 0 0 G u 0 [(0, .ref (z + v0))] []
  exact sl_X6_step_0 hW r ur  _ v0 u iv0 h
set_option maxRecDepth 100000 in
set_option maxHeartbeats 4000000 in
theorem ct_X6_stop {l : Launch} {z : Nat} {D : tc_D} {G : tc_G} (hW : tc_W G) {v0 : Nat} {u : tc_S} {r : Int32} {ur : tc_S} (iv0 : tc_is G v0 6) (h : fn_X6_stop G v0 u = some (r, ur)) : tc_C l z D yX6_stop cX6_stop 1 (some .boolean) 0 0 0 0 [.ref (z + v0)] G u (tc_po r G ur) := by
  unfold fn_X6_stop at h
  refine tc_C.of (by decide) (Nat.le_of_ble_eq_true rfl) fun p e s m args below meth c => ?_
  show tc_R p l e { frames := 0, cells := 0, slots := 0, locals := 0 } s m args below meth c z D cX6_stop RX6 1 (some .boolean) 0 0 (tc_po r G ur) 0 0 G u 0 [(0, .ref (z + v0))] []
  refine tc_aload_n 0 rfl dX6_stop_0 ?_
  refine tc_iconst (v := 1) (by decide) dX6_stop_1 ?_
  obtain ⟨u1, eu1, h⟩ := tc_let_ex h
  refine tc_puti iv0 fl_X6_42 dX6_stop_2 ?_
  refine tc_nmu eu1 ?_
  refine tc_aload_n 0 rfl dX6_stop_5 ?_
  refine tc_aload_n 0 rfl dX6_stop_6 ?_
  refine tc_geti iv0 fl_X6_163 dX6_stop_7 ?_
  obtain ⟨u2, eu2, h⟩ := tc_let_ex h
  refine tc_puti iv0 fl_X6_45 dX6_stop_10 ?_
  refine tc_nmu eu2 ?_
  refine tc_iconst (v := 0) (by decide) dX6_stop_13 ?_
  obtain ⟨hz3, h⟩ := tc_zo_ex h
  cases h
  exact tc_zreturn hz3 rfl dX6_stop_14 rfl rfl ⟨rfl, rfl, rfl⟩
set_option maxRecDepth 100000 in
set_option maxHeartbeats 4000000 in
theorem sb_X6_note_17 {p : Program} {l : Launch} {e : Env} {s : State} {m : MethodId} {args : Array Value} {below : List Frame} {meth : Method} {c : Code} {z : Nat} {D : tc_D} {G : tc_G} (hW : tc_W G) (r : Int32) (ur : tc_S) (u : tc_S) (h : bl_X6_note_17 G  u = some (r, ur)) : tc_R p l e { frames := 0, cells := 0, slots := 0, locals := 0 } s m args below meth c z D cX6_note RX6 3 none 0 0 (tc_pv G ur) 0 0 G u 17 [] [] := by
  unfold bl_X6_note_17 at h
  cases h
  exact tc_return rfl dX6_note_17 rfl rfl ⟨rfl, rfl, rfl⟩
set_option maxRecDepth 100000 in
set_option maxHeartbeats 4000000 in
theorem ct_X6_note {l : Launch} {z : Nat} {D : tc_D} {G : tc_G} (hW : tc_W G) {v0 : Nat} {v1 : Int32} {v2 : Int32} {u : tc_S} {r : Int32} {ur : tc_S} (iv0 : tc_is G v0 6) (h : fn_X6_note G v0 v1 v2 u = some (r, ur)) : tc_C l z D yX6_note cX6_note 3 none 0 0 0 0 [.ref (z + v0), .int v1, .int v2] G u (tc_pv G ur) := by
  unfold fn_X6_note at h
  refine tc_C.of (by decide) (Nat.le_of_ble_eq_true rfl) fun p e s m args below meth c => ?_
  show tc_R p l e { frames := 0, cells := 0, slots := 0, locals := 0 } s m args below meth c z D cX6_note RX6 3 none 0 0 (tc_pv G ur) 0 0 G u 0 [(0, .ref (z + v0)), (1, .int v1), (2, .int v2)] []
  refine tc_aload_n 0 rfl dX6_note_0 ?_
  refine tc_geti iv0 fl_X6_42 dX6_note_1 ?_
  refine tc_if_ne 17 dX6_note_4 (by decide) (fun hc1 => ?_) (fun hc1 => ?_)
  · rw [if_neg hc1] at h
    refine tc_lvs [] rfl ?_
    exact sb_X6_note_17 hW r ur   u  h
  · rw [if_pos hc1] at h
    refine tc_aload_n 0 rfl dX6_note_7 ?_
    refine tc_iload_n 1 rfl dX6_note_8 ?_
    obtain ⟨u2, eu2, h⟩ := tc_let_ex h
    refine tc_puti iv0 fl_X6_42 dX6_note_9 ?_
    refine tc_nmu eu2 ?_
    refine tc_aload_n 0 rfl dX6_note_12 ?_
    refine tc_iload_n 2 rfl dX6_note_13 ?_
    obtain ⟨u3, eu3, h⟩ := tc_let_ex h
    refine tc_puti iv0 fl_X6_45 dX6_note_14 ?_
    refine tc_nmu eu3 ?_
    refine tc_lvs [] rfl ?_
    exact sb_X6_note_17 hW r ur   u3  h
set_option maxRecDepth 100000 in
set_option maxHeartbeats 4000000 in
theorem sb_X6_readNumber_46 {p : Program} {l : Launch} {e : Env} {s : State} {m : MethodId} {args : Array Value} {below : List Frame} {meth : Method} {c : Code} {z : Nat} {D : tc_D} {G : tc_G} (hW : tc_W G) (r : Int32) (ur : tc_S) (v0 : Nat) (u : tc_S) (iv0 : tc_is G v0 6) (h : bl_X6_readNumber_46 G v0 u = some (r, ur)) : tc_R p l e { frames := 3, cells := 0, slots := 0, locals := 61 } s m args below meth c z D cX6_readNumber RX6 3 (some .boolean) 0 0 (tc_po r G ur) 0 0 G u 46 [(0, .ref (z + v0))] [] := by
  unfold bl_X6_readNumber_46 at h
  refine tc_aload_n 0 rfl dX6_readNumber_46 ?_
  obtain ⟨x1, u2, hq3, h⟩ := tc_b_ex h
  refine tc_callVv [] dX6_readNumber_47 iv0 (ct_X6_step hW iv0 hq3) ml_X6_57 mw_X6_step mv_X6_step ⟨Nat.le_of_ble_eq_true rfl, Nat.le_of_ble_eq_true rfl⟩ rfl rfl (Nat.le_of_ble_eq_true rfl) ⟨Nat.le_refl _, Nat.le_refl _⟩ (by decide) ?_
  refine tc_iconst (v := 1) (by decide) dX6_readNumber_50 ?_
  obtain ⟨hz4, h⟩ := tc_zo_ex h
  cases h
  exact tc_zreturn hz4 rfl dX6_readNumber_51 rfl rfl ⟨rfl, rfl, rfl⟩
set_option maxRecDepth 100000 in
set_option maxHeartbeats 4000000 in
theorem sb_X6_readNumber_37 {p : Program} {l : Launch} {e : Env} {s : State} {m : MethodId} {args : Array Value} {below : List Frame} {meth : Method} {c : Code} {z : Nat} {D : tc_D} {G : tc_G} (hW : tc_W G) (r : Int32) (ur : tc_S) (v0 : Nat) (u : tc_S) (iv0 : tc_is G v0 6) (h : bl_X6_readNumber_37 G v0 u = some (r, ur)) : tc_R p l e { frames := 3, cells := 0, slots := 0, locals := 61 } s m args below meth c z D cX6_readNumber RX6 3 (some .boolean) 0 0 (tc_po r G ur) 0 0 G u 37 [(0, .ref (z + v0))] [] := by
  unfold bl_X6_readNumber_37 at h
  refine tc_aload_n 0 rfl dX6_readNumber_37 ?_
  refine tc_iconst (v := 2) (by decide) dX6_readNumber_38 ?_
  refine tc_aload_n 0 rfl dX6_readNumber_39 ?_
  refine tc_geti iv0 fl_X6_163 dX6_readNumber_40 ?_
  obtain ⟨x5, u6, hq7, h⟩ := tc_b_ex h
  refine tc_callVv [.int 2, .int (u.1 v0 11)] dX6_readNumber_43 iv0 (ct_X6_note hW iv0 hq7) ml_X6_166 mw_X6_note mv_X6_note ⟨Nat.le_of_ble_eq_true rfl, Nat.le_of_ble_eq_true rfl⟩ rfl rfl (Nat.le_of_ble_eq_true rfl) ⟨Nat.le_refl _, Nat.le_refl _⟩ (by decide) ?_
  exact sb_X6_readNumber_46 hW r ur  v0 u6 iv0 h
set_option maxRecDepth 100000 in
set_option maxHeartbeats 4000000 in
theorem ct_X6_readNumber {l : Launch} {z : Nat} {D : tc_D} {G : tc_G} (hW : tc_W G) {v0 : Nat} {v1 : Int32} {v2 : Int32} {u : tc_S} {r : Int32} {ur : tc_S} (iv0 : tc_is G v0 6) (h : fn_X6_readNumber G v0 v1 v2 u = some (r, ur)) : tc_C l z D yX6_readNumber cX6_readNumber 3 (some .boolean) 3 61 0 0 [.ref (z + v0), .int v1, .int v2] G u (tc_po r G ur) := by
  unfold fn_X6_readNumber at h
  refine tc_C.of (by decide) (Nat.le_of_ble_eq_true rfl) fun p e s m args below meth c => ?_
  show tc_R p l e { frames := 3, cells := 0, slots := 0, locals := 61 } s m args below meth c z D cX6_readNumber RX6 3 (some .boolean) 0 0 (tc_po r G ur) 0 0 G u 0 [(0, .ref (z + v0)), (1, .int v1), (2, .int v2)] []
  refine tc_aload_n 0 rfl dX6_readNumber_0 ?_
  refine tc_geti iv0 fl_X6_60 dX6_readNumber_1 ?_
  refine tc_iconst (v := 2) (by decide) dX6_readNumber_4 ?_
  refine tc_icmp_eq 13 dX6_readNumber_5 (by decide) (fun hc8 => ?_) (fun hc8 => ?_)
  · rw [if_pos hc8] at h
    refine tc_aload_n 0 rfl dX6_readNumber_13 ?_
    refine tc_aload_n 0 rfl dX6_readNumber_14 ?_
    refine tc_geti iv0 fl_X6_170 dX6_readNumber_15 ?_
    obtain ⟨u9, eu9, h⟩ := tc_let_ex h
    refine tc_puti iv0 fl_X6_110 dX6_readNumber_18 ?_
    refine tc_nmu eu9 ?_
    refine tc_aload_n 0 rfl dX6_readNumber_21 ?_
    refine tc_geti iv0 fl_X6_110 dX6_readNumber_22 ?_
    refine tc_iload_n 1 rfl dX6_readNumber_25 ?_
    refine tc_icmp_lt 37 dX6_readNumber_26 (by decide) (fun hc10 => ?_) (fun hc10 => ?_)
    · rw [if_pos hc10] at h
      refine tc_lvs [0] rfl ?_
      exact sb_X6_readNumber_37 hW r ur  v0 u9 iv0 h
    · rw [if_neg hc10] at h
      refine tc_aload_n 0 rfl dX6_readNumber_29 ?_
      refine tc_geti iv0 fl_X6_110 dX6_readNumber_30 ?_
      refine tc_iload_n 2 rfl dX6_readNumber_33 ?_
      refine tc_icmp_le 46 dX6_readNumber_34 (by decide) (fun hc11 => ?_) (fun hc11 => ?_)
      · rw [if_pos hc11] at h
        refine tc_lvs [0] rfl ?_
        exact sb_X6_readNumber_46 hW r ur  v0 u9 iv0 h
      · rw [if_neg hc11] at h
        refine tc_lvs [0] rfl ?_
        exact sb_X6_readNumber_37 hW r ur  v0 u9 iv0 h
  · rw [if_neg hc8] at h
    refine tc_aload_n 0 rfl dX6_readNumber_8 ?_
    obtain ⟨x12, u13, hq14, h⟩ := tc_b_ex h
    refine tc_callVi [] dX6_readNumber_9 iv0 (ct_X6_stop hW iv0 hq14) ml_X6_84 mw_X6_stop mv_X6_stop ⟨Nat.le_of_ble_eq_true rfl, Nat.le_of_ble_eq_true rfl⟩ rfl rfl (Nat.le_of_ble_eq_true rfl) ⟨Nat.le_refl _, Nat.le_refl _⟩ (by decide) ?_
    obtain ⟨hz15, h⟩ := tc_zo_ex h
    cases h
    exact tc_zreturn hz15 rfl dX6_readNumber_12 rfl rfl ⟨rfl, rfl, rfl⟩
set_option maxRecDepth 100000 in
set_option maxHeartbeats 4000000 in
theorem sb_X6_readHash_92 {p : Program} {l : Launch} {e : Env} {s : State} {m : MethodId} {args : Array Value} {below : List Frame} {meth : Method} {c : Code} {z : Nat} {D : tc_D} {G : tc_G} (hW : tc_W G) (r : Int32) (ur : tc_S) (u : tc_S) (h : bl_X6_readHash_92 G  u = some (r, ur)) : tc_R p l e { frames := 4, cells := 0, slots := 0, locals := 83 } s m args below meth c z D cX6_readHash RX6 3 (some .boolean) 0 0 (tc_po r G ur) 0 0 G u 92 [] [] := by
  unfold bl_X6_readHash_92 at h
  refine tc_iconst (v := 1) (by decide) dX6_readHash_92 ?_
  obtain ⟨hz1, h⟩ := tc_zo_ex h
  cases h
  exact tc_zreturn hz1 rfl dX6_readHash_93 rfl rfl ⟨rfl, rfl, rfl⟩
set_option maxRecDepth 100000 in
set_option maxHeartbeats 4000000 in
theorem ct_X6_readHash {l : Launch} {z : Nat} {D : tc_D} {G : tc_G} (hW : tc_W G) {v0 : Nat} {v1 : Int32} {u : tc_S} {r : Int32} {ur : tc_S} (iv0 : tc_is G v0 6) (h : fn_X6_readHash G v0 v1 u = some (r, ur)) : tc_C l z D yX6_readHash cX6_readHash 3 (some .boolean) 4 83 0 0 [.ref (z + v0), .int v1] G u (tc_po r G ur) := by
  unfold fn_X6_readHash at h
  refine tc_C.of (by decide) (Nat.le_of_ble_eq_true rfl) fun p e s m args below meth c => ?_
  show tc_R p l e { frames := 4, cells := 0, slots := 0, locals := 83 } s m args below meth c z D cX6_readHash RX6 3 (some .boolean) 0 0 (tc_po r G ur) 0 0 G u 0 [(0, .ref (z + v0)), (1, .int v1)] []
  refine tc_aload_n 0 rfl dX6_readHash_0 ?_
  refine tc_iconst (v := 1) (by decide) dX6_readHash_1 ?_
  refine tc_sipush (v := 1008) (by decide) dX6_readHash_2 ?_
  obtain ⟨x2, u3, hq4, h⟩ := tc_b_ex h
  refine tc_callVi [.int 1, .int 1008] dX6_readHash_5 iv0 (ct_X6_readNumber hW iv0 hq4) ml_X6_106 mw_X6_readNumber mv_X6_readNumber ⟨Nat.le_of_ble_eq_true rfl, Nat.le_of_ble_eq_true rfl⟩ rfl rfl (Nat.le_of_ble_eq_true rfl) ⟨Nat.le_refl _, Nat.le_refl _⟩ (by decide) ?_
  refine tc_if_ne 13 dX6_readHash_8 (by decide) (fun hc5 => ?_) (fun hc5 => ?_)
  · rw [if_neg hc5] at h
    refine tc_aload_n 0 rfl dX6_readHash_13 ?_
    refine tc_geti iv0 fl_X6_110 dX6_readHash_14 ?_
    obtain ⟨x6, ex6, h⟩ := tc_let_ex h
    refine tc_nm ex6 ?_
    refine tc_istore_n [(2, .int x6), (0, .ref (z + v0)), (1, .int v1)] dX6_readHash_17 (by decide) rfl ?_
    refine tc_aload_n 1 rfl dX6_readHash_18 ?_
    refine tc_iconst (v := 0) (by decide) dX6_readHash_19 ?_
    refine tc_sipush (v := 1008) (by decide) dX6_readHash_20 ?_
    obtain ⟨x7, u8, hq9, h⟩ := tc_b_ex h
    refine tc_callVi [.int 0, .int 1008] dX6_readHash_23 iv0 (ct_X6_readNumber hW iv0 hq9) ml_X6_106 mw_X6_readNumber mv_X6_readNumber ⟨Nat.le_of_ble_eq_true rfl, Nat.le_of_ble_eq_true rfl⟩ rfl rfl (Nat.le_of_ble_eq_true rfl) ⟨Nat.le_refl _, Nat.le_refl _⟩ (by decide) ?_
    refine tc_if_ne 31 dX6_readHash_26 (by decide) (fun hc10 => ?_) (fun hc10 => ?_)
    · rw [if_neg hc10] at h
      refine tc_iload_n 2 rfl dX6_readHash_31 ?_
      refine tc_bipush (v := 8) (by decide) dX6_readHash_32 ?_
      refine tc_icmp_ne 66 dX6_readHash_34 (by decide) (fun hc11 => ?_) (fun hc11 => ?_)
      · rw [if_neg hc11] at h
        refine tc_aload_n 1 rfl dX6_readHash_66 ?_
        refine tc_getp hW iv0 fl_X6_12 dX6_readHash_67 rfl ?_
        refine tc_aload_n 1 rfl dX6_readHash_70 ?_
        refine tc_getp hW iv0 fl_X6_12 dX6_readHash_71 rfl ?_
        refine tc_geti (hW.p iv0 2 rfl) fl_X6_157 dX6_readHash_74 ?_
        refine tc_aload_n 1 rfl dX6_readHash_77 ?_
        refine tc_getp hW iv0 fl_X6_12 dX6_readHash_78 rfl ?_
        refine tc_geti (hW.p iv0 2 rfl) fl_X6_160 dX6_readHash_81 ?_
        refine tc_iload_n 0 rfl dX6_readHash_84 ?_
        refine tc_aload_n 1 rfl dX6_readHash_85 ?_
        refine tc_geti iv0 fl_X6_110 dX6_readHash_86 ?_
        obtain ⟨x12, u13, hq14, h⟩ := tc_b_ex h
        refine tc_callVv [.int (u8.1 (tc_p G v0 2) 7), .int (u8.1 (tc_p G v0 2) 8), .int x6, .int (u8.1 v0 13)] dX6_readHash_89 (hW.p iv0 2 rfl) (ct_X8_takeHashes hW (hW.p iv0 2 rfl) hq14) ml_X6_153 mw_X8_takeHashes mv_X8_takeHashes ⟨Nat.le_of_ble_eq_true rfl, Nat.le_of_ble_eq_true rfl⟩ rfl rfl (Nat.le_of_ble_eq_true rfl) ⟨Nat.le_refl _, Nat.le_refl _⟩ (by decide) ?_
        refine tc_lvs [] rfl ?_
        exact sb_X6_readHash_92 hW r ur   u13  h
      · rw [if_pos hc11] at h
        refine tc_aload_n 1 rfl dX6_readHash_37 ?_
        refine tc_getp hW iv0 fl_X6_12 dX6_readHash_38 rfl ?_
        refine tc_iload_n 0 rfl dX6_readHash_41 ?_
        refine tc_aload_n 1 rfl dX6_readHash_42 ?_
        refine tc_geti iv0 fl_X6_110 dX6_readHash_43 ?_
        refine tc_aload_n 1 rfl dX6_readHash_46 ?_
        refine tc_getp hW iv0 fl_X6_12 dX6_readHash_47 rfl ?_
        refine tc_geti (hW.p iv0 2 rfl) fl_X6_147 dX6_readHash_50 ?_
        refine tc_aload_n 1 rfl dX6_readHash_53 ?_
        refine tc_getp hW iv0 fl_X6_12 dX6_readHash_54 rfl ?_
        refine tc_geti (hW.p iv0 2 rfl) fl_X6_150 dX6_readHash_57 ?_
        obtain ⟨x15, u16, hq17, h⟩ := tc_b_ex h
        refine tc_callVv [.int x6, .int (u8.1 v0 13), .int (u8.1 (tc_p G v0 2) 9), .int (u8.1 (tc_p G v0 2) 10)] dX6_readHash_60 (hW.p iv0 2 rfl) (ct_X8_takeHashes hW (hW.p iv0 2 rfl) hq17) ml_X6_153 mw_X8_takeHashes mv_X8_takeHashes ⟨Nat.le_of_ble_eq_true rfl, Nat.le_of_ble_eq_true rfl⟩ rfl rfl (Nat.le_of_ble_eq_true rfl) ⟨Nat.le_refl _, Nat.le_refl _⟩ (by decide) ?_
        refine tc_goto 92 dX6_readHash_63 (by decide) ?_
        refine tc_lvs [] rfl ?_
        exact sb_X6_readHash_92 hW r ur   u16  h
    · rw [if_pos hc10] at h
      refine tc_iconst (v := 0) (by decide) dX6_readHash_29 ?_
      obtain ⟨hz18, h⟩ := tc_zo_ex h
      cases h
      exact tc_zreturn hz18 rfl dX6_readHash_30 rfl rfl ⟨rfl, rfl, rfl⟩
  · rw [if_pos hc5] at h
    refine tc_iconst (v := 0) (by decide) dX6_readHash_11 ?_
    obtain ⟨hz19, h⟩ := tc_zo_ex h
    cases h
    exact tc_zreturn hz19 rfl dX6_readHash_12 rfl rfl ⟨rfl, rfl, rfl⟩
set_option maxRecDepth 100000 in
set_option maxHeartbeats 4000000 in
theorem sb_X6_readHas_123 {p : Program} {l : Launch} {e : Env} {s : State} {m : MethodId} {args : Array Value} {below : List Frame} {meth : Method} {c : Code} {z : Nat} {D : tc_D} {G : tc_G} (hW : tc_W G) (r : Int32) (ur : tc_S) (u : tc_S) (h : bl_X6_readHas_123 G  u = some (r, ur)) : tc_R p l e { frames := 4, cells := 0, slots := 0, locals := 83 } s m args below meth c z D cX6_readHas RX6 4 (some .boolean) 0 0 (tc_po r G ur) 0 0 G u 123 [] [] := by
  unfold bl_X6_readHas_123 at h
  refine tc_iconst (v := 1) (by decide) dX6_readHas_123 ?_
  obtain ⟨hz1, h⟩ := tc_zo_ex h
  cases h
  exact tc_zreturn hz1 rfl dX6_readHas_124 rfl rfl ⟨rfl, rfl, rfl⟩
set_option maxRecDepth 100000 in
set_option maxHeartbeats 4000000 in
theorem sb_X6_readHas_49 {p : Program} {l : Launch} {e : Env} {s : State} {m : MethodId} {args : Array Value} {below : List Frame} {meth : Method} {c : Code} {z : Nat} {D : tc_D} {G : tc_G} (hW : tc_W G) (r : Int32) (ur : tc_S) (K25 : Nat → Int32 → Int32 → Int32 → tc_S → Option (Int32 × tc_S)) (hK25 : ∀ (v0 : Nat) (v1 : Int32) (v2 : Int32) (v3 : Int32) (u : tc_S), tc_is G v0 6 → K25 v0 v1 v2 v3 u = some (r, ur) → tc_R p l e { frames := 4, cells := 0, slots := 0, locals := 83 } s m args below meth c z D cX6_readHas RX6 4 (some .boolean) 0 0 (tc_po r G ur) 0 0 G u 25 [(0, .ref (z + v0)), (1, .int v1), (2, .int v2), (3, .int v3)] []) (v0 : Nat) (v1 : Int32) (v2 : Int32) (v3 : Int32) (u : tc_S) (iv0 : tc_is G v0 6) (h : bl_X6_readHas_49 G K25 v0 v1 v2 v3 u = some (r, ur)) : tc_R p l e { frames := 4, cells := 0, slots := 0, locals := 83 } s m args below meth c z D cX6_readHas RX6 4 (some .boolean) 0 0 (tc_po r G ur) 0 0 G u 49 [(0, .ref (z + v0)), (1, .int v1), (2, .int v2), (3, .int v3)] [] := by
  unfold bl_X6_readHas_49 at h
  obtain ⟨x2, ex2, h⟩ := tc_let_ex h
  refine tc_iinc 3 (v := x2) [(3, .int x2), (0, .ref (z + v0)), (1, .int v1), (2, .int v2)] dX6_readHas_49 rfl (by rw [ex2]; rfl) (by decide) rfl ?_
  refine tc_goto 25 dX6_readHas_52 (by decide) ?_
  refine tc_lvs [1, 2, 3, 0] rfl ?_
  exact hK25 v0 v1 v2 x2 u iv0 h
set_option maxRecDepth 100000 in
set_option maxHeartbeats 4000000 in
theorem sl_X6_readHas_25 {p : Program} {l : Launch} {e : Env} {s : State} {m : MethodId} {args : Array Value} {below : List Frame} {meth : Method} {c : Code} {z : Nat} {D : tc_D} {G : tc_G} (hW : tc_W G) (r : Int32) (ur : tc_S) : ∀ (n : Nat) (v0 : Nat) (v1 : Int32) (v2 : Int32) (v3 : Int32) (u : tc_S) (iv0 : tc_is G v0 6) (h : lo_X6_readHas_25 G n v0 v1 v2 v3 u = some (r, ur)), tc_R p l e { frames := 4, cells := 0, slots := 0, locals := 83 } s m args below meth c z D cX6_readHas RX6 4 (some .boolean) 0 0 (tc_po r G ur) 0 0 G u 25 [(0, .ref (z + v0)), (1, .int v1), (2, .int v2), (3, .int v3)] [] := by
  intro n
  induction n with
  | zero => intro v0 v1 v2 v3 u iv0 h; cases h
  | succ n ih =>
    intro v0 v1 v2 v3 u iv0 h
    rw [lo_X6_readHas_25] at h
    refine tc_iload_n 3 rfl dX6_readHas_25 ?_
    refine tc_aload_n 0 rfl dX6_readHas_26 ?_
    refine tc_geti iv0 fl_X6_48 dX6_readHas_27 ?_
    refine tc_icmp_ge 55 dX6_readHas_30 (by decide) (fun hc3 => ?_) (fun hc3 => ?_)
    · rw [if_pos hc3] at h
      refine tc_aload_n 0 rfl dX6_readHas_55 ?_
      refine tc_iconst (v := 0) (by decide) dX6_readHas_56 ?_
      refine tc_sipush (v := 999) (by decide) dX6_readHas_57 ?_
      obtain ⟨x4, u5, hq6, h⟩ := tc_b_ex h
      refine tc_callVi [.int 0, .int 999] dX6_readHas_60 iv0 (ct_X6_readNumber hW iv0 hq6) ml_X6_106 mw_X6_readNumber mv_X6_readNumber ⟨Nat.le_of_ble_eq_true rfl, Nat.le_of_ble_eq_true rfl⟩ rfl rfl (Nat.le_of_ble_eq_true rfl) ⟨Nat.le_refl _, Nat.le_refl _⟩ (by decide) ?_
      refine tc_if_ne 68 dX6_readHas_63 (by decide) (fun hc7 => ?_) (fun hc7 => ?_)
      · rw [if_neg hc7] at h
        refine tc_aload_n 0 rfl dX6_readHas_68 ?_
        refine tc_geti iv0 fl_X6_48 dX6_readHas_69 ?_
        refine tc_aload_n 0 rfl dX6_readHas_72 ?_
        refine tc_getp hW iv0 fl_X6_18 dX6_readHas_73 rfl ?_
        refine tc_alen' (hW.p iv0 3 rfl) (by decide) (by decide) dX6_readHas_76 ?_
        refine tc_icmp_ge 123 dX6_readHas_77 (by decide) (fun hc8 => ?_) (fun hc8 => ?_)
        · rw [if_pos hc8] at h
          refine tc_lvs [] rfl ?_
          exact sb_X6_readHas_123 hW r ur   u5  h
        · rw [if_neg hc8] at h
          refine tc_aload_n 0 rfl dX6_readHas_80 ?_
          refine tc_getp hW iv0 fl_X6_18 dX6_readHas_81 rfl ?_
          refine tc_aload_n 0 rfl dX6_readHas_84 ?_
          refine tc_geti iv0 fl_X6_48 dX6_readHas_85 ?_
          refine tc_iload_n 2 rfl dX6_readHas_88 ?_
          obtain ⟨bu9, u9, eu9, h⟩ := tc_sd_ex h
          refine tc_iast (hW.p iv0 3 rfl) bu9 dX6_readHas_89 ?_
          refine tc_nmu eu9 ?_
          refine tc_aload_n 0 rfl dX6_readHas_90 ?_
          refine tc_getp hW iv0 fl_X6_22 dX6_readHas_91 rfl ?_
          refine tc_aload_n 0 rfl dX6_readHas_94 ?_
          refine tc_geti iv0 fl_X6_48 dX6_readHas_95 ?_
          refine tc_aload_n 0 rfl dX6_readHas_98 ?_
          refine tc_geti iv0 fl_X6_110 dX6_readHas_99 ?_
          obtain ⟨bu10, u10, eu10, h⟩ := tc_sd_ex h
          refine tc_iast (hW.p iv0 4 rfl) bu10 dX6_readHas_102 ?_
          refine tc_nmu eu10 ?_
          refine tc_aload_n 0 rfl dX6_readHas_103 ?_
          refine tc_getp hW iv0 fl_X6_25 dX6_readHas_104 rfl ?_
          refine tc_aload_n 0 rfl dX6_readHas_107 ?_
          refine tc_geti iv0 fl_X6_48 dX6_readHas_108 ?_
          refine tc_iload_n 1 rfl dX6_readHas_111 ?_
          obtain ⟨bu11, u11, eu11, h⟩ := tc_sd_ex h
          refine tc_iast (hW.p iv0 5 rfl) bu11 dX6_readHas_112 ?_
          refine tc_nmu eu11 ?_
          refine tc_aload_n 0 rfl dX6_readHas_113 ?_
          refine tc_dup rfl dX6_readHas_114 ?_
          refine tc_geti iv0 fl_X6_48 dX6_readHas_115 ?_
          refine tc_iconst (v := 1) (by decide) dX6_readHas_118 ?_
          refine tc_iadd dX6_readHas_119 ?_
          obtain ⟨u12, eu12, h⟩ := tc_let_ex h
          refine tc_puti iv0 fl_X6_48 dX6_readHas_120 ?_
          refine tc_nmu eu12 ?_
          refine tc_lvs [] rfl ?_
          exact sb_X6_readHas_123 hW r ur   u12  h
      · rw [if_pos hc7] at h
        refine tc_iconst (v := 0) (by decide) dX6_readHas_66 ?_
        obtain ⟨hz13, h⟩ := tc_zo_ex h
        cases h
        exact tc_zreturn hz13 rfl dX6_readHas_67 rfl rfl ⟨rfl, rfl, rfl⟩
    · rw [if_neg hc3] at h
      refine tc_aload_n 0 rfl dX6_readHas_33 ?_
      refine tc_getp hW iv0 fl_X6_18 dX6_readHas_34 rfl ?_
      refine tc_iload_n 3 rfl dX6_readHas_37 ?_
      obtain ⟨bx14, x14, ex14, h⟩ := tc_ld_ex h
      refine tc_iald (hW.p iv0 3 rfl) bx14 dX6_readHas_38 ?_
      refine tc_nm ex14 ?_
      refine tc_iload_n 2 rfl dX6_readHas_39 ?_
      refine tc_icmp_ne 49 dX6_readHas_40 (by decide) (fun hc15 => ?_) (fun hc15 => ?_)
      · rw [if_neg hc15] at h
        exact sb_X6_readHas_49 hW r ur _ ih v0 v1 v2 v3 u iv0 h
      · rw [if_pos hc15] at h
        refine tc_aload_n 0 rfl dX6_readHas_43 ?_
        refine tc_iconst (v := 3) (by decide) dX6_readHas_44 ?_
        refine tc_iload_n 1 rfl dX6_readHas_45 ?_
        obtain ⟨x16, u17, hq18, h⟩ := tc_b_ex h
        refine tc_callVv [.int 3, .int v1] dX6_readHas_46 iv0 (ct_X6_note hW iv0 hq18) ml_X6_166 mw_X6_note mv_X6_note ⟨Nat.le_of_ble_eq_true rfl, Nat.le_of_ble_eq_true rfl⟩ rfl rfl (Nat.le_of_ble_eq_true rfl) ⟨Nat.le_refl _, Nat.le_refl _⟩ (by decide) ?_
        exact sb_X6_readHas_49 hW r ur _ ih v0 v1 v2 v3 u17 iv0 h
set_option maxRecDepth 100000 in
set_option maxHeartbeats 4000000 in
theorem ct_X6_readHas {l : Launch} {z : Nat} {D : tc_D} {G : tc_G} (hW : tc_W G) {v0 : Nat} {u : tc_S} {r : Int32} {ur : tc_S} (iv0 : tc_is G v0 6) (h : fn_X6_readHas G v0 u = some (r, ur)) : tc_C l z D yX6_readHas cX6_readHas 4 (some .boolean) 4 83 0 0 [.ref (z + v0)] G u (tc_po r G ur) := by
  unfold fn_X6_readHas at h
  refine tc_C.of (by decide) (Nat.le_of_ble_eq_true rfl) fun p e s m args below meth c => ?_
  show tc_R p l e { frames := 4, cells := 0, slots := 0, locals := 83 } s m args below meth c z D cX6_readHas RX6 4 (some .boolean) 0 0 (tc_po r G ur) 0 0 G u 0 [(0, .ref (z + v0))] []
  refine tc_aload_n 0 rfl dX6_readHas_0 ?_
  refine tc_geti iv0 fl_X6_163 dX6_readHas_1 ?_
  obtain ⟨x19, ex19, h⟩ := tc_let_ex h
  refine tc_nm ex19 ?_
  refine tc_istore_n [(1, .int x19), (0, .ref (z + v0))] dX6_readHas_4 (by decide) rfl ?_
  refine tc_aload_n 1 rfl dX6_readHas_5 ?_
  refine tc_iconst (v := 0) (by decide) dX6_readHas_6 ?_
  refine tc_sipush (v := 999) (by decide) dX6_readHas_7 ?_
  obtain ⟨x20, u21, hq22, h⟩ := tc_b_ex h
  refine tc_callVi [.int 0, .int 999] dX6_readHas_10 iv0 (ct_X6_readNumber hW iv0 hq22) ml_X6_106 mw_X6_readNumber mv_X6_readNumber ⟨Nat.le_of_ble_eq_true rfl, Nat.le_of_ble_eq_true rfl⟩ rfl rfl (Nat.le_of_ble_eq_true rfl) ⟨Nat.le_refl _, Nat.le_refl _⟩ (by decide) ?_
  refine tc_if_ne 18 dX6_readHas_13 (by decide) (fun hc23 => ?_) (fun hc23 => ?_)
  · rw [if_neg hc23] at h
    refine tc_aload_n 1 rfl dX6_readHas_18 ?_
    refine tc_geti iv0 fl_X6_110 dX6_readHas_19 ?_
    obtain ⟨x24, ex24, h⟩ := tc_let_ex h
    refine tc_nm ex24 ?_
    refine tc_istore_n [(2, .int x24), (1, .int x19), (0, .ref (z + v0))] dX6_readHas_22 (by decide) rfl ?_
    refine tc_iconst (v := 0) (by decide) dX6_readHas_23 ?_
    refine tc_istore_n [(3, .int 0), (2, .int x24), (1, .int x19), (0, .ref (z + v0))] dX6_readHas_24 (by decide) rfl ?_
    refine tc_lvs [3, 2, 1, 0] rfl ?_
    exact sl_X6_readHas_25 hW r ur  _ v0 x19 x24 0 u21 iv0 h
  · rw [if_pos hc23] at h
    refine tc_iconst (v := 0) (by decide) dX6_readHas_16 ?_
    obtain ⟨hz25, h⟩ := tc_zo_ex h
    cases h
    exact tc_zreturn hz25 rfl dX6_readHas_17 rfl rfl ⟨rfl, rfl, rfl⟩
set_option maxRecDepth 100000 in
set_option maxHeartbeats 4000000 in
theorem ct_X9_begin {l : Launch} {z : Nat} {D : tc_D} {G : tc_G} (hW : tc_W G) {v0 : Nat} {v1 : Nat} {u : tc_S} {r : Int32} {ur : tc_S} (iv0 : tc_is G v0 9) (iv1 : tc_is G v1 8) (h : fn_X9_begin G v0 v1 u = some (r, ur)) : tc_C l z D yX9_begin cX9_begin 2 none 2 45 0 0 [.ref (z + v0), .ref (z + v1)] G u (tc_pv G ur) := by
  unfold fn_X9_begin at h
  refine tc_C.of (by decide) (Nat.le_of_ble_eq_true rfl) fun p e s m args below meth c => ?_
  show tc_R p l e { frames := 2, cells := 0, slots := 0, locals := 45 } s m args below meth c z D cX9_begin RX9 2 none 0 0 (tc_pv G ur) 0 0 G u 0 [(0, .ref (z + v0)), (1, .ref (z + v1))] []
  refine tc_aload_n 0 rfl dX9_begin_0 ?_
  refine tc_getp hW iv0 fl_X9_12 dX9_begin_1 rfl ?_
  refine tc_aload_n 1 rfl dX9_begin_4 ?_
  obtain ⟨x1, u2, hq3, h⟩ := tc_b_ex h
  refine tc_callVv [.ref (z + v1)] dX9_begin_5 (hW.p iv0 0 rfl) (ct_X8_copyFrom hW (hW.p iv0 0 rfl) iv1 hq3) ml_X9_50 mw_X8_copyFrom mv_X8_copyFrom ⟨Nat.le_of_ble_eq_true rfl, Nat.le_of_ble_eq_true rfl⟩ rfl rfl (Nat.le_of_ble_eq_true rfl) ⟨Nat.le_refl _, Nat.le_refl _⟩ (by decide) ?_
  refine tc_aload_n 0 rfl dX9_begin_8 ?_
  obtain ⟨x4, u5, hq6, h⟩ := tc_b_ex h
  refine tc_callVv [] dX9_begin_9 iv0 (ct_X9_clear hW iv0 hq6) ml_X9_47 mw_X9_clear mv_X9_clear ⟨Nat.le_of_ble_eq_true rfl, Nat.le_of_ble_eq_true rfl⟩ rfl rfl (Nat.le_of_ble_eq_true rfl) ⟨Nat.le_refl _, Nat.le_refl _⟩ (by decide) ?_
  refine tc_aload_n 0 rfl dX9_begin_12 ?_
  refine tc_iconst (v := 0) (by decide) dX9_begin_13 ?_
  obtain ⟨u7, eu7, h⟩ := tc_let_ex h
  refine tc_puti iv0 fl_X9_54 dX9_begin_14 ?_
  refine tc_nmu eu7 ?_
  refine tc_aload_n 0 rfl dX9_begin_17 ?_
  refine tc_iconst (v := 0) (by decide) dX9_begin_18 ?_
  obtain ⟨u8, eu8, h⟩ := tc_let_ex h
  refine tc_puti iv0 fl_X9_57 dX9_begin_19 ?_
  refine tc_nmu eu8 ?_
  refine tc_aload_n 0 rfl dX9_begin_22 ?_
  refine tc_iconst (v := 0) (by decide) dX9_begin_23 ?_
  obtain ⟨u9, eu9, h⟩ := tc_let_ex h
  refine tc_puti iv0 fl_X9_60 dX9_begin_24 ?_
  refine tc_nmu eu9 ?_
  refine tc_aload_n 0 rfl dX9_begin_27 ?_
  refine tc_iconst (v := 0) (by decide) dX9_begin_28 ?_
  obtain ⟨u10, eu10, h⟩ := tc_let_ex h
  refine tc_puti iv0 fl_X9_63 dX9_begin_29 ?_
  refine tc_nmu eu10 ?_
  refine tc_aload_n 0 rfl dX9_begin_32 ?_
  refine tc_iconst (v := 0) (by decide) dX9_begin_33 ?_
  obtain ⟨u11, eu11, h⟩ := tc_let_ex h
  refine tc_puti iv0 fl_X9_66 dX9_begin_34 ?_
  refine tc_nmu eu11 ?_
  refine tc_aload_n 0 rfl dX9_begin_37 ?_
  refine tc_iconst (v := 0) (by decide) dX9_begin_38 ?_
  obtain ⟨u12, eu12, h⟩ := tc_let_ex h
  refine tc_puti iv0 fl_X9_69 dX9_begin_39 ?_
  refine tc_nmu eu12 ?_
  cases h
  exact tc_return rfl dX9_begin_42 rfl rfl ⟨rfl, rfl, rfl⟩
set_option maxRecDepth 100000 in
set_option maxHeartbeats 4000000 in
theorem sb_X9_bucketOf_24 {p : Program} {l : Launch} {e : Env} {s : State} {m : MethodId} {args : Array Value} {below : List Frame} {meth : Method} {c : Code} {z : Nat} {D : tc_D} {G : tc_G} (hW : tc_W G) (r : Int32) (ur : tc_S) (s0 : Int32) (u : tc_S) (h : bl_X9_bucketOf_24 G s0 u = some (r, ur)) : tc_R p l e { frames := 0, cells := 0, slots := 0, locals := 0 } s m args below meth c z D cX9_bucketOf RX9 2 (some .int) 0 0 (tc_po r G ur) 0 0 G u 24 [] [.int s0] := by
  unfold bl_X9_bucketOf_24 at h
  cases h
  exact tc_ireturn rfl dX9_bucketOf_24 rfl rfl ⟨rfl, rfl, rfl⟩
set_option maxRecDepth 100000 in
set_option maxHeartbeats 4000000 in
theorem ct_X9_bucketOf {l : Launch} {z : Nat} {D : tc_D} {G : tc_G} (hW : tc_W G) {v0 : Nat} {v1 : Int32} {u : tc_S} {r : Int32} {ur : tc_S} (iv0 : tc_is G v0 9) (h : fn_X9_bucketOf G v0 v1 u = some (r, ur)) : tc_C l z D yX9_bucketOf cX9_bucketOf 2 (some .int) 0 0 0 0 [.ref (z + v0), .int v1] G u (tc_po r G ur) := by
  unfold fn_X9_bucketOf at h
  refine tc_C.of (by decide) (Nat.le_of_ble_eq_true rfl) fun p e s m args below meth c => ?_
  show tc_R p l e { frames := 0, cells := 0, slots := 0, locals := 0 } s m args below meth c z D cX9_bucketOf RX9 2 (some .int) 0 0 (tc_po r G ur) 0 0 G u 0 [(0, .ref (z + v0)), (1, .int v1)] []
  refine tc_aload_n 0 rfl dX9_bucketOf_0 ?_
  refine tc_getp hW iv0 fl_X9_12 dX9_bucketOf_1 rfl ?_
  refine tc_geti (hW.p iv0 0 rfl) fl_X9_98 dX9_bucketOf_4 ?_
  refine tc_iconst (v := 1) (by decide) dX9_bucketOf_7 ?_
  refine tc_icmp_ge 15 dX9_bucketOf_8 (by decide) (fun hc1 => ?_) (fun hc1 => ?_)
  · rw [if_pos hc1] at h
    refine tc_iload_n 1 rfl dX9_bucketOf_15 ?_
    refine tc_aload_n 0 rfl dX9_bucketOf_16 ?_
    refine tc_getp hW iv0 fl_X9_12 dX9_bucketOf_17 rfl ?_
    refine tc_geti (hW.p iv0 0 rfl) fl_X9_98 dX9_bucketOf_20 ?_
    obtain ⟨hz2, h⟩ := tc_nz_ex h
    refine tc_idiv hz2 dX9_bucketOf_23 ?_
    refine tc_lvs [] rfl ?_
    exact sb_X9_bucketOf_24 hW r ur  (v1 / (u.1 (tc_p G v0 0) 1)) u  h
  · rw [if_neg hc1] at h
    refine tc_iconst (v := 0) (by decide) dX9_bucketOf_11 ?_
    refine tc_goto 24 dX9_bucketOf_12 (by decide) ?_
    refine tc_lvs [] rfl ?_
    exact sb_X9_bucketOf_24 hW r ur  0 u  h
set_option maxRecDepth 100000 in
set_option maxHeartbeats 4000000 in
theorem sb_X9_indexOf_78 {p : Program} {l : Launch} {e : Env} {s : State} {m : MethodId} {args : Array Value} {below : List Frame} {meth : Method} {c : Code} {z : Nat} {D : tc_D} {G : tc_G} (hW : tc_W G) (r : Int32) (ur : tc_S) (s0 : Int32) (u : tc_S) (h : bl_X9_indexOf_78 G s0 u = some (r, ur)) : tc_R p l e { frames := 1, cells := 0, slots := 0, locals := 21 } s m args below meth c z D cX9_indexOf RX9 4 (some .int) 0 0 (tc_po r G ur) 0 0 G u 78 [] [.int s0] := by
  unfold bl_X9_indexOf_78 at h
  cases h
  exact tc_ireturn rfl dX9_indexOf_78 rfl rfl ⟨rfl, rfl, rfl⟩
set_option maxRecDepth 100000 in
set_option maxHeartbeats 4000000 in
theorem sb_X9_indexOf_62 {p : Program} {l : Launch} {e : Env} {s : State} {m : MethodId} {args : Array Value} {below : List Frame} {meth : Method} {c : Code} {z : Nat} {D : tc_D} {G : tc_G} (hW : tc_W G) (r : Int32) (ur : tc_S) (v0 : Nat) (v1 : Int32) (v2 : Int32) (s0 : Int32) (u : tc_S) (iv0 : tc_is G v0 9) (h : bl_X9_indexOf_62 G v0 v1 v2 s0 u = some (r, ur)) : tc_R p l e { frames := 1, cells := 0, slots := 0, locals := 21 } s m args below meth c z D cX9_indexOf RX9 4 (some .int) 0 0 (tc_po r G ur) 0 0 G u 62 [(0, .ref (z + v0)), (1, .int v1), (2, .int v2)] [.int s0] := by
  unfold bl_X9_indexOf_62 at h
  refine tc_istore_n [(3, .int s0), (0, .ref (z + v0)), (1, .int v1), (2, .int v2)] dX9_indexOf_62 (by decide) rfl ?_
  refine tc_iload_n 0 rfl dX9_indexOf_63 ?_
  refine tc_if_eq 77 dX9_indexOf_64 (by decide) (fun hc1 => ?_) (fun hc1 => ?_)
  · rw [if_pos hc1] at h
    refine tc_iconst (v := (-1)) (by decide) dX9_indexOf_77 ?_
    refine tc_lvs [] rfl ?_
    exact sb_X9_indexOf_78 hW r ur  (-1) u  h
  · rw [if_neg hc1] at h
    refine tc_aload_n 1 rfl dX9_indexOf_67 ?_
    refine tc_iload_n 2 rfl dX9_indexOf_68 ?_
    obtain ⟨x2, u3, hq4, h⟩ := tc_b_ex h
    refine tc_callVi [.int v1] dX9_indexOf_69 iv0 (ct_X9_startOf hW iv0 hq4) ml_X9_104 mw_X9_startOf mv_X9_startOf ⟨Nat.le_of_ble_eq_true rfl, Nat.le_of_ble_eq_true rfl⟩ rfl rfl (Nat.le_of_ble_eq_true rfl) ⟨Nat.le_refl _, Nat.le_refl _⟩ (by decide) ?_
    refine tc_iload_n 3 rfl dX9_indexOf_72 ?_
    refine tc_iadd dX9_indexOf_73 ?_
    refine tc_goto 78 dX9_indexOf_74 (by decide) ?_
    refine tc_lvs [] rfl ?_
    exact sb_X9_indexOf_78 hW r ur  (x2 + v2) u3  h
set_option maxRecDepth 100000 in
set_option maxHeartbeats 4000000 in
theorem sb_X9_indexOf_61 {p : Program} {l : Launch} {e : Env} {s : State} {m : MethodId} {args : Array Value} {below : List Frame} {meth : Method} {c : Code} {z : Nat} {D : tc_D} {G : tc_G} (hW : tc_W G) (r : Int32) (ur : tc_S) (v0 : Nat) (v1 : Int32) (v2 : Int32) (u : tc_S) (iv0 : tc_is G v0 9) (h : bl_X9_indexOf_61 G v0 v1 v2 u = some (r, ur)) : tc_R p l e { frames := 1, cells := 0, slots := 0, locals := 21 } s m args below meth c z D cX9_indexOf RX9 4 (some .int) 0 0 (tc_po r G ur) 0 0 G u 61 [(0, .ref (z + v0)), (1, .int v1), (2, .int v2)] [] := by
  unfold bl_X9_indexOf_61 at h
  refine tc_iconst (v := 0) (by decide) dX9_indexOf_61 ?_
  exact sb_X9_indexOf_62 hW r ur  v0 v1 v2 0 u iv0 h
set_option maxRecDepth 100000 in
set_option maxHeartbeats 4000000 in
theorem sb_X9_indexOf_30 {p : Program} {l : Launch} {e : Env} {s : State} {m : MethodId} {args : Array Value} {below : List Frame} {meth : Method} {c : Code} {z : Nat} {D : tc_D} {G : tc_G} (hW : tc_W G) (r : Int32) (ur : tc_S) (s0 : Int32) (u : tc_S) (h : bl_X9_indexOf_30 G s0 u = some (r, ur)) : tc_R p l e { frames := 1, cells := 0, slots := 0, locals := 21 } s m args below meth c z D cX9_indexOf RX9 4 (some .int) 0 0 (tc_po r G ur) 0 0 G u 30 [] [.int s0] := by
  unfold bl_X9_indexOf_30 at h
  cases h
  exact tc_ireturn rfl dX9_indexOf_30 rfl rfl ⟨rfl, rfl, rfl⟩
set_option maxRecDepth 100000 in
set_option maxHeartbeats 4000000 in
theorem ct_X9_indexOf {l : Launch} {z : Nat} {D : tc_D} {G : tc_G} (hW : tc_W G) {v0 : Nat} {v1 : Int32} {v2 : Int32} {u : tc_S} {r : Int32} {ur : tc_S} (iv0 : tc_is G v0 9) (h : fn_X9_indexOf G v0 v1 v2 u = some (r, ur)) : tc_C l z D yX9_indexOf cX9_indexOf 4 (some .int) 1 21 0 0 [.ref (z + v0), .int v1, .int v2] G u (tc_po r G ur) := by
  unfold fn_X9_indexOf at h
  refine tc_C.of (by decide) (Nat.le_of_ble_eq_true rfl) fun p e s m args below meth c => ?_
  show tc_R p l e { frames := 1, cells := 0, slots := 0, locals := 21 } s m args below meth c z D cX9_indexOf RX9 4 (some .int) 0 0 (tc_po r G ur) 0 0 G u 0 [(0, .ref (z + v0)), (1, .int v1), (2, .int v2)] []
  refine tc_iload_n 2 rfl dX9_indexOf_0 ?_
  refine tc_if_ge 6 dX9_indexOf_1 (by decide) (fun hc5 => ?_) (fun hc5 => ?_)
  · rw [if_pos hc5] at h
    refine tc_iload_n 1 rfl dX9_indexOf_6 ?_
    refine tc_bipush (v := 100) (by decide) dX9_indexOf_7 ?_
    refine tc_icmp_ne 31 dX9_indexOf_9 (by decide) (fun hc6 => ?_) (fun hc6 => ?_)
    · rw [if_neg hc6] at h
      refine tc_iload_n 1 rfl dX9_indexOf_31 ?_
      refine tc_if_lt 61 dX9_indexOf_32 (by decide) (fun hc7 => ?_) (fun hc7 => ?_)
      · rw [if_pos hc7] at h
        exact sb_X9_indexOf_61 hW r ur  v0 v1 v2 u iv0 h
      · rw [if_neg hc7] at h
        refine tc_iload_n 1 rfl dX9_indexOf_35 ?_
        refine tc_aload_n 0 rfl dX9_indexOf_36 ?_
        refine tc_getp hW iv0 fl_X9_12 dX9_indexOf_37 rfl ?_
        refine tc_geti (hW.p iv0 0 rfl) fl_X9_101 dX9_indexOf_40 ?_
        refine tc_icmp_ge 61 dX9_indexOf_43 (by decide) (fun hc8 => ?_) (fun hc8 => ?_)
        · rw [if_pos hc8] at h
          exact sb_X9_indexOf_61 hW r ur  v0 v1 v2 u iv0 h
        · rw [if_neg hc8] at h
          refine tc_iload_n 2 rfl dX9_indexOf_46 ?_
          refine tc_aload_n 0 rfl dX9_indexOf_47 ?_
          refine tc_getp hW iv0 fl_X9_12 dX9_indexOf_48 rfl ?_
          refine tc_geti (hW.p iv0 0 rfl) fl_X9_98 dX9_indexOf_51 ?_
          refine tc_icmp_ge 61 dX9_indexOf_54 (by decide) (fun hc9 => ?_) (fun hc9 => ?_)
          · rw [if_pos hc9] at h
            exact sb_X9_indexOf_61 hW r ur  v0 v1 v2 u iv0 h
          · rw [if_neg hc9] at h
            refine tc_iconst (v := 1) (by decide) dX9_indexOf_57 ?_
            refine tc_goto 62 dX9_indexOf_58 (by decide) ?_
            exact sb_X9_indexOf_62 hW r ur  v0 v1 v2 1 u iv0 h
    · rw [if_pos hc6] at h
      refine tc_iload_n 2 rfl dX9_indexOf_12 ?_
      refine tc_aload_n 0 rfl dX9_indexOf_13 ?_
      refine tc_geti iv0 fl_X9_77 dX9_indexOf_14 ?_
      refine tc_icmp_ge 29 dX9_indexOf_17 (by decide) (fun hc10 => ?_) (fun hc10 => ?_)
      · rw [if_pos hc10] at h
        refine tc_iconst (v := (-1)) (by decide) dX9_indexOf_29 ?_
        refine tc_lvs [] rfl ?_
        exact sb_X9_indexOf_30 hW r ur  (-1) u  h
      · rw [if_neg hc10] at h
        refine tc_aload_n 0 rfl dX9_indexOf_20 ?_
        refine tc_geti iv0 fl_X9_22 dX9_indexOf_21 ?_
        refine tc_iload_n 2 rfl dX9_indexOf_24 ?_
        refine tc_iadd dX9_indexOf_25 ?_
        refine tc_goto 30 dX9_indexOf_26 (by decide) ?_
        refine tc_lvs [] rfl ?_
        exact sb_X9_indexOf_30 hW r ur  ((u.1 v0 1) + v2) u  h
  · rw [if_neg hc5] at h
    refine tc_iconst (v := (-1)) (by decide) dX9_indexOf_4 ?_
    cases h
    exact tc_ireturn rfl dX9_indexOf_5 rfl rfl ⟨rfl, rfl, rfl⟩
set_option maxRecDepth 100000 in
set_option maxHeartbeats 4000000 in
theorem sb_X9_otherOf_42 {p : Program} {l : Launch} {e : Env} {s : State} {m : MethodId} {args : Array Value} {below : List Frame} {meth : Method} {c : Code} {z : Nat} {D : tc_D} {G : tc_G} (hW : tc_W G) (r : Int32) (ur : tc_S) (s0 : Int32) (u : tc_S) (h : bl_X9_otherOf_42 G s0 u = some (r, ur)) : tc_R p l e { frames := 0, cells := 0, slots := 0, locals := 0 } s m args below meth c z D cX9_otherOf RX9 3 (some .int) 0 0 (tc_po r G ur) 0 0 G u 42 [] [.int s0] := by
  unfold bl_X9_otherOf_42 at h
  cases h
  exact tc_ireturn rfl dX9_otherOf_42 rfl rfl ⟨rfl, rfl, rfl⟩
set_option maxRecDepth 100000 in
set_option maxHeartbeats 4000000 in
theorem ct_X9_otherOf {l : Launch} {z : Nat} {D : tc_D} {G : tc_G} (hW : tc_W G) {v0 : Nat} {v1 : Int32} {v2 : Int32} {u : tc_S} {r : Int32} {ur : tc_S} (iv0 : tc_is G v0 9) (h : fn_X9_otherOf G v0 v1 v2 u = some (r, ur)) : tc_C l z D yX9_otherOf cX9_otherOf 3 (some .int) 0 0 0 0 [.ref (z + v0), .int v1, .int v2] G u (tc_po r G ur) := by
  unfold fn_X9_otherOf at h
  refine tc_C.of (by decide) (Nat.le_of_ble_eq_true rfl) fun p e s m args below meth c => ?_
  show tc_R p l e { frames := 0, cells := 0, slots := 0, locals := 0 } s m args below meth c z D cX9_otherOf RX9 3 (some .int) 0 0 (tc_po r G ur) 0 0 G u 0 [(0, .ref (z + v0)), (1, .int v1), (2, .int v2)] []
  refine tc_aload_n 0 rfl dX9_otherOf_0 ?_
  refine tc_getp hW iv0 fl_X9_41 dX9_otherOf_1 rfl ?_
  refine tc_iload_n 1 rfl dX9_otherOf_4 ?_
  obtain ⟨bx1, x1, ex1, h⟩ := tc_ld_ex h
  refine tc_iald (hW.p iv0 7 rfl) bx1 dX9_otherOf_5 ?_
  refine tc_nm ex1 ?_
  refine tc_aload_n 0 rfl dX9_otherOf_6 ?_
  refine tc_getp hW iv0 fl_X9_44 dX9_otherOf_7 rfl ?_
  refine tc_iload_n 1 rfl dX9_otherOf_10 ?_
  obtain ⟨bx2, x2, ex2, h⟩ := tc_ld_ex h
  refine tc_iald (hW.p iv0 8 rfl) bx2 dX9_otherOf_11 ?_
  refine tc_nm ex2 ?_
  refine tc_icmp_ne 17 dX9_otherOf_12 (by decide) (fun hc3 => ?_) (fun hc3 => ?_)
  · rw [if_neg hc3] at h
    refine tc_aload_n 0 rfl dX9_otherOf_17 ?_
    refine tc_getp hW iv0 fl_X9_41 dX9_otherOf_18 rfl ?_
    refine tc_iload_n 1 rfl dX9_otherOf_21 ?_
    obtain ⟨bx4, x4, ex4, h⟩ := tc_ld_ex h
    refine tc_iald (hW.p iv0 7 rfl) bx4 dX9_otherOf_22 ?_
    refine tc_nm ex4 ?_
    refine tc_iload_n 2 rfl dX9_otherOf_23 ?_
    refine tc_icmp_ne 36 dX9_otherOf_24 (by decide) (fun hc5 => ?_) (fun hc5 => ?_)
    · rw [if_neg hc5] at h
      refine tc_aload_n 0 rfl dX9_otherOf_36 ?_
      refine tc_getp hW iv0 fl_X9_41 dX9_otherOf_37 rfl ?_
      refine tc_iload_n 1 rfl dX9_otherOf_40 ?_
      obtain ⟨bx6, x6, ex6, h⟩ := tc_ld_ex h
      refine tc_iald (hW.p iv0 7 rfl) bx6 dX9_otherOf_41 ?_
      refine tc_nm ex6 ?_
      refine tc_lvs [] rfl ?_
      exact sb_X9_otherOf_42 hW r ur  x6 u  h
    · rw [if_pos hc5] at h
      refine tc_aload_n 0 rfl dX9_otherOf_27 ?_
      refine tc_getp hW iv0 fl_X9_44 dX9_otherOf_28 rfl ?_
      refine tc_iload_n 1 rfl dX9_otherOf_31 ?_
      obtain ⟨bx7, x7, ex7, h⟩ := tc_ld_ex h
      refine tc_iald (hW.p iv0 8 rfl) bx7 dX9_otherOf_32 ?_
      refine tc_nm ex7 ?_
      refine tc_goto 42 dX9_otherOf_33 (by decide) ?_
      refine tc_lvs [] rfl ?_
      exact sb_X9_otherOf_42 hW r ur  x7 u  h
  · rw [if_pos hc3] at h
    refine tc_iconst (v := (-1)) (by decide) dX9_otherOf_15 ?_
    cases h
    exact tc_ireturn rfl dX9_otherOf_16 rfl rfl ⟨rfl, rfl, rfl⟩
set_option maxRecDepth 100000 in
set_option maxHeartbeats 4000000 in
theorem sb_X9_readsTill_75 {p : Program} {l : Launch} {e : Env} {s : State} {m : MethodId} {args : Array Value} {below : List Frame} {meth : Method} {c : Code} {z : Nat} {D : tc_D} {G : tc_G} (hW : tc_W G) (r : Int32) (ur : tc_S) (s0 : Int32) (u : tc_S) (h : bl_X9_readsTill_75 G s0 u = some (r, ur)) : tc_R p l e { frames := 1, cells := 0, slots := 0, locals := 21 } s m args below meth c z D cX9_readsTill RX9 5 (some .int) 0 0 (tc_po r G ur) 0 0 G u 75 [] [.int s0] := by
  unfold bl_X9_readsTill_75 at h
  cases h
  exact tc_ireturn rfl dX9_readsTill_75 rfl rfl ⟨rfl, rfl, rfl⟩
set_option maxRecDepth 100000 in
set_option maxHeartbeats 4000000 in
theorem sb_X9_readsTill_46 {p : Program} {l : Launch} {e : Env} {s : State} {m : MethodId} {args : Array Value} {below : List Frame} {meth : Method} {c : Code} {z : Nat} {D : tc_D} {G : tc_G} (hW : tc_W G) (r : Int32) (ur : tc_S) (s0 : Int32) (s1 : Int32) (u : tc_S) (h : bl_X9_readsTill_46 G s0 s1 u = some (r, ur)) : tc_R p l e { frames := 1, cells := 0, slots := 0, locals := 21 } s m args below meth c z D cX9_readsTill RX9 5 (some .int) 0 0 (tc_po r G ur) 0 0 G u 46 [] [.int s1, .int s0] := by
  unfold bl_X9_readsTill_46 at h
  refine tc_iadd dX9_readsTill_46 ?_
  cases h
  exact tc_ireturn rfl dX9_readsTill_47 rfl rfl ⟨rfl, rfl, rfl⟩
set_option maxRecDepth 100000 in
set_option maxHeartbeats 4000000 in
theorem sb_X9_readsTill_26 {p : Program} {l : Launch} {e : Env} {s : State} {m : MethodId} {args : Array Value} {below : List Frame} {meth : Method} {c : Code} {z : Nat} {D : tc_D} {G : tc_G} (hW : tc_W G) (r : Int32) (ur : tc_S) (v0 : Nat) (v2 : Int32) (v3 : Int32) (s0 : Int32) (u : tc_S) (iv0 : tc_is G v0 9) (h : bl_X9_readsTill_26 G v0 v2 v3 s0 u = some (r, ur)) : tc_R p l e { frames := 1, cells := 0, slots := 0, locals := 21 } s m args below meth c z D cX9_readsTill RX9 5 (some .int) 0 0 (tc_po r G ur) 0 0 G u 26 [(0, .ref (z + v0)), (2, .int v2), (3, .int v3)] [.int s0] := by
  unfold bl_X9_readsTill_26 at h
  refine tc_istore [(4, .int s0), (0, .ref (z + v0)), (2, .int v2), (3, .int v3)] dX9_readsTill_26 (by decide) rfl ?_
  refine tc_iload_n 2 rfl dX9_readsTill_28 ?_
  refine tc_if_ge 48 dX9_readsTill_29 (by decide) (fun hc1 => ?_) (fun hc1 => ?_)
  · rw [if_pos hc1] at h
    refine tc_iload_n 2 rfl dX9_readsTill_48 ?_
    refine tc_aload_n 1 rfl dX9_readsTill_49 ?_
    refine tc_geti iv0 fl_X9_22 dX9_readsTill_50 ?_
    refine tc_icmp_lt 61 dX9_readsTill_53 (by decide) (fun hc2 => ?_) (fun hc2 => ?_)
    · rw [if_pos hc2] at h
      refine tc_aload_n 1 rfl dX9_readsTill_61 ?_
      refine tc_iload_n 2 rfl dX9_readsTill_62 ?_
      obtain ⟨x3, u4, hq5, h⟩ := tc_b_ex h
      refine tc_callVi [.int v2] dX9_readsTill_63 iv0 (ct_X9_bucketOf hW iv0 hq5) ml_X9_118 mw_X9_bucketOf mv_X9_bucketOf ⟨Nat.le_of_ble_eq_true rfl, Nat.le_of_ble_eq_true rfl⟩ rfl rfl (Nat.le_of_ble_eq_true rfl) ⟨Nat.le_refl _, Nat.le_refl _⟩ (by decide) ?_
      refine tc_iload_n 3 rfl dX9_readsTill_66 ?_
      refine tc_icmp_ne 74 dX9_readsTill_67 (by decide) (fun hc6 => ?_) (fun hc6 => ?_)
      · rw [if_neg hc6] at h
        refine tc_iconst (v := 2) (by decide) dX9_readsTill_74 ?_
        refine tc_lvs [] rfl ?_
        exact sb_X9_readsTill_75 hW r ur  2 u4  h
      · rw [if_pos hc6] at h
        refine tc_iconst (v := 1) (by decide) dX9_readsTill_70 ?_
        refine tc_goto 75 dX9_readsTill_71 (by decide) ?_
        refine tc_lvs [] rfl ?_
        exact sb_X9_readsTill_75 hW r ur  1 u4  h
    · rw [if_neg hc2] at h
      refine tc_iload 0 rfl dX9_readsTill_56 ?_
      refine tc_iconst (v := 1) (by decide) dX9_readsTill_58 ?_
      refine tc_iadd dX9_readsTill_59 ?_
      cases h
      exact tc_ireturn rfl dX9_readsTill_60 rfl rfl ⟨rfl, rfl, rfl⟩
  · rw [if_neg hc1] at h
    refine tc_iload 0 rfl dX9_readsTill_32 ?_
    refine tc_aload_n 1 rfl dX9_readsTill_34 ?_
    refine tc_geti iv0 fl_X9_77 dX9_readsTill_35 ?_
    refine tc_if_le 45 dX9_readsTill_38 (by decide) (fun hc7 => ?_) (fun hc7 => ?_)
    · rw [if_pos hc7] at h
      refine tc_iconst (v := 0) (by decide) dX9_readsTill_45 ?_
      refine tc_lvs [] rfl ?_
      exact sb_X9_readsTill_46 hW r ur  s0 0 u  h
    · rw [if_neg hc7] at h
      refine tc_iconst (v := 1) (by decide) dX9_readsTill_41 ?_
      refine tc_goto 46 dX9_readsTill_42 (by decide) ?_
      refine tc_lvs [] rfl ?_
      exact sb_X9_readsTill_46 hW r ur  s0 1 u  h
set_option maxRecDepth 100000 in
set_option maxHeartbeats 4000000 in
theorem ct_X9_readsTill {l : Launch} {z : Nat} {D : tc_D} {G : tc_G} (hW : tc_W G) {v0 : Nat} {v1 : Int32} {v2 : Int32} {u : tc_S} {r : Int32} {ur : tc_S} (iv0 : tc_is G v0 9) (h : fn_X9_readsTill G v0 v1 v2 u = some (r, ur)) : tc_C l z D yX9_readsTill cX9_readsTill 5 (some .int) 1 21 0 0 [.ref (z + v0), .int v1, .int v2] G u (tc_po r G ur) := by
  unfold fn_X9_readsTill at h
  refine tc_C.of (by decide) (Nat.le_of_ble_eq_true rfl) fun p e s m args below meth c => ?_
  show tc_R p l e { frames := 1, cells := 0, slots := 0, locals := 21 } s m args below meth c z D cX9_readsTill RX9 5 (some .int) 0 0 (tc_po r G ur) 0 0 G u 0 [(0, .ref (z + v0)), (1, .int v1), (2, .int v2)] []
  refine tc_aload_n 0 rfl dX9_readsTill_0 ?_
  refine tc_getp hW iv0 fl_X9_12 dX9_readsTill_1 rfl ?_
  refine tc_iload_n 1 rfl dX9_readsTill_4 ?_
  obtain ⟨x8, u9, hq10, h⟩ := tc_b_ex h
  refine tc_callVi [.int v1] dX9_readsTill_5 (hW.p iv0 0 rfl) (ct_X8_firstOf hW (hW.p iv0 0 rfl) hq10) ml_X9_108 mw_X8_firstOf mv_X8_firstOf ⟨Nat.le_of_ble_eq_true rfl, Nat.le_of_ble_eq_true rfl⟩ rfl rfl (Nat.le_of_ble_eq_true rfl) ⟨Nat.le_refl _, Nat.le_refl _⟩ (by decide) ?_
  refine tc_istore_n [(3, .int x8), (0, .ref (z + v0)), (1, .int v1), (2, .int v2)] dX9_readsTill_8 (by decide) rfl ?_
  refine tc_iload_n 0 rfl dX9_readsTill_9 ?_
  refine tc_aload_n 1 rfl dX9_readsTill_10 ?_
  refine tc_getp hW iv0 fl_X9_12 dX9_readsTill_11 rfl ?_
  refine tc_iload_n 2 rfl dX9_readsTill_14 ?_
  obtain ⟨x11, u12, hq13, h⟩ := tc_b_ex h
  refine tc_callVi [.int v1] dX9_readsTill_15 (hW.p iv0 0 rfl) (ct_X8_secondOf hW (hW.p iv0 0 rfl) hq13) ml_X9_115 mw_X8_secondOf mv_X8_secondOf ⟨Nat.le_of_ble_eq_true rfl, Nat.le_of_ble_eq_true rfl⟩ rfl rfl (Nat.le_of_ble_eq_true rfl) ⟨Nat.le_refl _, Nat.le_refl _⟩ (by decide) ?_
  refine tc_icmp_ne 25 dX9_readsTill_18 (by decide) (fun hc14 => ?_) (fun hc14 => ?_)
  · rw [if_neg hc14] at h
    refine tc_iconst (v := 2) (by decide) dX9_readsTill_25 ?_
    refine tc_lvs [1, 3, 0] rfl ?_
    exact sb_X9_readsTill_26 hW r ur  v0 v2 x8 2 u12 iv0 h
  · rw [if_pos hc14] at h
    refine tc_iconst (v := 1) (by decide) dX9_readsTill_21 ?_
    refine tc_goto 26 dX9_readsTill_22 (by decide) ?_
    refine tc_lvs [1, 3, 0] rfl ?_
    exact sb_X9_readsTill_26 hW r ur  v0 v2 x8 1 u12 iv0 h
set_option maxRecDepth 100000 in
set_option maxHeartbeats 4000000 in
theorem sb_X9_entriesFrom_27 {p : Program} {l : Launch} {e : Env} {s : State} {m : MethodId} {args : Array Value} {below : List Frame} {meth : Method} {c : Code} {z : Nat} {D : tc_D} {G : tc_G} (hW : tc_W G) (r : Int32) (ur : tc_S) (K5 : Nat → Int32 → Int32 → Int32 → tc_S → Option (Int32 × tc_S)) (hK5 : ∀ (v0 : Nat) (v2 : Int32) (v3 : Int32) (v4 : Int32) (u : tc_S), tc_is G v0 9 → K5 v0 v2 v3 v4 u = some (r, ur) → tc_R p l e { frames := 0, cells := 0, slots := 0, locals := 0 } s m args below meth c z D cX9_entriesFrom RX9 5 (some .int) 0 0 (tc_po r G ur) 0 0 G u 5 [(0, .ref (z + v0)), (2, .int v2), (3, .int v3), (4, .int v4)] []) (v0 : Nat) (v2 : Int32) (v4 : Int32) (s0 : Int32) (s1 : Int32) (u : tc_S) (iv0 : tc_is G v0 9) (h : bl_X9_entriesFrom_27 G K5 v0 v2 v4 s0 s1 u = some (r, ur)) : tc_R p l e { frames := 0, cells := 0, slots := 0, locals := 0 } s m args below meth c z D cX9_entriesFrom RX9 5 (some .int) 0 0 (tc_po r G ur) 0 0 G u 27 [(0, .ref (z + v0)), (2, .int v2), (4, .int v4)] [.int s1, .int s0] := by
  unfold bl_X9_entriesFrom_27 at h
  refine tc_iadd dX9_entriesFrom_27 ?_
  obtain ⟨x1, ex1, h⟩ := tc_let_ex h
  refine tc_nm ex1 ?_
  refine tc_istore_n [(3, .int x1), (0, .ref (z + v0)), (2, .int v2), (4, .int v4)] dX9_entriesFrom_28 (by decide) rfl ?_
  obtain ⟨x2, ex2, h⟩ := tc_let_ex h
  refine tc_iinc 3 (v := x2) [(4, .int x2), (3, .int x1), (0, .ref (z + v0)), (2, .int v2)] dX9_entriesFrom_29 rfl (by rw [ex2]; rfl) (by decide) rfl ?_
  refine tc_goto 5 dX9_entriesFrom_32 (by decide) ?_
  refine tc_lvs [2, 3, 1, 0] rfl ?_
  exact hK5 v0 v2 x1 x2 u iv0 h
set_option maxRecDepth 100000 in
set_option maxHeartbeats 4000000 in
theorem sl_X9_entriesFrom_5 {p : Program} {l : Launch} {e : Env} {s : State} {m : MethodId} {args : Array Value} {below : List Frame} {meth : Method} {c : Code} {z : Nat} {D : tc_D} {G : tc_G} (hW : tc_W G) (r : Int32) (ur : tc_S) : ∀ (n : Nat) (v0 : Nat) (v2 : Int32) (v3 : Int32) (v4 : Int32) (u : tc_S) (iv0 : tc_is G v0 9) (h : lo_X9_entriesFrom_5 G n v0 v2 v3 v4 u = some (r, ur)), tc_R p l e { frames := 0, cells := 0, slots := 0, locals := 0 } s m args below meth c z D cX9_entriesFrom RX9 5 (some .int) 0 0 (tc_po r G ur) 0 0 G u 5 [(0, .ref (z + v0)), (2, .int v2), (3, .int v3), (4, .int v4)] [] := by
  intro n
  induction n with
  | zero => intro v0 v2 v3 v4 u iv0 h; cases h
  | succ n ih =>
    intro v0 v2 v3 v4 u iv0 h
    rw [lo_X9_entriesFrom_5] at h
    refine tc_iload 3 rfl dX9_entriesFrom_5 ?_
    refine tc_iload_n 1 rfl dX9_entriesFrom_7 ?_
    refine tc_icmp_gt 35 dX9_entriesFrom_8 (by decide) (fun hc3 => ?_) (fun hc3 => ?_)
    · rw [if_pos hc3] at h
      refine tc_iload_n 2 rfl dX9_entriesFrom_35 ?_
      cases h
      exact tc_ireturn rfl dX9_entriesFrom_36 rfl rfl ⟨rfl, rfl, rfl⟩
    · rw [if_neg hc3] at h
      refine tc_iload_n 2 rfl dX9_entriesFrom_11 ?_
      refine tc_aload_n 0 rfl dX9_entriesFrom_12 ?_
      refine tc_getp hW iv0 fl_X9_29 dX9_entriesFrom_13 rfl ?_
      refine tc_iload 3 rfl dX9_entriesFrom_16 ?_
      obtain ⟨bx4, x4, ex4, h⟩ := tc_ld_ex h
      refine tc_iald (hW.p iv0 3 rfl) bx4 dX9_entriesFrom_18 ?_
      refine tc_nm ex4 ?_
      refine tc_if_lt 26 dX9_entriesFrom_19 (by decide) (fun hc5 => ?_) (fun hc5 => ?_)
      · rw [if_pos hc5] at h
        refine tc_iconst (v := 0) (by decide) dX9_entriesFrom_26 ?_
        refine tc_lvs [0, 1, 3] rfl ?_
        exact sb_X9_entriesFrom_27 hW r ur _ ih v0 v2 v4 v3 0 u iv0 h
      · rw [if_neg hc5] at h
        refine tc_iconst (v := 1) (by decide) dX9_entriesFrom_22 ?_
        refine tc_goto 27 dX9_entriesFrom_23 (by decide) ?_
        refine tc_lvs [0, 1, 3] rfl ?_
        exact sb_X9_entriesFrom_27 hW r ur _ ih v0 v2 v4 v3 1 u iv0 h
set_option maxRecDepth 100000 in
set_option maxHeartbeats 4000000 in
theorem ct_X9_entriesFrom {l : Launch} {z : Nat} {D : tc_D} {G : tc_G} (hW : tc_W G) {v0 : Nat} {v1 : Int32} {v2 : Int32} {u : tc_S} {r : Int32} {ur : tc_S} (iv0 : tc_is G v0 9) (h : fn_X9_entriesFrom G v0 v1 v2 u = some (r, ur)) : tc_C l z D yX9_entriesFrom cX9_entriesFrom 5 (some .int) 0 0 0 0 [.ref (z + v0), .int v1, .int v2] G u (tc_po r G ur) := by
  unfold fn_X9_entriesFrom at h
  refine tc_C.of (by decide) (Nat.le_of_ble_eq_true rfl) fun p e s m args below meth c => ?_
  show tc_R p l e { frames := 0, cells := 0, slots := 0, locals := 0 } s m args below meth c z D cX9_entriesFrom RX9 5 (some .int) 0 0 (tc_po r G ur) 0 0 G u 0 [(0, .ref (z + v0)), (1, .int v1), (2, .int v2)] []
  refine tc_iconst (v := 0) (by decide) dX9_entriesFrom_0 ?_
  refine tc_istore_n [(3, .int 0), (0, .ref (z + v0)), (1, .int v1), (2, .int v2)] dX9_entriesFrom_1 (by decide) rfl ?_
  refine tc_iload_n 2 rfl dX9_entriesFrom_2 ?_
  refine tc_istore [(4, .int v1), (3, .int 0), (0, .ref (z + v0)), (1, .int v1), (2, .int v2)] dX9_entriesFrom_3 (by decide) rfl ?_
  refine tc_lvs [2, 4, 1, 0] rfl ?_
  exact sl_X9_entriesFrom_5 hW r ur  _ v0 v2 0 v1 u iv0 h
set_option maxRecDepth 100000 in
set_option maxHeartbeats 4000000 in
theorem sb_X9_entriesTill_95 {p : Program} {l : Launch} {e : Env} {s : State} {m : MethodId} {args : Array Value} {below : List Frame} {meth : Method} {c : Code} {z : Nat} {D : tc_D} {G : tc_G} (hW : tc_W G) (r : Int32) (ur : tc_S) (v0 : Nat) (v1 : Int32) (s0 : Int32) (u : tc_S) (iv0 : tc_is G v0 9) (h : bl_X9_entriesTill_95 G v0 v1 s0 u = some (r, ur)) : tc_R p l e { frames := 1, cells := 0, slots := 0, locals := 24 } s m args below meth c z D cX9_entriesTill RX9 5 (some .int) 0 0 (tc_po r G ur) 0 0 G u 95 [(0, .ref (z + v0)), (1, .int v1)] [.int s0] := by
  unfold bl_X9_entriesTill_95 at h
  refine tc_istore [(4, .int s0), (0, .ref (z + v0)), (1, .int v1)] dX9_entriesTill_95 (by decide) rfl ?_
  refine tc_iload 0 rfl dX9_entriesTill_97 ?_
  refine tc_iload_n 2 rfl dX9_entriesTill_99 ?_
  refine tc_iadd dX9_entriesTill_100 ?_
  refine tc_aload_n 1 rfl dX9_entriesTill_101 ?_
  refine tc_geti iv0 fl_X9_22 dX9_entriesTill_102 ?_
  refine tc_isub dX9_entriesTill_105 ?_
  refine tc_iconst (v := 1) (by decide) dX9_entriesTill_106 ?_
  refine tc_iadd dX9_entriesTill_107 ?_
  cases h
  exact tc_ireturn rfl dX9_entriesTill_108 rfl rfl ⟨rfl, rfl, rfl⟩
set_option maxRecDepth 100000 in
set_option maxHeartbeats 4000000 in
theorem sb_X9_entriesTill_35 {p : Program} {l : Launch} {e : Env} {s : State} {m : MethodId} {args : Array Value} {below : List Frame} {meth : Method} {c : Code} {z : Nat} {D : tc_D} {G : tc_G} (hW : tc_W G) (r : Int32) (ur : tc_S) (v0 : Nat) (v1 : Int32) (v2 : Int32) (u : tc_S) (iv0 : tc_is G v0 9) (h : bl_X9_entriesTill_35 G v0 v1 v2 u = some (r, ur)) : tc_R p l e { frames := 1, cells := 0, slots := 0, locals := 24 } s m args below meth c z D cX9_entriesTill RX9 5 (some .int) 0 0 (tc_po r G ur) 0 0 G u 35 [(0, .ref (z + v0)), (1, .int v1), (2, .int v2)] [] := by
  unfold bl_X9_entriesTill_35 at h
  refine tc_aload_n 0 rfl dX9_entriesTill_35 ?_
  refine tc_getp hW iv0 fl_X9_44 dX9_entriesTill_36 rfl ?_
  refine tc_iload_n 1 rfl dX9_entriesTill_39 ?_
  obtain ⟨bx1, x1, ex1, h⟩ := tc_ld_ex h
  refine tc_iald (hW.p iv0 8 rfl) bx1 dX9_entriesTill_40 ?_
  refine tc_nm ex1 ?_
  refine tc_istore_n [(3, .int x1), (0, .ref (z + v0)), (1, .int v1), (2, .int v2)] dX9_entriesTill_41 (by decide) rfl ?_
  refine tc_iload_n 2 rfl dX9_entriesTill_42 ?_
  refine tc_aload_n 1 rfl dX9_entriesTill_43 ?_
  refine tc_geti iv0 fl_X9_22 dX9_entriesTill_44 ?_
  refine tc_icmp_ge 68 dX9_entriesTill_47 (by decide) (fun hc2 => ?_) (fun hc2 => ?_)
  · rw [if_pos hc2] at h
    refine tc_iload_n 3 rfl dX9_entriesTill_68 ?_
    refine tc_iload_n 0 rfl dX9_entriesTill_69 ?_
    refine tc_icmp_ne 82 dX9_entriesTill_70 (by decide) (fun hc3 => ?_) (fun hc3 => ?_)
    · rw [if_neg hc3] at h
      refine tc_aload_n 1 rfl dX9_entriesTill_82 ?_
      refine tc_getp hW iv0 fl_X9_18 dX9_entriesTill_83 rfl ?_
      refine tc_iload_n 3 rfl dX9_entriesTill_86 ?_
      obtain ⟨bx4, x4, ex4, h⟩ := tc_ld_ex h
      refine tc_iald (hW.p iv0 9 rfl) bx4 dX9_entriesTill_87 ?_
      refine tc_nm ex4 ?_
      refine tc_aload_n 1 rfl dX9_entriesTill_88 ?_
      refine tc_getp hW iv0 fl_X9_18 dX9_entriesTill_89 rfl ?_
      refine tc_iload_n 0 rfl dX9_entriesTill_92 ?_
      obtain ⟨bx5, x5, ex5, h⟩ := tc_ld_ex h
      refine tc_iald (hW.p iv0 9 rfl) bx5 dX9_entriesTill_93 ?_
      refine tc_nm ex5 ?_
      refine tc_iadd dX9_entriesTill_94 ?_
      refine tc_lvs [1, 2] rfl ?_
      exact sb_X9_entriesTill_95 hW r ur  v0 v1 (x4 + x5) u iv0 h
    · rw [if_pos hc3] at h
      refine tc_aload_n 1 rfl dX9_entriesTill_73 ?_
      refine tc_getp hW iv0 fl_X9_18 dX9_entriesTill_74 rfl ?_
      refine tc_iload_n 3 rfl dX9_entriesTill_77 ?_
      obtain ⟨bx6, x6, ex6, h⟩ := tc_ld_ex h
      refine tc_iald (hW.p iv0 9 rfl) bx6 dX9_entriesTill_78 ?_
      refine tc_nm ex6 ?_
      refine tc_goto 95 dX9_entriesTill_79 (by decide) ?_
      refine tc_lvs [1, 2] rfl ?_
      exact sb_X9_entriesTill_95 hW r ur  v0 v1 x6 u iv0 h
  · rw [if_neg hc2] at h
    refine tc_aload_n 1 rfl dX9_entriesTill_50 ?_
    refine tc_getp hW iv0 fl_X9_18 dX9_entriesTill_51 rfl ?_
    refine tc_iload_n 3 rfl dX9_entriesTill_54 ?_
    obtain ⟨bx7, x7, ex7, h⟩ := tc_ld_ex h
    refine tc_iald (hW.p iv0 9 rfl) bx7 dX9_entriesTill_55 ?_
    refine tc_nm ex7 ?_
    refine tc_aload_n 1 rfl dX9_entriesTill_56 ?_
    refine tc_aload_n 1 rfl dX9_entriesTill_57 ?_
    refine tc_iload_n 0 rfl dX9_entriesTill_58 ?_
    obtain ⟨x8, u9, hq10, h⟩ := tc_b_ex h
    refine tc_callVi [.int x1] dX9_entriesTill_59 iv0 (ct_X9_startOf hW iv0 hq10) ml_X9_104 mw_X9_startOf mv_X9_startOf ⟨Nat.le_of_ble_eq_true rfl, Nat.le_of_ble_eq_true rfl⟩ rfl rfl (Nat.le_of_ble_eq_true rfl) ⟨Nat.le_refl _, Nat.le_refl _⟩ (by decide) ?_
    refine tc_iload_n 2 rfl dX9_entriesTill_62 ?_
    obtain ⟨x11, u12, hq13, h⟩ := tc_b_ex h
    refine tc_callVi [.int x8, .int v1] dX9_entriesTill_63 iv0 (ct_X9_entriesFrom hW iv0 hq13) ml_X9_121 mw_X9_entriesFrom mv_X9_entriesFrom ⟨Nat.le_of_ble_eq_true rfl, Nat.le_of_ble_eq_true rfl⟩ rfl rfl (Nat.le_of_ble_eq_true rfl) ⟨Nat.le_refl _, Nat.le_refl _⟩ (by decide) ?_
    refine tc_iadd dX9_entriesTill_66 ?_
    cases h
    exact tc_ireturn rfl dX9_entriesTill_67 rfl rfl ⟨rfl, rfl, rfl⟩
set_option maxRecDepth 100000 in
set_option maxHeartbeats 4000000 in
theorem ct_X9_entriesTill {l : Launch} {z : Nat} {D : tc_D} {G : tc_G} (hW : tc_W G) {v0 : Nat} {v1 : Int32} {u : tc_S} {r : Int32} {ur : tc_S} (iv0 : tc_is G v0 9) (h : fn_X9_entriesTill G v0 v1 u = some (r, ur)) : tc_C l z D yX9_entriesTill cX9_entriesTill 5 (some .int) 1 24 0 0 [.ref (z + v0), .int v1] G u (tc_po r G ur) := by
  unfold fn_X9_entriesTill at h
  refine tc_C.of (by decide) (Nat.le_of_ble_eq_true rfl) fun p e s m args below meth c => ?_
  show tc_R p l e { frames := 1, cells := 0, slots := 0, locals := 24 } s m args below meth c z D cX9_entriesTill RX9 5 (some .int) 0 0 (tc_po r G ur) 0 0 G u 0 [(0, .ref (z + v0)), (1, .int v1)] []
  refine tc_aload_n 0 rfl dX9_entriesTill_0 ?_
  refine tc_getp hW iv0 fl_X9_41 dX9_entriesTill_1 rfl ?_
  refine tc_iload_n 1 rfl dX9_entriesTill_4 ?_
  obtain ⟨bx14, x14, ex14, h⟩ := tc_ld_ex h
  refine tc_iald (hW.p iv0 7 rfl) bx14 dX9_entriesTill_5 ?_
  refine tc_nm ex14 ?_
  refine tc_istore_n [(2, .int x14), (0, .ref (z + v0)), (1, .int v1)] dX9_entriesTill_6 (by decide) rfl ?_
  refine tc_iload_n 2 rfl dX9_entriesTill_7 ?_
  refine tc_aload_n 1 rfl dX9_entriesTill_8 ?_
  refine tc_geti iv0 fl_X9_22 dX9_entriesTill_9 ?_
  refine tc_icmp_ge 35 dX9_entriesTill_12 (by decide) (fun hc15 => ?_) (fun hc15 => ?_)
  · rw [if_pos hc15] at h
    refine tc_lvs [1, 2, 0] rfl ?_
    exact sb_X9_entriesTill_35 hW r ur  v0 v1 x14 u iv0 h
  · rw [if_neg hc15] at h
    refine tc_aload_n 1 rfl dX9_entriesTill_15 ?_
    refine tc_iload_n 2 rfl dX9_entriesTill_16 ?_
    obtain ⟨x16, u17, hq18, h⟩ := tc_b_ex h
    refine tc_callVi [.int v1] dX9_entriesTill_17 iv0 (ct_X9_bucketOf hW iv0 hq18) ml_X9_118 mw_X9_bucketOf mv_X9_bucketOf ⟨Nat.le_of_ble_eq_true rfl, Nat.le_of_ble_eq_true rfl⟩ rfl rfl (Nat.le_of_ble_eq_true rfl) ⟨Nat.le_refl _, Nat.le_refl _⟩ (by decide) ?_
    refine tc_iload_n 0 rfl dX9_entriesTill_20 ?_
    refine tc_icmp_ne 35 dX9_entriesTill_21 (by decide) (fun hc19 => ?_) (fun hc19 => ?_)
    · rw [if_neg hc19] at h
      refine tc_lvs [1, 2, 0] rfl ?_
      exact sb_X9_entriesTill_35 hW r ur  v0 v1 x14 u17 iv0 h
    · rw [if_pos hc19] at h
      refine tc_aload_n 1 rfl dX9_entriesTill_24 ?_
      refine tc_aload_n 1 rfl dX9_entriesTill_25 ?_
      refine tc_iload_n 0 rfl dX9_entriesTill_26 ?_
      obtain ⟨x20, u21, hq22, h⟩ := tc_b_ex h
      refine tc_callVi [.int x14] dX9_entriesTill_27 iv0 (ct_X9_startOf hW iv0 hq22) ml_X9_104 mw_X9_startOf mv_X9_startOf ⟨Nat.le_of_ble_eq_true rfl, Nat.le_of_ble_eq_true rfl⟩ rfl rfl (Nat.le_of_ble_eq_true rfl) ⟨Nat.le_refl _, Nat.le_refl _⟩ (by decide) ?_
      refine tc_iload_n 2 rfl dX9_entriesTill_30 ?_
      obtain ⟨x23, u24, hq25, h⟩ := tc_b_ex h
      refine tc_callVi [.int x20, .int v1] dX9_entriesTill_31 iv0 (ct_X9_entriesFrom hW iv0 hq25) ml_X9_121 mw_X9_entriesFrom mv_X9_entriesFrom ⟨Nat.le_of_ble_eq_true rfl, Nat.le_of_ble_eq_true rfl⟩ rfl rfl (Nat.le_of_ble_eq_true rfl) ⟨Nat.le_refl _, Nat.le_refl _⟩ (by decide) ?_
      cases h
      exact tc_ireturn rfl dX9_entriesTill_34 rfl rfl ⟨rfl, rfl, rfl⟩
set_option maxRecDepth 100000 in
set_option maxHeartbeats 4000000 in
theorem ct_X9_entries {l : Launch} {z : Nat} {D : tc_D} {G : tc_G} (hW : tc_W G) {v0 : Nat} {u : tc_S} {r : Int32} {ur : tc_S} (iv0 : tc_is G v0 9) (h : fn_X9_entries G v0 u = some (r, ur)) : tc_C l z D yX9_entries cX9_entries 1 (some .int) 1 24 0 0 [.ref (z + v0)] G u (tc_po r G ur) := by
  unfold fn_X9_entries at h
  refine tc_C.of (by decide) (Nat.le_of_ble_eq_true rfl) fun p e s m args below meth c => ?_
  show tc_R p l e { frames := 1, cells := 0, slots := 0, locals := 24 } s m args below meth c z D cX9_entries RX9 1 (some .int) 0 0 (tc_po r G ur) 0 0 G u 0 [(0, .ref (z + v0))] []
  refine tc_aload_n 0 rfl dX9_entries_0 ?_
  refine tc_iconst (v := 0) (by decide) dX9_entries_1 ?_
  refine tc_aload_n 0 rfl dX9_entries_2 ?_
  refine tc_geti iv0 fl_X9_26 dX9_entries_3 ?_
  refine tc_iconst (v := 1) (by decide) dX9_entries_6 ?_
  refine tc_isub dX9_entries_7 ?_
  obtain ⟨x1, u2, hq3, h⟩ := tc_b_ex h
  refine tc_callVi [.int 0, .int ((u.1 v0 2) - 1)] dX9_entries_8 iv0 (ct_X9_entriesFrom hW iv0 hq3) ml_X9_121 mw_X9_entriesFrom mv_X9_entriesFrom ⟨Nat.le_of_ble_eq_true rfl, Nat.le_of_ble_eq_true rfl⟩ rfl rfl (Nat.le_of_ble_eq_true rfl) ⟨Nat.le_refl _, Nat.le_refl _⟩ (by decide) ?_
  cases h
  exact tc_ireturn rfl dX9_entries_11 rfl rfl ⟨rfl, rfl, rfl⟩
set_option maxRecDepth 100000 in
set_option maxHeartbeats 4000000 in
theorem sb_X9_movedInAll_32 {p : Program} {l : Launch} {e : Env} {s : State} {m : MethodId} {args : Array Value} {below : List Frame} {meth : Method} {c : Code} {z : Nat} {D : tc_D} {G : tc_G} (hW : tc_W G) (r : Int32) (ur : tc_S) (K4 : Nat → Int32 → Int32 → tc_S → Option (Int32 × tc_S)) (hK4 : ∀ (v0 : Nat) (v1 : Int32) (v2 : Int32) (u : tc_S), tc_is G v0 9 → K4 v0 v1 v2 u = some (r, ur) → tc_R p l e { frames := 0, cells := 0, slots := 0, locals := 0 } s m args below meth c z D cX9_movedInAll RX9 3 (some .int) 0 0 (tc_po r G ur) 0 0 G u 4 [(0, .ref (z + v0)), (1, .int v1), (2, .int v2)] []) (v0 : Nat) (v2 : Int32) (s0 : Int32) (s1 : Int32) (u : tc_S) (iv0 : tc_is G v0 9) (h : bl_X9_movedInAll_32 G K4 v0 v2 s0 s1 u = some (r, ur)) : tc_R p l e { frames := 0, cells := 0, slots := 0, locals := 0 } s m args below meth c z D cX9_movedInAll RX9 3 (some .int) 0 0 (tc_po r G ur) 0 0 G u 32 [(0, .ref (z + v0)), (2, .int v2)] [.int s1, .int s0] := by
  unfold bl_X9_movedInAll_32 at h
  refine tc_iadd dX9_movedInAll_32 ?_
  obtain ⟨x1, ex1, h⟩ := tc_let_ex h
  refine tc_nm ex1 ?_
  refine tc_istore_n [(1, .int x1), (0, .ref (z + v0)), (2, .int v2)] dX9_movedInAll_33 (by decide) rfl ?_
  obtain ⟨x2, ex2, h⟩ := tc_let_ex h
  refine tc_iinc 2 (v := x2) [(2, .int x2), (1, .int x1), (0, .ref (z + v0))] dX9_movedInAll_34 rfl (by rw [ex2]; rfl) (by decide) rfl ?_
  refine tc_goto 4 dX9_movedInAll_37 (by decide) ?_
  refine tc_lvs [2, 1, 0] rfl ?_
  exact hK4 v0 x1 x2 u iv0 h
set_option maxRecDepth 100000 in
set_option maxHeartbeats 4000000 in
theorem sl_X9_movedInAll_4 {p : Program} {l : Launch} {e : Env} {s : State} {m : MethodId} {args : Array Value} {below : List Frame} {meth : Method} {c : Code} {z : Nat} {D : tc_D} {G : tc_G} (hW : tc_W G) (r : Int32) (ur : tc_S) : ∀ (n : Nat) (v0 : Nat) (v1 : Int32) (v2 : Int32) (u : tc_S) (iv0 : tc_is G v0 9) (h : lo_X9_movedInAll_4 G n v0 v1 v2 u = some (r, ur)), tc_R p l e { frames := 0, cells := 0, slots := 0, locals := 0 } s m args below meth c z D cX9_movedInAll RX9 3 (some .int) 0 0 (tc_po r G ur) 0 0 G u 4 [(0, .ref (z + v0)), (1, .int v1), (2, .int v2)] [] := by
  intro n
  induction n with
  | zero => intro v0 v1 v2 u iv0 h; cases h
  | succ n ih =>
    intro v0 v1 v2 u iv0 h
    rw [lo_X9_movedInAll_4] at h
    refine tc_iload_n 2 rfl dX9_movedInAll_4 ?_
    refine tc_aload_n 0 rfl dX9_movedInAll_5 ?_
    refine tc_geti iv0 fl_X9_26 dX9_movedInAll_6 ?_
    refine tc_icmp_ge 40 dX9_movedInAll_9 (by decide) (fun hc3 => ?_) (fun hc3 => ?_)
    · rw [if_pos hc3] at h
      refine tc_iload_n 1 rfl dX9_movedInAll_40 ?_
      cases h
      exact tc_ireturn rfl dX9_movedInAll_41 rfl rfl ⟨rfl, rfl, rfl⟩
    · rw [if_neg hc3] at h
      refine tc_iload_n 1 rfl dX9_movedInAll_12 ?_
      refine tc_aload_n 0 rfl dX9_movedInAll_13 ?_
      refine tc_getp hW iv0 fl_X9_29 dX9_movedInAll_14 rfl ?_
      refine tc_iload_n 2 rfl dX9_movedInAll_17 ?_
      obtain ⟨bx4, x4, ex4, h⟩ := tc_ld_ex h
      refine tc_iald (hW.p iv0 3 rfl) bx4 dX9_movedInAll_18 ?_
      refine tc_nm ex4 ?_
      refine tc_if_lt 31 dX9_movedInAll_19 (by decide) (fun hc5 => ?_) (fun hc5 => ?_)
      · rw [if_pos hc5] at h
        refine tc_iconst (v := 0) (by decide) dX9_movedInAll_31 ?_
        refine tc_lvs [0, 2] rfl ?_
        exact sb_X9_movedInAll_32 hW r ur _ ih v0 v2 v1 0 u iv0 h
      · rw [if_neg hc5] at h
        refine tc_aload_n 0 rfl dX9_movedInAll_22 ?_
        refine tc_getp hW iv0 fl_X9_38 dX9_movedInAll_23 rfl ?_
        refine tc_iload_n 2 rfl dX9_movedInAll_26 ?_
        obtain ⟨bx6, x6, ex6, h⟩ := tc_ld_ex h
        refine tc_iald (hW.p iv0 6 rfl) bx6 dX9_movedInAll_27 ?_
        refine tc_nm ex6 ?_
        refine tc_goto 32 dX9_movedInAll_28 (by decide) ?_
        refine tc_lvs [0, 2] rfl ?_
        exact sb_X9_movedInAll_32 hW r ur _ ih v0 v2 v1 x6 u iv0 h
set_option maxRecDepth 100000 in
set_option maxHeartbeats 4000000 in
theorem ct_X9_movedInAll {l : Launch} {z : Nat} {D : tc_D} {G : tc_G} (hW : tc_W G) {v0 : Nat} {u : tc_S} {r : Int32} {ur : tc_S} (iv0 : tc_is G v0 9) (h : fn_X9_movedInAll G v0 u = some (r, ur)) : tc_C l z D yX9_movedInAll cX9_movedInAll 3 (some .int) 0 0 0 0 [.ref (z + v0)] G u (tc_po r G ur) := by
  unfold fn_X9_movedInAll at h
  refine tc_C.of (by decide) (Nat.le_of_ble_eq_true rfl) fun p e s m args below meth c => ?_
  show tc_R p l e { frames := 0, cells := 0, slots := 0, locals := 0 } s m args below meth c z D cX9_movedInAll RX9 3 (some .int) 0 0 (tc_po r G ur) 0 0 G u 0 [(0, .ref (z + v0))] []
  refine tc_iconst (v := 0) (by decide) dX9_movedInAll_0 ?_
  refine tc_istore_n [(1, .int 0), (0, .ref (z + v0))] dX9_movedInAll_1 (by decide) rfl ?_
  refine tc_iconst (v := 0) (by decide) dX9_movedInAll_2 ?_
  refine tc_istore_n [(2, .int 0), (1, .int 0), (0, .ref (z + v0))] dX9_movedInAll_3 (by decide) rfl ?_
  refine tc_lvs [2, 1, 0] rfl ?_
  exact sl_X9_movedInAll_4 hW r ur  _ v0 0 0 u iv0 h
set_option maxRecDepth 100000 in
set_option maxHeartbeats 4000000 in
theorem sb_X9_movedMost_41 {p : Program} {l : Launch} {e : Env} {s : State} {m : MethodId} {args : Array Value} {below : List Frame} {meth : Method} {c : Code} {z : Nat} {D : tc_D} {G : tc_G} (hW : tc_W G) (r : Int32) (ur : tc_S) (K4 : Nat → Int32 → Int32 → tc_S → Option (Int32 × tc_S)) (hK4 : ∀ (v0 : Nat) (v1 : Int32) (v2 : Int32) (u : tc_S), tc_is G v0 9 → K4 v0 v1 v2 u = some (r, ur) → tc_R p l e { frames := 0, cells := 0, slots := 0, locals := 0 } s m args below meth c z D cX9_movedMost RX9 3 (some .int) 0 0 (tc_po r G ur) 0 0 G u 4 [(0, .ref (z + v0)), (1, .int v1), (2, .int v2)] []) (v0 : Nat) (v2 : Int32) (s0 : Int32) (u : tc_S) (iv0 : tc_is G v0 9) (h : bl_X9_movedMost_41 G K4 v0 v2 s0 u = some (r, ur)) : tc_R p l e { frames := 0, cells := 0, slots := 0, locals := 0 } s m args below meth c z D cX9_movedMost RX9 3 (some .int) 0 0 (tc_po r G ur) 0 0 G u 41 [(0, .ref (z + v0)), (2, .int v2)] [.int s0] := by
  unfold bl_X9_movedMost_41 at h
  refine tc_istore_n [(1, .int s0), (0, .ref (z + v0)), (2, .int v2)] dX9_movedMost_41 (by decide) rfl ?_
  obtain ⟨x1, ex1, h⟩ := tc_let_ex h
  refine tc_iinc 2 (v := x1) [(2, .int x1), (1, .int s0), (0, .ref (z + v0))] dX9_movedMost_42 rfl (by rw [ex1]; rfl) (by decide) rfl ?_
  refine tc_goto 4 dX9_movedMost_45 (by decide) ?_
  refine tc_lvs [2, 1, 0] rfl ?_
  exact hK4 v0 s0 x1 u iv0 h
set_option maxRecDepth 100000 in
set_option maxHeartbeats 4000000 in
theorem sb_X9_movedMost_40 {p : Program} {l : Launch} {e : Env} {s : State} {m : MethodId} {args : Array Value} {below : List Frame} {meth : Method} {c : Code} {z : Nat} {D : tc_D} {G : tc_G} (hW : tc_W G) (r : Int32) (ur : tc_S) (K4 : Nat → Int32 → Int32 → tc_S → Option (Int32 × tc_S)) (hK4 : ∀ (v0 : Nat) (v1 : Int32) (v2 : Int32) (u : tc_S), tc_is G v0 9 → K4 v0 v1 v2 u = some (r, ur) → tc_R p l e { frames := 0, cells := 0, slots := 0, locals := 0 } s m args below meth c z D cX9_movedMost RX9 3 (some .int) 0 0 (tc_po r G ur) 0 0 G u 4 [(0, .ref (z + v0)), (1, .int v1), (2, .int v2)] []) (v0 : Nat) (v1 : Int32) (v2 : Int32) (u : tc_S) (iv0 : tc_is G v0 9) (h : bl_X9_movedMost_40 G K4 v0 v1 v2 u = some (r, ur)) : tc_R p l e { frames := 0, cells := 0, slots := 0, locals := 0 } s m args below meth c z D cX9_movedMost RX9 3 (some .int) 0 0 (tc_po r G ur) 0 0 G u 40 [(0, .ref (z + v0)), (1, .int v1), (2, .int v2)] [] := by
  unfold bl_X9_movedMost_40 at h
  refine tc_iload_n 1 rfl dX9_movedMost_40 ?_
  refine tc_lvs [0, 2] rfl ?_
  exact sb_X9_movedMost_41 hW r ur K4 hK4 v0 v2 v1 u iv0 h
set_option maxRecDepth 100000 in
set_option maxHeartbeats 4000000 in
theorem sl_X9_movedMost_4 {p : Program} {l : Launch} {e : Env} {s : State} {m : MethodId} {args : Array Value} {below : List Frame} {meth : Method} {c : Code} {z : Nat} {D : tc_D} {G : tc_G} (hW : tc_W G) (r : Int32) (ur : tc_S) : ∀ (n : Nat) (v0 : Nat) (v1 : Int32) (v2 : Int32) (u : tc_S) (iv0 : tc_is G v0 9) (h : lo_X9_movedMost_4 G n v0 v1 v2 u = some (r, ur)), tc_R p l e { frames := 0, cells := 0, slots := 0, locals := 0 } s m args below meth c z D cX9_movedMost RX9 3 (some .int) 0 0 (tc_po r G ur) 0 0 G u 4 [(0, .ref (z + v0)), (1, .int v1), (2, .int v2)] [] := by
  intro n
  induction n with
  | zero => intro v0 v1 v2 u iv0 h; cases h
  | succ n ih =>
    intro v0 v1 v2 u iv0 h
    rw [lo_X9_movedMost_4] at h
    refine tc_iload_n 2 rfl dX9_movedMost_4 ?_
    refine tc_aload_n 0 rfl dX9_movedMost_5 ?_
    refine tc_geti iv0 fl_X9_26 dX9_movedMost_6 ?_
    refine tc_icmp_ge 48 dX9_movedMost_9 (by decide) (fun hc2 => ?_) (fun hc2 => ?_)
    · rw [if_pos hc2] at h
      refine tc_iload_n 1 rfl dX9_movedMost_48 ?_
      cases h
      exact tc_ireturn rfl dX9_movedMost_49 rfl rfl ⟨rfl, rfl, rfl⟩
    · rw [if_neg hc2] at h
      refine tc_aload_n 0 rfl dX9_movedMost_12 ?_
      refine tc_getp hW iv0 fl_X9_29 dX9_movedMost_13 rfl ?_
      refine tc_iload_n 2 rfl dX9_movedMost_16 ?_
      obtain ⟨bx3, x3, ex3, h⟩ := tc_ld_ex h
      refine tc_iald (hW.p iv0 3 rfl) bx3 dX9_movedMost_17 ?_
      refine tc_nm ex3 ?_
      refine tc_if_lt 40 dX9_movedMost_18 (by decide) (fun hc4 => ?_) (fun hc4 => ?_)
      · rw [if_pos hc4] at h
        exact sb_X9_movedMost_40 hW r ur _ ih v0 v1 v2 u iv0 h
      · rw [if_neg hc4] at h
        refine tc_aload_n 0 rfl dX9_movedMost_21 ?_
        refine tc_getp hW iv0 fl_X9_38 dX9_movedMost_22 rfl ?_
        refine tc_iload_n 2 rfl dX9_movedMost_25 ?_
        obtain ⟨bx5, x5, ex5, h⟩ := tc_ld_ex h
        refine tc_iald (hW.p iv0 6 rfl) bx5 dX9_movedMost_26 ?_
        refine tc_nm ex5 ?_
        refine tc_iload_n 1 rfl dX9_movedMost_27 ?_
        refine tc_icmp_le 40 dX9_movedMost_28 (by decide) (fun hc6 => ?_) (fun hc6 => ?_)
        · rw [if_pos hc6] at h
          exact sb_X9_movedMost_40 hW r ur _ ih v0 v1 v2 u iv0 h
        · rw [if_neg hc6] at h
          refine tc_aload_n 0 rfl dX9_movedMost_31 ?_
          refine tc_getp hW iv0 fl_X9_38 dX9_movedMost_32 rfl ?_
          refine tc_iload_n 2 rfl dX9_movedMost_35 ?_
          obtain ⟨bx7, x7, ex7, h⟩ := tc_ld_ex h
          refine tc_iald (hW.p iv0 6 rfl) bx7 dX9_movedMost_36 ?_
          refine tc_nm ex7 ?_
          refine tc_goto 41 dX9_movedMost_37 (by decide) ?_
          refine tc_lvs [0, 2] rfl ?_
          exact sb_X9_movedMost_41 hW r ur _ ih v0 v2 x7 u iv0 h
set_option maxRecDepth 100000 in
set_option maxHeartbeats 4000000 in
theorem ct_X9_movedMost {l : Launch} {z : Nat} {D : tc_D} {G : tc_G} (hW : tc_W G) {v0 : Nat} {u : tc_S} {r : Int32} {ur : tc_S} (iv0 : tc_is G v0 9) (h : fn_X9_movedMost G v0 u = some (r, ur)) : tc_C l z D yX9_movedMost cX9_movedMost 3 (some .int) 0 0 0 0 [.ref (z + v0)] G u (tc_po r G ur) := by
  unfold fn_X9_movedMost at h
  refine tc_C.of (by decide) (Nat.le_of_ble_eq_true rfl) fun p e s m args below meth c => ?_
  show tc_R p l e { frames := 0, cells := 0, slots := 0, locals := 0 } s m args below meth c z D cX9_movedMost RX9 3 (some .int) 0 0 (tc_po r G ur) 0 0 G u 0 [(0, .ref (z + v0))] []
  refine tc_iconst (v := 0) (by decide) dX9_movedMost_0 ?_
  refine tc_istore_n [(1, .int 0), (0, .ref (z + v0))] dX9_movedMost_1 (by decide) rfl ?_
  refine tc_iconst (v := 0) (by decide) dX9_movedMost_2 ?_
  refine tc_istore_n [(2, .int 0), (1, .int 0), (0, .ref (z + v0))] dX9_movedMost_3 (by decide) rfl ?_
  refine tc_lvs [2, 1, 0] rfl ?_
  exact sl_X9_movedMost_4 hW r ur  _ v0 0 0 u iv0 h
set_option maxRecDepth 100000 in
set_option maxHeartbeats 4000000 in
theorem sb_X9_readsMost_47 {p : Program} {l : Launch} {e : Env} {s : State} {m : MethodId} {args : Array Value} {below : List Frame} {meth : Method} {c : Code} {z : Nat} {D : tc_D} {G : tc_G} (hW : tc_W G) (r : Int32) (ur : tc_S) (K4 : Nat → Int32 → Int32 → tc_S → Option (Int32 × tc_S)) (hK4 : ∀ (v0 : Nat) (v1 : Int32) (v2 : Int32) (u : tc_S), tc_is G v0 9 → K4 v0 v1 v2 u = some (r, ur) → tc_R p l e { frames := 2, cells := 0, slots := 0, locals := 45 } s m args below meth c z D cX9_readsMost RX9 4 (some .int) 0 0 (tc_po r G ur) 0 0 G u 4 [(0, .ref (z + v0)), (1, .int v1), (2, .int v2)] []) (v0 : Nat) (v2 : Int32) (s0 : Int32) (u : tc_S) (iv0 : tc_is G v0 9) (h : bl_X9_readsMost_47 G K4 v0 v2 s0 u = some (r, ur)) : tc_R p l e { frames := 2, cells := 0, slots := 0, locals := 45 } s m args below meth c z D cX9_readsMost RX9 4 (some .int) 0 0 (tc_po r G ur) 0 0 G u 47 [(0, .ref (z + v0)), (2, .int v2)] [.int s0] := by
  unfold bl_X9_readsMost_47 at h
  refine tc_istore_n [(1, .int s0), (0, .ref (z + v0)), (2, .int v2)] dX9_readsMost_47 (by decide) rfl ?_
  obtain ⟨x1, ex1, h⟩ := tc_let_ex h
  refine tc_iinc 2 (v := x1) [(2, .int x1), (1, .int s0), (0, .ref (z + v0))] dX9_readsMost_48 rfl (by rw [ex1]; rfl) (by decide) rfl ?_
  refine tc_goto 4 dX9_readsMost_51 (by decide) ?_
  refine tc_lvs [2, 1, 0] rfl ?_
  exact hK4 v0 s0 x1 u iv0 h
set_option maxRecDepth 100000 in
set_option maxHeartbeats 4000000 in
theorem sb_X9_readsMost_36 {p : Program} {l : Launch} {e : Env} {s : State} {m : MethodId} {args : Array Value} {below : List Frame} {meth : Method} {c : Code} {z : Nat} {D : tc_D} {G : tc_G} (hW : tc_W G) (r : Int32) (ur : tc_S) (K4 : Nat → Int32 → Int32 → tc_S → Option (Int32 × tc_S)) (hK4 : ∀ (v0 : Nat) (v1 : Int32) (v2 : Int32) (u : tc_S), tc_is G v0 9 → K4 v0 v1 v2 u = some (r, ur) → tc_R p l e { frames := 2, cells := 0, slots := 0, locals := 45 } s m args below meth c z D cX9_readsMost RX9 4 (some .int) 0 0 (tc_po r G ur) 0 0 G u 4 [(0, .ref (z + v0)), (1, .int v1), (2, .int v2)] []) (v0 : Nat) (v1 : Int32) (v2 : Int32) (s0 : Int32) (u : tc_S) (iv0 : tc_is G v0 9) (h : bl_X9_readsMost_36 G K4 v0 v1 v2 s0 u = some (r, ur)) : tc_R p l e { frames := 2, cells := 0, slots := 0, locals := 45 } s m args below meth c z D cX9_readsMost RX9 4 (some .int) 0 0 (tc_po r G ur) 0 0 G u 36 [(0, .ref (z + v0)), (1, .int v1), (2, .int v2)] [.int s0] := by
  unfold bl_X9_readsMost_36 at h
  refine tc_istore_n [(3, .int s0), (0, .ref (z + v0)), (1, .int v1), (2, .int v2)] dX9_readsMost_36 (by decide) rfl ?_
  refine tc_iload_n 0 rfl dX9_readsMost_37 ?_
  refine tc_iload_n 2 rfl dX9_readsMost_38 ?_
  refine tc_icmp_le 46 dX9_readsMost_39 (by decide) (fun hc2 => ?_) (fun hc2 => ?_)
  · rw [if_pos hc2] at h
    refine tc_iload_n 2 rfl dX9_readsMost_46 ?_
    refine tc_lvs [1, 3] rfl ?_
    exact sb_X9_readsMost_47 hW r ur K4 hK4 v0 v2 v1 u iv0 h
  · rw [if_neg hc2] at h
    refine tc_iload_n 0 rfl dX9_readsMost_42 ?_
    refine tc_goto 47 dX9_readsMost_43 (by decide) ?_
    refine tc_lvs [1, 3] rfl ?_
    exact sb_X9_readsMost_47 hW r ur K4 hK4 v0 v2 s0 u iv0 h
set_option maxRecDepth 100000 in
set_option maxHeartbeats 4000000 in
theorem sl_X9_readsMost_4 {p : Program} {l : Launch} {e : Env} {s : State} {m : MethodId} {args : Array Value} {below : List Frame} {meth : Method} {c : Code} {z : Nat} {D : tc_D} {G : tc_G} (hW : tc_W G) (r : Int32) (ur : tc_S) : ∀ (n : Nat) (v0 : Nat) (v1 : Int32) (v2 : Int32) (u : tc_S) (iv0 : tc_is G v0 9) (h : lo_X9_readsMost_4 G n v0 v1 v2 u = some (r, ur)), tc_R p l e { frames := 2, cells := 0, slots := 0, locals := 45 } s m args below meth c z D cX9_readsMost RX9 4 (some .int) 0 0 (tc_po r G ur) 0 0 G u 4 [(0, .ref (z + v0)), (1, .int v1), (2, .int v2)] [] := by
  intro n
  induction n with
  | zero => intro v0 v1 v2 u iv0 h; cases h
  | succ n ih =>
    intro v0 v1 v2 u iv0 h
    rw [lo_X9_readsMost_4] at h
    refine tc_iload_n 2 rfl dX9_readsMost_4 ?_
    refine tc_aload_n 0 rfl dX9_readsMost_5 ?_
    refine tc_geti iv0 fl_X9_26 dX9_readsMost_6 ?_
    refine tc_icmp_ge 54 dX9_readsMost_9 (by decide) (fun hc3 => ?_) (fun hc3 => ?_)
    · rw [if_pos hc3] at h
      refine tc_iload_n 1 rfl dX9_readsMost_54 ?_
      cases h
      exact tc_ireturn rfl dX9_readsMost_55 rfl rfl ⟨rfl, rfl, rfl⟩
    · rw [if_neg hc3] at h
      refine tc_aload_n 0 rfl dX9_readsMost_12 ?_
      refine tc_getp hW iv0 fl_X9_29 dX9_readsMost_13 rfl ?_
      refine tc_iload_n 2 rfl dX9_readsMost_16 ?_
      obtain ⟨bx4, x4, ex4, h⟩ := tc_ld_ex h
      refine tc_iald (hW.p iv0 3 rfl) bx4 dX9_readsMost_17 ?_
      refine tc_nm ex4 ?_
      refine tc_if_lt 35 dX9_readsMost_18 (by decide) (fun hc5 => ?_) (fun hc5 => ?_)
      · rw [if_pos hc5] at h
        refine tc_iconst (v := 0) (by decide) dX9_readsMost_35 ?_
        exact sb_X9_readsMost_36 hW r ur _ ih v0 v1 v2 0 u iv0 h
      · rw [if_neg hc5] at h
        refine tc_aload_n 0 rfl dX9_readsMost_21 ?_
        refine tc_aload_n 0 rfl dX9_readsMost_22 ?_
        refine tc_getp hW iv0 fl_X9_29 dX9_readsMost_23 rfl ?_
        refine tc_iload_n 2 rfl dX9_readsMost_26 ?_
        obtain ⟨bx6, x6, ex6, h⟩ := tc_ld_ex h
        refine tc_iald (hW.p iv0 3 rfl) bx6 dX9_readsMost_27 ?_
        refine tc_nm ex6 ?_
        refine tc_iload_n 2 rfl dX9_readsMost_28 ?_
        obtain ⟨x7, u8, hq9, h⟩ := tc_b_ex h
        refine tc_callVi [.int x6, .int v2] dX9_readsMost_29 iv0 (ct_X9_readsTill hW iv0 hq9) ml_X9_124 mw_X9_readsTill mv_X9_readsTill ⟨Nat.le_of_ble_eq_true rfl, Nat.le_of_ble_eq_true rfl⟩ rfl rfl (Nat.le_of_ble_eq_true rfl) ⟨Nat.le_refl _, Nat.le_refl _⟩ (by decide) ?_
        refine tc_goto 36 dX9_readsMost_32 (by decide) ?_
        exact sb_X9_readsMost_36 hW r ur _ ih v0 v1 v2 x7 u8 iv0 h
set_option maxRecDepth 100000 in
set_option maxHeartbeats 4000000 in
theorem ct_X9_readsMost {l : Launch} {z : Nat} {D : tc_D} {G : tc_G} (hW : tc_W G) {v0 : Nat} {u : tc_S} {r : Int32} {ur : tc_S} (iv0 : tc_is G v0 9) (h : fn_X9_readsMost G v0 u = some (r, ur)) : tc_C l z D yX9_readsMost cX9_readsMost 4 (some .int) 2 45 0 0 [.ref (z + v0)] G u (tc_po r G ur) := by
  unfold fn_X9_readsMost at h
  refine tc_C.of (by decide) (Nat.le_of_ble_eq_true rfl) fun p e s m args below meth c => ?_
  show tc_R p l e { frames := 2, cells := 0, slots := 0, locals := 45 } s m args below meth c z D cX9_readsMost RX9 4 (some .int) 0 0 (tc_po r G ur) 0 0 G u 0 [(0, .ref (z + v0))] []
  refine tc_iconst (v := 0) (by decide) dX9_readsMost_0 ?_
  refine tc_istore_n [(1, .int 0), (0, .ref (z + v0))] dX9_readsMost_1 (by decide) rfl ?_
  refine tc_iconst (v := 0) (by decide) dX9_readsMost_2 ?_
  refine tc_istore_n [(2, .int 0), (1, .int 0), (0, .ref (z + v0))] dX9_readsMost_3 (by decide) rfl ?_
  refine tc_lvs [2, 1, 0] rfl ?_
  exact sl_X9_readsMost_4 hW r ur  _ v0 0 0 u iv0 h
set_option maxRecDepth 100000 in
set_option maxHeartbeats 4000000 in
theorem sb_X10_append_46 {p : Program} {l : Launch} {e : Env} {s : State} {m : MethodId} {args : Array Value} {below : List Frame} {meth : Method} {c : Code} {z : Nat} {D : tc_D} {G : tc_G} (hW : tc_W G) (r : Int32) (ur : tc_S) (u : tc_S) (h : bl_X10_append_46 G  u = some (r, ur)) : tc_R p l e { frames := 0, cells := 0, slots := 0, locals := 0 } s m args below meth c z D cX10_append RX10 3 none 0 0 (tc_pv G ur) 0 0 G u 46 [] [] := by
  unfold bl_X10_append_46 at h
  cases h
  exact tc_return rfl dX10_append_46 rfl rfl ⟨rfl, rfl, rfl⟩
set_option maxRecDepth 100000 in
set_option maxHeartbeats 4000000 in
theorem sl_X10_append_3 {p : Program} {l : Launch} {e : Env} {s : State} {m : MethodId} {args : Array Value} {below : List Frame} {meth : Method} {c : Code} {z : Nat} {D : tc_D} {G : tc_G} (hW : tc_W G) (r : Int32) (ur : tc_S) : ∀ (n : Nat) (v0 : Nat) (v1 : Int32) (v2 : Int32) (u : tc_S) (iv0 : tc_is G v0 10) (h : lo_X10_append_3 G n v0 v1 v2 u = some (r, ur)), tc_R p l e { frames := 0, cells := 0, slots := 0, locals := 0 } s m args below meth c z D cX10_append RX10 3 none 0 0 (tc_pv G ur) 0 0 G u 3 [(0, .ref (z + v0)), (1, .int v1), (2, .int v2)] [] := by
  intro n
  induction n with
  | zero => intro v0 v1 v2 u iv0 h; cases h
  | succ n ih =>
    intro v0 v1 v2 u iv0 h
    rw [lo_X10_append_3] at h
    refine tc_iload_n 2 rfl dX10_append_3 ?_
    refine tc_if_lt 46 dX10_append_4 (by decide) (fun hc1 => ?_) (fun hc1 => ?_)
    · rw [if_pos hc1] at h
      refine tc_lvs [] rfl ?_
      exact sb_X10_append_46 hW r ur   u  h
    · rw [if_neg hc1] at h
      refine tc_aload_n 0 rfl dX10_append_7 ?_
      refine tc_geti iv0 fl_X10_28 dX10_append_8 ?_
      refine tc_sipush (v := 400) (by decide) dX10_append_11 ?_
      refine tc_icmp_ge 46 dX10_append_14 (by decide) (fun hc2 => ?_) (fun hc2 => ?_)
      · rw [if_pos hc2] at h
        refine tc_lvs [] rfl ?_
        exact sb_X10_append_46 hW r ur   u  h
      · rw [if_neg hc2] at h
        refine tc_aload_n 0 rfl dX10_append_17 ?_
        refine tc_getp hW iv0 fl_X10_20 dX10_append_18 rfl ?_
        refine tc_aload_n 0 rfl dX10_append_21 ?_
        refine tc_geti iv0 fl_X10_28 dX10_append_22 ?_
        refine tc_iload_n 1 rfl dX10_append_25 ?_
        refine tc_iload_n 2 rfl dX10_append_26 ?_
        refine tc_ishr dX10_append_27 ?_
        refine tc_i2b dX10_append_28 ?_
        obtain ⟨bu3, u3, eu3, h⟩ := tc_sd_ex h
        refine tc_bast (hW.p iv0 1 rfl) bu3 dX10_append_29 ?_
        refine tc_nmu eu3 ?_
        refine tc_aload_n 0 rfl dX10_append_30 ?_
        refine tc_dup rfl dX10_append_31 ?_
        refine tc_geti iv0 fl_X10_28 dX10_append_32 ?_
        refine tc_iconst (v := 1) (by decide) dX10_append_35 ?_
        refine tc_iadd dX10_append_36 ?_
        obtain ⟨u4, eu4, h⟩ := tc_let_ex h
        refine tc_puti iv0 fl_X10_28 dX10_append_37 ?_
        refine tc_nmu eu4 ?_
        obtain ⟨x5, ex5, h⟩ := tc_let_ex h
        refine tc_iinc 2 (v := x5) [(2, .int x5), (0, .ref (z + v0)), (1, .int v1)] dX10_append_40 rfl (by rw [ex5]; rfl) (by decide) rfl ?_
        refine tc_goto 3 dX10_append_43 (by decide) ?_
        refine tc_lvs [1, 2, 0] rfl ?_
        exact ih v0 v1 x5 u4 iv0 h
set_option maxRecDepth 100000 in
set_option maxHeartbeats 4000000 in
theorem ct_X10_append {l : Launch} {z : Nat} {D : tc_D} {G : tc_G} (hW : tc_W G) {v0 : Nat} {v1 : Int32} {u : tc_S} {r : Int32} {ur : tc_S} (iv0 : tc_is G v0 10) (h : fn_X10_append G v0 v1 u = some (r, ur)) : tc_C l z D yX10_append cX10_append 3 none 0 0 0 0 [.ref (z + v0), .int v1] G u (tc_pv G ur) := by
  unfold fn_X10_append at h
  refine tc_C.of (by decide) (Nat.le_of_ble_eq_true rfl) fun p e s m args below meth c => ?_
  show tc_R p l e { frames := 0, cells := 0, slots := 0, locals := 0 } s m args below meth c z D cX10_append RX10 3 none 0 0 (tc_pv G ur) 0 0 G u 0 [(0, .ref (z + v0)), (1, .int v1)] []
  refine tc_bipush (v := 24) (by decide) dX10_append_0 ?_
  refine tc_istore_n [(2, .int 24), (0, .ref (z + v0)), (1, .int v1)] dX10_append_2 (by decide) rfl ?_
  refine tc_lvs [1, 2, 0] rfl ?_
  exact sl_X10_append_3 hW r ur  _ v0 v1 24 u iv0 h
