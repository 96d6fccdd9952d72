set_option maxRecDepth 100000 in
set_option maxHeartbeats 4000000 in
theorem sb_X12_key_77 {p : Program} {l : Launch} {e : Env} {s : State} {m : MethodId} {args : Array Value} {below : List Frame} {meth : Method} {c : Code} {z : Nat} {D : tc_D} {G : tc_G} (hW : tc_W G) (r : Int32) (ur : tc_S) (K7 : Nat → Int32 → Int32 → Int32 → tc_S → Option (Int32 × tc_S)) (hK7 : ∀ (v0 : Nat) (v1 : Int32) (v2 : Int32) (v3 : Int32) (u : tc_S), tc_is G v0 12 → K7 v0 v1 v2 v3 u = some (r, ur) → tc_R p l e { frames := 3, cells := 0, slots := 0, locals := 66 } s m args below meth c z D cX12_key RX12 6 (some .int) 0 0 (tc_po r G ur) 0 0 G u 7 [(0, .ref (z + v0)), (1, .int v1), (2, .int v2), (3, .int v3)] []) (K21 : Nat → Int32 → Int32 → Int32 → Int32 → Int32 → tc_S → Option (Int32 × tc_S)) (hK21 : ∀ (v0 : Nat) (v1 : Int32) (v2 : Int32) (v3 : Int32) (v4 : Int32) (v5 : Int32) (u : tc_S), tc_is G v0 12 → K21 v0 v1 v2 v3 v4 v5 u = some (r, ur) → tc_R p l e { frames := 3, cells := 0, slots := 0, locals := 66 } s m args below meth c z D cX12_key RX12 6 (some .int) 0 0 (tc_po r G ur) 0 0 G u 21 [(0, .ref (z + v0)), (1, .int v1), (2, .int v2), (3, .int v3), (4, .int v4), (5, .int v5)] []) (v0 : Nat) (v1 : Int32) (v2 : Int32) (v3 : Int32) (v5 : Int32) (s0 : Int32) (s1 : Int32) (u : tc_S) (iv0 : tc_is G v0 12) (h : bl_X12_key_77 G K7 K21 v0 v1 v2 v3 v5 s0 s1 u = some (r, ur)) : tc_R p l e { frames := 3, cells := 0, slots := 0, locals := 66 } s m args below meth c z D cX12_key RX12 6 (some .int) 0 0 (tc_po r G ur) 0 0 G u 77 [(0, .ref (z + v0)), (1, .int v1), (2, .int v2), (3, .int v3), (5, .int v5)] [.int s1, .int s0] := by
  unfold bl_X12_key_77 at h
  refine tc_iadd dX12_key_77 ?_
  obtain ⟨x1, ex1, h⟩ := tc_let_ex h
  refine tc_nm ex1 ?_
  refine tc_istore [(4, .int x1), (0, .ref (z + v0)), (1, .int v1), (2, .int v2), (3, .int v3), (5, .int v5)] dX12_key_78 (by decide) rfl ?_
  obtain ⟨x2, ex2, h⟩ := tc_let_ex h
  refine tc_iinc 5 (v := x2) [(5, .int x2), (4, .int x1), (0, .ref (z + v0)), (1, .int v1), (2, .int v2), (3, .int v3)] dX12_key_80 rfl (by rw [ex2]; rfl) (by decide) rfl ?_
  refine tc_goto 21 dX12_key_83 (by decide) ?_
  refine tc_lvs [2, 3, 4, 5, 1, 0] rfl ?_
  exact hK21 v0 v1 v2 v3 x1 x2 u iv0 h
set_option maxRecDepth 100000 in
set_option maxHeartbeats 4000000 in
theorem sb_X12_key_67 {p : Program} {l : Launch} {e : Env} {s : State} {m : MethodId} {args : Array Value} {below : List Frame} {meth : Method} {c : Code} {z : Nat} {D : tc_D} {G : tc_G} (hW : tc_W G) (r : Int32) (ur : tc_S) (K7 : Nat → Int32 → Int32 → Int32 → tc_S → Option (Int32 × tc_S)) (hK7 : ∀ (v0 : Nat) (v1 : Int32) (v2 : Int32) (v3 : Int32) (u : tc_S), tc_is G v0 12 → K7 v0 v1 v2 v3 u = some (r, ur) → tc_R p l e { frames := 3, cells := 0, slots := 0, locals := 66 } s m args below meth c z D cX12_key RX12 6 (some .int) 0 0 (tc_po r G ur) 0 0 G u 7 [(0, .ref (z + v0)), (1, .int v1), (2, .int v2), (3, .int v3)] []) (K21 : Nat → Int32 → Int32 → Int32 → Int32 → Int32 → tc_S → Option (Int32 × tc_S)) (hK21 : ∀ (v0 : Nat) (v1 : Int32) (v2 : Int32) (v3 : Int32) (v4 : Int32) (v5 : Int32) (u : tc_S), tc_is G v0 12 → K21 v0 v1 v2 v3 v4 v5 u = some (r, ur) → tc_R p l e { frames := 3, cells := 0, slots := 0, locals := 66 } s m args below meth c z D cX12_key RX12 6 (some .int) 0 0 (tc_po r G ur) 0 0 G u 21 [(0, .ref (z + v0)), (1, .int v1), (2, .int v2), (3, .int v3), (4, .int v4), (5, .int v5)] []) (v0 : Nat) (v1 : Int32) (v2 : Int32) (v3 : Int32) (v5 : Int32) (s0 : Int32) (s1 : Int32) (s2 : Nat) (s3 : Int32) (s4 : Int32) (u : tc_S) (iv0 : tc_is G v0 12) (is2 : tc_is G s2 100) (h : bl_X12_key_67 G K7 K21 v0 v1 v2 v3 v5 s0 s1 s2 s3 s4 u = some (r, ur)) : tc_R p l e { frames := 3, cells := 0, slots := 0, locals := 66 } s m args below meth c z D cX12_key RX12 6 (some .int) 0 0 (tc_po r G ur) 0 0 G u 67 [(0, .ref (z + v0)), (1, .int v1), (2, .int v2), (3, .int v3), (5, .int v5)] [.int s4, .int s3, .ref (z + s2), .int s1, .int s0] := by
  unfold bl_X12_key_67 at h
  refine tc_iadd dX12_key_67 ?_
  obtain ⟨bx3, x3, ex3, h⟩ := tc_ld_ex h
  refine tc_iald is2.1 bx3 dX12_key_68 ?_
  refine tc_nm ex3 ?_
  refine tc_icmp_ge 76 dX12_key_69 (by decide) (fun hc4 => ?_) (fun hc4 => ?_)
  · rw [if_pos hc4] at h
    refine tc_iconst (v := 0) (by decide) dX12_key_76 ?_
    exact sb_X12_key_77 hW r ur K7 hK7 K21 hK21 v0 v1 v2 v3 v5 s0 0 u iv0 h
  · rw [if_neg hc4] at h
    refine tc_iconst (v := 1) (by decide) dX12_key_72 ?_
    refine tc_goto 77 dX12_key_73 (by decide) ?_
    exact sb_X12_key_77 hW r ur K7 hK7 K21 hK21 v0 v1 v2 v3 v5 s0 1 u iv0 h
set_option maxRecDepth 100000 in
set_option maxHeartbeats 4000000 in
theorem sb_X12_key_49 {p : Program} {l : Launch} {e : Env} {s : State} {m : MethodId} {args : Array Value} {below : List Frame} {meth : Method} {c : Code} {z : Nat} {D : tc_D} {G : tc_G} (hW : tc_W G) (r : Int32) (ur : tc_S) (K7 : Nat → Int32 → Int32 → Int32 → tc_S → Option (Int32 × tc_S)) (hK7 : ∀ (v0 : Nat) (v1 : Int32) (v2 : Int32) (v3 : Int32) (u : tc_S), tc_is G v0 12 → K7 v0 v1 v2 v3 u = some (r, ur) → tc_R p l e { frames := 3, cells := 0, slots := 0, locals := 66 } s m args below meth c z D cX12_key RX12 6 (some .int) 0 0 (tc_po r G ur) 0 0 G u 7 [(0, .ref (z + v0)), (1, .int v1), (2, .int v2), (3, .int v3)] []) (K21 : Nat → Int32 → Int32 → Int32 → Int32 → Int32 → tc_S → Option (Int32 × tc_S)) (hK21 : ∀ (v0 : Nat) (v1 : Int32) (v2 : Int32) (v3 : Int32) (v4 : Int32) (v5 : Int32) (u : tc_S), tc_is G v0 12 → K21 v0 v1 v2 v3 v4 v5 u = some (r, ur) → tc_R p l e { frames := 3, cells := 0, slots := 0, locals := 66 } s m args below meth c z D cX12_key RX12 6 (some .int) 0 0 (tc_po r G ur) 0 0 G u 21 [(0, .ref (z + v0)), (1, .int v1), (2, .int v2), (3, .int v3), (4, .int v4), (5, .int v5)] []) (v0 : Nat) (v1 : Int32) (v2 : Int32) (v3 : Int32) (v5 : Int32) (s0 : Int32) (s1 : Nat) (s2 : Int32) (s3 : Int32) (u : tc_S) (iv0 : tc_is G v0 12) (is1 : tc_is G s1 100) (h : bl_X12_key_49 G K7 K21 v0 v1 v2 v3 v5 s0 s1 s2 s3 u = some (r, ur)) : tc_R p l e { frames := 3, cells := 0, slots := 0, locals := 66 } s m args below meth c z D cX12_key RX12 6 (some .int) 0 0 (tc_po r G ur) 0 0 G u 49 [(0, .ref (z + v0)), (1, .int v1), (2, .int v2), (3, .int v3), (5, .int v5)] [.int s3, .int s2, .ref (z + s1), .int s0] := by
  unfold bl_X12_key_49 at h
  refine tc_iadd dX12_key_49 ?_
  obtain ⟨bx5, x5, ex5, h⟩ := tc_ld_ex h
  refine tc_iald is1.1 bx5 dX12_key_50 ?_
  refine tc_nm ex5 ?_
  refine tc_aload_n 0 rfl dX12_key_51 ?_
  refine tc_getp hW iv0 fl_X12_39 dX12_key_52 rfl ?_
  refine tc_iconst (v := 4) (by decide) dX12_key_55 ?_
  refine tc_iload_n 3 rfl dX12_key_56 ?_
  refine tc_imul dX12_key_57 ?_
  refine tc_iload_n 2 rfl dX12_key_58 ?_
  refine tc_if_eq 66 dX12_key_59 (by decide) (fun hc6 => ?_) (fun hc6 => ?_)
  · rw [if_pos hc6] at h
    refine tc_iconst (v := 0) (by decide) dX12_key_66 ?_
    exact sb_X12_key_67 hW r ur K7 hK7 K21 hK21 v0 v1 v2 v3 v5 s0 x5 (tc_p G v0 11) (4 * v3) 0 u iv0 (hW.p iv0 11 rfl) h
  · rw [if_neg hc6] at h
    refine tc_iconst (v := 2) (by decide) dX12_key_62 ?_
    refine tc_goto 67 dX12_key_63 (by decide) ?_
    exact sb_X12_key_67 hW r ur K7 hK7 K21 hK21 v0 v1 v2 v3 v5 s0 x5 (tc_p G v0 11) (4 * v3) 2 u iv0 (hW.p iv0 11 rfl) h
set_option maxRecDepth 100000 in
set_option maxHeartbeats 4000000 in
theorem sl_X12_key_21 {p : Program} {l : Launch} {e : Env} {s : State} {m : MethodId} {args : Array Value} {below : List Frame} {meth : Method} {c : Code} {z : Nat} {D : tc_D} {G : tc_G} (hW : tc_W G) (r : Int32) (ur : tc_S) (K7 : Nat → Int32 → Int32 → Int32 → tc_S → Option (Int32 × tc_S)) (hK7 : ∀ (v0 : Nat) (v1 : Int32) (v2 : Int32) (v3 : Int32) (u : tc_S), tc_is G v0 12 → K7 v0 v1 v2 v3 u = some (r, ur) → tc_R p l e { frames := 3, cells := 0, slots := 0, locals := 66 } s m args below meth c z D cX12_key RX12 6 (some .int) 0 0 (tc_po r G ur) 0 0 G u 7 [(0, .ref (z + v0)), (1, .int v1), (2, .int v2), (3, .int v3)] []) : ∀ (n : Nat) (v0 : Nat) (v1 : Int32) (v2 : Int32) (v3 : Int32) (v4 : Int32) (v5 : Int32) (u : tc_S) (iv0 : tc_is G v0 12) (h : lo_X12_key_21 G K7 n v0 v1 v2 v3 v4 v5 u = some (r, ur)), tc_R p l e { frames := 3, cells := 0, slots := 0, locals := 66 } s m args below meth c z D cX12_key RX12 6 (some .int) 0 0 (tc_po r G ur) 0 0 G u 21 [(0, .ref (z + v0)), (1, .int v1), (2, .int v2), (3, .int v3), (4, .int v4), (5, .int v5)] [] := by
  intro n
  induction n with
  | zero => intro v0 v1 v2 v3 v4 v5 u iv0 h; cases h
  | succ n ih =>
    intro v0 v1 v2 v3 v4 v5 u iv0 h
    rw [lo_X12_key_21] at h
    refine tc_iload 5 rfl dX12_key_21 ?_
    refine tc_aload_n 0 rfl dX12_key_23 ?_
    refine tc_geti iv0.1 fl_X12_142 dX12_key_24 ?_
    refine tc_icmp_ge 86 dX12_key_27 (by decide) (fun hc7 => ?_) (fun hc7 => ?_)
    · rw [if_pos hc7] at h
      refine tc_iload 4 rfl dX12_key_86 ?_
      refine tc_iload_n 1 rfl dX12_key_88 ?_
      refine tc_icmp_ne 103 dX12_key_89 (by decide) (fun hc8 => ?_) (fun hc8 => ?_)
      · rw [if_neg hc8] at h
        obtain ⟨x9, ex9, h⟩ := tc_let_ex h
        refine tc_iinc 3 (v := x9) [(3, .int x9), (0, .ref (z + v0)), (1, .int v1), (2, .int v2), (4, .int v4), (5, .int v5)] dX12_key_103 rfl (by rw [ex9]; rfl) (by decide) rfl ?_
        refine tc_goto 7 dX12_key_106 (by decide) ?_
        refine tc_lvs [1, 2, 3, 0] rfl ?_
        exact hK7 v0 v1 v2 x9 u iv0 h
      · rw [if_pos hc8] at h
        refine tc_aload_n 0 rfl dX12_key_92 ?_
        refine tc_getp hW iv0 fl_X12_39 dX12_key_93 rfl ?_
        refine tc_iconst (v := 4) (by decide) dX12_key_96 ?_
        refine tc_iload_n 3 rfl dX12_key_97 ?_
        refine tc_imul dX12_key_98 ?_
        obtain ⟨bx10, x10, ex10, h⟩ := tc_ld_ex h
        refine tc_iald (hW.p iv0 11 rfl).1 bx10 dX12_key_99 ?_
        refine tc_nm ex10 ?_
        refine tc_iconst (v := 1) (by decide) dX12_key_100 ?_
        refine tc_isub dX12_key_101 ?_
        cases h
        exact tc_ireturn rfl dX12_key_102 rfl rfl ⟨rfl, rfl, rfl⟩
    · rw [if_neg hc7] at h
      refine tc_iload 4 rfl dX12_key_30 ?_
      refine tc_aload_n 0 rfl dX12_key_32 ?_
      refine tc_getp hW iv0 fl_X12_39 dX12_key_33 rfl ?_
      refine tc_iconst (v := 4) (by decide) dX12_key_36 ?_
      refine tc_iload 5 rfl dX12_key_37 ?_
      refine tc_imul dX12_key_39 ?_
      refine tc_iload_n 2 rfl dX12_key_40 ?_
      refine tc_if_eq 48 dX12_key_41 (by decide) (fun hc11 => ?_) (fun hc11 => ?_)
      · rw [if_pos hc11] at h
        refine tc_iconst (v := 0) (by decide) dX12_key_48 ?_
        refine tc_lvs [0, 1, 2, 3, 5] rfl ?_
        exact sb_X12_key_49 hW r ur K7 hK7 _ ih v0 v1 v2 v3 v5 v4 (tc_p G v0 11) (4 * v5) 0 u iv0 (hW.p iv0 11 rfl) h
      · rw [if_neg hc11] at h
        refine tc_iconst (v := 2) (by decide) dX12_key_44 ?_
        refine tc_goto 49 dX12_key_45 (by decide) ?_
        refine tc_lvs [0, 1, 2, 3, 5] rfl ?_
        exact sb_X12_key_49 hW r ur K7 hK7 _ ih v0 v1 v2 v3 v5 v4 (tc_p G v0 11) (4 * v5) 2 u iv0 (hW.p iv0 11 rfl) h
set_option maxRecDepth 100000 in
set_option maxHeartbeats 4000000 in
theorem sl_X12_key_7 {p : Program} {l : Launch} {e : Env} {s : State} {m : MethodId} {args : Array Value} {below : List Frame} {meth : Method} {c : Code} {z : Nat} {D : tc_D} {G : tc_G} (hW : tc_W G) (r : Int32) (ur : tc_S) : ∀ (n : Nat) (v0 : Nat) (v1 : Int32) (v2 : Int32) (v3 : Int32) (u : tc_S) (iv0 : tc_is G v0 12) (h : lo_X12_key_7 G n v0 v1 v2 v3 u = some (r, ur)), tc_R p l e { frames := 3, cells := 0, slots := 0, locals := 66 } s m args below meth c z D cX12_key RX12 6 (some .int) 0 0 (tc_po r G ur) 0 0 G u 7 [(0, .ref (z + v0)), (1, .int v1), (2, .int v2), (3, .int v3)] [] := by
  intro n
  induction n with
  | zero => intro v0 v1 v2 v3 u iv0 h; cases h
  | succ n ih =>
    intro v0 v1 v2 v3 u iv0 h
    rw [lo_X12_key_7] at h
    refine tc_iload_n 3 rfl dX12_key_7 ?_
    refine tc_aload_n 0 rfl dX12_key_8 ?_
    refine tc_geti iv0.1 fl_X12_142 dX12_key_9 ?_
    refine tc_icmp_ge 109 dX12_key_12 (by decide) (fun hc12 => ?_) (fun hc12 => ?_)
    · rw [if_pos hc12] at h
      refine tc_iconst (v := (-1)) (by decide) dX12_key_109 ?_
      cases h
      exact tc_ireturn rfl dX12_key_110 rfl rfl ⟨rfl, rfl, rfl⟩
    · rw [if_neg hc12] at h
      refine tc_iconst (v := 0) (by decide) dX12_key_15 ?_
      refine tc_istore [(4, .int 0), (0, .ref (z + v0)), (1, .int v1), (2, .int v2), (3, .int v3)] dX12_key_16 (by decide) rfl ?_
      refine tc_iconst (v := 0) (by decide) dX12_key_18 ?_
      refine tc_istore [(5, .int 0), (4, .int 0), (0, .ref (z + v0)), (1, .int v1), (2, .int v2), (3, .int v3)] dX12_key_19 (by decide) rfl ?_
      refine tc_lvs [2, 3, 4, 5, 1, 0] rfl ?_
      exact sl_X12_key_21 hW r ur _ ih _ v0 v1 v2 v3 0 0 u iv0 h
set_option maxRecDepth 100000 in
set_option maxHeartbeats 4000000 in
theorem ct_X12_key {l : Launch} {z : Nat} {D : tc_D} {G : tc_G} (hW : tc_W G) {v0 : Nat} {v1 : Int32} {v2 : Int32} {u : tc_S} {r : Int32} {ur : tc_S} (iv0 : tc_is G v0 12) (h : fn_X12_key G v0 v1 v2 u = some (r, ur)) : tc_C l z D yX12_key cX12_key 6 (some .int) 3 66 0 0 [.ref (z + v0), .int v1, .int v2] G u (tc_po r G ur) := by
  unfold fn_X12_key at h
  refine tc_C.of (by decide) (Nat.le_of_ble_eq_true rfl) fun p e s m args below meth c => ?_
  show tc_R p l e { frames := 3, cells := 0, slots := 0, locals := 66 } s m args below meth c z D cX12_key RX12 6 (some .int) 0 0 (tc_po r G ur) 0 0 G u 0 [(0, .ref (z + v0)), (1, .int v1), (2, .int v2)] []
  refine tc_aload_n 0 rfl dX12_key_0 ?_
  refine tc_iconst (v := 0) (by decide) dX12_key_1 ?_
  obtain ⟨x13, u14, hq15, h⟩ := tc_b_ex h
  refine tc_callVv [.int 0] dX12_key_2 iv0.1 (ct_X12_lists hW iv0 hq15) ml_X12_152 mw_X12_lists mv_X12_lists ⟨Nat.le_of_ble_eq_true rfl, Nat.le_of_ble_eq_true rfl⟩ rfl rfl (Nat.le_of_ble_eq_true rfl) ⟨Nat.le_refl _, Nat.le_refl _⟩ (by decide) ?_
  refine tc_iconst (v := 0) (by decide) dX12_key_5 ?_
  refine tc_istore_n [(3, .int 0), (0, .ref (z + v0)), (1, .int v1), (2, .int v2)] dX12_key_6 (by decide) rfl ?_
  refine tc_lvs [1, 2, 3, 0] rfl ?_
  exact sl_X12_key_7 hW r ur  _ v0 v1 v2 0 u14 iv0 h
set_option maxRecDepth 100000 in
set_option maxHeartbeats 4000000 in
theorem sb_X12_filled_41 {p : Program} {l : Launch} {e : Env} {s : State} {m : MethodId} {args : Array Value} {below : List Frame} {meth : Method} {c : Code} {z : Nat} {D : tc_D} {G : tc_G} (hW : tc_W G) (r : Int32) (ur : tc_S) (K15 : Nat → Int32 → Int32 → Int32 → tc_S → Option (Int32 × tc_S)) (hK15 : ∀ (v0 : Nat) (v1 : Int32) (v2 : Int32) (v3 : Int32) (u : tc_S), tc_is G v0 12 → K15 v0 v1 v2 v3 u = some (r, ur) → tc_R p l e { frames := 2, cells := 0, slots := 0, locals := 46 } s m args below meth c z D cX12_filled RX12 4 (some .int) 0 0 (tc_po r G ur) 0 0 G u 15 [(0, .ref (z + v0)), (1, .int v1), (2, .int v2), (3, .int v3)] []) (v0 : Nat) (v1 : Int32) (v3 : Int32) (s0 : Int32) (s1 : Int32) (u : tc_S) (iv0 : tc_is G v0 12) (h : bl_X12_filled_41 G K15 v0 v1 v3 s0 s1 u = some (r, ur)) : tc_R p l e { frames := 2, cells := 0, slots := 0, locals := 46 } s m args below meth c z D cX12_filled RX12 4 (some .int) 0 0 (tc_po r G ur) 0 0 G u 41 [(0, .ref (z + v0)), (1, .int v1), (3, .int v3)] [.int s1, .int s0] := by
  unfold bl_X12_filled_41 at h
  refine tc_iadd dX12_filled_41 ?_
  obtain ⟨x1, ex1, h⟩ := tc_let_ex h
  refine tc_nm ex1 ?_
  refine tc_istore_n [(2, .int x1), (0, .ref (z + v0)), (1, .int v1), (3, .int v3)] dX12_filled_42 (by decide) rfl ?_
  obtain ⟨x2, ex2, h⟩ := tc_let_ex h
  refine tc_iinc 3 (v := x2) [(3, .int x2), (2, .int x1), (0, .ref (z + v0)), (1, .int v1)] dX12_filled_43 rfl (by rw [ex2]; rfl) (by decide) rfl ?_
  refine tc_goto 15 dX12_filled_46 (by decide) ?_
  refine tc_lvs [2, 3, 1, 0] rfl ?_
  exact hK15 v0 v1 x1 x2 u iv0 h
set_option maxRecDepth 100000 in
set_option maxHeartbeats 4000000 in
theorem sl_X12_filled_15 {p : Program} {l : Launch} {e : Env} {s : State} {m : MethodId} {args : Array Value} {below : List Frame} {meth : Method} {c : Code} {z : Nat} {D : tc_D} {G : tc_G} (hW : tc_W G) (r : Int32) (ur : tc_S) : ∀ (n : Nat) (v0 : Nat) (v1 : Int32) (v2 : Int32) (v3 : Int32) (u : tc_S) (iv0 : tc_is G v0 12) (h : lo_X12_filled_15 G n v0 v1 v2 v3 u = some (r, ur)), tc_R p l e { frames := 2, cells := 0, slots := 0, locals := 46 } s m args below meth c z D cX12_filled RX12 4 (some .int) 0 0 (tc_po r G ur) 0 0 G u 15 [(0, .ref (z + v0)), (1, .int v1), (2, .int v2), (3, .int v3)] [] := by
  intro n
  induction n with
  | zero => intro v0 v1 v2 v3 u iv0 h; cases h
  | succ n ih =>
    intro v0 v1 v2 v3 u iv0 h
    rw [lo_X12_filled_15] at h
    refine tc_iload_n 3 rfl dX12_filled_15 ?_
    refine tc_aload_n 0 rfl dX12_filled_16 ?_
    refine tc_getp hW iv0 fl_X12_7 dX12_filled_17 rfl ?_
    refine tc_iconst (v := 0) (by decide) dX12_filled_20 ?_
    obtain ⟨bx3, x3, ex3, h⟩ := tc_ld_ex h
    refine tc_iald (hW.p iv0 0 rfl).1 bx3 dX12_filled_21 ?_
    refine tc_nm ex3 ?_
    refine tc_icmp_ge 49 dX12_filled_22 (by decide) (fun hc4 => ?_) (fun hc4 => ?_)
    · rw [if_pos hc4] at h
      refine tc_iload_n 2 rfl dX12_filled_49 ?_
      cases h
      exact tc_ireturn rfl dX12_filled_50 rfl rfl ⟨rfl, rfl, rfl⟩
    · rw [if_neg hc4] at h
      refine tc_iload_n 2 rfl dX12_filled_25 ?_
      refine tc_aload_n 0 rfl dX12_filled_26 ?_
      refine tc_iconst (v := 0) (by decide) dX12_filled_27 ?_
      refine tc_iload_n 3 rfl dX12_filled_28 ?_
      obtain ⟨x5, u6, hq7, h⟩ := tc_b_ex h
      refine tc_callVi [.int 0, .int v3] dX12_filled_29 iv0.1 (ct_X12_inBucket hW iv0 hq7) ml_X12_239 mw_X12_inBucket mv_X12_inBucket ⟨Nat.le_of_ble_eq_true rfl, Nat.le_of_ble_eq_true rfl⟩ rfl rfl (Nat.le_of_ble_eq_true rfl) ⟨Nat.le_refl _, Nat.le_refl _⟩ (by decide) ?_
      refine tc_iload_n 1 rfl dX12_filled_32 ?_
      refine tc_icmp_ne 40 dX12_filled_33 (by decide) (fun hc8 => ?_) (fun hc8 => ?_)
      · rw [if_neg hc8] at h
        refine tc_iconst (v := 0) (by decide) dX12_filled_40 ?_
        refine tc_lvs [0, 1, 3] rfl ?_
        exact sb_X12_filled_41 hW r ur _ ih v0 v1 v3 v2 0 u6 iv0 h
      · rw [if_pos hc8] at h
        refine tc_iconst (v := 1) (by decide) dX12_filled_36 ?_
        refine tc_goto 41 dX12_filled_37 (by decide) ?_
        refine tc_lvs [0, 1, 3] rfl ?_
        exact sb_X12_filled_41 hW r ur _ ih v0 v1 v3 v2 1 u6 iv0 h
set_option maxRecDepth 100000 in
set_option maxHeartbeats 4000000 in
theorem ct_X12_filled {l : Launch} {z : Nat} {D : tc_D} {G : tc_G} (hW : tc_W G) {v0 : Nat} {v1 : Int32} {u : tc_S} {r : Int32} {ur : tc_S} (iv0 : tc_is G v0 12) (h : fn_X12_filled G v0 v1 u = some (r, ur)) : tc_C l z D yX12_filled cX12_filled 4 (some .int) 2 46 0 0 [.ref (z + v0), .int v1] G u (tc_po r G ur) := by
  unfold fn_X12_filled at h
  refine tc_C.of (by decide) (Nat.le_of_ble_eq_true rfl) fun p e s m args below meth c => ?_
  show tc_R p l e { frames := 2, cells := 0, slots := 0, locals := 46 } s m args below meth c z D cX12_filled RX12 4 (some .int) 0 0 (tc_po r G ur) 0 0 G u 0 [(0, .ref (z + v0)), (1, .int v1)] []
  refine tc_iload_n 1 rfl dX12_filled_0 ?_
  refine tc_iconst (v := 0) (by decide) dX12_filled_1 ?_
  refine tc_iconst (v := 4) (by decide) dX12_filled_2 ?_
  obtain ⟨x9, u10, hq11, h⟩ := tc_b_ex h
  refine tc_callSi [.int v1, .int 0, .int 4] dX12_filled_3 (ct_X12_isIn hW hq11) ml_X12_79 mw_X12_isIn ms_X12_isIn ⟨Nat.le_of_ble_eq_true rfl, Nat.le_of_ble_eq_true rfl⟩ rfl rfl (Nat.le_of_ble_eq_true rfl) ⟨Nat.le_refl _, Nat.le_refl _⟩ ?_
  refine tc_if_ne 11 dX12_filled_6 (by decide) (fun hc12 => ?_) (fun hc12 => ?_)
  · rw [if_neg hc12] at h
    refine tc_iconst (v := 0) (by decide) dX12_filled_11 ?_
    refine tc_istore_n [(2, .int 0), (0, .ref (z + v0)), (1, .int v1)] dX12_filled_12 (by decide) rfl ?_
    refine tc_iconst (v := 0) (by decide) dX12_filled_13 ?_
    refine tc_istore_n [(3, .int 0), (2, .int 0), (0, .ref (z + v0)), (1, .int v1)] dX12_filled_14 (by decide) rfl ?_
    refine tc_lvs [2, 3, 1, 0] rfl ?_
    exact sl_X12_filled_15 hW r ur  _ v0 v1 0 0 u10 iv0 h
  · rw [if_pos hc12] at h
    refine tc_iconst (v := (-1)) (by decide) dX12_filled_9 ?_
    cases h
    exact tc_ireturn rfl dX12_filled_10 rfl rfl ⟨rfl, rfl, rfl⟩
set_option maxRecDepth 100000 in
set_option maxHeartbeats 4000000 in
theorem sb_X12_restless_142 {p : Program} {l : Launch} {e : Env} {s : State} {m : MethodId} {args : Array Value} {below : List Frame} {meth : Method} {c : Code} {z : Nat} {D : tc_D} {G : tc_G} (hW : tc_W G) (r : Int32) (ur : tc_S) (s0 : Int32) (u : tc_S) (h : bl_X12_restless_142 G s0 u = some (r, ur)) : tc_R p l e { frames := 3, cells := 0, slots := 0, locals := 66 } s m args below meth c z D cX12_restless RX12 5 (some .int) 0 0 (tc_po r G ur) 0 0 G u 142 [] [.int s0] := by
  unfold bl_X12_restless_142 at h
  cases h
  exact tc_ireturn rfl dX12_restless_142 rfl rfl ⟨rfl, rfl, rfl⟩
set_option maxRecDepth 100000 in
set_option maxHeartbeats 4000000 in
theorem sb_X12_restless_117 {p : Program} {l : Launch} {e : Env} {s : State} {m : MethodId} {args : Array Value} {below : List Frame} {meth : Method} {c : Code} {z : Nat} {D : tc_D} {G : tc_G} (hW : tc_W G) (r : Int32) (ur : tc_S) (K9 : Nat → Int32 → Int32 → tc_S → Option (Int32 × tc_S)) (hK9 : ∀ (v0 : Nat) (v1 : Int32) (v2 : Int32) (u : tc_S), tc_is G v0 12 → K9 v0 v1 v2 u = some (r, ur) → tc_R p l e { frames := 3, cells := 0, slots := 0, locals := 66 } s m args below meth c z D cX12_restless RX12 5 (some .int) 0 0 (tc_po r G ur) 0 0 G u 9 [(0, .ref (z + v0)), (1, .int v1), (2, .int v2)] []) (v0 : Nat) (v2 : Int32) (s0 : Int32) (u : tc_S) (iv0 : tc_is G v0 12) (h : bl_X12_restless_117 G K9 v0 v2 s0 u = some (r, ur)) : tc_R p l e { frames := 3, cells := 0, slots := 0, locals := 66 } s m args below meth c z D cX12_restless RX12 5 (some .int) 0 0 (tc_po r G ur) 0 0 G u 117 [(0, .ref (z + v0)), (2, .int v2)] [.int s0] := by
  unfold bl_X12_restless_117 at h
  refine tc_istore_n [(1, .int s0), (0, .ref (z + v0)), (2, .int v2)] dX12_restless_117 (by decide) rfl ?_
  obtain ⟨x1, ex1, h⟩ := tc_let_ex h
  refine tc_iinc 2 (v := x1) [(2, .int x1), (1, .int s0), (0, .ref (z + v0))] dX12_restless_118 rfl (by rw [ex1]; rfl) (by decide) rfl ?_
  refine tc_goto 9 dX12_restless_121 (by decide) ?_
  refine tc_lvs [2, 1, 0] rfl ?_
  exact hK9 v0 s0 x1 u iv0 h
set_option maxRecDepth 100000 in
set_option maxHeartbeats 4000000 in
theorem sb_X12_restless_112 {p : Program} {l : Launch} {e : Env} {s : State} {m : MethodId} {args : Array Value} {below : List Frame} {meth : Method} {c : Code} {z : Nat} {D : tc_D} {G : tc_G} (hW : tc_W G) (r : Int32) (ur : tc_S) (K9 : Nat → Int32 → Int32 → tc_S → Option (Int32 × tc_S)) (hK9 : ∀ (v0 : Nat) (v1 : Int32) (v2 : Int32) (u : tc_S), tc_is G v0 12 → K9 v0 v1 v2 u = some (r, ur) → tc_R p l e { frames := 3, cells := 0, slots := 0, locals := 66 } s m args below meth c z D cX12_restless RX12 5 (some .int) 0 0 (tc_po r G ur) 0 0 G u 9 [(0, .ref (z + v0)), (1, .int v1), (2, .int v2)] []) (v0 : Nat) (v2 : Int32) (u : tc_S) (iv0 : tc_is G v0 12) (h : bl_X12_restless_112 G K9 v0 v2 u = some (r, ur)) : tc_R p l e { frames := 3, cells := 0, slots := 0, locals := 66 } s m args below meth c z D cX12_restless RX12 5 (some .int) 0 0 (tc_po r G ur) 0 0 G u 112 [(0, .ref (z + v0)), (2, .int v2)] [] := by
  unfold bl_X12_restless_112 at h
  refine tc_iload_n 1 rfl dX12_restless_112 ?_
  refine tc_goto 117 dX12_restless_113 (by decide) ?_
  exact sb_X12_restless_117 hW r ur K9 hK9 v0 v2 v2 u iv0 h
set_option maxRecDepth 100000 in
set_option maxHeartbeats 4000000 in
theorem sb_X12_restless_116 {p : Program} {l : Launch} {e : Env} {s : State} {m : MethodId} {args : Array Value} {below : List Frame} {meth : Method} {c : Code} {z : Nat} {D : tc_D} {G : tc_G} (hW : tc_W G) (r : Int32) (ur : tc_S) (K9 : Nat → Int32 → Int32 → tc_S → Option (Int32 × tc_S)) (hK9 : ∀ (v0 : Nat) (v1 : Int32) (v2 : Int32) (u : tc_S), tc_is G v0 12 → K9 v0 v1 v2 u = some (r, ur) → tc_R p l e { frames := 3, cells := 0, slots := 0, locals := 66 } s m args below meth c z D cX12_restless RX12 5 (some .int) 0 0 (tc_po r G ur) 0 0 G u 9 [(0, .ref (z + v0)), (1, .int v1), (2, .int v2)] []) (v0 : Nat) (v1 : Int32) (v2 : Int32) (u : tc_S) (iv0 : tc_is G v0 12) (h : bl_X12_restless_116 G K9 v0 v1 v2 u = some (r, ur)) : tc_R p l e { frames := 3, cells := 0, slots := 0, locals := 66 } s m args below meth c z D cX12_restless RX12 5 (some .int) 0 0 (tc_po r G ur) 0 0 G u 116 [(0, .ref (z + v0)), (1, .int v1), (2, .int v2)] [] := by
  unfold bl_X12_restless_116 at h
  refine tc_iload_n 1 rfl dX12_restless_116 ?_
  refine tc_lvs [0, 2] rfl ?_
  exact sb_X12_restless_117 hW r ur K9 hK9 v0 v2 v1 u iv0 h
set_option maxRecDepth 100000 in
set_option maxHeartbeats 4000000 in
theorem sb_X12_restless_82 {p : Program} {l : Launch} {e : Env} {s : State} {m : MethodId} {args : Array Value} {below : List Frame} {meth : Method} {c : Code} {z : Nat} {D : tc_D} {G : tc_G} (hW : tc_W G) (r : Int32) (ur : tc_S) (K9 : Nat → Int32 → Int32 → tc_S → Option (Int32 × tc_S)) (hK9 : ∀ (v0 : Nat) (v1 : Int32) (v2 : Int32) (u : tc_S), tc_is G v0 12 → K9 v0 v1 v2 u = some (r, ur) → tc_R p l e { frames := 3, cells := 0, slots := 0, locals := 66 } s m args below meth c z D cX12_restless RX12 5 (some .int) 0 0 (tc_po r G ur) 0 0 G u 9 [(0, .ref (z + v0)), (1, .int v1), (2, .int v2)] []) (v0 : Nat) (v1 : Int32) (v2 : Int32) (v3 : Int32) (s0 : Int32) (u : tc_S) (iv0 : tc_is G v0 12) (h : bl_X12_restless_82 G K9 v0 v1 v2 v3 s0 u = some (r, ur)) : tc_R p l e { frames := 3, cells := 0, slots := 0, locals := 66 } s m args below meth c z D cX12_restless RX12 5 (some .int) 0 0 (tc_po r G ur) 0 0 G u 82 [(0, .ref (z + v0)), (1, .int v1), (2, .int v2), (3, .int v3)] [.int s0] := by
  unfold bl_X12_restless_82 at h
  refine tc_istore [(4, .int s0), (0, .ref (z + v0)), (1, .int v1), (2, .int v2), (3, .int v3)] dX12_restless_82 (by decide) rfl ?_
  refine tc_iload_n 4 rfl dX12_restless_84 ?_
  refine tc_if_ne 112 dX12_restless_85 (by decide) (fun hc2 => ?_) (fun hc2 => ?_)
  · rw [if_neg hc2] at h
    refine tc_lvs [1, 3] rfl ?_
    exact sb_X12_restless_112 hW r ur K9 hK9 v0 v2 u iv0 h
  · rw [if_pos hc2] at h
    refine tc_iload 0 rfl dX12_restless_88 ?_
    refine tc_if_eq 116 dX12_restless_90 (by decide) (fun hc3 => ?_) (fun hc3 => ?_)
    · rw [if_pos hc3] at h
      refine tc_lvs [1, 2, 3] rfl ?_
      exact sb_X12_restless_116 hW r ur K9 hK9 v0 v1 v2 u iv0 h
    · rw [if_neg hc3] at h
      refine tc_aload_n 1 rfl dX12_restless_93 ?_
      refine tc_getp hW iv0 fl_X12_39 dX12_restless_94 rfl ?_
      refine tc_iconst (v := 4) (by decide) dX12_restless_97 ?_
      refine tc_iload_n 3 rfl dX12_restless_98 ?_
      refine tc_imul dX12_restless_99 ?_
      obtain ⟨bx4, x4, ex4, h⟩ := tc_ld_ex h
      refine tc_iald (hW.p iv0 11 rfl).1 bx4 dX12_restless_100 ?_
      refine tc_nm ex4 ?_
      refine tc_aload_n 1 rfl dX12_restless_101 ?_
      refine tc_getp hW iv0 fl_X12_39 dX12_restless_102 rfl ?_
      refine tc_iconst (v := 4) (by decide) dX12_restless_105 ?_
      refine tc_iload_n 2 rfl dX12_restless_106 ?_
      refine tc_imul dX12_restless_107 ?_
      obtain ⟨bx5, x5, ex5, h⟩ := tc_ld_ex h
      refine tc_iald (hW.p iv0 11 rfl).1 bx5 dX12_restless_108 ?_
      refine tc_nm ex5 ?_
      refine tc_icmp_ge 116 dX12_restless_109 (by decide) (fun hc6 => ?_) (fun hc6 => ?_)
      · rw [if_pos hc6] at h
        refine tc_lvs [1, 2, 3] rfl ?_
        exact sb_X12_restless_116 hW r ur K9 hK9 v0 v1 v2 u iv0 h
      · rw [if_neg hc6] at h
        refine tc_lvs [1, 3] rfl ?_
        exact sb_X12_restless_112 hW r ur K9 hK9 v0 v2 u iv0 h
set_option maxRecDepth 100000 in
set_option maxHeartbeats 4000000 in
theorem sb_X12_restless_81 {p : Program} {l : Launch} {e : Env} {s : State} {m : MethodId} {args : Array Value} {below : List Frame} {meth : Method} {c : Code} {z : Nat} {D : tc_D} {G : tc_G} (hW : tc_W G) (r : Int32) (ur : tc_S) (K9 : Nat → Int32 → Int32 → tc_S → Option (Int32 × tc_S)) (hK9 : ∀ (v0 : Nat) (v1 : Int32) (v2 : Int32) (u : tc_S), tc_is G v0 12 → K9 v0 v1 v2 u = some (r, ur) → tc_R p l e { frames := 3, cells := 0, slots := 0, locals := 66 } s m args below meth c z D cX12_restless RX12 5 (some .int) 0 0 (tc_po r G ur) 0 0 G u 9 [(0, .ref (z + v0)), (1, .int v1), (2, .int v2)] []) (v0 : Nat) (v1 : Int32) (v2 : Int32) (v3 : Int32) (u : tc_S) (iv0 : tc_is G v0 12) (h : bl_X12_restless_81 G K9 v0 v1 v2 v3 u = some (r, ur)) : tc_R p l e { frames := 3, cells := 0, slots := 0, locals := 66 } s m args below meth c z D cX12_restless RX12 5 (some .int) 0 0 (tc_po r G ur) 0 0 G u 81 [(0, .ref (z + v0)), (1, .int v1), (2, .int v2), (3, .int v3)] [] := by
  unfold bl_X12_restless_81 at h
  refine tc_iconst (v := 0) (by decide) dX12_restless_81 ?_
  exact sb_X12_restless_82 hW r ur K9 hK9 v0 v1 v2 v3 0 u iv0 h
set_option maxRecDepth 100000 in
set_option maxHeartbeats 4000000 in
theorem sb_X12_restless_49 {p : Program} {l : Launch} {e : Env} {s : State} {m : MethodId} {args : Array Value} {below : List Frame} {meth : Method} {c : Code} {z : Nat} {D : tc_D} {G : tc_G} (hW : tc_W G) (r : Int32) (ur : tc_S) (K9 : Nat → Int32 → Int32 → tc_S → Option (Int32 × tc_S)) (hK9 : ∀ (v0 : Nat) (v1 : Int32) (v2 : Int32) (u : tc_S), tc_is G v0 12 → K9 v0 v1 v2 u = some (r, ur) → tc_R p l e { frames := 3, cells := 0, slots := 0, locals := 66 } s m args below meth c z D cX12_restless RX12 5 (some .int) 0 0 (tc_po r G ur) 0 0 G u 9 [(0, .ref (z + v0)), (1, .int v1), (2, .int v2)] []) (v0 : Nat) (v1 : Int32) (v2 : Int32) (s0 : Int32) (u : tc_S) (iv0 : tc_is G v0 12) (h : bl_X12_restless_49 G K9 v0 v1 v2 s0 u = some (r, ur)) : tc_R p l e { frames := 3, cells := 0, slots := 0, locals := 66 } s m args below meth c z D cX12_restless RX12 5 (some .int) 0 0 (tc_po r G ur) 0 0 G u 49 [(0, .ref (z + v0)), (1, .int v1), (2, .int v2)] [.int s0] := by
  unfold bl_X12_restless_49 at h
  refine tc_istore_n [(3, .int s0), (0, .ref (z + v0)), (1, .int v1), (2, .int v2)] dX12_restless_49 (by decide) rfl ?_
  refine tc_iload_n 2 rfl dX12_restless_50 ?_
  refine tc_if_lt 81 dX12_restless_51 (by decide) (fun hc7 => ?_) (fun hc7 => ?_)
  · rw [if_pos hc7] at h
    refine tc_lvs [1, 2, 3, 0] rfl ?_
    exact sb_X12_restless_81 hW r ur K9 hK9 v0 v1 v2 s0 u iv0 h
  · rw [if_neg hc7] at h
    refine tc_aload_n 1 rfl dX12_restless_54 ?_
    refine tc_getp hW iv0 fl_X12_39 dX12_restless_55 rfl ?_
    refine tc_iconst (v := 4) (by decide) dX12_restless_58 ?_
    refine tc_iload_n 3 rfl dX12_restless_59 ?_
    refine tc_imul dX12_restless_60 ?_
    refine tc_iconst (v := 3) (by decide) dX12_restless_61 ?_
    refine tc_iadd dX12_restless_62 ?_
    obtain ⟨bx8, x8, ex8, h⟩ := tc_ld_ex h
    refine tc_iald (hW.p iv0 11 rfl).1 bx8 dX12_restless_63 ?_
    refine tc_nm ex8 ?_
    refine tc_aload_n 1 rfl dX12_restless_64 ?_
    refine tc_getp hW iv0 fl_X12_39 dX12_restless_65 rfl ?_
    refine tc_iconst (v := 4) (by decide) dX12_restless_68 ?_
    refine tc_iload_n 2 rfl dX12_restless_69 ?_
    refine tc_imul dX12_restless_70 ?_
    refine tc_iconst (v := 3) (by decide) dX12_restless_71 ?_
    refine tc_iadd dX12_restless_72 ?_
    obtain ⟨bx9, x9, ex9, h⟩ := tc_ld_ex h
    refine tc_iald (hW.p iv0 11 rfl).1 bx9 dX12_restless_73 ?_
    refine tc_nm ex9 ?_
    refine tc_icmp_ne 81 dX12_restless_74 (by decide) (fun hc10 => ?_) (fun hc10 => ?_)
    · rw [if_neg hc10] at h
      refine tc_lvs [1, 2, 3, 0] rfl ?_
      exact sb_X12_restless_81 hW r ur K9 hK9 v0 v1 v2 s0 u iv0 h
    · rw [if_pos hc10] at h
      refine tc_iconst (v := 1) (by decide) dX12_restless_77 ?_
      refine tc_goto 82 dX12_restless_78 (by decide) ?_
      refine tc_lvs [1, 2, 3, 0] rfl ?_
      exact sb_X12_restless_82 hW r ur K9 hK9 v0 v1 v2 s0 1 u iv0 h
set_option maxRecDepth 100000 in
set_option maxHeartbeats 4000000 in
theorem sb_X12_restless_44 {p : Program} {l : Launch} {e : Env} {s : State} {m : MethodId} {args : Array Value} {below : List Frame} {meth : Method} {c : Code} {z : Nat} {D : tc_D} {G : tc_G} (hW : tc_W G) (r : Int32) (ur : tc_S) (K9 : Nat → Int32 → Int32 → tc_S → Option (Int32 × tc_S)) (hK9 : ∀ (v0 : Nat) (v1 : Int32) (v2 : Int32) (u : tc_S), tc_is G v0 12 → K9 v0 v1 v2 u = some (r, ur) → tc_R p l e { frames := 3, cells := 0, slots := 0, locals := 66 } s m args below meth c z D cX12_restless RX12 5 (some .int) 0 0 (tc_po r G ur) 0 0 G u 9 [(0, .ref (z + v0)), (1, .int v1), (2, .int v2)] []) (v0 : Nat) (v1 : Int32) (v2 : Int32) (u : tc_S) (iv0 : tc_is G v0 12) (h : bl_X12_restless_44 G K9 v0 v1 v2 u = some (r, ur)) : tc_R p l e { frames := 3, cells := 0, slots := 0, locals := 66 } s m args below meth c z D cX12_restless RX12 5 (some .int) 0 0 (tc_po r G ur) 0 0 G u 44 [(0, .ref (z + v0)), (1, .int v1), (2, .int v2)] [] := by
  unfold bl_X12_restless_44 at h
  refine tc_iconst (v := 1) (by decide) dX12_restless_44 ?_
  refine tc_goto 49 dX12_restless_45 (by decide) ?_
  exact sb_X12_restless_49 hW r ur K9 hK9 v0 v1 v2 1 u iv0 h
set_option maxRecDepth 100000 in
set_option maxHeartbeats 4000000 in
theorem sl_X12_restless_9 {p : Program} {l : Launch} {e : Env} {s : State} {m : MethodId} {args : Array Value} {below : List Frame} {meth : Method} {c : Code} {z : Nat} {D : tc_D} {G : tc_G} (hW : tc_W G) (r : Int32) (ur : tc_S) : ∀ (n : Nat) (v0 : Nat) (v1 : Int32) (v2 : Int32) (u : tc_S) (iv0 : tc_is G v0 12) (h : lo_X12_restless_9 G n v0 v1 v2 u = some (r, ur)), tc_R p l e { frames := 3, cells := 0, slots := 0, locals := 66 } s m args below meth c z D cX12_restless RX12 5 (some .int) 0 0 (tc_po r G ur) 0 0 G u 9 [(0, .ref (z + v0)), (1, .int v1), (2, .int v2)] [] := by
  intro n
  induction n with
  | zero => intro v0 v1 v2 u iv0 h; cases h
  | succ n ih =>
    intro v0 v1 v2 u iv0 h
    rw [lo_X12_restless_9] at h
    refine tc_iload_n 2 rfl dX12_restless_9 ?_
    refine tc_aload_n 0 rfl dX12_restless_10 ?_
    refine tc_geti iv0.1 fl_X12_142 dX12_restless_11 ?_
    refine tc_icmp_ge 124 dX12_restless_14 (by decide) (fun hc11 => ?_) (fun hc11 => ?_)
    · rw [if_pos hc11] at h
      refine tc_iload_n 1 rfl dX12_restless_124 ?_
      refine tc_if_ge 132 dX12_restless_125 (by decide) (fun hc12 => ?_) (fun hc12 => ?_)
      · rw [if_pos hc12] at h
        refine tc_aload_n 0 rfl dX12_restless_132 ?_
        refine tc_getp hW iv0 fl_X12_39 dX12_restless_133 rfl ?_
        refine tc_iconst (v := 4) (by decide) dX12_restless_136 ?_
        refine tc_iload_n 1 rfl dX12_restless_137 ?_
        refine tc_imul dX12_restless_138 ?_
        obtain ⟨bx13, x13, ex13, h⟩ := tc_ld_ex h
        refine tc_iald (hW.p iv0 11 rfl).1 bx13 dX12_restless_139 ?_
        refine tc_nm ex13 ?_
        refine tc_iconst (v := 1) (by decide) dX12_restless_140 ?_
        refine tc_isub dX12_restless_141 ?_
        refine tc_lvs [] rfl ?_
        exact sb_X12_restless_142 hW r ur  (x13 - 1) u  h
      · rw [if_neg hc12] at h
        refine tc_iconst (v := (-1)) (by decide) dX12_restless_128 ?_
        refine tc_goto 142 dX12_restless_129 (by decide) ?_
        refine tc_lvs [] rfl ?_
        exact sb_X12_restless_142 hW r ur  (-1) u  h
    · rw [if_neg hc11] at h
      refine tc_iload_n 1 rfl dX12_restless_17 ?_
      refine tc_if_lt 44 dX12_restless_18 (by decide) (fun hc14 => ?_) (fun hc14 => ?_)
      · rw [if_pos hc14] at h
        exact sb_X12_restless_44 hW r ur _ ih v0 v1 v2 u iv0 h
      · rw [if_neg hc14] at h
        refine tc_aload_n 0 rfl dX12_restless_21 ?_
        refine tc_getp hW iv0 fl_X12_39 dX12_restless_22 rfl ?_
        refine tc_iconst (v := 4) (by decide) dX12_restless_25 ?_
        refine tc_iload_n 2 rfl dX12_restless_26 ?_
        refine tc_imul dX12_restless_27 ?_
        refine tc_iconst (v := 3) (by decide) dX12_restless_28 ?_
        refine tc_iadd dX12_restless_29 ?_
        obtain ⟨bx15, x15, ex15, h⟩ := tc_ld_ex h
        refine tc_iald (hW.p iv0 11 rfl).1 bx15 dX12_restless_30 ?_
        refine tc_nm ex15 ?_
        refine tc_aload_n 0 rfl dX12_restless_31 ?_
        refine tc_getp hW iv0 fl_X12_39 dX12_restless_32 rfl ?_
        refine tc_iconst (v := 4) (by decide) dX12_restless_35 ?_
        refine tc_iload_n 1 rfl dX12_restless_36 ?_
        refine tc_imul dX12_restless_37 ?_
        refine tc_iconst (v := 3) (by decide) dX12_restless_38 ?_
        refine tc_iadd dX12_restless_39 ?_
        obtain ⟨bx16, x16, ex16, h⟩ := tc_ld_ex h
        refine tc_iald (hW.p iv0 11 rfl).1 bx16 dX12_restless_40 ?_
        refine tc_nm ex16 ?_
        refine tc_icmp_le 48 dX12_restless_41 (by decide) (fun hc17 => ?_) (fun hc17 => ?_)
        · rw [if_pos hc17] at h
          refine tc_iconst (v := 0) (by decide) dX12_restless_48 ?_
          exact sb_X12_restless_49 hW r ur _ ih v0 v1 v2 0 u iv0 h
        · rw [if_neg hc17] at h
          exact sb_X12_restless_44 hW r ur _ ih v0 v1 v2 u iv0 h
set_option maxRecDepth 100000 in
set_option maxHeartbeats 4000000 in
theorem ct_X12_restless {l : Launch} {z : Nat} {D : tc_D} {G : tc_G} (hW : tc_W G) {v0 : Nat} {u : tc_S} {r : Int32} {ur : tc_S} (iv0 : tc_is G v0 12) (h : fn_X12_restless G v0 u = some (r, ur)) : tc_C l z D yX12_restless cX12_restless 5 (some .int) 3 66 0 0 [.ref (z + v0)] G u (tc_po r G ur) := by
  unfold fn_X12_restless at h
  refine tc_C.of (by decide) (Nat.le_of_ble_eq_true rfl) fun p e s m args below meth c => ?_
  show tc_R p l e { frames := 3, cells := 0, slots := 0, locals := 66 } s m args below meth c z D cX12_restless RX12 5 (some .int) 0 0 (tc_po r G ur) 0 0 G u 0 [(0, .ref (z + v0))] []
  refine tc_aload_n 0 rfl dX12_restless_0 ?_
  refine tc_iconst (v := 0) (by decide) dX12_restless_1 ?_
  obtain ⟨x18, u19, hq20, h⟩ := tc_b_ex h
  refine tc_callVv [.int 0] dX12_restless_2 iv0.1 (ct_X12_lists hW iv0 hq20) ml_X12_152 mw_X12_lists mv_X12_lists ⟨Nat.le_of_ble_eq_true rfl, Nat.le_of_ble_eq_true rfl⟩ rfl rfl (Nat.le_of_ble_eq_true rfl) ⟨Nat.le_refl _, Nat.le_refl _⟩ (by decide) ?_
  refine tc_iconst (v := (-1)) (by decide) dX12_restless_5 ?_
  refine tc_istore_n [(1, .int (-1)), (0, .ref (z + v0))] dX12_restless_6 (by decide) rfl ?_
  refine tc_iconst (v := 0) (by decide) dX12_restless_7 ?_
  refine tc_istore_n [(2, .int 0), (1, .int (-1)), (0, .ref (z + v0))] dX12_restless_8 (by decide) rfl ?_
  refine tc_lvs [2, 1, 0] rfl ?_
  exact sl_X12_restless_9 hW r ur  _ v0 (-1) 0 u19 iv0 h
set_option maxRecDepth 100000 in
set_option maxHeartbeats 4000000 in
theorem sb_X12_moved_69 {p : Program} {l : Launch} {e : Env} {s : State} {m : MethodId} {args : Array Value} {below : List Frame} {meth : Method} {c : Code} {z : Nat} {D : tc_D} {G : tc_G} (hW : tc_W G) (r : Int32) (ur : tc_S) (K10 : Nat → Int32 → Int32 → Int32 → tc_S → Option (Int32 × tc_S)) (hK10 : ∀ (v0 : Nat) (v2 : Int32) (v3 : Int32) (v4 : Int32) (u : tc_S), tc_is G v0 12 → K10 v0 v2 v3 v4 u = some (r, ur) → tc_R p l e { frames := 3, cells := 0, slots := 0, locals := 66 } s m args below meth c z D cX12_moved RX12 5 (some .int) 0 0 (tc_po r G ur) 0 0 G u 10 [(0, .ref (z + v0)), (2, .int v2), (3, .int v3), (4, .int v4)] []) (v0 : Nat) (v2 : Int32) (v4 : Int32) (s0 : Int32) (u : tc_S) (iv0 : tc_is G v0 12) (h : bl_X12_moved_69 G K10 v0 v2 v4 s0 u = some (r, ur)) : tc_R p l e { frames := 3, cells := 0, slots := 0, locals := 66 } s m args below meth c z D cX12_moved RX12 5 (some .int) 0 0 (tc_po r G ur) 0 0 G u 69 [(0, .ref (z + v0)), (2, .int v2), (4, .int v4)] [.int s0] := by
  unfold bl_X12_moved_69 at h
  refine tc_istore_n [(3, .int s0), (0, .ref (z + v0)), (2, .int v2), (4, .int v4)] dX12_moved_69 (by decide) rfl ?_
  obtain ⟨x1, ex1, h⟩ := tc_let_ex h
  refine tc_iinc 3 (v := x1) [(4, .int x1), (3, .int s0), (0, .ref (z + v0)), (2, .int v2)] dX12_moved_70 rfl (by rw [ex1]; rfl) (by decide) rfl ?_
  refine tc_goto 10 dX12_moved_73 (by decide) ?_
  refine tc_lvs [2, 3, 1, 0] rfl ?_
  exact hK10 v0 v2 s0 x1 u iv0 h
set_option maxRecDepth 100000 in
set_option maxHeartbeats 4000000 in
theorem sl_X12_moved_10 {p : Program} {l : Launch} {e : Env} {s : State} {m : MethodId} {args : Array Value} {below : List Frame} {meth : Method} {c : Code} {z : Nat} {D : tc_D} {G : tc_G} (hW : tc_W G) (r : Int32) (ur : tc_S) : ∀ (n : Nat) (v0 : Nat) (v2 : Int32) (v3 : Int32) (v4 : Int32) (u : tc_S) (iv0 : tc_is G v0 12) (h : lo_X12_moved_10 G n v0 v2 v3 v4 u = some (r, ur)), tc_R p l e { frames := 3, cells := 0, slots := 0, locals := 66 } s m args below meth c z D cX12_moved RX12 5 (some .int) 0 0 (tc_po r G ur) 0 0 G u 10 [(0, .ref (z + v0)), (2, .int v2), (3, .int v3), (4, .int v4)] [] := by
  intro n
  induction n with
  | zero => intro v0 v2 v3 v4 u iv0 h; cases h
  | succ n ih =>
    intro v0 v2 v3 v4 u iv0 h
    rw [lo_X12_moved_10] at h
    refine tc_iload 3 rfl dX12_moved_10 ?_
    refine tc_aload_n 0 rfl dX12_moved_12 ?_
    refine tc_geti iv0.1 fl_X12_142 dX12_moved_13 ?_
    refine tc_icmp_ge 76 dX12_moved_16 (by decide) (fun hc2 => ?_) (fun hc2 => ?_)
    · rw [if_pos hc2] at h
      refine tc_iload_n 2 rfl dX12_moved_76 ?_
      cases h
      exact tc_ireturn rfl dX12_moved_77 rfl rfl ⟨rfl, rfl, rfl⟩
    · rw [if_neg hc2] at h
      refine tc_iload_n 1 rfl dX12_moved_19 ?_
      refine tc_if_ne 39 dX12_moved_20 (by decide) (fun hc3 => ?_) (fun hc3 => ?_)
      · rw [if_neg hc3] at h
        refine tc_aload_n 0 rfl dX12_moved_39 ?_
        refine tc_getp hW iv0 fl_X12_39 dX12_moved_40 rfl ?_
        refine tc_iconst (v := 4) (by decide) dX12_moved_43 ?_
        refine tc_iload 3 rfl dX12_moved_44 ?_
        refine tc_imul dX12_moved_46 ?_
        refine tc_iconst (v := 3) (by decide) dX12_moved_47 ?_
        refine tc_iadd dX12_moved_48 ?_
        obtain ⟨bx4, x4, ex4, h⟩ := tc_ld_ex h
        refine tc_iald (hW.p iv0 11 rfl).1 bx4 dX12_moved_49 ?_
        refine tc_nm ex4 ?_
        refine tc_iload_n 2 rfl dX12_moved_50 ?_
        refine tc_icmp_le 68 dX12_moved_51 (by decide) (fun hc5 => ?_) (fun hc5 => ?_)
        · rw [if_pos hc5] at h
          refine tc_iload_n 2 rfl dX12_moved_68 ?_
          refine tc_lvs [0, 1, 3] rfl ?_
          exact sb_X12_moved_69 hW r ur _ ih v0 v2 v4 v3 u iv0 h
        · rw [if_neg hc5] at h
          refine tc_aload_n 0 rfl dX12_moved_54 ?_
          refine tc_getp hW iv0 fl_X12_39 dX12_moved_55 rfl ?_
          refine tc_iconst (v := 4) (by decide) dX12_moved_58 ?_
          refine tc_iload 3 rfl dX12_moved_59 ?_
          refine tc_imul dX12_moved_61 ?_
          refine tc_iconst (v := 3) (by decide) dX12_moved_62 ?_
          refine tc_iadd dX12_moved_63 ?_
          obtain ⟨bx6, x6, ex6, h⟩ := tc_ld_ex h
          refine tc_iald (hW.p iv0 11 rfl).1 bx6 dX12_moved_64 ?_
          refine tc_nm ex6 ?_
          refine tc_goto 69 dX12_moved_65 (by decide) ?_
          refine tc_lvs [0, 1, 3] rfl ?_
          exact sb_X12_moved_69 hW r ur _ ih v0 v2 v4 x6 u iv0 h
      · rw [if_pos hc3] at h
        refine tc_iload_n 2 rfl dX12_moved_23 ?_
        refine tc_aload_n 0 rfl dX12_moved_24 ?_
        refine tc_getp hW iv0 fl_X12_39 dX12_moved_25 rfl ?_
        refine tc_iconst (v := 4) (by decide) dX12_moved_28 ?_
        refine tc_iload 3 rfl dX12_moved_29 ?_
        refine tc_imul dX12_moved_31 ?_
        refine tc_iconst (v := 3) (by decide) dX12_moved_32 ?_
        refine tc_iadd dX12_moved_33 ?_
        obtain ⟨bx7, x7, ex7, h⟩ := tc_ld_ex h
        refine tc_iald (hW.p iv0 11 rfl).1 bx7 dX12_moved_34 ?_
        refine tc_nm ex7 ?_
        refine tc_iadd dX12_moved_35 ?_
        refine tc_goto 69 dX12_moved_36 (by decide) ?_
        refine tc_lvs [0, 1, 3] rfl ?_
        exact sb_X12_moved_69 hW r ur _ ih v0 v2 v4 (v3 + x7) u iv0 h
set_option maxRecDepth 100000 in
set_option maxHeartbeats 4000000 in
theorem ct_X12_moved {l : Launch} {z : Nat} {D : tc_D} {G : tc_G} (hW : tc_W G) {v0 : Nat} {v1 : Int32} {v2 : Int32} {u : tc_S} {r : Int32} {ur : tc_S} (iv0 : tc_is G v0 12) (h : fn_X12_moved G v0 v1 v2 u = some (r, ur)) : tc_C l z D yX12_moved cX12_moved 5 (some .int) 3 66 0 0 [.ref (z + v0), .int v1, .int v2] G u (tc_po r G ur) := by
  unfold fn_X12_moved at h
  refine tc_C.of (by decide) (Nat.le_of_ble_eq_true rfl) fun p e s m args below meth c => ?_
  show tc_R p l e { frames := 3, cells := 0, slots := 0, locals := 66 } s m args below meth c z D cX12_moved RX12 5 (some .int) 0 0 (tc_po r G ur) 0 0 G u 0 [(0, .ref (z + v0)), (1, .int v1), (2, .int v2)] []
  refine tc_aload_n 0 rfl dX12_moved_0 ?_
  refine tc_iload_n 1 rfl dX12_moved_1 ?_
  obtain ⟨x8, u9, hq10, h⟩ := tc_b_ex h
  refine tc_callVv [.int v1] dX12_moved_2 iv0.1 (ct_X12_lists hW iv0 hq10) ml_X12_152 mw_X12_lists mv_X12_lists ⟨Nat.le_of_ble_eq_true rfl, Nat.le_of_ble_eq_true rfl⟩ rfl rfl (Nat.le_of_ble_eq_true rfl) ⟨Nat.le_refl _, Nat.le_refl _⟩ (by decide) ?_
  refine tc_iconst (v := 0) (by decide) dX12_moved_5 ?_
  refine tc_istore_n [(3, .int 0), (0, .ref (z + v0)), (1, .int v1), (2, .int v2)] dX12_moved_6 (by decide) rfl ?_
  refine tc_iconst (v := 0) (by decide) dX12_moved_7 ?_
  refine tc_istore [(4, .int 0), (3, .int 0), (0, .ref (z + v0)), (1, .int v1), (2, .int v2)] dX12_moved_8 (by decide) rfl ?_
  refine tc_lvs [2, 4, 1, 0] rfl ?_
  exact sl_X12_moved_10 hW r ur  _ v0 v2 0 0 u9 iv0 h
set_option maxRecDepth 100000 in
set_option maxHeartbeats 4000000 in
theorem sb_X12_greatestRead_46 {p : Program} {l : Launch} {e : Env} {s : State} {m : MethodId} {args : Array Value} {below : List Frame} {meth : Method} {c : Code} {z : Nat} {D : tc_D} {G : tc_G} (hW : tc_W G) (r : Int32) (ur : tc_S) (K9 : Nat → Int32 → Int32 → Int32 → tc_S → Option (Int32 × tc_S)) (hK9 : ∀ (v0 : Nat) (v1 : Int32) (v2 : Int32) (v3 : Int32) (u : tc_S), tc_is G v0 12 → K9 v0 v1 v2 v3 u = some (r, ur) → tc_R p l e { frames := 3, cells := 0, slots := 0, locals := 73 } s m args below meth c z D cX12_greatestRead RX12 5 (some .int) 0 0 (tc_po r G ur) 0 0 G u 9 [(0, .ref (z + v0)), (1, .int v1), (2, .int v2), (3, .int v3)] []) (v0 : Nat) (v1 : Int32) (v3 : Int32) (s0 : Int32) (u : tc_S) (iv0 : tc_is G v0 12) (h : bl_X12_greatestRead_46 G K9 v0 v1 v3 s0 u = some (r, ur)) : tc_R p l e { frames := 3, cells := 0, slots := 0, locals := 73 } s m args below meth c z D cX12_greatestRead RX12 5 (some .int) 0 0 (tc_po r G ur) 0 0 G u 46 [(0, .ref (z + v0)), (1, .int v1), (3, .int v3)] [.int s0] := by
  unfold bl_X12_greatestRead_46 at h
  refine tc_istore_n [(2, .int s0), (0, .ref (z + v0)), (1, .int v1), (3, .int v3)] dX12_greatestRead_46 (by decide) rfl ?_
  obtain ⟨x1, ex1, h⟩ := tc_let_ex h
  refine tc_iinc 3 (v := x1) [(3, .int x1), (2, .int s0), (0, .ref (z + v0)), (1, .int v1)] dX12_greatestRead_47 rfl (by rw [ex1]; rfl) (by decide) rfl ?_
  refine tc_goto 9 dX12_greatestRead_50 (by decide) ?_
  refine tc_lvs [2, 3, 1, 0] rfl ?_
  exact hK9 v0 v1 s0 x1 u iv0 h
set_option maxRecDepth 100000 in
set_option maxHeartbeats 4000000 in
theorem sl_X12_greatestRead_9 {p : Program} {l : Launch} {e : Env} {s : State} {m : MethodId} {args : Array Value} {below : List Frame} {meth : Method} {c : Code} {z : Nat} {D : tc_D} {G : tc_G} (hW : tc_W G) (r : Int32) (ur : tc_S) : ∀ (n : Nat) (v0 : Nat) (v1 : Int32) (v2 : Int32) (v3 : Int32) (u : tc_S) (iv0 : tc_is G v0 12) (h : lo_X12_greatestRead_9 G n v0 v1 v2 v3 u = some (r, ur)), tc_R p l e { frames := 3, cells := 0, slots := 0, locals := 73 } s m args below meth c z D cX12_greatestRead RX12 5 (some .int) 0 0 (tc_po r G ur) 0 0 G u 9 [(0, .ref (z + v0)), (1, .int v1), (2, .int v2), (3, .int v3)] [] := by
  intro n
  induction n with
  | zero => intro v0 v1 v2 v3 u iv0 h; cases h
  | succ n ih =>
    intro v0 v1 v2 v3 u iv0 h
    rw [lo_X12_greatestRead_9] at h
    refine tc_iload_n 3 rfl dX12_greatestRead_9 ?_
    refine tc_aload_n 0 rfl dX12_greatestRead_10 ?_
    refine tc_geti iv0.1 fl_X12_142 dX12_greatestRead_11 ?_
    refine tc_icmp_ge 53 dX12_greatestRead_14 (by decide) (fun hc2 => ?_) (fun hc2 => ?_)
    · rw [if_pos hc2] at h
      refine tc_iload_n 2 rfl dX12_greatestRead_53 ?_
      cases h
      exact tc_ireturn rfl dX12_greatestRead_54 rfl rfl ⟨rfl, rfl, rfl⟩
    · rw [if_neg hc2] at h
      refine tc_aload_n 0 rfl dX12_greatestRead_17 ?_
      refine tc_iload_n 1 rfl dX12_greatestRead_18 ?_
      refine tc_aload_n 0 rfl dX12_greatestRead_19 ?_
      refine tc_getp hW iv0 fl_X12_39 dX12_greatestRead_20 rfl ?_
      refine tc_iconst (v := 4) (by decide) dX12_greatestRead_23 ?_
      refine tc_iload_n 3 rfl dX12_greatestRead_24 ?_
      refine tc_imul dX12_greatestRead_25 ?_
      obtain ⟨bx3, x3, ex3, h⟩ := tc_ld_ex h
      refine tc_iald (hW.p iv0 11 rfl).1 bx3 dX12_greatestRead_26 ?_
      refine tc_nm ex3 ?_
      refine tc_iconst (v := 1) (by decide) dX12_greatestRead_27 ?_
      refine tc_isub dX12_greatestRead_28 ?_
      obtain ⟨x4, u5, hq6, h⟩ := tc_b_ex h
      refine tc_callVi [.int v1, .int (x3 - 1)] dX12_greatestRead_29 iv0.1 (ct_X12_reads hW iv0 hq6) ml_X12_248 mw_X12_reads mv_X12_reads ⟨Nat.le_of_ble_eq_true rfl, Nat.le_of_ble_eq_true rfl⟩ rfl rfl (Nat.le_of_ble_eq_true rfl) ⟨Nat.le_refl _, Nat.le_refl _⟩ (by decide) ?_
      refine tc_istore [(4, .int x4), (0, .ref (z + v0)), (1, .int v1), (2, .int v2), (3, .int v3)] dX12_greatestRead_32 (by decide) rfl ?_
      refine tc_iload 0 rfl dX12_greatestRead_34 ?_
      refine tc_iload_n 3 rfl dX12_greatestRead_36 ?_
      refine tc_icmp_le 45 dX12_greatestRead_37 (by decide) (fun hc7 => ?_) (fun hc7 => ?_)
      · rw [if_pos hc7] at h
        refine tc_iload_n 3 rfl dX12_greatestRead_45 ?_
        refine tc_lvs [1, 2, 4] rfl ?_
        exact sb_X12_greatestRead_46 hW r ur _ ih v0 v1 v3 v2 u5 iv0 h
      · rw [if_neg hc7] at h
        refine tc_iload 0 rfl dX12_greatestRead_40 ?_
        refine tc_goto 46 dX12_greatestRead_42 (by decide) ?_
        refine tc_lvs [1, 2, 4] rfl ?_
        exact sb_X12_greatestRead_46 hW r ur _ ih v0 v1 v3 x4 u5 iv0 h
set_option maxRecDepth 100000 in
set_option maxHeartbeats 4000000 in
theorem ct_X12_greatestRead {l : Launch} {z : Nat} {D : tc_D} {G : tc_G} (hW : tc_W G) {v0 : Nat} {v1 : Int32} {u : tc_S} {r : Int32} {ur : tc_S} (iv0 : tc_is G v0 12) (h : fn_X12_greatestRead G v0 v1 u = some (r, ur)) : tc_C l z D yX12_greatestRead cX12_greatestRead 5 (some .int) 3 73 0 0 [.ref (z + v0), .int v1] G u (tc_po r G ur) := by
  unfold fn_X12_greatestRead at h
  refine tc_C.of (by decide) (Nat.le_of_ble_eq_true rfl) fun p e s m args below meth c => ?_
  show tc_R p l e { frames := 3, cells := 0, slots := 0, locals := 73 } s m args below meth c z D cX12_greatestRead RX12 5 (some .int) 0 0 (tc_po r G ur) 0 0 G u 0 [(0, .ref (z + v0)), (1, .int v1)] []
  refine tc_aload_n 0 rfl dX12_greatestRead_0 ?_
  refine tc_iload_n 1 rfl dX12_greatestRead_1 ?_
  obtain ⟨x8, u9, hq10, h⟩ := tc_b_ex h
  refine tc_callVv [.int v1] dX12_greatestRead_2 iv0.1 (ct_X12_lists hW iv0 hq10) ml_X12_152 mw_X12_lists mv_X12_lists ⟨Nat.le_of_ble_eq_true rfl, Nat.le_of_ble_eq_true rfl⟩ rfl rfl (Nat.le_of_ble_eq_true rfl) ⟨Nat.le_refl _, Nat.le_refl _⟩ (by decide) ?_
  refine tc_iconst (v := 0) (by decide) dX12_greatestRead_5 ?_
  refine tc_istore_n [(2, .int 0), (0, .ref (z + v0)), (1, .int v1)] dX12_greatestRead_6 (by decide) rfl ?_
  refine tc_iconst (v := 0) (by decide) dX12_greatestRead_7 ?_
  refine tc_istore_n [(3, .int 0), (2, .int 0), (0, .ref (z + v0)), (1, .int v1)] dX12_greatestRead_8 (by decide) rfl ?_
  refine tc_lvs [2, 3, 1, 0] rfl ?_
  exact sl_X12_greatestRead_9 hW r ur  _ v0 v1 0 0 u9 iv0 h
set_option maxRecDepth 100000 in
set_option maxHeartbeats 4000000 in
theorem ct_X12_entries {l : Launch} {z : Nat} {D : tc_D} {G : tc_G} (hW : tc_W G) {v0 : Nat} {v1 : Int32} {u : tc_S} {r : Int32} {ur : tc_S} (iv0 : tc_is G v0 12) (h : fn_X12_entries G v0 v1 u = some (r, ur)) : tc_C l z D yX12_entries cX12_entries 2 (some .int) 3 66 0 0 [.ref (z + v0), .int v1] G u (tc_po r G ur) := by
  unfold fn_X12_entries at h
  refine tc_C.of (by decide) (Nat.le_of_ble_eq_true rfl) fun p e s m args below meth c => ?_
  show tc_R p l e { frames := 3, cells := 0, slots := 0, locals := 66 } s m args below meth c z D cX12_entries RX12 2 (some .int) 0 0 (tc_po r G ur) 0 0 G u 0 [(0, .ref (z + v0)), (1, .int v1)] []
  refine tc_aload_n 0 rfl dX12_entries_0 ?_
  refine tc_iload_n 1 rfl dX12_entries_1 ?_
  obtain ⟨x1, u2, hq3, h⟩ := tc_b_ex h
  refine tc_callVv [.int v1] dX12_entries_2 iv0.1 (ct_X12_lists hW iv0 hq3) ml_X12_152 mw_X12_lists mv_X12_lists ⟨Nat.le_of_ble_eq_true rfl, Nat.le_of_ble_eq_true rfl⟩ rfl rfl (Nat.le_of_ble_eq_true rfl) ⟨Nat.le_refl _, Nat.le_refl _⟩ (by decide) ?_
  refine tc_aload_n 0 rfl dX12_entries_5 ?_
  refine tc_geti iv0.1 fl_X12_142 dX12_entries_6 ?_
  cases h
  exact tc_ireturn rfl dX12_entries_9 rfl rfl ⟨rfl, rfl, rfl⟩
set_option maxRecDepth 100000 in
set_option maxHeartbeats 4000000 in
theorem sb_X12_parts_70 {p : Program} {l : Launch} {e : Env} {s : State} {m : MethodId} {args : Array Value} {below : List Frame} {meth : Method} {c : Code} {z : Nat} {D : tc_D} {G : tc_G} (hW : tc_W G) (r : Int32) (ur : tc_S) (K7 : Nat → Int32 → Int32 → Int32 → Int32 → tc_S → Option (Int32 × tc_S)) (hK7 : ∀ (v0 : Nat) (v1 : Int32) (v2 : Int32) (v3 : Int32) (v4 : Int32) (u : tc_S), tc_is G v0 12 → K7 v0 v1 v2 v3 v4 u = some (r, ur) → tc_R p l e { frames := 4, cells := 0, slots := 0, locals := 91 } s m args below meth c z D cX12_parts RX12 6 (some .int) 0 0 (tc_po r G ur) 0 0 G u 7 [(0, .ref (z + v0)), (1, .int v1), (2, .int v2), (3, .int v3), (4, .int v4)] []) (v0 : Nat) (v1 : Int32) (v2 : Int32) (v3 : Int32) (v4 : Int32) (u : tc_S) (iv0 : tc_is G v0 12) (h : bl_X12_parts_70 G K7 v0 v1 v2 v3 v4 u = some (r, ur)) : tc_R p l e { frames := 4, cells := 0, slots := 0, locals := 91 } s m args below meth c z D cX12_parts RX12 6 (some .int) 0 0 (tc_po r G ur) 0 0 G u 70 [(0, .ref (z + v0)), (1, .int v1), (2, .int v2), (3, .int v3), (4, .int v4)] [] := by
  unfold bl_X12_parts_70 at h
  obtain ⟨x1, ex1, h⟩ := tc_let_ex h
  refine tc_iinc 4 (v := x1) [(4, .int x1), (0, .ref (z + v0)), (1, .int v1), (2, .int v2), (3, .int v3)] dX12_parts_70 rfl (by rw [ex1]; rfl) (by decide) rfl ?_
  refine tc_goto 7 dX12_parts_73 (by decide) ?_
  refine tc_lvs [1, 2, 3, 4, 0] rfl ?_
  exact hK7 v0 v1 v2 v3 x1 u iv0 h
set_option maxRecDepth 100000 in
set_option maxHeartbeats 4000000 in
theorem sb_X12_parts_68 {p : Program} {l : Launch} {e : Env} {s : State} {m : MethodId} {args : Array Value} {below : List Frame} {meth : Method} {c : Code} {z : Nat} {D : tc_D} {G : tc_G} (hW : tc_W G) (r : Int32) (ur : tc_S) (K7 : Nat → Int32 → Int32 → Int32 → Int32 → tc_S → Option (Int32 × tc_S)) (hK7 : ∀ (v0 : Nat) (v1 : Int32) (v2 : Int32) (v3 : Int32) (v4 : Int32) (u : tc_S), tc_is G v0 12 → K7 v0 v1 v2 v3 v4 u = some (r, ur) → tc_R p l e { frames := 4, cells := 0, slots := 0, locals := 91 } s m args below meth c z D cX12_parts RX12 6 (some .int) 0 0 (tc_po r G ur) 0 0 G u 7 [(0, .ref (z + v0)), (1, .int v1), (2, .int v2), (3, .int v3), (4, .int v4)] []) (v0 : Nat) (v1 : Int32) (v3 : Int32) (v4 : Int32) (s0 : Int32) (s1 : Int32) (u : tc_S) (iv0 : tc_is G v0 12) (h : bl_X12_parts_68 G K7 v0 v1 v3 v4 s0 s1 u = some (r, ur)) : tc_R p l e { frames := 4, cells := 0, slots := 0, locals := 91 } s m args below meth c z D cX12_parts RX12 6 (some .int) 0 0 (tc_po r G ur) 0 0 G u 68 [(0, .ref (z + v0)), (1, .int v1), (3, .int v3), (4, .int v4)] [.int s1, .int s0] := by
  unfold bl_X12_parts_68 at h
  refine tc_iadd dX12_parts_68 ?_
  obtain ⟨x2, ex2, h⟩ := tc_let_ex h
  refine tc_nm ex2 ?_
  refine tc_istore_n [(2, .int x2), (0, .ref (z + v0)), (1, .int v1), (3, .int v3), (4, .int v4)] dX12_parts_69 (by decide) rfl ?_
  refine tc_lvs [1, 2, 0, 3, 4] rfl ?_
  exact sb_X12_parts_70 hW r ur K7 hK7 v0 v1 x2 v3 v4 u iv0 h
set_option maxRecDepth 100000 in
set_option maxHeartbeats 4000000 in
theorem sb_X12_parts_63 {p : Program} {l : Launch} {e : Env} {s : State} {m : MethodId} {args : Array Value} {below : List Frame} {meth : Method} {c : Code} {z : Nat} {D : tc_D} {G : tc_G} (hW : tc_W G) (r : Int32) (ur : tc_S) (K7 : Nat → Int32 → Int32 → Int32 → Int32 → tc_S → Option (Int32 × tc_S)) (hK7 : ∀ (v0 : Nat) (v1 : Int32) (v2 : Int32) (v3 : Int32) (v4 : Int32) (u : tc_S), tc_is G v0 12 → K7 v0 v1 v2 v3 v4 u = some (r, ur) → tc_R p l e { frames := 4, cells := 0, slots := 0, locals := 91 } s m args below meth c z D cX12_parts RX12 6 (some .int) 0 0 (tc_po r G ur) 0 0 G u 7 [(0, .ref (z + v0)), (1, .int v1), (2, .int v2), (3, .int v3), (4, .int v4)] []) (v0 : Nat) (v1 : Int32) (v3 : Int32) (v4 : Int32) (s0 : Int32) (u : tc_S) (iv0 : tc_is G v0 12) (h : bl_X12_parts_63 G K7 v0 v1 v3 v4 s0 u = some (r, ur)) : tc_R p l e { frames := 4, cells := 0, slots := 0, locals := 91 } s m args below meth c z D cX12_parts RX12 6 (some .int) 0 0 (tc_po r G ur) 0 0 G u 63 [(0, .ref (z + v0)), (1, .int v1), (3, .int v3), (4, .int v4)] [.int s0] := by
  unfold bl_X12_parts_63 at h
  refine tc_iconst (v := 1) (by decide) dX12_parts_63 ?_
  refine tc_goto 68 dX12_parts_64 (by decide) ?_
  exact sb_X12_parts_68 hW r ur K7 hK7 v0 v1 v3 v4 s0 1 u iv0 h
set_option maxRecDepth 100000 in
set_option maxHeartbeats 4000000 in
theorem sl_X12_parts_7 {p : Program} {l : Launch} {e : Env} {s : State} {m : MethodId} {args : Array Value} {below : List Frame} {meth : Method} {c : Code} {z : Nat} {D : tc_D} {G : tc_G} (hW : tc_W G) (r : Int32) (ur : tc_S) : ∀ (n : Nat) (v0 : Nat) (v1 : Int32) (v2 : Int32) (v3 : Int32) (v4 : Int32) (u : tc_S) (iv0 : tc_is G v0 12) (h : lo_X12_parts_7 G n v0 v1 v2 v3 v4 u = some (r, ur)), tc_R p l e { frames := 4, cells := 0, slots := 0, locals := 91 } s m args below meth c z D cX12_parts RX12 6 (some .int) 0 0 (tc_po r G ur) 0 0 G u 7 [(0, .ref (z + v0)), (1, .int v1), (2, .int v2), (3, .int v3), (4, .int v4)] [] := by
  intro n
  induction n with
  | zero => intro v0 v1 v2 v3 v4 u iv0 h; cases h
  | succ n ih =>
    intro v0 v1 v2 v3 v4 u iv0 h
    rw [lo_X12_parts_7] at h
    refine tc_iload 4 rfl dX12_parts_7 ?_
    refine tc_aload_n 0 rfl dX12_parts_9 ?_
    refine tc_getp hW iv0 fl_X12_7 dX12_parts_10 rfl ?_
    refine tc_iconst (v := 0) (by decide) dX12_parts_13 ?_
    obtain ⟨bx3, x3, ex3, h⟩ := tc_ld_ex h
    refine tc_iald (hW.p iv0 0 rfl).1 bx3 dX12_parts_14 ?_
    refine tc_nm ex3 ?_
    refine tc_icmp_ge 76 dX12_parts_15 (by decide) (fun hc4 => ?_) (fun hc4 => ?_)
    · rw [if_pos hc4] at h
      refine tc_iload_n 2 rfl dX12_parts_76 ?_
      cases h
      exact tc_ireturn rfl dX12_parts_77 rfl rfl ⟨rfl, rfl, rfl⟩
    · rw [if_neg hc4] at h
      refine tc_iload_n 3 rfl dX12_parts_18 ?_
      refine tc_iload 4 rfl dX12_parts_19 ?_
      refine tc_ishr dX12_parts_21 ?_
      refine tc_iconst (v := 1) (by decide) dX12_parts_22 ?_
      refine tc_iand dX12_parts_23 ?_
      refine tc_iconst (v := 1) (by decide) dX12_parts_24 ?_
      refine tc_icmp_ne 31 dX12_parts_25 (by decide) (fun hc5 => ?_) (fun hc5 => ?_)
      · rw [if_neg hc5] at h
        refine tc_aload_n 0 rfl dX12_parts_31 ?_
        refine tc_iload 4 rfl dX12_parts_32 ?_
        obtain ⟨x6, u7, hq8, h⟩ := tc_b_ex h
        refine tc_callVi [.int v4] dX12_parts_34 iv0.1 (ct_X12_partOf hW iv0 hq8) ml_X12_230 mw_X12_partOf mv_X12_partOf ⟨Nat.le_of_ble_eq_true rfl, Nat.le_of_ble_eq_true rfl⟩ rfl rfl (Nat.le_of_ble_eq_true rfl) ⟨Nat.le_refl _, Nat.le_refl _⟩ (by decide) ?_
        refine tc_istore [(5, .int x6), (0, .ref (z + v0)), (1, .int v1), (2, .int v2), (3, .int v3), (4, .int v4)] dX12_parts_37 (by decide) rfl ?_
        refine tc_iload_n 4 rfl dX12_parts_39 ?_
        refine tc_iload 0 rfl dX12_parts_40 ?_
        refine tc_ior dX12_parts_42 ?_
        obtain ⟨x9, ex9, h⟩ := tc_let_ex h
        refine tc_nm ex9 ?_
        refine tc_istore_n [(3, .int x9), (5, .int x6), (0, .ref (z + v0)), (1, .int v1), (2, .int v2), (4, .int v4)] dX12_parts_43 (by decide) rfl ?_
        refine tc_iload_n 4 rfl dX12_parts_44 ?_
        refine tc_iload_n 3 rfl dX12_parts_45 ?_
        refine tc_if_eq 63 dX12_parts_46 (by decide) (fun hc10 => ?_) (fun hc10 => ?_)
        · rw [if_pos hc10] at h
          refine tc_lvs [2, 3, 0, 5] rfl ?_
          exact sb_X12_parts_63 hW r ur _ ih v0 v1 x9 v4 v2 u7 iv0 h
        · rw [if_neg hc10] at h
          refine tc_aload_n 2 rfl dX12_parts_49 ?_
          refine tc_iload 1 rfl dX12_parts_50 ?_
          obtain ⟨x11, u12, hq13, h⟩ := tc_b_ex h
          refine tc_callVi [.int x6] dX12_parts_52 iv0.1 (ct_X12_membersOf hW iv0 hq13) ml_X12_233 mw_X12_membersOf mv_X12_membersOf ⟨Nat.le_of_ble_eq_true rfl, Nat.le_of_ble_eq_true rfl⟩ rfl rfl (Nat.le_of_ble_eq_true rfl) ⟨Nat.le_refl _, Nat.le_refl _⟩ (by decide) ?_
          refine tc_iload 1 rfl dX12_parts_55 ?_
          obtain ⟨x14, u15, hq16, h⟩ := tc_b_ex h
          refine tc_callSi [.int x6] dX12_parts_57 (ct_X12_bitsOf hW hq16) ml_X12_236 mw_X12_bitsOf ms_X12_bitsOf ⟨Nat.le_of_ble_eq_true rfl, Nat.le_of_ble_eq_true rfl⟩ rfl rfl (Nat.le_of_ble_eq_true rfl) ⟨Nat.le_refl _, Nat.le_refl _⟩ ?_
          refine tc_icmp_le 67 dX12_parts_60 (by decide) (fun hc17 => ?_) (fun hc17 => ?_)
          · rw [if_pos hc17] at h
            refine tc_iconst (v := 0) (by decide) dX12_parts_67 ?_
            refine tc_lvs [2, 3, 0, 5] rfl ?_
            exact sb_X12_parts_68 hW r ur _ ih v0 v1 x9 v4 v2 0 u15 iv0 h
          · rw [if_neg hc17] at h
            refine tc_lvs [2, 3, 0, 5] rfl ?_
            exact sb_X12_parts_63 hW r ur _ ih v0 v1 x9 v4 v2 u15 iv0 h
      · rw [if_pos hc5] at h
        refine tc_goto 70 dX12_parts_28 (by decide) ?_
        exact sb_X12_parts_70 hW r ur _ ih v0 v1 v2 v3 v4 u iv0 h
set_option maxRecDepth 100000 in
set_option maxHeartbeats 4000000 in
theorem ct_X12_parts {l : Launch} {z : Nat} {D : tc_D} {G : tc_G} (hW : tc_W G) {v0 : Nat} {v1 : Int32} {u : tc_S} {r : Int32} {ur : tc_S} (iv0 : tc_is G v0 12) (h : fn_X12_parts G v0 v1 u = some (r, ur)) : tc_C l z D yX12_parts cX12_parts 6 (some .int) 4 91 0 0 [.ref (z + v0), .int v1] G u (tc_po r G ur) := by
  unfold fn_X12_parts at h
  refine tc_C.of (by decide) (Nat.le_of_ble_eq_true rfl) fun p e s m args below meth c => ?_
  show tc_R p l e { frames := 4, cells := 0, slots := 0, locals := 91 } s m args below meth c z D cX12_parts RX12 6 (some .int) 0 0 (tc_po r G ur) 0 0 G u 0 [(0, .ref (z + v0)), (1, .int v1)] []
  refine tc_iconst (v := 0) (by decide) dX12_parts_0 ?_
  refine tc_istore_n [(2, .int 0), (0, .ref (z + v0)), (1, .int v1)] dX12_parts_1 (by decide) rfl ?_
  refine tc_iconst (v := 0) (by decide) dX12_parts_2 ?_
  refine tc_istore_n [(3, .int 0), (2, .int 0), (0, .ref (z + v0)), (1, .int v1)] dX12_parts_3 (by decide) rfl ?_
  refine tc_iconst (v := 0) (by decide) dX12_parts_4 ?_
  refine tc_istore [(4, .int 0), (3, .int 0), (2, .int 0), (0, .ref (z + v0)), (1, .int v1)] dX12_parts_5 (by decide) rfl ?_
  refine tc_lvs [3, 4, 2, 1, 0] rfl ?_
  exact sl_X12_parts_7 hW r ur  _ v0 v1 0 0 0 u iv0 h
set_option maxRecDepth 100000 in
set_option maxHeartbeats 4000000 in
theorem ct_X12_counts {l : Launch} {z : Nat} {D : tc_D} {G : tc_G} (hW : tc_W G) {v0 : Nat} {v1 : Int32} {v2 : Int32} {u : tc_S} {r : Int32} {ur : tc_S} (iv0 : tc_is G v0 12) (h : fn_X12_counts G v0 v1 v2 u = some (r, ur)) : tc_C l z D yX12_counts cX12_counts 3 (some .int) 4 97 0 0 [.ref (z + v0), .int v1, .int v2] G u (tc_po r G ur) := by
  unfold fn_X12_counts at h
  refine tc_C.of (by decide) (Nat.le_of_ble_eq_true rfl) fun p e s m args below meth c => ?_
  show tc_R p l e { frames := 4, cells := 0, slots := 0, locals := 97 } s m args below meth c z D cX12_counts RX12 3 (some .int) 0 0 (tc_po r G ur) 0 0 G u 0 [(0, .ref (z + v0)), (1, .int v1), (2, .int v2)] []
  refine tc_iload_n 2 rfl dX12_counts_0 ?_
  refine tc_bipush (v := 10) (by decide) dX12_counts_1 ?_
  refine tc_bipush (v := 13) (by decide) dX12_counts_3 ?_
  obtain ⟨x1, u2, hq3, h⟩ := tc_b_ex h
  refine tc_callSi [.int v2, .int 10, .int 13] dX12_counts_5 (ct_X12_isIn hW hq3) ml_X12_79 mw_X12_isIn ms_X12_isIn ⟨Nat.le_of_ble_eq_true rfl, Nat.le_of_ble_eq_true rfl⟩ rfl rfl (Nat.le_of_ble_eq_true rfl) ⟨Nat.le_refl _, Nat.le_refl _⟩ ?_
  refine tc_if_eq 26 dX12_counts_8 (by decide) (fun hc4 => ?_) (fun hc4 => ?_)
  · rw [if_pos hc4] at h
    refine tc_iload_n 2 rfl dX12_counts_26 ?_
    by_cases hc5 : v2.toInt = 0
    · rw [if_pos hc5] at h
      refine tc_tswIn 144 dX12_counts_27 (by rw [hc5]; decide) (by rw [hc5]; decide) (by rw [hc5]; rfl) (by decide) ?_
      refine tc_aload_n 0 rfl dX12_counts_144 ?_
      refine tc_iload_n 1 rfl dX12_counts_145 ?_
      obtain ⟨x6, u7, hq8, h⟩ := tc_b_ex h
      refine tc_callVi [.int v1] dX12_counts_146 iv0.1 (ct_X12_entries hW iv0 hq8) ml_X12_266 mw_X12_entries mv_X12_entries ⟨Nat.le_of_ble_eq_true rfl, Nat.le_of_ble_eq_true rfl⟩ rfl rfl (Nat.le_of_ble_eq_true rfl) ⟨Nat.le_refl _, Nat.le_refl _⟩ (by decide) ?_
      cases h
      exact tc_ireturn rfl dX12_counts_149 rfl rfl ⟨rfl, rfl, rfl⟩
    rw [if_neg hc5] at h
    by_cases hc9 : v2.toInt = 1
    · rw [if_pos hc9] at h
      refine tc_tswIn 150 dX12_counts_27 (by rw [hc9]; decide) (by rw [hc9]; decide) (by rw [hc9]; rfl) (by decide) ?_
      refine tc_aload_n 0 rfl dX12_counts_150 ?_
      refine tc_getp hW iv0 fl_X12_7 dX12_counts_151 rfl ?_
      refine tc_iload_n 1 rfl dX12_counts_154 ?_
      refine tc_iconst (v := 0) (by decide) dX12_counts_155 ?_
      refine tc_iadd dX12_counts_156 ?_
      obtain ⟨bx10, x10, ex10, h⟩ := tc_ld_ex h
      refine tc_iald (hW.p iv0 0 rfl).1 bx10 dX12_counts_157 ?_
      refine tc_nm ex10 ?_
      cases h
      exact tc_ireturn rfl dX12_counts_158 rfl rfl ⟨rfl, rfl, rfl⟩
    rw [if_neg hc9] at h
    by_cases hc11 : v2.toInt = 2
    · rw [if_pos hc11] at h
      refine tc_tswIn 159 dX12_counts_27 (by rw [hc11]; decide) (by rw [hc11]; decide) (by rw [hc11]; rfl) (by decide) ?_
      refine tc_aload_n 0 rfl dX12_counts_159 ?_
      refine tc_getp hW iv0 fl_X12_7 dX12_counts_160 rfl ?_
      refine tc_iload_n 1 rfl dX12_counts_163 ?_
      refine tc_iconst (v := 1) (by decide) dX12_counts_164 ?_
      refine tc_iadd dX12_counts_165 ?_
      obtain ⟨bx12, x12, ex12, h⟩ := tc_ld_ex h
      refine tc_iald (hW.p iv0 0 rfl).1 bx12 dX12_counts_166 ?_
      refine tc_nm ex12 ?_
      cases h
      exact tc_ireturn rfl dX12_counts_167 rfl rfl ⟨rfl, rfl, rfl⟩
    rw [if_neg hc11] at h
    by_cases hc13 : v2.toInt = 3
    · rw [if_pos hc13] at h
      refine tc_tswIn 168 dX12_counts_27 (by rw [hc13]; decide) (by rw [hc13]; decide) (by rw [hc13]; rfl) (by decide) ?_
      refine tc_aload_n 0 rfl dX12_counts_168 ?_
      refine tc_getp hW iv0 fl_X12_7 dX12_counts_169 rfl ?_
      refine tc_iload_n 1 rfl dX12_counts_172 ?_
      refine tc_iconst (v := 2) (by decide) dX12_counts_173 ?_
      refine tc_iadd dX12_counts_174 ?_
      obtain ⟨bx14, x14, ex14, h⟩ := tc_ld_ex h
      refine tc_iald (hW.p iv0 0 rfl).1 bx14 dX12_counts_175 ?_
      refine tc_nm ex14 ?_
      cases h
      exact tc_ireturn rfl dX12_counts_176 rfl rfl ⟨rfl, rfl, rfl⟩
    rw [if_neg hc13] at h
    by_cases hc15 : v2.toInt = 4
    · rw [if_pos hc15] at h
      refine tc_tswIn 177 dX12_counts_27 (by rw [hc15]; decide) (by rw [hc15]; decide) (by rw [hc15]; rfl) (by decide) ?_
      refine tc_aload_n 0 rfl dX12_counts_177 ?_
      refine tc_getp hW iv0 fl_X12_7 dX12_counts_178 rfl ?_
      refine tc_iload_n 1 rfl dX12_counts_181 ?_
      refine tc_bipush (v := 18) (by decide) dX12_counts_182 ?_
      refine tc_iadd dX12_counts_184 ?_
      obtain ⟨bx16, x16, ex16, h⟩ := tc_ld_ex h
      refine tc_iald (hW.p iv0 0 rfl).1 bx16 dX12_counts_185 ?_
      refine tc_nm ex16 ?_
      cases h
      exact tc_ireturn rfl dX12_counts_186 rfl rfl ⟨rfl, rfl, rfl⟩
    rw [if_neg hc15] at h
    by_cases hc17 : v2.toInt = 5
    · rw [if_pos hc17] at h
      refine tc_tswIn 187 dX12_counts_27 (by rw [hc17]; decide) (by rw [hc17]; decide) (by rw [hc17]; rfl) (by decide) ?_
      refine tc_aload_n 0 rfl dX12_counts_187 ?_
      refine tc_getp hW iv0 fl_X12_7 dX12_counts_188 rfl ?_
      refine tc_iload_n 1 rfl dX12_counts_191 ?_
      refine tc_iconst (v := 0) (by decide) dX12_counts_192 ?_
      refine tc_iadd dX12_counts_193 ?_
      obtain ⟨bx18, x18, ex18, h⟩ := tc_ld_ex h
      refine tc_iald (hW.p iv0 0 rfl).1 bx18 dX12_counts_194 ?_
      refine tc_nm ex18 ?_
      refine tc_aload_n 0 rfl dX12_counts_195 ?_
      refine tc_getp hW iv0 fl_X12_7 dX12_counts_196 rfl ?_
      refine tc_iload_n 1 rfl dX12_counts_199 ?_
      refine tc_iconst (v := 1) (by decide) dX12_counts_200 ?_
      refine tc_iadd dX12_counts_201 ?_
      obtain ⟨bx19, x19, ex19, h⟩ := tc_ld_ex h
      refine tc_iald (hW.p iv0 0 rfl).1 bx19 dX12_counts_202 ?_
      refine tc_nm ex19 ?_
      refine tc_imul dX12_counts_203 ?_
      refine tc_aload_n 0 rfl dX12_counts_204 ?_
      refine tc_getp hW iv0 fl_X12_7 dX12_counts_205 rfl ?_
      refine tc_iload_n 1 rfl dX12_counts_208 ?_
      refine tc_bipush (v := 18) (by decide) dX12_counts_209 ?_
      refine tc_iadd dX12_counts_211 ?_
      obtain ⟨bx20, x20, ex20, h⟩ := tc_ld_ex h
      refine tc_iald (hW.p iv0 0 rfl).1 bx20 dX12_counts_212 ?_
      refine tc_nm ex20 ?_
      refine tc_iadd dX12_counts_213 ?_
      refine tc_aload_n 0 rfl dX12_counts_214 ?_
      refine tc_iload_n 1 rfl dX12_counts_215 ?_
      obtain ⟨x21, u22, hq23, h⟩ := tc_b_ex h
      refine tc_callVi [.int v1] dX12_counts_216 iv0.1 (ct_X12_entries hW iv0 hq23) ml_X12_266 mw_X12_entries mv_X12_entries ⟨Nat.le_of_ble_eq_true rfl, Nat.le_of_ble_eq_true rfl⟩ rfl rfl (Nat.le_of_ble_eq_true rfl) ⟨Nat.le_refl _, Nat.le_refl _⟩ (by decide) ?_
      refine tc_isub dX12_counts_219 ?_
      cases h
      exact tc_ireturn rfl dX12_counts_220 rfl rfl ⟨rfl, rfl, rfl⟩
    rw [if_neg hc17] at h
    by_cases hc24 : v2.toInt = 6
    · rw [if_pos hc24] at h
      refine tc_tswIn 221 dX12_counts_27 (by rw [hc24]; decide) (by rw [hc24]; decide) (by rw [hc24]; rfl) (by decide) ?_
      refine tc_aload_n 0 rfl dX12_counts_221 ?_
      refine tc_getp hW iv0 fl_X12_7 dX12_counts_222 rfl ?_
      refine tc_iload_n 1 rfl dX12_counts_225 ?_
      refine tc_iconst (v := 3) (by decide) dX12_counts_226 ?_
      refine tc_iadd dX12_counts_227 ?_
      obtain ⟨bx25, x25, ex25, h⟩ := tc_ld_ex h
      refine tc_iald (hW.p iv0 0 rfl).1 bx25 dX12_counts_228 ?_
      refine tc_nm ex25 ?_
      cases h
      exact tc_ireturn rfl dX12_counts_229 rfl rfl ⟨rfl, rfl, rfl⟩
    rw [if_neg hc24] at h
    by_cases hc26 : v2.toInt = 7
    · rw [if_pos hc26] at h
      refine tc_tswIn 230 dX12_counts_27 (by rw [hc26]; decide) (by rw [hc26]; decide) (by rw [hc26]; rfl) (by decide) ?_
      refine tc_aload_n 0 rfl dX12_counts_230 ?_
      refine tc_getp hW iv0 fl_X12_7 dX12_counts_231 rfl ?_
      refine tc_iload_n 1 rfl dX12_counts_234 ?_
      refine tc_iconst (v := 4) (by decide) dX12_counts_235 ?_
      refine tc_iadd dX12_counts_236 ?_
      obtain ⟨bx27, x27, ex27, h⟩ := tc_ld_ex h
      refine tc_iald (hW.p iv0 0 rfl).1 bx27 dX12_counts_237 ?_
      refine tc_nm ex27 ?_
      cases h
      exact tc_ireturn rfl dX12_counts_238 rfl rfl ⟨rfl, rfl, rfl⟩
    rw [if_neg hc26] at h
    by_cases hc28 : v2.toInt = 8
    · rw [if_pos hc28] at h
      refine tc_tswIn 239 dX12_counts_27 (by rw [hc28]; decide) (by rw [hc28]; decide) (by rw [hc28]; rfl) (by decide) ?_
      refine tc_aload_n 0 rfl dX12_counts_239 ?_
      refine tc_getp hW iv0 fl_X12_7 dX12_counts_240 rfl ?_
      refine tc_iload_n 1 rfl dX12_counts_243 ?_
      refine tc_iconst (v := 5) (by decide) dX12_counts_244 ?_
      refine tc_iadd dX12_counts_245 ?_
      obtain ⟨bx29, x29, ex29, h⟩ := tc_ld_ex h
      refine tc_iald (hW.p iv0 0 rfl).1 bx29 dX12_counts_246 ?_
      refine tc_nm ex29 ?_
      cases h
      exact tc_ireturn rfl dX12_counts_247 rfl rfl ⟨rfl, rfl, rfl⟩
    rw [if_neg hc28] at h
    by_cases hc30 : v2.toInt = 9
    · rw [if_pos hc30] at h
      refine tc_tswIn 248 dX12_counts_27 (by rw [hc30]; decide) (by rw [hc30]; decide) (by rw [hc30]; rfl) (by decide) ?_
      refine tc_aload_n 0 rfl dX12_counts_248 ?_
      refine tc_getp hW iv0 fl_X12_7 dX12_counts_249 rfl ?_
      refine tc_iload_n 1 rfl dX12_counts_252 ?_
      refine tc_bipush (v := 6) (by decide) dX12_counts_253 ?_
      refine tc_iadd dX12_counts_255 ?_
      obtain ⟨bx31, x31, ex31, h⟩ := tc_ld_ex h
      refine tc_iald (hW.p iv0 0 rfl).1 bx31 dX12_counts_256 ?_
      refine tc_nm ex31 ?_
      cases h
      exact tc_ireturn rfl dX12_counts_257 rfl rfl ⟨rfl, rfl, rfl⟩
    rw [if_neg hc30] at h
    by_cases hc32 : v2.toInt = 10
    · rw [if_pos hc32] at h
      refine tc_tswIn 348 dX12_counts_27 (by rw [hc32]; decide) (by rw [hc32]; decide) (by rw [hc32]; rfl) (by decide) ?_
      refine tc_iconst (v := (-1)) (by decide) dX12_counts_348 ?_
      cases h
      exact tc_ireturn rfl dX12_counts_349 rfl rfl ⟨rfl, rfl, rfl⟩
    rw [if_neg hc32] at h
    by_cases hc33 : v2.toInt = 11
    · rw [if_pos hc33] at h
      refine tc_tswIn 348 dX12_counts_27 (by rw [hc33]; decide) (by rw [hc33]; decide) (by rw [hc33]; rfl) (by decide) ?_
      refine tc_iconst (v := (-1)) (by decide) dX12_counts_348 ?_
      cases h
      exact tc_ireturn rfl dX12_counts_349 rfl rfl ⟨rfl, rfl, rfl⟩
    rw [if_neg hc33] at h
    by_cases hc34 : v2.toInt = 12
    · rw [if_pos hc34] at h
      refine tc_tswIn 348 dX12_counts_27 (by rw [hc34]; decide) (by rw [hc34]; decide) (by rw [hc34]; rfl) (by decide) ?_
      refine tc_iconst (v := (-1)) (by decide) dX12_counts_348 ?_
      cases h
      exact tc_ireturn rfl dX12_counts_349 rfl rfl ⟨rfl, rfl, rfl⟩
    rw [if_neg hc34] at h
    by_cases hc35 : v2.toInt = 13
    · rw [if_pos hc35] at h
      refine tc_tswIn 348 dX12_counts_27 (by rw [hc35]; decide) (by rw [hc35]; decide) (by rw [hc35]; rfl) (by decide) ?_
      refine tc_iconst (v := (-1)) (by decide) dX12_counts_348 ?_
      cases h
      exact tc_ireturn rfl dX12_counts_349 rfl rfl ⟨rfl, rfl, rfl⟩
    rw [if_neg hc35] at h
    by_cases hc36 : v2.toInt = 14
    · rw [if_pos hc36] at h
      refine tc_tswIn 258 dX12_counts_27 (by rw [hc36]; decide) (by rw [hc36]; decide) (by rw [hc36]; rfl) (by decide) ?_
      refine tc_aload_n 0 rfl dX12_counts_258 ?_
      refine tc_getp hW iv0 fl_X12_7 dX12_counts_259 rfl ?_
      refine tc_iload_n 1 rfl dX12_counts_262 ?_
      refine tc_bipush (v := 12) (by decide) dX12_counts_263 ?_
      refine tc_iadd dX12_counts_265 ?_
      obtain ⟨bx37, x37, ex37, h⟩ := tc_ld_ex h
      refine tc_iald (hW.p iv0 0 rfl).1 bx37 dX12_counts_266 ?_
      refine tc_nm ex37 ?_
      cases h
      exact tc_ireturn rfl dX12_counts_267 rfl rfl ⟨rfl, rfl, rfl⟩
    rw [if_neg hc36] at h
    by_cases hc38 : v2.toInt = 15
    · rw [if_pos hc38] at h
      refine tc_tswIn 268 dX12_counts_27 (by rw [hc38]; decide) (by rw [hc38]; decide) (by rw [hc38]; rfl) (by decide) ?_
      refine tc_aload_n 0 rfl dX12_counts_268 ?_
      refine tc_getp hW iv0 fl_X12_7 dX12_counts_269 rfl ?_
      refine tc_iload_n 1 rfl dX12_counts_272 ?_
      refine tc_bipush (v := 13) (by decide) dX12_counts_273 ?_
      refine tc_iadd dX12_counts_275 ?_
      obtain ⟨bx39, x39, ex39, h⟩ := tc_ld_ex h
      refine tc_iald (hW.p iv0 0 rfl).1 bx39 dX12_counts_276 ?_
      refine tc_nm ex39 ?_
      cases h
      exact tc_ireturn rfl dX12_counts_277 rfl rfl ⟨rfl, rfl, rfl⟩
    rw [if_neg hc38] at h
    by_cases hc40 : v2.toInt = 16
    · rw [if_pos hc40] at h
      refine tc_tswIn 278 dX12_counts_27 (by rw [hc40]; decide) (by rw [hc40]; decide) (by rw [hc40]; rfl) (by decide) ?_
      refine tc_aload_n 0 rfl dX12_counts_278 ?_
      refine tc_getp hW iv0 fl_X12_7 dX12_counts_279 rfl ?_
      refine tc_iload_n 1 rfl dX12_counts_282 ?_
      refine tc_bipush (v := 14) (by decide) dX12_counts_283 ?_
      refine tc_iadd dX12_counts_285 ?_
      obtain ⟨bx41, x41, ex41, h⟩ := tc_ld_ex h
      refine tc_iald (hW.p iv0 0 rfl).1 bx41 dX12_counts_286 ?_
      refine tc_nm ex41 ?_
      cases h
      exact tc_ireturn rfl dX12_counts_287 rfl rfl ⟨rfl, rfl, rfl⟩
    rw [if_neg hc40] at h
    by_cases hc42 : v2.toInt = 17
    · rw [if_pos hc42] at h
      refine tc_tswIn 288 dX12_counts_27 (by rw [hc42]; decide) (by rw [hc42]; decide) (by rw [hc42]; rfl) (by decide) ?_
      refine tc_aload_n 0 rfl dX12_counts_288 ?_
      refine tc_getp hW iv0 fl_X12_7 dX12_counts_289 rfl ?_
      refine tc_iload_n 1 rfl dX12_counts_292 ?_
      refine tc_bipush (v := 15) (by decide) dX12_counts_293 ?_
      refine tc_iadd dX12_counts_295 ?_
      obtain ⟨bx43, x43, ex43, h⟩ := tc_ld_ex h
      refine tc_iald (hW.p iv0 0 rfl).1 bx43 dX12_counts_296 ?_
      refine tc_nm ex43 ?_
      cases h
      exact tc_ireturn rfl dX12_counts_297 rfl rfl ⟨rfl, rfl, rfl⟩
    rw [if_neg hc42] at h
    by_cases hc44 : v2.toInt = 18
    · rw [if_pos hc44] at h
      refine tc_tswIn 298 dX12_counts_27 (by rw [hc44]; decide) (by rw [hc44]; decide) (by rw [hc44]; rfl) (by decide) ?_
      refine tc_aload_n 0 rfl dX12_counts_298 ?_
      refine tc_iload_n 1 rfl dX12_counts_299 ?_
      refine tc_iconst (v := 0) (by decide) dX12_counts_300 ?_
      obtain ⟨x45, u46, hq47, h⟩ := tc_b_ex h
      refine tc_callVi [.int v1, .int 0] dX12_counts_301 iv0.1 (ct_X12_moved hW iv0 hq47) ml_X12_269 mw_X12_moved mv_X12_moved ⟨Nat.le_of_ble_eq_true rfl, Nat.le_of_ble_eq_true rfl⟩ rfl rfl (Nat.le_of_ble_eq_true rfl) ⟨Nat.le_refl _, Nat.le_refl _⟩ (by decide) ?_
      cases h
      exact tc_ireturn rfl dX12_counts_304 rfl rfl ⟨rfl, rfl, rfl⟩
    rw [if_neg hc44] at h
    by_cases hc48 : v2.toInt = 19
    · rw [if_pos hc48] at h
      refine tc_tswIn 305 dX12_counts_27 (by rw [hc48]; decide) (by rw [hc48]; decide) (by rw [hc48]; rfl) (by decide) ?_
      refine tc_aload_n 0 rfl dX12_counts_305 ?_
      refine tc_iload_n 1 rfl dX12_counts_306 ?_
      refine tc_iconst (v := 1) (by decide) dX12_counts_307 ?_
      obtain ⟨x49, u50, hq51, h⟩ := tc_b_ex h
      refine tc_callVi [.int v1, .int 1] dX12_counts_308 iv0.1 (ct_X12_moved hW iv0 hq51) ml_X12_269 mw_X12_moved mv_X12_moved ⟨Nat.le_of_ble_eq_true rfl, Nat.le_of_ble_eq_true rfl⟩ rfl rfl (Nat.le_of_ble_eq_true rfl) ⟨Nat.le_refl _, Nat.le_refl _⟩ (by decide) ?_
      cases h
      exact tc_ireturn rfl dX12_counts_311 rfl rfl ⟨rfl, rfl, rfl⟩
    rw [if_neg hc48] at h
    by_cases hc52 : v2.toInt = 20
    · rw [if_pos hc52] at h
      refine tc_tswIn 312 dX12_counts_27 (by rw [hc52]; decide) (by rw [hc52]; decide) (by rw [hc52]; rfl) (by decide) ?_
      refine tc_aload_n 0 rfl dX12_counts_312 ?_
      refine tc_getp hW iv0 fl_X12_7 dX12_counts_313 rfl ?_
      refine tc_iload_n 1 rfl dX12_counts_316 ?_
      refine tc_bipush (v := 16) (by decide) dX12_counts_317 ?_
      refine tc_iadd dX12_counts_319 ?_
      obtain ⟨bx53, x53, ex53, h⟩ := tc_ld_ex h
      refine tc_iald (hW.p iv0 0 rfl).1 bx53 dX12_counts_320 ?_
      refine tc_nm ex53 ?_
      cases h
      exact tc_ireturn rfl dX12_counts_321 rfl rfl ⟨rfl, rfl, rfl⟩
    rw [if_neg hc52] at h
    by_cases hc54 : v2.toInt = 21
    · rw [if_pos hc54] at h
      refine tc_tswIn 322 dX12_counts_27 (by rw [hc54]; decide) (by rw [hc54]; decide) (by rw [hc54]; rfl) (by decide) ?_
      refine tc_aload_n 0 rfl dX12_counts_322 ?_
      refine tc_iload_n 1 rfl dX12_counts_323 ?_
      obtain ⟨x55, u56, hq57, h⟩ := tc_b_ex h
      refine tc_callVi [.int v1] dX12_counts_324 iv0.1 (ct_X12_greatestRead hW iv0 hq57) ml_X12_273 mw_X12_greatestRead mv_X12_greatestRead ⟨Nat.le_of_ble_eq_true rfl, Nat.le_of_ble_eq_true rfl⟩ rfl rfl (Nat.le_of_ble_eq_true rfl) ⟨Nat.le_refl _, Nat.le_refl _⟩ (by decide) ?_
      cases h
      exact tc_ireturn rfl dX12_counts_327 rfl rfl ⟨rfl, rfl, rfl⟩
    rw [if_neg hc54] at h
    by_cases hc58 : v2.toInt = 22
    · rw [if_pos hc58] at h
      refine tc_tswIn 328 dX12_counts_27 (by rw [hc58]; decide) (by rw [hc58]; decide) (by rw [hc58]; rfl) (by decide) ?_
      refine tc_aload_n 0 rfl dX12_counts_328 ?_
      refine tc_getp hW iv0 fl_X12_7 dX12_counts_329 rfl ?_
      refine tc_iload_n 1 rfl dX12_counts_332 ?_
      refine tc_bipush (v := 17) (by decide) dX12_counts_333 ?_
      refine tc_iadd dX12_counts_335 ?_
      obtain ⟨bx59, x59, ex59, h⟩ := tc_ld_ex h
      refine tc_iald (hW.p iv0 0 rfl).1 bx59 dX12_counts_336 ?_
      refine tc_nm ex59 ?_
      cases h
      exact tc_ireturn rfl dX12_counts_337 rfl rfl ⟨rfl, rfl, rfl⟩
    rw [if_neg hc58] at h
    by_cases hc60 : v2.toInt = 23
    · rw [if_pos hc60] at h
      refine tc_tswIn 348 dX12_counts_27 (by rw [hc60]; decide) (by rw [hc60]; decide) (by rw [hc60]; rfl) (by decide) ?_
      refine tc_iconst (v := (-1)) (by decide) dX12_counts_348 ?_
      cases h
      exact tc_ireturn rfl dX12_counts_349 rfl rfl ⟨rfl, rfl, rfl⟩
    rw [if_neg hc60] at h
    by_cases hc61 : v2.toInt = 24
    · rw [if_pos hc61] at h
      refine tc_tswIn 348 dX12_counts_27 (by rw [hc61]; decide) (by rw [hc61]; decide) (by rw [hc61]; rfl) (by decide) ?_
      refine tc_iconst (v := (-1)) (by decide) dX12_counts_348 ?_
      cases h
      exact tc_ireturn rfl dX12_counts_349 rfl rfl ⟨rfl, rfl, rfl⟩
    rw [if_neg hc61] at h
    by_cases hc62 : v2.toInt = 25
    · rw [if_pos hc62] at h
      refine tc_tswIn 338 dX12_counts_27 (by rw [hc62]; decide) (by rw [hc62]; decide) (by rw [hc62]; rfl) (by decide) ?_
      refine tc_aload_n 0 rfl dX12_counts_338 ?_
      refine tc_getp hW iv0 fl_X12_7 dX12_counts_339 rfl ?_
      refine tc_iload_n 1 rfl dX12_counts_342 ?_
      refine tc_bipush (v := 11) (by decide) dX12_counts_343 ?_
      refine tc_iadd dX12_counts_345 ?_
      obtain ⟨bx63, x63, ex63, h⟩ := tc_ld_ex h
      refine tc_iald (hW.p iv0 0 rfl).1 bx63 dX12_counts_346 ?_
      refine tc_nm ex63 ?_
      cases h
      exact tc_ireturn rfl dX12_counts_347 rfl rfl ⟨rfl, rfl, rfl⟩
    rw [if_neg hc62] at h
    have sw64 : v2.toInt < 0 ∨ 25 < v2.toInt := by omega
    refine tc_tswOut 348 dX12_counts_27 sw64 (by decide) ?_
    refine tc_iconst (v := (-1)) (by decide) dX12_counts_348 ?_
    cases h
    exact tc_ireturn rfl dX12_counts_349 rfl rfl ⟨rfl, rfl, rfl⟩
  · rw [if_neg hc4] at h
    refine tc_aload_n 0 rfl dX12_counts_11 ?_
    refine tc_getp hW iv0 fl_X12_7 dX12_counts_12 rfl ?_
    refine tc_iload_n 1 rfl dX12_counts_15 ?_
    refine tc_bipush (v := 7) (by decide) dX12_counts_16 ?_
    refine tc_iadd dX12_counts_18 ?_
    refine tc_iload_n 2 rfl dX12_counts_19 ?_
    refine tc_iadd dX12_counts_20 ?_
    refine tc_bipush (v := 10) (by decide) dX12_counts_21 ?_
    refine tc_isub dX12_counts_23 ?_
    obtain ⟨bx65, x65, ex65, h⟩ := tc_ld_ex h
    refine tc_iald (hW.p iv0 0 rfl).1 bx65 dX12_counts_24 ?_
    refine tc_nm ex65 ?_
    cases h
    exact tc_ireturn rfl dX12_counts_25 rfl rfl ⟨rfl, rfl, rfl⟩
set_option maxRecDepth 100000 in
set_option maxHeartbeats 4000000 in
theorem sb_X12_count_47 {p : Program} {l : Launch} {e : Env} {s : State} {m : MethodId} {args : Array Value} {below : List Frame} {meth : Method} {c : Code} {z : Nat} {D : tc_D} {G : tc_G} (hW : tc_W G) (r : Int32) (ur : tc_S) (s0 : Int32) (u : tc_S) (h : bl_X12_count_47 G s0 u = some (r, ur)) : tc_R p l e { frames := 5, cells := 0, slots := 0, locals := 119 } s m args below meth c z D cX12_count RX12 2 (some .int) 0 0 (tc_po r G ur) 0 0 G u 47 [] [.int s0] := by
  unfold bl_X12_count_47 at h
  cases h
  exact tc_ireturn rfl dX12_count_47 rfl rfl ⟨rfl, rfl, rfl⟩
set_option maxRecDepth 100000 in
set_option maxHeartbeats 4000000 in
theorem ct_X12_count {l : Launch} {z : Nat} {D : tc_D} {G : tc_G} (hW : tc_W G) {v0 : Nat} {v1 : Int32} {u : tc_S} {r : Int32} {ur : tc_S} (iv0 : tc_is G v0 12) (h : fn_X12_count G v0 v1 u = some (r, ur)) : tc_C l z D yX12_count cX12_count 2 (some .int) 5 119 0 0 [.ref (z + v0), .int v1] G u (tc_po r G ur) := by
  unfold fn_X12_count at h
  refine tc_C.of (by decide) (Nat.le_of_ble_eq_true rfl) fun p e s m args below meth c => ?_
  show tc_R p l e { frames := 5, cells := 0, slots := 0, locals := 119 } s m args below meth c z D cX12_count RX12 2 (some .int) 0 0 (tc_po r G ur) 0 0 G u 0 [(0, .ref (z + v0)), (1, .int v1)] []
  refine tc_iload_n 1 rfl dX12_count_0 ?_
  refine tc_bipush (v := 23) (by decide) dX12_count_1 ?_
  refine tc_icmp_ne 14 dX12_count_3 (by decide) (fun hc1 => ?_) (fun hc1 => ?_)
  · rw [if_neg hc1] at h
    refine tc_iload_n 1 rfl dX12_count_14 ?_
    refine tc_bipush (v := 24) (by decide) dX12_count_15 ?_
    refine tc_icmp_ne 28 dX12_count_17 (by decide) (fun hc2 => ?_) (fun hc2 => ?_)
    · rw [if_neg hc2] at h
      refine tc_iload_n 1 rfl dX12_count_28 ?_
      refine tc_bipush (v := 26) (by decide) dX12_count_29 ?_
      refine tc_icmp_ne 41 dX12_count_31 (by decide) (fun hc3 => ?_) (fun hc3 => ?_)
      · rw [if_neg hc3] at h
        refine tc_aload_n 0 rfl dX12_count_41 ?_
        refine tc_iconst (v := 0) (by decide) dX12_count_42 ?_
        refine tc_iload_n 1 rfl dX12_count_43 ?_
        obtain ⟨x4, u5, hq6, h⟩ := tc_b_ex h
        refine tc_callVi [.int 0, .int v1] dX12_count_44 iv0.1 (ct_X12_counts hW iv0 hq6) ml_X12_280 mw_X12_counts mv_X12_counts ⟨Nat.le_of_ble_eq_true rfl, Nat.le_of_ble_eq_true rfl⟩ rfl rfl (Nat.le_of_ble_eq_true rfl) ⟨Nat.le_refl _, Nat.le_refl _⟩ (by decide) ?_
        refine tc_lvs [] rfl ?_
        exact sb_X12_count_47 hW r ur  x4 u5  h
      · rw [if_pos hc3] at h
        refine tc_aload_n 0 rfl dX12_count_34 ?_
        refine tc_geti iv0.1 fl_X12_242 dX12_count_35 ?_
        refine tc_goto 47 dX12_count_38 (by decide) ?_
        refine tc_lvs [] rfl ?_
        exact sb_X12_count_47 hW r ur  (u.1 v0 3) u  h
    · rw [if_pos hc2] at h
      refine tc_aload_n 0 rfl dX12_count_20 ?_
      refine tc_iconst (v := 1) (by decide) dX12_count_21 ?_
      obtain ⟨x7, u8, hq9, h⟩ := tc_b_ex h
      refine tc_callVi [.int 1] dX12_count_22 iv0.1 (ct_X12_parts hW iv0 hq9) ml_X12_276 mw_X12_parts mv_X12_parts ⟨Nat.le_of_ble_eq_true rfl, Nat.le_of_ble_eq_true rfl⟩ rfl rfl (Nat.le_of_ble_eq_true rfl) ⟨Nat.le_refl _, Nat.le_refl _⟩ (by decide) ?_
      refine tc_goto 47 dX12_count_25 (by decide) ?_
      refine tc_lvs [] rfl ?_
      exact sb_X12_count_47 hW r ur  x7 u8  h
  · rw [if_pos hc1] at h
    refine tc_aload_n 0 rfl dX12_count_6 ?_
    refine tc_iconst (v := 0) (by decide) dX12_count_7 ?_
    obtain ⟨x10, u11, hq12, h⟩ := tc_b_ex h
    refine tc_callVi [.int 0] dX12_count_8 iv0.1 (ct_X12_parts hW iv0 hq12) ml_X12_276 mw_X12_parts mv_X12_parts ⟨Nat.le_of_ble_eq_true rfl, Nat.le_of_ble_eq_true rfl⟩ rfl rfl (Nat.le_of_ble_eq_true rfl) ⟨Nat.le_refl _, Nat.le_refl _⟩ (by decide) ?_
    refine tc_goto 47 dX12_count_11 (by decide) ?_
    refine tc_lvs [] rfl ?_
    exact sb_X12_count_47 hW r ur  x10 u11  h
set_option maxRecDepth 100000 in
set_option maxHeartbeats 4000000 in
theorem sb_X12_tried_20 {p : Program} {l : Launch} {e : Env} {s : State} {m : MethodId} {args : Array Value} {below : List Frame} {meth : Method} {c : Code} {z : Nat} {D : tc_D} {G : tc_G} (hW : tc_W G) (r : Int32) (ur : tc_S) (u : tc_S) (h : bl_X12_tried_20 G  u = some (r, ur)) : tc_R p l e { frames := 9, cells := 0, slots := 0, locals := 236 } s m args below meth c z D cX12_tried RX12 6 (some .int) 0 0 (tc_po r G ur) 0 0 G u 20 [] [] := by
  unfold bl_X12_tried_20 at h
  refine tc_iconst (v := (-1)) (by decide) dX12_tried_20 ?_
  cases h
  exact tc_ireturn rfl dX12_tried_21 rfl rfl ⟨rfl, rfl, rfl⟩
set_option maxRecDepth 100000 in
set_option maxHeartbeats 4000000 in
theorem sb_X12_tried_62 {p : Program} {l : Launch} {e : Env} {s : State} {m : MethodId} {args : Array Value} {below : List Frame} {meth : Method} {c : Code} {z : Nat} {D : tc_D} {G : tc_G} (hW : tc_W G) (r : Int32) (ur : tc_S) (v0 : Nat) (v1 : Int32) (v2 : Int32) (v3 : Int32) (u : tc_S) (iv0 : tc_is G v0 12) (h : bl_X12_tried_62 G v0 v1 v2 v3 u = some (r, ur)) : tc_R p l e { frames := 9, cells := 0, slots := 0, locals := 236 } s m args below meth c z D cX12_tried RX12 6 (some .int) 0 0 (tc_po r G ur) 0 0 G u 62 [(0, .ref (z + v0)), (1, .int v1), (2, .int v2), (3, .int v3)] [] := by
  unfold bl_X12_tried_62 at h
  refine tc_aload_n 0 rfl dX12_tried_62 ?_
  refine tc_iconst (v := 0) (by decide) dX12_tried_63 ?_
  refine tc_sipush (v := 292) (by decide) dX12_tried_64 ?_
  obtain ⟨x1, u2, hq3, h⟩ := tc_b_ex h
  refine tc_callVv [.int 0, .int 292] dX12_tried_67 iv0.1 (ct_X12_copies hW iv0 hq3) ml_X12_83 mw_X12_copies mv_X12_copies ⟨Nat.le_of_ble_eq_true rfl, Nat.le_of_ble_eq_true rfl⟩ rfl rfl (Nat.le_of_ble_eq_true rfl) ⟨Nat.le_refl _, Nat.le_refl _⟩ (by decide) ?_
  refine tc_aload_n 0 rfl dX12_tried_70 ?_
  refine tc_iconst (v := 0) (by decide) dX12_tried_71 ?_
  refine tc_iload_n 1 rfl dX12_tried_72 ?_
  refine tc_iload_n 2 rfl dX12_tried_73 ?_
  obtain ⟨x4, u5, hq6, h⟩ := tc_b_ex h
  refine tc_callVi [.int 0, .int v1, .int v2] dX12_tried_74 iv0.1 (ct_X12_loads hW iv0 hq6) ml_X12_251 mw_X12_loads mv_X12_loads ⟨Nat.le_of_ble_eq_true rfl, Nat.le_of_ble_eq_true rfl⟩ rfl rfl (Nat.le_of_ble_eq_true rfl) ⟨Nat.le_refl _, Nat.le_refl _⟩ (by decide) ?_
  refine tc_istore [(4, .int x4), (0, .ref (z + v0)), (1, .int v1), (2, .int v2), (3, .int v3)] dX12_tried_77 (by decide) rfl ?_
  refine tc_aload_n 1 rfl dX12_tried_79 ?_
  refine tc_iload_n 4 rfl dX12_tried_80 ?_
  obtain ⟨x7, u8, hq9, h⟩ := tc_b_ex h
  refine tc_callVi [.int v3] dX12_tried_81 iv0.1 (ct_X12_count hW iv0 hq9) ml_X12_283 mw_X12_count mv_X12_count ⟨Nat.le_of_ble_eq_true rfl, Nat.le_of_ble_eq_true rfl⟩ rfl rfl (Nat.le_of_ble_eq_true rfl) ⟨Nat.le_refl _, Nat.le_refl _⟩ (by decide) ?_
  refine tc_istore [(5, .int x7), (4, .int x4), (0, .ref (z + v0)), (1, .int v1), (2, .int v2), (3, .int v3)] dX12_tried_84 (by decide) rfl ?_
  refine tc_aload_n 2 rfl dX12_tried_86 ?_
  refine tc_sipush (v := 292) (by decide) dX12_tried_87 ?_
  refine tc_iconst (v := 0) (by decide) dX12_tried_90 ?_
  obtain ⟨x10, u11, hq12, h⟩ := tc_b_ex h
  refine tc_callVv [.int 292, .int 0] dX12_tried_91 iv0.1 (ct_X12_copies hW iv0 hq12) ml_X12_83 mw_X12_copies mv_X12_copies ⟨Nat.le_of_ble_eq_true rfl, Nat.le_of_ble_eq_true rfl⟩ rfl rfl (Nat.le_of_ble_eq_true rfl) ⟨Nat.le_refl _, Nat.le_refl _⟩ (by decide) ?_
  refine tc_iload 0 rfl dX12_tried_94 ?_
  cases h
  exact tc_ireturn rfl dX12_tried_96 rfl rfl ⟨rfl, rfl, rfl⟩
set_option maxRecDepth 100000 in
set_option maxHeartbeats 4000000 in
theorem ct_X12_tried {l : Launch} {z : Nat} {D : tc_D} {G : tc_G} (hW : tc_W G) {v0 : Nat} {v1 : Int32} {v2 : Int32} {v3 : Int32} {u : tc_S} {r : Int32} {ur : tc_S} (iv0 : tc_is G v0 12) (h : fn_X12_tried G v0 v1 v2 v3 u = some (r, ur)) : tc_C l z D yX12_tried cX12_tried 6 (some .int) 9 236 0 0 [.ref (z + v0), .int v1, .int v2, .int v3] G u (tc_po r G ur) := by
  unfold fn_X12_tried at h
  refine tc_C.of (by decide) (Nat.le_of_ble_eq_true rfl) fun p e s m args below meth c => ?_
  show tc_R p l e { frames := 9, cells := 0, slots := 0, locals := 236 } s m args below meth c z D cX12_tried RX12 6 (some .int) 0 0 (tc_po r G ur) 0 0 G u 0 [(0, .ref (z + v0)), (1, .int v1), (2, .int v2), (3, .int v3)] []
  refine tc_iload_n 2 rfl dX12_tried_0 ?_
  refine tc_iconst (v := 1) (by decide) dX12_tried_1 ?_
  refine tc_bipush (v := 12) (by decide) dX12_tried_2 ?_
  obtain ⟨x13, u14, hq15, h⟩ := tc_b_ex h
  refine tc_callSi [.int v2, .int 1, .int 12] dX12_tried_4 (ct_X12_isIn hW hq15) ml_X12_79 mw_X12_isIn ms_X12_isIn ⟨Nat.le_of_ble_eq_true rfl, Nat.le_of_ble_eq_true rfl⟩ rfl rfl (Nat.le_of_ble_eq_true rfl) ⟨Nat.le_refl _, Nat.le_refl _⟩ ?_
  refine tc_if_eq 20 dX12_tried_7 (by decide) (fun hc16 => ?_) (fun hc16 => ?_)
  · rw [if_pos hc16] at h
    refine tc_lvs [] rfl ?_
    exact sb_X12_tried_20 hW r ur   u14  h
  · rw [if_neg hc16] at h
    refine tc_iload_n 3 rfl dX12_tried_10 ?_
    refine tc_iconst (v := 0) (by decide) dX12_tried_11 ?_
    refine tc_bipush (v := 25) (by decide) dX12_tried_12 ?_
    obtain ⟨x17, u18, hq19, h⟩ := tc_b_ex h
    refine tc_callSi [.int v3, .int 0, .int 25] dX12_tried_14 (ct_X12_isIn hW hq19) ml_X12_79 mw_X12_isIn ms_X12_isIn ⟨Nat.le_of_ble_eq_true rfl, Nat.le_of_ble_eq_true rfl⟩ rfl rfl (Nat.le_of_ble_eq_true rfl) ⟨Nat.le_refl _, Nat.le_refl _⟩ ?_
    refine tc_if_ne 22 dX12_tried_17 (by decide) (fun hc20 => ?_) (fun hc20 => ?_)
    · rw [if_neg hc20] at h
      refine tc_iload_n 3 rfl dX12_tried_22 ?_
      refine tc_bipush (v := 23) (by decide) dX12_tried_23 ?_
      refine tc_icmp_eq 62 dX12_tried_25 (by decide) (fun hc21 => ?_) (fun hc21 => ?_)
      · rw [if_pos hc21] at h
        exact sb_X12_tried_62 hW r ur  v0 v1 v2 v3 u18 iv0 h
      · rw [if_neg hc21] at h
        refine tc_iload_n 3 rfl dX12_tried_28 ?_
        refine tc_bipush (v := 24) (by decide) dX12_tried_29 ?_
        refine tc_icmp_eq 62 dX12_tried_31 (by decide) (fun hc22 => ?_) (fun hc22 => ?_)
        · rw [if_pos hc22] at h
          exact sb_X12_tried_62 hW r ur  v0 v1 v2 v3 u18 iv0 h
        · rw [if_neg hc22] at h
          refine tc_aload_n 0 rfl dX12_tried_34 ?_
          refine tc_iconst (v := 0) (by decide) dX12_tried_35 ?_
          refine tc_sipush (v := 292) (by decide) dX12_tried_36 ?_
          obtain ⟨x23, u24, hq25, h⟩ := tc_b_ex h
          refine tc_callVv [.int 0, .int 292] dX12_tried_39 iv0.1 (ct_X12_copies hW iv0 hq25) ml_X12_83 mw_X12_copies mv_X12_copies ⟨Nat.le_of_ble_eq_true rfl, Nat.le_of_ble_eq_true rfl⟩ rfl rfl (Nat.le_of_ble_eq_true rfl) ⟨Nat.le_refl _, Nat.le_refl _⟩ (by decide) ?_
          refine tc_aload_n 0 rfl dX12_tried_42 ?_
          refine tc_sipush (v := 292) (by decide) dX12_tried_43 ?_
          refine tc_iload_n 1 rfl dX12_tried_46 ?_
          refine tc_iload_n 2 rfl dX12_tried_47 ?_
          obtain ⟨x26, u27, hq28, h⟩ := tc_b_ex h
          refine tc_callVi [.int 292, .int v1, .int v2] dX12_tried_48 iv0.1 (ct_X12_loads hW iv0 hq28) ml_X12_251 mw_X12_loads mv_X12_loads ⟨Nat.le_of_ble_eq_true rfl, Nat.le_of_ble_eq_true rfl⟩ rfl rfl (Nat.le_of_ble_eq_true rfl) ⟨Nat.le_refl _, Nat.le_refl _⟩ (by decide) ?_
          refine tc_istore [(4, .int x26), (0, .ref (z + v0)), (1, .int v1), (2, .int v2), (3, .int v3)] dX12_tried_51 (by decide) rfl ?_
          refine tc_aload_n 1 rfl dX12_tried_53 ?_
          refine tc_sipush (v := 292) (by decide) dX12_tried_54 ?_
          refine tc_iload_n 4 rfl dX12_tried_57 ?_
          obtain ⟨x29, u30, hq31, h⟩ := tc_b_ex h
          refine tc_callVi [.int 292, .int v3] dX12_tried_58 iv0.1 (ct_X12_counts hW iv0 hq31) ml_X12_280 mw_X12_counts mv_X12_counts ⟨Nat.le_of_ble_eq_true rfl, Nat.le_of_ble_eq_true rfl⟩ rfl rfl (Nat.le_of_ble_eq_true rfl) ⟨Nat.le_refl _, Nat.le_refl _⟩ (by decide) ?_
          cases h
          exact tc_ireturn rfl dX12_tried_61 rfl rfl ⟨rfl, rfl, rfl⟩
    · rw [if_pos hc20] at h
      refine tc_lvs [] rfl ?_
      exact sb_X12_tried_20 hW r ur   u18  h
set_option maxRecDepth 100000 in
set_option maxHeartbeats 4000000 in
theorem sb_X12_byteAt_18 {p : Program} {l : Launch} {e : Env} {s : State} {m : MethodId} {args : Array Value} {below : List Frame} {meth : Method} {c : Code} {z : Nat} {D : tc_D} {G : tc_G} (hW : tc_W G) (r : Int32) (ur : tc_S) (s0 : Int32) (u : tc_S) (h : bl_X12_byteAt_18 G s0 u = some (r, ur)) : tc_R p l e { frames := 0, cells := 0, slots := 0, locals := 0 } s m args below meth c z D cX12_byteAt RX12 2 (some .int) 0 0 (tc_po r G ur) 0 0 G u 18 [] [.int s0] := by
  unfold bl_X12_byteAt_18 at h
  cases h
  exact tc_ireturn rfl dX12_byteAt_18 rfl rfl ⟨rfl, rfl, rfl⟩
set_option maxRecDepth 100000 in
set_option maxHeartbeats 4000000 in
theorem ct_X12_byteAt {l : Launch} {z : Nat} {D : tc_D} {G : tc_G} (hW : tc_W G) {v0 : Nat} {v1 : Int32} {u : tc_S} {r : Int32} {ur : tc_S} (iv0 : tc_is G v0 12) (h : fn_X12_byteAt G v0 v1 u = some (r, ur)) : tc_C l z D yX12_byteAt cX12_byteAt 2 (some .int) 0 0 0 0 [.ref (z + v0), .int v1] G u (tc_po r G ur) := by
  unfold fn_X12_byteAt at h
  refine tc_C.of (by decide) (Nat.le_of_ble_eq_true rfl) fun p e s m args below meth c => ?_
  show tc_R p l e { frames := 0, cells := 0, slots := 0, locals := 0 } s m args below meth c z D cX12_byteAt RX12 2 (some .int) 0 0 (tc_po r G ur) 0 0 G u 0 [(0, .ref (z + v0)), (1, .int v1)] []
  refine tc_iload_n 1 rfl dX12_byteAt_0 ?_
  refine tc_aload_n 0 rfl dX12_byteAt_1 ?_
  refine tc_geti iv0.1 fl_X12_285 dX12_byteAt_2 ?_
  refine tc_icmp_ge 17 dX12_byteAt_5 (by decide) (fun hc1 => ?_) (fun hc1 => ?_)
  · rw [if_pos hc1] at h
    refine tc_iconst (v := (-1)) (by decide) dX12_byteAt_17 ?_
    refine tc_lvs [] rfl ?_
    exact sb_X12_byteAt_18 hW r ur  (-1) u  h
  · rw [if_neg hc1] at h
    refine tc_aload_n 0 rfl dX12_byteAt_8 ?_
    refine tc_getp hW iv0 fl_X12_13 dX12_byteAt_9 rfl ?_
    refine tc_iload_n 1 rfl dX12_byteAt_12 ?_
    obtain ⟨bx2, x2, ex2, h⟩ := tc_ld_ex h
    refine tc_iald (hW.p iv0 1 rfl).1 bx2 dX12_byteAt_13 ?_
    refine tc_nm ex2 ?_
    refine tc_goto 18 dX12_byteAt_14 (by decide) ?_
    refine tc_lvs [] rfl ?_
    exact sb_X12_byteAt_18 hW r ur  x2 u  h
set_option maxRecDepth 100000 in
set_option maxHeartbeats 4000000 in
theorem sb_X12_isLetter_17 {p : Program} {l : Launch} {e : Env} {s : State} {m : MethodId} {args : Array Value} {below : List Frame} {meth : Method} {c : Code} {z : Nat} {D : tc_D} {G : tc_G} (hW : tc_W G) (r : Int32) (ur : tc_S) (s0 : Int32) (u : tc_S) (h : bl_X12_isLetter_17 G s0 u = some (r, ur)) : tc_R p l e { frames := 0, cells := 0, slots := 0, locals := 0 } s m args below meth c z D cX12_isLetter RX12 1 (some .boolean) 0 0 (tc_po r G ur) 0 0 G u 17 [] [.int s0] := by
  unfold bl_X12_isLetter_17 at h
  obtain ⟨hz1, h⟩ := tc_zo_ex h
  cases h
  exact tc_zreturn hz1 rfl dX12_isLetter_17 rfl rfl ⟨rfl, rfl, rfl⟩
set_option maxRecDepth 100000 in
set_option maxHeartbeats 4000000 in
theorem sb_X12_isLetter_16 {p : Program} {l : Launch} {e : Env} {s : State} {m : MethodId} {args : Array Value} {below : List Frame} {meth : Method} {c : Code} {z : Nat} {D : tc_D} {G : tc_G} (hW : tc_W G) (r : Int32) (ur : tc_S) (u : tc_S) (h : bl_X12_isLetter_16 G  u = some (r, ur)) : tc_R p l e { frames := 0, cells := 0, slots := 0, locals := 0 } s m args below meth c z D cX12_isLetter RX12 1 (some .boolean) 0 0 (tc_po r G ur) 0 0 G u 16 [] [] := by
  unfold bl_X12_isLetter_16 at h
  refine tc_iconst (v := 0) (by decide) dX12_isLetter_16 ?_
  exact sb_X12_isLetter_17 hW r ur  0 u  h
set_option maxRecDepth 100000 in
set_option maxHeartbeats 4000000 in
theorem ct_X12_isLetter {l : Launch} {z : Nat} {D : tc_D} {G : tc_G} (hW : tc_W G) {v0 : Int32} {u : tc_S} {r : Int32} {ur : tc_S} (h : fn_X12_isLetter G v0 u = some (r, ur)) : tc_C l z D yX12_isLetter cX12_isLetter 1 (some .boolean) 0 0 0 0 [.int v0] G u (tc_po r G ur) := by
  unfold fn_X12_isLetter at h
  refine tc_C.of (by decide) (Nat.le_of_ble_eq_true rfl) fun p e s m args below meth c => ?_
  show tc_R p l e { frames := 0, cells := 0, slots := 0, locals := 0 } s m args below meth c z D cX12_isLetter RX12 1 (some .boolean) 0 0 (tc_po r G ur) 0 0 G u 0 [(0, .int v0)] []
  refine tc_iload_n 0 rfl dX12_isLetter_0 ?_
  refine tc_bipush (v := 97) (by decide) dX12_isLetter_1 ?_
  refine tc_icmp_lt 16 dX12_isLetter_3 (by decide) (fun hc2 => ?_) (fun hc2 => ?_)
  · rw [if_pos hc2] at h
    refine tc_lvs [] rfl ?_
    exact sb_X12_isLetter_16 hW r ur   u  h
  · rw [if_neg hc2] at h
    refine tc_iload_n 0 rfl dX12_isLetter_6 ?_
    refine tc_bipush (v := 122) (by decide) dX12_isLetter_7 ?_
    refine tc_icmp_gt 16 dX12_isLetter_9 (by decide) (fun hc3 => ?_) (fun hc3 => ?_)
    · rw [if_pos hc3] at h
      refine tc_lvs [] rfl ?_
      exact sb_X12_isLetter_16 hW r ur   u  h
    · rw [if_neg hc3] at h
      refine tc_iconst (v := 1) (by decide) dX12_isLetter_12 ?_
      refine tc_goto 17 dX12_isLetter_13 (by decide) ?_
      refine tc_lvs [] rfl ?_
      exact sb_X12_isLetter_17 hW r ur  1 u  h
set_option maxRecDepth 100000 in
set_option maxHeartbeats 4000000 in
theorem sb_X12_isDigit_17 {p : Program} {l : Launch} {e : Env} {s : State} {m : MethodId} {args : Array Value} {below : List Frame} {meth : Method} {c : Code} {z : Nat} {D : tc_D} {G : tc_G} (hW : tc_W G) (r : Int32) (ur : tc_S) (s0 : Int32) (u : tc_S) (h : bl_X12_isDigit_17 G s0 u = some (r, ur)) : tc_R p l e { frames := 0, cells := 0, slots := 0, locals := 0 } s m args below meth c z D cX12_isDigit RX12 1 (some .boolean) 0 0 (tc_po r G ur) 0 0 G u 17 [] [.int s0] := by
  unfold bl_X12_isDigit_17 at h
  obtain ⟨hz1, h⟩ := tc_zo_ex h
  cases h
  exact tc_zreturn hz1 rfl dX12_isDigit_17 rfl rfl ⟨rfl, rfl, rfl⟩
set_option maxRecDepth 100000 in
set_option maxHeartbeats 4000000 in
theorem sb_X12_isDigit_16 {p : Program} {l : Launch} {e : Env} {s : State} {m : MethodId} {args : Array Value} {below : List Frame} {meth : Method} {c : Code} {z : Nat} {D : tc_D} {G : tc_G} (hW : tc_W G) (r : Int32) (ur : tc_S) (u : tc_S) (h : bl_X12_isDigit_16 G  u = some (r, ur)) : tc_R p l e { frames := 0, cells := 0, slots := 0, locals := 0 } s m args below meth c z D cX12_isDigit RX12 1 (some .boolean) 0 0 (tc_po r G ur) 0 0 G u 16 [] [] := by
  unfold bl_X12_isDigit_16 at h
  refine tc_iconst (v := 0) (by decide) dX12_isDigit_16 ?_
  exact sb_X12_isDigit_17 hW r ur  0 u  h
set_option maxRecDepth 100000 in
set_option maxHeartbeats 4000000 in
theorem ct_X12_isDigit {l : Launch} {z : Nat} {D : tc_D} {G : tc_G} (hW : tc_W G) {v0 : Int32} {u : tc_S} {r : Int32} {ur : tc_S} (h : fn_X12_isDigit G v0 u = some (r, ur)) : tc_C l z D yX12_isDigit cX12_isDigit 1 (some .boolean) 0 0 0 0 [.int v0] G u (tc_po r G ur) := by
  unfold fn_X12_isDigit at h
  refine tc_C.of (by decide) (Nat.le_of_ble_eq_true rfl) fun p e s m args below meth c => ?_
  show tc_R p l e { frames := 0, cells := 0, slots := 0, locals := 0 } s m args below meth c z D cX12_isDigit RX12 1 (some .boolean) 0 0 (tc_po r G ur) 0 0 G u 0 [(0, .int v0)] []
  refine tc_iload_n 0 rfl dX12_isDigit_0 ?_
  refine tc_bipush (v := 48) (by decide) dX12_isDigit_1 ?_
  refine tc_icmp_lt 16 dX12_isDigit_3 (by decide) (fun hc2 => ?_) (fun hc2 => ?_)
  · rw [if_pos hc2] at h
    refine tc_lvs [] rfl ?_
    exact sb_X12_isDigit_16 hW r ur   u  h
  · rw [if_neg hc2] at h
    refine tc_iload_n 0 rfl dX12_isDigit_6 ?_
    refine tc_bipush (v := 57) (by decide) dX12_isDigit_7 ?_
    refine tc_icmp_gt 16 dX12_isDigit_9 (by decide) (fun hc3 => ?_) (fun hc3 => ?_)
    · rw [if_pos hc3] at h
      refine tc_lvs [] rfl ?_
      exact sb_X12_isDigit_16 hW r ur   u  h
    · rw [if_neg hc3] at h
      refine tc_iconst (v := 1) (by decide) dX12_isDigit_12 ?_
      refine tc_goto 17 dX12_isDigit_13 (by decide) ?_
      refine tc_lvs [] rfl ?_
      exact sb_X12_isDigit_17 hW r ur  1 u  h
set_option maxRecDepth 100000 in
set_option maxHeartbeats 4000000 in
theorem sb_X12_takes_26 {p : Program} {l : Launch} {e : Env} {s : State} {m : MethodId} {args : Array Value} {below : List Frame} {meth : Method} {c : Code} {z : Nat} {D : tc_D} {G : tc_G} (hW : tc_W G) (r : Int32) (ur : tc_S) (K0 : Nat → tc_S → Option (Int32 × tc_S)) (hK0 : ∀ (v0 : Nat) (u : tc_S), tc_is G v0 12 → K0 v0 u = some (r, ur) → tc_R p l e { frames := 1, cells := 0, slots := 0, locals := 21 } s m args below meth c z D cX12_takes RX12 2 none 0 0 (tc_pv G ur) 0 0 G u 0 [(0, .ref (z + v0))] []) (v0 : Nat) (u : tc_S) (iv0 : tc_is G v0 12) (h : bl_X12_takes_26 G K0 v0 u = some (r, ur)) : tc_R p l e { frames := 1, cells := 0, slots := 0, locals := 21 } s m args below meth c z D cX12_takes RX12 2 none 0 0 (tc_pv G ur) 0 0 G u 26 [(0, .ref (z + v0))] [] := by
  unfold bl_X12_takes_26 at h
  refine tc_aload_n 0 rfl dX12_takes_26 ?_
  refine tc_dup rfl dX12_takes_27 ?_
  refine tc_geti iv0.1 fl_X12_288 dX12_takes_28 ?_
  refine tc_iconst (v := 1) (by decide) dX12_takes_31 ?_
  refine tc_iadd dX12_takes_32 ?_
  obtain ⟨u1, eu1, h⟩ := tc_let_ex h
  refine tc_puti iv0.1 fl_X12_288 dX12_takes_33 ?_
  refine tc_nmu eu1 ?_
  refine tc_goto 0 dX12_takes_36 (by decide) ?_
  exact hK0 v0 u1 iv0 h
set_option maxRecDepth 100000 in
set_option maxHeartbeats 4000000 in
theorem sb_X12_takes_291 {p : Program} {l : Launch} {e : Env} {s : State} {m : MethodId} {args : Array Value} {below : List Frame} {meth : Method} {c : Code} {z : Nat} {D : tc_D} {G : tc_G} (hW : tc_W G) (r : Int32) (ur : tc_S) (u : tc_S) (h : bl_X12_takes_291 G  u = some (r, ur)) : tc_R p l e { frames := 1, cells := 0, slots := 0, locals := 21 } s m args below meth c z D cX12_takes RX12 2 none 0 0 (tc_pv G ur) 0 0 G u 291 [] [] := by
  unfold bl_X12_takes_291 at h
  cases h
  exact tc_return rfl dX12_takes_291 rfl rfl ⟨rfl, rfl, rfl⟩
set_option maxRecDepth 100000 in
set_option maxHeartbeats 4000000 in
theorem sb_X12_takes_288 {p : Program} {l : Launch} {e : Env} {s : State} {m : MethodId} {args : Array Value} {below : List Frame} {meth : Method} {c : Code} {z : Nat} {D : tc_D} {G : tc_G} (hW : tc_W G) (r : Int32) (ur : tc_S) (s0 : Nat) (s1 : Int32) (u : tc_S) (is0 : tc_is G s0 12) (h : bl_X12_takes_288 G s0 s1 u = some (r, ur)) : tc_R p l e { frames := 1, cells := 0, slots := 0, locals := 21 } s m args below meth c z D cX12_takes RX12 2 none 0 0 (tc_pv G ur) 0 0 G u 288 [] [.int s1, .ref (z + s0)] := by
  unfold bl_X12_takes_288 at h
  obtain ⟨u2, eu2, h⟩ := tc_let_ex h
  refine tc_puti is0.1 fl_X12_301 dX12_takes_288 ?_
  refine tc_nmu eu2 ?_
  exact sb_X12_takes_291 hW r ur   u2  h
set_option maxRecDepth 100000 in
set_option maxHeartbeats 4000000 in
theorem sb_X12_takes_260 {p : Program} {l : Launch} {e : Env} {s : State} {m : MethodId} {args : Array Value} {below : List Frame} {meth : Method} {c : Code} {z : Nat} {D : tc_D} {G : tc_G} (hW : tc_W G) (r : Int32) (ur : tc_S) (s0 : Nat) (s1 : Int32) (u : tc_S) (is0 : tc_is G s0 12) (h : bl_X12_takes_260 G s0 s1 u = some (r, ur)) : tc_R p l e { frames := 1, cells := 0, slots := 0, locals := 21 } s m args below meth c z D cX12_takes RX12 2 none 0 0 (tc_pv G ur) 0 0 G u 260 [] [.int s1, .ref (z + s0)] := by
  unfold bl_X12_takes_260 at h
  obtain ⟨u3, eu3, h⟩ := tc_let_ex h
  refine tc_puti is0.1 fl_X12_301 dX12_takes_260 ?_
  refine tc_nmu eu3 ?_
  refine tc_goto 291 dX12_takes_263 (by decide) ?_
  exact sb_X12_takes_291 hW r ur   u3  h
set_option maxRecDepth 100000 in
set_option maxHeartbeats 4000000 in
theorem sb_X12_takes_225 {p : Program} {l : Launch} {e : Env} {s : State} {m : MethodId} {args : Array Value} {below : List Frame} {meth : Method} {c : Code} {z : Nat} {D : tc_D} {G : tc_G} (hW : tc_W G) (r : Int32) (ur : tc_S) (K168 : Nat → tc_S → Option (Int32 × tc_S)) (hK168 : ∀ (v0 : Nat) (u : tc_S), tc_is G v0 12 → K168 v0 u = some (r, ur) → tc_R p l e { frames := 1, cells := 0, slots := 0, locals := 21 } s m args below meth c z D cX12_takes RX12 2 none 0 0 (tc_pv G ur) 0 0 G u 168 [(0, .ref (z + v0))] []) (v0 : Nat) (s0 : Nat) (s1 : Int64) (u : tc_S) (iv0 : tc_is G v0 12) (is0 : tc_is G s0 12) (h : bl_X12_takes_225 G K168 v0 s0 s1 u = some (r, ur)) : tc_R p l e { frames := 1, cells := 0, slots := 0, locals := 21 } s m args below meth c z D cX12_takes RX12 2 none 0 0 (tc_pv G ur) 0 0 G u 225 [(0, .ref (z + v0))] [.long s1, .ref (z + s0)] := by
  unfold bl_X12_takes_225 at h
  obtain ⟨u4, eu4, h⟩ := tc_let_ex h
  refine tc_putl is0.1 fl_X12_297 dX12_takes_225 ?_
  refine tc_nmu eu4 ?_
  refine tc_aload_n 0 rfl dX12_takes_228 ?_
  refine tc_dup rfl dX12_takes_229 ?_
  refine tc_geti iv0.1 fl_X12_288 dX12_takes_230 ?_
  refine tc_iconst (v := 1) (by decide) dX12_takes_233 ?_
  refine tc_iadd dX12_takes_234 ?_
  obtain ⟨u5, eu5, h⟩ := tc_let_ex h
  refine tc_puti iv0.1 fl_X12_288 dX12_takes_235 ?_
  refine tc_nmu eu5 ?_
  refine tc_goto 168 dX12_takes_238 (by decide) ?_
  exact hK168 v0 u5 iv0 h
set_option maxRecDepth 100000 in
set_option maxHeartbeats 4000000 in
theorem sl_X12_takes_168 {p : Program} {l : Launch} {e : Env} {s : State} {m : MethodId} {args : Array Value} {below : List Frame} {meth : Method} {c : Code} {z : Nat} {D : tc_D} {G : tc_G} (hW : tc_W G) (r : Int32) (ur : tc_S) : ∀ (n : Nat) (v0 : Nat) (u : tc_S) (iv0 : tc_is G v0 12) (h : lo_X12_takes_168 G n v0 u = some (r, ur)), tc_R p l e { frames := 1, cells := 0, slots := 0, locals := 21 } s m args below meth c z D cX12_takes RX12 2 none 0 0 (tc_pv G ur) 0 0 G u 168 [(0, .ref (z + v0))] [] := by
  intro n
  induction n with
  | zero => intro v0 u iv0 h; cases h
  | succ n ih =>
    intro v0 u iv0 h
    rw [lo_X12_takes_168] at h
    refine tc_aload_n 0 rfl dX12_takes_168 ?_
    refine tc_aload_n 0 rfl dX12_takes_169 ?_
    refine tc_geti iv0.1 fl_X12_288 dX12_takes_170 ?_
    obtain ⟨x6, u7, hq8, h⟩ := tc_b_ex h
    refine tc_callVi [.int (u.1 v0 23)] dX12_takes_173 iv0.1 (ct_X12_byteAt hW iv0 hq8) ml_X12_291 mw_X12_byteAt mv_X12_byteAt ⟨Nat.le_of_ble_eq_true rfl, Nat.le_of_ble_eq_true rfl⟩ rfl rfl (Nat.le_of_ble_eq_true rfl) ⟨Nat.le_refl _, Nat.le_refl _⟩ (by decide) ?_
    obtain ⟨x9, u10, hq11, h⟩ := tc_b_ex h
    refine tc_callSi [.int x6] dX12_takes_176 (ct_X12_isDigit hW hq11) ml_X12_311 mw_X12_isDigit ms_X12_isDigit ⟨Nat.le_of_ble_eq_true rfl, Nat.le_of_ble_eq_true rfl⟩ rfl rfl (Nat.le_of_ble_eq_true rfl) ⟨Nat.le_refl _, Nat.le_refl _⟩ ?_
    refine tc_if_eq 241 dX12_takes_179 (by decide) (fun hc12 => ?_) (fun hc12 => ?_)
    · rw [if_pos hc12] at h
      refine tc_aload_n 0 rfl dX12_takes_241 ?_
      refine tc_aload_n 0 rfl dX12_takes_242 ?_
      refine tc_geti iv0.1 fl_X12_288 dX12_takes_243 ?_
      refine tc_aload_n 0 rfl dX12_takes_246 ?_
      refine tc_geti iv0.1 fl_X12_294 dX12_takes_247 ?_
      refine tc_isub dX12_takes_250 ?_
      refine tc_iconst (v := 4) (by decide) dX12_takes_251 ?_
      refine tc_icmp_le 259 dX12_takes_252 (by decide) (fun hc13 => ?_) (fun hc13 => ?_)
      · rw [if_pos hc13] at h
        refine tc_iconst (v := 2) (by decide) dX12_takes_259 ?_
        refine tc_lvs [] rfl ?_
        exact sb_X12_takes_260 hW r ur  v0 2 u10 iv0 h
      · rw [if_neg hc13] at h
        refine tc_iconst (v := 4) (by decide) dX12_takes_255 ?_
        refine tc_goto 260 dX12_takes_256 (by decide) ?_
        refine tc_lvs [] rfl ?_
        exact sb_X12_takes_260 hW r ur  v0 4 u10 iv0 h
    · rw [if_neg hc12] at h
      refine tc_aload_n 0 rfl dX12_takes_182 ?_
      refine tc_aload_n 0 rfl dX12_takes_183 ?_
      refine tc_geti iv0.1 fl_X12_288 dX12_takes_184 ?_
      refine tc_aload_n 0 rfl dX12_takes_187 ?_
      refine tc_geti iv0.1 fl_X12_294 dX12_takes_188 ?_
      refine tc_isub dX12_takes_191 ?_
      refine tc_iconst (v := 4) (by decide) dX12_takes_192 ?_
      refine tc_icmp_ge 221 dX12_takes_193 (by decide) (fun hc14 => ?_) (fun hc14 => ?_)
      · rw [if_pos hc14] at h
        refine tc_aload_n 0 rfl dX12_takes_221 ?_
        refine tc_getl iv0.1 fl_X12_297 dX12_takes_222 ?_
        exact sb_X12_takes_225 hW r ur _ ih v0 v0 (u10.2 v0 29) u10 iv0 iv0 h
      · rw [if_neg hc14] at h
        refine tc_ldc2 (v := 10) cl_X12_314 dX12_takes_196 ?_
        refine tc_aload_n 0 rfl dX12_takes_199 ?_
        refine tc_getl iv0.1 fl_X12_297 dX12_takes_200 ?_
        refine tc_lmul dX12_takes_203 ?_
        refine tc_aload_n 0 rfl dX12_takes_204 ?_
        refine tc_aload_n 0 rfl dX12_takes_205 ?_
        refine tc_geti iv0.1 fl_X12_288 dX12_takes_206 ?_
        obtain ⟨x15, u16, hq17, h⟩ := tc_b_ex h
        refine tc_callVi [.int (u10.1 v0 23)] dX12_takes_209 iv0.1 (ct_X12_byteAt hW iv0 hq17) ml_X12_291 mw_X12_byteAt mv_X12_byteAt ⟨Nat.le_of_ble_eq_true rfl, Nat.le_of_ble_eq_true rfl⟩ rfl rfl (Nat.le_of_ble_eq_true rfl) ⟨Nat.le_refl _, Nat.le_refl _⟩ (by decide) ?_
        refine tc_i2l dX12_takes_212 ?_
        refine tc_ladd dX12_takes_213 ?_
        refine tc_ldc2 (v := 48) cl_X12_316 dX12_takes_214 ?_
        refine tc_lsub dX12_takes_217 ?_
        refine tc_goto 225 dX12_takes_218 (by decide) ?_
        exact sb_X12_takes_225 hW r ur _ ih v0 v0 (((10 * (u10.2 v0 29)) + x15.toInt64) - 48) u16 iv0 iv0 h
set_option maxRecDepth 100000 in
set_option maxHeartbeats 4000000 in
theorem sb_X12_takes_145 {p : Program} {l : Launch} {e : Env} {s : State} {m : MethodId} {args : Array Value} {below : List Frame} {meth : Method} {c : Code} {z : Nat} {D : tc_D} {G : tc_G} (hW : tc_W G) (r : Int32) (ur : tc_S) (K85 : Nat → tc_S → Option (Int32 × tc_S)) (hK85 : ∀ (v0 : Nat) (u : tc_S), tc_is G v0 12 → K85 v0 u = some (r, ur) → tc_R p l e { frames := 1, cells := 0, slots := 0, locals := 21 } s m args below meth c z D cX12_takes RX12 2 none 0 0 (tc_pv G ur) 0 0 G u 85 [(0, .ref (z + v0))] []) (v0 : Nat) (s0 : Nat) (s1 : Int64) (u : tc_S) (iv0 : tc_is G v0 12) (is0 : tc_is G s0 12) (h : bl_X12_takes_145 G K85 v0 s0 s1 u = some (r, ur)) : tc_R p l e { frames := 1, cells := 0, slots := 0, locals := 21 } s m args below meth c z D cX12_takes RX12 2 none 0 0 (tc_pv G ur) 0 0 G u 145 [(0, .ref (z + v0))] [.long s1, .ref (z + s0)] := by
  unfold bl_X12_takes_145 at h
  obtain ⟨u18, eu18, h⟩ := tc_let_ex h
  refine tc_putl is0.1 fl_X12_297 dX12_takes_145 ?_
  refine tc_nmu eu18 ?_
  refine tc_aload_n 0 rfl dX12_takes_148 ?_
  refine tc_dup rfl dX12_takes_149 ?_
  refine tc_geti iv0.1 fl_X12_288 dX12_takes_150 ?_
  refine tc_iconst (v := 1) (by decide) dX12_takes_153 ?_
  refine tc_iadd dX12_takes_154 ?_
  obtain ⟨u19, eu19, h⟩ := tc_let_ex h
  refine tc_puti iv0.1 fl_X12_288 dX12_takes_155 ?_
  refine tc_nmu eu19 ?_
  refine tc_goto 85 dX12_takes_158 (by decide) ?_
  exact hK85 v0 u19 iv0 h
set_option maxRecDepth 100000 in
set_option maxHeartbeats 4000000 in
theorem sl_X12_takes_85 {p : Program} {l : Launch} {e : Env} {s : State} {m : MethodId} {args : Array Value} {below : List Frame} {meth : Method} {c : Code} {z : Nat} {D : tc_D} {G : tc_G} (hW : tc_W G) (r : Int32) (ur : tc_S) : ∀ (n : Nat) (v0 : Nat) (u : tc_S) (iv0 : tc_is G v0 12) (h : lo_X12_takes_85 G n v0 u = some (r, ur)), tc_R p l e { frames := 1, cells := 0, slots := 0, locals := 21 } s m args below meth c z D cX12_takes RX12 2 none 0 0 (tc_pv G ur) 0 0 G u 85 [(0, .ref (z + v0))] [] := by
  intro n
  induction n with
  | zero => intro v0 u iv0 h; cases h
  | succ n ih =>
    intro v0 u iv0 h
    rw [lo_X12_takes_85] at h
    refine tc_aload_n 0 rfl dX12_takes_85 ?_
    refine tc_aload_n 0 rfl dX12_takes_86 ?_
    refine tc_geti iv0.1 fl_X12_288 dX12_takes_87 ?_
    obtain ⟨x20, u21, hq22, h⟩ := tc_b_ex h
    refine tc_callVi [.int (u.1 v0 23)] dX12_takes_90 iv0.1 (ct_X12_byteAt hW iv0 hq22) ml_X12_291 mw_X12_byteAt mv_X12_byteAt ⟨Nat.le_of_ble_eq_true rfl, Nat.le_of_ble_eq_true rfl⟩ rfl rfl (Nat.le_of_ble_eq_true rfl) ⟨Nat.le_refl _, Nat.le_refl _⟩ (by decide) ?_
    obtain ⟨x23, u24, hq25, h⟩ := tc_b_ex h
    refine tc_callSi [.int x20] dX12_takes_93 (ct_X12_isLetter hW hq25) ml_X12_304 mw_X12_isLetter ms_X12_isLetter ⟨Nat.le_of_ble_eq_true rfl, Nat.le_of_ble_eq_true rfl⟩ rfl rfl (Nat.le_of_ble_eq_true rfl) ⟨Nat.le_refl _, Nat.le_refl _⟩ ?_
    refine tc_if_eq 291 dX12_takes_96 (by decide) (fun hc26 => ?_) (fun hc26 => ?_)
    · rw [if_pos hc26] at h
      refine tc_lvs [] rfl ?_
      exact sb_X12_takes_291 hW r ur   u24  h
    · rw [if_neg hc26] at h
      refine tc_aload_n 0 rfl dX12_takes_99 ?_
      refine tc_aload_n 0 rfl dX12_takes_100 ?_
      refine tc_geti iv0.1 fl_X12_288 dX12_takes_101 ?_
      refine tc_aload_n 0 rfl dX12_takes_104 ?_
      refine tc_geti iv0.1 fl_X12_294 dX12_takes_105 ?_
      refine tc_isub dX12_takes_108 ?_
      refine tc_bipush (v := 9) (by decide) dX12_takes_109 ?_
      refine tc_icmp_ge 141 dX12_takes_111 (by decide) (fun hc27 => ?_) (fun hc27 => ?_)
      · rw [if_pos hc27] at h
        refine tc_aload_n 0 rfl dX12_takes_141 ?_
        refine tc_getl iv0.1 fl_X12_297 dX12_takes_142 ?_
        exact sb_X12_takes_145 hW r ur _ ih v0 v0 (u24.2 v0 29) u24 iv0 iv0 h
      · rw [if_neg hc27] at h
        refine tc_ldc2 (v := 27) cl_X12_307 dX12_takes_114 ?_
        refine tc_aload_n 0 rfl dX12_takes_117 ?_
        refine tc_getl iv0.1 fl_X12_297 dX12_takes_118 ?_
        refine tc_lmul dX12_takes_121 ?_
        refine tc_aload_n 0 rfl dX12_takes_122 ?_
        refine tc_aload_n 0 rfl dX12_takes_123 ?_
        refine tc_geti iv0.1 fl_X12_288 dX12_takes_124 ?_
        obtain ⟨x28, u29, hq30, h⟩ := tc_b_ex h
        refine tc_callVi [.int (u24.1 v0 23)] dX12_takes_127 iv0.1 (ct_X12_byteAt hW iv0 hq30) ml_X12_291 mw_X12_byteAt mv_X12_byteAt ⟨Nat.le_of_ble_eq_true rfl, Nat.le_of_ble_eq_true rfl⟩ rfl rfl (Nat.le_of_ble_eq_true rfl) ⟨Nat.le_refl _, Nat.le_refl _⟩ (by decide) ?_
        refine tc_i2l dX12_takes_130 ?_
        refine tc_ladd dX12_takes_131 ?_
        refine tc_ldc2 (v := 97) cl_X12_309 dX12_takes_132 ?_
        refine tc_lsub dX12_takes_135 ?_
        refine tc_lconst (v := 1) (by decide) dX12_takes_136 ?_
        refine tc_ladd dX12_takes_137 ?_
        refine tc_goto 145 dX12_takes_138 (by decide) ?_
        exact sb_X12_takes_145 hW r ur _ ih v0 v0 ((((27 * (u24.2 v0 29)) + x28.toInt64) - 97) + 1) u29 iv0 iv0 h
set_option maxRecDepth 100000 in
set_option maxHeartbeats 4000000 in
theorem sl_X12_takes_0 {p : Program} {l : Launch} {e : Env} {s : State} {m : MethodId} {args : Array Value} {below : List Frame} {meth : Method} {c : Code} {z : Nat} {D : tc_D} {G : tc_G} (hW : tc_W G) (r : Int32) (ur : tc_S) : ∀ (n : Nat) (v0 : Nat) (u : tc_S) (iv0 : tc_is G v0 12) (h : lo_X12_takes_0 G n v0 u = some (r, ur)), tc_R p l e { frames := 1, cells := 0, slots := 0, locals := 21 } s m args below meth c z D cX12_takes RX12 2 none 0 0 (tc_pv G ur) 0 0 G u 0 [(0, .ref (z + v0))] [] := by
  intro n
  induction n with
  | zero => intro v0 u iv0 h; cases h
  | succ n ih =>
    intro v0 u iv0 h
    rw [lo_X12_takes_0] at h
    refine tc_aload_n 0 rfl dX12_takes_0 ?_
    refine tc_aload_n 0 rfl dX12_takes_1 ?_
    refine tc_geti iv0.1 fl_X12_288 dX12_takes_2 ?_
    obtain ⟨x31, u32, hq33, h⟩ := tc_b_ex h
    refine tc_callVi [.int (u.1 v0 23)] dX12_takes_5 iv0.1 (ct_X12_byteAt hW iv0 hq33) ml_X12_291 mw_X12_byteAt mv_X12_byteAt ⟨Nat.le_of_ble_eq_true rfl, Nat.le_of_ble_eq_true rfl⟩ rfl rfl (Nat.le_of_ble_eq_true rfl) ⟨Nat.le_refl _, Nat.le_refl _⟩ (by decide) ?_
    refine tc_bipush (v := 32) (by decide) dX12_takes_8 ?_
    refine tc_icmp_eq 26 dX12_takes_10 (by decide) (fun hc34 => ?_) (fun hc34 => ?_)
    · rw [if_pos hc34] at h
      exact sb_X12_takes_26 hW r ur _ ih v0 u32 iv0 h
    · rw [if_neg hc34] at h
      refine tc_aload_n 0 rfl dX12_takes_13 ?_
      refine tc_aload_n 0 rfl dX12_takes_14 ?_
      refine tc_geti iv0.1 fl_X12_288 dX12_takes_15 ?_
      obtain ⟨x35, u36, hq37, h⟩ := tc_b_ex h
      refine tc_callVi [.int (u32.1 v0 23)] dX12_takes_18 iv0.1 (ct_X12_byteAt hW iv0 hq37) ml_X12_291 mw_X12_byteAt mv_X12_byteAt ⟨Nat.le_of_ble_eq_true rfl, Nat.le_of_ble_eq_true rfl⟩ rfl rfl (Nat.le_of_ble_eq_true rfl) ⟨Nat.le_refl _, Nat.le_refl _⟩ (by decide) ?_
      refine tc_bipush (v := 10) (by decide) dX12_takes_21 ?_
      refine tc_icmp_ne 39 dX12_takes_23 (by decide) (fun hc38 => ?_) (fun hc38 => ?_)
      · rw [if_neg hc38] at h
        refine tc_aload_n 0 rfl dX12_takes_39 ?_
        refine tc_aload_n 0 rfl dX12_takes_40 ?_
        refine tc_geti iv0.1 fl_X12_288 dX12_takes_41 ?_
        obtain ⟨u39, eu39, h⟩ := tc_let_ex h
        refine tc_puti iv0.1 fl_X12_294 dX12_takes_44 ?_
        refine tc_nmu eu39 ?_
        refine tc_aload_n 0 rfl dX12_takes_47 ?_
        refine tc_aload_n 0 rfl dX12_takes_48 ?_
        refine tc_geti iv0.1 fl_X12_288 dX12_takes_49 ?_
        obtain ⟨x40, u41, hq42, h⟩ := tc_b_ex h
        refine tc_callVi [.int (u39.1 v0 23)] dX12_takes_52 iv0.1 (ct_X12_byteAt hW iv0 hq42) ml_X12_291 mw_X12_byteAt mv_X12_byteAt ⟨Nat.le_of_ble_eq_true rfl, Nat.le_of_ble_eq_true rfl⟩ rfl rfl (Nat.le_of_ble_eq_true rfl) ⟨Nat.le_refl _, Nat.le_refl _⟩ (by decide) ?_
        refine tc_istore_n [(1, .int x40), (0, .ref (z + v0))] dX12_takes_55 (by decide) rfl ?_
        refine tc_aload_n 1 rfl dX12_takes_56 ?_
        refine tc_lconst (v := 0) (by decide) dX12_takes_57 ?_
        obtain ⟨u43, eu43, h⟩ := tc_let_ex h
        refine tc_putl iv0.1 fl_X12_297 dX12_takes_58 ?_
        refine tc_nmu eu43 ?_
        refine tc_iload_n 0 rfl dX12_takes_61 ?_
        refine tc_if_ge 73 dX12_takes_62 (by decide) (fun hc44 => ?_) (fun hc44 => ?_)
        · rw [if_pos hc44] at h
          refine tc_iload_n 0 rfl dX12_takes_73 ?_
          obtain ⟨x45, u46, hq47, h⟩ := tc_b_ex h
          refine tc_callSi [.int x40] dX12_takes_74 (ct_X12_isLetter hW hq47) ml_X12_304 mw_X12_isLetter ms_X12_isLetter ⟨Nat.le_of_ble_eq_true rfl, Nat.le_of_ble_eq_true rfl⟩ rfl rfl (Nat.le_of_ble_eq_true rfl) ⟨Nat.le_refl _, Nat.le_refl _⟩ ?_
          refine tc_if_eq 161 dX12_takes_77 (by decide) (fun hc48 => ?_) (fun hc48 => ?_)
          · rw [if_pos hc48] at h
            refine tc_iload_n 0 rfl dX12_takes_161 ?_
            obtain ⟨x49, u50, hq51, h⟩ := tc_b_ex h
            refine tc_callSi [.int x40] dX12_takes_162 (ct_X12_isDigit hW hq51) ml_X12_311 mw_X12_isDigit ms_X12_isDigit ⟨Nat.le_of_ble_eq_true rfl, Nat.le_of_ble_eq_true rfl⟩ rfl rfl (Nat.le_of_ble_eq_true rfl) ⟨Nat.le_refl _, Nat.le_refl _⟩ ?_
            refine tc_if_eq 266 dX12_takes_165 (by decide) (fun hc52 => ?_) (fun hc52 => ?_)
            · rw [if_pos hc52] at h
              refine tc_aload_n 1 rfl dX12_takes_266 ?_
              refine tc_dup rfl dX12_takes_267 ?_
              refine tc_geti iv0.1 fl_X12_288 dX12_takes_268 ?_
              refine tc_iconst (v := 1) (by decide) dX12_takes_271 ?_
              refine tc_iadd dX12_takes_272 ?_
              obtain ⟨u53, eu53, h⟩ := tc_let_ex h
              refine tc_puti iv0.1 fl_X12_288 dX12_takes_273 ?_
              refine tc_nmu eu53 ?_
              refine tc_aload_n 1 rfl dX12_takes_276 ?_
              refine tc_iload_n 0 rfl dX12_takes_277 ?_
              refine tc_bipush (v := 59) (by decide) dX12_takes_278 ?_
              refine tc_icmp_ne 287 dX12_takes_280 (by decide) (fun hc54 => ?_) (fun hc54 => ?_)
              · rw [if_neg hc54] at h
                refine tc_iconst (v := 4) (by decide) dX12_takes_287 ?_
                refine tc_lvs [] rfl ?_
                exact sb_X12_takes_288 hW r ur  v0 4 u53 iv0 h
              · rw [if_pos hc54] at h
                refine tc_iconst (v := 3) (by decide) dX12_takes_283 ?_
                refine tc_goto 288 dX12_takes_284 (by decide) ?_
                refine tc_lvs [] rfl ?_
                exact sb_X12_takes_288 hW r ur  v0 3 u53 iv0 h
            · rw [if_neg hc52] at h
              refine tc_lvs [1] rfl ?_
              exact sl_X12_takes_168 hW r ur  _ v0 u50 iv0 h
          · rw [if_neg hc48] at h
            refine tc_aload_n 1 rfl dX12_takes_80 ?_
            refine tc_iconst (v := 1) (by decide) dX12_takes_81 ?_
            obtain ⟨u55, eu55, h⟩ := tc_let_ex h
            refine tc_puti iv0.1 fl_X12_301 dX12_takes_82 ?_
            refine tc_nmu eu55 ?_
            refine tc_lvs [1] rfl ?_
            exact sl_X12_takes_85 hW r ur  _ v0 u55 iv0 h
        · rw [if_neg hc44] at h
          refine tc_aload_n 1 rfl dX12_takes_65 ?_
          refine tc_iconst (v := 0) (by decide) dX12_takes_66 ?_
          obtain ⟨u56, eu56, h⟩ := tc_let_ex h
          refine tc_puti iv0.1 fl_X12_301 dX12_takes_67 ?_
          refine tc_nmu eu56 ?_
          refine tc_goto 291 dX12_takes_70 (by decide) ?_
          refine tc_lvs [] rfl ?_
          exact sb_X12_takes_291 hW r ur   u56  h
      · rw [if_pos hc38] at h
        exact sb_X12_takes_26 hW r ur _ ih v0 u36 iv0 h
set_option maxRecDepth 100000 in
set_option maxHeartbeats 4000000 in
theorem ct_X12_takes {l : Launch} {z : Nat} {D : tc_D} {G : tc_G} (hW : tc_W G) {v0 : Nat} {u : tc_S} {r : Int32} {ur : tc_S} (iv0 : tc_is G v0 12) (h : fn_X12_takes G v0 u = some (r, ur)) : tc_C l z D yX12_takes cX12_takes 2 none 1 21 0 0 [.ref (z + v0)] G u (tc_pv G ur) := by
  unfold fn_X12_takes at h
  refine tc_C.of (by decide) (Nat.le_of_ble_eq_true rfl) fun p e s m args below meth c => ?_
  show tc_R p l e { frames := 1, cells := 0, slots := 0, locals := 21 } s m args below meth c z D cX12_takes RX12 2 none 0 0 (tc_pv G ur) 0 0 G u 0 [(0, .ref (z + v0))] []
  exact sl_X12_takes_0 hW r ur  _ v0 u iv0 h
set_option maxRecDepth 100000 in
set_option maxHeartbeats 4000000 in
theorem ct_X12_fails {l : Launch} {z : Nat} {D : tc_D} {G : tc_G} (hW : tc_W G) {v0 : Nat} {u : tc_S} {r : Int32} {ur : tc_S} (iv0 : tc_is G v0 12) (h : fn_X12_fails G v0 u = some (r, ur)) : tc_C l z D yX12_fails cX12_fails 1 none 0 0 0 0 [.ref (z + v0)] G u (tc_pv G ur) := by
  unfold fn_X12_fails at h
  refine tc_C.of (by decide) (Nat.le_of_ble_eq_true rfl) fun p e s m args below meth c => ?_
  show tc_R p l e { frames := 0, cells := 0, slots := 0, locals := 0 } s m args below meth c z D cX12_fails RX12 1 none 0 0 (tc_pv G ur) 0 0 G u 0 [(0, .ref (z + v0))] []
  refine tc_aload_n 0 rfl dX12_fails_0 ?_
  refine tc_geti iv0.1 fl_X12_245 dX12_fails_1 ?_
  refine tc_if_le 8 dX12_fails_4 (by decide) (fun hc1 => ?_) (fun hc1 => ?_)
  · rw [if_pos hc1] at h
    refine tc_aload_n 0 rfl dX12_fails_8 ?_
    refine tc_iconst (v := 1) (by decide) dX12_fails_9 ?_
    obtain ⟨u2, eu2, h⟩ := tc_let_ex h
    refine tc_puti iv0.1 fl_X12_245 dX12_fails_10 ?_
    refine tc_nmu eu2 ?_
    refine tc_aload_n 0 rfl dX12_fails_13 ?_
    refine tc_aload_n 0 rfl dX12_fails_14 ?_
    refine tc_geti iv0.1 fl_X12_294 dX12_fails_15 ?_
    obtain ⟨u3, eu3, h⟩ := tc_let_ex h
    refine tc_puti iv0.1 fl_X12_20 dX12_fails_18 ?_
    refine tc_nmu eu3 ?_
    cases h
    exact tc_return rfl dX12_fails_21 rfl rfl ⟨rfl, rfl, rfl⟩
  · rw [if_neg hc1] at h
    cases h
    exact tc_return rfl dX12_fails_7 rfl rfl ⟨rfl, rfl, rfl⟩
set_option maxRecDepth 100000 in
set_option maxHeartbeats 4000000 in
theorem sb_X12_isGood_12 {p : Program} {l : Launch} {e : Env} {s : State} {m : MethodId} {args : Array Value} {below : List Frame} {meth : Method} {c : Code} {z : Nat} {D : tc_D} {G : tc_G} (hW : tc_W G) (r : Int32) (ur : tc_S) (s0 : Int32) (u : tc_S) (h : bl_X12_isGood_12 G s0 u = some (r, ur)) : tc_R p l e { frames := 0, cells := 0, slots := 0, locals := 0 } s m args below meth c z D cX12_isGood RX12 1 (some .boolean) 0 0 (tc_po r G ur) 0 0 G u 12 [] [.int s0] := by
  unfold bl_X12_isGood_12 at h
  obtain ⟨hz1, h⟩ := tc_zo_ex h
  cases h
  exact tc_zreturn hz1 rfl dX12_isGood_12 rfl rfl ⟨rfl, rfl, rfl⟩
set_option maxRecDepth 100000 in
set_option maxHeartbeats 4000000 in
theorem ct_X12_isGood {l : Launch} {z : Nat} {D : tc_D} {G : tc_G} (hW : tc_W G) {v0 : Nat} {u : tc_S} {r : Int32} {ur : tc_S} (iv0 : tc_is G v0 12) (h : fn_X12_isGood G v0 u = some (r, ur)) : tc_C l z D yX12_isGood cX12_isGood 1 (some .boolean) 0 0 0 0 [.ref (z + v0)] G u (tc_po r G ur) := by
  unfold fn_X12_isGood at h
  refine tc_C.of (by decide) (Nat.le_of_ble_eq_true rfl) fun p e s m args below meth c => ?_
  show tc_R p l e { frames := 0, cells := 0, slots := 0, locals := 0 } s m args below meth c z D cX12_isGood RX12 1 (some .boolean) 0 0 (tc_po r G ur) 0 0 G u 0 [(0, .ref (z + v0))] []
  refine tc_aload_n 0 rfl dX12_isGood_0 ?_
  refine tc_geti iv0.1 fl_X12_245 dX12_isGood_1 ?_
  refine tc_if_ne 11 dX12_isGood_4 (by decide) (fun hc2 => ?_) (fun hc2 => ?_)
  · rw [if_neg hc2] at h
    refine tc_iconst (v := 0) (by decide) dX12_isGood_11 ?_
    refine tc_lvs [] rfl ?_
    exact sb_X12_isGood_12 hW r ur  0 u  h
  · rw [if_pos hc2] at h
    refine tc_iconst (v := 1) (by decide) dX12_isGood_7 ?_
    refine tc_goto 12 dX12_isGood_8 (by decide) ?_
    refine tc_lvs [] rfl ?_
    exact sb_X12_isGood_12 hW r ur  1 u  h
set_option maxRecDepth 100000 in
set_option maxHeartbeats 4000000 in
theorem ct_X12_alsoWrong {l : Launch} {z : Nat} {D : tc_D} {G : tc_G} (hW : tc_W G) {v0 : Nat} {v1 : Int32} {v2 : Int32} {u : tc_S} {r : Int32} {ur : tc_S} (iv0 : tc_is G v0 12) (h : fn_X12_alsoWrong G v0 v1 v2 u = some (r, ur)) : tc_C l z D yX12_alsoWrong cX12_alsoWrong 3 none 0 0 0 0 [.ref (z + v0), .int v1, .int v2] G u (tc_pv G ur) := by
  unfold fn_X12_alsoWrong at h
  refine tc_C.of (by decide) (Nat.le_of_ble_eq_true rfl) fun p e s m args below meth c => ?_
  show tc_R p l e { frames := 0, cells := 0, slots := 0, locals := 0 } s m args below meth c z D cX12_alsoWrong RX12 3 none 0 0 (tc_pv G ur) 0 0 G u 0 [(0, .ref (z + v0)), (1, .int v1), (2, .int v2)] []
  refine tc_aload_n 0 rfl dX12_alsoWrong_0 ?_
  refine tc_geti iv0.1 fl_X12_318 dX12_alsoWrong_1 ?_
  refine tc_if_le 8 dX12_alsoWrong_4 (by decide) (fun hc1 => ?_) (fun hc1 => ?_)
  · rw [if_pos hc1] at h
    refine tc_aload_n 0 rfl dX12_alsoWrong_8 ?_
    refine tc_iload_n 1 rfl dX12_alsoWrong_9 ?_
    obtain ⟨u2, eu2, h⟩ := tc_let_ex h
    refine tc_puti iv0.1 fl_X12_318 dX12_alsoWrong_10 ?_
    refine tc_nmu eu2 ?_
    refine tc_aload_n 0 rfl dX12_alsoWrong_13 ?_
    refine tc_iload_n 2 rfl dX12_alsoWrong_14 ?_
    obtain ⟨u3, eu3, h⟩ := tc_let_ex h
    refine tc_puti iv0.1 fl_X12_321 dX12_alsoWrong_15 ?_
    refine tc_nmu eu3 ?_
    cases h
    exact tc_return rfl dX12_alsoWrong_18 rfl rfl ⟨rfl, rfl, rfl⟩
  · rw [if_neg hc1] at h
    cases h
    exact tc_return rfl dX12_alsoWrong_7 rfl rfl ⟨rfl, rfl, rfl⟩
set_option maxRecDepth 100000 in
set_option maxHeartbeats 4000000 in
theorem sb_X12_hasWord_38 {p : Program} {l : Launch} {e : Env} {s : State} {m : MethodId} {args : Array Value} {below : List Frame} {meth : Method} {c : Code} {z : Nat} {D : tc_D} {G : tc_G} (hW : tc_W G) (r : Int32) (ur : tc_S) (v3 : Int32) (u : tc_S) (h : bl_X12_hasWord_38 G v3 u = some (r, ur)) : tc_R p l e { frames := 2, cells := 0, slots := 0, locals := 42 } s m args below meth c z D cX12_hasWord RX12 4 (some .boolean) 0 0 (tc_po r G ur) 0 0 G u 38 [(3, .int v3)] [] := by
  unfold bl_X12_hasWord_38 at h
  refine tc_iload_n 0 rfl dX12_hasWord_38 ?_
  obtain ⟨hz1, h⟩ := tc_zo_ex h
  cases h
  exact tc_zreturn hz1 rfl dX12_hasWord_39 rfl rfl ⟨rfl, rfl, rfl⟩
set_option maxRecDepth 100000 in
set_option maxHeartbeats 4000000 in
theorem sb_X12_hasWord_29 {p : Program} {l : Launch} {e : Env} {s : State} {m : MethodId} {args : Array Value} {below : List Frame} {meth : Method} {c : Code} {z : Nat} {D : tc_D} {G : tc_G} (hW : tc_W G) (r : Int32) (ur : tc_S) (v0 : Nat) (s0 : Int32) (u : tc_S) (iv0 : tc_is G v0 12) (h : bl_X12_hasWord_29 G v0 s0 u = some (r, ur)) : tc_R p l e { frames := 2, cells := 0, slots := 0, locals := 42 } s m args below meth c z D cX12_hasWord RX12 4 (some .boolean) 0 0 (tc_po r G ur) 0 0 G u 29 [(0, .ref (z + v0))] [.int s0] := by
  unfold bl_X12_hasWord_29 at h
  refine tc_istore_n [(3, .int s0), (0, .ref (z + v0))] dX12_hasWord_29 (by decide) rfl ?_
  refine tc_iload_n 0 rfl dX12_hasWord_30 ?_
  refine tc_if_eq 38 dX12_hasWord_31 (by decide) (fun hc2 => ?_) (fun hc2 => ?_)
  · rw [if_pos hc2] at h
    refine tc_lvs [0] rfl ?_
    exact sb_X12_hasWord_38 hW r ur  s0 u  h
  · rw [if_neg hc2] at h
    refine tc_aload_n 1 rfl dX12_hasWord_34 ?_
    obtain ⟨x3, u4, hq5, h⟩ := tc_b_ex h
    refine tc_callVv [] dX12_hasWord_35 iv0.1 (ct_X12_takes hW iv0 hq5) ml_X12_328 mw_X12_takes mv_X12_takes ⟨Nat.le_of_ble_eq_true rfl, Nat.le_of_ble_eq_true rfl⟩ rfl rfl (Nat.le_of_ble_eq_true rfl) ⟨Nat.le_refl _, Nat.le_refl _⟩ (by decide) ?_
    refine tc_lvs [0] rfl ?_
    exact sb_X12_hasWord_38 hW r ur  s0 u4  h
set_option maxRecDepth 100000 in
set_option maxHeartbeats 4000000 in
theorem sb_X12_hasWord_28 {p : Program} {l : Launch} {e : Env} {s : State} {m : MethodId} {args : Array Value} {below : List Frame} {meth : Method} {c : Code} {z : Nat} {D : tc_D} {G : tc_G} (hW : tc_W G) (r : Int32) (ur : tc_S) (v0 : Nat) (u : tc_S) (iv0 : tc_is G v0 12) (h : bl_X12_hasWord_28 G v0 u = some (r, ur)) : tc_R p l e { frames := 2, cells := 0, slots := 0, locals := 42 } s m args below meth c z D cX12_hasWord RX12 4 (some .boolean) 0 0 (tc_po r G ur) 0 0 G u 28 [(0, .ref (z + v0))] [] := by
  unfold bl_X12_hasWord_28 at h
  refine tc_iconst (v := 0) (by decide) dX12_hasWord_28 ?_
  exact sb_X12_hasWord_29 hW r ur  v0 0 u iv0 h
set_option maxRecDepth 100000 in
set_option maxHeartbeats 4000000 in
theorem ct_X12_hasWord {l : Launch} {z : Nat} {D : tc_D} {G : tc_G} (hW : tc_W G) {v0 : Nat} {v1 : Int64} {u : tc_S} {r : Int32} {ur : tc_S} (iv0 : tc_is G v0 12) (h : fn_X12_hasWord G v0 v1 u = some (r, ur)) : tc_C l z D yX12_hasWord cX12_hasWord 4 (some .boolean) 2 42 0 0 [.ref (z + v0), .long v1] G u (tc_po r G ur) := by
  unfold fn_X12_hasWord at h
  refine tc_C.of (by decide) (Nat.le_of_ble_eq_true rfl) fun p e s m args below meth c => ?_
  show tc_R p l e { frames := 2, cells := 0, slots := 0, locals := 42 } s m args below meth c z D cX12_hasWord RX12 4 (some .boolean) 0 0 (tc_po r G ur) 0 0 G u 0 [(0, .ref (z + v0)), (1, .long v1)] []
  refine tc_aload_n 0 rfl dX12_hasWord_0 ?_
  obtain ⟨x6, u7, hq8, h⟩ := tc_b_ex h
  refine tc_callVi [] dX12_hasWord_1 iv0.1 (ct_X12_isGood hW iv0 hq8) ml_X12_324 mw_X12_isGood mv_X12_isGood ⟨Nat.le_of_ble_eq_true rfl, Nat.le_of_ble_eq_true rfl⟩ rfl rfl (Nat.le_of_ble_eq_true rfl) ⟨Nat.le_refl _, Nat.le_refl _⟩ (by decide) ?_
  refine tc_if_eq 28 dX12_hasWord_4 (by decide) (fun hc9 => ?_) (fun hc9 => ?_)
  · rw [if_pos hc9] at h
    refine tc_lvs [0] rfl ?_
    exact sb_X12_hasWord_28 hW r ur  v0 u7 iv0 h
  · rw [if_neg hc9] at h
    refine tc_aload_n 0 rfl dX12_hasWord_7 ?_
    refine tc_geti iv0.1 fl_X12_301 dX12_hasWord_8 ?_
    refine tc_iconst (v := 1) (by decide) dX12_hasWord_11 ?_
    refine tc_icmp_ne 28 dX12_hasWord_12 (by decide) (fun hc10 => ?_) (fun hc10 => ?_)
    · rw [if_neg hc10] at h
      refine tc_lvs [0] rfl ?_
      exact sb_X12_hasWord_28 hW r ur  v0 u7 iv0 h
    · rw [if_pos hc10] at h
      refine tc_aload_n 0 rfl dX12_hasWord_15 ?_
      refine tc_getl iv0.1 fl_X12_297 dX12_hasWord_16 ?_
      refine tc_lload_n 1 rfl dX12_hasWord_19 ?_
      refine tc_lcmp dX12_hasWord_20 ?_
      refine tc_if_ne 28 dX12_hasWord_21 (by decide) (fun hc11 => ?_) (fun hc11 => ?_)
      · rw [if_neg hc11] at h
        refine tc_lvs [0] rfl ?_
        exact sb_X12_hasWord_28 hW r ur  v0 u7 iv0 h
      · rw [if_pos hc11] at h
        refine tc_iconst (v := 1) (by decide) dX12_hasWord_24 ?_
        refine tc_goto 29 dX12_hasWord_25 (by decide) ?_
        refine tc_lvs [0] rfl ?_
        exact sb_X12_hasWord_29 hW r ur  v0 1 u7 iv0 h
set_option maxRecDepth 100000 in
set_option maxHeartbeats 4000000 in
theorem sb_X12_numeral_82 {p : Program} {l : Launch} {e : Env} {s : State} {m : MethodId} {args : Array Value} {below : List Frame} {meth : Method} {c : Code} {z : Nat} {D : tc_D} {G : tc_G} (hW : tc_W G) (r : Int32) (ur : tc_S) (v0 : Nat) (v4 : Int32) (u : tc_S) (iv0 : tc_is G v0 12) (h : bl_X12_numeral_82 G v0 v4 u = some (r, ur)) : tc_R p l e { frames := 2, cells := 0, slots := 0, locals := 42 } s m args below meth c z D cX12_numeral RX12 5 (some .int) 0 0 (tc_po r G ur) 0 0 G u 82 [(0, .ref (z + v0)), (4, .int v4)] [] := by
  unfold bl_X12_numeral_82 at h
  refine tc_aload_n 0 rfl dX12_numeral_82 ?_
  obtain ⟨x1, u2, hq3, h⟩ := tc_b_ex h
  refine tc_callVv [] dX12_numeral_83 iv0.1 (ct_X12_takes hW iv0 hq3) ml_X12_328 mw_X12_takes mv_X12_takes ⟨Nat.le_of_ble_eq_true rfl, Nat.le_of_ble_eq_true rfl⟩ rfl rfl (Nat.le_of_ble_eq_true rfl) ⟨Nat.le_refl _, Nat.le_refl _⟩ (by decide) ?_
  refine tc_iload 1 rfl dX12_numeral_86 ?_
  cases h
  exact tc_ireturn rfl dX12_numeral_88 rfl rfl ⟨rfl, rfl, rfl⟩
set_option maxRecDepth 100000 in
set_option maxHeartbeats 4000000 in
theorem sb_X12_numeral_67 {p : Program} {l : Launch} {e : Env} {s : State} {m : MethodId} {args : Array Value} {below : List Frame} {meth : Method} {c : Code} {z : Nat} {D : tc_D} {G : tc_G} (hW : tc_W G) (r : Int32) (ur : tc_S) (v0 : Nat) (v3 : Int32) (s0 : Int32) (u : tc_S) (iv0 : tc_is G v0 12) (h : bl_X12_numeral_67 G v0 v3 s0 u = some (r, ur)) : tc_R p l e { frames := 2, cells := 0, slots := 0, locals := 42 } s m args below meth c z D cX12_numeral RX12 5 (some .int) 0 0 (tc_po r G ur) 0 0 G u 67 [(0, .ref (z + v0)), (3, .int v3)] [.int s0] := by
  unfold bl_X12_numeral_67 at h
  refine tc_istore [(4, .int s0), (0, .ref (z + v0)), (3, .int v3)] dX12_numeral_67 (by decide) rfl ?_
  refine tc_iload_n 2 rfl dX12_numeral_69 ?_
  refine tc_if_ne 82 dX12_numeral_70 (by decide) (fun hc4 => ?_) (fun hc4 => ?_)
  · rw [if_neg hc4] at h
    refine tc_lvs [1, 0] rfl ?_
    exact sb_X12_numeral_82 hW r ur  v0 s0 u iv0 h
  · rw [if_pos hc4] at h
    refine tc_aload_n 1 rfl dX12_numeral_73 ?_
    refine tc_iconst (v := 2) (by decide) dX12_numeral_74 ?_
    refine tc_aload_n 1 rfl dX12_numeral_75 ?_
    refine tc_geti iv0.1 fl_X12_294 dX12_numeral_76 ?_
    obtain ⟨x5, u6, hq7, h⟩ := tc_b_ex h
    refine tc_callVv [.int 2, .int (u.1 v0 25)] dX12_numeral_79 iv0.1 (ct_X12_alsoWrong hW iv0 hq7) ml_X12_334 mw_X12_alsoWrong mv_X12_alsoWrong ⟨Nat.le_of_ble_eq_true rfl, Nat.le_of_ble_eq_true rfl⟩ rfl rfl (Nat.le_of_ble_eq_true rfl) ⟨Nat.le_refl _, Nat.le_refl _⟩ (by decide) ?_
    refine tc_lvs [1, 0] rfl ?_
    exact sb_X12_numeral_82 hW r ur  v0 s0 u6 iv0 h
set_option maxRecDepth 100000 in
set_option maxHeartbeats 4000000 in
theorem sb_X12_numeral_53 {p : Program} {l : Launch} {e : Env} {s : State} {m : MethodId} {args : Array Value} {below : List Frame} {meth : Method} {c : Code} {z : Nat} {D : tc_D} {G : tc_G} (hW : tc_W G) (r : Int32) (ur : tc_S) (v0 : Nat) (v1 : Int32) (s0 : Int32) (u : tc_S) (iv0 : tc_is G v0 12) (h : bl_X12_numeral_53 G v0 v1 s0 u = some (r, ur)) : tc_R p l e { frames := 2, cells := 0, slots := 0, locals := 42 } s m args below meth c z D cX12_numeral RX12 5 (some .int) 0 0 (tc_po r G ur) 0 0 G u 53 [(0, .ref (z + v0)), (1, .int v1)] [.int s0] := by
  unfold bl_X12_numeral_53 at h
  refine tc_istore_n [(3, .int s0), (0, .ref (z + v0)), (1, .int v1)] dX12_numeral_53 (by decide) rfl ?_
  refine tc_iload_n 0 rfl dX12_numeral_54 ?_
  refine tc_if_eq 66 dX12_numeral_55 (by decide) (fun hc8 => ?_) (fun hc8 => ?_)
  · rw [if_pos hc8] at h
    refine tc_iload_n 2 rfl dX12_numeral_66 ?_
    refine tc_lvs [1, 0] rfl ?_
    exact sb_X12_numeral_67 hW r ur  v0 s0 v1 u iv0 h
  · rw [if_neg hc8] at h
    refine tc_aload_n 1 rfl dX12_numeral_58 ?_
    refine tc_getl iv0.1 fl_X12_297 dX12_numeral_59 ?_
    refine tc_l2i dX12_numeral_62 ?_
    refine tc_goto 67 dX12_numeral_63 (by decide) ?_
    refine tc_lvs [1, 0] rfl ?_
    exact sb_X12_numeral_67 hW r ur  v0 s0 (u.2 v0 29).toInt32 u iv0 h
set_option maxRecDepth 100000 in
set_option maxHeartbeats 4000000 in
theorem sb_X12_numeral_52 {p : Program} {l : Launch} {e : Env} {s : State} {m : MethodId} {args : Array Value} {below : List Frame} {meth : Method} {c : Code} {z : Nat} {D : tc_D} {G : tc_G} (hW : tc_W G) (r : Int32) (ur : tc_S) (v0 : Nat) (v1 : Int32) (u : tc_S) (iv0 : tc_is G v0 12) (h : bl_X12_numeral_52 G v0 v1 u = some (r, ur)) : tc_R p l e { frames := 2, cells := 0, slots := 0, locals := 42 } s m args below meth c z D cX12_numeral RX12 5 (some .int) 0 0 (tc_po r G ur) 0 0 G u 52 [(0, .ref (z + v0)), (1, .int v1)] [] := by
  unfold bl_X12_numeral_52 at h
  refine tc_iconst (v := 0) (by decide) dX12_numeral_52 ?_
  exact sb_X12_numeral_53 hW r ur  v0 v1 0 u iv0 h
set_option maxRecDepth 100000 in
set_option maxHeartbeats 4000000 in
theorem sb_X12_numeral_19 {p : Program} {l : Launch} {e : Env} {s : State} {m : MethodId} {args : Array Value} {below : List Frame} {meth : Method} {c : Code} {z : Nat} {D : tc_D} {G : tc_G} (hW : tc_W G) (r : Int32) (ur : tc_S) (v0 : Nat) (v1 : Int32) (v2 : Int32) (u : tc_S) (iv0 : tc_is G v0 12) (h : bl_X12_numeral_19 G v0 v1 v2 u = some (r, ur)) : tc_R p l e { frames := 2, cells := 0, slots := 0, locals := 42 } s m args below meth c z D cX12_numeral RX12 5 (some .int) 0 0 (tc_po r G ur) 0 0 G u 19 [(0, .ref (z + v0)), (1, .int v1), (2, .int v2)] [] := by
  unfold bl_X12_numeral_19 at h
  refine tc_aload_n 0 rfl dX12_numeral_19 ?_
  obtain ⟨x9, u10, hq11, h⟩ := tc_b_ex h
  refine tc_callVi [] dX12_numeral_20 iv0.1 (ct_X12_isGood hW iv0 hq11) ml_X12_324 mw_X12_isGood mv_X12_isGood ⟨Nat.le_of_ble_eq_true rfl, Nat.le_of_ble_eq_true rfl⟩ rfl rfl (Nat.le_of_ble_eq_true rfl) ⟨Nat.le_refl _, Nat.le_refl _⟩ (by decide) ?_
  refine tc_if_ne 28 dX12_numeral_23 (by decide) (fun hc12 => ?_) (fun hc12 => ?_)
  · rw [if_neg hc12] at h
    refine tc_aload_n 0 rfl dX12_numeral_28 ?_
    refine tc_getl iv0.1 fl_X12_297 dX12_numeral_29 ?_
    refine tc_iload_n 1 rfl dX12_numeral_32 ?_
    refine tc_i2l dX12_numeral_33 ?_
    refine tc_lcmp dX12_numeral_34 ?_
    refine tc_if_lt 52 dX12_numeral_35 (by decide) (fun hc13 => ?_) (fun hc13 => ?_)
    · rw [if_pos hc13] at h
      refine tc_lvs [0, 1] rfl ?_
      exact sb_X12_numeral_52 hW r ur  v0 v1 u10 iv0 h
    · rw [if_neg hc13] at h
      refine tc_aload_n 0 rfl dX12_numeral_38 ?_
      refine tc_getl iv0.1 fl_X12_297 dX12_numeral_39 ?_
      refine tc_iload_n 2 rfl dX12_numeral_42 ?_
      refine tc_i2l dX12_numeral_43 ?_
      refine tc_lcmp dX12_numeral_44 ?_
      refine tc_if_gt 52 dX12_numeral_45 (by decide) (fun hc14 => ?_) (fun hc14 => ?_)
      · rw [if_pos hc14] at h
        refine tc_lvs [0, 1] rfl ?_
        exact sb_X12_numeral_52 hW r ur  v0 v1 u10 iv0 h
      · rw [if_neg hc14] at h
        refine tc_iconst (v := 1) (by decide) dX12_numeral_48 ?_
        refine tc_goto 53 dX12_numeral_49 (by decide) ?_
        refine tc_lvs [0, 1] rfl ?_
        exact sb_X12_numeral_53 hW r ur  v0 v1 1 u10 iv0 h
  · rw [if_pos hc12] at h
    refine tc_iload_n 1 rfl dX12_numeral_26 ?_
    cases h
    exact tc_ireturn rfl dX12_numeral_27 rfl rfl ⟨rfl, rfl, rfl⟩
set_option maxRecDepth 100000 in
set_option maxHeartbeats 4000000 in
theorem ct_X12_numeral {l : Launch} {z : Nat} {D : tc_D} {G : tc_G} (hW : tc_W G) {v0 : Nat} {v1 : Int32} {v2 : Int32} {u : tc_S} {r : Int32} {ur : tc_S} (iv0 : tc_is G v0 12) (h : fn_X12_numeral G v0 v1 v2 u = some (r, ur)) : tc_C l z D yX12_numeral cX12_numeral 5 (some .int) 2 42 0 0 [.ref (z + v0), .int v1, .int v2] G u (tc_po r G ur) := by
  unfold fn_X12_numeral at h
  refine tc_C.of (by decide) (Nat.le_of_ble_eq_true rfl) fun p e s m args below meth c => ?_
  show tc_R p l e { frames := 2, cells := 0, slots := 0, locals := 42 } s m args below meth c z D cX12_numeral RX12 5 (some .int) 0 0 (tc_po r G ur) 0 0 G u 0 [(0, .ref (z + v0)), (1, .int v1), (2, .int v2)] []
  refine tc_aload_n 0 rfl dX12_numeral_0 ?_
  obtain ⟨x15, u16, hq17, h⟩ := tc_b_ex h
  refine tc_callVi [] dX12_numeral_1 iv0.1 (ct_X12_isGood hW iv0 hq17) ml_X12_324 mw_X12_isGood mv_X12_isGood ⟨Nat.le_of_ble_eq_true rfl, Nat.le_of_ble_eq_true rfl⟩ rfl rfl (Nat.le_of_ble_eq_true rfl) ⟨Nat.le_refl _, Nat.le_refl _⟩ (by decide) ?_
  refine tc_if_eq 19 dX12_numeral_4 (by decide) (fun hc18 => ?_) (fun hc18 => ?_)
  · rw [if_pos hc18] at h
    exact sb_X12_numeral_19 hW r ur  v0 v1 v2 u16 iv0 h
  · rw [if_neg hc18] at h
    refine tc_aload_n 0 rfl dX12_numeral_7 ?_
    refine tc_geti iv0.1 fl_X12_301 dX12_numeral_8 ?_
    refine tc_iconst (v := 2) (by decide) dX12_numeral_11 ?_
    refine tc_icmp_eq 19 dX12_numeral_12 (by decide) (fun hc19 => ?_) (fun hc19 => ?_)
    · rw [if_pos hc19] at h
      exact sb_X12_numeral_19 hW r ur  v0 v1 v2 u16 iv0 h
    · rw [if_neg hc19] at h
      refine tc_aload_n 0 rfl dX12_numeral_15 ?_
      obtain ⟨x20, u21, hq22, h⟩ := tc_b_ex h
      refine tc_callVv [] dX12_numeral_16 iv0.1 (ct_X12_fails hW iv0 hq22) ml_X12_331 mw_X12_fails mv_X12_fails ⟨Nat.le_of_ble_eq_true rfl, Nat.le_of_ble_eq_true rfl⟩ rfl rfl (Nat.le_of_ble_eq_true rfl) ⟨Nat.le_refl _, Nat.le_refl _⟩ (by decide) ?_
      exact sb_X12_numeral_19 hW r ur  v0 v1 v2 u21 iv0 h
set_option maxRecDepth 100000 in
set_option maxHeartbeats 4000000 in
theorem ct_X12_setsNumber {l : Launch} {z : Nat} {D : tc_D} {G : tc_G} (hW : tc_W G) {v0 : Nat} {v1 : Int64} {v3 : Int32} {v4 : Int32} {v5 : Int32} {u : tc_S} {r : Int32} {ur : tc_S} (iv0 : tc_is G v0 12) (h : fn_X12_setsNumber G v0 v1 v3 v4 v5 u = some (r, ur)) : tc_C l z D yX12_setsNumber cX12_setsNumber 6 (some .boolean) 3 66 0 0 [.ref (z + v0), .long v1, .int v3, .int v4, .int v5] G u (tc_po r G ur) := by
  unfold fn_X12_setsNumber at h
  refine tc_C.of (by decide) (Nat.le_of_ble_eq_true rfl) fun p e s m args below meth c => ?_
  show tc_R p l e { frames := 3, cells := 0, slots := 0, locals := 66 } s m args below meth c z D cX12_setsNumber RX12 6 (some .boolean) 0 0 (tc_po r G ur) 0 0 G u 0 [(0, .ref (z + v0)), (1, .long v1), (3, .int v3), (4, .int v4), (5, .int v5)] []
  refine tc_aload_n 0 rfl dX12_setsNumber_0 ?_
  refine tc_lload_n 1 rfl dX12_setsNumber_1 ?_
  obtain ⟨x1, u2, hq3, h⟩ := tc_b_ex h
  refine tc_callVi [.long v1] dX12_setsNumber_2 iv0.1 (ct_X12_hasWord hW iv0 hq3) ml_X12_337 mw_X12_hasWord mv_X12_hasWord ⟨Nat.le_of_ble_eq_true rfl, Nat.le_of_ble_eq_true rfl⟩ rfl rfl (Nat.le_of_ble_eq_true rfl) ⟨Nat.le_refl _, Nat.le_refl _⟩ (by decide) ?_
  refine tc_if_ne 10 dX12_setsNumber_5 (by decide) (fun hc4 => ?_) (fun hc4 => ?_)
  · rw [if_neg hc4] at h
    refine tc_aload_n 0 rfl dX12_setsNumber_10 ?_
    refine tc_getp hW iv0 fl_X12_63 dX12_setsNumber_11 rfl ?_
    refine tc_iload_n 2 rfl dX12_setsNumber_14 ?_
    refine tc_aload_n 0 rfl dX12_setsNumber_15 ?_
    refine tc_iload 3 rfl dX12_setsNumber_16 ?_
    refine tc_iload 4 rfl dX12_setsNumber_18 ?_
    obtain ⟨x5, u6, hq7, h⟩ := tc_b_ex h
    refine tc_callVi [.int v4, .int v5] dX12_setsNumber_20 iv0.1 (ct_X12_numeral hW iv0 hq7) ml_X12_341 mw_X12_numeral mv_X12_numeral ⟨Nat.le_of_ble_eq_true rfl, Nat.le_of_ble_eq_true rfl⟩ rfl rfl (Nat.le_of_ble_eq_true rfl) ⟨Nat.le_refl _, Nat.le_refl _⟩ (by decide) ?_
    obtain ⟨bu8, u8, eu8, h⟩ := tc_sd_ex h
    refine tc_iast (hW.p iv0 30 rfl).1 bu8 dX12_setsNumber_23 ?_
    refine tc_nmu eu8 ?_
    refine tc_iconst (v := 1) (by decide) dX12_setsNumber_24 ?_
    obtain ⟨hz9, h⟩ := tc_zo_ex h
    cases h
    exact tc_zreturn hz9 rfl dX12_setsNumber_25 rfl rfl ⟨rfl, rfl, rfl⟩
  · rw [if_pos hc4] at h
    refine tc_iconst (v := 0) (by decide) dX12_setsNumber_8 ?_
    obtain ⟨hz10, h⟩ := tc_zo_ex h
    cases h
    exact tc_zreturn hz10 rfl dX12_setsNumber_9 rfl rfl ⟨rfl, rfl, rfl⟩
set_option maxRecDepth 100000 in
set_option maxHeartbeats 4000000 in
theorem ct_X12_readsHash {l : Launch} {z : Nat} {D : tc_D} {G : tc_G} (hW : tc_W G) {v0 : Nat} {v1 : Int32} {u : tc_S} {r : Int32} {ur : tc_S} (iv0 : tc_is G v0 12) (h : fn_X12_readsHash G v0 v1 u = some (r, ur)) : tc_C l z D yX12_readsHash cX12_readsHash 2 none 3 66 0 0 [.ref (z + v0), .int v1] G u (tc_pv G ur) := by
  unfold fn_X12_readsHash at h
  refine tc_C.of (by decide) (Nat.le_of_ble_eq_true rfl) fun p e s m args below meth c => ?_
  show tc_R p l e { frames := 3, cells := 0, slots := 0, locals := 66 } s m args below meth c z D cX12_readsHash RX12 2 none 0 0 (tc_pv G ur) 0 0 G u 0 [(0, .ref (z + v0)), (1, .int v1)] []
  refine tc_aload_n 0 rfl dX12_readsHash_0 ?_
  refine tc_getp hW iv0 fl_X12_63 dX12_readsHash_1 rfl ?_
  refine tc_bipush (v := 7) (by decide) dX12_readsHash_4 ?_
  refine tc_iconst (v := 2) (by decide) dX12_readsHash_6 ?_
  refine tc_iload_n 1 rfl dX12_readsHash_7 ?_
  refine tc_imul dX12_readsHash_8 ?_
  refine tc_iadd dX12_readsHash_9 ?_
  refine tc_aload_n 0 rfl dX12_readsHash_10 ?_
  refine tc_iconst (v := 1) (by decide) dX12_readsHash_11 ?_
  refine tc_sipush (v := 1008) (by decide) dX12_readsHash_12 ?_
  obtain ⟨x1, u2, hq3, h⟩ := tc_b_ex h
  refine tc_callVi [.int 1, .int 1008] dX12_readsHash_15 iv0.1 (ct_X12_numeral hW iv0 hq3) ml_X12_341 mw_X12_numeral mv_X12_numeral ⟨Nat.le_of_ble_eq_true rfl, Nat.le_of_ble_eq_true rfl⟩ rfl rfl (Nat.le_of_ble_eq_true rfl) ⟨Nat.le_refl _, Nat.le_refl _⟩ (by decide) ?_
  obtain ⟨bu4, u4, eu4, h⟩ := tc_sd_ex h
  refine tc_iast (hW.p iv0 30 rfl).1 bu4 dX12_readsHash_18 ?_
  refine tc_nmu eu4 ?_
  refine tc_aload_n 0 rfl dX12_readsHash_19 ?_
  refine tc_getp hW iv0 fl_X12_63 dX12_readsHash_20 rfl ?_
  refine tc_bipush (v := 7) (by decide) dX12_readsHash_23 ?_
  refine tc_iconst (v := 2) (by decide) dX12_readsHash_25 ?_
  refine tc_iload_n 1 rfl dX12_readsHash_26 ?_
  refine tc_imul dX12_readsHash_27 ?_
  refine tc_iadd dX12_readsHash_28 ?_
  refine tc_iconst (v := 1) (by decide) dX12_readsHash_29 ?_
  refine tc_iadd dX12_readsHash_30 ?_
  refine tc_aload_n 0 rfl dX12_readsHash_31 ?_
  refine tc_iconst (v := 0) (by decide) dX12_readsHash_32 ?_
  refine tc_sipush (v := 1008) (by decide) dX12_readsHash_33 ?_
  obtain ⟨x5, u6, hq7, h⟩ := tc_b_ex h
  refine tc_callVi [.int 0, .int 1008] dX12_readsHash_36 iv0.1 (ct_X12_numeral hW iv0 hq7) ml_X12_341 mw_X12_numeral mv_X12_numeral ⟨Nat.le_of_ble_eq_true rfl, Nat.le_of_ble_eq_true rfl⟩ rfl rfl (Nat.le_of_ble_eq_true rfl) ⟨Nat.le_refl _, Nat.le_refl _⟩ (by decide) ?_
  obtain ⟨bu8, u8, eu8, h⟩ := tc_sd_ex h
  refine tc_iast (hW.p iv0 30 rfl).1 bu8 dX12_readsHash_39 ?_
  refine tc_nmu eu8 ?_
  cases h
  exact tc_return rfl dX12_readsHash_40 rfl rfl ⟨rfl, rfl, rfl⟩
