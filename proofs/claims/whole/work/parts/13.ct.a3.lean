set_option maxRecDepth 100000 in
set_option maxHeartbeats 4000000 in
theorem sb_X7_peelBucket_107 {p : Program} {l : Launch} {e : Env} {s : State} {m : MethodId} {args : Array Value} {below : List Frame} {meth : Method} {c : Code} {z : Nat} {D : tc_D} {G : tc_G} (hW : tc_W G) (r : Int32) (ur : tc_S) (K2 : Nat → Nat → Int32 → Int32 → tc_S → Option (Int32 × tc_S)) (hK2 : ∀ (v0 : Nat) (v1 : Nat) (v2 : Int32) (v3 : Int32) (u : tc_S), tc_is G v0 7 → tc_is G v1 9 → K2 v0 v1 v2 v3 u = some (r, ur) → tc_R p l e { frames := 1, cells := 0, slots := 0, locals := 25 } s m args below meth c z D cX7_peelBucket RX7 6 none 0 0 (tc_pv G ur) 0 0 G u 2 [(0, .ref (z + v0)), (1, .ref (z + v1)), (2, .int v2), (3, .int v3)] []) (v0 : Nat) (v1 : Nat) (v2 : Int32) (v3 : Int32) (u : tc_S) (iv0 : tc_is G v0 7) (iv1 : tc_is G v1 9) (h : bl_X7_peelBucket_107 G K2 v0 v1 v2 v3 u = some (r, ur)) : tc_R p l e { frames := 1, cells := 0, slots := 0, locals := 25 } s m args below meth c z D cX7_peelBucket RX7 6 none 0 0 (tc_pv G ur) 0 0 G u 107 [(0, .ref (z + v0)), (1, .ref (z + v1)), (2, .int v2), (3, .int v3)] [] := by
  unfold bl_X7_peelBucket_107 at h
  obtain ⟨x1, ex1, h⟩ := tc_let_ex h
  refine tc_iinc 3 (v := x1) [(3, .int x1), (0, .ref (z + v0)), (1, .ref (z + v1)), (2, .int v2)] dX7_peelBucket_107 rfl (by rw [ex1]; rfl) (by decide) rfl ?_
  refine tc_goto 2 dX7_peelBucket_110 (by decide) ?_
  refine tc_lvs [1, 2, 3, 0] rfl ?_
  exact hK2 v0 v1 v2 x1 u iv0 iv1 h
set_option maxRecDepth 100000 in
set_option maxHeartbeats 4000000 in
theorem sb_X7_peelBucket_45 {p : Program} {l : Launch} {e : Env} {s : State} {m : MethodId} {args : Array Value} {below : List Frame} {meth : Method} {c : Code} {z : Nat} {D : tc_D} {G : tc_G} (hW : tc_W G) (r : Int32) (ur : tc_S) (K2 : Nat → Nat → Int32 → Int32 → tc_S → Option (Int32 × tc_S)) (hK2 : ∀ (v0 : Nat) (v1 : Nat) (v2 : Int32) (v3 : Int32) (u : tc_S), tc_is G v0 7 → tc_is G v1 9 → K2 v0 v1 v2 v3 u = some (r, ur) → tc_R p l e { frames := 1, cells := 0, slots := 0, locals := 25 } s m args below meth c z D cX7_peelBucket RX7 6 none 0 0 (tc_pv G ur) 0 0 G u 2 [(0, .ref (z + v0)), (1, .ref (z + v1)), (2, .int v2), (3, .int v3)] []) (v0 : Nat) (v1 : Nat) (v2 : Int32) (v3 : Int32) (v4 : Int32) (s0 : Int32) (u : tc_S) (iv0 : tc_is G v0 7) (iv1 : tc_is G v1 9) (h : bl_X7_peelBucket_45 G K2 v0 v1 v2 v3 v4 s0 u = some (r, ur)) : tc_R p l e { frames := 1, cells := 0, slots := 0, locals := 25 } s m args below meth c z D cX7_peelBucket RX7 6 none 0 0 (tc_pv G ur) 0 0 G u 45 [(0, .ref (z + v0)), (1, .ref (z + v1)), (2, .int v2), (3, .int v3), (4, .int v4)] [.int s0] := by
  unfold bl_X7_peelBucket_45 at h
  refine tc_istore [(5, .int s0), (0, .ref (z + v0)), (1, .ref (z + v1)), (2, .int v2), (3, .int v3), (4, .int v4)] dX7_peelBucket_45 (by decide) rfl ?_
  refine tc_iload 0 rfl dX7_peelBucket_47 ?_
  refine tc_if_eq 107 dX7_peelBucket_49 (by decide) (fun hc2 => ?_) (fun hc2 => ?_)
  · rw [if_pos hc2] at h
    refine tc_lvs [1, 2, 3, 4] rfl ?_
    exact sb_X7_peelBucket_107 hW r ur K2 hK2 v0 v1 v2 v3 u iv0 iv1 h
  · rw [if_neg hc2] at h
    refine tc_aload_n 1 rfl dX7_peelBucket_52 ?_
    refine tc_getp hW iv0 fl_X7_15 dX7_peelBucket_53 rfl ?_
    refine tc_iload_n 4 rfl dX7_peelBucket_56 ?_
    obtain ⟨bx3, x3, ex3, h⟩ := tc_ld_ex h
    refine tc_zald (hW.p iv0 2 rfl).1 bx3 dX7_peelBucket_57 ?_
    refine tc_nm ex3 ?_
    refine tc_if_ne 107 dX7_peelBucket_58 (by decide) (fun hc4 => ?_) (fun hc4 => ?_)
    · rw [if_neg hc4] at h
      refine tc_lvs [1, 2, 3, 4] rfl ?_
      exact sb_X7_peelBucket_107 hW r ur K2 hK2 v0 v1 v2 v3 u iv0 iv1 h
    · rw [if_pos hc4] at h
      refine tc_aload_n 1 rfl dX7_peelBucket_61 ?_
      refine tc_getp hW iv0 fl_X7_15 dX7_peelBucket_62 rfl ?_
      refine tc_iload_n 4 rfl dX7_peelBucket_65 ?_
      refine tc_iconst (v := 1) (by decide) dX7_peelBucket_66 ?_
      obtain ⟨hz6, h⟩ := tc_zo_ex h
      obtain ⟨bu5, u5, eu5, h⟩ := tc_sd_ex h
      refine tc_zast hz6 (hW.p iv0 2 rfl).1 bu5 dX7_peelBucket_67 ?_
      refine tc_nmu eu5 ?_
      refine tc_aload_n 1 rfl dX7_peelBucket_68 ?_
      refine tc_aload_n 2 rfl dX7_peelBucket_69 ?_
      refine tc_iload 5 rfl dX7_peelBucket_70 ?_
      refine tc_iconst (v := (-1)) (by decide) dX7_peelBucket_72 ?_
      obtain ⟨x7, u8, hq9, h⟩ := tc_b_ex h
      refine tc_callVv [.ref (z + v1), .int v4, .int (-1)] dX7_peelBucket_73 iv0.1 (ct_X7_addDegrees hW iv0 iv1 hq9) ml_X7_56 mw_X7_addDegrees mv_X7_addDegrees ⟨Nat.le_of_ble_eq_true rfl, Nat.le_of_ble_eq_true rfl⟩ rfl rfl (Nat.le_of_ble_eq_true rfl) ⟨Nat.le_refl _, Nat.le_refl _⟩ (by decide) ?_
      refine tc_aload_n 1 rfl dX7_peelBucket_76 ?_
      refine tc_getp hW iv0 fl_X7_19 dX7_peelBucket_77 rfl ?_
      refine tc_aload_n 1 rfl dX7_peelBucket_80 ?_
      refine tc_geti iv0.1 fl_X7_53 dX7_peelBucket_81 ?_
      refine tc_iload 5 rfl dX7_peelBucket_84 ?_
      obtain ⟨bu10, u10, eu10, h⟩ := tc_sd_ex h
      refine tc_iast (hW.p iv0 3 rfl).1 bu10 dX7_peelBucket_86 ?_
      refine tc_nmu eu10 ?_
      refine tc_aload_n 1 rfl dX7_peelBucket_87 ?_
      refine tc_getp hW iv0 fl_X7_22 dX7_peelBucket_88 rfl ?_
      refine tc_aload_n 1 rfl dX7_peelBucket_91 ?_
      refine tc_geti iv0.1 fl_X7_53 dX7_peelBucket_92 ?_
      refine tc_iload_n 3 rfl dX7_peelBucket_95 ?_
      obtain ⟨bu11, u11, eu11, h⟩ := tc_sd_ex h
      refine tc_iast (hW.p iv0 4 rfl).1 bu11 dX7_peelBucket_96 ?_
      refine tc_nmu eu11 ?_
      refine tc_aload_n 1 rfl dX7_peelBucket_97 ?_
      refine tc_dup rfl dX7_peelBucket_98 ?_
      refine tc_geti iv0.1 fl_X7_53 dX7_peelBucket_99 ?_
      refine tc_iconst (v := 1) (by decide) dX7_peelBucket_102 ?_
      refine tc_iadd dX7_peelBucket_103 ?_
      obtain ⟨u12, eu12, h⟩ := tc_let_ex h
      refine tc_puti iv0.1 fl_X7_53 dX7_peelBucket_104 ?_
      refine tc_nmu eu12 ?_
      refine tc_lvs [1, 2, 3, 4] rfl ?_
      exact sb_X7_peelBucket_107 hW r ur K2 hK2 v0 v1 v2 v3 u12 iv0 iv1 h
set_option maxRecDepth 100000 in
set_option maxHeartbeats 4000000 in
theorem sb_X7_peelBucket_40 {p : Program} {l : Launch} {e : Env} {s : State} {m : MethodId} {args : Array Value} {below : List Frame} {meth : Method} {c : Code} {z : Nat} {D : tc_D} {G : tc_G} (hW : tc_W G) (r : Int32) (ur : tc_S) (K2 : Nat → Nat → Int32 → Int32 → tc_S → Option (Int32 × tc_S)) (hK2 : ∀ (v0 : Nat) (v1 : Nat) (v2 : Int32) (v3 : Int32) (u : tc_S), tc_is G v0 7 → tc_is G v1 9 → K2 v0 v1 v2 v3 u = some (r, ur) → tc_R p l e { frames := 1, cells := 0, slots := 0, locals := 25 } s m args below meth c z D cX7_peelBucket RX7 6 none 0 0 (tc_pv G ur) 0 0 G u 2 [(0, .ref (z + v0)), (1, .ref (z + v1)), (2, .int v2), (3, .int v3)] []) (v0 : Nat) (v1 : Nat) (v2 : Int32) (v3 : Int32) (v4 : Int32) (u : tc_S) (iv0 : tc_is G v0 7) (iv1 : tc_is G v1 9) (h : bl_X7_peelBucket_40 G K2 v0 v1 v2 v3 v4 u = some (r, ur)) : tc_R p l e { frames := 1, cells := 0, slots := 0, locals := 25 } s m args below meth c z D cX7_peelBucket RX7 6 none 0 0 (tc_pv G ur) 0 0 G u 40 [(0, .ref (z + v0)), (1, .ref (z + v1)), (2, .int v2), (3, .int v3), (4, .int v4)] [] := by
  unfold bl_X7_peelBucket_40 at h
  refine tc_iconst (v := 1) (by decide) dX7_peelBucket_40 ?_
  refine tc_goto 45 dX7_peelBucket_41 (by decide) ?_
  exact sb_X7_peelBucket_45 hW r ur K2 hK2 v0 v1 v2 v3 v4 1 u iv0 iv1 h
set_option maxRecDepth 100000 in
set_option maxHeartbeats 4000000 in
theorem sl_X7_peelBucket_2 {p : Program} {l : Launch} {e : Env} {s : State} {m : MethodId} {args : Array Value} {below : List Frame} {meth : Method} {c : Code} {z : Nat} {D : tc_D} {G : tc_G} (hW : tc_W G) (r : Int32) (ur : tc_S) : ∀ (n : Nat) (v0 : Nat) (v1 : Nat) (v2 : Int32) (v3 : Int32) (u : tc_S) (iv0 : tc_is G v0 7) (iv1 : tc_is G v1 9) (h : lo_X7_peelBucket_2 G n v0 v1 v2 v3 u = some (r, ur)), tc_R p l e { frames := 1, cells := 0, slots := 0, locals := 25 } s m args below meth c z D cX7_peelBucket RX7 6 none 0 0 (tc_pv G ur) 0 0 G u 2 [(0, .ref (z + v0)), (1, .ref (z + v1)), (2, .int v2), (3, .int v3)] [] := by
  intro n
  induction n with
  | zero => intro v0 v1 v2 v3 u iv0 iv1 h; cases h
  | succ n ih =>
    intro v0 v1 v2 v3 u iv0 iv1 h
    rw [lo_X7_peelBucket_2] at h
    refine tc_iload_n 3 rfl dX7_peelBucket_2 ?_
    refine tc_aload_n 0 rfl dX7_peelBucket_3 ?_
    refine tc_geti iv0.1 fl_X7_36 dX7_peelBucket_4 ?_
    refine tc_icmp_ge 113 dX7_peelBucket_7 (by decide) (fun hc13 => ?_) (fun hc13 => ?_)
    · rw [if_pos hc13] at h
      cases h
      exact tc_return rfl dX7_peelBucket_113 rfl rfl ⟨rfl, rfl, rfl⟩
    · rw [if_neg hc13] at h
      refine tc_aload_n 0 rfl dX7_peelBucket_10 ?_
      refine tc_getp hW iv0 fl_X7_9 dX7_peelBucket_11 rfl ?_
      refine tc_iload_n 3 rfl dX7_peelBucket_14 ?_
      obtain ⟨bx14, x14, ex14, h⟩ := tc_ld_ex h
      refine tc_iald (hW.p iv0 0 rfl).1 bx14 dX7_peelBucket_15 ?_
      refine tc_nm ex14 ?_
      refine tc_istore [(4, .int x14), (0, .ref (z + v0)), (1, .ref (z + v1)), (2, .int v2), (3, .int v3)] dX7_peelBucket_16 (by decide) rfl ?_
      refine tc_aload_n 2 rfl dX7_peelBucket_18 ?_
      refine tc_getp hW iv1 fl_X7_80 dX7_peelBucket_19 rfl ?_
      refine tc_iload 0 rfl dX7_peelBucket_22 ?_
      obtain ⟨bx15, x15, ex15, h⟩ := tc_ld_ex h
      refine tc_iald (hW.p iv1 7 rfl).1 bx15 dX7_peelBucket_24 ?_
      refine tc_nm ex15 ?_
      refine tc_iload_n 3 rfl dX7_peelBucket_25 ?_
      refine tc_icmp_eq 40 dX7_peelBucket_26 (by decide) (fun hc16 => ?_) (fun hc16 => ?_)
      · rw [if_pos hc16] at h
        refine tc_lvs [1, 2, 3, 4, 0] rfl ?_
        exact sb_X7_peelBucket_40 hW r ur _ ih v0 v1 v2 v3 x14 u iv0 iv1 h
      · rw [if_neg hc16] at h
        refine tc_aload_n 2 rfl dX7_peelBucket_29 ?_
        refine tc_getp hW iv1 fl_X7_83 dX7_peelBucket_30 rfl ?_
        refine tc_iload 0 rfl dX7_peelBucket_33 ?_
        obtain ⟨bx17, x17, ex17, h⟩ := tc_ld_ex h
        refine tc_iald (hW.p iv1 8 rfl).1 bx17 dX7_peelBucket_35 ?_
        refine tc_nm ex17 ?_
        refine tc_iload_n 3 rfl dX7_peelBucket_36 ?_
        refine tc_icmp_ne 44 dX7_peelBucket_37 (by decide) (fun hc18 => ?_) (fun hc18 => ?_)
        · rw [if_neg hc18] at h
          refine tc_iconst (v := 0) (by decide) dX7_peelBucket_44 ?_
          refine tc_lvs [1, 2, 3, 4, 0] rfl ?_
          exact sb_X7_peelBucket_45 hW r ur _ ih v0 v1 v2 v3 x14 0 u iv0 iv1 h
        · rw [if_pos hc18] at h
          refine tc_lvs [1, 2, 3, 4, 0] rfl ?_
          exact sb_X7_peelBucket_40 hW r ur _ ih v0 v1 v2 v3 x14 u iv0 iv1 h
set_option maxRecDepth 100000 in
set_option maxHeartbeats 4000000 in
theorem ct_X7_peelBucket {l : Launch} {z : Nat} {D : tc_D} {G : tc_G} (hW : tc_W G) {v0 : Nat} {v1 : Nat} {v2 : Int32} {u : tc_S} {r : Int32} {ur : tc_S} (iv0 : tc_is G v0 7) (iv1 : tc_is G v1 9) (h : fn_X7_peelBucket G v0 v1 v2 u = some (r, ur)) : tc_C l z D yX7_peelBucket cX7_peelBucket 6 none 1 25 0 0 [.ref (z + v0), .ref (z + v1), .int v2] G u (tc_pv G ur) := by
  unfold fn_X7_peelBucket at h
  refine tc_C.of (by decide) (Nat.le_of_ble_eq_true rfl) fun p e s m args below meth c => ?_
  show tc_R p l e { frames := 1, cells := 0, slots := 0, locals := 25 } s m args below meth c z D cX7_peelBucket RX7 6 none 0 0 (tc_pv G ur) 0 0 G u 0 [(0, .ref (z + v0)), (1, .ref (z + v1)), (2, .int v2)] []
  refine tc_iconst (v := 0) (by decide) dX7_peelBucket_0 ?_
  refine tc_istore_n [(3, .int 0), (0, .ref (z + v0)), (1, .ref (z + v1)), (2, .int v2)] dX7_peelBucket_1 (by decide) rfl ?_
  refine tc_lvs [1, 2, 3, 0] rfl ?_
  exact sl_X7_peelBucket_2 hW r ur  _ v0 v1 v2 0 u iv0 iv1 h
set_option maxRecDepth 100000 in
set_option maxHeartbeats 4000000 in
theorem sl_X7_peelOff_64 {p : Program} {l : Launch} {e : Env} {s : State} {m : MethodId} {args : Array Value} {below : List Frame} {meth : Method} {c : Code} {z : Nat} {D : tc_D} {G : tc_G} (hW : tc_W G) (r : Int32) (ur : tc_S) : ∀ (n : Nat) (v0 : Nat) (v1 : Nat) (v2 : Int32) (v3 : Int32) (u : tc_S) (iv0 : tc_is G v0 7) (iv1 : tc_is G v1 9) (h : lo_X7_peelOff_64 G n v0 v1 v2 v3 u = some (r, ur)), tc_R p l e { frames := 2, cells := 0, slots := 0, locals := 50 } s m args below meth c z D cX7_peelOff RX7 5 none 0 0 (tc_pv G ur) 0 0 G u 64 [(0, .ref (z + v0)), (1, .ref (z + v1)), (2, .int v2), (3, .int v3)] [] := by
  intro n
  induction n with
  | zero => intro v0 v1 v2 v3 u iv0 iv1 h; cases h
  | succ n ih =>
    intro v0 v1 v2 v3 u iv0 iv1 h
    rw [lo_X7_peelOff_64] at h
    refine tc_iload_n 3 rfl dX7_peelOff_64 ?_
    refine tc_iload_n 2 rfl dX7_peelOff_65 ?_
    refine tc_icmp_ge 102 dX7_peelOff_66 (by decide) (fun hc1 => ?_) (fun hc1 => ?_)
    · rw [if_pos hc1] at h
      cases h
      exact tc_return rfl dX7_peelOff_102 rfl rfl ⟨rfl, rfl, rfl⟩
    · rw [if_neg hc1] at h
      refine tc_aload_n 0 rfl dX7_peelOff_69 ?_
      refine tc_iload_n 2 rfl dX7_peelOff_70 ?_
      refine tc_aload_n 1 rfl dX7_peelOff_71 ?_
      refine tc_getp hW iv1 fl_X7_60 dX7_peelOff_72 rfl ?_
      refine tc_geti (hW.p iv1 0 rfl).1 fl_X7_69 dX7_peelOff_75 ?_
      obtain ⟨x2, u3, hq4, h⟩ := tc_b_ex h
      refine tc_callVi [.int v2, .int (u.1 (tc_p G v1 0) 1)] dX7_peelOff_78 iv0.1 (ct_X7_leastOpen hW iv0 hq4) ml_X7_72 mw_X7_leastOpen mv_X7_leastOpen ⟨Nat.le_of_ble_eq_true rfl, Nat.le_of_ble_eq_true rfl⟩ rfl rfl (Nat.le_of_ble_eq_true rfl) ⟨Nat.le_refl _, Nat.le_refl _⟩ (by decide) ?_
      refine tc_istore [(4, .int x2), (0, .ref (z + v0)), (1, .ref (z + v1)), (2, .int v2), (3, .int v3)] dX7_peelOff_81 (by decide) rfl ?_
      refine tc_iload 0 rfl dX7_peelOff_83 ?_
      refine tc_if_ge 89 dX7_peelOff_85 (by decide) (fun hc5 => ?_) (fun hc5 => ?_)
      · rw [if_pos hc5] at h
        refine tc_aload_n 1 rfl dX7_peelOff_89 ?_
        refine tc_aload_n 2 rfl dX7_peelOff_90 ?_
        refine tc_iload 0 rfl dX7_peelOff_91 ?_
        obtain ⟨x6, u7, hq8, h⟩ := tc_b_ex h
        refine tc_callVv [.ref (z + v1), .int x2] dX7_peelOff_93 iv0.1 (ct_X7_peelBucket hW iv0 iv1 hq8) ml_X7_76 mw_X7_peelBucket mv_X7_peelBucket ⟨Nat.le_of_ble_eq_true rfl, Nat.le_of_ble_eq_true rfl⟩ rfl rfl (Nat.le_of_ble_eq_true rfl) ⟨Nat.le_refl _, Nat.le_refl _⟩ (by decide) ?_
        obtain ⟨x9, ex9, h⟩ := tc_let_ex h
        refine tc_iinc 4 (v := x9) [(3, .int x9), (4, .int x2), (0, .ref (z + v0)), (1, .ref (z + v1)), (2, .int v2)] dX7_peelOff_96 rfl (by rw [ex9]; rfl) (by decide) rfl ?_
        refine tc_goto 64 dX7_peelOff_99 (by decide) ?_
        refine tc_lvs [2, 3, 4, 0] rfl ?_
        exact ih v0 v1 v2 x9 u7 iv0 iv1 h
      · rw [if_neg hc5] at h
        cases h
        exact tc_return rfl dX7_peelOff_88 rfl rfl ⟨rfl, rfl, rfl⟩
set_option maxRecDepth 100000 in
set_option maxHeartbeats 4000000 in
theorem sl_X7_peelOff_21 {p : Program} {l : Launch} {e : Env} {s : State} {m : MethodId} {args : Array Value} {below : List Frame} {meth : Method} {c : Code} {z : Nat} {D : tc_D} {G : tc_G} (hW : tc_W G) (r : Int32) (ur : tc_S) : ∀ (n : Nat) (v0 : Nat) (v1 : Nat) (v2 : Int32) (u : tc_S) (iv0 : tc_is G v0 7) (iv1 : tc_is G v1 9) (h : lo_X7_peelOff_21 G n v0 v1 v2 u = some (r, ur)), tc_R p l e { frames := 2, cells := 0, slots := 0, locals := 50 } s m args below meth c z D cX7_peelOff RX7 5 none 0 0 (tc_pv G ur) 0 0 G u 21 [(0, .ref (z + v0)), (1, .ref (z + v1)), (2, .int v2)] [] := by
  intro n
  induction n with
  | zero => intro v0 v1 v2 u iv0 iv1 h; cases h
  | succ n ih =>
    intro v0 v1 v2 u iv0 iv1 h
    rw [lo_X7_peelOff_21] at h
    refine tc_iload_n 2 rfl dX7_peelOff_21 ?_
    refine tc_aload_n 0 rfl dX7_peelOff_22 ?_
    refine tc_geti iv0.1 fl_X7_36 dX7_peelOff_23 ?_
    refine tc_icmp_ge 54 dX7_peelOff_26 (by decide) (fun hc10 => ?_) (fun hc10 => ?_)
    · rw [if_pos hc10] at h
      refine tc_aload_n 1 rfl dX7_peelOff_54 ?_
      refine tc_getp hW iv1 fl_X7_60 dX7_peelOff_55 rfl ?_
      refine tc_geti (hW.p iv1 0 rfl).1 fl_X7_64 dX7_peelOff_58 ?_
      obtain ⟨x11, ex11, h⟩ := tc_let_ex h
      refine tc_nm ex11 ?_
      refine tc_istore_n [(2, .int x11), (0, .ref (z + v0)), (1, .ref (z + v1))] dX7_peelOff_61 (by decide) rfl ?_
      refine tc_iconst (v := 0) (by decide) dX7_peelOff_62 ?_
      refine tc_istore_n [(3, .int 0), (2, .int x11), (0, .ref (z + v0)), (1, .ref (z + v1))] dX7_peelOff_63 (by decide) rfl ?_
      refine tc_lvs [2, 3, 1, 0] rfl ?_
      exact sl_X7_peelOff_64 hW r ur  _ v0 v1 x11 0 u iv0 iv1 h
    · rw [if_neg hc10] at h
      refine tc_aload_n 0 rfl dX7_peelOff_29 ?_
      refine tc_getp hW iv0 fl_X7_15 dX7_peelOff_30 rfl ?_
      refine tc_iload_n 2 rfl dX7_peelOff_33 ?_
      refine tc_iconst (v := 0) (by decide) dX7_peelOff_34 ?_
      obtain ⟨hz13, h⟩ := tc_zo_ex h
      obtain ⟨bu12, u12, eu12, h⟩ := tc_sd_ex h
      refine tc_zast hz13 (hW.p iv0 2 rfl).1 bu12 dX7_peelOff_35 ?_
      refine tc_nmu eu12 ?_
      refine tc_aload_n 0 rfl dX7_peelOff_36 ?_
      refine tc_aload_n 1 rfl dX7_peelOff_37 ?_
      refine tc_aload_n 0 rfl dX7_peelOff_38 ?_
      refine tc_getp hW iv0 fl_X7_9 dX7_peelOff_39 rfl ?_
      refine tc_iload_n 2 rfl dX7_peelOff_42 ?_
      obtain ⟨bx14, x14, ex14, h⟩ := tc_ld_ex h
      refine tc_iald (hW.p iv0 0 rfl).1 bx14 dX7_peelOff_43 ?_
      refine tc_nm ex14 ?_
      refine tc_iconst (v := 1) (by decide) dX7_peelOff_44 ?_
      obtain ⟨x15, u16, hq17, h⟩ := tc_b_ex h
      refine tc_callVv [.ref (z + v1), .int x14, .int 1] dX7_peelOff_45 iv0.1 (ct_X7_addDegrees hW iv0 iv1 hq17) ml_X7_56 mw_X7_addDegrees mv_X7_addDegrees ⟨Nat.le_of_ble_eq_true rfl, Nat.le_of_ble_eq_true rfl⟩ rfl rfl (Nat.le_of_ble_eq_true rfl) ⟨Nat.le_refl _, Nat.le_refl _⟩ (by decide) ?_
      obtain ⟨x18, ex18, h⟩ := tc_let_ex h
      refine tc_iinc 2 (v := x18) [(2, .int x18), (0, .ref (z + v0)), (1, .ref (z + v1))] dX7_peelOff_48 rfl (by rw [ex18]; rfl) (by decide) rfl ?_
      refine tc_goto 21 dX7_peelOff_51 (by decide) ?_
      refine tc_lvs [1, 2, 0] rfl ?_
      exact ih v0 v1 x18 u16 iv0 iv1 h
set_option maxRecDepth 100000 in
set_option maxHeartbeats 4000000 in
theorem ct_X7_peelOff {l : Launch} {z : Nat} {D : tc_D} {G : tc_G} (hW : tc_W G) {v0 : Nat} {v1 : Nat} {u : tc_S} {r : Int32} {ur : tc_S} (iv0 : tc_is G v0 7) (iv1 : tc_is G v1 9) (h : fn_X7_peelOff G v0 v1 u = some (r, ur)) : tc_C l z D yX7_peelOff cX7_peelOff 5 none 2 50 0 0 [.ref (z + v0), .ref (z + v1)] G u (tc_pv G ur) := by
  unfold fn_X7_peelOff at h
  refine tc_C.of (by decide) (Nat.le_of_ble_eq_true rfl) fun p e s m args below meth c => ?_
  show tc_R p l e { frames := 2, cells := 0, slots := 0, locals := 50 } s m args below meth c z D cX7_peelOff RX7 5 none 0 0 (tc_pv G ur) 0 0 G u 0 [(0, .ref (z + v0)), (1, .ref (z + v1))] []
  refine tc_aload_n 0 rfl dX7_peelOff_0 ?_
  refine tc_aload_n 1 rfl dX7_peelOff_1 ?_
  refine tc_iconst (v := 0) (by decide) dX7_peelOff_2 ?_
  obtain ⟨x19, u20, hq21, h⟩ := tc_b_ex h
  refine tc_callVv [.ref (z + v1), .int 0] dX7_peelOff_3 iv0.1 (ct_X7_gather hW iv0 iv1 hq21) ml_X7_43 mw_X7_gather mv_X7_gather ⟨Nat.le_of_ble_eq_true rfl, Nat.le_of_ble_eq_true rfl⟩ rfl rfl (Nat.le_of_ble_eq_true rfl) ⟨Nat.le_refl _, Nat.le_refl _⟩ (by decide) ?_
  refine tc_aload_n 0 rfl dX7_peelOff_6 ?_
  refine tc_getp hW iv0 fl_X7_25 dX7_peelOff_7 rfl ?_
  refine tc_iconst (v := 0) (by decide) dX7_peelOff_10 ?_
  obtain ⟨x22, u23, hq24, h⟩ := tc_b_ex h
  refine tc_callSv [.ref (z + (tc_p G v0 6)), .int 0] dX7_peelOff_11 (ct_J7_fill_53178 hW (hW.p iv0 6 rfl) hq24) ml_X7_47 mw_J7_fill_53178 ms_J7_fill_53178 ⟨Nat.le_of_ble_eq_true rfl, Nat.le_of_ble_eq_true rfl⟩ rfl rfl (Nat.le_of_ble_eq_true rfl) ⟨Nat.le_refl _, Nat.le_refl _⟩ ?_
  refine tc_aload_n 0 rfl dX7_peelOff_14 ?_
  refine tc_iconst (v := 0) (by decide) dX7_peelOff_15 ?_
  obtain ⟨u25, eu25, h⟩ := tc_let_ex h
  refine tc_puti iv0.1 fl_X7_53 dX7_peelOff_16 ?_
  refine tc_nmu eu25 ?_
  refine tc_iconst (v := 0) (by decide) dX7_peelOff_19 ?_
  refine tc_istore_n [(2, .int 0), (0, .ref (z + v0)), (1, .ref (z + v1))] dX7_peelOff_20 (by decide) rfl ?_
  refine tc_lvs [1, 2, 0] rfl ?_
  exact sl_X7_peelOff_21 hW r ur  _ v0 v1 0 u25 iv0 iv1 h
set_option maxRecDepth 100000 in
set_option maxHeartbeats 4000000 in
theorem sb_X3_layBatch_137 {p : Program} {l : Launch} {e : Env} {s : State} {m : MethodId} {args : Array Value} {below : List Frame} {meth : Method} {c : Code} {z : Nat} {D : tc_D} {G : tc_G} (hW : tc_W G) (r : Int32) (ur : tc_S) (K79 : Nat → Nat → Int32 → tc_S → Option (Int32 × tc_S)) (hK79 : ∀ (v0 : Nat) (v1 : Nat) (v2 : Int32) (u : tc_S), tc_is G v0 3 → tc_is G v1 9 → K79 v0 v1 v2 u = some (r, ur) → tc_R p l e { frames := 4, cells := 0, slots := 0, locals := 88 } s m args below meth c z D cX3_layBatch RX3 3 (some .boolean) 0 0 (tc_po r G ur) 0 0 G u 79 [(0, .ref (z + v0)), (1, .ref (z + v1)), (2, .int v2)] []) (v0 : Nat) (v1 : Nat) (v2 : Int32) (u : tc_S) (iv0 : tc_is G v0 3) (iv1 : tc_is G v1 9) (h : bl_X3_layBatch_137 G K79 v0 v1 v2 u = some (r, ur)) : tc_R p l e { frames := 4, cells := 0, slots := 0, locals := 88 } s m args below meth c z D cX3_layBatch RX3 3 (some .boolean) 0 0 (tc_po r G ur) 0 0 G u 137 [(0, .ref (z + v0)), (1, .ref (z + v1)), (2, .int v2)] [] := by
  unfold bl_X3_layBatch_137 at h
  obtain ⟨x1, ex1, h⟩ := tc_let_ex h
  refine tc_iinc 2 (v := x1) [(2, .int x1), (0, .ref (z + v0)), (1, .ref (z + v1))] dX3_layBatch_137 rfl (by rw [ex1]; rfl) (by decide) rfl ?_
  refine tc_goto 79 dX3_layBatch_140 (by decide) ?_
  refine tc_lvs [1, 2, 0] rfl ?_
  exact hK79 v0 v1 x1 u iv0 iv1 h
set_option maxRecDepth 100000 in
set_option maxHeartbeats 4000000 in
theorem sl_X3_layBatch_79 {p : Program} {l : Launch} {e : Env} {s : State} {m : MethodId} {args : Array Value} {below : List Frame} {meth : Method} {c : Code} {z : Nat} {D : tc_D} {G : tc_G} (hW : tc_W G) (r : Int32) (ur : tc_S) : ∀ (n : Nat) (v0 : Nat) (v1 : Nat) (v2 : Int32) (u : tc_S) (iv0 : tc_is G v0 3) (iv1 : tc_is G v1 9) (h : lo_X3_layBatch_79 G n v0 v1 v2 u = some (r, ur)), tc_R p l e { frames := 4, cells := 0, slots := 0, locals := 88 } s m args below meth c z D cX3_layBatch RX3 3 (some .boolean) 0 0 (tc_po r G ur) 0 0 G u 79 [(0, .ref (z + v0)), (1, .ref (z + v1)), (2, .int v2)] [] := by
  intro n
  induction n with
  | zero => intro v0 v1 v2 u iv0 iv1 h; cases h
  | succ n ih =>
    intro v0 v1 v2 u iv0 iv1 h
    rw [lo_X3_layBatch_79] at h
    refine tc_iload_n 2 rfl dX3_layBatch_79 ?_
    refine tc_aload_n 0 rfl dX3_layBatch_80 ?_
    refine tc_getp hW iv0 fl_X3_31 dX3_layBatch_81 rfl ?_
    refine tc_geti (hW.p iv0 1 rfl).1 fl_X3_154 dX3_layBatch_84 ?_
    refine tc_icmp_ge 143 dX3_layBatch_87 (by decide) (fun hc2 => ?_) (fun hc2 => ?_)
    · rw [if_pos hc2] at h
      refine tc_iconst (v := 1) (by decide) dX3_layBatch_143 ?_
      obtain ⟨hz3, h⟩ := tc_zo_ex h
      cases h
      exact tc_zreturn hz3 rfl dX3_layBatch_144 rfl rfl ⟨rfl, rfl, rfl⟩
    · rw [if_neg hc2] at h
      refine tc_aload_n 0 rfl dX3_layBatch_90 ?_
      refine tc_getp hW iv0 fl_X3_31 dX3_layBatch_91 rfl ?_
      refine tc_getp hW (hW.p iv0 1 rfl) fl_X3_157 dX3_layBatch_94 rfl ?_
      refine tc_iload_n 2 rfl dX3_layBatch_97 ?_
      obtain ⟨bx4, x4, ex4, h⟩ := tc_ld_ex h
      refine tc_zald (hW.p (hW.p iv0 1 rfl) 2 rfl).1 bx4 dX3_layBatch_98 ?_
      refine tc_nm ex4 ?_
      refine tc_if_ne 137 dX3_layBatch_99 (by decide) (fun hc5 => ?_) (fun hc5 => ?_)
      · rw [if_neg hc5] at h
        exact sb_X3_layBatch_137 hW r ur _ ih v0 v1 v2 u iv0 iv1 h
      · rw [if_pos hc5] at h
        refine tc_aload_n 0 rfl dX3_layBatch_102 ?_
        refine tc_aload_n 1 rfl dX3_layBatch_103 ?_
        refine tc_aload_n 0 rfl dX3_layBatch_104 ?_
        refine tc_getp hW iv0 fl_X3_31 dX3_layBatch_105 rfl ?_
        refine tc_getp hW (hW.p iv0 1 rfl) fl_X3_161 dX3_layBatch_108 rfl ?_
        refine tc_iload_n 2 rfl dX3_layBatch_111 ?_
        obtain ⟨bx6, x6, ex6, h⟩ := tc_ld_ex h
        refine tc_iald (hW.p (hW.p iv0 1 rfl) 0 rfl).1 bx6 dX3_layBatch_112 ?_
        refine tc_nm ex6 ?_
        obtain ⟨x7, u8, hq9, h⟩ := tc_b_ex h
        refine tc_callVv [.ref (z + v1), .int x6] dX3_layBatch_113 iv0.1 (ct_X3_takeOver hW iv0 iv1 hq9) ml_X3_124 mw_X3_takeOver mv_X3_takeOver ⟨Nat.le_of_ble_eq_true rfl, Nat.le_of_ble_eq_true rfl⟩ rfl rfl (Nat.le_of_ble_eq_true rfl) ⟨Nat.le_refl _, Nat.le_refl _⟩ (by decide) ?_
        refine tc_aload_n 0 rfl dX3_layBatch_116 ?_
        refine tc_getp hW iv0 fl_X3_27 dX3_layBatch_117 rfl ?_
        refine tc_aload_n 1 rfl dX3_layBatch_120 ?_
        obtain ⟨x10, u11, hq12, h⟩ := tc_b_ex h
        refine tc_callVi [.ref (z + v1)] dX3_layBatch_121 (hW.p iv0 0 rfl).1 (ct_X4_comeIn hW (hW.p iv0 0 rfl) iv1 hq12) ml_X3_51 mw_X4_comeIn mv_X4_comeIn ⟨Nat.le_of_ble_eq_true rfl, Nat.le_of_ble_eq_true rfl⟩ rfl rfl (Nat.le_of_ble_eq_true rfl) ⟨Nat.le_refl _, Nat.le_refl _⟩ (by decide) ?_
        refine tc_if_ne 137 dX3_layBatch_124 (by decide) (fun hc13 => ?_) (fun hc13 => ?_)
        · rw [if_neg hc13] at h
          exact sb_X3_layBatch_137 hW r ur _ ih v0 v1 v2 u11 iv0 iv1 h
        · rw [if_pos hc13] at h
          refine tc_aload_n 1 rfl dX3_layBatch_127 ?_
          refine tc_aload_n 0 rfl dX3_layBatch_128 ?_
          refine tc_getp hW iv0 fl_X3_14 dX3_layBatch_129 rfl ?_
          obtain ⟨x14, u15, hq16, h⟩ := tc_b_ex h
          refine tc_callVv [.ref (z + (tc_p G v0 2))] dX3_layBatch_132 iv1.1 (ct_X9_goBackTo hW iv1 (hW.p iv0 2 rfl) hq16) ml_X3_106 mw_X9_goBackTo mv_X9_goBackTo ⟨Nat.le_of_ble_eq_true rfl, Nat.le_of_ble_eq_true rfl⟩ rfl rfl (Nat.le_of_ble_eq_true rfl) ⟨Nat.le_refl _, Nat.le_refl _⟩ (by decide) ?_
          refine tc_iconst (v := 0) (by decide) dX3_layBatch_135 ?_
          obtain ⟨hz17, h⟩ := tc_zo_ex h
          cases h
          exact tc_zreturn hz17 rfl dX3_layBatch_136 rfl rfl ⟨rfl, rfl, rfl⟩
set_option maxRecDepth 100000 in
set_option maxHeartbeats 4000000 in
theorem sl_X3_layBatch_25 {p : Program} {l : Launch} {e : Env} {s : State} {m : MethodId} {args : Array Value} {below : List Frame} {meth : Method} {c : Code} {z : Nat} {D : tc_D} {G : tc_G} (hW : tc_W G) (r : Int32) (ur : tc_S) : ∀ (n : Nat) (v0 : Nat) (v1 : Nat) (v2 : Int32) (u : tc_S) (iv0 : tc_is G v0 3) (iv1 : tc_is G v1 9) (h : lo_X3_layBatch_25 G n v0 v1 v2 u = some (r, ur)), tc_R p l e { frames := 4, cells := 0, slots := 0, locals := 88 } s m args below meth c z D cX3_layBatch RX3 3 (some .boolean) 0 0 (tc_po r G ur) 0 0 G u 25 [(0, .ref (z + v0)), (1, .ref (z + v1)), (2, .int v2)] [] := by
  intro n
  induction n with
  | zero => intro v0 v1 v2 u iv0 iv1 h; cases h
  | succ n ih =>
    intro v0 v1 v2 u iv0 iv1 h
    rw [lo_X3_layBatch_25] at h
    refine tc_iload_n 2 rfl dX3_layBatch_25 ?_
    refine tc_aload_n 0 rfl dX3_layBatch_26 ?_
    refine tc_getp hW iv0 fl_X3_31 dX3_layBatch_27 rfl ?_
    refine tc_geti (hW.p iv0 1 rfl).1 fl_X3_138 dX3_layBatch_30 ?_
    refine tc_icmp_ge 77 dX3_layBatch_33 (by decide) (fun hc18 => ?_) (fun hc18 => ?_)
    · rw [if_pos hc18] at h
      refine tc_iconst (v := 0) (by decide) dX3_layBatch_77 ?_
      refine tc_istore_n [(2, .int 0), (0, .ref (z + v0)), (1, .ref (z + v1))] dX3_layBatch_78 (by decide) rfl ?_
      refine tc_lvs [1, 2, 0] rfl ?_
      exact sl_X3_layBatch_79 hW r ur  _ v0 v1 0 u iv0 iv1 h
    · rw [if_neg hc18] at h
      refine tc_aload_n 0 rfl dX3_layBatch_36 ?_
      refine tc_aload_n 1 rfl dX3_layBatch_37 ?_
      refine tc_aload_n 0 rfl dX3_layBatch_38 ?_
      refine tc_getp hW iv0 fl_X3_31 dX3_layBatch_39 rfl ?_
      refine tc_getp hW (hW.p iv0 1 rfl) fl_X3_141 dX3_layBatch_42 rfl ?_
      refine tc_iload_n 2 rfl dX3_layBatch_45 ?_
      obtain ⟨bx19, x19, ex19, h⟩ := tc_ld_ex h
      refine tc_iald (hW.p (hW.p iv0 1 rfl) 3 rfl).1 bx19 dX3_layBatch_46 ?_
      refine tc_nm ex19 ?_
      obtain ⟨x20, u21, hq22, h⟩ := tc_b_ex h
      refine tc_callVv [.ref (z + v1), .int x19] dX3_layBatch_47 iv0.1 (ct_X3_takeOver hW iv0 iv1 hq22) ml_X3_124 mw_X3_takeOver mv_X3_takeOver ⟨Nat.le_of_ble_eq_true rfl, Nat.le_of_ble_eq_true rfl⟩ rfl rfl (Nat.le_of_ble_eq_true rfl) ⟨Nat.le_refl _, Nat.le_refl _⟩ (by decide) ?_
      refine tc_aload_n 1 rfl dX3_layBatch_50 ?_
      refine tc_aload_n 1 rfl dX3_layBatch_51 ?_
      refine tc_geti iv1.1 fl_X3_66 dX3_layBatch_52 ?_
      refine tc_aload_n 1 rfl dX3_layBatch_55 ?_
      refine tc_aload_n 0 rfl dX3_layBatch_56 ?_
      refine tc_getp hW iv0 fl_X3_31 dX3_layBatch_57 rfl ?_
      refine tc_getp hW (hW.p iv0 1 rfl) fl_X3_144 dX3_layBatch_60 rfl ?_
      refine tc_iload_n 2 rfl dX3_layBatch_63 ?_
      obtain ⟨bx23, x23, ex23, h⟩ := tc_ld_ex h
      refine tc_iald (hW.p (hW.p iv0 1 rfl) 4 rfl).1 bx23 dX3_layBatch_64 ?_
      refine tc_nm ex23 ?_
      obtain ⟨x24, u25, hq26, h⟩ := tc_b_ex h
      refine tc_callVi [.int x23] dX3_layBatch_65 iv1.1 (ct_X9_emptyPlaceIn hW iv1 hq26) ml_X3_147 mw_X9_emptyPlaceIn mv_X9_emptyPlaceIn ⟨Nat.le_of_ble_eq_true rfl, Nat.le_of_ble_eq_true rfl⟩ rfl rfl (Nat.le_of_ble_eq_true rfl) ⟨Nat.le_refl _, Nat.le_refl _⟩ (by decide) ?_
      obtain ⟨x27, u28, hq29, h⟩ := tc_b_ex h
      refine tc_callVv [.int (u21.1 v1 2), .int x24] dX3_layBatch_68 iv1.1 (ct_X9_move hW iv1 hq29) ml_X3_150 mw_X9_move mv_X9_move ⟨Nat.le_of_ble_eq_true rfl, Nat.le_of_ble_eq_true rfl⟩ rfl rfl (Nat.le_of_ble_eq_true rfl) ⟨Nat.le_refl _, Nat.le_refl _⟩ (by decide) ?_
      obtain ⟨x30, ex30, h⟩ := tc_let_ex h
      refine tc_iinc 2 (v := x30) [(2, .int x30), (0, .ref (z + v0)), (1, .ref (z + v1))] dX3_layBatch_71 rfl (by rw [ex30]; rfl) (by decide) rfl ?_
      refine tc_goto 25 dX3_layBatch_74 (by decide) ?_
      refine tc_lvs [1, 2, 0] rfl ?_
      exact ih v0 v1 x30 u28 iv0 iv1 h
set_option maxRecDepth 100000 in
set_option maxHeartbeats 4000000 in
theorem ct_X3_layBatch {l : Launch} {z : Nat} {D : tc_D} {G : tc_G} (hW : tc_W G) {v0 : Nat} {v1 : Nat} {u : tc_S} {r : Int32} {ur : tc_S} (iv0 : tc_is G v0 3) (iv1 : tc_is G v1 9) (h : fn_X3_layBatch G v0 v1 u = some (r, ur)) : tc_C l z D yX3_layBatch cX3_layBatch 3 (some .boolean) 4 88 0 0 [.ref (z + v0), .ref (z + v1)] G u (tc_po r G ur) := by
  unfold fn_X3_layBatch at h
  refine tc_C.of (by decide) (Nat.le_of_ble_eq_true rfl) fun p e s m args below meth c => ?_
  show tc_R p l e { frames := 4, cells := 0, slots := 0, locals := 88 } s m args below meth c z D cX3_layBatch RX3 3 (some .boolean) 0 0 (tc_po r G ur) 0 0 G u 0 [(0, .ref (z + v0)), (1, .ref (z + v1))] []
  refine tc_aload_n 0 rfl dX3_layBatch_0 ?_
  refine tc_getp hW iv0 fl_X3_14 dX3_layBatch_1 rfl ?_
  refine tc_aload_n 1 rfl dX3_layBatch_4 ?_
  obtain ⟨x31, u32, hq33, h⟩ := tc_b_ex h
  refine tc_callVv [.ref (z + v1)] dX3_layBatch_5 (hW.p iv0 2 rfl).1 (ct_X9_copyFrom hW (hW.p iv0 2 rfl) iv1 hq33) ml_X3_90 mw_X9_copyFrom mv_X9_copyFrom ⟨Nat.le_of_ble_eq_true rfl, Nat.le_of_ble_eq_true rfl⟩ rfl rfl (Nat.le_of_ble_eq_true rfl) ⟨Nat.le_refl _, Nat.le_refl _⟩ (by decide) ?_
  refine tc_aload_n 0 rfl dX3_layBatch_8 ?_
  refine tc_getp hW iv0 fl_X3_31 dX3_layBatch_9 rfl ?_
  refine tc_aload_n 0 rfl dX3_layBatch_12 ?_
  refine tc_getp hW iv0 fl_X3_14 dX3_layBatch_13 rfl ?_
  obtain ⟨x34, u35, hq36, h⟩ := tc_b_ex h
  refine tc_callVv [.ref (z + (tc_p G v0 2))] dX3_layBatch_16 (hW.p iv0 1 rfl).1 (ct_X7_peelOff hW (hW.p iv0 1 rfl) (hW.p iv0 2 rfl) hq36) ml_X3_133 mw_X7_peelOff mv_X7_peelOff ⟨Nat.le_of_ble_eq_true rfl, Nat.le_of_ble_eq_true rfl⟩ rfl rfl (Nat.le_of_ble_eq_true rfl) ⟨Nat.le_refl _, Nat.le_refl _⟩ (by decide) ?_
  refine tc_aload_n 1 rfl dX3_layBatch_19 ?_
  obtain ⟨x37, u38, hq39, h⟩ := tc_b_ex h
  refine tc_callVv [] dX3_layBatch_20 iv1.1 (ct_X9_clear hW iv1 hq39) ml_X3_118 mw_X9_clear mv_X9_clear ⟨Nat.le_of_ble_eq_true rfl, Nat.le_of_ble_eq_true rfl⟩ rfl rfl (Nat.le_of_ble_eq_true rfl) ⟨Nat.le_refl _, Nat.le_refl _⟩ (by decide) ?_
  refine tc_iconst (v := 0) (by decide) dX3_layBatch_23 ?_
  refine tc_istore_n [(2, .int 0), (0, .ref (z + v0)), (1, .ref (z + v1))] dX3_layBatch_24 (by decide) rfl ?_
  refine tc_lvs [1, 2, 0] rfl ?_
  exact sl_X3_layBatch_25 hW r ur  _ v0 v1 0 u38 iv0 iv1 h
set_option maxRecDepth 100000 in
set_option maxHeartbeats 4000000 in
theorem sl_X9_closeStash_7 {p : Program} {l : Launch} {e : Env} {s : State} {m : MethodId} {args : Array Value} {below : List Frame} {meth : Method} {c : Code} {z : Nat} {D : tc_D} {G : tc_G} (hW : tc_W G) (r : Int32) (ur : tc_S) : ∀ (n : Nat) (v0 : Nat) (v2 : Int32) (u : tc_S) (iv0 : tc_is G v0 9) (h : lo_X9_closeStash_7 G n v0 v2 u = some (r, ur)), tc_R p l e { frames := 1, cells := 0, slots := 0, locals := 23 } s m args below meth c z D cX9_closeStash RX9 3 none 0 0 (tc_pv G ur) 0 0 G u 7 [(0, .ref (z + v0)), (2, .int v2)] [] := by
  intro n
  induction n with
  | zero => intro v0 v2 u iv0 h; cases h
  | succ n ih =>
    intro v0 v2 u iv0 h
    rw [lo_X9_closeStash_7] at h
    refine tc_iload_n 1 rfl dX9_closeStash_7 ?_
    refine tc_aload_n 0 rfl dX9_closeStash_8 ?_
    refine tc_geti iv0.1 fl_X9_22 dX9_closeStash_9 ?_
    refine tc_aload_n 0 rfl dX9_closeStash_12 ?_
    refine tc_geti iv0.1 fl_X9_77 dX9_closeStash_13 ?_
    refine tc_iadd dX9_closeStash_16 ?_
    refine tc_iconst (v := 1) (by decide) dX9_closeStash_17 ?_
    refine tc_isub dX9_closeStash_18 ?_
    refine tc_icmp_ge 36 dX9_closeStash_19 (by decide) (fun hc1 => ?_) (fun hc1 => ?_)
    · rw [if_pos hc1] at h
      refine tc_aload_n 0 rfl dX9_closeStash_36 ?_
      refine tc_dup rfl dX9_closeStash_37 ?_
      refine tc_geti iv0.1 fl_X9_77 dX9_closeStash_38 ?_
      refine tc_iconst (v := 1) (by decide) dX9_closeStash_41 ?_
      refine tc_isub dX9_closeStash_42 ?_
      obtain ⟨u2, eu2, h⟩ := tc_let_ex h
      refine tc_puti iv0.1 fl_X9_77 dX9_closeStash_43 ?_
      refine tc_nmu eu2 ?_
      cases h
      exact tc_return rfl dX9_closeStash_46 rfl rfl ⟨rfl, rfl, rfl⟩
    · rw [if_neg hc1] at h
      refine tc_aload_n 0 rfl dX9_closeStash_22 ?_
      refine tc_iload_n 1 rfl dX9_closeStash_23 ?_
      refine tc_iconst (v := 1) (by decide) dX9_closeStash_24 ?_
      refine tc_iadd dX9_closeStash_25 ?_
      refine tc_iload_n 1 rfl dX9_closeStash_26 ?_
      obtain ⟨x3, u4, hq5, h⟩ := tc_b_ex h
      refine tc_callVv [.int (v2 + 1), .int v2] dX9_closeStash_27 iv0.1 (ct_X9_move hW iv0 hq5) ml_X9_127 mw_X9_move mv_X9_move ⟨Nat.le_of_ble_eq_true rfl, Nat.le_of_ble_eq_true rfl⟩ rfl rfl (Nat.le_of_ble_eq_true rfl) ⟨Nat.le_refl _, Nat.le_refl _⟩ (by decide) ?_
      obtain ⟨x6, ex6, h⟩ := tc_let_ex h
      refine tc_iinc 1 (v := x6) [(2, .int x6), (0, .ref (z + v0))] dX9_closeStash_30 rfl (by rw [ex6]; rfl) (by decide) rfl ?_
      refine tc_goto 7 dX9_closeStash_33 (by decide) ?_
      refine tc_lvs [1, 0] rfl ?_
      exact ih v0 x6 u4 iv0 h
set_option maxRecDepth 100000 in
set_option maxHeartbeats 4000000 in
theorem ct_X9_closeStash {l : Launch} {z : Nat} {D : tc_D} {G : tc_G} (hW : tc_W G) {v0 : Nat} {v1 : Int32} {u : tc_S} {r : Int32} {ur : tc_S} (iv0 : tc_is G v0 9) (h : fn_X9_closeStash G v0 v1 u = some (r, ur)) : tc_C l z D yX9_closeStash cX9_closeStash 3 none 1 23 0 0 [.ref (z + v0), .int v1] G u (tc_pv G ur) := by
  unfold fn_X9_closeStash at h
  refine tc_C.of (by decide) (Nat.le_of_ble_eq_true rfl) fun p e s m args below meth c => ?_
  show tc_R p l e { frames := 1, cells := 0, slots := 0, locals := 23 } s m args below meth c z D cX9_closeStash RX9 3 none 0 0 (tc_pv G ur) 0 0 G u 0 [(0, .ref (z + v0)), (1, .int v1)] []
  refine tc_aload_n 0 rfl dX9_closeStash_0 ?_
  refine tc_geti iv0.1 fl_X9_22 dX9_closeStash_1 ?_
  refine tc_iload_n 1 rfl dX9_closeStash_4 ?_
  refine tc_iadd dX9_closeStash_5 ?_
  obtain ⟨x7, ex7, h⟩ := tc_let_ex h
  refine tc_nm ex7 ?_
  refine tc_istore_n [(2, .int x7), (0, .ref (z + v0)), (1, .int v1)] dX9_closeStash_6 (by decide) rfl ?_
  refine tc_lvs [1, 0] rfl ?_
  exact sl_X9_closeStash_7 hW r ur  _ v0 x7 u iv0 h
set_option maxRecDepth 100000 in
set_option maxHeartbeats 4000000 in
theorem sb_X4_leaveStash_83 {p : Program} {l : Launch} {e : Env} {s : State} {m : MethodId} {args : Array Value} {below : List Frame} {meth : Method} {c : Code} {z : Nat} {D : tc_D} {G : tc_G} (hW : tc_W G) (r : Int32) (ur : tc_S) (u : tc_S) (h : bl_X4_leaveStash_83 G  u = some (r, ur)) : tc_R p l e { frames := 3, cells := 0, slots := 0, locals := 76 } s m args below meth c z D cX4_leaveStash RX4 5 (some .boolean) 0 0 (tc_po r G ur) 0 0 G u 83 [] [] := by
  unfold bl_X4_leaveStash_83 at h
  refine tc_iconst (v := 0) (by decide) dX4_leaveStash_83 ?_
  obtain ⟨hz1, h⟩ := tc_zo_ex h
  cases h
  exact tc_zreturn hz1 rfl dX4_leaveStash_84 rfl rfl ⟨rfl, rfl, rfl⟩
set_option maxRecDepth 100000 in
set_option maxHeartbeats 4000000 in
theorem ct_X4_leaveStash {l : Launch} {z : Nat} {D : tc_D} {G : tc_G} (hW : tc_W G) {v0 : Nat} {v1 : Nat} {v2 : Int32} {v3 : Int32} {u : tc_S} {r : Int32} {ur : tc_S} (iv0 : tc_is G v0 4) (iv1 : tc_is G v1 9) (h : fn_X4_leaveStash G v0 v1 v2 v3 u = some (r, ur)) : tc_C l z D yX4_leaveStash cX4_leaveStash 5 (some .boolean) 3 76 0 0 [.ref (z + v0), .ref (z + v1), .int v2, .int v3] G u (tc_po r G ur) := by
  unfold fn_X4_leaveStash at h
  refine tc_C.of (by decide) (Nat.le_of_ble_eq_true rfl) fun p e s m args below meth c => ?_
  show tc_R p l e { frames := 3, cells := 0, slots := 0, locals := 76 } s m args below meth c z D cX4_leaveStash RX4 5 (some .boolean) 0 0 (tc_po r G ur) 0 0 G u 0 [(0, .ref (z + v0)), (1, .ref (z + v1)), (2, .int v2), (3, .int v3)] []
  refine tc_aload_n 1 rfl dX4_leaveStash_0 ?_
  refine tc_iload_n 2 rfl dX4_leaveStash_1 ?_
  obtain ⟨x2, u3, hq4, h⟩ := tc_b_ex h
  refine tc_callVi [.int v2] dX4_leaveStash_2 iv1.1 (ct_X9_openBucketFor hW iv1 hq4) ml_X4_29 mw_X9_openBucketFor mv_X9_openBucketFor ⟨Nat.le_of_ble_eq_true rfl, Nat.le_of_ble_eq_true rfl⟩ rfl rfl (Nat.le_of_ble_eq_true rfl) ⟨Nat.le_refl _, Nat.le_refl _⟩ (by decide) ?_
  refine tc_istore [(4, .int x2), (0, .ref (z + v0)), (1, .ref (z + v1)), (2, .int v2), (3, .int v3)] dX4_leaveStash_5 (by decide) rfl ?_
  refine tc_iload 0 rfl dX4_leaveStash_7 ?_
  refine tc_if_lt 35 dX4_leaveStash_9 (by decide) (fun hc5 => ?_) (fun hc5 => ?_)
  · rw [if_pos hc5] at h
    refine tc_iload_n 4 rfl dX4_leaveStash_35 ?_
    refine tc_if_eq 83 dX4_leaveStash_36 (by decide) (fun hc6 => ?_) (fun hc6 => ?_)
    · rw [if_pos hc6] at h
      refine tc_lvs [] rfl ?_
      exact sb_X4_leaveStash_83 hW r ur   u3  h
    · rw [if_neg hc6] at h
      refine tc_aload_n 1 rfl dX4_leaveStash_39 ?_
      refine tc_aload_n 2 rfl dX4_leaveStash_40 ?_
      refine tc_iload_n 3 rfl dX4_leaveStash_41 ?_
      obtain ⟨x7, u8, hq9, h⟩ := tc_b_ex h
      refine tc_callVi [.ref (z + v1), .int v2] dX4_leaveStash_42 iv0.1 (ct_X4_seekFor hW iv0 iv1 hq9) ml_X4_127 mw_X4_seekFor mv_X4_seekFor ⟨Nat.le_of_ble_eq_true rfl, Nat.le_of_ble_eq_true rfl⟩ rfl rfl (Nat.le_of_ble_eq_true rfl) ⟨Nat.le_refl _, Nat.le_refl _⟩ (by decide) ?_
      refine tc_if_eq 83 dX4_leaveStash_45 (by decide) (fun hc10 => ?_) (fun hc10 => ?_)
      · rw [if_pos hc10] at h
        refine tc_lvs [] rfl ?_
        exact sb_X4_leaveStash_83 hW r ur   u8  h
      · rw [if_neg hc10] at h
        refine tc_aload_n 1 rfl dX4_leaveStash_48 ?_
        refine tc_getp hW iv0 fl_X4_15 dX4_leaveStash_49 rfl ?_
        refine tc_geti (hW.p iv0 0 rfl).1 fl_X4_57 dX4_leaveStash_52 ?_
        refine tc_aload_n 2 rfl dX4_leaveStash_55 ?_
        refine tc_getp hW iv1 fl_X4_25 dX4_leaveStash_56 rfl ?_
        refine tc_geti (hW.p iv1 0 rfl).1 fl_X4_60 dX4_leaveStash_59 ?_
        refine tc_icmp_gt 83 dX4_leaveStash_62 (by decide) (fun hc11 => ?_) (fun hc11 => ?_)
        · rw [if_pos hc11] at h
          refine tc_lvs [] rfl ?_
          exact sb_X4_leaveStash_83 hW r ur   u8  h
        · rw [if_neg hc11] at h
          refine tc_aload_n 2 rfl dX4_leaveStash_65 ?_
          refine tc_getp hW iv1 fl_X4_86 dX4_leaveStash_66 rfl ?_
          refine tc_iload_n 3 rfl dX4_leaveStash_69 ?_
          refine tc_dup2 rfl rfl dX4_leaveStash_70 ?_
          obtain ⟨bx12, x12, ex12, h⟩ := tc_ld_ex h
          refine tc_iald (hW.p iv1 6 rfl).1 bx12 dX4_leaveStash_71 ?_
          refine tc_nm ex12 ?_
          refine tc_iconst (v := 1) (by decide) dX4_leaveStash_72 ?_
          refine tc_iadd dX4_leaveStash_73 ?_
          obtain ⟨bu13, u13, eu13, h⟩ := tc_sd_ex h
          refine tc_iast (hW.p iv1 6 rfl).1 bu13 dX4_leaveStash_74 ?_
          refine tc_nmu eu13 ?_
          refine tc_aload_n 1 rfl dX4_leaveStash_75 ?_
          refine tc_aload_n 2 rfl dX4_leaveStash_76 ?_
          refine tc_iload_n 3 rfl dX4_leaveStash_77 ?_
          obtain ⟨x14, u15, hq16, h⟩ := tc_b_ex h
          refine tc_callVv [.ref (z + v1), .int v2] dX4_leaveStash_78 iv0.1 (ct_X4_follow hW iv0 iv1 hq16) ml_X4_63 mw_X4_follow mv_X4_follow ⟨Nat.le_of_ble_eq_true rfl, Nat.le_of_ble_eq_true rfl⟩ rfl rfl (Nat.le_of_ble_eq_true rfl) ⟨Nat.le_refl _, Nat.le_refl _⟩ (by decide) ?_
          refine tc_iconst (v := 1) (by decide) dX4_leaveStash_81 ?_
          obtain ⟨hz17, h⟩ := tc_zo_ex h
          cases h
          exact tc_zreturn hz17 rfl dX4_leaveStash_82 rfl rfl ⟨rfl, rfl, rfl⟩
  · rw [if_neg hc5] at h
    refine tc_aload_n 2 rfl dX4_leaveStash_12 ?_
    refine tc_getp hW iv1 fl_X4_86 dX4_leaveStash_13 rfl ?_
    refine tc_iload_n 3 rfl dX4_leaveStash_16 ?_
    refine tc_dup2 rfl rfl dX4_leaveStash_17 ?_
    obtain ⟨bx18, x18, ex18, h⟩ := tc_ld_ex h
    refine tc_iald (hW.p iv1 6 rfl).1 bx18 dX4_leaveStash_18 ?_
    refine tc_nm ex18 ?_
    refine tc_iconst (v := 1) (by decide) dX4_leaveStash_19 ?_
    refine tc_iadd dX4_leaveStash_20 ?_
    obtain ⟨bu19, u19, eu19, h⟩ := tc_sd_ex h
    refine tc_iast (hW.p iv1 6 rfl).1 bu19 dX4_leaveStash_21 ?_
    refine tc_nmu eu19 ?_
    refine tc_aload_n 2 rfl dX4_leaveStash_22 ?_
    refine tc_iload_n 3 rfl dX4_leaveStash_23 ?_
    refine tc_aload_n 2 rfl dX4_leaveStash_24 ?_
    refine tc_iload 0 rfl dX4_leaveStash_25 ?_
    obtain ⟨x20, u21, hq22, h⟩ := tc_b_ex h
    refine tc_callVi [.int x2] dX4_leaveStash_27 iv1.1 (ct_X9_emptyPlaceIn hW iv1 hq22) ml_X4_33 mw_X9_emptyPlaceIn mv_X9_emptyPlaceIn ⟨Nat.le_of_ble_eq_true rfl, Nat.le_of_ble_eq_true rfl⟩ rfl rfl (Nat.le_of_ble_eq_true rfl) ⟨Nat.le_refl _, Nat.le_refl _⟩ (by decide) ?_
    obtain ⟨x23, u24, hq25, h⟩ := tc_b_ex h
    refine tc_callVv [.int v2, .int x20] dX4_leaveStash_30 iv1.1 (ct_X9_move hW iv1 hq25) ml_X4_36 mw_X9_move mv_X9_move ⟨Nat.le_of_ble_eq_true rfl, Nat.le_of_ble_eq_true rfl⟩ rfl rfl (Nat.le_of_ble_eq_true rfl) ⟨Nat.le_refl _, Nat.le_refl _⟩ (by decide) ?_
    refine tc_iconst (v := 1) (by decide) dX4_leaveStash_33 ?_
    obtain ⟨hz26, h⟩ := tc_zo_ex h
    cases h
    exact tc_zreturn hz26 rfl dX4_leaveStash_34 rfl rfl ⟨rfl, rfl, rfl⟩
set_option maxRecDepth 100000 in
set_option maxHeartbeats 4000000 in
theorem sb_X4_emptyStash_52 {p : Program} {l : Launch} {e : Env} {s : State} {m : MethodId} {args : Array Value} {below : List Frame} {meth : Method} {c : Code} {z : Nat} {D : tc_D} {G : tc_G} (hW : tc_W G) (r : Int32) (ur : tc_S) (K14 : Nat → Nat → Int32 → Int32 → Int32 → Int32 → Int32 → tc_S → Option (Int32 × tc_S)) (hK14 : ∀ (v0 : Nat) (v1 : Nat) (v2 : Int32) (v3 : Int32) (v4 : Int32) (v5 : Int32) (v6 : Int32) (u : tc_S), tc_is G v0 4 → tc_is G v1 9 → K14 v0 v1 v2 v3 v4 v5 v6 u = some (r, ur) → tc_R p l e { frames := 4, cells := 0, slots := 0, locals := 100 } s m args below meth c z D cX4_emptyStash RX4 7 (some .int) 0 0 (tc_po r G ur) 0 0 G u 14 [(0, .ref (z + v0)), (1, .ref (z + v1)), (2, .int v2), (3, .int v3), (4, .int v4), (5, .int v5), (6, .int v6)] []) (v0 : Nat) (v1 : Nat) (v2 : Int32) (v3 : Int32) (v4 : Int32) (v5 : Int32) (v6 : Int32) (u : tc_S) (iv0 : tc_is G v0 4) (iv1 : tc_is G v1 9) (h : bl_X4_emptyStash_52 G K14 v0 v1 v2 v3 v4 v5 v6 u = some (r, ur)) : tc_R p l e { frames := 4, cells := 0, slots := 0, locals := 100 } s m args below meth c z D cX4_emptyStash RX4 7 (some .int) 0 0 (tc_po r G ur) 0 0 G u 52 [(0, .ref (z + v0)), (1, .ref (z + v1)), (2, .int v2), (3, .int v3), (4, .int v4), (5, .int v5), (6, .int v6)] [] := by
  unfold bl_X4_emptyStash_52 at h
  obtain ⟨x1, ex1, h⟩ := tc_let_ex h
  refine tc_iinc 6 (v := x1) [(6, .int x1), (0, .ref (z + v0)), (1, .ref (z + v1)), (2, .int v2), (3, .int v3), (4, .int v4), (5, .int v5)] dX4_emptyStash_52 rfl (by rw [ex1]; rfl) (by decide) rfl ?_
  refine tc_goto 14 dX4_emptyStash_55 (by decide) ?_
  refine tc_lvs [1, 2, 3, 4, 5, 6, 0] rfl ?_
  exact hK14 v0 v1 v2 v3 v4 v5 x1 u iv0 iv1 h
set_option maxRecDepth 100000 in
set_option maxHeartbeats 4000000 in
theorem sl_X4_emptyStash_14 {p : Program} {l : Launch} {e : Env} {s : State} {m : MethodId} {args : Array Value} {below : List Frame} {meth : Method} {c : Code} {z : Nat} {D : tc_D} {G : tc_G} (hW : tc_W G) (r : Int32) (ur : tc_S) : ∀ (n : Nat) (v0 : Nat) (v1 : Nat) (v2 : Int32) (v3 : Int32) (v4 : Int32) (v5 : Int32) (v6 : Int32) (u : tc_S) (iv0 : tc_is G v0 4) (iv1 : tc_is G v1 9) (h : lo_X4_emptyStash_14 G n v0 v1 v2 v3 v4 v5 v6 u = some (r, ur)), tc_R p l e { frames := 4, cells := 0, slots := 0, locals := 100 } s m args below meth c z D cX4_emptyStash RX4 7 (some .int) 0 0 (tc_po r G ur) 0 0 G u 14 [(0, .ref (z + v0)), (1, .ref (z + v1)), (2, .int v2), (3, .int v3), (4, .int v4), (5, .int v5), (6, .int v6)] [] := by
  intro n
  induction n with
  | zero => intro v0 v1 v2 v3 v4 v5 v6 u iv0 iv1 h; cases h
  | succ n ih =>
    intro v0 v1 v2 v3 v4 v5 v6 u iv0 iv1 h
    rw [lo_X4_emptyStash_14] at h
    refine tc_iload 6 rfl dX4_emptyStash_14 ?_
    refine tc_iload 5 rfl dX4_emptyStash_16 ?_
    refine tc_icmp_ge 58 dX4_emptyStash_18 (by decide) (fun hc2 => ?_) (fun hc2 => ?_)
    · rw [if_pos hc2] at h
      refine tc_iload_n 3 rfl dX4_emptyStash_58 ?_
      cases h
      exact tc_ireturn rfl dX4_emptyStash_59 rfl rfl ⟨rfl, rfl, rfl⟩
    · rw [if_neg hc2] at h
      refine tc_aload_n 0 rfl dX4_emptyStash_21 ?_
      refine tc_aload_n 1 rfl dX4_emptyStash_22 ?_
      refine tc_aload_n 1 rfl dX4_emptyStash_23 ?_
      refine tc_geti iv1.1 fl_X4_77 dX4_emptyStash_24 ?_
      refine tc_iload 4 rfl dX4_emptyStash_27 ?_
      refine tc_iadd dX4_emptyStash_29 ?_
      refine tc_iload_n 2 rfl dX4_emptyStash_30 ?_
      obtain ⟨x3, u4, hq5, h⟩ := tc_b_ex h
      refine tc_callVi [.ref (z + v1), .int ((u.1 v1 1) + v4), .int v2] dX4_emptyStash_31 iv0.1 (ct_X4_leaveStash hW iv0 iv1 hq5) ml_X4_120 mw_X4_leaveStash mv_X4_leaveStash ⟨Nat.le_of_ble_eq_true rfl, Nat.le_of_ble_eq_true rfl⟩ rfl rfl (Nat.le_of_ble_eq_true rfl) ⟨Nat.le_refl _, Nat.le_refl _⟩ (by decide) ?_
      refine tc_if_eq 49 dX4_emptyStash_34 (by decide) (fun hc6 => ?_) (fun hc6 => ?_)
      · rw [if_pos hc6] at h
        obtain ⟨x7, ex7, h⟩ := tc_let_ex h
        refine tc_iinc 4 (v := x7) [(4, .int x7), (0, .ref (z + v0)), (1, .ref (z + v1)), (2, .int v2), (3, .int v3), (5, .int v5), (6, .int v6)] dX4_emptyStash_49 rfl (by rw [ex7]; rfl) (by decide) rfl ?_
        refine tc_lvs [1, 2, 3, 4, 0, 5, 6] rfl ?_
        exact sb_X4_emptyStash_52 hW r ur _ ih v0 v1 v2 v3 x7 v5 v6 u4 iv0 iv1 h
      · rw [if_neg hc6] at h
        refine tc_aload_n 1 rfl dX4_emptyStash_37 ?_
        refine tc_iload 4 rfl dX4_emptyStash_38 ?_
        obtain ⟨x8, u9, hq10, h⟩ := tc_b_ex h
        refine tc_callVv [.int v4] dX4_emptyStash_40 iv1.1 (ct_X9_closeStash hW iv1 hq10) ml_X4_124 mw_X9_closeStash mv_X9_closeStash ⟨Nat.le_of_ble_eq_true rfl, Nat.le_of_ble_eq_true rfl⟩ rfl rfl (Nat.le_of_ble_eq_true rfl) ⟨Nat.le_refl _, Nat.le_refl _⟩ (by decide) ?_
        obtain ⟨x11, ex11, h⟩ := tc_let_ex h
        refine tc_iinc 3 (v := x11) [(3, .int x11), (0, .ref (z + v0)), (1, .ref (z + v1)), (2, .int v2), (4, .int v4), (5, .int v5), (6, .int v6)] dX4_emptyStash_43 rfl (by rw [ex11]; rfl) (by decide) rfl ?_
        refine tc_goto 52 dX4_emptyStash_46 (by decide) ?_
        refine tc_lvs [1, 2, 3, 0, 4, 5, 6] rfl ?_
        exact sb_X4_emptyStash_52 hW r ur _ ih v0 v1 v2 x11 v4 v5 v6 u9 iv0 iv1 h
set_option maxRecDepth 100000 in
set_option maxHeartbeats 4000000 in
theorem ct_X4_emptyStash {l : Launch} {z : Nat} {D : tc_D} {G : tc_G} (hW : tc_W G) {v0 : Nat} {v1 : Nat} {v2 : Int32} {u : tc_S} {r : Int32} {ur : tc_S} (iv0 : tc_is G v0 4) (iv1 : tc_is G v1 9) (h : fn_X4_emptyStash G v0 v1 v2 u = some (r, ur)) : tc_C l z D yX4_emptyStash cX4_emptyStash 7 (some .int) 4 100 0 0 [.ref (z + v0), .ref (z + v1), .int v2] G u (tc_po r G ur) := by
  unfold fn_X4_emptyStash at h
  refine tc_C.of (by decide) (Nat.le_of_ble_eq_true rfl) fun p e s m args below meth c => ?_
  show tc_R p l e { frames := 4, cells := 0, slots := 0, locals := 100 } s m args below meth c z D cX4_emptyStash RX4 7 (some .int) 0 0 (tc_po r G ur) 0 0 G u 0 [(0, .ref (z + v0)), (1, .ref (z + v1)), (2, .int v2)] []
  refine tc_iconst (v := 0) (by decide) dX4_emptyStash_0 ?_
  refine tc_istore_n [(3, .int 0), (0, .ref (z + v0)), (1, .ref (z + v1)), (2, .int v2)] dX4_emptyStash_1 (by decide) rfl ?_
  refine tc_iconst (v := 0) (by decide) dX4_emptyStash_2 ?_
  refine tc_istore [(4, .int 0), (3, .int 0), (0, .ref (z + v0)), (1, .ref (z + v1)), (2, .int v2)] dX4_emptyStash_3 (by decide) rfl ?_
  refine tc_aload_n 3 rfl dX4_emptyStash_5 ?_
  refine tc_geti iv1.1 fl_X4_71 dX4_emptyStash_6 ?_
  obtain ⟨x12, ex12, h⟩ := tc_let_ex h
  refine tc_nm ex12 ?_
  refine tc_istore [(5, .int x12), (4, .int 0), (3, .int 0), (0, .ref (z + v0)), (1, .ref (z + v1)), (2, .int v2)] dX4_emptyStash_9 (by decide) rfl ?_
  refine tc_iconst (v := 0) (by decide) dX4_emptyStash_11 ?_
  refine tc_istore [(6, .int 0), (5, .int x12), (4, .int 0), (3, .int 0), (0, .ref (z + v0)), (1, .ref (z + v1)), (2, .int v2)] dX4_emptyStash_12 (by decide) rfl ?_
  refine tc_lvs [4, 5, 6, 3, 2, 1, 0] rfl ?_
  exact sl_X4_emptyStash_14 hW r ur  _ v0 v1 v2 0 0 x12 0 u iv0 iv1 h
set_option maxRecDepth 100000 in
set_option maxHeartbeats 4000000 in
theorem sb_X3_remove_51 {p : Program} {l : Launch} {e : Env} {s : State} {m : MethodId} {args : Array Value} {below : List Frame} {meth : Method} {c : Code} {z : Nat} {D : tc_D} {G : tc_G} (hW : tc_W G) (r : Int32) (ur : tc_S) (v0 : Nat) (v1 : Nat) (v4 : Int32) (u : tc_S) (iv0 : tc_is G v0 3) (iv1 : tc_is G v1 9) (h : bl_X3_remove_51 G v0 v1 v4 u = some (r, ur)) : tc_R p l e { frames := 5, cells := 0, slots := 0, locals := 126 } s m args below meth c z D cX3_remove RX3 5 (some .int) 0 0 (tc_po r G ur) 0 0 G u 51 [(0, .ref (z + v0)), (1, .ref (z + v1)), (4, .int v4)] [] := by
  unfold bl_X3_remove_51 at h
  refine tc_aload_n 0 rfl dX3_remove_51 ?_
  refine tc_getp hW iv0 fl_X3_27 dX3_remove_52 rfl ?_
  refine tc_aload_n 1 rfl dX3_remove_55 ?_
  refine tc_iconst (v := 0) (by decide) dX3_remove_56 ?_
  obtain ⟨x1, u2, hq3, h⟩ := tc_b_ex h
  refine tc_callVi [.ref (z + v1), .int 0] dX3_remove_57 (hW.p iv0 0 rfl).1 (ct_X4_emptyStash hW (hW.p iv0 0 rfl) iv1 hq3) ml_X3_170 mw_X4_emptyStash mv_X4_emptyStash ⟨Nat.le_of_ble_eq_true rfl, Nat.le_of_ble_eq_true rfl⟩ rfl rfl (Nat.le_of_ble_eq_true rfl) ⟨Nat.le_refl _, Nat.le_refl _⟩ (by decide) ?_
  refine tc_pop rfl dX3_remove_60 ?_
  refine tc_iload 2 rfl dX3_remove_61 ?_
  cases h
  exact tc_ireturn rfl dX3_remove_63 rfl rfl ⟨rfl, rfl, rfl⟩
set_option maxRecDepth 100000 in
set_option maxHeartbeats 4000000 in
theorem ct_X3_remove {l : Launch} {z : Nat} {D : tc_D} {G : tc_G} (hW : tc_W G) {v0 : Nat} {v1 : Nat} {v2 : Int32} {u : tc_S} {r : Int32} {ur : tc_S} (iv0 : tc_is G v0 3) (iv1 : tc_is G v1 9) (h : fn_X3_remove G v0 v1 v2 u = some (r, ur)) : tc_C l z D yX3_remove cX3_remove 5 (some .int) 5 126 0 0 [.ref (z + v0), .ref (z + v1), .int v2] G u (tc_po r G ur) := by
  unfold fn_X3_remove at h
  refine tc_C.of (by decide) (Nat.le_of_ble_eq_true rfl) fun p e s m args below meth c => ?_
  show tc_R p l e { frames := 5, cells := 0, slots := 0, locals := 126 } s m args below meth c z D cX3_remove RX3 5 (some .int) 0 0 (tc_po r G ur) 0 0 G u 0 [(0, .ref (z + v0)), (1, .ref (z + v1)), (2, .int v2)] []
  refine tc_aload_n 1 rfl dX3_remove_0 ?_
  refine tc_iload_n 2 rfl dX3_remove_1 ?_
  obtain ⟨x4, u5, hq6, h⟩ := tc_b_ex h
  refine tc_callVi [.int v2] dX3_remove_2 iv1.1 (ct_X9_locate hW iv1 hq6) ml_X3_39 mw_X9_locate mv_X9_locate ⟨Nat.le_of_ble_eq_true rfl, Nat.le_of_ble_eq_true rfl⟩ rfl rfl (Nat.le_of_ble_eq_true rfl) ⟨Nat.le_refl _, Nat.le_refl _⟩ (by decide) ?_
  refine tc_istore_n [(3, .int x4), (0, .ref (z + v0)), (1, .ref (z + v1)), (2, .int v2)] dX3_remove_5 (by decide) rfl ?_
  refine tc_iload_n 0 rfl dX3_remove_6 ?_
  refine tc_if_ge 12 dX3_remove_7 (by decide) (fun hc7 => ?_) (fun hc7 => ?_)
  · rw [if_pos hc7] at h
    refine tc_aload_n 2 rfl dX3_remove_12 ?_
    refine tc_getp hW iv1 fl_X3_43 dX3_remove_13 rfl ?_
    refine tc_iload_n 0 rfl dX3_remove_16 ?_
    obtain ⟨bx8, x8, ex8, h⟩ := tc_ld_ex h
    refine tc_iald (hW.p iv1 4 rfl).1 bx8 dX3_remove_17 ?_
    refine tc_nm ex8 ?_
    refine tc_istore [(4, .int x8), (3, .int x4), (0, .ref (z + v0)), (1, .ref (z + v1)), (2, .int v2)] dX3_remove_18 (by decide) rfl ?_
    refine tc_aload_n 3 rfl dX3_remove_20 ?_
    refine tc_iload_n 1 rfl dX3_remove_21 ?_
    refine tc_aload_n 3 rfl dX3_remove_22 ?_
    refine tc_geti iv1.1 fl_X3_66 dX3_remove_23 ?_
    obtain ⟨x9, u10, hq11, h⟩ := tc_b_ex h
    refine tc_callVv [.int x4, .int (u5.1 v1 2)] dX3_remove_26 iv1.1 (ct_X9_move hW iv1 hq11) ml_X3_150 mw_X9_move mv_X9_move ⟨Nat.le_of_ble_eq_true rfl, Nat.le_of_ble_eq_true rfl⟩ rfl rfl (Nat.le_of_ble_eq_true rfl) ⟨Nat.le_refl _, Nat.le_refl _⟩ (by decide) ?_
    refine tc_aload_n 3 rfl dX3_remove_29 ?_
    obtain ⟨x12, u13, hq14, h⟩ := tc_b_ex h
    refine tc_callVv [] dX3_remove_30 iv1.1 (ct_X9_emptyHand hW iv1 hq14) ml_X3_84 mw_X9_emptyHand mv_X9_emptyHand ⟨Nat.le_of_ble_eq_true rfl, Nat.le_of_ble_eq_true rfl⟩ rfl rfl (Nat.le_of_ble_eq_true rfl) ⟨Nat.le_refl _, Nat.le_refl _⟩ (by decide) ?_
    refine tc_iload_n 1 rfl dX3_remove_33 ?_
    refine tc_aload_n 3 rfl dX3_remove_34 ?_
    refine tc_geti iv1.1 fl_X3_164 dX3_remove_35 ?_
    refine tc_icmp_lt 51 dX3_remove_38 (by decide) (fun hc15 => ?_) (fun hc15 => ?_)
    · rw [if_pos hc15] at h
      refine tc_lvs [2, 3, 0] rfl ?_
      exact sb_X3_remove_51 hW r ur  v0 v1 x8 u13 iv0 iv1 h
    · rw [if_neg hc15] at h
      refine tc_aload_n 3 rfl dX3_remove_41 ?_
      refine tc_iload_n 1 rfl dX3_remove_42 ?_
      refine tc_aload_n 3 rfl dX3_remove_43 ?_
      refine tc_geti iv1.1 fl_X3_164 dX3_remove_44 ?_
      refine tc_isub dX3_remove_47 ?_
      obtain ⟨x16, u17, hq18, h⟩ := tc_b_ex h
      refine tc_callVv [.int (x4 - (u13.1 v1 1))] dX3_remove_48 iv1.1 (ct_X9_closeStash hW iv1 hq18) ml_X3_167 mw_X9_closeStash mv_X9_closeStash ⟨Nat.le_of_ble_eq_true rfl, Nat.le_of_ble_eq_true rfl⟩ rfl rfl (Nat.le_of_ble_eq_true rfl) ⟨Nat.le_refl _, Nat.le_refl _⟩ (by decide) ?_
      refine tc_lvs [2, 3, 0] rfl ?_
      exact sb_X3_remove_51 hW r ur  v0 v1 x8 u17 iv0 iv1 h
  · rw [if_neg hc7] at h
    refine tc_iconst (v := (-1)) (by decide) dX3_remove_10 ?_
    cases h
    exact tc_ireturn rfl dX3_remove_11 rfl rfl ⟨rfl, rfl, rfl⟩
set_option maxRecDepth 100000 in
set_option maxHeartbeats 4000000 in
theorem sb_X3_loadBy_79 {p : Program} {l : Launch} {e : Env} {s : State} {m : MethodId} {args : Array Value} {below : List Frame} {meth : Method} {c : Code} {z : Nat} {D : tc_D} {G : tc_G} (hW : tc_W G) (r : Int32) (ur : tc_S) (K17 : Nat → Nat → Int32 → Int32 → Int32 → tc_S → Option (Int32 × tc_S)) (hK17 : ∀ (v0 : Nat) (v1 : Nat) (v3 : Int32) (v4 : Int32) (v5 : Int32) (u : tc_S), tc_is G v0 3 → tc_is G v1 9 → K17 v0 v1 v3 v4 v5 u = some (r, ur) → tc_R p l e { frames := 6, cells := 0, slots := 0, locals := 150 } s m args below meth c z D cX3_loadBy RX3 8 (some .int) 0 0 (tc_po r G ur) 0 0 G u 17 [(0, .ref (z + v0)), (1, .ref (z + v1)), (3, .int v3), (4, .int v4), (5, .int v5)] []) (v0 : Nat) (v1 : Nat) (v3 : Int32) (v4 : Int32) (v5 : Int32) (u : tc_S) (iv0 : tc_is G v0 3) (iv1 : tc_is G v1 9) (h : bl_X3_loadBy_79 G K17 v0 v1 v3 v4 v5 u = some (r, ur)) : tc_R p l e { frames := 6, cells := 0, slots := 0, locals := 150 } s m args below meth c z D cX3_loadBy RX3 8 (some .int) 0 0 (tc_po r G ur) 0 0 G u 79 [(0, .ref (z + v0)), (1, .ref (z + v1)), (3, .int v3), (4, .int v4), (5, .int v5)] [] := by
  unfold bl_X3_loadBy_79 at h
  obtain ⟨x1, ex1, h⟩ := tc_let_ex h
  refine tc_iinc 4 (v := x1) [(5, .int x1), (0, .ref (z + v0)), (1, .ref (z + v1)), (3, .int v3), (4, .int v4)] dX3_loadBy_79 rfl (by rw [ex1]; rfl) (by decide) rfl ?_
  refine tc_goto 17 dX3_loadBy_82 (by decide) ?_
  refine tc_lvs [1, 2, 3, 4, 0] rfl ?_
  exact hK17 v0 v1 v3 v4 x1 u iv0 iv1 h
set_option maxRecDepth 100000 in
set_option maxHeartbeats 4000000 in
theorem sl_X3_loadBy_17 {p : Program} {l : Launch} {e : Env} {s : State} {m : MethodId} {args : Array Value} {below : List Frame} {meth : Method} {c : Code} {z : Nat} {D : tc_D} {G : tc_G} (hW : tc_W G) (r : Int32) (ur : tc_S) : ∀ (n : Nat) (v0 : Nat) (v1 : Nat) (v3 : Int32) (v4 : Int32) (v5 : Int32) (u : tc_S) (iv0 : tc_is G v0 3) (iv1 : tc_is G v1 9) (h : lo_X3_loadBy_17 G n v0 v1 v3 v4 v5 u = some (r, ur)), tc_R p l e { frames := 6, cells := 0, slots := 0, locals := 150 } s m args below meth c z D cX3_loadBy RX3 8 (some .int) 0 0 (tc_po r G ur) 0 0 G u 17 [(0, .ref (z + v0)), (1, .ref (z + v1)), (3, .int v3), (4, .int v4), (5, .int v5)] [] := by
  intro n
  induction n with
  | zero => intro v0 v1 v3 v4 v5 u iv0 iv1 h; cases h
  | succ n ih =>
    intro v0 v1 v3 v4 v5 u iv0 iv1 h
    rw [lo_X3_loadBy_17] at h
    refine tc_iload 4 rfl dX3_loadBy_17 ?_
    refine tc_iload_n 2 rfl dX3_loadBy_19 ?_
    refine tc_icmp_ge 85 dX3_loadBy_20 (by decide) (fun hc2 => ?_) (fun hc2 => ?_)
    · rw [if_pos hc2] at h
      refine tc_aload_n 1 rfl dX3_loadBy_85 ?_
      refine tc_geti iv1.1 fl_X3_87 dX3_loadBy_86 ?_
      refine tc_iload 3 rfl dX3_loadBy_89 ?_
      refine tc_isub dX3_loadBy_91 ?_
      cases h
      exact tc_ireturn rfl dX3_loadBy_92 rfl rfl ⟨rfl, rfl, rfl⟩
    · rw [if_neg hc2] at h
      refine tc_aload_n 0 rfl dX3_loadBy_23 ?_
      refine tc_getp hW iv0 fl_X3_23 dX3_loadBy_24 rfl ?_
      refine tc_iconst (v := 4) (by decide) dX3_loadBy_27 ?_
      obtain ⟨x3, u4, hq5, h⟩ := tc_b_ex h
      refine tc_callVi [.int 4] dX3_loadBy_28 (hW.p iv0 3 rfl).1 (ct_X2_below hW (hW.p iv0 3 rfl) hq5) ml_X3_177 mw_X2_below mv_X2_below ⟨Nat.le_of_ble_eq_true rfl, Nat.le_of_ble_eq_true rfl⟩ rfl rfl (Nat.le_of_ble_eq_true rfl) ⟨Nat.le_refl _, Nat.le_refl _⟩ (by decide) ?_
      refine tc_istore [(6, .int x3), (0, .ref (z + v0)), (1, .ref (z + v1)), (3, .int v3), (4, .int v4), (5, .int v5)] dX3_loadBy_31 (by decide) rfl ?_
      refine tc_aload_n 1 rfl dX3_loadBy_33 ?_
      refine tc_getp hW iv0 fl_X3_23 dX3_loadBy_34 rfl ?_
      refine tc_sipush (v := 1000) (by decide) dX3_loadBy_37 ?_
      obtain ⟨x6, u7, hq8, h⟩ := tc_b_ex h
      refine tc_callVi [.int 1000] dX3_loadBy_40 (hW.p iv0 3 rfl).1 (ct_X2_below hW (hW.p iv0 3 rfl) hq8) ml_X3_177 mw_X2_below mv_X2_below ⟨Nat.le_of_ble_eq_true rfl, Nat.le_of_ble_eq_true rfl⟩ rfl rfl (Nat.le_of_ble_eq_true rfl) ⟨Nat.le_refl _, Nat.le_refl _⟩ (by decide) ?_
      refine tc_istore [(7, .int x6), (6, .int x3), (0, .ref (z + v0)), (1, .ref (z + v1)), (3, .int v3), (4, .int v4), (5, .int v5)] dX3_loadBy_43 (by decide) rfl ?_
      refine tc_iload 1 rfl dX3_loadBy_45 ?_
      refine tc_if_ne 61 dX3_loadBy_47 (by decide) (fun hc9 => ?_) (fun hc9 => ?_)
      · rw [if_neg hc9] at h
        refine tc_aload_n 2 rfl dX3_loadBy_61 ?_
        refine tc_aload_n 3 rfl dX3_loadBy_62 ?_
        refine tc_iload 0 rfl dX3_loadBy_63 ?_
        refine tc_aload_n 2 rfl dX3_loadBy_65 ?_
        refine tc_getp hW iv0 fl_X3_23 dX3_loadBy_66 rfl ?_
        refine tc_sipush (v := 1000) (by decide) dX3_loadBy_69 ?_
        obtain ⟨x10, u11, hq12, h⟩ := tc_b_ex h
        refine tc_callVi [.int 1000] dX3_loadBy_72 (hW.p iv0 3 rfl).1 (ct_X2_below hW (hW.p iv0 3 rfl) hq12) ml_X3_177 mw_X2_below mv_X2_below ⟨Nat.le_of_ble_eq_true rfl, Nat.le_of_ble_eq_true rfl⟩ rfl rfl (Nat.le_of_ble_eq_true rfl) ⟨Nat.le_refl _, Nat.le_refl _⟩ (by decide) ?_
        obtain ⟨x13, u14, hq15, h⟩ := tc_b_ex h
        refine tc_callVi [.ref (z + v1), .int x6, .int x10] dX3_loadBy_75 iv0.1 (ct_X3_enter hW iv0 iv1 hq15) ml_X3_184 mw_X3_enter mv_X3_enter ⟨Nat.le_of_ble_eq_true rfl, Nat.le_of_ble_eq_true rfl⟩ rfl rfl (Nat.le_of_ble_eq_true rfl) ⟨Nat.le_refl _, Nat.le_refl _⟩ (by decide) ?_
        refine tc_pop rfl dX3_loadBy_78 ?_
        refine tc_lvs [2, 3, 4, 5, 6] rfl ?_
        exact sb_X3_loadBy_79 hW r ur _ ih v0 v1 v3 v4 v5 u14 iv0 iv1 h
      · rw [if_pos hc9] at h
        refine tc_aload_n 2 rfl dX3_loadBy_50 ?_
        refine tc_aload_n 3 rfl dX3_loadBy_51 ?_
        refine tc_iload 0 rfl dX3_loadBy_52 ?_
        obtain ⟨x16, u17, hq18, h⟩ := tc_b_ex h
        refine tc_callVi [.ref (z + v1), .int x6] dX3_loadBy_54 iv0.1 (ct_X3_remove hW iv0 iv1 hq18) ml_X3_180 mw_X3_remove mv_X3_remove ⟨Nat.le_of_ble_eq_true rfl, Nat.le_of_ble_eq_true rfl⟩ rfl rfl (Nat.le_of_ble_eq_true rfl) ⟨Nat.le_refl _, Nat.le_refl _⟩ (by decide) ?_
        refine tc_pop rfl dX3_loadBy_57 ?_
        refine tc_goto 79 dX3_loadBy_58 (by decide) ?_
        refine tc_lvs [2, 3, 4, 5, 6] rfl ?_
        exact sb_X3_loadBy_79 hW r ur _ ih v0 v1 v3 v4 v5 u17 iv0 iv1 h
set_option maxRecDepth 100000 in
set_option maxHeartbeats 4000000 in
theorem ct_X3_loadBy {l : Launch} {z : Nat} {D : tc_D} {G : tc_G} (hW : tc_W G) {v0 : Nat} {v1 : Nat} {v2 : Int32} {v3 : Int32} {u : tc_S} {r : Int32} {ur : tc_S} (iv0 : tc_is G v0 3) (iv1 : tc_is G v1 9) (h : fn_X3_loadBy G v0 v1 v2 v3 u = some (r, ur)) : tc_C l z D yX3_loadBy cX3_loadBy 8 (some .int) 6 150 0 0 [.ref (z + v0), .ref (z + v1), .int v2, .int v3] G u (tc_po r G ur) := by
  unfold fn_X3_loadBy at h
  refine tc_C.of (by decide) (Nat.le_of_ble_eq_true rfl) fun p e s m args below meth c => ?_
  show tc_R p l e { frames := 6, cells := 0, slots := 0, locals := 150 } s m args below meth c z D cX3_loadBy RX3 8 (some .int) 0 0 (tc_po r G ur) 0 0 G u 0 [(0, .ref (z + v0)), (1, .ref (z + v1)), (2, .int v2), (3, .int v3)] []
  refine tc_aload_n 1 rfl dX3_loadBy_0 ?_
  refine tc_geti iv1.1 fl_X3_87 dX3_loadBy_1 ?_
  obtain ⟨x19, ex19, h⟩ := tc_let_ex h
  refine tc_nm ex19 ?_
  refine tc_istore [(4, .int x19), (0, .ref (z + v0)), (1, .ref (z + v1)), (2, .int v2), (3, .int v3)] dX3_loadBy_4 (by decide) rfl ?_
  refine tc_aload_n 1 rfl dX3_loadBy_6 ?_
  refine tc_getp hW iv0 fl_X3_23 dX3_loadBy_7 rfl ?_
  refine tc_iload_n 3 rfl dX3_loadBy_10 ?_
  obtain ⟨u20, eu20, h⟩ := tc_let_ex h
  refine tc_puti (hW.p iv0 3 rfl).1 fl_X3_174 dX3_loadBy_11 ?_
  refine tc_nmu eu20 ?_
  refine tc_iconst (v := 0) (by decide) dX3_loadBy_14 ?_
  refine tc_istore [(5, .int 0), (4, .int x19), (0, .ref (z + v0)), (1, .ref (z + v1)), (2, .int v2), (3, .int v3)] dX3_loadBy_15 (by decide) rfl ?_
  refine tc_lvs [2, 3, 5, 1, 0] rfl ?_
  exact sl_X3_loadBy_17 hW r ur  _ v0 v1 v3 x19 0 u20 iv0 iv1 h
set_option maxRecDepth 100000 in
set_option maxHeartbeats 4000000 in
theorem sb_X5_unite_35 {p : Program} {l : Launch} {e : Env} {s : State} {m : MethodId} {args : Array Value} {below : List Frame} {meth : Method} {c : Code} {z : Nat} {D : tc_D} {G : tc_G} (hW : tc_W G) (r : Int32) (ur : tc_S) (K10 : Nat → Int32 → Int32 → Int32 → Int32 → tc_S → Option (Int32 × tc_S)) (hK10 : ∀ (v0 : Nat) (v1 : Int32) (v2 : Int32) (v3 : Int32) (v4 : Int32) (u : tc_S), tc_is G v0 5 → K10 v0 v1 v2 v3 v4 u = some (r, ur) → tc_R p l e { frames := 0, cells := 0, slots := 0, locals := 0 } s m args below meth c z D cX5_unite RX5 5 (some .int) 0 0 (tc_po r G ur) 0 0 G u 10 [(0, .ref (z + v0)), (1, .int v1), (2, .int v2), (3, .int v3), (4, .int v4)] []) (v0 : Nat) (v1 : Int32) (v2 : Int32) (v3 : Int32) (v4 : Int32) (u : tc_S) (iv0 : tc_is G v0 5) (h : bl_X5_unite_35 G K10 v0 v1 v2 v3 v4 u = some (r, ur)) : tc_R p l e { frames := 0, cells := 0, slots := 0, locals := 0 } s m args below meth c z D cX5_unite RX5 5 (some .int) 0 0 (tc_po r G ur) 0 0 G u 35 [(0, .ref (z + v0)), (1, .int v1), (2, .int v2), (3, .int v3), (4, .int v4)] [] := by
  unfold bl_X5_unite_35 at h
  obtain ⟨x1, ex1, h⟩ := tc_let_ex h
  refine tc_iinc 4 (v := x1) [(4, .int x1), (0, .ref (z + v0)), (1, .int v1), (2, .int v2), (3, .int v3)] dX5_unite_35 rfl (by rw [ex1]; rfl) (by decide) rfl ?_
  refine tc_goto 10 dX5_unite_38 (by decide) ?_
  refine tc_lvs [1, 2, 3, 4, 0] rfl ?_
  exact hK10 v0 v1 v2 v3 x1 u iv0 h
set_option maxRecDepth 100000 in
set_option maxHeartbeats 4000000 in
theorem sl_X5_unite_10 {p : Program} {l : Launch} {e : Env} {s : State} {m : MethodId} {args : Array Value} {below : List Frame} {meth : Method} {c : Code} {z : Nat} {D : tc_D} {G : tc_G} (hW : tc_W G) (r : Int32) (ur : tc_S) : ∀ (n : Nat) (v0 : Nat) (v1 : Int32) (v2 : Int32) (v3 : Int32) (v4 : Int32) (u : tc_S) (iv0 : tc_is G v0 5) (h : lo_X5_unite_10 G n v0 v1 v2 v3 v4 u = some (r, ur)), tc_R p l e { frames := 0, cells := 0, slots := 0, locals := 0 } s m args below meth c z D cX5_unite RX5 5 (some .int) 0 0 (tc_po r G ur) 0 0 G u 10 [(0, .ref (z + v0)), (1, .int v1), (2, .int v2), (3, .int v3), (4, .int v4)] [] := by
  intro n
  induction n with
  | zero => intro v0 v1 v2 v3 v4 u iv0 h; cases h
  | succ n ih =>
    intro v0 v1 v2 v3 v4 u iv0 h
    rw [lo_X5_unite_10] at h
    refine tc_iload 4 rfl dX5_unite_10 ?_
    refine tc_iload_n 3 rfl dX5_unite_12 ?_
    refine tc_icmp_ge 41 dX5_unite_13 (by decide) (fun hc2 => ?_) (fun hc2 => ?_)
    · rw [if_pos hc2] at h
      refine tc_aload_n 0 rfl dX5_unite_41 ?_
      refine tc_getp hW iv0 fl_X5_15 dX5_unite_42 rfl ?_
      refine tc_iload_n 1 rfl dX5_unite_45 ?_
      refine tc_dup2 rfl rfl dX5_unite_46 ?_
      obtain ⟨bx3, x3, ex3, h⟩ := tc_ld_ex h
      refine tc_iald (hW.p iv0 1 rfl).1 bx3 dX5_unite_47 ?_
      refine tc_nm ex3 ?_
      refine tc_aload_n 0 rfl dX5_unite_48 ?_
      refine tc_getp hW iv0 fl_X5_15 dX5_unite_49 rfl ?_
      refine tc_iload_n 2 rfl dX5_unite_52 ?_
      obtain ⟨bx4, x4, ex4, h⟩ := tc_ld_ex h
      refine tc_iald (hW.p iv0 1 rfl).1 bx4 dX5_unite_53 ?_
      refine tc_nm ex4 ?_
      refine tc_iadd dX5_unite_54 ?_
      obtain ⟨bu5, u5, eu5, h⟩ := tc_sd_ex h
      refine tc_iast (hW.p iv0 1 rfl).1 bu5 dX5_unite_55 ?_
      refine tc_nmu eu5 ?_
      refine tc_aload_n 0 rfl dX5_unite_56 ?_
      refine tc_getp hW iv0 fl_X5_18 dX5_unite_57 rfl ?_
      refine tc_iload_n 1 rfl dX5_unite_60 ?_
      refine tc_dup2 rfl rfl dX5_unite_61 ?_
      obtain ⟨bx6, x6, ex6, h⟩ := tc_ld_ex h
      refine tc_iald (hW.p iv0 2 rfl).1 bx6 dX5_unite_62 ?_
      refine tc_nm ex6 ?_
      refine tc_aload_n 0 rfl dX5_unite_63 ?_
      refine tc_getp hW iv0 fl_X5_18 dX5_unite_64 rfl ?_
      refine tc_iload_n 2 rfl dX5_unite_67 ?_
      obtain ⟨bx7, x7, ex7, h⟩ := tc_ld_ex h
      refine tc_iald (hW.p iv0 2 rfl).1 bx7 dX5_unite_68 ?_
      refine tc_nm ex7 ?_
      refine tc_iadd dX5_unite_69 ?_
      obtain ⟨bu8, u8, eu8, h⟩ := tc_sd_ex h
      refine tc_iast (hW.p iv0 2 rfl).1 bu8 dX5_unite_70 ?_
      refine tc_nmu eu8 ?_
      refine tc_aload_n 0 rfl dX5_unite_71 ?_
      refine tc_getp hW iv0 fl_X5_15 dX5_unite_72 rfl ?_
      refine tc_iload_n 2 rfl dX5_unite_75 ?_
      refine tc_iconst (v := 0) (by decide) dX5_unite_76 ?_
      obtain ⟨bu9, u9, eu9, h⟩ := tc_sd_ex h
      refine tc_iast (hW.p iv0 1 rfl).1 bu9 dX5_unite_77 ?_
      refine tc_nmu eu9 ?_
      refine tc_aload_n 0 rfl dX5_unite_78 ?_
      refine tc_getp hW iv0 fl_X5_18 dX5_unite_79 rfl ?_
      refine tc_iload_n 2 rfl dX5_unite_82 ?_
      refine tc_iconst (v := 0) (by decide) dX5_unite_83 ?_
      obtain ⟨bu10, u10, eu10, h⟩ := tc_sd_ex h
      refine tc_iast (hW.p iv0 2 rfl).1 bu10 dX5_unite_84 ?_
      refine tc_nmu eu10 ?_
      refine tc_iconst (v := 1) (by decide) dX5_unite_85 ?_
      cases h
      exact tc_ireturn rfl dX5_unite_86 rfl rfl ⟨rfl, rfl, rfl⟩
    · rw [if_neg hc2] at h
      refine tc_aload_n 0 rfl dX5_unite_16 ?_
      refine tc_getp hW iv0 fl_X5_9 dX5_unite_17 rfl ?_
      refine tc_iload 4 rfl dX5_unite_20 ?_
      obtain ⟨bx11, x11, ex11, h⟩ := tc_ld_ex h
      refine tc_iald (hW.p iv0 0 rfl).1 bx11 dX5_unite_22 ?_
      refine tc_nm ex11 ?_
      refine tc_iload_n 2 rfl dX5_unite_23 ?_
      refine tc_icmp_ne 35 dX5_unite_24 (by decide) (fun hc12 => ?_) (fun hc12 => ?_)
      · rw [if_neg hc12] at h
        exact sb_X5_unite_35 hW r ur _ ih v0 v1 v2 v3 v4 u iv0 h
      · rw [if_pos hc12] at h
        refine tc_aload_n 0 rfl dX5_unite_27 ?_
        refine tc_getp hW iv0 fl_X5_9 dX5_unite_28 rfl ?_
        refine tc_iload 4 rfl dX5_unite_31 ?_
        refine tc_iload_n 1 rfl dX5_unite_33 ?_
        obtain ⟨bu13, u13, eu13, h⟩ := tc_sd_ex h
        refine tc_iast (hW.p iv0 0 rfl).1 bu13 dX5_unite_34 ?_
        refine tc_nmu eu13 ?_
        exact sb_X5_unite_35 hW r ur _ ih v0 v1 v2 v3 v4 u13 iv0 h
set_option maxRecDepth 100000 in
set_option maxHeartbeats 4000000 in
theorem ct_X5_unite {l : Launch} {z : Nat} {D : tc_D} {G : tc_G} (hW : tc_W G) {v0 : Nat} {v1 : Int32} {v2 : Int32} {v3 : Int32} {u : tc_S} {r : Int32} {ur : tc_S} (iv0 : tc_is G v0 5) (h : fn_X5_unite G v0 v1 v2 v3 u = some (r, ur)) : tc_C l z D yX5_unite cX5_unite 5 (some .int) 0 0 0 0 [.ref (z + v0), .int v1, .int v2, .int v3] G u (tc_po r G ur) := by
  unfold fn_X5_unite at h
  refine tc_C.of (by decide) (Nat.le_of_ble_eq_true rfl) fun p e s m args below meth c => ?_
  show tc_R p l e { frames := 0, cells := 0, slots := 0, locals := 0 } s m args below meth c z D cX5_unite RX5 5 (some .int) 0 0 (tc_po r G ur) 0 0 G u 0 [(0, .ref (z + v0)), (1, .int v1), (2, .int v2), (3, .int v3)] []
  refine tc_iload_n 1 rfl dX5_unite_0 ?_
  refine tc_iload_n 2 rfl dX5_unite_1 ?_
  refine tc_icmp_ne 7 dX5_unite_2 (by decide) (fun hc14 => ?_) (fun hc14 => ?_)
  · rw [if_neg hc14] at h
    refine tc_iconst (v := 0) (by decide) dX5_unite_7 ?_
    refine tc_istore [(4, .int 0), (0, .ref (z + v0)), (1, .int v1), (2, .int v2), (3, .int v3)] dX5_unite_8 (by decide) rfl ?_
    refine tc_lvs [1, 2, 3, 4, 0] rfl ?_
    exact sl_X5_unite_10 hW r ur  _ v0 v1 v2 v3 0 u iv0 h
  · rw [if_pos hc14] at h
    refine tc_iconst (v := 0) (by decide) dX5_unite_5 ?_
    cases h
    exact tc_ireturn rfl dX5_unite_6 rfl rfl ⟨rfl, rfl, rfl⟩
set_option maxRecDepth 100000 in
set_option maxHeartbeats 4000000 in
theorem sb_X5_join_129 {p : Program} {l : Launch} {e : Env} {s : State} {m : MethodId} {args : Array Value} {below : List Frame} {meth : Method} {c : Code} {z : Nat} {D : tc_D} {G : tc_G} (hW : tc_W G) (r : Int32) (ur : tc_S) (K57 : Nat → Nat → Int32 → Int32 → Int32 → tc_S → Option (Int32 × tc_S)) (hK57 : ∀ (v0 : Nat) (v1 : Nat) (v2 : Int32) (v3 : Int32) (v4 : Int32) (u : tc_S), tc_is G v0 5 → tc_is G v1 9 → K57 v0 v1 v2 v3 v4 u = some (r, ur) → tc_R p l e { frames := 1, cells := 0, slots := 0, locals := 24 } s m args below meth c z D cX5_join RX5 5 (some .int) 0 0 (tc_po r G ur) 0 0 G u 57 [(0, .ref (z + v0)), (1, .ref (z + v1)), (2, .int v2), (3, .int v3), (4, .int v4)] []) (v0 : Nat) (v1 : Nat) (v2 : Int32) (v3 : Int32) (v4 : Int32) (u : tc_S) (iv0 : tc_is G v0 5) (iv1 : tc_is G v1 9) (h : bl_X5_join_129 G K57 v0 v1 v2 v3 v4 u = some (r, ur)) : tc_R p l e { frames := 1, cells := 0, slots := 0, locals := 24 } s m args below meth c z D cX5_join RX5 5 (some .int) 0 0 (tc_po r G ur) 0 0 G u 129 [(0, .ref (z + v0)), (1, .ref (z + v1)), (2, .int v2), (3, .int v3), (4, .int v4)] [] := by
  unfold bl_X5_join_129 at h
  obtain ⟨x1, ex1, h⟩ := tc_let_ex h
  refine tc_iinc 4 (v := x1) [(4, .int x1), (0, .ref (z + v0)), (1, .ref (z + v1)), (2, .int v2), (3, .int v3)] dX5_join_129 rfl (by rw [ex1]; rfl) (by decide) rfl ?_
  refine tc_goto 57 dX5_join_132 (by decide) ?_
  refine tc_lvs [1, 2, 3, 4, 0] rfl ?_
  exact hK57 v0 v1 v2 v3 x1 u iv0 iv1 h
set_option maxRecDepth 100000 in
set_option maxHeartbeats 4000000 in
theorem sl_X5_join_57 {p : Program} {l : Launch} {e : Env} {s : State} {m : MethodId} {args : Array Value} {below : List Frame} {meth : Method} {c : Code} {z : Nat} {D : tc_D} {G : tc_G} (hW : tc_W G) (r : Int32) (ur : tc_S) : ∀ (n : Nat) (v0 : Nat) (v1 : Nat) (v2 : Int32) (v3 : Int32) (v4 : Int32) (u : tc_S) (iv0 : tc_is G v0 5) (iv1 : tc_is G v1 9) (h : lo_X5_join_57 G n v0 v1 v2 v3 v4 u = some (r, ur)), tc_R p l e { frames := 1, cells := 0, slots := 0, locals := 24 } s m args below meth c z D cX5_join RX5 5 (some .int) 0 0 (tc_po r G ur) 0 0 G u 57 [(0, .ref (z + v0)), (1, .ref (z + v1)), (2, .int v2), (3, .int v3), (4, .int v4)] [] := by
  intro n
  induction n with
  | zero => intro v0 v1 v2 v3 v4 u iv0 iv1 h; cases h
  | succ n ih =>
    intro v0 v1 v2 v3 v4 u iv0 iv1 h
    rw [lo_X5_join_57] at h
    refine tc_iload 4 rfl dX5_join_57 ?_
    refine tc_aload_n 1 rfl dX5_join_59 ?_
    refine tc_geti iv1.1 fl_X5_33 dX5_join_60 ?_
    refine tc_icmp_ge 135 dX5_join_63 (by decide) (fun hc2 => ?_) (fun hc2 => ?_)
    · rw [if_pos hc2] at h
      refine tc_iload_n 3 rfl dX5_join_135 ?_
      cases h
      exact tc_ireturn rfl dX5_join_136 rfl rfl ⟨rfl, rfl, rfl⟩
    · rw [if_neg hc2] at h
      refine tc_aload_n 1 rfl dX5_join_66 ?_
      refine tc_getp hW iv1 fl_X5_36 dX5_join_67 rfl ?_
      refine tc_iload 4 rfl dX5_join_70 ?_
      obtain ⟨bx3, x3, ex3, h⟩ := tc_ld_ex h
      refine tc_iald (hW.p iv1 3 rfl).1 bx3 dX5_join_72 ?_
      refine tc_nm ex3 ?_
      refine tc_if_lt 129 dX5_join_73 (by decide) (fun hc4 => ?_) (fun hc4 => ?_)
      · rw [if_pos hc4] at h
        exact sb_X5_join_129 hW r ur _ ih v0 v1 v2 v3 v4 u iv0 iv1 h
      · rw [if_neg hc4] at h
        refine tc_iload_n 3 rfl dX5_join_76 ?_
        refine tc_aload_n 0 rfl dX5_join_77 ?_
        refine tc_aload_n 0 rfl dX5_join_78 ?_
        refine tc_getp hW iv0 fl_X5_9 dX5_join_79 rfl ?_
        refine tc_aload_n 1 rfl dX5_join_82 ?_
        refine tc_getp hW iv1 fl_X5_39 dX5_join_83 rfl ?_
        refine tc_iload 4 rfl dX5_join_86 ?_
        obtain ⟨bx5, x5, ex5, h⟩ := tc_ld_ex h
        refine tc_iald (hW.p iv1 7 rfl).1 bx5 dX5_join_88 ?_
        refine tc_nm ex5 ?_
        obtain ⟨bx6, x6, ex6, h⟩ := tc_ld_ex h
        refine tc_iald (hW.p iv0 0 rfl).1 bx6 dX5_join_89 ?_
        refine tc_nm ex6 ?_
        refine tc_aload_n 0 rfl dX5_join_90 ?_
        refine tc_getp hW iv0 fl_X5_9 dX5_join_91 rfl ?_
        refine tc_aload_n 1 rfl dX5_join_94 ?_
        refine tc_getp hW iv1 fl_X5_42 dX5_join_95 rfl ?_
        refine tc_iload 4 rfl dX5_join_98 ?_
        obtain ⟨bx7, x7, ex7, h⟩ := tc_ld_ex h
        refine tc_iald (hW.p iv1 8 rfl).1 bx7 dX5_join_100 ?_
        refine tc_nm ex7 ?_
        obtain ⟨bx8, x8, ex8, h⟩ := tc_ld_ex h
        refine tc_iald (hW.p iv0 0 rfl).1 bx8 dX5_join_101 ?_
        refine tc_nm ex8 ?_
        refine tc_iload_n 2 rfl dX5_join_102 ?_
        obtain ⟨x9, u10, hq11, h⟩ := tc_b_ex h
        refine tc_callVi [.int x6, .int x8, .int v2] dX5_join_103 iv0.1 (ct_X5_unite hW iv0 hq11) ml_X5_45 mw_X5_unite mv_X5_unite ⟨Nat.le_of_ble_eq_true rfl, Nat.le_of_ble_eq_true rfl⟩ rfl rfl (Nat.le_of_ble_eq_true rfl) ⟨Nat.le_refl _, Nat.le_refl _⟩ (by decide) ?_
        refine tc_isub dX5_join_106 ?_
        obtain ⟨x12, ex12, h⟩ := tc_let_ex h
        refine tc_nm ex12 ?_
        refine tc_istore_n [(3, .int x12), (0, .ref (z + v0)), (1, .ref (z + v1)), (2, .int v2), (4, .int v4)] dX5_join_107 (by decide) rfl ?_
        refine tc_aload_n 1 rfl dX5_join_108 ?_
        refine tc_getp hW iv0 fl_X5_15 dX5_join_109 rfl ?_
        refine tc_aload_n 1 rfl dX5_join_112 ?_
        refine tc_getp hW iv0 fl_X5_9 dX5_join_113 rfl ?_
        refine tc_aload_n 2 rfl dX5_join_116 ?_
        refine tc_getp hW iv1 fl_X5_39 dX5_join_117 rfl ?_
        refine tc_iload 4 rfl dX5_join_120 ?_
        obtain ⟨bx13, x13, ex13, h⟩ := tc_ld_ex h
        refine tc_iald (hW.p iv1 7 rfl).1 bx13 dX5_join_122 ?_
        refine tc_nm ex13 ?_
        obtain ⟨bx14, x14, ex14, h⟩ := tc_ld_ex h
        refine tc_iald (hW.p iv0 0 rfl).1 bx14 dX5_join_123 ?_
        refine tc_nm ex14 ?_
        refine tc_dup2 rfl rfl dX5_join_124 ?_
        obtain ⟨bx15, x15, ex15, h⟩ := tc_ld_ex h
        refine tc_iald (hW.p iv0 1 rfl).1 bx15 dX5_join_125 ?_
        refine tc_nm ex15 ?_
        refine tc_iconst (v := 1) (by decide) dX5_join_126 ?_
        refine tc_iadd dX5_join_127 ?_
        obtain ⟨bu16, u16, eu16, h⟩ := tc_sd_ex h
        refine tc_iast (hW.p iv0 1 rfl).1 bu16 dX5_join_128 ?_
        refine tc_nmu eu16 ?_
        refine tc_lvs [1, 2, 3, 0, 4] rfl ?_
        exact sb_X5_join_129 hW r ur _ ih v0 v1 v2 x12 v4 u16 iv0 iv1 h
set_option maxRecDepth 100000 in
set_option maxHeartbeats 4000000 in
theorem sb_X5_join_45 {p : Program} {l : Launch} {e : Env} {s : State} {m : MethodId} {args : Array Value} {below : List Frame} {meth : Method} {c : Code} {z : Nat} {D : tc_D} {G : tc_G} (hW : tc_W G) (r : Int32) (ur : tc_S) (K10 : Nat → Nat → Int32 → Int32 → tc_S → Option (Int32 × tc_S)) (hK10 : ∀ (v0 : Nat) (v1 : Nat) (v2 : Int32) (v3 : Int32) (u : tc_S), tc_is G v0 5 → tc_is G v1 9 → K10 v0 v1 v2 v3 u = some (r, ur) → tc_R p l e { frames := 1, cells := 0, slots := 0, locals := 24 } s m args below meth c z D cX5_join RX5 5 (some .int) 0 0 (tc_po r G ur) 0 0 G u 10 [(0, .ref (z + v0)), (1, .ref (z + v1)), (2, .int v2), (3, .int v3)] []) (v0 : Nat) (v1 : Nat) (v2 : Int32) (v3 : Int32) (s0 : Nat) (s1 : Int32) (s2 : Int32) (u : tc_S) (iv0 : tc_is G v0 5) (iv1 : tc_is G v1 9) (is0 : tc_is G s0 100) (h : bl_X5_join_45 G K10 v0 v1 v2 v3 s0 s1 s2 u = some (r, ur)) : tc_R p l e { frames := 1, cells := 0, slots := 0, locals := 24 } s m args below meth c z D cX5_join RX5 5 (some .int) 0 0 (tc_po r G ur) 0 0 G u 45 [(0, .ref (z + v0)), (1, .ref (z + v1)), (2, .int v2), (3, .int v3)] [.int s2, .int s1, .ref (z + s0)] := by
  unfold bl_X5_join_45 at h
  obtain ⟨bu17, u17, eu17, h⟩ := tc_sd_ex h
  refine tc_iast is0.1 bu17 dX5_join_45 ?_
  refine tc_nmu eu17 ?_
  obtain ⟨x18, ex18, h⟩ := tc_let_ex h
  refine tc_iinc 3 (v := x18) [(3, .int x18), (0, .ref (z + v0)), (1, .ref (z + v1)), (2, .int v2)] dX5_join_46 rfl (by rw [ex18]; rfl) (by decide) rfl ?_
  refine tc_goto 10 dX5_join_49 (by decide) ?_
  refine tc_lvs [1, 2, 3, 0] rfl ?_
  exact hK10 v0 v1 v2 x18 u17 iv0 iv1 h
set_option maxRecDepth 100000 in
set_option maxHeartbeats 4000000 in
theorem sl_X5_join_10 {p : Program} {l : Launch} {e : Env} {s : State} {m : MethodId} {args : Array Value} {below : List Frame} {meth : Method} {c : Code} {z : Nat} {D : tc_D} {G : tc_G} (hW : tc_W G) (r : Int32) (ur : tc_S) : ∀ (n : Nat) (v0 : Nat) (v1 : Nat) (v2 : Int32) (v3 : Int32) (u : tc_S) (iv0 : tc_is G v0 5) (iv1 : tc_is G v1 9) (h : lo_X5_join_10 G n v0 v1 v2 v3 u = some (r, ur)), tc_R p l e { frames := 1, cells := 0, slots := 0, locals := 24 } s m args below meth c z D cX5_join RX5 5 (some .int) 0 0 (tc_po r G ur) 0 0 G u 10 [(0, .ref (z + v0)), (1, .ref (z + v1)), (2, .int v2), (3, .int v3)] [] := by
  intro n
  induction n with
  | zero => intro v0 v1 v2 v3 u iv0 iv1 h; cases h
  | succ n ih =>
    intro v0 v1 v2 v3 u iv0 iv1 h
    rw [lo_X5_join_10] at h
    refine tc_iload_n 3 rfl dX5_join_10 ?_
    refine tc_bipush (v := 32) (by decide) dX5_join_11 ?_
    refine tc_icmp_ge 52 dX5_join_13 (by decide) (fun hc19 => ?_) (fun hc19 => ?_)
    · rw [if_pos hc19] at h
      refine tc_iload_n 2 rfl dX5_join_52 ?_
      refine tc_istore_n [(3, .int v2), (0, .ref (z + v0)), (1, .ref (z + v1)), (2, .int v2)] dX5_join_53 (by decide) rfl ?_
      refine tc_iconst (v := 0) (by decide) dX5_join_54 ?_
      refine tc_istore [(4, .int 0), (3, .int v2), (0, .ref (z + v0)), (1, .ref (z + v1)), (2, .int v2)] dX5_join_55 (by decide) rfl ?_
      refine tc_lvs [2, 3, 4, 1, 0] rfl ?_
      exact sl_X5_join_57 hW r ur  _ v0 v1 v2 v2 0 u iv0 iv1 h
    · rw [if_neg hc19] at h
      refine tc_aload_n 0 rfl dX5_join_16 ?_
      refine tc_getp hW iv0 fl_X5_9 dX5_join_17 rfl ?_
      refine tc_iload_n 3 rfl dX5_join_20 ?_
      refine tc_iload_n 3 rfl dX5_join_21 ?_
      obtain ⟨bu20, u20, eu20, h⟩ := tc_sd_ex h
      refine tc_iast (hW.p iv0 0 rfl).1 bu20 dX5_join_22 ?_
      refine tc_nmu eu20 ?_
      refine tc_aload_n 0 rfl dX5_join_23 ?_
      refine tc_getp hW iv0 fl_X5_15 dX5_join_24 rfl ?_
      refine tc_iload_n 3 rfl dX5_join_27 ?_
      refine tc_iconst (v := 0) (by decide) dX5_join_28 ?_
      obtain ⟨bu21, u21, eu21, h⟩ := tc_sd_ex h
      refine tc_iast (hW.p iv0 1 rfl).1 bu21 dX5_join_29 ?_
      refine tc_nmu eu21 ?_
      refine tc_aload_n 0 rfl dX5_join_30 ?_
      refine tc_getp hW iv0 fl_X5_18 dX5_join_31 rfl ?_
      refine tc_iload_n 3 rfl dX5_join_34 ?_
      refine tc_iload_n 3 rfl dX5_join_35 ?_
      refine tc_iload_n 2 rfl dX5_join_36 ?_
      refine tc_icmp_ge 44 dX5_join_37 (by decide) (fun hc22 => ?_) (fun hc22 => ?_)
      · rw [if_pos hc22] at h
        refine tc_iconst (v := 0) (by decide) dX5_join_44 ?_
        exact sb_X5_join_45 hW r ur _ ih v0 v1 v2 v3 (tc_p G v0 2) v3 0 u21 iv0 iv1 (hW.p iv0 2 rfl) h
      · rw [if_neg hc22] at h
        refine tc_iconst (v := 1) (by decide) dX5_join_40 ?_
        refine tc_goto 45 dX5_join_41 (by decide) ?_
        exact sb_X5_join_45 hW r ur _ ih v0 v1 v2 v3 (tc_p G v0 2) v3 1 u21 iv0 iv1 (hW.p iv0 2 rfl) h
set_option maxRecDepth 100000 in
set_option maxHeartbeats 4000000 in
theorem ct_X5_join {l : Launch} {z : Nat} {D : tc_D} {G : tc_G} (hW : tc_W G) {v0 : Nat} {v1 : Nat} {u : tc_S} {r : Int32} {ur : tc_S} (iv0 : tc_is G v0 5) (iv1 : tc_is G v1 9) (h : fn_X5_join G v0 v1 u = some (r, ur)) : tc_C l z D yX5_join cX5_join 5 (some .int) 1 24 0 0 [.ref (z + v0), .ref (z + v1)] G u (tc_po r G ur) := by
  unfold fn_X5_join at h
  refine tc_C.of (by decide) (Nat.le_of_ble_eq_true rfl) fun p e s m args below meth c => ?_
  show tc_R p l e { frames := 1, cells := 0, slots := 0, locals := 24 } s m args below meth c z D cX5_join RX5 5 (some .int) 0 0 (tc_po r G ur) 0 0 G u 0 [(0, .ref (z + v0)), (1, .ref (z + v1))] []
  refine tc_aload_n 1 rfl dX5_join_0 ?_
  refine tc_getp hW iv1 fl_X5_21 dX5_join_1 rfl ?_
  refine tc_geti (hW.p iv1 0 rfl).1 fl_X5_27 dX5_join_4 ?_
  obtain ⟨x23, ex23, h⟩ := tc_let_ex h
  refine tc_nm ex23 ?_
  refine tc_istore_n [(2, .int x23), (0, .ref (z + v0)), (1, .ref (z + v1))] dX5_join_7 (by decide) rfl ?_
  refine tc_iconst (v := 0) (by decide) dX5_join_8 ?_
  refine tc_istore_n [(3, .int 0), (2, .int x23), (0, .ref (z + v0)), (1, .ref (z + v1))] dX5_join_9 (by decide) rfl ?_
  refine tc_lvs [2, 3, 1, 0] rfl ?_
  exact sl_X5_join_10 hW r ur  _ v0 v1 x23 0 u iv0 iv1 h
set_option maxRecDepth 100000 in
set_option maxHeartbeats 4000000 in
theorem sb_X5_bits_28 {p : Program} {l : Launch} {e : Env} {s : State} {m : MethodId} {args : Array Value} {below : List Frame} {meth : Method} {c : Code} {z : Nat} {D : tc_D} {G : tc_G} (hW : tc_W G) (r : Int32) (ur : tc_S) (K4 : Nat → Int32 → Int32 → Int32 → tc_S → Option (Int32 × tc_S)) (hK4 : ∀ (v0 : Nat) (v1 : Int32) (v2 : Int32) (v3 : Int32) (u : tc_S), tc_is G v0 5 → K4 v0 v1 v2 v3 u = some (r, ur) → tc_R p l e { frames := 0, cells := 0, slots := 0, locals := 0 } s m args below meth c z D cX5_bits RX5 4 (some .int) 0 0 (tc_po r G ur) 0 0 G u 4 [(0, .ref (z + v0)), (1, .int v1), (2, .int v2), (3, .int v3)] []) (v0 : Nat) (v1 : Int32) (v3 : Int32) (s0 : Int32) (s1 : Int32) (u : tc_S) (iv0 : tc_is G v0 5) (h : bl_X5_bits_28 G K4 v0 v1 v3 s0 s1 u = some (r, ur)) : tc_R p l e { frames := 0, cells := 0, slots := 0, locals := 0 } s m args below meth c z D cX5_bits RX5 4 (some .int) 0 0 (tc_po r G ur) 0 0 G u 28 [(0, .ref (z + v0)), (1, .int v1), (3, .int v3)] [.int s1, .int s0] := by
  unfold bl_X5_bits_28 at h
  refine tc_ior dX5_bits_28 ?_
  obtain ⟨x1, ex1, h⟩ := tc_let_ex h
  refine tc_nm ex1 ?_
  refine tc_istore_n [(2, .int x1), (0, .ref (z + v0)), (1, .int v1), (3, .int v3)] dX5_bits_29 (by decide) rfl ?_
  obtain ⟨x2, ex2, h⟩ := tc_let_ex h
  refine tc_iinc 3 (v := x2) [(3, .int x2), (2, .int x1), (0, .ref (z + v0)), (1, .int v1)] dX5_bits_30 rfl (by rw [ex2]; rfl) (by decide) rfl ?_
  refine tc_goto 4 dX5_bits_33 (by decide) ?_
  refine tc_lvs [2, 3, 1, 0] rfl ?_
  exact hK4 v0 v1 x1 x2 u iv0 h
set_option maxRecDepth 100000 in
set_option maxHeartbeats 4000000 in
theorem sl_X5_bits_4 {p : Program} {l : Launch} {e : Env} {s : State} {m : MethodId} {args : Array Value} {below : List Frame} {meth : Method} {c : Code} {z : Nat} {D : tc_D} {G : tc_G} (hW : tc_W G) (r : Int32) (ur : tc_S) : ∀ (n : Nat) (v0 : Nat) (v1 : Int32) (v2 : Int32) (v3 : Int32) (u : tc_S) (iv0 : tc_is G v0 5) (h : lo_X5_bits_4 G n v0 v1 v2 v3 u = some (r, ur)), tc_R p l e { frames := 0, cells := 0, slots := 0, locals := 0 } s m args below meth c z D cX5_bits RX5 4 (some .int) 0 0 (tc_po r G ur) 0 0 G u 4 [(0, .ref (z + v0)), (1, .int v1), (2, .int v2), (3, .int v3)] [] := by
  intro n
  induction n with
  | zero => intro v0 v1 v2 v3 u iv0 h; cases h
  | succ n ih =>
    intro v0 v1 v2 v3 u iv0 h
    rw [lo_X5_bits_4] at h
    refine tc_iload_n 3 rfl dX5_bits_4 ?_
    refine tc_bipush (v := 16) (by decide) dX5_bits_5 ?_
    refine tc_icmp_ge 36 dX5_bits_7 (by decide) (fun hc3 => ?_) (fun hc3 => ?_)
    · rw [if_pos hc3] at h
      refine tc_iload_n 2 rfl dX5_bits_36 ?_
      cases h
      exact tc_ireturn rfl dX5_bits_37 rfl rfl ⟨rfl, rfl, rfl⟩
    · rw [if_neg hc3] at h
      refine tc_iload_n 2 rfl dX5_bits_10 ?_
      refine tc_aload_n 0 rfl dX5_bits_11 ?_
      refine tc_getp hW iv0 fl_X5_9 dX5_bits_12 rfl ?_
      refine tc_iload_n 3 rfl dX5_bits_15 ?_
      obtain ⟨bx4, x4, ex4, h⟩ := tc_ld_ex h
      refine tc_iald (hW.p iv0 0 rfl).1 bx4 dX5_bits_16 ?_
      refine tc_nm ex4 ?_
      refine tc_iload_n 1 rfl dX5_bits_17 ?_
      refine tc_icmp_ne 27 dX5_bits_18 (by decide) (fun hc5 => ?_) (fun hc5 => ?_)
      · rw [if_neg hc5] at h
        refine tc_iconst (v := 0) (by decide) dX5_bits_27 ?_
        refine tc_lvs [0, 1, 3] rfl ?_
        exact sb_X5_bits_28 hW r ur _ ih v0 v1 v3 v2 0 u iv0 h
      · rw [if_pos hc5] at h
        refine tc_iconst (v := 1) (by decide) dX5_bits_21 ?_
        refine tc_iload_n 3 rfl dX5_bits_22 ?_
        refine tc_ishl dX5_bits_23 ?_
        refine tc_goto 28 dX5_bits_24 (by decide) ?_
        refine tc_lvs [0, 1, 3] rfl ?_
        exact sb_X5_bits_28 hW r ur _ ih v0 v1 v3 v2 (1 <<< (v3 &&& 31)) u iv0 h
set_option maxRecDepth 100000 in
set_option maxHeartbeats 4000000 in
theorem ct_X5_bits {l : Launch} {z : Nat} {D : tc_D} {G : tc_G} (hW : tc_W G) {v0 : Nat} {v1 : Int32} {u : tc_S} {r : Int32} {ur : tc_S} (iv0 : tc_is G v0 5) (h : fn_X5_bits G v0 v1 u = some (r, ur)) : tc_C l z D yX5_bits cX5_bits 4 (some .int) 0 0 0 0 [.ref (z + v0), .int v1] G u (tc_po r G ur) := by
  unfold fn_X5_bits at h
  refine tc_C.of (by decide) (Nat.le_of_ble_eq_true rfl) fun p e s m args below meth c => ?_
  show tc_R p l e { frames := 0, cells := 0, slots := 0, locals := 0 } s m args below meth c z D cX5_bits RX5 4 (some .int) 0 0 (tc_po r G ur) 0 0 G u 0 [(0, .ref (z + v0)), (1, .int v1)] []
  refine tc_iconst (v := 0) (by decide) dX5_bits_0 ?_
  refine tc_istore_n [(2, .int 0), (0, .ref (z + v0)), (1, .int v1)] dX5_bits_1 (by decide) rfl ?_
  refine tc_iconst (v := 0) (by decide) dX5_bits_2 ?_
  refine tc_istore_n [(3, .int 0), (2, .int 0), (0, .ref (z + v0)), (1, .int v1)] dX5_bits_3 (by decide) rfl ?_
  refine tc_lvs [2, 3, 1, 0] rfl ?_
  exact sl_X5_bits_4 hW r ur  _ v0 v1 0 0 u iv0 h
set_option maxRecDepth 100000 in
set_option maxHeartbeats 4000000 in
theorem sb_X5_entriesIn_40 {p : Program} {l : Launch} {e : Env} {s : State} {m : MethodId} {args : Array Value} {below : List Frame} {meth : Method} {c : Code} {z : Nat} {D : tc_D} {G : tc_G} (hW : tc_W G) (r : Int32) (ur : tc_S) (K5 : Nat → Nat → Int32 → Int32 → Int32 → tc_S → Option (Int32 × tc_S)) (hK5 : ∀ (v0 : Nat) (v1 : Nat) (v2 : Int32) (v3 : Int32) (v4 : Int32) (u : tc_S), tc_is G v0 5 → tc_is G v1 9 → K5 v0 v1 v2 v3 v4 u = some (r, ur) → tc_R p l e { frames := 0, cells := 0, slots := 0, locals := 0 } s m args below meth c z D cX5_entriesIn RX5 5 (some .int) 0 0 (tc_po r G ur) 0 0 G u 5 [(0, .ref (z + v0)), (1, .ref (z + v1)), (2, .int v2), (3, .int v3), (4, .int v4)] []) (v0 : Nat) (v1 : Nat) (v2 : Int32) (v4 : Int32) (s0 : Int32) (s1 : Int32) (u : tc_S) (iv0 : tc_is G v0 5) (iv1 : tc_is G v1 9) (h : bl_X5_entriesIn_40 G K5 v0 v1 v2 v4 s0 s1 u = some (r, ur)) : tc_R p l e { frames := 0, cells := 0, slots := 0, locals := 0 } s m args below meth c z D cX5_entriesIn RX5 5 (some .int) 0 0 (tc_po r G ur) 0 0 G u 40 [(0, .ref (z + v0)), (1, .ref (z + v1)), (2, .int v2), (4, .int v4)] [.int s1, .int s0] := by
  unfold bl_X5_entriesIn_40 at h
  refine tc_iadd dX5_entriesIn_40 ?_
  obtain ⟨x1, ex1, h⟩ := tc_let_ex h
  refine tc_nm ex1 ?_
  refine tc_istore_n [(3, .int x1), (0, .ref (z + v0)), (1, .ref (z + v1)), (2, .int v2), (4, .int v4)] dX5_entriesIn_41 (by decide) rfl ?_
  obtain ⟨x2, ex2, h⟩ := tc_let_ex h
  refine tc_iinc 4 (v := x2) [(4, .int x2), (3, .int x1), (0, .ref (z + v0)), (1, .ref (z + v1)), (2, .int v2)] dX5_entriesIn_42 rfl (by rw [ex2]; rfl) (by decide) rfl ?_
  refine tc_goto 5 dX5_entriesIn_45 (by decide) ?_
  refine tc_lvs [2, 3, 4, 1, 0] rfl ?_
  exact hK5 v0 v1 v2 x1 x2 u iv0 iv1 h
set_option maxRecDepth 100000 in
set_option maxHeartbeats 4000000 in
theorem sl_X5_entriesIn_5 {p : Program} {l : Launch} {e : Env} {s : State} {m : MethodId} {args : Array Value} {below : List Frame} {meth : Method} {c : Code} {z : Nat} {D : tc_D} {G : tc_G} (hW : tc_W G) (r : Int32) (ur : tc_S) : ∀ (n : Nat) (v0 : Nat) (v1 : Nat) (v2 : Int32) (v3 : Int32) (v4 : Int32) (u : tc_S) (iv0 : tc_is G v0 5) (iv1 : tc_is G v1 9) (h : lo_X5_entriesIn_5 G n v0 v1 v2 v3 v4 u = some (r, ur)), tc_R p l e { frames := 0, cells := 0, slots := 0, locals := 0 } s m args below meth c z D cX5_entriesIn RX5 5 (some .int) 0 0 (tc_po r G ur) 0 0 G u 5 [(0, .ref (z + v0)), (1, .ref (z + v1)), (2, .int v2), (3, .int v3), (4, .int v4)] [] := by
  intro n
  induction n with
  | zero => intro v0 v1 v2 v3 v4 u iv0 iv1 h; cases h
  | succ n ih =>
    intro v0 v1 v2 v3 v4 u iv0 iv1 h
    rw [lo_X5_entriesIn_5] at h
    refine tc_iload 4 rfl dX5_entriesIn_5 ?_
    refine tc_aload_n 1 rfl dX5_entriesIn_7 ?_
    refine tc_getp hW iv1 fl_X5_21 dX5_entriesIn_8 rfl ?_
    refine tc_geti (hW.p iv1 0 rfl).1 fl_X5_27 dX5_entriesIn_11 ?_
    refine tc_icmp_ge 48 dX5_entriesIn_14 (by decide) (fun hc3 => ?_) (fun hc3 => ?_)
    · rw [if_pos hc3] at h
      refine tc_iload_n 3 rfl dX5_entriesIn_48 ?_
      cases h
      exact tc_ireturn rfl dX5_entriesIn_49 rfl rfl ⟨rfl, rfl, rfl⟩
    · rw [if_neg hc3] at h
      refine tc_iload_n 3 rfl dX5_entriesIn_17 ?_
      refine tc_aload_n 0 rfl dX5_entriesIn_18 ?_
      refine tc_getp hW iv0 fl_X5_9 dX5_entriesIn_19 rfl ?_
      refine tc_iload 4 rfl dX5_entriesIn_22 ?_
      obtain ⟨bx4, x4, ex4, h⟩ := tc_ld_ex h
      refine tc_iald (hW.p iv0 0 rfl).1 bx4 dX5_entriesIn_24 ?_
      refine tc_nm ex4 ?_
      refine tc_iload_n 2 rfl dX5_entriesIn_25 ?_
      refine tc_icmp_ne 39 dX5_entriesIn_26 (by decide) (fun hc5 => ?_) (fun hc5 => ?_)
      · rw [if_neg hc5] at h
        refine tc_iconst (v := 0) (by decide) dX5_entriesIn_39 ?_
        refine tc_lvs [0, 1, 2, 4] rfl ?_
        exact sb_X5_entriesIn_40 hW r ur _ ih v0 v1 v2 v4 v3 0 u iv0 iv1 h
      · rw [if_pos hc5] at h
        refine tc_aload_n 1 rfl dX5_entriesIn_29 ?_
        refine tc_getp hW iv1 fl_X5_49 dX5_entriesIn_30 rfl ?_
        refine tc_iload 4 rfl dX5_entriesIn_33 ?_
        obtain ⟨bx6, x6, ex6, h⟩ := tc_ld_ex h
        refine tc_iald (hW.p iv1 9 rfl).1 bx6 dX5_entriesIn_35 ?_
        refine tc_nm ex6 ?_
        refine tc_goto 40 dX5_entriesIn_36 (by decide) ?_
        refine tc_lvs [0, 1, 2, 4] rfl ?_
        exact sb_X5_entriesIn_40 hW r ur _ ih v0 v1 v2 v4 v3 x6 u iv0 iv1 h
set_option maxRecDepth 100000 in
set_option maxHeartbeats 4000000 in
theorem ct_X5_entriesIn {l : Launch} {z : Nat} {D : tc_D} {G : tc_G} (hW : tc_W G) {v0 : Nat} {v1 : Nat} {v2 : Int32} {u : tc_S} {r : Int32} {ur : tc_S} (iv0 : tc_is G v0 5) (iv1 : tc_is G v1 9) (h : fn_X5_entriesIn G v0 v1 v2 u = some (r, ur)) : tc_C l z D yX5_entriesIn cX5_entriesIn 5 (some .int) 0 0 0 0 [.ref (z + v0), .ref (z + v1), .int v2] G u (tc_po r G ur) := by
  unfold fn_X5_entriesIn at h
  refine tc_C.of (by decide) (Nat.le_of_ble_eq_true rfl) fun p e s m args below meth c => ?_
  show tc_R p l e { frames := 0, cells := 0, slots := 0, locals := 0 } s m args below meth c z D cX5_entriesIn RX5 5 (some .int) 0 0 (tc_po r G ur) 0 0 G u 0 [(0, .ref (z + v0)), (1, .ref (z + v1)), (2, .int v2)] []
  refine tc_iconst (v := 0) (by decide) dX5_entriesIn_0 ?_
  refine tc_istore_n [(3, .int 0), (0, .ref (z + v0)), (1, .ref (z + v1)), (2, .int v2)] dX5_entriesIn_1 (by decide) rfl ?_
  refine tc_iconst (v := 0) (by decide) dX5_entriesIn_2 ?_
  refine tc_istore [(4, .int 0), (3, .int 0), (0, .ref (z + v0)), (1, .ref (z + v1)), (2, .int v2)] dX5_entriesIn_3 (by decide) rfl ?_
  refine tc_lvs [2, 3, 4, 1, 0] rfl ?_
  exact sl_X5_entriesIn_5 hW r ur  _ v0 v1 v2 0 0 u iv0 iv1 h
set_option maxRecDepth 100000 in
set_option maxHeartbeats 4000000 in
theorem sb_X5_kindOf_37 {p : Program} {l : Launch} {e : Env} {s : State} {m : MethodId} {args : Array Value} {below : List Frame} {meth : Method} {c : Code} {z : Nat} {D : tc_D} {G : tc_G} (hW : tc_W G) (r : Int32) (ur : tc_S) (s0 : Int32) (u : tc_S) (h : bl_X5_kindOf_37 G s0 u = some (r, ur)) : tc_R p l e { frames := 0, cells := 0, slots := 0, locals := 0 } s m args below meth c z D cX5_kindOf RX5 2 (some .int) 0 0 (tc_po r G ur) 0 0 G u 37 [] [.int s0] := by
  unfold bl_X5_kindOf_37 at h
  cases h
  exact tc_ireturn rfl dX5_kindOf_37 rfl rfl ⟨rfl, rfl, rfl⟩
set_option maxRecDepth 100000 in
set_option maxHeartbeats 4000000 in
theorem ct_X5_kindOf {l : Launch} {z : Nat} {D : tc_D} {G : tc_G} (hW : tc_W G) {v0 : Nat} {v1 : Int32} {u : tc_S} {r : Int32} {ur : tc_S} (iv0 : tc_is G v0 5) (h : fn_X5_kindOf G v0 v1 u = some (r, ur)) : tc_C l z D yX5_kindOf cX5_kindOf 2 (some .int) 0 0 0 0 [.ref (z + v0), .int v1] G u (tc_po r G ur) := by
  unfold fn_X5_kindOf at h
  refine tc_C.of (by decide) (Nat.le_of_ble_eq_true rfl) fun p e s m args below meth c => ?_
  show tc_R p l e { frames := 0, cells := 0, slots := 0, locals := 0 } s m args below meth c z D cX5_kindOf RX5 2 (some .int) 0 0 (tc_po r G ur) 0 0 G u 0 [(0, .ref (z + v0)), (1, .int v1)] []
  refine tc_aload_n 0 rfl dX5_kindOf_0 ?_
  refine tc_getp hW iv0 fl_X5_15 dX5_kindOf_1 rfl ?_
  refine tc_iload_n 1 rfl dX5_kindOf_4 ?_
  obtain ⟨bx1, x1, ex1, h⟩ := tc_ld_ex h
  refine tc_iald (hW.p iv0 1 rfl).1 bx1 dX5_kindOf_5 ?_
  refine tc_nm ex1 ?_
  refine tc_aload_n 0 rfl dX5_kindOf_6 ?_
  refine tc_getp hW iv0 fl_X5_18 dX5_kindOf_7 rfl ?_
  refine tc_iload_n 1 rfl dX5_kindOf_10 ?_
  obtain ⟨bx2, x2, ex2, h⟩ := tc_ld_ex h
  refine tc_iald (hW.p iv0 2 rfl).1 bx2 dX5_kindOf_11 ?_
  refine tc_nm ex2 ?_
  refine tc_icmp_ge 17 dX5_kindOf_12 (by decide) (fun hc3 => ?_) (fun hc3 => ?_)
  · rw [if_pos hc3] at h
    refine tc_aload_n 0 rfl dX5_kindOf_17 ?_
    refine tc_getp hW iv0 fl_X5_15 dX5_kindOf_18 rfl ?_
    refine tc_iload_n 1 rfl dX5_kindOf_21 ?_
    obtain ⟨bx4, x4, ex4, h⟩ := tc_ld_ex h
    refine tc_iald (hW.p iv0 1 rfl).1 bx4 dX5_kindOf_22 ?_
    refine tc_nm ex4 ?_
    refine tc_aload_n 0 rfl dX5_kindOf_23 ?_
    refine tc_getp hW iv0 fl_X5_18 dX5_kindOf_24 rfl ?_
    refine tc_iload_n 1 rfl dX5_kindOf_27 ?_
    obtain ⟨bx5, x5, ex5, h⟩ := tc_ld_ex h
    refine tc_iald (hW.p iv0 2 rfl).1 bx5 dX5_kindOf_28 ?_
    refine tc_nm ex5 ?_
    refine tc_icmp_ne 36 dX5_kindOf_29 (by decide) (fun hc6 => ?_) (fun hc6 => ?_)
    · rw [if_neg hc6] at h
      refine tc_iconst (v := 2) (by decide) dX5_kindOf_36 ?_
      refine tc_lvs [] rfl ?_
      exact sb_X5_kindOf_37 hW r ur  2 u  h
    · rw [if_pos hc6] at h
      refine tc_iconst (v := 1) (by decide) dX5_kindOf_32 ?_
      refine tc_goto 37 dX5_kindOf_33 (by decide) ?_
      refine tc_lvs [] rfl ?_
      exact sb_X5_kindOf_37 hW r ur  1 u  h
  · rw [if_neg hc3] at h
    refine tc_iconst (v := 0) (by decide) dX5_kindOf_15 ?_
    cases h
    exact tc_ireturn rfl dX5_kindOf_16 rfl rfl ⟨rfl, rfl, rfl⟩
set_option maxRecDepth 100000 in
set_option maxHeartbeats 4000000 in
theorem sb_X5_tangled_34 {p : Program} {l : Launch} {e : Env} {s : State} {m : MethodId} {args : Array Value} {below : List Frame} {meth : Method} {c : Code} {z : Nat} {D : tc_D} {G : tc_G} (hW : tc_W G) (r : Int32) (ur : tc_S) (K4 : Nat → Int32 → Int32 → Int32 → tc_S → Option (Int32 × tc_S)) (hK4 : ∀ (v0 : Nat) (v1 : Int32) (v2 : Int32) (v3 : Int32) (u : tc_S), tc_is G v0 5 → K4 v0 v1 v2 v3 u = some (r, ur) → tc_R p l e { frames := 1, cells := 0, slots := 0, locals := 21 } s m args below meth c z D cX5_tangled RX5 4 (some .int) 0 0 (tc_po r G ur) 0 0 G u 4 [(0, .ref (z + v0)), (1, .int v1), (2, .int v2), (3, .int v3)] []) (v0 : Nat) (v1 : Int32) (v3 : Int32) (s0 : Int32) (s1 : Int32) (u : tc_S) (iv0 : tc_is G v0 5) (h : bl_X5_tangled_34 G K4 v0 v1 v3 s0 s1 u = some (r, ur)) : tc_R p l e { frames := 1, cells := 0, slots := 0, locals := 21 } s m args below meth c z D cX5_tangled RX5 4 (some .int) 0 0 (tc_po r G ur) 0 0 G u 34 [(0, .ref (z + v0)), (1, .int v1), (3, .int v3)] [.int s1, .int s0] := by
  unfold bl_X5_tangled_34 at h
  refine tc_iadd dX5_tangled_34 ?_
  obtain ⟨x1, ex1, h⟩ := tc_let_ex h
  refine tc_nm ex1 ?_
  refine tc_istore_n [(2, .int x1), (0, .ref (z + v0)), (1, .int v1), (3, .int v3)] dX5_tangled_35 (by decide) rfl ?_
  obtain ⟨x2, ex2, h⟩ := tc_let_ex h
  refine tc_iinc 3 (v := x2) [(3, .int x2), (2, .int x1), (0, .ref (z + v0)), (1, .int v1)] dX5_tangled_36 rfl (by rw [ex2]; rfl) (by decide) rfl ?_
  refine tc_goto 4 dX5_tangled_39 (by decide) ?_
  refine tc_lvs [2, 3, 1, 0] rfl ?_
  exact hK4 v0 v1 x1 x2 u iv0 h
set_option maxRecDepth 100000 in
set_option maxHeartbeats 4000000 in
theorem sb_X5_tangled_33 {p : Program} {l : Launch} {e : Env} {s : State} {m : MethodId} {args : Array Value} {below : List Frame} {meth : Method} {c : Code} {z : Nat} {D : tc_D} {G : tc_G} (hW : tc_W G) (r : Int32) (ur : tc_S) (K4 : Nat → Int32 → Int32 → Int32 → tc_S → Option (Int32 × tc_S)) (hK4 : ∀ (v0 : Nat) (v1 : Int32) (v2 : Int32) (v3 : Int32) (u : tc_S), tc_is G v0 5 → K4 v0 v1 v2 v3 u = some (r, ur) → tc_R p l e { frames := 1, cells := 0, slots := 0, locals := 21 } s m args below meth c z D cX5_tangled RX5 4 (some .int) 0 0 (tc_po r G ur) 0 0 G u 4 [(0, .ref (z + v0)), (1, .int v1), (2, .int v2), (3, .int v3)] []) (v0 : Nat) (v1 : Int32) (v3 : Int32) (s0 : Int32) (u : tc_S) (iv0 : tc_is G v0 5) (h : bl_X5_tangled_33 G K4 v0 v1 v3 s0 u = some (r, ur)) : tc_R p l e { frames := 1, cells := 0, slots := 0, locals := 21 } s m args below meth c z D cX5_tangled RX5 4 (some .int) 0 0 (tc_po r G ur) 0 0 G u 33 [(0, .ref (z + v0)), (1, .int v1), (3, .int v3)] [.int s0] := by
  unfold bl_X5_tangled_33 at h
  refine tc_iconst (v := 0) (by decide) dX5_tangled_33 ?_
  exact sb_X5_tangled_34 hW r ur K4 hK4 v0 v1 v3 s0 0 u iv0 h
set_option maxRecDepth 100000 in
set_option maxHeartbeats 4000000 in
theorem sl_X5_tangled_4 {p : Program} {l : Launch} {e : Env} {s : State} {m : MethodId} {args : Array Value} {below : List Frame} {meth : Method} {c : Code} {z : Nat} {D : tc_D} {G : tc_G} (hW : tc_W G) (r : Int32) (ur : tc_S) : ∀ (n : Nat) (v0 : Nat) (v1 : Int32) (v2 : Int32) (v3 : Int32) (u : tc_S) (iv0 : tc_is G v0 5) (h : lo_X5_tangled_4 G n v0 v1 v2 v3 u = some (r, ur)), tc_R p l e { frames := 1, cells := 0, slots := 0, locals := 21 } s m args below meth c z D cX5_tangled RX5 4 (some .int) 0 0 (tc_po r G ur) 0 0 G u 4 [(0, .ref (z + v0)), (1, .int v1), (2, .int v2), (3, .int v3)] [] := by
  intro n
  induction n with
  | zero => intro v0 v1 v2 v3 u iv0 h; cases h
  | succ n ih =>
    intro v0 v1 v2 v3 u iv0 h
    rw [lo_X5_tangled_4] at h
    refine tc_iload_n 3 rfl dX5_tangled_4 ?_
    refine tc_iload_n 1 rfl dX5_tangled_5 ?_
    refine tc_icmp_ge 42 dX5_tangled_6 (by decide) (fun hc3 => ?_) (fun hc3 => ?_)
    · rw [if_pos hc3] at h
      refine tc_iload_n 2 rfl dX5_tangled_42 ?_
      cases h
      exact tc_ireturn rfl dX5_tangled_43 rfl rfl ⟨rfl, rfl, rfl⟩
    · rw [if_neg hc3] at h
      refine tc_iload_n 2 rfl dX5_tangled_9 ?_
      refine tc_aload_n 0 rfl dX5_tangled_10 ?_
      refine tc_getp hW iv0 fl_X5_9 dX5_tangled_11 rfl ?_
      refine tc_iload_n 3 rfl dX5_tangled_14 ?_
      obtain ⟨bx4, x4, ex4, h⟩ := tc_ld_ex h
      refine tc_iald (hW.p iv0 0 rfl).1 bx4 dX5_tangled_15 ?_
      refine tc_nm ex4 ?_
      refine tc_iload_n 3 rfl dX5_tangled_16 ?_
      refine tc_icmp_ne 33 dX5_tangled_17 (by decide) (fun hc5 => ?_) (fun hc5 => ?_)
      · rw [if_neg hc5] at h
        refine tc_lvs [0, 1, 3] rfl ?_
        exact sb_X5_tangled_33 hW r ur _ ih v0 v1 v3 v2 u iv0 h
      · rw [if_pos hc5] at h
        refine tc_aload_n 0 rfl dX5_tangled_20 ?_
        refine tc_iload_n 3 rfl dX5_tangled_21 ?_
        obtain ⟨x6, u7, hq8, h⟩ := tc_b_ex h
        refine tc_callVi [.int v3] dX5_tangled_22 iv0.1 (ct_X5_kindOf hW iv0 hq8) ml_X5_52 mw_X5_kindOf mv_X5_kindOf ⟨Nat.le_of_ble_eq_true rfl, Nat.le_of_ble_eq_true rfl⟩ rfl rfl (Nat.le_of_ble_eq_true rfl) ⟨Nat.le_refl _, Nat.le_refl _⟩ (by decide) ?_
        refine tc_iconst (v := 2) (by decide) dX5_tangled_25 ?_
        refine tc_icmp_ne 33 dX5_tangled_26 (by decide) (fun hc9 => ?_) (fun hc9 => ?_)
        · rw [if_neg hc9] at h
          refine tc_lvs [0, 1, 3] rfl ?_
          exact sb_X5_tangled_33 hW r ur _ ih v0 v1 v3 v2 u7 iv0 h
        · rw [if_pos hc9] at h
          refine tc_iconst (v := 1) (by decide) dX5_tangled_29 ?_
          refine tc_goto 34 dX5_tangled_30 (by decide) ?_
          refine tc_lvs [0, 1, 3] rfl ?_
          exact sb_X5_tangled_34 hW r ur _ ih v0 v1 v3 v2 1 u7 iv0 h
set_option maxRecDepth 100000 in
set_option maxHeartbeats 4000000 in
theorem ct_X5_tangled {l : Launch} {z : Nat} {D : tc_D} {G : tc_G} (hW : tc_W G) {v0 : Nat} {v1 : Int32} {u : tc_S} {r : Int32} {ur : tc_S} (iv0 : tc_is G v0 5) (h : fn_X5_tangled G v0 v1 u = some (r, ur)) : tc_C l z D yX5_tangled cX5_tangled 4 (some .int) 1 21 0 0 [.ref (z + v0), .int v1] G u (tc_po r G ur) := by
  unfold fn_X5_tangled at h
  refine tc_C.of (by decide) (Nat.le_of_ble_eq_true rfl) fun p e s m args below meth c => ?_
  show tc_R p l e { frames := 1, cells := 0, slots := 0, locals := 21 } s m args below meth c z D cX5_tangled RX5 4 (some .int) 0 0 (tc_po r G ur) 0 0 G u 0 [(0, .ref (z + v0)), (1, .int v1)] []
  refine tc_iconst (v := 0) (by decide) dX5_tangled_0 ?_
  refine tc_istore_n [(2, .int 0), (0, .ref (z + v0)), (1, .int v1)] dX5_tangled_1 (by decide) rfl ?_
  refine tc_iconst (v := 0) (by decide) dX5_tangled_2 ?_
  refine tc_istore_n [(3, .int 0), (2, .int 0), (0, .ref (z + v0)), (1, .int v1)] dX5_tangled_3 (by decide) rfl ?_
  refine tc_lvs [2, 3, 1, 0] rfl ?_
  exact sl_X5_tangled_4 hW r ur  _ v0 v1 0 0 u iv0 h
set_option maxRecDepth 100000 in
set_option maxHeartbeats 4000000 in
theorem sb_X6_isDigit_17 {p : Program} {l : Launch} {e : Env} {s : State} {m : MethodId} {args : Array Value} {below : List Frame} {meth : Method} {c : Code} {z : Nat} {D : tc_D} {G : tc_G} (hW : tc_W G) (r : Int32) (ur : tc_S) (s0 : Int32) (u : tc_S) (h : bl_X6_isDigit_17 G s0 u = some (r, ur)) : tc_R p l e { frames := 0, cells := 0, slots := 0, locals := 0 } s m args below meth c z D cX6_isDigit RX6 1 (some .boolean) 0 0 (tc_po r G ur) 0 0 G u 17 [] [.int s0] := by
  unfold bl_X6_isDigit_17 at h
  obtain ⟨hz1, h⟩ := tc_zo_ex h
  cases h
  exact tc_zreturn hz1 rfl dX6_isDigit_17 rfl rfl ⟨rfl, rfl, rfl⟩
set_option maxRecDepth 100000 in
set_option maxHeartbeats 4000000 in
theorem sb_X6_isDigit_16 {p : Program} {l : Launch} {e : Env} {s : State} {m : MethodId} {args : Array Value} {below : List Frame} {meth : Method} {c : Code} {z : Nat} {D : tc_D} {G : tc_G} (hW : tc_W G) (r : Int32) (ur : tc_S) (u : tc_S) (h : bl_X6_isDigit_16 G  u = some (r, ur)) : tc_R p l e { frames := 0, cells := 0, slots := 0, locals := 0 } s m args below meth c z D cX6_isDigit RX6 1 (some .boolean) 0 0 (tc_po r G ur) 0 0 G u 16 [] [] := by
  unfold bl_X6_isDigit_16 at h
  refine tc_iconst (v := 0) (by decide) dX6_isDigit_16 ?_
  exact sb_X6_isDigit_17 hW r ur  0 u  h
set_option maxRecDepth 100000 in
set_option maxHeartbeats 4000000 in
theorem ct_X6_isDigit {l : Launch} {z : Nat} {D : tc_D} {G : tc_G} (hW : tc_W G) {v0 : Int32} {u : tc_S} {r : Int32} {ur : tc_S} (h : fn_X6_isDigit G v0 u = some (r, ur)) : tc_C l z D yX6_isDigit cX6_isDigit 1 (some .boolean) 0 0 0 0 [.int v0] G u (tc_po r G ur) := by
  unfold fn_X6_isDigit at h
  refine tc_C.of (by decide) (Nat.le_of_ble_eq_true rfl) fun p e s m args below meth c => ?_
  show tc_R p l e { frames := 0, cells := 0, slots := 0, locals := 0 } s m args below meth c z D cX6_isDigit RX6 1 (some .boolean) 0 0 (tc_po r G ur) 0 0 G u 0 [(0, .int v0)] []
  refine tc_iload_n 0 rfl dX6_isDigit_0 ?_
  refine tc_bipush (v := 48) (by decide) dX6_isDigit_1 ?_
  refine tc_icmp_lt 16 dX6_isDigit_3 (by decide) (fun hc2 => ?_) (fun hc2 => ?_)
  · rw [if_pos hc2] at h
    refine tc_lvs [] rfl ?_
    exact sb_X6_isDigit_16 hW r ur   u  h
  · rw [if_neg hc2] at h
    refine tc_iload_n 0 rfl dX6_isDigit_6 ?_
    refine tc_bipush (v := 57) (by decide) dX6_isDigit_7 ?_
    refine tc_icmp_gt 16 dX6_isDigit_9 (by decide) (fun hc3 => ?_) (fun hc3 => ?_)
    · rw [if_pos hc3] at h
      refine tc_lvs [] rfl ?_
      exact sb_X6_isDigit_16 hW r ur   u  h
    · rw [if_neg hc3] at h
      refine tc_iconst (v := 1) (by decide) dX6_isDigit_12 ?_
      refine tc_goto 17 dX6_isDigit_13 (by decide) ?_
      refine tc_lvs [] rfl ?_
      exact sb_X6_isDigit_17 hW r ur  1 u  h
set_option maxRecDepth 100000 in
set_option maxHeartbeats 4000000 in
theorem sb_X6_stepOverDigits_100 {p : Program} {l : Launch} {e : Env} {s : State} {m : MethodId} {args : Array Value} {below : List Frame} {meth : Method} {c : Code} {z : Nat} {D : tc_D} {G : tc_G} (hW : tc_W G) (r : Int32) (ur : tc_S) (s0 : Nat) (s1 : Int32) (u : tc_S) (is0 : tc_is G s0 6) (h : bl_X6_stepOverDigits_100 G s0 s1 u = some (r, ur)) : tc_R p l e { frames := 1, cells := 0, slots := 0, locals := 20 } s m args below meth c z D cX6_stepOverDigits RX6 2 none 0 0 (tc_pv G ur) 0 0 G u 100 [] [.int s1, .ref (z + s0)] := by
  unfold bl_X6_stepOverDigits_100 at h
  obtain ⟨u1, eu1, h⟩ := tc_let_ex h
  refine tc_puti is0.1 fl_X6_60 dX6_stepOverDigits_100 ?_
  refine tc_nmu eu1 ?_
  cases h
  exact tc_return rfl dX6_stepOverDigits_103 rfl rfl ⟨rfl, rfl, rfl⟩
set_option maxRecDepth 100000 in
set_option maxHeartbeats 4000000 in
theorem sb_X6_stepOverDigits_76 {p : Program} {l : Launch} {e : Env} {s : State} {m : MethodId} {args : Array Value} {below : List Frame} {meth : Method} {c : Code} {z : Nat} {D : tc_D} {G : tc_G} (hW : tc_W G) (r : Int32) (ur : tc_S) (v0 : Nat) (v1 : Int32) (u : tc_S) (iv0 : tc_is G v0 6) (h : bl_X6_stepOverDigits_76 G v0 v1 u = some (r, ur)) : tc_R p l e { frames := 1, cells := 0, slots := 0, locals := 20 } s m args below meth c z D cX6_stepOverDigits RX6 2 none 0 0 (tc_pv G ur) 0 0 G u 76 [(0, .ref (z + v0)), (1, .int v1)] [] := by
  unfold bl_X6_stepOverDigits_76 at h
  refine tc_aload_n 0 rfl dX6_stepOverDigits_76 ?_
  refine tc_iload_n 1 rfl dX6_stepOverDigits_77 ?_
  obtain ⟨u2, eu2, h⟩ := tc_let_ex h
  refine tc_puti iv0.1 fl_X6_170 dX6_stepOverDigits_78 ?_
  refine tc_nmu eu2 ?_
  refine tc_aload_n 0 rfl dX6_stepOverDigits_81 ?_
  refine tc_aload_n 0 rfl dX6_stepOverDigits_82 ?_
  refine tc_geti iv0.1 fl_X6_54 dX6_stepOverDigits_83 ?_
  refine tc_aload_n 0 rfl dX6_stepOverDigits_86 ?_
  refine tc_geti iv0.1 fl_X6_163 dX6_stepOverDigits_87 ?_
  refine tc_isub dX6_stepOverDigits_90 ?_
  refine tc_iconst (v := 4) (by decide) dX6_stepOverDigits_91 ?_
  refine tc_icmp_gt 99 dX6_stepOverDigits_92 (by decide) (fun hc3 => ?_) (fun hc3 => ?_)
  · rw [if_pos hc3] at h
    refine tc_iconst (v := 4) (by decide) dX6_stepOverDigits_99 ?_
    refine tc_lvs [] rfl ?_
    exact sb_X6_stepOverDigits_100 hW r ur  v0 4 u2 iv0 h
  · rw [if_neg hc3] at h
    refine tc_iconst (v := 2) (by decide) dX6_stepOverDigits_95 ?_
    refine tc_goto 100 dX6_stepOverDigits_96 (by decide) ?_
    refine tc_lvs [] rfl ?_
    exact sb_X6_stepOverDigits_100 hW r ur  v0 2 u2 iv0 h
set_option maxRecDepth 100000 in
set_option maxHeartbeats 4000000 in
theorem sb_X6_stepOverDigits_62 {p : Program} {l : Launch} {e : Env} {s : State} {m : MethodId} {args : Array Value} {below : List Frame} {meth : Method} {c : Code} {z : Nat} {D : tc_D} {G : tc_G} (hW : tc_W G) (r : Int32) (ur : tc_S) (K2 : Nat → Int32 → tc_S → Option (Int32 × tc_S)) (hK2 : ∀ (v0 : Nat) (v1 : Int32) (u : tc_S), tc_is G v0 6 → K2 v0 v1 u = some (r, ur) → tc_R p l e { frames := 1, cells := 0, slots := 0, locals := 20 } s m args below meth c z D cX6_stepOverDigits RX6 2 none 0 0 (tc_pv G ur) 0 0 G u 2 [(0, .ref (z + v0)), (1, .int v1)] []) (v0 : Nat) (s0 : Int32) (u : tc_S) (iv0 : tc_is G v0 6) (h : bl_X6_stepOverDigits_62 G K2 v0 s0 u = some (r, ur)) : tc_R p l e { frames := 1, cells := 0, slots := 0, locals := 20 } s m args below meth c z D cX6_stepOverDigits RX6 2 none 0 0 (tc_pv G ur) 0 0 G u 62 [(0, .ref (z + v0))] [.int s0] := by
  unfold bl_X6_stepOverDigits_62 at h
  refine tc_istore_n [(1, .int s0), (0, .ref (z + v0))] dX6_stepOverDigits_62 (by decide) rfl ?_
  refine tc_aload_n 1 rfl dX6_stepOverDigits_63 ?_
  refine tc_dup rfl dX6_stepOverDigits_64 ?_
  refine tc_geti iv0.1 fl_X6_54 dX6_stepOverDigits_65 ?_
  refine tc_iconst (v := 1) (by decide) dX6_stepOverDigits_68 ?_
  refine tc_iadd dX6_stepOverDigits_69 ?_
  obtain ⟨u4, eu4, h⟩ := tc_let_ex h
  refine tc_puti iv0.1 fl_X6_54 dX6_stepOverDigits_70 ?_
  refine tc_nmu eu4 ?_
  refine tc_goto 2 dX6_stepOverDigits_73 (by decide) ?_
  refine tc_lvs [1, 0] rfl ?_
  exact hK2 v0 s0 u4 iv0 h
set_option maxRecDepth 100000 in
set_option maxHeartbeats 4000000 in
theorem sl_X6_stepOverDigits_2 {p : Program} {l : Launch} {e : Env} {s : State} {m : MethodId} {args : Array Value} {below : List Frame} {meth : Method} {c : Code} {z : Nat} {D : tc_D} {G : tc_G} (hW : tc_W G) (r : Int32) (ur : tc_S) : ∀ (n : Nat) (v0 : Nat) (v1 : Int32) (u : tc_S) (iv0 : tc_is G v0 6) (h : lo_X6_stepOverDigits_2 G n v0 v1 u = some (r, ur)), tc_R p l e { frames := 1, cells := 0, slots := 0, locals := 20 } s m args below meth c z D cX6_stepOverDigits RX6 2 none 0 0 (tc_pv G ur) 0 0 G u 2 [(0, .ref (z + v0)), (1, .int v1)] [] := by
  intro n
  induction n with
  | zero => intro v0 v1 u iv0 h; cases h
  | succ n ih =>
    intro v0 v1 u iv0 h
    rw [lo_X6_stepOverDigits_2] at h
    refine tc_aload_n 0 rfl dX6_stepOverDigits_2 ?_
    refine tc_geti iv0.1 fl_X6_54 dX6_stepOverDigits_3 ?_
    refine tc_aload_n 0 rfl dX6_stepOverDigits_6 ?_
    refine tc_geti iv0.1 fl_X6_38 dX6_stepOverDigits_7 ?_
    refine tc_icmp_ge 76 dX6_stepOverDigits_10 (by decide) (fun hc5 => ?_) (fun hc5 => ?_)
    · rw [if_pos hc5] at h
      exact sb_X6_stepOverDigits_76 hW r ur  v0 v1 u iv0 h
    · rw [if_neg hc5] at h
      refine tc_aload_n 0 rfl dX6_stepOverDigits_13 ?_
      refine tc_getp hW iv0 fl_X6_28 dX6_stepOverDigits_14 rfl ?_
      refine tc_aload_n 0 rfl dX6_stepOverDigits_17 ?_
      refine tc_geti iv0.1 fl_X6_54 dX6_stepOverDigits_18 ?_
      obtain ⟨bx6, x6, ex6, h⟩ := tc_ld_ex h
      refine tc_bald (hW.p iv0 7 rfl).1 bx6 dX6_stepOverDigits_21 ?_
      refine tc_nm ex6 ?_
      obtain ⟨x7, u8, hq9, h⟩ := tc_b_ex h
      refine tc_callSi [.int x6] dX6_stepOverDigits_22 (ct_X6_isDigit hW hq9) ml_X6_173 mw_X6_isDigit ms_X6_isDigit ⟨Nat.le_of_ble_eq_true rfl, Nat.le_of_ble_eq_true rfl⟩ rfl rfl (Nat.le_of_ble_eq_true rfl) ⟨Nat.le_refl _, Nat.le_refl _⟩ ?_
      refine tc_if_eq 76 dX6_stepOverDigits_25 (by decide) (fun hc10 => ?_) (fun hc10 => ?_)
      · rw [if_pos hc10] at h
        exact sb_X6_stepOverDigits_76 hW r ur  v0 v1 u8 iv0 h
      · rw [if_neg hc10] at h
        refine tc_aload_n 0 rfl dX6_stepOverDigits_28 ?_
        refine tc_geti iv0.1 fl_X6_54 dX6_stepOverDigits_29 ?_
        refine tc_aload_n 0 rfl dX6_stepOverDigits_32 ?_
        refine tc_geti iv0.1 fl_X6_163 dX6_stepOverDigits_33 ?_
        refine tc_isub dX6_stepOverDigits_36 ?_
        refine tc_iconst (v := 4) (by decide) dX6_stepOverDigits_37 ?_
        refine tc_icmp_ge 61 dX6_stepOverDigits_38 (by decide) (fun hc11 => ?_) (fun hc11 => ?_)
        · rw [if_pos hc11] at h
          refine tc_iload_n 1 rfl dX6_stepOverDigits_61 ?_
          refine tc_lvs [0] rfl ?_
          exact sb_X6_stepOverDigits_62 hW r ur _ ih v0 v1 u8 iv0 h
        · rw [if_neg hc11] at h
          refine tc_bipush (v := 10) (by decide) dX6_stepOverDigits_41 ?_
          refine tc_iload_n 1 rfl dX6_stepOverDigits_43 ?_
          refine tc_imul dX6_stepOverDigits_44 ?_
          refine tc_aload_n 0 rfl dX6_stepOverDigits_45 ?_
          refine tc_getp hW iv0 fl_X6_28 dX6_stepOverDigits_46 rfl ?_
          refine tc_aload_n 0 rfl dX6_stepOverDigits_49 ?_
          refine tc_geti iv0.1 fl_X6_54 dX6_stepOverDigits_50 ?_
          obtain ⟨bx12, x12, ex12, h⟩ := tc_ld_ex h
          refine tc_bald (hW.p iv0 7 rfl).1 bx12 dX6_stepOverDigits_53 ?_
          refine tc_nm ex12 ?_
          refine tc_iadd dX6_stepOverDigits_54 ?_
          refine tc_bipush (v := 48) (by decide) dX6_stepOverDigits_55 ?_
          refine tc_isub dX6_stepOverDigits_57 ?_
          refine tc_goto 62 dX6_stepOverDigits_58 (by decide) ?_
          refine tc_lvs [0] rfl ?_
          exact sb_X6_stepOverDigits_62 hW r ur _ ih v0 (((10 * v1) + x12) - 48) u8 iv0 h
set_option maxRecDepth 100000 in
set_option maxHeartbeats 4000000 in
theorem ct_X6_stepOverDigits {l : Launch} {z : Nat} {D : tc_D} {G : tc_G} (hW : tc_W G) {v0 : Nat} {u : tc_S} {r : Int32} {ur : tc_S} (iv0 : tc_is G v0 6) (h : fn_X6_stepOverDigits G v0 u = some (r, ur)) : tc_C l z D yX6_stepOverDigits cX6_stepOverDigits 2 none 1 20 0 0 [.ref (z + v0)] G u (tc_pv G ur) := by
  unfold fn_X6_stepOverDigits at h
  refine tc_C.of (by decide) (Nat.le_of_ble_eq_true rfl) fun p e s m args below meth c => ?_
  show tc_R p l e { frames := 1, cells := 0, slots := 0, locals := 20 } s m args below meth c z D cX6_stepOverDigits RX6 2 none 0 0 (tc_pv G ur) 0 0 G u 0 [(0, .ref (z + v0))] []
  refine tc_iconst (v := 0) (by decide) dX6_stepOverDigits_0 ?_
  refine tc_istore_n [(1, .int 0), (0, .ref (z + v0))] dX6_stepOverDigits_1 (by decide) rfl ?_
  refine tc_lvs [1, 0] rfl ?_
  exact sl_X6_stepOverDigits_2 hW r ur  _ v0 0 u iv0 h
set_option maxRecDepth 100000 in
set_option maxHeartbeats 4000000 in
theorem sb_X6_step_205 {p : Program} {l : Launch} {e : Env} {s : State} {m : MethodId} {args : Array Value} {below : List Frame} {meth : Method} {c : Code} {z : Nat} {D : tc_D} {G : tc_G} (hW : tc_W G) (r : Int32) (ur : tc_S) (u : tc_S) (h : bl_X6_step_205 G  u = some (r, ur)) : tc_R p l e { frames := 2, cells := 0, slots := 0, locals := 41 } s m args below meth c z D cX6_step RX6 1 none 0 0 (tc_pv G ur) 0 0 G u 205 [] [] := by
  unfold bl_X6_step_205 at h
  cases h
  exact tc_return rfl dX6_step_205 rfl rfl ⟨rfl, rfl, rfl⟩
set_option maxRecDepth 100000 in
set_option maxHeartbeats 4000000 in
theorem sb_X6_step_202 {p : Program} {l : Launch} {e : Env} {s : State} {m : MethodId} {args : Array Value} {below : List Frame} {meth : Method} {c : Code} {z : Nat} {D : tc_D} {G : tc_G} (hW : tc_W G) (r : Int32) (ur : tc_S) (s0 : Nat) (s1 : Int32) (u : tc_S) (is0 : tc_is G s0 6) (h : bl_X6_step_202 G s0 s1 u = some (r, ur)) : tc_R p l e { frames := 2, cells := 0, slots := 0, locals := 41 } s m args below meth c z D cX6_step RX6 1 none 0 0 (tc_pv G ur) 0 0 G u 202 [] [.int s1, .ref (z + s0)] := by
  unfold bl_X6_step_202 at h
  obtain ⟨u1, eu1, h⟩ := tc_let_ex h
  refine tc_puti is0.1 fl_X6_60 dX6_step_202 ?_
  refine tc_nmu eu1 ?_
  exact sb_X6_step_205 hW r ur   u1  h
set_option maxRecDepth 100000 in
set_option maxHeartbeats 4000000 in
theorem sb_X6_step_185 {p : Program} {l : Launch} {e : Env} {s : State} {m : MethodId} {args : Array Value} {below : List Frame} {meth : Method} {c : Code} {z : Nat} {D : tc_D} {G : tc_G} (hW : tc_W G) (r : Int32) (ur : tc_S) (v0 : Nat) (u : tc_S) (iv0 : tc_is G v0 6) (h : bl_X6_step_185 G v0 u = some (r, ur)) : tc_R p l e { frames := 2, cells := 0, slots := 0, locals := 41 } s m args below meth c z D cX6_step RX6 1 none 0 0 (tc_pv G ur) 0 0 G u 185 [(0, .ref (z + v0))] [] := by
  unfold bl_X6_step_185 at h
  refine tc_aload_n 0 rfl dX6_step_185 ?_
  refine tc_aload_n 0 rfl dX6_step_186 ?_
  refine tc_geti iv0.1 fl_X6_54 dX6_step_187 ?_
  refine tc_aload_n 0 rfl dX6_step_190 ?_
  refine tc_geti iv0.1 fl_X6_163 dX6_step_191 ?_
  refine tc_icmp_le 201 dX6_step_194 (by decide) (fun hc2 => ?_) (fun hc2 => ?_)
  · rw [if_pos hc2] at h
    refine tc_iconst (v := 4) (by decide) dX6_step_201 ?_
    refine tc_lvs [] rfl ?_
    exact sb_X6_step_202 hW r ur  v0 4 u iv0 h
  · rw [if_neg hc2] at h
    refine tc_iconst (v := 1) (by decide) dX6_step_197 ?_
    refine tc_goto 202 dX6_step_198 (by decide) ?_
    refine tc_lvs [] rfl ?_
    exact sb_X6_step_202 hW r ur  v0 1 u iv0 h
set_option maxRecDepth 100000 in
set_option maxHeartbeats 4000000 in
theorem sl_X6_step_133 {p : Program} {l : Launch} {e : Env} {s : State} {m : MethodId} {args : Array Value} {below : List Frame} {meth : Method} {c : Code} {z : Nat} {D : tc_D} {G : tc_G} (hW : tc_W G) (r : Int32) (ur : tc_S) : ∀ (n : Nat) (v0 : Nat) (u : tc_S) (iv0 : tc_is G v0 6) (h : lo_X6_step_133 G n v0 u = some (r, ur)), tc_R p l e { frames := 2, cells := 0, slots := 0, locals := 41 } s m args below meth c z D cX6_step RX6 1 none 0 0 (tc_pv G ur) 0 0 G u 133 [(0, .ref (z + v0))] [] := by
  intro n
  induction n with
  | zero => intro v0 u iv0 h; cases h
  | succ n ih =>
    intro v0 u iv0 h
    rw [lo_X6_step_133] at h
    refine tc_aload_n 0 rfl dX6_step_133 ?_
    refine tc_geti iv0.1 fl_X6_54 dX6_step_134 ?_
    refine tc_aload_n 0 rfl dX6_step_137 ?_
    refine tc_geti iv0.1 fl_X6_38 dX6_step_138 ?_
    refine tc_icmp_ge 185 dX6_step_141 (by decide) (fun hc3 => ?_) (fun hc3 => ?_)
    · rw [if_pos hc3] at h
      exact sb_X6_step_185 hW r ur  v0 u iv0 h
    · rw [if_neg hc3] at h
      refine tc_aload_n 0 rfl dX6_step_144 ?_
      refine tc_getp hW iv0 fl_X6_28 dX6_step_145 rfl ?_
      refine tc_aload_n 0 rfl dX6_step_148 ?_
      refine tc_geti iv0.1 fl_X6_54 dX6_step_149 ?_
      obtain ⟨bx4, x4, ex4, h⟩ := tc_ld_ex h
      refine tc_bald (hW.p iv0 7 rfl).1 bx4 dX6_step_152 ?_
      refine tc_nm ex4 ?_
      refine tc_bipush (v := 97) (by decide) dX6_step_153 ?_
      refine tc_icmp_lt 185 dX6_step_155 (by decide) (fun hc5 => ?_) (fun hc5 => ?_)
      · rw [if_pos hc5] at h
        exact sb_X6_step_185 hW r ur  v0 u iv0 h
      · rw [if_neg hc5] at h
        refine tc_aload_n 0 rfl dX6_step_158 ?_
        refine tc_getp hW iv0 fl_X6_28 dX6_step_159 rfl ?_
        refine tc_aload_n 0 rfl dX6_step_162 ?_
        refine tc_geti iv0.1 fl_X6_54 dX6_step_163 ?_
        obtain ⟨bx6, x6, ex6, h⟩ := tc_ld_ex h
        refine tc_bald (hW.p iv0 7 rfl).1 bx6 dX6_step_166 ?_
        refine tc_nm ex6 ?_
        refine tc_bipush (v := 122) (by decide) dX6_step_167 ?_
        refine tc_icmp_gt 185 dX6_step_169 (by decide) (fun hc7 => ?_) (fun hc7 => ?_)
        · rw [if_pos hc7] at h
          exact sb_X6_step_185 hW r ur  v0 u iv0 h
        · rw [if_neg hc7] at h
          refine tc_aload_n 0 rfl dX6_step_172 ?_
          refine tc_dup rfl dX6_step_173 ?_
          refine tc_geti iv0.1 fl_X6_54 dX6_step_174 ?_
          refine tc_iconst (v := 1) (by decide) dX6_step_177 ?_
          refine tc_iadd dX6_step_178 ?_
          obtain ⟨u8, eu8, h⟩ := tc_let_ex h
          refine tc_puti iv0.1 fl_X6_54 dX6_step_179 ?_
          refine tc_nmu eu8 ?_
          refine tc_goto 133 dX6_step_182 (by decide) ?_
          exact ih v0 u8 iv0 h
set_option maxRecDepth 100000 in
set_option maxHeartbeats 4000000 in
theorem sb_X6_step_52 {p : Program} {l : Launch} {e : Env} {s : State} {m : MethodId} {args : Array Value} {below : List Frame} {meth : Method} {c : Code} {z : Nat} {D : tc_D} {G : tc_G} (hW : tc_W G) (r : Int32) (ur : tc_S) (v0 : Nat) (u : tc_S) (iv0 : tc_is G v0 6) (h : bl_X6_step_52 G v0 u = some (r, ur)) : tc_R p l e { frames := 2, cells := 0, slots := 0, locals := 41 } s m args below meth c z D cX6_step RX6 1 none 0 0 (tc_pv G ur) 0 0 G u 52 [(0, .ref (z + v0))] [] := by
  unfold bl_X6_step_52 at h
  refine tc_aload_n 0 rfl dX6_step_52 ?_
  refine tc_aload_n 0 rfl dX6_step_53 ?_
  refine tc_geti iv0.1 fl_X6_54 dX6_step_54 ?_
  obtain ⟨u9, eu9, h⟩ := tc_let_ex h
  refine tc_puti iv0.1 fl_X6_163 dX6_step_57 ?_
  refine tc_nmu eu9 ?_
  refine tc_aload_n 0 rfl dX6_step_60 ?_
  refine tc_geti iv0.1 fl_X6_54 dX6_step_61 ?_
  refine tc_aload_n 0 rfl dX6_step_64 ?_
  refine tc_geti iv0.1 fl_X6_38 dX6_step_65 ?_
  refine tc_icmp_lt 79 dX6_step_68 (by decide) (fun hc10 => ?_) (fun hc10 => ?_)
  · rw [if_pos hc10] at h
    refine tc_aload_n 0 rfl dX6_step_79 ?_
    refine tc_getp hW iv0 fl_X6_28 dX6_step_80 rfl ?_
    refine tc_aload_n 0 rfl dX6_step_83 ?_
    refine tc_geti iv0.1 fl_X6_54 dX6_step_84 ?_
    obtain ⟨bx11, x11, ex11, h⟩ := tc_ld_ex h
    refine tc_bald (hW.p iv0 7 rfl).1 bx11 dX6_step_87 ?_
    refine tc_nm ex11 ?_
    refine tc_bipush (v := 59) (by decide) dX6_step_88 ?_
    refine tc_icmp_ne 111 dX6_step_90 (by decide) (fun hc12 => ?_) (fun hc12 => ?_)
    · rw [if_neg hc12] at h
      refine tc_aload_n 0 rfl dX6_step_111 ?_
      refine tc_getp hW iv0 fl_X6_28 dX6_step_112 rfl ?_
      refine tc_aload_n 0 rfl dX6_step_115 ?_
      refine tc_geti iv0.1 fl_X6_54 dX6_step_116 ?_
      obtain ⟨bx13, x13, ex13, h⟩ := tc_ld_ex h
      refine tc_bald (hW.p iv0 7 rfl).1 bx13 dX6_step_119 ?_
      refine tc_nm ex13 ?_
      obtain ⟨x14, u15, hq16, h⟩ := tc_b_ex h
      refine tc_callSi [.int x13] dX6_step_120 (ct_X6_isDigit hW hq16) ml_X6_173 mw_X6_isDigit ms_X6_isDigit ⟨Nat.le_of_ble_eq_true rfl, Nat.le_of_ble_eq_true rfl⟩ rfl rfl (Nat.le_of_ble_eq_true rfl) ⟨Nat.le_refl _, Nat.le_refl _⟩ ?_
      refine tc_if_eq 133 dX6_step_123 (by decide) (fun hc17 => ?_) (fun hc17 => ?_)
      · rw [if_pos hc17] at h
        exact sl_X6_step_133 hW r ur  _ v0 u15 iv0 h
      · rw [if_neg hc17] at h
        refine tc_aload_n 0 rfl dX6_step_126 ?_
        obtain ⟨x18, u19, hq20, h⟩ := tc_b_ex h
        refine tc_callVv [] dX6_step_127 iv0.1 (ct_X6_stepOverDigits hW iv0 hq20) ml_X6_176 mw_X6_stepOverDigits mv_X6_stepOverDigits ⟨Nat.le_of_ble_eq_true rfl, Nat.le_of_ble_eq_true rfl⟩ rfl rfl (Nat.le_of_ble_eq_true rfl) ⟨Nat.le_refl _, Nat.le_refl _⟩ (by decide) ?_
        refine tc_goto 205 dX6_step_130 (by decide) ?_
        refine tc_lvs [] rfl ?_
        exact sb_X6_step_205 hW r ur   u19  h
    · rw [if_pos hc12] at h
      refine tc_aload_n 0 rfl dX6_step_93 ?_
      refine tc_iconst (v := 3) (by decide) dX6_step_94 ?_
      obtain ⟨u21, eu21, h⟩ := tc_let_ex h
      refine tc_puti iv0.1 fl_X6_60 dX6_step_95 ?_
      refine tc_nmu eu21 ?_
      refine tc_aload_n 0 rfl dX6_step_98 ?_
      refine tc_dup rfl dX6_step_99 ?_
      refine tc_geti iv0.1 fl_X6_54 dX6_step_100 ?_
      refine tc_iconst (v := 1) (by decide) dX6_step_103 ?_
      refine tc_iadd dX6_step_104 ?_
      obtain ⟨u22, eu22, h⟩ := tc_let_ex h
      refine tc_puti iv0.1 fl_X6_54 dX6_step_105 ?_
      refine tc_nmu eu22 ?_
      refine tc_goto 205 dX6_step_108 (by decide) ?_
      refine tc_lvs [] rfl ?_
      exact sb_X6_step_205 hW r ur   u22  h
  · rw [if_neg hc10] at h
    refine tc_aload_n 0 rfl dX6_step_71 ?_
    refine tc_iconst (v := 0) (by decide) dX6_step_72 ?_
    obtain ⟨u23, eu23, h⟩ := tc_let_ex h
    refine tc_puti iv0.1 fl_X6_60 dX6_step_73 ?_
    refine tc_nmu eu23 ?_
    refine tc_goto 205 dX6_step_76 (by decide) ?_
    refine tc_lvs [] rfl ?_
    exact sb_X6_step_205 hW r ur   u23  h
set_option maxRecDepth 100000 in
set_option maxHeartbeats 4000000 in
theorem sb_X6_step_39 {p : Program} {l : Launch} {e : Env} {s : State} {m : MethodId} {args : Array Value} {below : List Frame} {meth : Method} {c : Code} {z : Nat} {D : tc_D} {G : tc_G} (hW : tc_W G) (r : Int32) (ur : tc_S) (K0 : Nat → tc_S → Option (Int32 × tc_S)) (hK0 : ∀ (v0 : Nat) (u : tc_S), tc_is G v0 6 → K0 v0 u = some (r, ur) → tc_R p l e { frames := 2, cells := 0, slots := 0, locals := 41 } s m args below meth c z D cX6_step RX6 1 none 0 0 (tc_pv G ur) 0 0 G u 0 [(0, .ref (z + v0))] []) (v0 : Nat) (u : tc_S) (iv0 : tc_is G v0 6) (h : bl_X6_step_39 G K0 v0 u = some (r, ur)) : tc_R p l e { frames := 2, cells := 0, slots := 0, locals := 41 } s m args below meth c z D cX6_step RX6 1 none 0 0 (tc_pv G ur) 0 0 G u 39 [(0, .ref (z + v0))] [] := by
  unfold bl_X6_step_39 at h
  refine tc_aload_n 0 rfl dX6_step_39 ?_
  refine tc_dup rfl dX6_step_40 ?_
  refine tc_geti iv0.1 fl_X6_54 dX6_step_41 ?_
  refine tc_iconst (v := 1) (by decide) dX6_step_44 ?_
  refine tc_iadd dX6_step_45 ?_
  obtain ⟨u24, eu24, h⟩ := tc_let_ex h
  refine tc_puti iv0.1 fl_X6_54 dX6_step_46 ?_
  refine tc_nmu eu24 ?_
  refine tc_goto 0 dX6_step_49 (by decide) ?_
  exact hK0 v0 u24 iv0 h
set_option maxRecDepth 100000 in
set_option maxHeartbeats 4000000 in
theorem sl_X6_step_0 {p : Program} {l : Launch} {e : Env} {s : State} {m : MethodId} {args : Array Value} {below : List Frame} {meth : Method} {c : Code} {z : Nat} {D : tc_D} {G : tc_G} (hW : tc_W G) (r : Int32) (ur : tc_S) : ∀ (n : Nat) (v0 : Nat) (u : tc_S) (iv0 : tc_is G v0 6) (h : lo_X6_step_0 G n v0 u = some (r, ur)), tc_R p l e { frames := 2, cells := 0, slots := 0, locals := 41 } s m args below meth c z D cX6_step RX6 1 none 0 0 (tc_pv G ur) 0 0 G u 0 [(0, .ref (z + v0))] [] := by
  intro n
  induction n with
  | zero => intro v0 u iv0 h; cases h
  | succ n ih =>
    intro v0 u iv0 h
    rw [lo_X6_step_0] at h
    refine tc_aload_n 0 rfl dX6_step_0 ?_
    refine tc_geti iv0.1 fl_X6_54 dX6_step_1 ?_
    refine tc_aload_n 0 rfl dX6_step_4 ?_
    refine tc_geti iv0.1 fl_X6_38 dX6_step_5 ?_
    refine tc_icmp_ge 52 dX6_step_8 (by decide) (fun hc25 => ?_) (fun hc25 => ?_)
    · rw [if_pos hc25] at h
      exact sb_X6_step_52 hW r ur  v0 u iv0 h
    · rw [if_neg hc25] at h
      refine tc_aload_n 0 rfl dX6_step_11 ?_
      refine tc_getp hW iv0 fl_X6_28 dX6_step_12 rfl ?_
      refine tc_aload_n 0 rfl dX6_step_15 ?_
      refine tc_geti iv0.1 fl_X6_54 dX6_step_16 ?_
      obtain ⟨bx26, x26, ex26, h⟩ := tc_ld_ex h
      refine tc_bald (hW.p iv0 7 rfl).1 bx26 dX6_step_19 ?_
      refine tc_nm ex26 ?_
      refine tc_bipush (v := 10) (by decide) dX6_step_20 ?_
      refine tc_icmp_eq 39 dX6_step_22 (by decide) (fun hc27 => ?_) (fun hc27 => ?_)
      · rw [if_pos hc27] at h
        exact sb_X6_step_39 hW r ur _ ih v0 u iv0 h
      · rw [if_neg hc27] at h
        refine tc_aload_n 0 rfl dX6_step_25 ?_
        refine tc_getp hW iv0 fl_X6_28 dX6_step_26 rfl ?_
        refine tc_aload_n 0 rfl dX6_step_29 ?_
        refine tc_geti iv0.1 fl_X6_54 dX6_step_30 ?_
        obtain ⟨bx28, x28, ex28, h⟩ := tc_ld_ex h
        refine tc_bald (hW.p iv0 7 rfl).1 bx28 dX6_step_33 ?_
        refine tc_nm ex28 ?_
        refine tc_bipush (v := 32) (by decide) dX6_step_34 ?_
        refine tc_icmp_ne 52 dX6_step_36 (by decide) (fun hc29 => ?_) (fun hc29 => ?_)
        · rw [if_neg hc29] at h
          exact sb_X6_step_52 hW r ur  v0 u iv0 h
        · rw [if_pos hc29] at h
          exact sb_X6_step_39 hW r ur _ ih v0 u iv0 h
set_option maxRecDepth 100000 in
set_option maxHeartbeats 4000000 in
theorem ct_X6_step {l : Launch} {z : Nat} {D : tc_D} {G : tc_G} (hW : tc_W G) {v0 : Nat} {u : tc_S} {r : Int32} {ur : tc_S} (iv0 : tc_is G v0 6) (h : fn_X6_step G v0 u = some (r, ur)) : tc_C l z D yX6_step cX6_step 1 none 2 41 0 0 [.ref (z + v0)] G u (tc_pv G ur) := by
  unfold fn_X6_step at h
  refine tc_C.of (by decide) (Nat.le_of_ble_eq_true rfl) fun p e s m args below meth c => ?_
  show tc_R p l e { frames := 2, cells := 0, slots := 0, locals := 41 } s m args below meth c z D cX6_step RX6 1 none 0 0 (tc_pv G ur) 0 0 G u 0 [(0, .ref (z + v0))] []
  exact sl_X6_step_0 hW r ur  _ v0 u iv0 h
set_option maxRecDepth 100000 in
set_option maxHeartbeats 4000000 in
theorem sb_X6_wordOf_100 {p : Program} {l : Launch} {e : Env} {s : State} {m : MethodId} {args : Array Value} {below : List Frame} {meth : Method} {c : Code} {z : Nat} {D : tc_D} {G : tc_G} (hW : tc_W G) (r : Int32) (ur : tc_S) (K13 : Nat → Nat → Int32 → Int32 → Int32 → Int32 → tc_S → Option (Int32 × tc_S)) (hK13 : ∀ (v0 : Nat) (v1 : Nat) (v2 : Int32) (v3 : Int32) (v4 : Int32) (v5 : Int32) (u : tc_S), tc_is G v0 6 → v1 < 3 → K13 v0 v1 v2 v3 v4 v5 u = some (r, ur) → tc_R p l e { frames := 4, cells := 0, slots := 0, locals := 85 } s m args below meth c z D cX6_wordOf RX6 6 (some .int) 0 0 (tc_po r G ur) 0 0 G u 13 [(0, .ref (z + v0)), (1, .ref (D.2 (200 + v1))), (2, .int v2), (3, .int v3), (4, .int v4), (5, .int v5)] []) (v0 : Nat) (v1 : Nat) (v2 : Int32) (v3 : Int32) (v4 : Int32) (v5 : Int32) (u : tc_S) (iv0 : tc_is G v0 6) (iv1 : v1 < 3) (h : bl_X6_wordOf_100 G K13 v0 v1 v2 v3 v4 v5 u = some (r, ur)) : tc_R p l e { frames := 4, cells := 0, slots := 0, locals := 85 } s m args below meth c z D cX6_wordOf RX6 6 (some .int) 0 0 (tc_po r G ur) 0 0 G u 100 [(0, .ref (z + v0)), (1, .ref (D.2 (200 + v1))), (2, .int v2), (3, .int v3), (4, .int v4), (5, .int v5)] [] := by
  unfold bl_X6_wordOf_100 at h
  obtain ⟨x1, ex1, h⟩ := tc_let_ex h
  refine tc_iinc 5 (v := x1) [(5, .int x1), (0, .ref (z + v0)), (1, .ref (D.2 (200 + v1))), (2, .int v2), (3, .int v3), (4, .int v4)] dX6_wordOf_100 rfl (by rw [ex1]; rfl) (by decide) rfl ?_
  refine tc_goto 13 dX6_wordOf_103 (by decide) ?_
  refine tc_lvs [1, 2, 3, 4, 5, 0] rfl ?_
  exact hK13 v0 v1 v2 v3 v4 x1 u iv0 iv1 h
set_option maxRecDepth 100000 in
set_option maxHeartbeats 4000000 in
theorem sb_X6_wordOf_95 {p : Program} {l : Launch} {e : Env} {s : State} {m : MethodId} {args : Array Value} {below : List Frame} {meth : Method} {c : Code} {z : Nat} {D : tc_D} {G : tc_G} (hW : tc_W G) (r : Int32) (ur : tc_S) (K13 : Nat → Nat → Int32 → Int32 → Int32 → Int32 → tc_S → Option (Int32 × tc_S)) (hK13 : ∀ (v0 : Nat) (v1 : Nat) (v2 : Int32) (v3 : Int32) (v4 : Int32) (v5 : Int32) (u : tc_S), tc_is G v0 6 → v1 < 3 → K13 v0 v1 v2 v3 v4 v5 u = some (r, ur) → tc_R p l e { frames := 4, cells := 0, slots := 0, locals := 85 } s m args below meth c z D cX6_wordOf RX6 6 (some .int) 0 0 (tc_po r G ur) 0 0 G u 13 [(0, .ref (z + v0)), (1, .ref (D.2 (200 + v1))), (2, .int v2), (3, .int v3), (4, .int v4), (5, .int v5)] []) (v0 : Nat) (v1 : Nat) (v2 : Int32) (v3 : Int32) (v5 : Int32) (s0 : Int32) (u : tc_S) (iv0 : tc_is G v0 6) (iv1 : v1 < 3) (h : bl_X6_wordOf_95 G K13 v0 v1 v2 v3 v5 s0 u = some (r, ur)) : tc_R p l e { frames := 4, cells := 0, slots := 0, locals := 85 } s m args below meth c z D cX6_wordOf RX6 6 (some .int) 0 0 (tc_po r G ur) 0 0 G u 95 [(0, .ref (z + v0)), (1, .ref (D.2 (200 + v1))), (2, .int v2), (3, .int v3), (5, .int v5)] [.int s0] := by
  unfold bl_X6_wordOf_95 at h
  refine tc_istore [(4, .int s0), (0, .ref (z + v0)), (1, .ref (D.2 (200 + v1))), (2, .int v2), (3, .int v3), (5, .int v5)] dX6_wordOf_95 (by decide) rfl ?_
  obtain ⟨x2, ex2, h⟩ := tc_let_ex h
  refine tc_iinc 4 (v := x2) [(3, .int x2), (4, .int s0), (0, .ref (z + v0)), (1, .ref (D.2 (200 + v1))), (2, .int v2), (5, .int v5)] dX6_wordOf_97 rfl (by rw [ex2]; rfl) (by decide) rfl ?_
  refine tc_lvs [2, 3, 4, 0, 1, 5] rfl ?_
  exact sb_X6_wordOf_100 hW r ur K13 hK13 v0 v1 v2 x2 s0 v5 u iv0 iv1 h
set_option maxRecDepth 100000 in
set_option maxHeartbeats 4000000 in
theorem sb_X6_wordOf_94 {p : Program} {l : Launch} {e : Env} {s : State} {m : MethodId} {args : Array Value} {below : List Frame} {meth : Method} {c : Code} {z : Nat} {D : tc_D} {G : tc_G} (hW : tc_W G) (r : Int32) (ur : tc_S) (K13 : Nat → Nat → Int32 → Int32 → Int32 → Int32 → tc_S → Option (Int32 × tc_S)) (hK13 : ∀ (v0 : Nat) (v1 : Nat) (v2 : Int32) (v3 : Int32) (v4 : Int32) (v5 : Int32) (u : tc_S), tc_is G v0 6 → v1 < 3 → K13 v0 v1 v2 v3 v4 v5 u = some (r, ur) → tc_R p l e { frames := 4, cells := 0, slots := 0, locals := 85 } s m args below meth c z D cX6_wordOf RX6 6 (some .int) 0 0 (tc_po r G ur) 0 0 G u 13 [(0, .ref (z + v0)), (1, .ref (D.2 (200 + v1))), (2, .int v2), (3, .int v3), (4, .int v4), (5, .int v5)] []) (v0 : Nat) (v1 : Nat) (v2 : Int32) (v3 : Int32) (v5 : Int32) (u : tc_S) (iv0 : tc_is G v0 6) (iv1 : v1 < 3) (h : bl_X6_wordOf_94 G K13 v0 v1 v2 v3 v5 u = some (r, ur)) : tc_R p l e { frames := 4, cells := 0, slots := 0, locals := 85 } s m args below meth c z D cX6_wordOf RX6 6 (some .int) 0 0 (tc_po r G ur) 0 0 G u 94 [(0, .ref (z + v0)), (1, .ref (D.2 (200 + v1))), (2, .int v2), (3, .int v3), (5, .int v5)] [] := by
  unfold bl_X6_wordOf_94 at h
  refine tc_iconst (v := 0) (by decide) dX6_wordOf_94 ?_
  exact sb_X6_wordOf_95 hW r ur K13 hK13 v0 v1 v2 v3 v5 0 u iv0 iv1 h
set_option maxRecDepth 100000 in
set_option maxHeartbeats 4000000 in
theorem sb_X6_wordOf_48 {p : Program} {l : Launch} {e : Env} {s : State} {m : MethodId} {args : Array Value} {below : List Frame} {meth : Method} {c : Code} {z : Nat} {D : tc_D} {G : tc_G} (hW : tc_W G) (r : Int32) (ur : tc_S) (K13 : Nat → Nat → Int32 → Int32 → Int32 → Int32 → tc_S → Option (Int32 × tc_S)) (hK13 : ∀ (v0 : Nat) (v1 : Nat) (v2 : Int32) (v3 : Int32) (v4 : Int32) (v5 : Int32) (u : tc_S), tc_is G v0 6 → v1 < 3 → K13 v0 v1 v2 v3 v4 v5 u = some (r, ur) → tc_R p l e { frames := 4, cells := 0, slots := 0, locals := 85 } s m args below meth c z D cX6_wordOf RX6 6 (some .int) 0 0 (tc_po r G ur) 0 0 G u 13 [(0, .ref (z + v0)), (1, .ref (D.2 (200 + v1))), (2, .int v2), (3, .int v3), (4, .int v4), (5, .int v5)] []) (v0 : Nat) (v1 : Nat) (v2 : Int32) (v5 : Int32) (u : tc_S) (iv0 : tc_is G v0 6) (iv1 : v1 < 3) (h : bl_X6_wordOf_48 G K13 v0 v1 v2 v5 u = some (r, ur)) : tc_R p l e { frames := 4, cells := 0, slots := 0, locals := 85 } s m args below meth c z D cX6_wordOf RX6 6 (some .int) 0 0 (tc_po r G ur) 0 0 G u 48 [(0, .ref (z + v0)), (1, .ref (D.2 (200 + v1))), (2, .int v2), (5, .int v5)] [] := by
  unfold bl_X6_wordOf_48 at h
  obtain ⟨x3, ex3, h⟩ := tc_let_ex h
  refine tc_iinc 2 (v := x3) [(2, .int x3), (0, .ref (z + v0)), (1, .ref (D.2 (200 + v1))), (5, .int v5)] dX6_wordOf_48 rfl (by rw [ex3]; rfl) (by decide) rfl ?_
  refine tc_aload_n 1 rfl dX6_wordOf_51 ?_
  refine tc_geti iv0.1 fl_X6_163 dX6_wordOf_52 ?_
  obtain ⟨x4, ex4, h⟩ := tc_let_ex h
  refine tc_nm ex4 ?_
  refine tc_istore_n [(3, .int x4), (2, .int x3), (0, .ref (z + v0)), (1, .ref (D.2 (200 + v1))), (5, .int v5)] dX6_wordOf_55 (by decide) rfl ?_
  refine tc_iconst (v := 1) (by decide) dX6_wordOf_56 ?_
  refine tc_istore [(4, .int 1), (3, .int x4), (2, .int x3), (0, .ref (z + v0)), (1, .ref (D.2 (200 + v1))), (5, .int v5)] dX6_wordOf_57 (by decide) rfl ?_
  refine tc_goto 100 dX6_wordOf_59 (by decide) ?_
  refine tc_lvs [3, 4, 2, 1, 0, 5] rfl ?_
  exact sb_X6_wordOf_100 hW r ur K13 hK13 v0 v1 x3 x4 1 v5 u iv0 iv1 h
set_option maxRecDepth 100000 in
set_option maxHeartbeats 4000000 in
theorem sl_X6_wordOf_13 {p : Program} {l : Launch} {e : Env} {s : State} {m : MethodId} {args : Array Value} {below : List Frame} {meth : Method} {c : Code} {z : Nat} {D : tc_D} {G : tc_G} (hW : tc_W G) (r : Int32) (ur : tc_S) : ∀ (n : Nat) (v0 : Nat) (v1 : Nat) (v2 : Int32) (v3 : Int32) (v4 : Int32) (v5 : Int32) (u : tc_S) (iv0 : tc_is G v0 6) (iv1 : v1 < 3) (h : lo_X6_wordOf_13 G n v0 v1 v2 v3 v4 v5 u = some (r, ur)), tc_R p l e { frames := 4, cells := 0, slots := 0, locals := 85 } s m args below meth c z D cX6_wordOf RX6 6 (some .int) 0 0 (tc_po r G ur) 0 0 G u 13 [(0, .ref (z + v0)), (1, .ref (D.2 (200 + v1))), (2, .int v2), (3, .int v3), (4, .int v4), (5, .int v5)] [] := by
  intro n
  induction n with
  | zero => intro v0 v1 v2 v3 v4 v5 u iv0 iv1 h; cases h
  | succ n ih =>
    intro v0 v1 v2 v3 v4 v5 u iv0 iv1 h
    rw [lo_X6_wordOf_13] at h
    refine tc_iload 5 rfl dX6_wordOf_13 ?_
    refine tc_aload_n 1 rfl dX6_wordOf_15 ?_
    refine tc_callX [] dX6_wordOf_16 iv1 (ct_J0_length iv1) ml_X6_179 mw_J0_length_8abf5 jv_J0_length_8abf5 ⟨Nat.le_of_ble_eq_true rfl, Nat.le_of_ble_eq_true rfl⟩ rfl rfl (Nat.le_of_ble_eq_true rfl) ⟨Nat.le_refl _, Nat.le_refl _⟩ ?_
    refine tc_icmp_ge 106 dX6_wordOf_19 (by decide) (fun hc5 => ?_) (fun hc5 => ?_)
    · rw [if_pos hc5] at h
      refine tc_iconst (v := (-1)) (by decide) dX6_wordOf_106 ?_
      cases h
      exact tc_ireturn rfl dX6_wordOf_107 rfl rfl ⟨rfl, rfl, rfl⟩
    · rw [if_neg hc5] at h
      refine tc_aload_n 1 rfl dX6_wordOf_22 ?_
      refine tc_iload 5 rfl dX6_wordOf_23 ?_
      obtain ⟨bx6, x6, ex6, h⟩ := tc_sc_ex h
      refine tc_callX [.int v5] dX6_wordOf_25 iv1 (ct_J0_charAt iv1 bx6) ml_X6_184 mw_J0_charAt_5068e jv_J0_charAt_5068e ⟨Nat.le_of_ble_eq_true rfl, Nat.le_of_ble_eq_true rfl⟩ rfl rfl (Nat.le_of_ble_eq_true rfl) ⟨Nat.le_refl _, Nat.le_refl _⟩ ?_
      refine tc_nm ex6 ?_
      refine tc_bipush (v := 32) (by decide) dX6_wordOf_28 ?_
      refine tc_icmp_ne 62 dX6_wordOf_30 (by decide) (fun hc7 => ?_) (fun hc7 => ?_)
      · rw [if_neg hc7] at h
        refine tc_iload 4 rfl dX6_wordOf_62 ?_
        refine tc_if_eq 94 dX6_wordOf_64 (by decide) (fun hc8 => ?_) (fun hc8 => ?_)
        · rw [if_pos hc8] at h
          refine tc_lvs [0, 1, 2, 3, 5] rfl ?_
          exact sb_X6_wordOf_94 hW r ur _ ih v0 v1 v2 v3 v5 u iv0 iv1 h
        · rw [if_neg hc8] at h
          refine tc_iload_n 3 rfl dX6_wordOf_67 ?_
          refine tc_aload_n 0 rfl dX6_wordOf_68 ?_
          refine tc_geti iv0.1 fl_X6_54 dX6_wordOf_69 ?_
          refine tc_icmp_ge 94 dX6_wordOf_72 (by decide) (fun hc9 => ?_) (fun hc9 => ?_)
          · rw [if_pos hc9] at h
            refine tc_lvs [0, 1, 2, 3, 5] rfl ?_
            exact sb_X6_wordOf_94 hW r ur _ ih v0 v1 v2 v3 v5 u iv0 iv1 h
          · rw [if_neg hc9] at h
            refine tc_aload_n 0 rfl dX6_wordOf_75 ?_
            refine tc_getp hW iv0 fl_X6_28 dX6_wordOf_76 rfl ?_
            refine tc_iload_n 3 rfl dX6_wordOf_79 ?_
            obtain ⟨bx10, x10, ex10, h⟩ := tc_ld_ex h
            refine tc_bald (hW.p iv0 7 rfl).1 bx10 dX6_wordOf_80 ?_
            refine tc_nm ex10 ?_
            refine tc_aload_n 1 rfl dX6_wordOf_81 ?_
            refine tc_iload 5 rfl dX6_wordOf_82 ?_
            obtain ⟨bx11, x11, ex11, h⟩ := tc_sc_ex h
            refine tc_callX [.int v5] dX6_wordOf_84 iv1 (ct_J0_charAt iv1 bx11) ml_X6_184 mw_J0_charAt_5068e jv_J0_charAt_5068e ⟨Nat.le_of_ble_eq_true rfl, Nat.le_of_ble_eq_true rfl⟩ rfl rfl (Nat.le_of_ble_eq_true rfl) ⟨Nat.le_refl _, Nat.le_refl _⟩ ?_
            refine tc_nm ex11 ?_
            refine tc_icmp_ne 94 dX6_wordOf_87 (by decide) (fun hc12 => ?_) (fun hc12 => ?_)
            · rw [if_neg hc12] at h
              refine tc_lvs [0, 1, 2, 3, 5] rfl ?_
              exact sb_X6_wordOf_94 hW r ur _ ih v0 v1 v2 v3 v5 u iv0 iv1 h
            · rw [if_pos hc12] at h
              refine tc_iconst (v := 1) (by decide) dX6_wordOf_90 ?_
              refine tc_goto 95 dX6_wordOf_91 (by decide) ?_
              refine tc_lvs [0, 1, 2, 3, 5] rfl ?_
              exact sb_X6_wordOf_95 hW r ur _ ih v0 v1 v2 v3 v5 1 u iv0 iv1 h
      · rw [if_pos hc7] at h
        refine tc_iload 4 rfl dX6_wordOf_33 ?_
        refine tc_if_eq 48 dX6_wordOf_35 (by decide) (fun hc13 => ?_) (fun hc13 => ?_)
        · rw [if_pos hc13] at h
          refine tc_lvs [0, 1, 2, 5] rfl ?_
          exact sb_X6_wordOf_48 hW r ur _ ih v0 v1 v2 v5 u iv0 iv1 h
        · rw [if_neg hc13] at h
          refine tc_iload_n 3 rfl dX6_wordOf_38 ?_
          refine tc_aload_n 0 rfl dX6_wordOf_39 ?_
          refine tc_geti iv0.1 fl_X6_54 dX6_wordOf_40 ?_
          refine tc_icmp_ne 48 dX6_wordOf_43 (by decide) (fun hc14 => ?_) (fun hc14 => ?_)
          · rw [if_neg hc14] at h
            refine tc_lvs [0, 1, 2, 5] rfl ?_
            exact sb_X6_wordOf_48 hW r ur _ ih v0 v1 v2 v5 u iv0 iv1 h
          · rw [if_pos hc14] at h
            refine tc_iload_n 2 rfl dX6_wordOf_46 ?_
            cases h
            exact tc_ireturn rfl dX6_wordOf_47 rfl rfl ⟨rfl, rfl, rfl⟩
set_option maxRecDepth 100000 in
set_option maxHeartbeats 4000000 in
theorem ct_X6_wordOf {l : Launch} {z : Nat} {D : tc_D} {G : tc_G} (hW : tc_W G) {v0 : Nat} {v1 : Nat} {u : tc_S} {r : Int32} {ur : tc_S} (iv0 : tc_is G v0 6) (iv1 : v1 < 3) (h : fn_X6_wordOf G v0 v1 u = some (r, ur)) : tc_C l z D yX6_wordOf cX6_wordOf 6 (some .int) 4 85 0 0 [.ref (z + v0), .ref (D.2 (200 + v1))] G u (tc_po r G ur) := by
  unfold fn_X6_wordOf at h
  refine tc_C.of (by decide) (Nat.le_of_ble_eq_true rfl) fun p e s m args below meth c => ?_
  show tc_R p l e { frames := 4, cells := 0, slots := 0, locals := 85 } s m args below meth c z D cX6_wordOf RX6 6 (some .int) 0 0 (tc_po r G ur) 0 0 G u 0 [(0, .ref (z + v0)), (1, .ref (D.2 (200 + v1)))] []
  refine tc_iconst (v := 0) (by decide) dX6_wordOf_0 ?_
  refine tc_istore_n [(2, .int 0), (0, .ref (z + v0)), (1, .ref (D.2 (200 + v1)))] dX6_wordOf_1 (by decide) rfl ?_
  refine tc_aload_n 1 rfl dX6_wordOf_2 ?_
  refine tc_geti iv0.1 fl_X6_163 dX6_wordOf_3 ?_
  obtain ⟨x15, ex15, h⟩ := tc_let_ex h
  refine tc_nm ex15 ?_
  refine tc_istore_n [(3, .int x15), (2, .int 0), (0, .ref (z + v0)), (1, .ref (D.2 (200 + v1)))] dX6_wordOf_6 (by decide) rfl ?_
  refine tc_iconst (v := 1) (by decide) dX6_wordOf_7 ?_
  refine tc_istore [(4, .int 1), (3, .int x15), (2, .int 0), (0, .ref (z + v0)), (1, .ref (D.2 (200 + v1)))] dX6_wordOf_8 (by decide) rfl ?_
  refine tc_iconst (v := 0) (by decide) dX6_wordOf_10 ?_
  refine tc_istore [(5, .int 0), (4, .int 1), (3, .int x15), (2, .int 0), (0, .ref (z + v0)), (1, .ref (D.2 (200 + v1)))] dX6_wordOf_11 (by decide) rfl ?_
  refine tc_lvs [4, 5, 3, 2, 1, 0] rfl ?_
  exact sl_X6_wordOf_13 hW r ur  _ v0 v1 0 x15 1 0 u iv0 iv1 h
set_option maxRecDepth 100000 in
set_option maxHeartbeats 4000000 in
theorem ct_X6_stop {l : Launch} {z : Nat} {D : tc_D} {G : tc_G} (hW : tc_W G) {v0 : Nat} {u : tc_S} {r : Int32} {ur : tc_S} (iv0 : tc_is G v0 6) (h : fn_X6_stop G v0 u = some (r, ur)) : tc_C l z D yX6_stop cX6_stop 1 (some .boolean) 0 0 0 0 [.ref (z + v0)] G u (tc_po r G ur) := by
  unfold fn_X6_stop at h
  refine tc_C.of (by decide) (Nat.le_of_ble_eq_true rfl) fun p e s m args below meth c => ?_
  show tc_R p l e { frames := 0, cells := 0, slots := 0, locals := 0 } s m args below meth c z D cX6_stop RX6 1 (some .boolean) 0 0 (tc_po r G ur) 0 0 G u 0 [(0, .ref (z + v0))] []
  refine tc_aload_n 0 rfl dX6_stop_0 ?_
  refine tc_iconst (v := 1) (by decide) dX6_stop_1 ?_
  obtain ⟨u1, eu1, h⟩ := tc_let_ex h
  refine tc_puti iv0.1 fl_X6_42 dX6_stop_2 ?_
  refine tc_nmu eu1 ?_
  refine tc_aload_n 0 rfl dX6_stop_5 ?_
  refine tc_aload_n 0 rfl dX6_stop_6 ?_
  refine tc_geti iv0.1 fl_X6_163 dX6_stop_7 ?_
  obtain ⟨u2, eu2, h⟩ := tc_let_ex h
  refine tc_puti iv0.1 fl_X6_45 dX6_stop_10 ?_
  refine tc_nmu eu2 ?_
  refine tc_iconst (v := 0) (by decide) dX6_stop_13 ?_
  obtain ⟨hz3, h⟩ := tc_zo_ex h
  cases h
  exact tc_zreturn hz3 rfl dX6_stop_14 rfl rfl ⟨rfl, rfl, rfl⟩
set_option maxRecDepth 100000 in
set_option maxHeartbeats 4000000 in
theorem sb_X6_note_17 {p : Program} {l : Launch} {e : Env} {s : State} {m : MethodId} {args : Array Value} {below : List Frame} {meth : Method} {c : Code} {z : Nat} {D : tc_D} {G : tc_G} (hW : tc_W G) (r : Int32) (ur : tc_S) (u : tc_S) (h : bl_X6_note_17 G  u = some (r, ur)) : tc_R p l e { frames := 0, cells := 0, slots := 0, locals := 0 } s m args below meth c z D cX6_note RX6 3 none 0 0 (tc_pv G ur) 0 0 G u 17 [] [] := by
  unfold bl_X6_note_17 at h
  cases h
  exact tc_return rfl dX6_note_17 rfl rfl ⟨rfl, rfl, rfl⟩
set_option maxRecDepth 100000 in
set_option maxHeartbeats 4000000 in
theorem ct_X6_note {l : Launch} {z : Nat} {D : tc_D} {G : tc_G} (hW : tc_W G) {v0 : Nat} {v1 : Int32} {v2 : Int32} {u : tc_S} {r : Int32} {ur : tc_S} (iv0 : tc_is G v0 6) (h : fn_X6_note G v0 v1 v2 u = some (r, ur)) : tc_C l z D yX6_note cX6_note 3 none 0 0 0 0 [.ref (z + v0), .int v1, .int v2] G u (tc_pv G ur) := by
  unfold fn_X6_note at h
  refine tc_C.of (by decide) (Nat.le_of_ble_eq_true rfl) fun p e s m args below meth c => ?_
  show tc_R p l e { frames := 0, cells := 0, slots := 0, locals := 0 } s m args below meth c z D cX6_note RX6 3 none 0 0 (tc_pv G ur) 0 0 G u 0 [(0, .ref (z + v0)), (1, .int v1), (2, .int v2)] []
  refine tc_aload_n 0 rfl dX6_note_0 ?_
  refine tc_geti iv0.1 fl_X6_42 dX6_note_1 ?_
  refine tc_if_ne 17 dX6_note_4 (by decide) (fun hc1 => ?_) (fun hc1 => ?_)
  · rw [if_neg hc1] at h
    refine tc_lvs [] rfl ?_
    exact sb_X6_note_17 hW r ur   u  h
  · rw [if_pos hc1] at h
    refine tc_aload_n 0 rfl dX6_note_7 ?_
    refine tc_iload_n 1 rfl dX6_note_8 ?_
    obtain ⟨u2, eu2, h⟩ := tc_let_ex h
    refine tc_puti iv0.1 fl_X6_42 dX6_note_9 ?_
    refine tc_nmu eu2 ?_
    refine tc_aload_n 0 rfl dX6_note_12 ?_
    refine tc_iload_n 2 rfl dX6_note_13 ?_
    obtain ⟨u3, eu3, h⟩ := tc_let_ex h
    refine tc_puti iv0.1 fl_X6_45 dX6_note_14 ?_
    refine tc_nmu eu3 ?_
    refine tc_lvs [] rfl ?_
    exact sb_X6_note_17 hW r ur   u3  h
