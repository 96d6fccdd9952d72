set_option maxRecDepth 100000 in
set_option maxHeartbeats 4000000 in
theorem sl_X12_walks_239 {p : Program} {l : Launch} {e : Env} {s : State} {m : MethodId} {args : Array Value} {below : List Frame} {meth : Method} {c : Code} {z : Nat} {D : tc_D} {G : tc_G} (hW : tc_W G) (r : Int32) (ur : tc_S) : ∀ (n : Nat) (v0 : Nat) (v1 : Int32) (v6 : Int32) (v10 : Int32) (v11 : Int32) (u : tc_S) (iv0 : tc_is G v0 12) (h : lo_X12_walks_239 G n v0 v1 v6 v10 v11 u = some (r, ur)), tc_R p l e { frames := 2, cells := 0, slots := 0, locals := 48 } s m args below meth c z D cX12_walks RX12 12 (some .boolean) 0 0 (tc_po r G ur) 0 0 G u 239 [(0, .ref (z + v0)), (1, .int v1), (6, .int v6), (10, .int v10), (11, .int v11)] [] := by
  intro n
  induction n with
  | zero => intro v0 v1 v6 v10 v11 u iv0 h; cases h
  | succ n ih =>
    intro v0 v1 v6 v10 v11 u iv0 h
    rw [lo_X12_walks_239] at h
    refine tc_iload 4 rfl dX12_walks_239 ?_
    refine tc_iconst (v := 4) (by decide) dX12_walks_241 ?_
    refine tc_icmp_ge 274 dX12_walks_242 (by decide) (fun hc1 => ?_) (fun hc1 => ?_)
    · rw [if_pos hc1] at h
      refine tc_iconst (v := 1) (by decide) dX12_walks_274 ?_
      obtain ⟨hz2, h⟩ := tc_zo_ex h
      cases h
      exact tc_zreturn hz2 rfl dX12_walks_275 rfl rfl ⟨rfl, rfl, rfl⟩
    · rw [if_neg hc1] at h
      refine tc_aload_n 0 rfl dX12_walks_245 ?_
      refine tc_getp hW iv0 fl_X12_7 dX12_walks_246 rfl ?_
      refine tc_iload_n 1 rfl dX12_walks_249 ?_
      refine tc_iload 2 rfl dX12_walks_250 ?_
      refine tc_iload 3 rfl dX12_walks_252 ?_
      obtain ⟨x3, u4, hq5, h⟩ := tc_b_ex h
      refine tc_callSi [.int v1, .int v6, .int v10] dX12_walks_254 (ct_X12_cell hW hq5) ml_X12_92 mw_X12_cell ms_X12_cell ⟨Nat.le_of_ble_eq_true rfl, Nat.le_of_ble_eq_true rfl⟩ rfl rfl (Nat.le_of_ble_eq_true rfl) ⟨Nat.le_refl _, Nat.le_refl _⟩ ?_
      refine tc_iload 4 rfl dX12_walks_257 ?_
      refine tc_iadd dX12_walks_259 ?_
      refine tc_aload_n 0 rfl dX12_walks_260 ?_
      refine tc_getp hW iv0 fl_X12_33 dX12_walks_261 rfl ?_
      refine tc_iload 4 rfl dX12_walks_264 ?_
      obtain ⟨bx6, x6, ex6, h⟩ := tc_ld_ex h
      refine tc_iald (hW.p iv0 9 rfl).1 bx6 dX12_walks_266 ?_
      refine tc_nm ex6 ?_
      obtain ⟨bu7, u7, eu7, h⟩ := tc_sd_ex h
      refine tc_iast (hW.p iv0 0 rfl).1 bu7 dX12_walks_267 ?_
      refine tc_nmu eu7 ?_
      obtain ⟨x8, ex8, h⟩ := tc_let_ex h
      refine tc_iinc 4 (v := x8) [(11, .int x8), (0, .ref (z + v0)), (1, .int v1), (6, .int v6), (10, .int v10)] dX12_walks_268 rfl (by rw [ex8]; rfl) (by decide) rfl ?_
      refine tc_goto 239 dX12_walks_271 (by decide) ?_
      refine tc_lvs [1, 2, 3, 4, 0] rfl ?_
      exact ih v0 v1 v6 v10 x8 u7 iv0 h
set_option maxRecDepth 100000 in
set_option maxHeartbeats 4000000 in
theorem sb_X12_walks_217 {p : Program} {l : Launch} {e : Env} {s : State} {m : MethodId} {args : Array Value} {below : List Frame} {meth : Method} {c : Code} {z : Nat} {D : tc_D} {G : tc_G} (hW : tc_W G) (r : Int32) (ur : tc_S) (K81 : Nat → Int32 → Int32 → Int32 → tc_S → Option (Int32 × tc_S)) (hK81 : ∀ (v0 : Nat) (v1 : Int32) (v6 : Int32) (v7 : Int32) (u : tc_S), tc_is G v0 12 → K81 v0 v1 v6 v7 u = some (r, ur) → tc_R p l e { frames := 2, cells := 0, slots := 0, locals := 48 } s m args below meth c z D cX12_walks RX12 12 (some .boolean) 0 0 (tc_po r G ur) 0 0 G u 81 [(0, .ref (z + v0)), (1, .int v1), (6, .int v6), (7, .int v7)] []) (v0 : Nat) (v1 : Int32) (v7 : Int32) (s0 : Int32) (u : tc_S) (iv0 : tc_is G v0 12) (h : bl_X12_walks_217 G K81 v0 v1 v7 s0 u = some (r, ur)) : tc_R p l e { frames := 2, cells := 0, slots := 0, locals := 48 } s m args below meth c z D cX12_walks RX12 12 (some .boolean) 0 0 (tc_po r G ur) 0 0 G u 217 [(0, .ref (z + v0)), (1, .int v1), (7, .int v7)] [.int s0] := by
  unfold bl_X12_walks_217 at h
  refine tc_istore [(6, .int s0), (0, .ref (z + v0)), (1, .int v1), (7, .int v7)] dX12_walks_217 (by decide) rfl ?_
  refine tc_aload_n 1 rfl dX12_walks_219 ?_
  refine tc_iload_n 2 rfl dX12_walks_220 ?_
  refine tc_iload 0 rfl dX12_walks_221 ?_
  obtain ⟨x9, u10, hq11, h⟩ := tc_b_ex h
  refine tc_callVi [.int v1, .int s0] dX12_walks_223 iv0.1 (ct_X12_emptyIn hW iv0 hq11) ml_X12_99 mw_X12_emptyIn mv_X12_emptyIn ⟨Nat.le_of_ble_eq_true rfl, Nat.le_of_ble_eq_true rfl⟩ rfl rfl (Nat.le_of_ble_eq_true rfl) ⟨Nat.le_refl _, Nat.le_refl _⟩ (by decide) ?_
  refine tc_istore [(10, .int x9), (6, .int s0), (0, .ref (z + v0)), (1, .int v1), (7, .int v7)] dX12_walks_226 (by decide) rfl ?_
  refine tc_iload 0 rfl dX12_walks_228 ?_
  refine tc_if_ge 236 dX12_walks_230 (by decide) (fun hc12 => ?_) (fun hc12 => ?_)
  · rw [if_pos hc12] at h
    refine tc_iconst (v := 0) (by decide) dX12_walks_236 ?_
    refine tc_istore [(11, .int 0), (10, .int x9), (6, .int s0), (0, .ref (z + v0)), (1, .int v1), (7, .int v7)] dX12_walks_237 (by decide) rfl ?_
    refine tc_lvs [3, 4, 2, 1, 0] rfl ?_
    exact sl_X12_walks_239 hW r ur  _ v0 v1 s0 x9 0 u10 iv0 h
  · rw [if_neg hc12] at h
    refine tc_goto 276 dX12_walks_233 (by decide) ?_
    obtain ⟨x13, ex13, h⟩ := tc_let_ex h
    refine tc_iinc 4 (v := x13) [(7, .int x13), (10, .int x9), (6, .int s0), (0, .ref (z + v0)), (1, .int v1)] dX12_walks_276 rfl (by rw [ex13]; rfl) (by decide) rfl ?_
    refine tc_goto 81 dX12_walks_279 (by decide) ?_
    refine tc_lvs [3, 4, 2, 0] rfl ?_
    exact hK81 v0 v1 s0 x13 u10 iv0 h
set_option maxRecDepth 100000 in
set_option maxHeartbeats 4000000 in
theorem sl_X12_walks_118 {p : Program} {l : Launch} {e : Env} {s : State} {m : MethodId} {args : Array Value} {below : List Frame} {meth : Method} {c : Code} {z : Nat} {D : tc_D} {G : tc_G} (hW : tc_W G) (r : Int32) (ur : tc_S) (K81 : Nat → Int32 → Int32 → Int32 → tc_S → Option (Int32 × tc_S)) (hK81 : ∀ (v0 : Nat) (v1 : Int32) (v6 : Int32) (v7 : Int32) (u : tc_S), tc_is G v0 12 → K81 v0 v1 v6 v7 u = some (r, ur) → tc_R p l e { frames := 2, cells := 0, slots := 0, locals := 48 } s m args below meth c z D cX12_walks RX12 12 (some .boolean) 0 0 (tc_po r G ur) 0 0 G u 81 [(0, .ref (z + v0)), (1, .int v1), (6, .int v6), (7, .int v7)] []) : ∀ (n : Nat) (v0 : Nat) (v1 : Int32) (v6 : Int32) (v7 : Int32) (v8 : Int32) (v9 : Int32) (u : tc_S) (iv0 : tc_is G v0 12) (h : lo_X12_walks_118 G K81 n v0 v1 v6 v7 v8 v9 u = some (r, ur)), tc_R p l e { frames := 2, cells := 0, slots := 0, locals := 48 } s m args below meth c z D cX12_walks RX12 12 (some .boolean) 0 0 (tc_po r G ur) 0 0 G u 118 [(0, .ref (z + v0)), (1, .int v1), (6, .int v6), (7, .int v7), (8, .int v8), (9, .int v9)] [] := by
  intro n
  induction n with
  | zero => intro v0 v1 v6 v7 v8 v9 u iv0 h; cases h
  | succ n ih =>
    intro v0 v1 v6 v7 v8 v9 u iv0 h
    rw [lo_X12_walks_118] at h
    refine tc_iload 5 rfl dX12_walks_118 ?_
    refine tc_iconst (v := 4) (by decide) dX12_walks_120 ?_
    refine tc_icmp_ge 178 dX12_walks_121 (by decide) (fun hc14 => ?_) (fun hc14 => ?_)
    · rw [if_pos hc14] at h
      refine tc_aload_n 0 rfl dX12_walks_178 ?_
      refine tc_getp hW iv0 fl_X12_33 dX12_walks_179 rfl ?_
      refine tc_iconst (v := 3) (by decide) dX12_walks_182 ?_
      refine tc_dup2 rfl rfl dX12_walks_183 ?_
      obtain ⟨bx15, x15, ex15, h⟩ := tc_ld_ex h
      refine tc_iald (hW.p iv0 9 rfl).1 bx15 dX12_walks_184 ?_
      refine tc_nm ex15 ?_
      refine tc_iconst (v := 1) (by decide) dX12_walks_185 ?_
      refine tc_iadd dX12_walks_186 ?_
      obtain ⟨bu16, u16, eu16, h⟩ := tc_sd_ex h
      refine tc_iast (hW.p iv0 9 rfl).1 bu16 dX12_walks_187 ?_
      refine tc_nmu eu16 ?_
      refine tc_aload_n 0 rfl dX12_walks_188 ?_
      refine tc_iload_n 1 rfl dX12_walks_189 ?_
      refine tc_aload_n 0 rfl dX12_walks_190 ?_
      refine tc_getp hW iv0 fl_X12_33 dX12_walks_191 rfl ?_
      refine tc_iconst (v := 0) (by decide) dX12_walks_194 ?_
      obtain ⟨bx17, x17, ex17, h⟩ := tc_ld_ex h
      refine tc_iald (hW.p iv0 9 rfl).1 bx17 dX12_walks_195 ?_
      refine tc_nm ex17 ?_
      refine tc_iconst (v := 1) (by decide) dX12_walks_196 ?_
      refine tc_isub dX12_walks_197 ?_
      refine tc_iload 2 rfl dX12_walks_198 ?_
      obtain ⟨x18, u19, hq20, h⟩ := tc_b_ex h
      refine tc_callVi [.int v1, .int (x17 - 1), .int v6] dX12_walks_200 iv0.1 (ct_X12_otherOf hW iv0 hq20) ml_X12_107 mw_X12_otherOf mv_X12_otherOf ⟨Nat.le_of_ble_eq_true rfl, Nat.le_of_ble_eq_true rfl⟩ rfl rfl (Nat.le_of_ble_eq_true rfl) ⟨Nat.le_refl _, Nat.le_refl _⟩ (by decide) ?_
      refine tc_istore [(9, .int x18), (0, .ref (z + v0)), (1, .int v1), (6, .int v6), (7, .int v7), (8, .int v8)] dX12_walks_203 (by decide) rfl ?_
      refine tc_iload 0 rfl dX12_walks_205 ?_
      refine tc_if_ge 215 dX12_walks_207 (by decide) (fun hc21 => ?_) (fun hc21 => ?_)
      · rw [if_pos hc21] at h
        refine tc_iload 0 rfl dX12_walks_215 ?_
        refine tc_lvs [1, 2, 4] rfl ?_
        exact sb_X12_walks_217 hW r ur K81 hK81 v0 v1 v7 x18 u19 iv0 h
      · rw [if_neg hc21] at h
        refine tc_iload 3 rfl dX12_walks_210 ?_
        refine tc_goto 217 dX12_walks_212 (by decide) ?_
        refine tc_lvs [1, 2, 4] rfl ?_
        exact sb_X12_walks_217 hW r ur K81 hK81 v0 v1 v7 v6 u19 iv0 h
    · rw [if_neg hc14] at h
      refine tc_aload_n 0 rfl dX12_walks_124 ?_
      refine tc_getp hW iv0 fl_X12_36 dX12_walks_125 rfl ?_
      refine tc_iload 5 rfl dX12_walks_128 ?_
      refine tc_aload_n 0 rfl dX12_walks_130 ?_
      refine tc_getp hW iv0 fl_X12_7 dX12_walks_131 rfl ?_
      refine tc_iload 4 rfl dX12_walks_134 ?_
      refine tc_iload 5 rfl dX12_walks_136 ?_
      refine tc_iadd dX12_walks_138 ?_
      obtain ⟨bx22, x22, ex22, h⟩ := tc_ld_ex h
      refine tc_iald (hW.p iv0 0 rfl).1 bx22 dX12_walks_139 ?_
      refine tc_nm ex22 ?_
      obtain ⟨bu23, u23, eu23, h⟩ := tc_sd_ex h
      refine tc_iast (hW.p iv0 10 rfl).1 bu23 dX12_walks_140 ?_
      refine tc_nmu eu23 ?_
      refine tc_aload_n 0 rfl dX12_walks_141 ?_
      refine tc_getp hW iv0 fl_X12_7 dX12_walks_142 rfl ?_
      refine tc_iload 4 rfl dX12_walks_145 ?_
      refine tc_iload 5 rfl dX12_walks_147 ?_
      refine tc_iadd dX12_walks_149 ?_
      refine tc_aload_n 0 rfl dX12_walks_150 ?_
      refine tc_getp hW iv0 fl_X12_33 dX12_walks_151 rfl ?_
      refine tc_iload 5 rfl dX12_walks_154 ?_
      obtain ⟨bx24, x24, ex24, h⟩ := tc_ld_ex h
      refine tc_iald (hW.p iv0 9 rfl).1 bx24 dX12_walks_156 ?_
      refine tc_nm ex24 ?_
      obtain ⟨bu25, u25, eu25, h⟩ := tc_sd_ex h
      refine tc_iast (hW.p iv0 0 rfl).1 bu25 dX12_walks_157 ?_
      refine tc_nmu eu25 ?_
      refine tc_aload_n 0 rfl dX12_walks_158 ?_
      refine tc_getp hW iv0 fl_X12_33 dX12_walks_159 rfl ?_
      refine tc_iload 5 rfl dX12_walks_162 ?_
      refine tc_aload_n 0 rfl dX12_walks_164 ?_
      refine tc_getp hW iv0 fl_X12_36 dX12_walks_165 rfl ?_
      refine tc_iload 5 rfl dX12_walks_168 ?_
      obtain ⟨bx26, x26, ex26, h⟩ := tc_ld_ex h
      refine tc_iald (hW.p iv0 10 rfl).1 bx26 dX12_walks_170 ?_
      refine tc_nm ex26 ?_
      obtain ⟨bu27, u27, eu27, h⟩ := tc_sd_ex h
      refine tc_iast (hW.p iv0 9 rfl).1 bu27 dX12_walks_171 ?_
      refine tc_nmu eu27 ?_
      obtain ⟨x28, ex28, h⟩ := tc_let_ex h
      refine tc_iinc 5 (v := x28) [(9, .int x28), (0, .ref (z + v0)), (1, .int v1), (6, .int v6), (7, .int v7), (8, .int v8)] dX12_walks_172 rfl (by rw [ex28]; rfl) (by decide) rfl ?_
      refine tc_goto 118 dX12_walks_175 (by decide) ?_
      refine tc_lvs [1, 2, 3, 4, 5, 0] rfl ?_
      exact ih v0 v1 v6 v7 v8 x28 u27 iv0 h
set_option maxRecDepth 100000 in
set_option maxHeartbeats 4000000 in
theorem sl_X12_walks_81 {p : Program} {l : Launch} {e : Env} {s : State} {m : MethodId} {args : Array Value} {below : List Frame} {meth : Method} {c : Code} {z : Nat} {D : tc_D} {G : tc_G} (hW : tc_W G) (r : Int32) (ur : tc_S) : ∀ (n : Nat) (v0 : Nat) (v1 : Int32) (v6 : Int32) (v7 : Int32) (u : tc_S) (iv0 : tc_is G v0 12) (h : lo_X12_walks_81 G n v0 v1 v6 v7 u = some (r, ur)), tc_R p l e { frames := 2, cells := 0, slots := 0, locals := 48 } s m args below meth c z D cX12_walks RX12 12 (some .boolean) 0 0 (tc_po r G ur) 0 0 G u 81 [(0, .ref (z + v0)), (1, .int v1), (6, .int v6), (7, .int v7)] [] := by
  intro n
  induction n with
  | zero => intro v0 v1 v6 v7 u iv0 h; cases h
  | succ n ih =>
    intro v0 v1 v6 v7 u iv0 h
    rw [lo_X12_walks_81] at h
    refine tc_iload 3 rfl dX12_walks_81 ?_
    refine tc_aload_n 0 rfl dX12_walks_83 ?_
    refine tc_getp hW iv0 fl_X12_7 dX12_walks_84 rfl ?_
    refine tc_iload_n 1 rfl dX12_walks_87 ?_
    refine tc_iconst (v := 3) (by decide) dX12_walks_88 ?_
    refine tc_iadd dX12_walks_89 ?_
    obtain ⟨bx29, x29, ex29, h⟩ := tc_ld_ex h
    refine tc_iald (hW.p iv0 0 rfl).1 bx29 dX12_walks_90 ?_
    refine tc_nm ex29 ?_
    refine tc_icmp_ge 282 dX12_walks_91 (by decide) (fun hc30 => ?_) (fun hc30 => ?_)
    · rw [if_pos hc30] at h
      refine tc_aload_n 0 rfl dX12_walks_282 ?_
      refine tc_sipush (v := 876) (by decide) dX12_walks_283 ?_
      refine tc_iload_n 1 rfl dX12_walks_286 ?_
      obtain ⟨x31, u32, hq33, h⟩ := tc_b_ex h
      refine tc_callVv [.int 876, .int v1] dX12_walks_287 iv0.1 (ct_X12_comesBack hW iv0 hq33) ml_X12_122 mw_X12_comesBack mv_X12_comesBack ⟨Nat.le_of_ble_eq_true rfl, Nat.le_of_ble_eq_true rfl⟩ rfl rfl (Nat.le_of_ble_eq_true rfl) ⟨Nat.le_refl _, Nat.le_refl _⟩ (by decide) ?_
      refine tc_iconst (v := 0) (by decide) dX12_walks_290 ?_
      obtain ⟨hz34, h⟩ := tc_zo_ex h
      cases h
      exact tc_zreturn hz34 rfl dX12_walks_291 rfl rfl ⟨rfl, rfl, rfl⟩
    · rw [if_neg hc30] at h
      refine tc_iload_n 1 rfl dX12_walks_94 ?_
      refine tc_iload 2 rfl dX12_walks_95 ?_
      refine tc_aload_n 0 rfl dX12_walks_97 ?_
      refine tc_iload_n 1 rfl dX12_walks_98 ?_
      refine tc_aload_n 0 rfl dX12_walks_99 ?_
      refine tc_getp hW iv0 fl_X12_7 dX12_walks_100 rfl ?_
      refine tc_iload_n 1 rfl dX12_walks_103 ?_
      refine tc_iconst (v := 1) (by decide) dX12_walks_104 ?_
      refine tc_iadd dX12_walks_105 ?_
      obtain ⟨bx35, x35, ex35, h⟩ := tc_ld_ex h
      refine tc_iald (hW.p iv0 0 rfl).1 bx35 dX12_walks_106 ?_
      refine tc_nm ex35 ?_
      obtain ⟨x36, u37, hq38, h⟩ := tc_b_ex h
      refine tc_callVi [.int v1, .int x35] dX12_walks_107 iv0.1 (ct_X12_draws hW iv0 hq38) ml_X12_119 mw_X12_draws mv_X12_draws ⟨Nat.le_of_ble_eq_true rfl, Nat.le_of_ble_eq_true rfl⟩ rfl rfl (Nat.le_of_ble_eq_true rfl) ⟨Nat.le_refl _, Nat.le_refl _⟩ (by decide) ?_
      obtain ⟨x39, u40, hq41, h⟩ := tc_b_ex h
      refine tc_callSi [.int v1, .int v6, .int x36] dX12_walks_110 (ct_X12_cell hW hq41) ml_X12_92 mw_X12_cell ms_X12_cell ⟨Nat.le_of_ble_eq_true rfl, Nat.le_of_ble_eq_true rfl⟩ rfl rfl (Nat.le_of_ble_eq_true rfl) ⟨Nat.le_refl _, Nat.le_refl _⟩ ?_
      refine tc_istore [(8, .int x39), (0, .ref (z + v0)), (1, .int v1), (6, .int v6), (7, .int v7)] dX12_walks_113 (by decide) rfl ?_
      refine tc_iconst (v := 0) (by decide) dX12_walks_115 ?_
      refine tc_istore [(9, .int 0), (8, .int x39), (0, .ref (z + v0)), (1, .int v1), (6, .int v6), (7, .int v7)] dX12_walks_116 (by decide) rfl ?_
      refine tc_lvs [2, 3, 4, 5, 1, 0] rfl ?_
      exact sl_X12_walks_118 hW r ur _ ih _ v0 v1 v6 v7 x39 0 u40 iv0 h
set_option maxRecDepth 100000 in
set_option maxHeartbeats 4000000 in
theorem sl_X12_walks_3 {p : Program} {l : Launch} {e : Env} {s : State} {m : MethodId} {args : Array Value} {below : List Frame} {meth : Method} {c : Code} {z : Nat} {D : tc_D} {G : tc_G} (hW : tc_W G) (r : Int32) (ur : tc_S) : ∀ (n : Nat) (v0 : Nat) (v1 : Int32) (v2 : Int32) (v3 : Int32) (v4 : Int32) (v5 : Int32) (v6 : Int32) (u : tc_S) (iv0 : tc_is G v0 12) (h : lo_X12_walks_3 G n v0 v1 v2 v3 v4 v5 v6 u = some (r, ur)), tc_R p l e { frames := 2, cells := 0, slots := 0, locals := 48 } s m args below meth c z D cX12_walks RX12 12 (some .boolean) 0 0 (tc_po r G ur) 0 0 G u 3 [(0, .ref (z + v0)), (1, .int v1), (2, .int v2), (3, .int v3), (4, .int v4), (5, .int v5), (6, .int v6)] [] := by
  intro n
  induction n with
  | zero => intro v0 v1 v2 v3 v4 v5 v6 u iv0 h; cases h
  | succ n ih =>
    intro v0 v1 v2 v3 v4 v5 v6 u iv0 h
    rw [lo_X12_walks_3] at h
    refine tc_iload 6 rfl dX12_walks_3 ?_
    refine tc_sipush (v := 292) (by decide) dX12_walks_5 ?_
    refine tc_icmp_ge 37 dX12_walks_8 (by decide) (fun hc42 => ?_) (fun hc42 => ?_)
    · rw [if_pos hc42] at h
      refine tc_aload_n 0 rfl dX12_walks_37 ?_
      refine tc_getp hW iv0 fl_X12_33 dX12_walks_38 rfl ?_
      refine tc_iconst (v := 0) (by decide) dX12_walks_41 ?_
      refine tc_iload_n 2 rfl dX12_walks_42 ?_
      refine tc_iconst (v := 1) (by decide) dX12_walks_43 ?_
      refine tc_iadd dX12_walks_44 ?_
      obtain ⟨bu43, u43, eu43, h⟩ := tc_sd_ex h
      refine tc_iast (hW.p iv0 9 rfl).1 bu43 dX12_walks_45 ?_
      refine tc_nmu eu43 ?_
      refine tc_aload_n 0 rfl dX12_walks_46 ?_
      refine tc_getp hW iv0 fl_X12_33 dX12_walks_47 rfl ?_
      refine tc_iconst (v := 1) (by decide) dX12_walks_50 ?_
      refine tc_iload_n 3 rfl dX12_walks_51 ?_
      obtain ⟨bu44, u44, eu44, h⟩ := tc_sd_ex h
      refine tc_iast (hW.p iv0 9 rfl).1 bu44 dX12_walks_52 ?_
      refine tc_nmu eu44 ?_
      refine tc_aload_n 0 rfl dX12_walks_53 ?_
      refine tc_getp hW iv0 fl_X12_33 dX12_walks_54 rfl ?_
      refine tc_iconst (v := 2) (by decide) dX12_walks_57 ?_
      refine tc_iload 4 rfl dX12_walks_58 ?_
      obtain ⟨bu45, u45, eu45, h⟩ := tc_sd_ex h
      refine tc_iast (hW.p iv0 9 rfl).1 bu45 dX12_walks_60 ?_
      refine tc_nmu eu45 ?_
      refine tc_aload_n 0 rfl dX12_walks_61 ?_
      refine tc_getp hW iv0 fl_X12_33 dX12_walks_62 rfl ?_
      refine tc_iconst (v := 3) (by decide) dX12_walks_65 ?_
      refine tc_iload 5 rfl dX12_walks_66 ?_
      obtain ⟨bu46, u46, eu46, h⟩ := tc_sd_ex h
      refine tc_iast (hW.p iv0 9 rfl).1 bu46 dX12_walks_68 ?_
      refine tc_nmu eu46 ?_
      refine tc_aload_n 0 rfl dX12_walks_69 ?_
      refine tc_iload_n 1 rfl dX12_walks_70 ?_
      refine tc_iload_n 2 rfl dX12_walks_71 ?_
      refine tc_iconst (v := 0) (by decide) dX12_walks_72 ?_
      obtain ⟨x47, u48, hq49, h⟩ := tc_b_ex h
      refine tc_callVi [.int v1, .int v2, .int 0] dX12_walks_73 iv0.1 (ct_X12_hashOf hW iv0 hq49) ml_X12_88 mw_X12_hashOf mv_X12_hashOf ⟨Nat.le_of_ble_eq_true rfl, Nat.le_of_ble_eq_true rfl⟩ rfl rfl (Nat.le_of_ble_eq_true rfl) ⟨Nat.le_refl _, Nat.le_refl _⟩ (by decide) ?_
      refine tc_istore [(6, .int x47), (0, .ref (z + v0)), (1, .int v1), (2, .int v2), (3, .int v3), (4, .int v4), (5, .int v5)] dX12_walks_76 (by decide) rfl ?_
      refine tc_iconst (v := 0) (by decide) dX12_walks_78 ?_
      refine tc_istore [(7, .int 0), (6, .int x47), (0, .ref (z + v0)), (1, .int v1), (2, .int v2), (3, .int v3), (4, .int v4), (5, .int v5)] dX12_walks_79 (by decide) rfl ?_
      refine tc_lvs [2, 3, 1, 0] rfl ?_
      exact sl_X12_walks_81 hW r ur  _ v0 v1 x47 0 u48 iv0 h
    · rw [if_neg hc42] at h
      refine tc_aload_n 0 rfl dX12_walks_11 ?_
      refine tc_getp hW iv0 fl_X12_7 dX12_walks_12 rfl ?_
      refine tc_sipush (v := 876) (by decide) dX12_walks_15 ?_
      refine tc_iload 6 rfl dX12_walks_18 ?_
      refine tc_iadd dX12_walks_20 ?_
      refine tc_aload_n 0 rfl dX12_walks_21 ?_
      refine tc_getp hW iv0 fl_X12_7 dX12_walks_22 rfl ?_
      refine tc_iload_n 1 rfl dX12_walks_25 ?_
      refine tc_iload 6 rfl dX12_walks_26 ?_
      refine tc_iadd dX12_walks_28 ?_
      obtain ⟨bx50, x50, ex50, h⟩ := tc_ld_ex h
      refine tc_iald (hW.p iv0 0 rfl).1 bx50 dX12_walks_29 ?_
      refine tc_nm ex50 ?_
      obtain ⟨bu51, u51, eu51, h⟩ := tc_sd_ex h
      refine tc_iast (hW.p iv0 0 rfl).1 bu51 dX12_walks_30 ?_
      refine tc_nmu eu51 ?_
      obtain ⟨x52, ex52, h⟩ := tc_let_ex h
      refine tc_iinc 6 (v := x52) [(6, .int x52), (0, .ref (z + v0)), (1, .int v1), (2, .int v2), (3, .int v3), (4, .int v4), (5, .int v5)] dX12_walks_31 rfl (by rw [ex52]; rfl) (by decide) rfl ?_
      refine tc_goto 3 dX12_walks_34 (by decide) ?_
      refine tc_lvs [1, 2, 3, 4, 5, 6, 0] rfl ?_
      exact ih v0 v1 v2 v3 v4 v5 x52 u51 iv0 h
set_option maxRecDepth 100000 in
set_option maxHeartbeats 4000000 in
theorem ct_X12_walks {l : Launch} {z : Nat} {D : tc_D} {G : tc_G} (hW : tc_W G) {v0 : Nat} {v1 : Int32} {v2 : Int32} {v3 : Int32} {v4 : Int32} {v5 : Int32} {u : tc_S} {r : Int32} {ur : tc_S} (iv0 : tc_is G v0 12) (h : fn_X12_walks G v0 v1 v2 v3 v4 v5 u = some (r, ur)) : tc_C l z D yX12_walks cX12_walks 12 (some .boolean) 2 48 0 0 [.ref (z + v0), .int v1, .int v2, .int v3, .int v4, .int v5] G u (tc_po r G ur) := by
  unfold fn_X12_walks at h
  refine tc_C.of (by decide) (Nat.le_of_ble_eq_true rfl) fun p e s m args below meth c => ?_
  show tc_R p l e { frames := 2, cells := 0, slots := 0, locals := 48 } s m args below meth c z D cX12_walks RX12 12 (some .boolean) 0 0 (tc_po r G ur) 0 0 G u 0 [(0, .ref (z + v0)), (1, .int v1), (2, .int v2), (3, .int v3), (4, .int v4), (5, .int v5)] []
  refine tc_iconst (v := 0) (by decide) dX12_walks_0 ?_
  refine tc_istore [(6, .int 0), (0, .ref (z + v0)), (1, .int v1), (2, .int v2), (3, .int v3), (4, .int v4), (5, .int v5)] dX12_walks_1 (by decide) rfl ?_
  refine tc_lvs [1, 2, 3, 4, 5, 6, 0] rfl ?_
  exact sl_X12_walks_3 hW r ur  _ v0 v1 v2 v3 v4 v5 0 u iv0 h
set_option maxRecDepth 100000 in
set_option maxHeartbeats 4000000 in
theorem sb_X12_comesIn_116 {p : Program} {l : Launch} {e : Env} {s : State} {m : MethodId} {args : Array Value} {below : List Frame} {meth : Method} {c : Code} {z : Nat} {D : tc_D} {G : tc_G} (hW : tc_W G) (r : Int32) (ur : tc_S) (v0 : Nat) (v1 : Int32) (v2 : Int32) (v3 : Int32) (v4 : Int32) (v5 : Int32) (u : tc_S) (iv0 : tc_is G v0 12) (h : bl_X12_comesIn_116 G v0 v1 v2 v3 v4 v5 u = some (r, ur)) : tc_R p l e { frames := 4, cells := 0, slots := 0, locals := 104 } s m args below meth c z D cX12_comesIn RX12 8 (some .int) 0 0 (tc_po r G ur) 0 0 G u 116 [(0, .ref (z + v0)), (1, .int v1), (2, .int v2), (3, .int v3), (4, .int v4), (5, .int v5)] [] := by
  unfold bl_X12_comesIn_116 at h
  refine tc_aload_n 0 rfl dX12_comesIn_116 ?_
  refine tc_getp hW iv0 fl_X12_7 dX12_comesIn_117 rfl ?_
  refine tc_iload_n 1 rfl dX12_comesIn_120 ?_
  refine tc_bipush (v := 18) (by decide) dX12_comesIn_121 ?_
  refine tc_iadd dX12_comesIn_123 ?_
  obtain ⟨bx1, x1, ex1, h⟩ := tc_ld_ex h
  refine tc_iald (hW.p iv0 0 rfl).1 bx1 dX12_comesIn_124 ?_
  refine tc_nm ex1 ?_
  refine tc_aload_n 0 rfl dX12_comesIn_125 ?_
  refine tc_getp hW iv0 fl_X12_7 dX12_comesIn_126 rfl ?_
  refine tc_iload_n 1 rfl dX12_comesIn_129 ?_
  refine tc_iconst (v := 2) (by decide) dX12_comesIn_130 ?_
  refine tc_iadd dX12_comesIn_131 ?_
  obtain ⟨bx2, x2, ex2, h⟩ := tc_ld_ex h
  refine tc_iald (hW.p iv0 0 rfl).1 bx2 dX12_comesIn_132 ?_
  refine tc_nm ex2 ?_
  refine tc_icmp_ne 138 dX12_comesIn_133 (by decide) (fun hc3 => ?_) (fun hc3 => ?_)
  · rw [if_neg hc3] at h
    refine tc_aload_n 0 rfl dX12_comesIn_138 ?_
    refine tc_iload_n 1 rfl dX12_comesIn_139 ?_
    refine tc_bipush (v := 100) (by decide) dX12_comesIn_140 ?_
    refine tc_aload_n 0 rfl dX12_comesIn_142 ?_
    refine tc_getp hW iv0 fl_X12_7 dX12_comesIn_143 rfl ?_
    refine tc_iload_n 1 rfl dX12_comesIn_146 ?_
    refine tc_bipush (v := 18) (by decide) dX12_comesIn_147 ?_
    refine tc_iadd dX12_comesIn_149 ?_
    obtain ⟨bx4, x4, ex4, h⟩ := tc_ld_ex h
    refine tc_iald (hW.p iv0 0 rfl).1 bx4 dX12_comesIn_150 ?_
    refine tc_nm ex4 ?_
    obtain ⟨x5, u6, hq7, h⟩ := tc_b_ex h
    refine tc_callSi [.int v1, .int 100, .int x4] dX12_comesIn_151 (ct_X12_cell hW hq7) ml_X12_92 mw_X12_cell ms_X12_cell ⟨Nat.le_of_ble_eq_true rfl, Nat.le_of_ble_eq_true rfl⟩ rfl rfl (Nat.le_of_ble_eq_true rfl) ⟨Nat.le_refl _, Nat.le_refl _⟩ ?_
    refine tc_iload_n 2 rfl dX12_comesIn_154 ?_
    refine tc_iload_n 3 rfl dX12_comesIn_155 ?_
    refine tc_iload 4 rfl dX12_comesIn_156 ?_
    refine tc_iload 5 rfl dX12_comesIn_158 ?_
    obtain ⟨x8, u9, hq10, h⟩ := tc_b_ex h
    refine tc_callVv [.int x5, .int v2, .int v3, .int v4, .int v5] dX12_comesIn_160 iv0.1 (ct_X12_lays hW iv0 hq10) ml_X12_128 mw_X12_lays mv_X12_lays ⟨Nat.le_of_ble_eq_true rfl, Nat.le_of_ble_eq_true rfl⟩ rfl rfl (Nat.le_of_ble_eq_true rfl) ⟨Nat.le_refl _, Nat.le_refl _⟩ (by decide) ?_
    refine tc_aload_n 0 rfl dX12_comesIn_163 ?_
    refine tc_getp hW iv0 fl_X12_7 dX12_comesIn_164 rfl ?_
    refine tc_iload_n 1 rfl dX12_comesIn_167 ?_
    refine tc_bipush (v := 18) (by decide) dX12_comesIn_168 ?_
    refine tc_iadd dX12_comesIn_170 ?_
    refine tc_dup2 rfl rfl dX12_comesIn_171 ?_
    obtain ⟨bx11, x11, ex11, h⟩ := tc_ld_ex h
    refine tc_iald (hW.p iv0 0 rfl).1 bx11 dX12_comesIn_172 ?_
    refine tc_nm ex11 ?_
    refine tc_iconst (v := 1) (by decide) dX12_comesIn_173 ?_
    refine tc_iadd dX12_comesIn_174 ?_
    obtain ⟨bu12, u12, eu12, h⟩ := tc_sd_ex h
    refine tc_iast (hW.p iv0 0 rfl).1 bu12 dX12_comesIn_175 ?_
    refine tc_nmu eu12 ?_
    refine tc_iconst (v := 3) (by decide) dX12_comesIn_176 ?_
    cases h
    exact tc_ireturn rfl dX12_comesIn_177 rfl rfl ⟨rfl, rfl, rfl⟩
  · rw [if_pos hc3] at h
    refine tc_iconst (v := 0) (by decide) dX12_comesIn_136 ?_
    cases h
    exact tc_ireturn rfl dX12_comesIn_137 rfl rfl ⟨rfl, rfl, rfl⟩
set_option maxRecDepth 100000 in
set_option maxHeartbeats 4000000 in
theorem sb_X12_comesIn_88 {p : Program} {l : Launch} {e : Env} {s : State} {m : MethodId} {args : Array Value} {below : List Frame} {meth : Method} {c : Code} {z : Nat} {D : tc_D} {G : tc_G} (hW : tc_W G) (r : Int32) (ur : tc_S) (v0 : Nat) (v1 : Int32) (v2 : Int32) (v3 : Int32) (v4 : Int32) (v5 : Int32) (u : tc_S) (iv0 : tc_is G v0 12) (h : bl_X12_comesIn_88 G v0 v1 v2 v3 v4 v5 u = some (r, ur)) : tc_R p l e { frames := 4, cells := 0, slots := 0, locals := 104 } s m args below meth c z D cX12_comesIn RX12 8 (some .int) 0 0 (tc_po r G ur) 0 0 G u 88 [(0, .ref (z + v0)), (1, .int v1), (2, .int v2), (3, .int v3), (4, .int v4), (5, .int v5)] [] := by
  unfold bl_X12_comesIn_88 at h
  refine tc_aload_n 0 rfl dX12_comesIn_88 ?_
  refine tc_getp hW iv0 fl_X12_7 dX12_comesIn_89 rfl ?_
  refine tc_iload_n 1 rfl dX12_comesIn_92 ?_
  refine tc_iconst (v := 5) (by decide) dX12_comesIn_93 ?_
  refine tc_iadd dX12_comesIn_94 ?_
  obtain ⟨bx13, x13, ex13, h⟩ := tc_ld_ex h
  refine tc_iald (hW.p iv0 0 rfl).1 bx13 dX12_comesIn_95 ?_
  refine tc_nm ex13 ?_
  refine tc_iconst (v := 1) (by decide) dX12_comesIn_96 ?_
  refine tc_icmp_ne 116 dX12_comesIn_97 (by decide) (fun hc14 => ?_) (fun hc14 => ?_)
  · rw [if_neg hc14] at h
    exact sb_X12_comesIn_116 hW r ur  v0 v1 v2 v3 v4 v5 u iv0 h
  · rw [if_pos hc14] at h
    refine tc_aload_n 0 rfl dX12_comesIn_100 ?_
    refine tc_iload_n 1 rfl dX12_comesIn_101 ?_
    refine tc_iload_n 2 rfl dX12_comesIn_102 ?_
    refine tc_iload_n 3 rfl dX12_comesIn_103 ?_
    refine tc_iload 4 rfl dX12_comesIn_104 ?_
    refine tc_iload 5 rfl dX12_comesIn_106 ?_
    obtain ⟨x15, u16, hq17, h⟩ := tc_b_ex h
    refine tc_callVi [.int v1, .int v2, .int v3, .int v4, .int v5] dX12_comesIn_108 iv0.1 (ct_X12_walks hW iv0 hq17) ml_X12_138 mw_X12_walks mv_X12_walks ⟨Nat.le_of_ble_eq_true rfl, Nat.le_of_ble_eq_true rfl⟩ rfl rfl (Nat.le_of_ble_eq_true rfl) ⟨Nat.le_refl _, Nat.le_refl _⟩ (by decide) ?_
    refine tc_if_eq 116 dX12_comesIn_111 (by decide) (fun hc18 => ?_) (fun hc18 => ?_)
    · rw [if_pos hc18] at h
      exact sb_X12_comesIn_116 hW r ur  v0 v1 v2 v3 v4 v5 u16 iv0 h
    · rw [if_neg hc18] at h
      refine tc_iconst (v := 2) (by decide) dX12_comesIn_114 ?_
      cases h
      exact tc_ireturn rfl dX12_comesIn_115 rfl rfl ⟨rfl, rfl, rfl⟩
set_option maxRecDepth 100000 in
set_option maxHeartbeats 4000000 in
theorem sb_X12_comesIn_49 {p : Program} {l : Launch} {e : Env} {s : State} {m : MethodId} {args : Array Value} {below : List Frame} {meth : Method} {c : Code} {z : Nat} {D : tc_D} {G : tc_G} (hW : tc_W G) (r : Int32) (ur : tc_S) (v0 : Nat) (v1 : Int32) (v2 : Int32) (v3 : Int32) (v4 : Int32) (v5 : Int32) (s0 : Int32) (u : tc_S) (iv0 : tc_is G v0 12) (h : bl_X12_comesIn_49 G v0 v1 v2 v3 v4 v5 s0 u = some (r, ur)) : tc_R p l e { frames := 4, cells := 0, slots := 0, locals := 104 } s m args below meth c z D cX12_comesIn RX12 8 (some .int) 0 0 (tc_po r G ur) 0 0 G u 49 [(0, .ref (z + v0)), (1, .int v1), (2, .int v2), (3, .int v3), (4, .int v4), (5, .int v5)] [.int s0] := by
  unfold bl_X12_comesIn_49 at h
  refine tc_istore [(7, .int s0), (0, .ref (z + v0)), (1, .int v1), (2, .int v2), (3, .int v3), (4, .int v4), (5, .int v5)] dX12_comesIn_49 (by decide) rfl ?_
  refine tc_iload 0 rfl dX12_comesIn_51 ?_
  refine tc_if_le 88 dX12_comesIn_53 (by decide) (fun hc19 => ?_) (fun hc19 => ?_)
  · rw [if_pos hc19] at h
    refine tc_lvs [1, 2, 3, 4, 5, 6] rfl ?_
    exact sb_X12_comesIn_88 hW r ur  v0 v1 v2 v3 v4 v5 u iv0 h
  · rw [if_neg hc19] at h
    refine tc_iload 0 rfl dX12_comesIn_56 ?_
    refine tc_aload_n 1 rfl dX12_comesIn_58 ?_
    refine tc_getp hW iv0 fl_X12_7 dX12_comesIn_59 rfl ?_
    refine tc_iload_n 2 rfl dX12_comesIn_62 ?_
    refine tc_iconst (v := 3) (by decide) dX12_comesIn_63 ?_
    refine tc_iadd dX12_comesIn_64 ?_
    obtain ⟨bx20, x20, ex20, h⟩ := tc_ld_ex h
    refine tc_iald (hW.p iv0 0 rfl).1 bx20 dX12_comesIn_65 ?_
    refine tc_nm ex20 ?_
    refine tc_icmp_gt 88 dX12_comesIn_66 (by decide) (fun hc21 => ?_) (fun hc21 => ?_)
    · rw [if_pos hc21] at h
      refine tc_lvs [1, 2, 3, 4, 5, 6] rfl ?_
      exact sb_X12_comesIn_88 hW r ur  v0 v1 v2 v3 v4 v5 u iv0 h
    · rw [if_neg hc21] at h
      refine tc_aload_n 1 rfl dX12_comesIn_69 ?_
      refine tc_aload_n 1 rfl dX12_comesIn_70 ?_
      refine tc_iload_n 2 rfl dX12_comesIn_71 ?_
      refine tc_iload 0 rfl dX12_comesIn_72 ?_
      obtain ⟨x22, u23, hq24, h⟩ := tc_b_ex h
      refine tc_callVi [.int v1, .int s0] dX12_comesIn_74 iv0.1 (ct_X12_opens hW iv0 hq24) ml_X12_135 mw_X12_opens mv_X12_opens ⟨Nat.le_of_ble_eq_true rfl, Nat.le_of_ble_eq_true rfl⟩ rfl rfl (Nat.le_of_ble_eq_true rfl) ⟨Nat.le_refl _, Nat.le_refl _⟩ (by decide) ?_
      refine tc_iload_n 3 rfl dX12_comesIn_77 ?_
      refine tc_iload_n 4 rfl dX12_comesIn_78 ?_
      refine tc_iload 5 rfl dX12_comesIn_79 ?_
      refine tc_iload 6 rfl dX12_comesIn_81 ?_
      obtain ⟨x25, u26, hq27, h⟩ := tc_b_ex h
      refine tc_callVv [.int x22, .int v2, .int v3, .int v4, .int v5] dX12_comesIn_83 iv0.1 (ct_X12_lays hW iv0 hq27) ml_X12_128 mw_X12_lays mv_X12_lays ⟨Nat.le_of_ble_eq_true rfl, Nat.le_of_ble_eq_true rfl⟩ rfl rfl (Nat.le_of_ble_eq_true rfl) ⟨Nat.le_refl _, Nat.le_refl _⟩ (by decide) ?_
      refine tc_iconst (v := 2) (by decide) dX12_comesIn_86 ?_
      cases h
      exact tc_ireturn rfl dX12_comesIn_87 rfl rfl ⟨rfl, rfl, rfl⟩
set_option maxRecDepth 100000 in
set_option maxHeartbeats 4000000 in
theorem ct_X12_comesIn {l : Launch} {z : Nat} {D : tc_D} {G : tc_G} (hW : tc_W G) {v0 : Nat} {v1 : Int32} {v2 : Int32} {v3 : Int32} {v4 : Int32} {v5 : Int32} {u : tc_S} {r : Int32} {ur : tc_S} (iv0 : tc_is G v0 12) (h : fn_X12_comesIn G v0 v1 v2 v3 v4 v5 u = some (r, ur)) : tc_C l z D yX12_comesIn cX12_comesIn 8 (some .int) 4 104 0 0 [.ref (z + v0), .int v1, .int v2, .int v3, .int v4, .int v5] G u (tc_po r G ur) := by
  unfold fn_X12_comesIn at h
  refine tc_C.of (by decide) (Nat.le_of_ble_eq_true rfl) fun p e s m args below meth c => ?_
  show tc_R p l e { frames := 4, cells := 0, slots := 0, locals := 104 } s m args below meth c z D cX12_comesIn RX12 8 (some .int) 0 0 (tc_po r G ur) 0 0 G u 0 [(0, .ref (z + v0)), (1, .int v1), (2, .int v2), (3, .int v3), (4, .int v4), (5, .int v5)] []
  refine tc_aload_n 0 rfl dX12_comesIn_0 ?_
  refine tc_iload_n 1 rfl dX12_comesIn_1 ?_
  refine tc_iload_n 2 rfl dX12_comesIn_2 ?_
  obtain ⟨x28, u29, hq30, h⟩ := tc_b_ex h
  refine tc_callVi [.int v1, .int v2] dX12_comesIn_3 iv0.1 (ct_X12_freeFor hW iv0 hq30) ml_X12_125 mw_X12_freeFor mv_X12_freeFor ⟨Nat.le_of_ble_eq_true rfl, Nat.le_of_ble_eq_true rfl⟩ rfl rfl (Nat.le_of_ble_eq_true rfl) ⟨Nat.le_refl _, Nat.le_refl _⟩ (by decide) ?_
  refine tc_istore [(6, .int x28), (0, .ref (z + v0)), (1, .int v1), (2, .int v2), (3, .int v3), (4, .int v4), (5, .int v5)] dX12_comesIn_6 (by decide) rfl ?_
  refine tc_iload 0 rfl dX12_comesIn_8 ?_
  refine tc_if_lt 27 dX12_comesIn_10 (by decide) (fun hc31 => ?_) (fun hc31 => ?_)
  · rw [if_pos hc31] at h
    refine tc_aload_n 1 rfl dX12_comesIn_27 ?_
    refine tc_getp hW iv0 fl_X12_7 dX12_comesIn_28 rfl ?_
    refine tc_iload_n 2 rfl dX12_comesIn_31 ?_
    refine tc_iconst (v := 5) (by decide) dX12_comesIn_32 ?_
    refine tc_iadd dX12_comesIn_33 ?_
    obtain ⟨bx32, x32, ex32, h⟩ := tc_ld_ex h
    refine tc_iald (hW.p iv0 0 rfl).1 bx32 dX12_comesIn_34 ?_
    refine tc_nm ex32 ?_
    refine tc_iconst (v := 2) (by decide) dX12_comesIn_35 ?_
    refine tc_icmp_ne 48 dX12_comesIn_36 (by decide) (fun hc33 => ?_) (fun hc33 => ?_)
    · rw [if_neg hc33] at h
      refine tc_iconst (v := (-1)) (by decide) dX12_comesIn_48 ?_
      refine tc_lvs [1, 2, 3, 4, 5, 6] rfl ?_
      exact sb_X12_comesIn_49 hW r ur  v0 v1 v2 v3 v4 v5 (-1) u29 iv0 h
    · rw [if_pos hc33] at h
      refine tc_aload_n 1 rfl dX12_comesIn_39 ?_
      refine tc_iload_n 2 rfl dX12_comesIn_40 ?_
      refine tc_iload_n 3 rfl dX12_comesIn_41 ?_
      obtain ⟨x34, u35, hq36, h⟩ := tc_b_ex h
      refine tc_callVi [.int v1, .int v2] dX12_comesIn_42 iv0.1 (ct_X12_chainOf hW iv0 hq36) ml_X12_132 mw_X12_chainOf mv_X12_chainOf ⟨Nat.le_of_ble_eq_true rfl, Nat.le_of_ble_eq_true rfl⟩ rfl rfl (Nat.le_of_ble_eq_true rfl) ⟨Nat.le_refl _, Nat.le_refl _⟩ (by decide) ?_
      refine tc_goto 49 dX12_comesIn_45 (by decide) ?_
      refine tc_lvs [1, 2, 3, 4, 5, 6] rfl ?_
      exact sb_X12_comesIn_49 hW r ur  v0 v1 v2 v3 v4 v5 x34 u35 iv0 h
  · rw [if_neg hc31] at h
    refine tc_aload_n 1 rfl dX12_comesIn_13 ?_
    refine tc_iload 0 rfl dX12_comesIn_14 ?_
    refine tc_iload_n 3 rfl dX12_comesIn_16 ?_
    refine tc_iload_n 4 rfl dX12_comesIn_17 ?_
    refine tc_iload 5 rfl dX12_comesIn_18 ?_
    refine tc_iload 6 rfl dX12_comesIn_20 ?_
    obtain ⟨x37, u38, hq39, h⟩ := tc_b_ex h
    refine tc_callVv [.int x28, .int v2, .int v3, .int v4, .int v5] dX12_comesIn_22 iv0.1 (ct_X12_lays hW iv0 hq39) ml_X12_128 mw_X12_lays mv_X12_lays ⟨Nat.le_of_ble_eq_true rfl, Nat.le_of_ble_eq_true rfl⟩ rfl rfl (Nat.le_of_ble_eq_true rfl) ⟨Nat.le_refl _, Nat.le_refl _⟩ (by decide) ?_
    refine tc_iconst (v := 1) (by decide) dX12_comesIn_25 ?_
    cases h
    exact tc_ireturn rfl dX12_comesIn_26 rfl rfl ⟨rfl, rfl, rfl⟩
set_option maxRecDepth 100000 in
set_option maxHeartbeats 4000000 in
theorem sl_X12_adds_11 {p : Program} {l : Launch} {e : Env} {s : State} {m : MethodId} {args : Array Value} {below : List Frame} {meth : Method} {c : Code} {z : Nat} {D : tc_D} {G : tc_G} (hW : tc_W G) (r : Int32) (ur : tc_S) : ∀ (n : Nat) (v0 : Nat) (v1 : Int32) (v2 : Int32) (u : tc_S) (iv0 : tc_is G v0 12) (h : lo_X12_adds_11 G n v0 v1 v2 u = some (r, ur)), tc_R p l e { frames := 1, cells := 0, slots := 0, locals := 21 } s m args below meth c z D cX12_adds RX12 3 none 0 0 (tc_pv G ur) 0 0 G u 11 [(0, .ref (z + v0)), (1, .int v1), (2, .int v2)] [] := by
  intro n
  induction n with
  | zero => intro v0 v1 v2 u iv0 h; cases h
  | succ n ih =>
    intro v0 v1 v2 u iv0 h
    rw [lo_X12_adds_11] at h
    refine tc_iload_n 2 rfl dX12_adds_11 ?_
    refine tc_iconst (v := 4) (by decide) dX12_adds_12 ?_
    refine tc_icmp_ge 43 dX12_adds_13 (by decide) (fun hc1 => ?_) (fun hc1 => ?_)
    · rw [if_pos hc1] at h
      refine tc_aload_n 0 rfl dX12_adds_43 ?_
      refine tc_dup rfl dX12_adds_44 ?_
      refine tc_geti iv0.1 fl_X12_142 dX12_adds_45 ?_
      refine tc_iconst (v := 1) (by decide) dX12_adds_48 ?_
      refine tc_iadd dX12_adds_49 ?_
      obtain ⟨u2, eu2, h⟩ := tc_let_ex h
      refine tc_puti iv0.1 fl_X12_142 dX12_adds_50 ?_
      refine tc_nmu eu2 ?_
      cases h
      exact tc_return rfl dX12_adds_53 rfl rfl ⟨rfl, rfl, rfl⟩
    · rw [if_neg hc1] at h
      refine tc_aload_n 0 rfl dX12_adds_16 ?_
      refine tc_getp hW iv0 fl_X12_39 dX12_adds_17 rfl ?_
      refine tc_iconst (v := 4) (by decide) dX12_adds_20 ?_
      refine tc_aload_n 0 rfl dX12_adds_21 ?_
      refine tc_geti iv0.1 fl_X12_142 dX12_adds_22 ?_
      refine tc_imul dX12_adds_25 ?_
      refine tc_iload_n 2 rfl dX12_adds_26 ?_
      refine tc_iadd dX12_adds_27 ?_
      refine tc_aload_n 0 rfl dX12_adds_28 ?_
      refine tc_getp hW iv0 fl_X12_7 dX12_adds_29 rfl ?_
      refine tc_iload_n 1 rfl dX12_adds_32 ?_
      refine tc_iload_n 2 rfl dX12_adds_33 ?_
      refine tc_iadd dX12_adds_34 ?_
      obtain ⟨bx3, x3, ex3, h⟩ := tc_ld_ex h
      refine tc_iald (hW.p iv0 0 rfl).1 bx3 dX12_adds_35 ?_
      refine tc_nm ex3 ?_
      obtain ⟨bu4, u4, eu4, h⟩ := tc_sd_ex h
      refine tc_iast (hW.p iv0 11 rfl).1 bu4 dX12_adds_36 ?_
      refine tc_nmu eu4 ?_
      obtain ⟨x5, ex5, h⟩ := tc_let_ex h
      refine tc_iinc 2 (v := x5) [(2, .int x5), (0, .ref (z + v0)), (1, .int v1)] dX12_adds_37 rfl (by rw [ex5]; rfl) (by decide) rfl ?_
      refine tc_goto 11 dX12_adds_40 (by decide) ?_
      refine tc_lvs [1, 2, 0] rfl ?_
      exact ih v0 v1 x5 u4 iv0 h
set_option maxRecDepth 100000 in
set_option maxHeartbeats 4000000 in
theorem ct_X12_adds {l : Launch} {z : Nat} {D : tc_D} {G : tc_G} (hW : tc_W G) {v0 : Nat} {v1 : Int32} {u : tc_S} {r : Int32} {ur : tc_S} (iv0 : tc_is G v0 12) (h : fn_X12_adds G v0 v1 u = some (r, ur)) : tc_C l z D yX12_adds cX12_adds 3 none 1 21 0 0 [.ref (z + v0), .int v1] G u (tc_pv G ur) := by
  unfold fn_X12_adds at h
  refine tc_C.of (by decide) (Nat.le_of_ble_eq_true rfl) fun p e s m args below meth c => ?_
  show tc_R p l e { frames := 1, cells := 0, slots := 0, locals := 21 } s m args below meth c z D cX12_adds RX12 3 none 0 0 (tc_pv G ur) 0 0 G u 0 [(0, .ref (z + v0)), (1, .int v1)] []
  refine tc_aload_n 0 rfl dX12_adds_0 ?_
  refine tc_iload_n 1 rfl dX12_adds_1 ?_
  obtain ⟨x6, u7, hq8, h⟩ := tc_b_ex h
  refine tc_callVi [.int v1] dX12_adds_2 iv0.1 (ct_X12_isEntry hW iv0 hq8) ml_X12_95 mw_X12_isEntry mv_X12_isEntry ⟨Nat.le_of_ble_eq_true rfl, Nat.le_of_ble_eq_true rfl⟩ rfl rfl (Nat.le_of_ble_eq_true rfl) ⟨Nat.le_refl _, Nat.le_refl _⟩ (by decide) ?_
  refine tc_if_ne 9 dX12_adds_5 (by decide) (fun hc9 => ?_) (fun hc9 => ?_)
  · rw [if_neg hc9] at h
    refine tc_iconst (v := 0) (by decide) dX12_adds_9 ?_
    refine tc_istore_n [(2, .int 0), (0, .ref (z + v0)), (1, .int v1)] dX12_adds_10 (by decide) rfl ?_
    refine tc_lvs [1, 2, 0] rfl ?_
    exact sl_X12_adds_11 hW r ur  _ v0 v1 0 u7 iv0 h
  · rw [if_pos hc9] at h
    cases h
    exact tc_return rfl dX12_adds_8 rfl rfl ⟨rfl, rfl, rfl⟩
set_option maxRecDepth 100000 in
set_option maxHeartbeats 4000000 in
theorem sl_X12_lists_57 {p : Program} {l : Launch} {e : Env} {s : State} {m : MethodId} {args : Array Value} {below : List Frame} {meth : Method} {c : Code} {z : Nat} {D : tc_D} {G : tc_G} (hW : tc_W G) (r : Int32) (ur : tc_S) : ∀ (n : Nat) (v0 : Nat) (v1 : Int32) (v2 : Int32) (u : tc_S) (iv0 : tc_is G v0 12) (h : lo_X12_lists_57 G n v0 v1 v2 u = some (r, ur)), tc_R p l e { frames := 2, cells := 0, slots := 0, locals := 43 } s m args below meth c z D cX12_lists RX12 4 none 0 0 (tc_pv G ur) 0 0 G u 57 [(0, .ref (z + v0)), (1, .int v1), (2, .int v2)] [] := by
  intro n
  induction n with
  | zero => intro v0 v1 v2 u iv0 h; cases h
  | succ n ih =>
    intro v0 v1 v2 u iv0 h
    rw [lo_X12_lists_57] at h
    refine tc_iload_n 2 rfl dX12_lists_57 ?_
    refine tc_aload_n 0 rfl dX12_lists_58 ?_
    refine tc_getp hW iv0 fl_X12_7 dX12_lists_59 rfl ?_
    refine tc_iload_n 1 rfl dX12_lists_62 ?_
    refine tc_bipush (v := 18) (by decide) dX12_lists_63 ?_
    refine tc_iadd dX12_lists_65 ?_
    obtain ⟨bx1, x1, ex1, h⟩ := tc_ld_ex h
    refine tc_iald (hW.p iv0 0 rfl).1 bx1 dX12_lists_66 ?_
    refine tc_nm ex1 ?_
    refine tc_icmp_ge 87 dX12_lists_67 (by decide) (fun hc2 => ?_) (fun hc2 => ?_)
    · rw [if_pos hc2] at h
      cases h
      exact tc_return rfl dX12_lists_87 rfl rfl ⟨rfl, rfl, rfl⟩
    · rw [if_neg hc2] at h
      refine tc_aload_n 0 rfl dX12_lists_70 ?_
      refine tc_iload_n 1 rfl dX12_lists_71 ?_
      refine tc_bipush (v := 100) (by decide) dX12_lists_72 ?_
      refine tc_iload_n 2 rfl dX12_lists_74 ?_
      obtain ⟨x3, u4, hq5, h⟩ := tc_b_ex h
      refine tc_callSi [.int v1, .int 100, .int v2] dX12_lists_75 (ct_X12_cell hW hq5) ml_X12_92 mw_X12_cell ms_X12_cell ⟨Nat.le_of_ble_eq_true rfl, Nat.le_of_ble_eq_true rfl⟩ rfl rfl (Nat.le_of_ble_eq_true rfl) ⟨Nat.le_refl _, Nat.le_refl _⟩ ?_
      obtain ⟨x6, u7, hq8, h⟩ := tc_b_ex h
      refine tc_callVv [.int x3] dX12_lists_78 iv0.1 (ct_X12_adds hW iv0 hq8) ml_X12_145 mw_X12_adds mv_X12_adds ⟨Nat.le_of_ble_eq_true rfl, Nat.le_of_ble_eq_true rfl⟩ rfl rfl (Nat.le_of_ble_eq_true rfl) ⟨Nat.le_refl _, Nat.le_refl _⟩ (by decide) ?_
      obtain ⟨x9, ex9, h⟩ := tc_let_ex h
      refine tc_iinc 2 (v := x9) [(2, .int x9), (0, .ref (z + v0)), (1, .int v1)] dX12_lists_81 rfl (by rw [ex9]; rfl) (by decide) rfl ?_
      refine tc_goto 57 dX12_lists_84 (by decide) ?_
      refine tc_lvs [1, 2, 0] rfl ?_
      exact ih v0 v1 x9 u7 iv0 h
set_option maxRecDepth 100000 in
set_option maxHeartbeats 4000000 in
theorem sl_X12_lists_21 {p : Program} {l : Launch} {e : Env} {s : State} {m : MethodId} {args : Array Value} {below : List Frame} {meth : Method} {c : Code} {z : Nat} {D : tc_D} {G : tc_G} (hW : tc_W G) (r : Int32) (ur : tc_S) (K7 : Nat → Int32 → Int32 → tc_S → Option (Int32 × tc_S)) (hK7 : ∀ (v0 : Nat) (v1 : Int32) (v2 : Int32) (u : tc_S), tc_is G v0 12 → K7 v0 v1 v2 u = some (r, ur) → tc_R p l e { frames := 2, cells := 0, slots := 0, locals := 43 } s m args below meth c z D cX12_lists RX12 4 none 0 0 (tc_pv G ur) 0 0 G u 7 [(0, .ref (z + v0)), (1, .int v1), (2, .int v2)] []) : ∀ (n : Nat) (v0 : Nat) (v1 : Int32) (v2 : Int32) (v3 : Int32) (u : tc_S) (iv0 : tc_is G v0 12) (h : lo_X12_lists_21 G K7 n v0 v1 v2 v3 u = some (r, ur)), tc_R p l e { frames := 2, cells := 0, slots := 0, locals := 43 } s m args below meth c z D cX12_lists RX12 4 none 0 0 (tc_pv G ur) 0 0 G u 21 [(0, .ref (z + v0)), (1, .int v1), (2, .int v2), (3, .int v3)] [] := by
  intro n
  induction n with
  | zero => intro v0 v1 v2 v3 u iv0 h; cases h
  | succ n ih =>
    intro v0 v1 v2 v3 u iv0 h
    rw [lo_X12_lists_21] at h
    refine tc_iload_n 3 rfl dX12_lists_21 ?_
    refine tc_aload_n 0 rfl dX12_lists_22 ?_
    refine tc_getp hW iv0 fl_X12_7 dX12_lists_23 rfl ?_
    refine tc_iload_n 1 rfl dX12_lists_26 ?_
    refine tc_iconst (v := 1) (by decide) dX12_lists_27 ?_
    refine tc_iadd dX12_lists_28 ?_
    obtain ⟨bx10, x10, ex10, h⟩ := tc_ld_ex h
    refine tc_iald (hW.p iv0 0 rfl).1 bx10 dX12_lists_29 ?_
    refine tc_nm ex10 ?_
    refine tc_icmp_ge 49 dX12_lists_30 (by decide) (fun hc11 => ?_) (fun hc11 => ?_)
    · rw [if_pos hc11] at h
      obtain ⟨x12, ex12, h⟩ := tc_let_ex h
      refine tc_iinc 2 (v := x12) [(2, .int x12), (0, .ref (z + v0)), (1, .int v1), (3, .int v3)] dX12_lists_49 rfl (by rw [ex12]; rfl) (by decide) rfl ?_
      refine tc_goto 7 dX12_lists_52 (by decide) ?_
      refine tc_lvs [1, 2, 0] rfl ?_
      exact hK7 v0 v1 x12 u iv0 h
    · rw [if_neg hc11] at h
      refine tc_aload_n 0 rfl dX12_lists_33 ?_
      refine tc_iload_n 1 rfl dX12_lists_34 ?_
      refine tc_iload_n 2 rfl dX12_lists_35 ?_
      refine tc_iload_n 3 rfl dX12_lists_36 ?_
      obtain ⟨x13, u14, hq15, h⟩ := tc_b_ex h
      refine tc_callSi [.int v1, .int v2, .int v3] dX12_lists_37 (ct_X12_cell hW hq15) ml_X12_92 mw_X12_cell ms_X12_cell ⟨Nat.le_of_ble_eq_true rfl, Nat.le_of_ble_eq_true rfl⟩ rfl rfl (Nat.le_of_ble_eq_true rfl) ⟨Nat.le_refl _, Nat.le_refl _⟩ ?_
      obtain ⟨x16, u17, hq18, h⟩ := tc_b_ex h
      refine tc_callVv [.int x13] dX12_lists_40 iv0.1 (ct_X12_adds hW iv0 hq18) ml_X12_145 mw_X12_adds mv_X12_adds ⟨Nat.le_of_ble_eq_true rfl, Nat.le_of_ble_eq_true rfl⟩ rfl rfl (Nat.le_of_ble_eq_true rfl) ⟨Nat.le_refl _, Nat.le_refl _⟩ (by decide) ?_
      obtain ⟨x19, ex19, h⟩ := tc_let_ex h
      refine tc_iinc 3 (v := x19) [(3, .int x19), (0, .ref (z + v0)), (1, .int v1), (2, .int v2)] dX12_lists_43 rfl (by rw [ex19]; rfl) (by decide) rfl ?_
      refine tc_goto 21 dX12_lists_46 (by decide) ?_
      refine tc_lvs [1, 2, 3, 0] rfl ?_
      exact ih v0 v1 v2 x19 u17 iv0 h
set_option maxRecDepth 100000 in
set_option maxHeartbeats 4000000 in
theorem sl_X12_lists_7 {p : Program} {l : Launch} {e : Env} {s : State} {m : MethodId} {args : Array Value} {below : List Frame} {meth : Method} {c : Code} {z : Nat} {D : tc_D} {G : tc_G} (hW : tc_W G) (r : Int32) (ur : tc_S) : ∀ (n : Nat) (v0 : Nat) (v1 : Int32) (v2 : Int32) (u : tc_S) (iv0 : tc_is G v0 12) (h : lo_X12_lists_7 G n v0 v1 v2 u = some (r, ur)), tc_R p l e { frames := 2, cells := 0, slots := 0, locals := 43 } s m args below meth c z D cX12_lists RX12 4 none 0 0 (tc_pv G ur) 0 0 G u 7 [(0, .ref (z + v0)), (1, .int v1), (2, .int v2)] [] := by
  intro n
  induction n with
  | zero => intro v0 v1 v2 u iv0 h; cases h
  | succ n ih =>
    intro v0 v1 v2 u iv0 h
    rw [lo_X12_lists_7] at h
    refine tc_iload_n 2 rfl dX12_lists_7 ?_
    refine tc_aload_n 0 rfl dX12_lists_8 ?_
    refine tc_getp hW iv0 fl_X12_7 dX12_lists_9 rfl ?_
    refine tc_iload_n 1 rfl dX12_lists_12 ?_
    refine tc_iconst (v := 0) (by decide) dX12_lists_13 ?_
    refine tc_iadd dX12_lists_14 ?_
    obtain ⟨bx20, x20, ex20, h⟩ := tc_ld_ex h
    refine tc_iald (hW.p iv0 0 rfl).1 bx20 dX12_lists_15 ?_
    refine tc_nm ex20 ?_
    refine tc_icmp_ge 55 dX12_lists_16 (by decide) (fun hc21 => ?_) (fun hc21 => ?_)
    · rw [if_pos hc21] at h
      refine tc_iconst (v := 0) (by decide) dX12_lists_55 ?_
      refine tc_istore_n [(2, .int 0), (0, .ref (z + v0)), (1, .int v1)] dX12_lists_56 (by decide) rfl ?_
      refine tc_lvs [1, 2, 0] rfl ?_
      exact sl_X12_lists_57 hW r ur  _ v0 v1 0 u iv0 h
    · rw [if_neg hc21] at h
      refine tc_iconst (v := 0) (by decide) dX12_lists_19 ?_
      refine tc_istore_n [(3, .int 0), (0, .ref (z + v0)), (1, .int v1), (2, .int v2)] dX12_lists_20 (by decide) rfl ?_
      refine tc_lvs [1, 2, 3, 0] rfl ?_
      exact sl_X12_lists_21 hW r ur _ ih _ v0 v1 v2 0 u iv0 h
set_option maxRecDepth 100000 in
set_option maxHeartbeats 4000000 in
theorem ct_X12_lists {l : Launch} {z : Nat} {D : tc_D} {G : tc_G} (hW : tc_W G) {v0 : Nat} {v1 : Int32} {u : tc_S} {r : Int32} {ur : tc_S} (iv0 : tc_is G v0 12) (h : fn_X12_lists G v0 v1 u = some (r, ur)) : tc_C l z D yX12_lists cX12_lists 4 none 2 43 0 0 [.ref (z + v0), .int v1] G u (tc_pv G ur) := by
  unfold fn_X12_lists at h
  refine tc_C.of (by decide) (Nat.le_of_ble_eq_true rfl) fun p e s m args below meth c => ?_
  show tc_R p l e { frames := 2, cells := 0, slots := 0, locals := 43 } s m args below meth c z D cX12_lists RX12 4 none 0 0 (tc_pv G ur) 0 0 G u 0 [(0, .ref (z + v0)), (1, .int v1)] []
  refine tc_aload_n 0 rfl dX12_lists_0 ?_
  refine tc_iconst (v := 0) (by decide) dX12_lists_1 ?_
  obtain ⟨u22, eu22, h⟩ := tc_let_ex h
  refine tc_puti iv0.1 fl_X12_142 dX12_lists_2 ?_
  refine tc_nmu eu22 ?_
  refine tc_iconst (v := 0) (by decide) dX12_lists_5 ?_
  refine tc_istore_n [(2, .int 0), (0, .ref (z + v0)), (1, .int v1)] dX12_lists_6 (by decide) rfl ?_
  refine tc_lvs [1, 2, 0] rfl ?_
  exact sl_X12_lists_7 hW r ur  _ v0 v1 0 u22 iv0 h
set_option maxRecDepth 100000 in
set_option maxHeartbeats 4000000 in
theorem ct_X12_addsNew {l : Launch} {z : Nat} {D : tc_D} {G : tc_G} (hW : tc_W G) {v0 : Nat} {v1 : Int32} {v2 : Int32} {v3 : Int32} {u : tc_S} {r : Int32} {ur : tc_S} (iv0 : tc_is G v0 12) (h : fn_X12_addsNew G v0 v1 v2 v3 u = some (r, ur)) : tc_C l z D yX12_addsNew cX12_addsNew 4 none 0 0 0 0 [.ref (z + v0), .int v1, .int v2, .int v3] G u (tc_pv G ur) := by
  unfold fn_X12_addsNew at h
  refine tc_C.of (by decide) (Nat.le_of_ble_eq_true rfl) fun p e s m args below meth c => ?_
  show tc_R p l e { frames := 0, cells := 0, slots := 0, locals := 0 } s m args below meth c z D cX12_addsNew RX12 4 none 0 0 (tc_pv G ur) 0 0 G u 0 [(0, .ref (z + v0)), (1, .int v1), (2, .int v2), (3, .int v3)] []
  refine tc_aload_n 0 rfl dX12_addsNew_0 ?_
  refine tc_getp hW iv0 fl_X12_39 dX12_addsNew_1 rfl ?_
  refine tc_iconst (v := 4) (by decide) dX12_addsNew_4 ?_
  refine tc_aload_n 0 rfl dX12_addsNew_5 ?_
  refine tc_geti iv0.1 fl_X12_142 dX12_addsNew_6 ?_
  refine tc_imul dX12_addsNew_9 ?_
  refine tc_iload_n 1 rfl dX12_addsNew_10 ?_
  refine tc_iconst (v := 1) (by decide) dX12_addsNew_11 ?_
  refine tc_iadd dX12_addsNew_12 ?_
  obtain ⟨bu1, u1, eu1, h⟩ := tc_sd_ex h
  refine tc_iast (hW.p iv0 11 rfl).1 bu1 dX12_addsNew_13 ?_
  refine tc_nmu eu1 ?_
  refine tc_aload_n 0 rfl dX12_addsNew_14 ?_
  refine tc_getp hW iv0 fl_X12_39 dX12_addsNew_15 rfl ?_
  refine tc_iconst (v := 4) (by decide) dX12_addsNew_18 ?_
  refine tc_aload_n 0 rfl dX12_addsNew_19 ?_
  refine tc_geti iv0.1 fl_X12_142 dX12_addsNew_20 ?_
  refine tc_imul dX12_addsNew_23 ?_
  refine tc_iconst (v := 1) (by decide) dX12_addsNew_24 ?_
  refine tc_iadd dX12_addsNew_25 ?_
  refine tc_iload_n 2 rfl dX12_addsNew_26 ?_
  obtain ⟨bu2, u2, eu2, h⟩ := tc_sd_ex h
  refine tc_iast (hW.p iv0 11 rfl).1 bu2 dX12_addsNew_27 ?_
  refine tc_nmu eu2 ?_
  refine tc_aload_n 0 rfl dX12_addsNew_28 ?_
  refine tc_getp hW iv0 fl_X12_39 dX12_addsNew_29 rfl ?_
  refine tc_iconst (v := 4) (by decide) dX12_addsNew_32 ?_
  refine tc_aload_n 0 rfl dX12_addsNew_33 ?_
  refine tc_geti iv0.1 fl_X12_142 dX12_addsNew_34 ?_
  refine tc_imul dX12_addsNew_37 ?_
  refine tc_iconst (v := 2) (by decide) dX12_addsNew_38 ?_
  refine tc_iadd dX12_addsNew_39 ?_
  refine tc_iload_n 3 rfl dX12_addsNew_40 ?_
  obtain ⟨bu3, u3, eu3, h⟩ := tc_sd_ex h
  refine tc_iast (hW.p iv0 11 rfl).1 bu3 dX12_addsNew_41 ?_
  refine tc_nmu eu3 ?_
  refine tc_aload_n 0 rfl dX12_addsNew_42 ?_
  refine tc_getp hW iv0 fl_X12_39 dX12_addsNew_43 rfl ?_
  refine tc_iconst (v := 4) (by decide) dX12_addsNew_46 ?_
  refine tc_aload_n 0 rfl dX12_addsNew_47 ?_
  refine tc_geti iv0.1 fl_X12_142 dX12_addsNew_48 ?_
  refine tc_imul dX12_addsNew_51 ?_
  refine tc_iconst (v := 3) (by decide) dX12_addsNew_52 ?_
  refine tc_iadd dX12_addsNew_53 ?_
  refine tc_iconst (v := 0) (by decide) dX12_addsNew_54 ?_
  obtain ⟨bu4, u4, eu4, h⟩ := tc_sd_ex h
  refine tc_iast (hW.p iv0 11 rfl).1 bu4 dX12_addsNew_55 ?_
  refine tc_nmu eu4 ?_
  refine tc_aload_n 0 rfl dX12_addsNew_56 ?_
  refine tc_dup rfl dX12_addsNew_57 ?_
  refine tc_geti iv0.1 fl_X12_142 dX12_addsNew_58 ?_
  refine tc_iconst (v := 1) (by decide) dX12_addsNew_61 ?_
  refine tc_iadd dX12_addsNew_62 ?_
  obtain ⟨u5, eu5, h⟩ := tc_let_ex h
  refine tc_puti iv0.1 fl_X12_142 dX12_addsNew_63 ?_
  refine tc_nmu eu5 ?_
  cases h
  exact tc_return rfl dX12_addsNew_66 rfl rfl ⟨rfl, rfl, rfl⟩
set_option maxRecDepth 100000 in
set_option maxHeartbeats 4000000 in
theorem sl_X12_empties_3 {p : Program} {l : Launch} {e : Env} {s : State} {m : MethodId} {args : Array Value} {below : List Frame} {meth : Method} {c : Code} {z : Nat} {D : tc_D} {G : tc_G} (hW : tc_W G) (r : Int32) (ur : tc_S) : ∀ (n : Nat) (v0 : Nat) (v1 : Int32) (v2 : Int32) (u : tc_S) (iv0 : tc_is G v0 12) (h : lo_X12_empties_3 G n v0 v1 v2 u = some (r, ur)), tc_R p l e { frames := 0, cells := 0, slots := 0, locals := 0 } s m args below meth c z D cX12_empties RX12 3 none 0 0 (tc_pv G ur) 0 0 G u 3 [(0, .ref (z + v0)), (1, .int v1), (2, .int v2)] [] := by
  intro n
  induction n with
  | zero => intro v0 v1 v2 u iv0 h; cases h
  | succ n ih =>
    intro v0 v1 v2 u iv0 h
    rw [lo_X12_empties_3] at h
    refine tc_iload_n 2 rfl dX12_empties_3 ?_
    refine tc_sipush (v := 292) (by decide) dX12_empties_4 ?_
    refine tc_icmp_ge 25 dX12_empties_7 (by decide) (fun hc1 => ?_) (fun hc1 => ?_)
    · rw [if_pos hc1] at h
      refine tc_aload_n 0 rfl dX12_empties_25 ?_
      refine tc_getp hW iv0 fl_X12_7 dX12_empties_26 rfl ?_
      refine tc_iload_n 1 rfl dX12_empties_29 ?_
      refine tc_bipush (v := 18) (by decide) dX12_empties_30 ?_
      refine tc_iadd dX12_empties_32 ?_
      refine tc_iconst (v := 0) (by decide) dX12_empties_33 ?_
      obtain ⟨bu2, u2, eu2, h⟩ := tc_sd_ex h
      refine tc_iast (hW.p iv0 0 rfl).1 bu2 dX12_empties_34 ?_
      refine tc_nmu eu2 ?_
      cases h
      exact tc_return rfl dX12_empties_35 rfl rfl ⟨rfl, rfl, rfl⟩
    · rw [if_neg hc1] at h
      refine tc_aload_n 0 rfl dX12_empties_10 ?_
      refine tc_getp hW iv0 fl_X12_7 dX12_empties_11 rfl ?_
      refine tc_iload_n 1 rfl dX12_empties_14 ?_
      refine tc_iload_n 2 rfl dX12_empties_15 ?_
      refine tc_iadd dX12_empties_16 ?_
      refine tc_iconst (v := 0) (by decide) dX12_empties_17 ?_
      obtain ⟨bu3, u3, eu3, h⟩ := tc_sd_ex h
      refine tc_iast (hW.p iv0 0 rfl).1 bu3 dX12_empties_18 ?_
      refine tc_nmu eu3 ?_
      obtain ⟨x4, ex4, h⟩ := tc_let_ex h
      refine tc_iinc 2 (v := x4) [(2, .int x4), (0, .ref (z + v0)), (1, .int v1)] dX12_empties_19 rfl (by rw [ex4]; rfl) (by decide) rfl ?_
      refine tc_goto 3 dX12_empties_22 (by decide) ?_
      refine tc_lvs [1, 2, 0] rfl ?_
      exact ih v0 v1 x4 u3 iv0 h
set_option maxRecDepth 100000 in
set_option maxHeartbeats 4000000 in
theorem ct_X12_empties {l : Launch} {z : Nat} {D : tc_D} {G : tc_G} (hW : tc_W G) {v0 : Nat} {v1 : Int32} {u : tc_S} {r : Int32} {ur : tc_S} (iv0 : tc_is G v0 12) (h : fn_X12_empties G v0 v1 u = some (r, ur)) : tc_C l z D yX12_empties cX12_empties 3 none 0 0 0 0 [.ref (z + v0), .int v1] G u (tc_pv G ur) := by
  unfold fn_X12_empties at h
  refine tc_C.of (by decide) (Nat.le_of_ble_eq_true rfl) fun p e s m args below meth c => ?_
  show tc_R p l e { frames := 0, cells := 0, slots := 0, locals := 0 } s m args below meth c z D cX12_empties RX12 3 none 0 0 (tc_pv G ur) 0 0 G u 0 [(0, .ref (z + v0)), (1, .int v1)] []
  refine tc_bipush (v := 20) (by decide) dX12_empties_0 ?_
  refine tc_istore_n [(2, .int 20), (0, .ref (z + v0)), (1, .int v1)] dX12_empties_2 (by decide) rfl ?_
  refine tc_lvs [1, 2, 0] rfl ?_
  exact sl_X12_empties_3 hW r ur  _ v0 v1 20 u iv0 h
set_option maxRecDepth 100000 in
set_option maxHeartbeats 4000000 in
theorem sl_X12_doAllCome_2 {p : Program} {l : Launch} {e : Env} {s : State} {m : MethodId} {args : Array Value} {below : List Frame} {meth : Method} {c : Code} {z : Nat} {D : tc_D} {G : tc_G} (hW : tc_W G) (r : Int32) (ur : tc_S) : ∀ (n : Nat) (v0 : Nat) (v1 : Int32) (v3 : Int32) (u : tc_S) (iv0 : tc_is G v0 12) (h : lo_X12_doAllCome_2 G n v0 v1 v3 u = some (r, ur)), tc_R p l e { frames := 5, cells := 0, slots := 0, locals := 131 } s m args below meth c z D cX12_doAllCome RX12 4 (some .boolean) 0 0 (tc_po r G ur) 0 0 G u 2 [(0, .ref (z + v0)), (1, .int v1), (3, .int v3)] [] := by
  intro n
  induction n with
  | zero => intro v0 v1 v3 u iv0 h; cases h
  | succ n ih =>
    intro v0 v1 v3 u iv0 h
    rw [lo_X12_doAllCome_2] at h
    refine tc_iload_n 2 rfl dX12_doAllCome_2 ?_
    refine tc_aload_n 0 rfl dX12_doAllCome_3 ?_
    refine tc_geti iv0.1 fl_X12_142 dX12_doAllCome_4 ?_
    refine tc_icmp_ge 66 dX12_doAllCome_7 (by decide) (fun hc1 => ?_) (fun hc1 => ?_)
    · rw [if_pos hc1] at h
      refine tc_iconst (v := 1) (by decide) dX12_doAllCome_66 ?_
      obtain ⟨hz2, h⟩ := tc_zo_ex h
      cases h
      exact tc_zreturn hz2 rfl dX12_doAllCome_67 rfl rfl ⟨rfl, rfl, rfl⟩
    · rw [if_neg hc1] at h
      refine tc_aload_n 0 rfl dX12_doAllCome_10 ?_
      refine tc_iload_n 1 rfl dX12_doAllCome_11 ?_
      refine tc_aload_n 0 rfl dX12_doAllCome_12 ?_
      refine tc_getp hW iv0 fl_X12_39 dX12_doAllCome_13 rfl ?_
      refine tc_iconst (v := 4) (by decide) dX12_doAllCome_16 ?_
      refine tc_iload_n 2 rfl dX12_doAllCome_17 ?_
      refine tc_imul dX12_doAllCome_18 ?_
      obtain ⟨bx3, x3, ex3, h⟩ := tc_ld_ex h
      refine tc_iald (hW.p iv0 11 rfl).1 bx3 dX12_doAllCome_19 ?_
      refine tc_nm ex3 ?_
      refine tc_iconst (v := 1) (by decide) dX12_doAllCome_20 ?_
      refine tc_isub dX12_doAllCome_21 ?_
      refine tc_aload_n 0 rfl dX12_doAllCome_22 ?_
      refine tc_getp hW iv0 fl_X12_39 dX12_doAllCome_23 rfl ?_
      refine tc_iconst (v := 4) (by decide) dX12_doAllCome_26 ?_
      refine tc_iload_n 2 rfl dX12_doAllCome_27 ?_
      refine tc_imul dX12_doAllCome_28 ?_
      refine tc_iconst (v := 1) (by decide) dX12_doAllCome_29 ?_
      refine tc_iadd dX12_doAllCome_30 ?_
      obtain ⟨bx4, x4, ex4, h⟩ := tc_ld_ex h
      refine tc_iald (hW.p iv0 11 rfl).1 bx4 dX12_doAllCome_31 ?_
      refine tc_nm ex4 ?_
      refine tc_aload_n 0 rfl dX12_doAllCome_32 ?_
      refine tc_getp hW iv0 fl_X12_39 dX12_doAllCome_33 rfl ?_
      refine tc_iconst (v := 4) (by decide) dX12_doAllCome_36 ?_
      refine tc_iload_n 2 rfl dX12_doAllCome_37 ?_
      refine tc_imul dX12_doAllCome_38 ?_
      refine tc_iconst (v := 2) (by decide) dX12_doAllCome_39 ?_
      refine tc_iadd dX12_doAllCome_40 ?_
      obtain ⟨bx5, x5, ex5, h⟩ := tc_ld_ex h
      refine tc_iald (hW.p iv0 11 rfl).1 bx5 dX12_doAllCome_41 ?_
      refine tc_nm ex5 ?_
      refine tc_aload_n 0 rfl dX12_doAllCome_42 ?_
      refine tc_getp hW iv0 fl_X12_39 dX12_doAllCome_43 rfl ?_
      refine tc_iconst (v := 4) (by decide) dX12_doAllCome_46 ?_
      refine tc_iload_n 2 rfl dX12_doAllCome_47 ?_
      refine tc_imul dX12_doAllCome_48 ?_
      refine tc_iconst (v := 3) (by decide) dX12_doAllCome_49 ?_
      refine tc_iadd dX12_doAllCome_50 ?_
      obtain ⟨bx6, x6, ex6, h⟩ := tc_ld_ex h
      refine tc_iald (hW.p iv0 11 rfl).1 bx6 dX12_doAllCome_51 ?_
      refine tc_nm ex6 ?_
      obtain ⟨x7, u8, hq9, h⟩ := tc_b_ex h
      refine tc_callVi [.int v1, .int (x3 - 1), .int x4, .int x5, .int x6] dX12_doAllCome_52 iv0.1 (ct_X12_comesIn hW iv0 hq9) ml_X12_148 mw_X12_comesIn mv_X12_comesIn ⟨Nat.le_of_ble_eq_true rfl, Nat.le_of_ble_eq_true rfl⟩ rfl rfl (Nat.le_of_ble_eq_true rfl) ⟨Nat.le_refl _, Nat.le_refl _⟩ (by decide) ?_
      refine tc_if_ne 60 dX12_doAllCome_55 (by decide) (fun hc10 => ?_) (fun hc10 => ?_)
      · rw [if_neg hc10] at h
        obtain ⟨x11, ex11, h⟩ := tc_let_ex h
        refine tc_iinc 2 (v := x11) [(3, .int x11), (0, .ref (z + v0)), (1, .int v1)] dX12_doAllCome_60 rfl (by rw [ex11]; rfl) (by decide) rfl ?_
        refine tc_goto 2 dX12_doAllCome_63 (by decide) ?_
        refine tc_lvs [1, 2, 0] rfl ?_
        exact ih v0 v1 x11 u8 iv0 h
      · rw [if_pos hc10] at h
        refine tc_iconst (v := 0) (by decide) dX12_doAllCome_58 ?_
        obtain ⟨hz12, h⟩ := tc_zo_ex h
        cases h
        exact tc_zreturn hz12 rfl dX12_doAllCome_59 rfl rfl ⟨rfl, rfl, rfl⟩
set_option maxRecDepth 100000 in
set_option maxHeartbeats 4000000 in
theorem ct_X12_doAllCome {l : Launch} {z : Nat} {D : tc_D} {G : tc_G} (hW : tc_W G) {v0 : Nat} {v1 : Int32} {v2 : Int32} {u : tc_S} {r : Int32} {ur : tc_S} (iv0 : tc_is G v0 12) (h : fn_X12_doAllCome G v0 v1 v2 u = some (r, ur)) : tc_C l z D yX12_doAllCome cX12_doAllCome 4 (some .boolean) 5 131 0 0 [.ref (z + v0), .int v1, .int v2] G u (tc_po r G ur) := by
  unfold fn_X12_doAllCome at h
  refine tc_C.of (by decide) (Nat.le_of_ble_eq_true rfl) fun p e s m args below meth c => ?_
  show tc_R p l e { frames := 5, cells := 0, slots := 0, locals := 131 } s m args below meth c z D cX12_doAllCome RX12 4 (some .boolean) 0 0 (tc_po r G ur) 0 0 G u 0 [(0, .ref (z + v0)), (1, .int v1), (2, .int v2)] []
  refine tc_iload_n 2 rfl dX12_doAllCome_0 ?_
  refine tc_istore_n [(3, .int v2), (0, .ref (z + v0)), (1, .int v1), (2, .int v2)] dX12_doAllCome_1 (by decide) rfl ?_
  refine tc_lvs [1, 2, 0] rfl ?_
  exact sl_X12_doAllCome_2 hW r ur  _ v0 v1 v2 u iv0 h
set_option maxRecDepth 100000 in
set_option maxHeartbeats 4000000 in
theorem sb_X12_rehashes_85 {p : Program} {l : Launch} {e : Env} {s : State} {m : MethodId} {args : Array Value} {below : List Frame} {meth : Method} {c : Code} {z : Nat} {D : tc_D} {G : tc_G} (hW : tc_W G) (r : Int32) (ur : tc_S) (K24 : Nat → Int32 → Int32 → tc_S → Option (Int32 × tc_S)) (hK24 : ∀ (v0 : Nat) (v1 : Int32) (v5 : Int32) (u : tc_S), tc_is G v0 12 → K24 v0 v1 v5 u = some (r, ur) → tc_R p l e { frames := 6, cells := 0, slots := 0, locals := 154 } s m args below meth c z D cX12_rehashes RX12 7 (some .boolean) 0 0 (tc_po r G ur) 0 0 G u 24 [(0, .ref (z + v0)), (1, .int v1), (5, .int v5)] []) (K40 : Nat → Int32 → Int32 → Int32 → tc_S → Option (Int32 × tc_S)) (hK40 : ∀ (v0 : Nat) (v1 : Int32) (v5 : Int32) (v6 : Int32) (u : tc_S), tc_is G v0 12 → K40 v0 v1 v5 v6 u = some (r, ur) → tc_R p l e { frames := 6, cells := 0, slots := 0, locals := 154 } s m args below meth c z D cX12_rehashes RX12 7 (some .boolean) 0 0 (tc_po r G ur) 0 0 G u 40 [(0, .ref (z + v0)), (1, .int v1), (5, .int v5), (6, .int v6)] []) (v0 : Nat) (v1 : Int32) (v5 : Int32) (v6 : Int32) (s0 : Nat) (s1 : Int32) (s2 : Int32) (u : tc_S) (iv0 : tc_is G v0 12) (is0 : tc_is G s0 100) (h : bl_X12_rehashes_85 G K24 K40 v0 v1 v5 v6 s0 s1 s2 u = some (r, ur)) : tc_R p l e { frames := 6, cells := 0, slots := 0, locals := 154 } s m args below meth c z D cX12_rehashes RX12 7 (some .boolean) 0 0 (tc_po r G ur) 0 0 G u 85 [(0, .ref (z + v0)), (1, .int v1), (5, .int v5), (6, .int v6)] [.int s2, .int s1, .ref (z + s0)] := by
  unfold bl_X12_rehashes_85 at h
  obtain ⟨bu1, u1, eu1, h⟩ := tc_sd_ex h
  refine tc_iast is0.1 bu1 dX12_rehashes_85 ?_
  refine tc_nmu eu1 ?_
  obtain ⟨x2, ex2, h⟩ := tc_let_ex h
  refine tc_iinc 3 (v := x2) [(6, .int x2), (0, .ref (z + v0)), (1, .int v1), (5, .int v5)] dX12_rehashes_86 rfl (by rw [ex2]; rfl) (by decide) rfl ?_
  refine tc_goto 40 dX12_rehashes_89 (by decide) ?_
  refine tc_lvs [1, 2, 3, 0] rfl ?_
  exact hK40 v0 v1 v5 x2 u1 iv0 h
set_option maxRecDepth 100000 in
set_option maxHeartbeats 4000000 in
theorem sl_X12_rehashes_40 {p : Program} {l : Launch} {e : Env} {s : State} {m : MethodId} {args : Array Value} {below : List Frame} {meth : Method} {c : Code} {z : Nat} {D : tc_D} {G : tc_G} (hW : tc_W G) (r : Int32) (ur : tc_S) (K24 : Nat → Int32 → Int32 → tc_S → Option (Int32 × tc_S)) (hK24 : ∀ (v0 : Nat) (v1 : Int32) (v5 : Int32) (u : tc_S), tc_is G v0 12 → K24 v0 v1 v5 u = some (r, ur) → tc_R p l e { frames := 6, cells := 0, slots := 0, locals := 154 } s m args below meth c z D cX12_rehashes RX12 7 (some .boolean) 0 0 (tc_po r G ur) 0 0 G u 24 [(0, .ref (z + v0)), (1, .int v1), (5, .int v5)] []) : ∀ (n : Nat) (v0 : Nat) (v1 : Int32) (v5 : Int32) (v6 : Int32) (u : tc_S) (iv0 : tc_is G v0 12) (h : lo_X12_rehashes_40 G K24 n v0 v1 v5 v6 u = some (r, ur)), tc_R p l e { frames := 6, cells := 0, slots := 0, locals := 154 } s m args below meth c z D cX12_rehashes RX12 7 (some .boolean) 0 0 (tc_po r G ur) 0 0 G u 40 [(0, .ref (z + v0)), (1, .int v1), (5, .int v5), (6, .int v6)] [] := by
  intro n
  induction n with
  | zero => intro v0 v1 v5 v6 u iv0 h; cases h
  | succ n ih =>
    intro v0 v1 v5 v6 u iv0 h
    rw [lo_X12_rehashes_40] at h
    refine tc_iload 3 rfl dX12_rehashes_40 ?_
    refine tc_iconst (v := 4) (by decide) dX12_rehashes_42 ?_
    refine tc_icmp_ge 92 dX12_rehashes_43 (by decide) (fun hc3 => ?_) (fun hc3 => ?_)
    · rw [if_pos hc3] at h
      refine tc_aload_n 0 rfl dX12_rehashes_92 ?_
      refine tc_iload_n 1 rfl dX12_rehashes_93 ?_
      obtain ⟨x4, u5, hq6, h⟩ := tc_b_ex h
      refine tc_callVv [.int v1] dX12_rehashes_94 iv0.1 (ct_X12_empties hW iv0 hq6) ml_X12_159 mw_X12_empties mv_X12_empties ⟨Nat.le_of_ble_eq_true rfl, Nat.le_of_ble_eq_true rfl⟩ rfl rfl (Nat.le_of_ble_eq_true rfl) ⟨Nat.le_refl _, Nat.le_refl _⟩ (by decide) ?_
      refine tc_aload_n 0 rfl dX12_rehashes_97 ?_
      refine tc_iload_n 1 rfl dX12_rehashes_98 ?_
      refine tc_iconst (v := 0) (by decide) dX12_rehashes_99 ?_
      obtain ⟨x7, u8, hq9, h⟩ := tc_b_ex h
      refine tc_callVi [.int v1, .int 0] dX12_rehashes_100 iv0.1 (ct_X12_doAllCome hW iv0 hq9) ml_X12_162 mw_X12_doAllCome mv_X12_doAllCome ⟨Nat.le_of_ble_eq_true rfl, Nat.le_of_ble_eq_true rfl⟩ rfl rfl (Nat.le_of_ble_eq_true rfl) ⟨Nat.le_refl _, Nat.le_refl _⟩ (by decide) ?_
      refine tc_if_eq 121 dX12_rehashes_103 (by decide) (fun hc10 => ?_) (fun hc10 => ?_)
      · rw [if_pos hc10] at h
        refine tc_aload_n 0 rfl dX12_rehashes_121 ?_
        refine tc_sipush (v := 584) (by decide) dX12_rehashes_122 ?_
        refine tc_iload_n 1 rfl dX12_rehashes_125 ?_
        obtain ⟨x11, u12, hq13, h⟩ := tc_b_ex h
        refine tc_callVv [.int 584, .int v1] dX12_rehashes_126 iv0.1 (ct_X12_comesBack hW iv0 hq13) ml_X12_122 mw_X12_comesBack mv_X12_comesBack ⟨Nat.le_of_ble_eq_true rfl, Nat.le_of_ble_eq_true rfl⟩ rfl rfl (Nat.le_of_ble_eq_true rfl) ⟨Nat.le_refl _, Nat.le_refl _⟩ (by decide) ?_
        obtain ⟨x14, ex14, h⟩ := tc_let_ex h
        refine tc_iinc 2 (v := x14) [(5, .int x14), (0, .ref (z + v0)), (1, .int v1), (6, .int v6)] dX12_rehashes_129 rfl (by rw [ex14]; rfl) (by decide) rfl ?_
        refine tc_goto 24 dX12_rehashes_132 (by decide) ?_
        refine tc_lvs [1, 2, 0] rfl ?_
        exact hK24 v0 v1 x14 u12 iv0 h
      · rw [if_neg hc10] at h
        refine tc_aload_n 0 rfl dX12_rehashes_106 ?_
        refine tc_getp hW iv0 fl_X12_7 dX12_rehashes_107 rfl ?_
        refine tc_iload_n 1 rfl dX12_rehashes_110 ?_
        refine tc_bipush (v := 14) (by decide) dX12_rehashes_111 ?_
        refine tc_iadd dX12_rehashes_113 ?_
        refine tc_dup2 rfl rfl dX12_rehashes_114 ?_
        obtain ⟨bx15, x15, ex15, h⟩ := tc_ld_ex h
        refine tc_iald (hW.p iv0 0 rfl).1 bx15 dX12_rehashes_115 ?_
        refine tc_nm ex15 ?_
        refine tc_iconst (v := 1) (by decide) dX12_rehashes_116 ?_
        refine tc_iadd dX12_rehashes_117 ?_
        obtain ⟨bu16, u16, eu16, h⟩ := tc_sd_ex h
        refine tc_iast (hW.p iv0 0 rfl).1 bu16 dX12_rehashes_118 ?_
        refine tc_nmu eu16 ?_
        refine tc_iconst (v := 1) (by decide) dX12_rehashes_119 ?_
        obtain ⟨hz17, h⟩ := tc_zo_ex h
        cases h
        exact tc_zreturn hz17 rfl dX12_rehashes_120 rfl rfl ⟨rfl, rfl, rfl⟩
    · rw [if_neg hc3] at h
      refine tc_aload_n 0 rfl dX12_rehashes_46 ?_
      refine tc_getp hW iv0 fl_X12_7 dX12_rehashes_47 rfl ?_
      refine tc_iload_n 1 rfl dX12_rehashes_50 ?_
      refine tc_bipush (v := 7) (by decide) dX12_rehashes_51 ?_
      refine tc_iadd dX12_rehashes_53 ?_
      refine tc_iload 3 rfl dX12_rehashes_54 ?_
      refine tc_iadd dX12_rehashes_56 ?_
      refine tc_iload 3 rfl dX12_rehashes_57 ?_
      refine tc_iconst (v := 2) (by decide) dX12_rehashes_59 ?_
      refine tc_irem' (by decide) dX12_rehashes_60 ?_
      refine tc_if_ne 77 dX12_rehashes_61 (by decide) (fun hc18 => ?_) (fun hc18 => ?_)
      · rw [if_neg hc18] at h
        refine tc_aload_n 0 rfl dX12_rehashes_77 ?_
        refine tc_iload_n 1 rfl dX12_rehashes_78 ?_
        refine tc_sipush (v := 1009) (by decide) dX12_rehashes_79 ?_
        obtain ⟨x19, u20, hq21, h⟩ := tc_b_ex h
        refine tc_callVi [.int v1, .int 1009] dX12_rehashes_82 iv0.1 (ct_X12_draws hW iv0 hq21) ml_X12_119 mw_X12_draws mv_X12_draws ⟨Nat.le_of_ble_eq_true rfl, Nat.le_of_ble_eq_true rfl⟩ rfl rfl (Nat.le_of_ble_eq_true rfl) ⟨Nat.le_refl _, Nat.le_refl _⟩ (by decide) ?_
        exact sb_X12_rehashes_85 hW r ur K24 hK24 _ ih v0 v1 v5 v6 (tc_p G v0 0) ((v1 + 7) + v6) x19 u20 iv0 (hW.p iv0 0 rfl) h
      · rw [if_pos hc18] at h
        refine tc_iconst (v := 1) (by decide) dX12_rehashes_64 ?_
        refine tc_aload_n 0 rfl dX12_rehashes_65 ?_
        refine tc_iload_n 1 rfl dX12_rehashes_66 ?_
        refine tc_sipush (v := 1008) (by decide) dX12_rehashes_67 ?_
        obtain ⟨x22, u23, hq24, h⟩ := tc_b_ex h
        refine tc_callVi [.int v1, .int 1008] dX12_rehashes_70 iv0.1 (ct_X12_draws hW iv0 hq24) ml_X12_119 mw_X12_draws mv_X12_draws ⟨Nat.le_of_ble_eq_true rfl, Nat.le_of_ble_eq_true rfl⟩ rfl rfl (Nat.le_of_ble_eq_true rfl) ⟨Nat.le_refl _, Nat.le_refl _⟩ (by decide) ?_
        refine tc_iadd dX12_rehashes_73 ?_
        refine tc_goto 85 dX12_rehashes_74 (by decide) ?_
        exact sb_X12_rehashes_85 hW r ur K24 hK24 _ ih v0 v1 v5 v6 (tc_p G v0 0) ((v1 + 7) + v6) (1 + x22) u23 iv0 (hW.p iv0 0 rfl) h
set_option maxRecDepth 100000 in
set_option maxHeartbeats 4000000 in
theorem sl_X12_rehashes_24 {p : Program} {l : Launch} {e : Env} {s : State} {m : MethodId} {args : Array Value} {below : List Frame} {meth : Method} {c : Code} {z : Nat} {D : tc_D} {G : tc_G} (hW : tc_W G) (r : Int32) (ur : tc_S) : ∀ (n : Nat) (v0 : Nat) (v1 : Int32) (v5 : Int32) (u : tc_S) (iv0 : tc_is G v0 12) (h : lo_X12_rehashes_24 G n v0 v1 v5 u = some (r, ur)), tc_R p l e { frames := 6, cells := 0, slots := 0, locals := 154 } s m args below meth c z D cX12_rehashes RX12 7 (some .boolean) 0 0 (tc_po r G ur) 0 0 G u 24 [(0, .ref (z + v0)), (1, .int v1), (5, .int v5)] [] := by
  intro n
  induction n with
  | zero => intro v0 v1 v5 u iv0 h; cases h
  | succ n ih =>
    intro v0 v1 v5 u iv0 h
    rw [lo_X12_rehashes_24] at h
    refine tc_iload 2 rfl dX12_rehashes_24 ?_
    refine tc_aload_n 0 rfl dX12_rehashes_26 ?_
    refine tc_getp hW iv0 fl_X12_7 dX12_rehashes_27 rfl ?_
    refine tc_iload_n 1 rfl dX12_rehashes_30 ?_
    refine tc_iconst (v := 4) (by decide) dX12_rehashes_31 ?_
    refine tc_iadd dX12_rehashes_32 ?_
    obtain ⟨bx25, x25, ex25, h⟩ := tc_ld_ex h
    refine tc_iald (hW.p iv0 0 rfl).1 bx25 dX12_rehashes_33 ?_
    refine tc_nm ex25 ?_
    refine tc_icmp_ge 135 dX12_rehashes_34 (by decide) (fun hc26 => ?_) (fun hc26 => ?_)
    · rw [if_pos hc26] at h
      refine tc_iconst (v := 0) (by decide) dX12_rehashes_135 ?_
      obtain ⟨hz27, h⟩ := tc_zo_ex h
      cases h
      exact tc_zreturn hz27 rfl dX12_rehashes_136 rfl rfl ⟨rfl, rfl, rfl⟩
    · rw [if_neg hc26] at h
      refine tc_iconst (v := 0) (by decide) dX12_rehashes_37 ?_
      refine tc_istore [(6, .int 0), (0, .ref (z + v0)), (1, .int v1), (5, .int v5)] dX12_rehashes_38 (by decide) rfl ?_
      refine tc_lvs [1, 2, 3, 0] rfl ?_
      exact sl_X12_rehashes_40 hW r ur _ ih _ v0 v1 v5 0 u iv0 h
set_option maxRecDepth 100000 in
set_option maxHeartbeats 4000000 in
theorem ct_X12_rehashes {l : Launch} {z : Nat} {D : tc_D} {G : tc_G} (hW : tc_W G) {v0 : Nat} {v1 : Int32} {v2 : Int32} {v3 : Int32} {v4 : Int32} {u : tc_S} {r : Int32} {ur : tc_S} (iv0 : tc_is G v0 12) (h : fn_X12_rehashes G v0 v1 v2 v3 v4 u = some (r, ur)) : tc_C l z D yX12_rehashes cX12_rehashes 7 (some .boolean) 6 154 0 0 [.ref (z + v0), .int v1, .int v2, .int v3, .int v4] G u (tc_po r G ur) := by
  unfold fn_X12_rehashes at h
  refine tc_C.of (by decide) (Nat.le_of_ble_eq_true rfl) fun p e s m args below meth c => ?_
  show tc_R p l e { frames := 6, cells := 0, slots := 0, locals := 154 } s m args below meth c z D cX12_rehashes RX12 7 (some .boolean) 0 0 (tc_po r G ur) 0 0 G u 0 [(0, .ref (z + v0)), (1, .int v1), (2, .int v2), (3, .int v3), (4, .int v4)] []
  refine tc_aload_n 0 rfl dX12_rehashes_0 ?_
  refine tc_iload_n 1 rfl dX12_rehashes_1 ?_
  refine tc_sipush (v := 584) (by decide) dX12_rehashes_2 ?_
  obtain ⟨x28, u29, hq30, h⟩ := tc_b_ex h
  refine tc_callVv [.int v1, .int 584] dX12_rehashes_5 iv0.1 (ct_X12_copies hW iv0 hq30) ml_X12_83 mw_X12_copies mv_X12_copies ⟨Nat.le_of_ble_eq_true rfl, Nat.le_of_ble_eq_true rfl⟩ rfl rfl (Nat.le_of_ble_eq_true rfl) ⟨Nat.le_refl _, Nat.le_refl _⟩ (by decide) ?_
  refine tc_aload_n 0 rfl dX12_rehashes_8 ?_
  refine tc_iload_n 1 rfl dX12_rehashes_9 ?_
  obtain ⟨x31, u32, hq33, h⟩ := tc_b_ex h
  refine tc_callVv [.int v1] dX12_rehashes_10 iv0.1 (ct_X12_lists hW iv0 hq33) ml_X12_152 mw_X12_lists mv_X12_lists ⟨Nat.le_of_ble_eq_true rfl, Nat.le_of_ble_eq_true rfl⟩ rfl rfl (Nat.le_of_ble_eq_true rfl) ⟨Nat.le_refl _, Nat.le_refl _⟩ (by decide) ?_
  refine tc_aload_n 0 rfl dX12_rehashes_13 ?_
  refine tc_iload_n 2 rfl dX12_rehashes_14 ?_
  refine tc_iload_n 3 rfl dX12_rehashes_15 ?_
  refine tc_iload 4 rfl dX12_rehashes_16 ?_
  obtain ⟨x34, u35, hq36, h⟩ := tc_b_ex h
  refine tc_callVv [.int v2, .int v3, .int v4] dX12_rehashes_18 iv0.1 (ct_X12_addsNew hW iv0 hq36) ml_X12_155 mw_X12_addsNew mv_X12_addsNew ⟨Nat.le_of_ble_eq_true rfl, Nat.le_of_ble_eq_true rfl⟩ rfl rfl (Nat.le_of_ble_eq_true rfl) ⟨Nat.le_refl _, Nat.le_refl _⟩ (by decide) ?_
  refine tc_iconst (v := 0) (by decide) dX12_rehashes_21 ?_
  refine tc_istore [(5, .int 0), (0, .ref (z + v0)), (1, .int v1), (2, .int v2), (3, .int v3), (4, .int v4)] dX12_rehashes_22 (by decide) rfl ?_
  refine tc_lvs [1, 2, 0] rfl ?_
  exact sl_X12_rehashes_24 hW r ur  _ v0 v1 0 u35 iv0 h
set_option maxRecDepth 100000 in
set_option maxHeartbeats 4000000 in
theorem sl_X12_grows_34 {p : Program} {l : Launch} {e : Env} {s : State} {m : MethodId} {args : Array Value} {below : List Frame} {meth : Method} {c : Code} {z : Nat} {D : tc_D} {G : tc_G} (hW : tc_W G) (r : Int32) (ur : tc_S) : ∀ (n : Nat) (v0 : Nat) (v1 : Int32) (v5 : Int32) (v6 : Int32) (u : tc_S) (iv0 : tc_is G v0 12) (h : lo_X12_grows_34 G n v0 v1 v5 v6 u = some (r, ur)), tc_R p l e { frames := 6, cells := 0, slots := 0, locals := 154 } s m args below meth c z D cX12_grows RX12 7 (some .boolean) 0 0 (tc_po r G ur) 0 0 G u 34 [(0, .ref (z + v0)), (1, .int v1), (5, .int v5), (6, .int v6)] [] := by
  intro n
  induction n with
  | zero => intro v0 v1 v5 v6 u iv0 h; cases h
  | succ n ih =>
    intro v0 v1 v5 v6 u iv0 h
    rw [lo_X12_grows_34] at h
    refine tc_iload 2 rfl dX12_grows_34 ?_
    refine tc_bipush (v := 8) (by decide) dX12_grows_36 ?_
    refine tc_icmp_gt 101 dX12_grows_38 (by decide) (fun hc1 => ?_) (fun hc1 => ?_)
    · rw [if_pos hc1] at h
      refine tc_iconst (v := 0) (by decide) dX12_grows_101 ?_
      obtain ⟨hz2, h⟩ := tc_zo_ex h
      cases h
      exact tc_zreturn hz2 rfl dX12_grows_102 rfl rfl ⟨rfl, rfl, rfl⟩
    · rw [if_neg hc1] at h
      refine tc_iload 2 rfl dX12_grows_41 ?_
      refine tc_iconst (v := 2) (by decide) dX12_grows_43 ?_
      refine tc_imul dX12_grows_44 ?_
      obtain ⟨x3, ex3, h⟩ := tc_let_ex h
      refine tc_nm ex3 ?_
      refine tc_istore [(5, .int x3), (0, .ref (z + v0)), (1, .int v1), (6, .int v6)] dX12_grows_45 (by decide) rfl ?_
      refine tc_aload_n 1 rfl dX12_grows_47 ?_
      refine tc_getp hW iv0 fl_X12_7 dX12_grows_48 rfl ?_
      refine tc_iload_n 2 rfl dX12_grows_51 ?_
      refine tc_iconst (v := 0) (by decide) dX12_grows_52 ?_
      refine tc_iadd dX12_grows_53 ?_
      refine tc_iload 0 rfl dX12_grows_54 ?_
      obtain ⟨bu4, u4, eu4, h⟩ := tc_sd_ex h
      refine tc_iast (hW.p iv0 0 rfl).1 bu4 dX12_grows_56 ?_
      refine tc_nmu eu4 ?_
      refine tc_aload_n 1 rfl dX12_grows_57 ?_
      refine tc_iload_n 2 rfl dX12_grows_58 ?_
      obtain ⟨x5, u6, hq7, h⟩ := tc_b_ex h
      refine tc_callVv [.int v1] dX12_grows_59 iv0.1 (ct_X12_empties hW iv0 hq7) ml_X12_159 mw_X12_empties mv_X12_empties ⟨Nat.le_of_ble_eq_true rfl, Nat.le_of_ble_eq_true rfl⟩ rfl rfl (Nat.le_of_ble_eq_true rfl) ⟨Nat.le_refl _, Nat.le_refl _⟩ (by decide) ?_
      refine tc_aload_n 1 rfl dX12_grows_62 ?_
      refine tc_iload_n 2 rfl dX12_grows_63 ?_
      refine tc_iconst (v := 0) (by decide) dX12_grows_64 ?_
      obtain ⟨x8, u9, hq10, h⟩ := tc_b_ex h
      refine tc_callVi [.int v1, .int 0] dX12_grows_65 iv0.1 (ct_X12_doAllCome hW iv0 hq10) ml_X12_162 mw_X12_doAllCome mv_X12_doAllCome ⟨Nat.le_of_ble_eq_true rfl, Nat.le_of_ble_eq_true rfl⟩ rfl rfl (Nat.le_of_ble_eq_true rfl) ⟨Nat.le_refl _, Nat.le_refl _⟩ (by decide) ?_
      refine tc_if_eq 87 dX12_grows_68 (by decide) (fun hc11 => ?_) (fun hc11 => ?_)
      · rw [if_pos hc11] at h
        refine tc_aload_n 1 rfl dX12_grows_87 ?_
        refine tc_sipush (v := 584) (by decide) dX12_grows_88 ?_
        refine tc_iload_n 2 rfl dX12_grows_91 ?_
        obtain ⟨x12, u13, hq14, h⟩ := tc_b_ex h
        refine tc_callVv [.int 584, .int v1] dX12_grows_92 iv0.1 (ct_X12_comesBack hW iv0 hq14) ml_X12_122 mw_X12_comesBack mv_X12_comesBack ⟨Nat.le_of_ble_eq_true rfl, Nat.le_of_ble_eq_true rfl⟩ rfl rfl (Nat.le_of_ble_eq_true rfl) ⟨Nat.le_refl _, Nat.le_refl _⟩ (by decide) ?_
        obtain ⟨x15, ex15, h⟩ := tc_let_ex h
        refine tc_iinc 3 (v := x15) [(6, .int x15), (5, .int x3), (0, .ref (z + v0)), (1, .int v1)] dX12_grows_95 rfl (by rw [ex15]; rfl) (by decide) rfl ?_
        refine tc_goto 34 dX12_grows_98 (by decide) ?_
        refine tc_lvs [2, 3, 1, 0] rfl ?_
        exact ih v0 v1 x3 x15 u13 iv0 h
      · rw [if_neg hc11] at h
        refine tc_aload_n 1 rfl dX12_grows_71 ?_
        refine tc_getp hW iv0 fl_X12_7 dX12_grows_72 rfl ?_
        refine tc_iload_n 2 rfl dX12_grows_75 ?_
        refine tc_bipush (v := 15) (by decide) dX12_grows_76 ?_
        refine tc_iadd dX12_grows_78 ?_
        refine tc_dup2 rfl rfl dX12_grows_79 ?_
        obtain ⟨bx16, x16, ex16, h⟩ := tc_ld_ex h
        refine tc_iald (hW.p iv0 0 rfl).1 bx16 dX12_grows_80 ?_
        refine tc_nm ex16 ?_
        refine tc_iload 3 rfl dX12_grows_81 ?_
        refine tc_iadd dX12_grows_83 ?_
        obtain ⟨bu17, u17, eu17, h⟩ := tc_sd_ex h
        refine tc_iast (hW.p iv0 0 rfl).1 bu17 dX12_grows_84 ?_
        refine tc_nmu eu17 ?_
        refine tc_iconst (v := 1) (by decide) dX12_grows_85 ?_
        obtain ⟨hz18, h⟩ := tc_zo_ex h
        cases h
        exact tc_zreturn hz18 rfl dX12_grows_86 rfl rfl ⟨rfl, rfl, rfl⟩
set_option maxRecDepth 100000 in
set_option maxHeartbeats 4000000 in
theorem ct_X12_grows {l : Launch} {z : Nat} {D : tc_D} {G : tc_G} (hW : tc_W G) {v0 : Nat} {v1 : Int32} {v2 : Int32} {v3 : Int32} {v4 : Int32} {u : tc_S} {r : Int32} {ur : tc_S} (iv0 : tc_is G v0 12) (h : fn_X12_grows G v0 v1 v2 v3 v4 u = some (r, ur)) : tc_C l z D yX12_grows cX12_grows 7 (some .boolean) 6 154 0 0 [.ref (z + v0), .int v1, .int v2, .int v3, .int v4] G u (tc_po r G ur) := by
  unfold fn_X12_grows at h
  refine tc_C.of (by decide) (Nat.le_of_ble_eq_true rfl) fun p e s m args below meth c => ?_
  show tc_R p l e { frames := 6, cells := 0, slots := 0, locals := 154 } s m args below meth c z D cX12_grows RX12 7 (some .boolean) 0 0 (tc_po r G ur) 0 0 G u 0 [(0, .ref (z + v0)), (1, .int v1), (2, .int v2), (3, .int v3), (4, .int v4)] []
  refine tc_aload_n 0 rfl dX12_grows_0 ?_
  refine tc_iload_n 1 rfl dX12_grows_1 ?_
  refine tc_sipush (v := 584) (by decide) dX12_grows_2 ?_
  obtain ⟨x19, u20, hq21, h⟩ := tc_b_ex h
  refine tc_callVv [.int v1, .int 584] dX12_grows_5 iv0.1 (ct_X12_copies hW iv0 hq21) ml_X12_83 mw_X12_copies mv_X12_copies ⟨Nat.le_of_ble_eq_true rfl, Nat.le_of_ble_eq_true rfl⟩ rfl rfl (Nat.le_of_ble_eq_true rfl) ⟨Nat.le_refl _, Nat.le_refl _⟩ (by decide) ?_
  refine tc_aload_n 0 rfl dX12_grows_8 ?_
  refine tc_iload_n 1 rfl dX12_grows_9 ?_
  obtain ⟨x22, u23, hq24, h⟩ := tc_b_ex h
  refine tc_callVv [.int v1] dX12_grows_10 iv0.1 (ct_X12_lists hW iv0 hq24) ml_X12_152 mw_X12_lists mv_X12_lists ⟨Nat.le_of_ble_eq_true rfl, Nat.le_of_ble_eq_true rfl⟩ rfl rfl (Nat.le_of_ble_eq_true rfl) ⟨Nat.le_refl _, Nat.le_refl _⟩ (by decide) ?_
  refine tc_aload_n 0 rfl dX12_grows_13 ?_
  refine tc_iload_n 2 rfl dX12_grows_14 ?_
  refine tc_iload_n 3 rfl dX12_grows_15 ?_
  refine tc_iload 4 rfl dX12_grows_16 ?_
  obtain ⟨x25, u26, hq27, h⟩ := tc_b_ex h
  refine tc_callVv [.int v2, .int v3, .int v4] dX12_grows_18 iv0.1 (ct_X12_addsNew hW iv0 hq27) ml_X12_155 mw_X12_addsNew mv_X12_addsNew ⟨Nat.le_of_ble_eq_true rfl, Nat.le_of_ble_eq_true rfl⟩ rfl rfl (Nat.le_of_ble_eq_true rfl) ⟨Nat.le_refl _, Nat.le_refl _⟩ (by decide) ?_
  refine tc_aload_n 0 rfl dX12_grows_21 ?_
  refine tc_getp hW iv0 fl_X12_7 dX12_grows_22 rfl ?_
  refine tc_iload_n 1 rfl dX12_grows_25 ?_
  refine tc_iconst (v := 0) (by decide) dX12_grows_26 ?_
  refine tc_iadd dX12_grows_27 ?_
  obtain ⟨bx28, x28, ex28, h⟩ := tc_ld_ex h
  refine tc_iald (hW.p iv0 0 rfl).1 bx28 dX12_grows_28 ?_
  refine tc_nm ex28 ?_
  refine tc_istore [(5, .int x28), (0, .ref (z + v0)), (1, .int v1), (2, .int v2), (3, .int v3), (4, .int v4)] dX12_grows_29 (by decide) rfl ?_
  refine tc_iconst (v := 1) (by decide) dX12_grows_31 ?_
  refine tc_istore [(6, .int 1), (5, .int x28), (0, .ref (z + v0)), (1, .int v1), (2, .int v2), (3, .int v3), (4, .int v4)] dX12_grows_32 (by decide) rfl ?_
  refine tc_lvs [2, 3, 1, 0] rfl ?_
  exact sl_X12_grows_34 hW r ur  _ v0 v1 x28 1 u26 iv0 h
set_option maxRecDepth 100000 in
set_option maxHeartbeats 4000000 in
theorem sb_X12_puts_167 {p : Program} {l : Launch} {e : Env} {s : State} {m : MethodId} {args : Array Value} {below : List Frame} {meth : Method} {c : Code} {z : Nat} {D : tc_D} {G : tc_G} (hW : tc_W G) (r : Int32) (ur : tc_S) (v0 : Nat) (v1 : Int32) (u : tc_S) (iv0 : tc_is G v0 12) (h : bl_X12_puts_167 G v0 v1 u = some (r, ur)) : tc_R p l e { frames := 7, cells := 0, slots := 0, locals := 180 } s m args below meth c z D cX12_puts RX12 9 (some .int) 0 0 (tc_po r G ur) 0 0 G u 167 [(0, .ref (z + v0)), (1, .int v1)] [] := by
  unfold bl_X12_puts_167 at h
  refine tc_aload_n 0 rfl dX12_puts_167 ?_
  refine tc_getp hW iv0 fl_X12_7 dX12_puts_168 rfl ?_
  refine tc_iload_n 1 rfl dX12_puts_171 ?_
  refine tc_bipush (v := 13) (by decide) dX12_puts_172 ?_
  refine tc_iadd dX12_puts_174 ?_
  refine tc_dup2 rfl rfl dX12_puts_175 ?_
  obtain ⟨bx1, x1, ex1, h⟩ := tc_ld_ex h
  refine tc_iald (hW.p iv0 0 rfl).1 bx1 dX12_puts_176 ?_
  refine tc_nm ex1 ?_
  refine tc_iconst (v := 1) (by decide) dX12_puts_177 ?_
  refine tc_iadd dX12_puts_178 ?_
  obtain ⟨bu2, u2, eu2, h⟩ := tc_sd_ex h
  refine tc_iast (hW.p iv0 0 rfl).1 bu2 dX12_puts_179 ?_
  refine tc_nmu eu2 ?_
  refine tc_iconst (v := (-1)) (by decide) dX12_puts_180 ?_
  cases h
  exact tc_ireturn rfl dX12_puts_181 rfl rfl ⟨rfl, rfl, rfl⟩
set_option maxRecDepth 100000 in
set_option maxHeartbeats 4000000 in
theorem sb_X12_puts_147 {p : Program} {l : Launch} {e : Env} {s : State} {m : MethodId} {args : Array Value} {below : List Frame} {meth : Method} {c : Code} {z : Nat} {D : tc_D} {G : tc_G} (hW : tc_W G) (r : Int32) (ur : tc_S) (v0 : Nat) (v1 : Int32) (v2 : Int32) (v3 : Int32) (v5 : Int32) (v7 : Int32) (u : tc_S) (iv0 : tc_is G v0 12) (h : bl_X12_puts_147 G v0 v1 v2 v3 v5 v7 u = some (r, ur)) : tc_R p l e { frames := 7, cells := 0, slots := 0, locals := 180 } s m args below meth c z D cX12_puts RX12 9 (some .int) 0 0 (tc_po r G ur) 0 0 G u 147 [(0, .ref (z + v0)), (1, .int v1), (2, .int v2), (3, .int v3), (5, .int v5), (7, .int v7)] [] := by
  unfold bl_X12_puts_147 at h
  refine tc_iload 5 rfl dX12_puts_147 ?_
  refine tc_iconst (v := 2) (by decide) dX12_puts_149 ?_
  refine tc_icmp_ne 167 dX12_puts_150 (by decide) (fun hc3 => ?_) (fun hc3 => ?_)
  · rw [if_neg hc3] at h
    refine tc_lvs [0, 1] rfl ?_
    exact sb_X12_puts_167 hW r ur  v0 v1 u iv0 h
  · rw [if_pos hc3] at h
    refine tc_aload_n 0 rfl dX12_puts_153 ?_
    refine tc_iload_n 1 rfl dX12_puts_154 ?_
    refine tc_iload_n 2 rfl dX12_puts_155 ?_
    refine tc_iload_n 3 rfl dX12_puts_156 ?_
    refine tc_iload 4 rfl dX12_puts_157 ?_
    obtain ⟨x4, u5, hq6, h⟩ := tc_b_ex h
    refine tc_callVi [.int v1, .int v2, .int v3, .int v5] dX12_puts_159 iv0.1 (ct_X12_grows hW iv0 hq6) ml_X12_173 mw_X12_grows mv_X12_grows ⟨Nat.le_of_ble_eq_true rfl, Nat.le_of_ble_eq_true rfl⟩ rfl rfl (Nat.le_of_ble_eq_true rfl) ⟨Nat.le_refl _, Nat.le_refl _⟩ (by decide) ?_
    refine tc_if_eq 167 dX12_puts_162 (by decide) (fun hc7 => ?_) (fun hc7 => ?_)
    · rw [if_pos hc7] at h
      refine tc_lvs [0, 1] rfl ?_
      exact sb_X12_puts_167 hW r ur  v0 v1 u5 iv0 h
    · rw [if_neg hc7] at h
      refine tc_iconst (v := 5) (by decide) dX12_puts_165 ?_
      cases h
      exact tc_ireturn rfl dX12_puts_166 rfl rfl ⟨rfl, rfl, rfl⟩
set_option maxRecDepth 100000 in
set_option maxHeartbeats 4000000 in
theorem sb_X12_puts_133 {p : Program} {l : Launch} {e : Env} {s : State} {m : MethodId} {args : Array Value} {below : List Frame} {meth : Method} {c : Code} {z : Nat} {D : tc_D} {G : tc_G} (hW : tc_W G) (r : Int32) (ur : tc_S) (v0 : Nat) (v1 : Int32) (v2 : Int32) (v3 : Int32) (v5 : Int32) (v7 : Int32) (u : tc_S) (iv0 : tc_is G v0 12) (h : bl_X12_puts_133 G v0 v1 v2 v3 v5 v7 u = some (r, ur)) : tc_R p l e { frames := 7, cells := 0, slots := 0, locals := 180 } s m args below meth c z D cX12_puts RX12 9 (some .int) 0 0 (tc_po r G ur) 0 0 G u 133 [(0, .ref (z + v0)), (1, .int v1), (2, .int v2), (3, .int v3), (5, .int v5), (7, .int v7)] [] := by
  unfold bl_X12_puts_133 at h
  refine tc_aload_n 0 rfl dX12_puts_133 ?_
  refine tc_iload_n 1 rfl dX12_puts_134 ?_
  refine tc_iload_n 2 rfl dX12_puts_135 ?_
  refine tc_iload_n 3 rfl dX12_puts_136 ?_
  refine tc_iload 4 rfl dX12_puts_137 ?_
  obtain ⟨x8, u9, hq10, h⟩ := tc_b_ex h
  refine tc_callVi [.int v1, .int v2, .int v3, .int v5] dX12_puts_139 iv0.1 (ct_X12_rehashes hW iv0 hq10) ml_X12_169 mw_X12_rehashes mv_X12_rehashes ⟨Nat.le_of_ble_eq_true rfl, Nat.le_of_ble_eq_true rfl⟩ rfl rfl (Nat.le_of_ble_eq_true rfl) ⟨Nat.le_refl _, Nat.le_refl _⟩ (by decide) ?_
  refine tc_if_eq 147 dX12_puts_142 (by decide) (fun hc11 => ?_) (fun hc11 => ?_)
  · rw [if_pos hc11] at h
    exact sb_X12_puts_147 hW r ur  v0 v1 v2 v3 v5 v7 u9 iv0 h
  · rw [if_neg hc11] at h
    refine tc_iconst (v := 4) (by decide) dX12_puts_145 ?_
    cases h
    exact tc_ireturn rfl dX12_puts_146 rfl rfl ⟨rfl, rfl, rfl⟩
set_option maxRecDepth 100000 in
set_option maxHeartbeats 4000000 in
theorem sb_X12_puts_96 {p : Program} {l : Launch} {e : Env} {s : State} {m : MethodId} {args : Array Value} {below : List Frame} {meth : Method} {c : Code} {z : Nat} {D : tc_D} {G : tc_G} (hW : tc_W G) (r : Int32) (ur : tc_S) (v0 : Nat) (v1 : Int32) (v2 : Int32) (v3 : Int32) (v5 : Int32) (v7 : Int32) (s0 : Int32) (u : tc_S) (iv0 : tc_is G v0 12) (h : bl_X12_puts_96 G v0 v1 v2 v3 v5 v7 s0 u = some (r, ur)) : tc_R p l e { frames := 7, cells := 0, slots := 0, locals := 180 } s m args below meth c z D cX12_puts RX12 9 (some .int) 0 0 (tc_po r G ur) 0 0 G u 96 [(0, .ref (z + v0)), (1, .int v1), (2, .int v2), (3, .int v3), (5, .int v5), (7, .int v7)] [.int s0] := by
  unfold bl_X12_puts_96 at h
  refine tc_istore [(8, .int s0), (0, .ref (z + v0)), (1, .int v1), (2, .int v2), (3, .int v3), (5, .int v5), (7, .int v7)] dX12_puts_96 (by decide) rfl ?_
  refine tc_iload 0 rfl dX12_puts_98 ?_
  refine tc_if_le 121 dX12_puts_100 (by decide) (fun hc12 => ?_) (fun hc12 => ?_)
  · rw [if_pos hc12] at h
    refine tc_iload 6 rfl dX12_puts_121 ?_
    refine tc_iconst (v := 1) (by decide) dX12_puts_123 ?_
    refine tc_icmp_eq 133 dX12_puts_124 (by decide) (fun hc13 => ?_) (fun hc13 => ?_)
    · rw [if_pos hc13] at h
      refine tc_lvs [1, 2, 3, 4, 5, 6] rfl ?_
      exact sb_X12_puts_133 hW r ur  v0 v1 v2 v3 v5 v7 u iv0 h
    · rw [if_neg hc13] at h
      refine tc_iload 6 rfl dX12_puts_127 ?_
      refine tc_iconst (v := 3) (by decide) dX12_puts_129 ?_
      refine tc_icmp_ne 147 dX12_puts_130 (by decide) (fun hc14 => ?_) (fun hc14 => ?_)
      · rw [if_neg hc14] at h
        refine tc_lvs [1, 2, 3, 4, 5, 6] rfl ?_
        exact sb_X12_puts_147 hW r ur  v0 v1 v2 v3 v5 v7 u iv0 h
      · rw [if_pos hc14] at h
        refine tc_lvs [1, 2, 3, 4, 5, 6] rfl ?_
        exact sb_X12_puts_133 hW r ur  v0 v1 v2 v3 v5 v7 u iv0 h
  · rw [if_neg hc12] at h
    refine tc_aload_n 1 rfl dX12_puts_103 ?_
    refine tc_aload_n 1 rfl dX12_puts_104 ?_
    refine tc_iload_n 2 rfl dX12_puts_105 ?_
    refine tc_iload 0 rfl dX12_puts_106 ?_
    obtain ⟨x15, u16, hq17, h⟩ := tc_b_ex h
    refine tc_callVi [.int v1, .int s0] dX12_puts_108 iv0.1 (ct_X12_opens hW iv0 hq17) ml_X12_135 mw_X12_opens mv_X12_opens ⟨Nat.le_of_ble_eq_true rfl, Nat.le_of_ble_eq_true rfl⟩ rfl rfl (Nat.le_of_ble_eq_true rfl) ⟨Nat.le_refl _, Nat.le_refl _⟩ (by decide) ?_
    refine tc_iload_n 3 rfl dX12_puts_111 ?_
    refine tc_iload_n 4 rfl dX12_puts_112 ?_
    refine tc_iload 5 rfl dX12_puts_113 ?_
    refine tc_iconst (v := 0) (by decide) dX12_puts_115 ?_
    obtain ⟨x18, u19, hq20, h⟩ := tc_b_ex h
    refine tc_callVv [.int x15, .int v2, .int v3, .int v5, .int 0] dX12_puts_116 iv0.1 (ct_X12_lays hW iv0 hq20) ml_X12_128 mw_X12_lays mv_X12_lays ⟨Nat.le_of_ble_eq_true rfl, Nat.le_of_ble_eq_true rfl⟩ rfl rfl (Nat.le_of_ble_eq_true rfl) ⟨Nat.le_refl _, Nat.le_refl _⟩ (by decide) ?_
    refine tc_iconst (v := 2) (by decide) dX12_puts_119 ?_
    cases h
    exact tc_ireturn rfl dX12_puts_120 rfl rfl ⟨rfl, rfl, rfl⟩
set_option maxRecDepth 100000 in
set_option maxHeartbeats 4000000 in
theorem ct_X12_puts {l : Launch} {z : Nat} {D : tc_D} {G : tc_G} (hW : tc_W G) {v0 : Nat} {v1 : Int32} {v2 : Int32} {v3 : Int32} {u : tc_S} {r : Int32} {ur : tc_S} (iv0 : tc_is G v0 12) (h : fn_X12_puts G v0 v1 v2 v3 u = some (r, ur)) : tc_C l z D yX12_puts cX12_puts 9 (some .int) 7 180 0 0 [.ref (z + v0), .int v1, .int v2, .int v3] G u (tc_po r G ur) := by
  unfold fn_X12_puts at h
  refine tc_C.of (by decide) (Nat.le_of_ble_eq_true rfl) fun p e s m args below meth c => ?_
  show tc_R p l e { frames := 7, cells := 0, slots := 0, locals := 180 } s m args below meth c z D cX12_puts RX12 9 (some .int) 0 0 (tc_po r G ur) 0 0 G u 0 [(0, .ref (z + v0)), (1, .int v1), (2, .int v2), (3, .int v3)] []
  refine tc_aload_n 0 rfl dX12_puts_0 ?_
  refine tc_getp hW iv0 fl_X12_7 dX12_puts_1 rfl ?_
  refine tc_iload_n 1 rfl dX12_puts_4 ?_
  refine tc_bipush (v := 12) (by decide) dX12_puts_5 ?_
  refine tc_iadd dX12_puts_7 ?_
  refine tc_dup2 rfl rfl dX12_puts_8 ?_
  obtain ⟨bx21, x21, ex21, h⟩ := tc_ld_ex h
  refine tc_iald (hW.p iv0 0 rfl).1 bx21 dX12_puts_9 ?_
  refine tc_nm ex21 ?_
  refine tc_iconst (v := 1) (by decide) dX12_puts_10 ?_
  refine tc_iadd dX12_puts_11 ?_
  obtain ⟨bu22, u22, eu22, h⟩ := tc_sd_ex h
  refine tc_iast (hW.p iv0 0 rfl).1 bu22 dX12_puts_12 ?_
  refine tc_nmu eu22 ?_
  refine tc_aload_n 0 rfl dX12_puts_13 ?_
  refine tc_iload_n 1 rfl dX12_puts_14 ?_
  refine tc_iload_n 2 rfl dX12_puts_15 ?_
  obtain ⟨x23, u24, hq25, h⟩ := tc_b_ex h
  refine tc_callVi [.int v1, .int v2] dX12_puts_16 iv0.1 (ct_X12_lies hW iv0 hq25) ml_X12_166 mw_X12_lies mv_X12_lies ⟨Nat.le_of_ble_eq_true rfl, Nat.le_of_ble_eq_true rfl⟩ rfl rfl (Nat.le_of_ble_eq_true rfl) ⟨Nat.le_refl _, Nat.le_refl _⟩ (by decide) ?_
  refine tc_istore [(4, .int x23), (0, .ref (z + v0)), (1, .int v1), (2, .int v2), (3, .int v3)] dX12_puts_19 (by decide) rfl ?_
  refine tc_iload 0 rfl dX12_puts_21 ?_
  refine tc_if_lt 38 dX12_puts_23 (by decide) (fun hc26 => ?_) (fun hc26 => ?_)
  · rw [if_pos hc26] at h
    refine tc_aload_n 1 rfl dX12_puts_38 ?_
    refine tc_getp hW iv0 fl_X12_7 dX12_puts_39 rfl ?_
    refine tc_iload_n 2 rfl dX12_puts_42 ?_
    refine tc_bipush (v := 12) (by decide) dX12_puts_43 ?_
    refine tc_iadd dX12_puts_45 ?_
    obtain ⟨bx27, x27, ex27, h⟩ := tc_ld_ex h
    refine tc_iald (hW.p iv0 0 rfl).1 bx27 dX12_puts_46 ?_
    refine tc_nm ex27 ?_
    refine tc_istore [(5, .int x27), (4, .int x23), (0, .ref (z + v0)), (1, .int v1), (2, .int v2), (3, .int v3)] dX12_puts_47 (by decide) rfl ?_
    refine tc_aload_n 2 rfl dX12_puts_49 ?_
    refine tc_iload_n 3 rfl dX12_puts_50 ?_
    refine tc_iload_n 4 rfl dX12_puts_51 ?_
    refine tc_iload_n 5 rfl dX12_puts_52 ?_
    refine tc_iload 0 rfl dX12_puts_53 ?_
    refine tc_iconst (v := 0) (by decide) dX12_puts_55 ?_
    obtain ⟨x28, u29, hq30, h⟩ := tc_b_ex h
    refine tc_callVi [.int v1, .int v2, .int v3, .int x27, .int 0] dX12_puts_56 iv0.1 (ct_X12_comesIn hW iv0 hq30) ml_X12_148 mw_X12_comesIn mv_X12_comesIn ⟨Nat.le_of_ble_eq_true rfl, Nat.le_of_ble_eq_true rfl⟩ rfl rfl (Nat.le_of_ble_eq_true rfl) ⟨Nat.le_refl _, Nat.le_refl _⟩ (by decide) ?_
    refine tc_istore [(6, .int x28), (5, .int x27), (4, .int x23), (0, .ref (z + v0)), (1, .int v1), (2, .int v2), (3, .int v3)] dX12_puts_59 (by decide) rfl ?_
    refine tc_iload 0 rfl dX12_puts_61 ?_
    refine tc_if_le 69 dX12_puts_63 (by decide) (fun hc31 => ?_) (fun hc31 => ?_)
    · rw [if_pos hc31] at h
      refine tc_aload_n 3 rfl dX12_puts_69 ?_
      refine tc_getp hW iv0 fl_X12_7 dX12_puts_70 rfl ?_
      refine tc_iload_n 4 rfl dX12_puts_73 ?_
      refine tc_bipush (v := 6) (by decide) dX12_puts_74 ?_
      refine tc_iadd dX12_puts_76 ?_
      obtain ⟨bx32, x32, ex32, h⟩ := tc_ld_ex h
      refine tc_iald (hW.p iv0 0 rfl).1 bx32 dX12_puts_77 ?_
      refine tc_nm ex32 ?_
      refine tc_istore [(7, .int x32), (6, .int x28), (5, .int x27), (4, .int x23), (0, .ref (z + v0)), (1, .int v1), (2, .int v2), (3, .int v3)] dX12_puts_78 (by decide) rfl ?_
      refine tc_iload 0 rfl dX12_puts_80 ?_
      refine tc_iconst (v := 3) (by decide) dX12_puts_82 ?_
      refine tc_icmp_ne 95 dX12_puts_83 (by decide) (fun hc33 => ?_) (fun hc33 => ?_)
      · rw [if_neg hc33] at h
        refine tc_iconst (v := (-1)) (by decide) dX12_puts_95 ?_
        refine tc_lvs [4, 5, 6, 7, 2, 0] rfl ?_
        exact sb_X12_puts_96 hW r ur  v0 v1 v2 v3 x27 x32 (-1) u29 iv0 h
      · rw [if_pos hc33] at h
        refine tc_aload_n 4 rfl dX12_puts_86 ?_
        refine tc_iload_n 5 rfl dX12_puts_87 ?_
        refine tc_iload_n 6 rfl dX12_puts_88 ?_
        obtain ⟨x34, u35, hq36, h⟩ := tc_b_ex h
        refine tc_callVi [.int v1, .int v2] dX12_puts_89 iv0.1 (ct_X12_chainOf hW iv0 hq36) ml_X12_132 mw_X12_chainOf mv_X12_chainOf ⟨Nat.le_of_ble_eq_true rfl, Nat.le_of_ble_eq_true rfl⟩ rfl rfl (Nat.le_of_ble_eq_true rfl) ⟨Nat.le_refl _, Nat.le_refl _⟩ (by decide) ?_
        refine tc_goto 96 dX12_puts_92 (by decide) ?_
        refine tc_lvs [4, 5, 6, 7, 2, 0] rfl ?_
        exact sb_X12_puts_96 hW r ur  v0 v1 v2 v3 x27 x32 x34 u35 iv0 h
    · rw [if_neg hc31] at h
      refine tc_iload 0 rfl dX12_puts_66 ?_
      cases h
      exact tc_ireturn rfl dX12_puts_68 rfl rfl ⟨rfl, rfl, rfl⟩
  · rw [if_neg hc26] at h
    refine tc_aload_n 1 rfl dX12_puts_26 ?_
    refine tc_getp hW iv0 fl_X12_7 dX12_puts_27 rfl ?_
    refine tc_iload 0 rfl dX12_puts_30 ?_
    refine tc_iconst (v := 1) (by decide) dX12_puts_32 ?_
    refine tc_iadd dX12_puts_33 ?_
    refine tc_iload_n 4 rfl dX12_puts_34 ?_
    obtain ⟨bu37, u37, eu37, h⟩ := tc_sd_ex h
    refine tc_iast (hW.p iv0 0 rfl).1 bu37 dX12_puts_35 ?_
    refine tc_nmu eu37 ?_
    refine tc_iconst (v := 0) (by decide) dX12_puts_36 ?_
    cases h
    exact tc_ireturn rfl dX12_puts_37 rfl rfl ⟨rfl, rfl, rfl⟩
set_option maxRecDepth 100000 in
set_option maxHeartbeats 4000000 in
theorem sl_X12_goesOut_90 {p : Program} {l : Launch} {e : Env} {s : State} {m : MethodId} {args : Array Value} {below : List Frame} {meth : Method} {c : Code} {z : Nat} {D : tc_D} {G : tc_G} (hW : tc_W G) (r : Int32) (ur : tc_S) : ∀ (n : Nat) (v0 : Nat) (v1 : Int32) (v3 : Int32) (u : tc_S) (iv0 : tc_is G v0 12) (h : lo_X12_goesOut_90 G n v0 v1 v3 u = some (r, ur)), tc_R p l e { frames := 1, cells := 0, slots := 0, locals := 22 } s m args below meth c z D cX12_goesOut RX12 4 none 0 0 (tc_pv G ur) 0 0 G u 90 [(0, .ref (z + v0)), (1, .int v1), (3, .int v3)] [] := by
  intro n
  induction n with
  | zero => intro v0 v1 v3 u iv0 h; cases h
  | succ n ih =>
    intro v0 v1 v3 u iv0 h
    rw [lo_X12_goesOut_90] at h
    refine tc_iload_n 2 rfl dX12_goesOut_90 ?_
    refine tc_iconst (v := 4) (by decide) dX12_goesOut_91 ?_
    refine tc_icmp_ge 124 dX12_goesOut_92 (by decide) (fun hc1 => ?_) (fun hc1 => ?_)
    · rw [if_pos hc1] at h
      cases h
      exact tc_return rfl dX12_goesOut_124 rfl rfl ⟨rfl, rfl, rfl⟩
    · rw [if_neg hc1] at h
      refine tc_aload_n 0 rfl dX12_goesOut_95 ?_
      refine tc_getp hW iv0 fl_X12_7 dX12_goesOut_96 rfl ?_
      refine tc_iload_n 1 rfl dX12_goesOut_99 ?_
      refine tc_bipush (v := 100) (by decide) dX12_goesOut_100 ?_
      refine tc_aload_n 0 rfl dX12_goesOut_102 ?_
      refine tc_getp hW iv0 fl_X12_7 dX12_goesOut_103 rfl ?_
      refine tc_iload_n 1 rfl dX12_goesOut_106 ?_
      refine tc_bipush (v := 18) (by decide) dX12_goesOut_107 ?_
      refine tc_iadd dX12_goesOut_109 ?_
      obtain ⟨bx2, x2, ex2, h⟩ := tc_ld_ex h
      refine tc_iald (hW.p iv0 0 rfl).1 bx2 dX12_goesOut_110 ?_
      refine tc_nm ex2 ?_
      obtain ⟨x3, u4, hq5, h⟩ := tc_b_ex h
      refine tc_callSi [.int v1, .int 100, .int x2] dX12_goesOut_111 (ct_X12_cell hW hq5) ml_X12_92 mw_X12_cell ms_X12_cell ⟨Nat.le_of_ble_eq_true rfl, Nat.le_of_ble_eq_true rfl⟩ rfl rfl (Nat.le_of_ble_eq_true rfl) ⟨Nat.le_refl _, Nat.le_refl _⟩ ?_
      refine tc_iload_n 2 rfl dX12_goesOut_114 ?_
      refine tc_iadd dX12_goesOut_115 ?_
      refine tc_iconst (v := 0) (by decide) dX12_goesOut_116 ?_
      obtain ⟨bu6, u6, eu6, h⟩ := tc_sd_ex h
      refine tc_iast (hW.p iv0 0 rfl).1 bu6 dX12_goesOut_117 ?_
      refine tc_nmu eu6 ?_
      obtain ⟨x7, ex7, h⟩ := tc_let_ex h
      refine tc_iinc 2 (v := x7) [(3, .int x7), (0, .ref (z + v0)), (1, .int v1)] dX12_goesOut_118 rfl (by rw [ex7]; rfl) (by decide) rfl ?_
      refine tc_goto 90 dX12_goesOut_121 (by decide) ?_
      refine tc_lvs [1, 2, 0] rfl ?_
      exact ih v0 v1 x7 u6 iv0 h
set_option maxRecDepth 100000 in
set_option maxHeartbeats 4000000 in
theorem sl_X12_goesOut_34 {p : Program} {l : Launch} {e : Env} {s : State} {m : MethodId} {args : Array Value} {below : List Frame} {meth : Method} {c : Code} {z : Nat} {D : tc_D} {G : tc_G} (hW : tc_W G) (r : Int32) (ur : tc_S) : ∀ (n : Nat) (v0 : Nat) (v1 : Int32) (v3 : Int32) (u : tc_S) (iv0 : tc_is G v0 12) (h : lo_X12_goesOut_34 G n v0 v1 v3 u = some (r, ur)), tc_R p l e { frames := 1, cells := 0, slots := 0, locals := 22 } s m args below meth c z D cX12_goesOut RX12 4 none 0 0 (tc_pv G ur) 0 0 G u 34 [(0, .ref (z + v0)), (1, .int v1), (3, .int v3)] [] := by
  intro n
  induction n with
  | zero => intro v0 v1 v3 u iv0 h; cases h
  | succ n ih =>
    intro v0 v1 v3 u iv0 h
    rw [lo_X12_goesOut_34] at h
    refine tc_iload_n 2 rfl dX12_goesOut_34 ?_
    refine tc_iload_n 1 rfl dX12_goesOut_35 ?_
    refine tc_bipush (v := 100) (by decide) dX12_goesOut_36 ?_
    refine tc_aload_n 0 rfl dX12_goesOut_38 ?_
    refine tc_getp hW iv0 fl_X12_7 dX12_goesOut_39 rfl ?_
    refine tc_iload_n 1 rfl dX12_goesOut_42 ?_
    refine tc_bipush (v := 18) (by decide) dX12_goesOut_43 ?_
    refine tc_iadd dX12_goesOut_45 ?_
    obtain ⟨bx8, x8, ex8, h⟩ := tc_ld_ex h
    refine tc_iald (hW.p iv0 0 rfl).1 bx8 dX12_goesOut_46 ?_
    refine tc_nm ex8 ?_
    refine tc_iconst (v := 1) (by decide) dX12_goesOut_47 ?_
    refine tc_isub dX12_goesOut_48 ?_
    obtain ⟨x9, u10, hq11, h⟩ := tc_b_ex h
    refine tc_callSi [.int v1, .int 100, .int (x8 - 1)] dX12_goesOut_49 (ct_X12_cell hW hq11) ml_X12_92 mw_X12_cell ms_X12_cell ⟨Nat.le_of_ble_eq_true rfl, Nat.le_of_ble_eq_true rfl⟩ rfl rfl (Nat.le_of_ble_eq_true rfl) ⟨Nat.le_refl _, Nat.le_refl _⟩ ?_
    refine tc_icmp_ge 75 dX12_goesOut_52 (by decide) (fun hc12 => ?_) (fun hc12 => ?_)
    · rw [if_pos hc12] at h
      refine tc_aload_n 0 rfl dX12_goesOut_75 ?_
      refine tc_getp hW iv0 fl_X12_7 dX12_goesOut_76 rfl ?_
      refine tc_iload_n 1 rfl dX12_goesOut_79 ?_
      refine tc_bipush (v := 18) (by decide) dX12_goesOut_80 ?_
      refine tc_iadd dX12_goesOut_82 ?_
      refine tc_dup2 rfl rfl dX12_goesOut_83 ?_
      obtain ⟨bx13, x13, ex13, h⟩ := tc_ld_ex h
      refine tc_iald (hW.p iv0 0 rfl).1 bx13 dX12_goesOut_84 ?_
      refine tc_nm ex13 ?_
      refine tc_iconst (v := 1) (by decide) dX12_goesOut_85 ?_
      refine tc_isub dX12_goesOut_86 ?_
      obtain ⟨bu14, u14, eu14, h⟩ := tc_sd_ex h
      refine tc_iast (hW.p iv0 0 rfl).1 bu14 dX12_goesOut_87 ?_
      refine tc_nmu eu14 ?_
      refine tc_iconst (v := 0) (by decide) dX12_goesOut_88 ?_
      refine tc_istore_n [(3, .int 0), (0, .ref (z + v0)), (1, .int v1)] dX12_goesOut_89 (by decide) rfl ?_
      refine tc_lvs [1, 2, 0] rfl ?_
      exact sl_X12_goesOut_90 hW r ur  _ v0 v1 0 u14 iv0 h
    · rw [if_neg hc12] at h
      refine tc_aload_n 0 rfl dX12_goesOut_55 ?_
      refine tc_getp hW iv0 fl_X12_7 dX12_goesOut_56 rfl ?_
      refine tc_iload_n 2 rfl dX12_goesOut_59 ?_
      refine tc_aload_n 0 rfl dX12_goesOut_60 ?_
      refine tc_getp hW iv0 fl_X12_7 dX12_goesOut_61 rfl ?_
      refine tc_iload_n 2 rfl dX12_goesOut_64 ?_
      refine tc_iconst (v := 4) (by decide) dX12_goesOut_65 ?_
      refine tc_iadd dX12_goesOut_66 ?_
      obtain ⟨bx15, x15, ex15, h⟩ := tc_ld_ex h
      refine tc_iald (hW.p iv0 0 rfl).1 bx15 dX12_goesOut_67 ?_
      refine tc_nm ex15 ?_
      obtain ⟨bu16, u16, eu16, h⟩ := tc_sd_ex h
      refine tc_iast (hW.p iv0 0 rfl).1 bu16 dX12_goesOut_68 ?_
      refine tc_nmu eu16 ?_
      obtain ⟨x17, ex17, h⟩ := tc_let_ex h
      refine tc_iinc 2 (v := x17) [(3, .int x17), (0, .ref (z + v0)), (1, .int v1)] dX12_goesOut_69 rfl (by rw [ex17]; rfl) (by decide) rfl ?_
      refine tc_goto 34 dX12_goesOut_72 (by decide) ?_
      refine tc_lvs [1, 2, 0] rfl ?_
      exact ih v0 v1 x17 u16 iv0 h
set_option maxRecDepth 100000 in
set_option maxHeartbeats 4000000 in
theorem sl_X12_goesOut_2 {p : Program} {l : Launch} {e : Env} {s : State} {m : MethodId} {args : Array Value} {below : List Frame} {meth : Method} {c : Code} {z : Nat} {D : tc_D} {G : tc_G} (hW : tc_W G) (r : Int32) (ur : tc_S) : ∀ (n : Nat) (v0 : Nat) (v1 : Int32) (v2 : Int32) (v3 : Int32) (u : tc_S) (iv0 : tc_is G v0 12) (h : lo_X12_goesOut_2 G n v0 v1 v2 v3 u = some (r, ur)), tc_R p l e { frames := 1, cells := 0, slots := 0, locals := 22 } s m args below meth c z D cX12_goesOut RX12 4 none 0 0 (tc_pv G ur) 0 0 G u 2 [(0, .ref (z + v0)), (1, .int v1), (2, .int v2), (3, .int v3)] [] := by
  intro n
  induction n with
  | zero => intro v0 v1 v2 v3 u iv0 h; cases h
  | succ n ih =>
    intro v0 v1 v2 v3 u iv0 h
    rw [lo_X12_goesOut_2] at h
    refine tc_iload_n 3 rfl dX12_goesOut_2 ?_
    refine tc_iconst (v := 4) (by decide) dX12_goesOut_3 ?_
    refine tc_icmp_ge 22 dX12_goesOut_4 (by decide) (fun hc18 => ?_) (fun hc18 => ?_)
    · rw [if_pos hc18] at h
      refine tc_iload_n 2 rfl dX12_goesOut_22 ?_
      refine tc_iload_n 1 rfl dX12_goesOut_23 ?_
      refine tc_sipush (v := 276) (by decide) dX12_goesOut_24 ?_
      refine tc_iadd dX12_goesOut_27 ?_
      refine tc_icmp_ge 32 dX12_goesOut_28 (by decide) (fun hc19 => ?_) (fun hc19 => ?_)
      · rw [if_pos hc19] at h
        refine tc_iload_n 2 rfl dX12_goesOut_32 ?_
        refine tc_istore_n [(3, .int v2), (0, .ref (z + v0)), (1, .int v1), (2, .int v2)] dX12_goesOut_33 (by decide) rfl ?_
        refine tc_lvs [1, 2, 0] rfl ?_
        exact sl_X12_goesOut_34 hW r ur  _ v0 v1 v2 u iv0 h
      · rw [if_neg hc19] at h
        cases h
        exact tc_return rfl dX12_goesOut_31 rfl rfl ⟨rfl, rfl, rfl⟩
    · rw [if_neg hc18] at h
      refine tc_aload_n 0 rfl dX12_goesOut_7 ?_
      refine tc_getp hW iv0 fl_X12_7 dX12_goesOut_8 rfl ?_
      refine tc_iload_n 2 rfl dX12_goesOut_11 ?_
      refine tc_iload_n 3 rfl dX12_goesOut_12 ?_
      refine tc_iadd dX12_goesOut_13 ?_
      refine tc_iconst (v := 0) (by decide) dX12_goesOut_14 ?_
      obtain ⟨bu20, u20, eu20, h⟩ := tc_sd_ex h
      refine tc_iast (hW.p iv0 0 rfl).1 bu20 dX12_goesOut_15 ?_
      refine tc_nmu eu20 ?_
      obtain ⟨x21, ex21, h⟩ := tc_let_ex h
      refine tc_iinc 3 (v := x21) [(3, .int x21), (0, .ref (z + v0)), (1, .int v1), (2, .int v2)] dX12_goesOut_16 rfl (by rw [ex21]; rfl) (by decide) rfl ?_
      refine tc_goto 2 dX12_goesOut_19 (by decide) ?_
      refine tc_lvs [1, 2, 3, 0] rfl ?_
      exact ih v0 v1 v2 x21 u20 iv0 h
set_option maxRecDepth 100000 in
set_option maxHeartbeats 4000000 in
theorem ct_X12_goesOut {l : Launch} {z : Nat} {D : tc_D} {G : tc_G} (hW : tc_W G) {v0 : Nat} {v1 : Int32} {v2 : Int32} {u : tc_S} {r : Int32} {ur : tc_S} (iv0 : tc_is G v0 12) (h : fn_X12_goesOut G v0 v1 v2 u = some (r, ur)) : tc_C l z D yX12_goesOut cX12_goesOut 4 none 1 22 0 0 [.ref (z + v0), .int v1, .int v2] G u (tc_pv G ur) := by
  unfold fn_X12_goesOut at h
  refine tc_C.of (by decide) (Nat.le_of_ble_eq_true rfl) fun p e s m args below meth c => ?_
  show tc_R p l e { frames := 1, cells := 0, slots := 0, locals := 22 } s m args below meth c z D cX12_goesOut RX12 4 none 0 0 (tc_pv G ur) 0 0 G u 0 [(0, .ref (z + v0)), (1, .int v1), (2, .int v2)] []
  refine tc_iconst (v := 0) (by decide) dX12_goesOut_0 ?_
  refine tc_istore_n [(3, .int 0), (0, .ref (z + v0)), (1, .int v1), (2, .int v2)] dX12_goesOut_1 (by decide) rfl ?_
  refine tc_lvs [1, 2, 3, 0] rfl ?_
  exact sl_X12_goesOut_2 hW r ur  _ v0 v1 v2 0 u iv0 h
set_option maxRecDepth 100000 in
set_option maxHeartbeats 4000000 in
theorem sb_X12_drops_95 {p : Program} {l : Launch} {e : Env} {s : State} {m : MethodId} {args : Array Value} {below : List Frame} {meth : Method} {c : Code} {z : Nat} {D : tc_D} {G : tc_G} (hW : tc_W G) (r : Int32) (ur : tc_S) (K32 : Nat → Int32 → Int32 → Int32 → tc_S → Option (Int32 × tc_S)) (hK32 : ∀ (v0 : Nat) (v1 : Int32) (v4 : Int32) (v5 : Int32) (u : tc_S), tc_is G v0 12 → K32 v0 v1 v4 v5 u = some (r, ur) → tc_R p l e { frames := 3, cells := 0, slots := 0, locals := 69 } s m args below meth c z D cX12_drops RX12 8 (some .int) 0 0 (tc_po r G ur) 0 0 G u 32 [(0, .ref (z + v0)), (1, .int v1), (4, .int v4), (5, .int v5)] []) (v0 : Nat) (v1 : Int32) (v4 : Int32) (v5 : Int32) (u : tc_S) (iv0 : tc_is G v0 12) (h : bl_X12_drops_95 G K32 v0 v1 v4 v5 u = some (r, ur)) : tc_R p l e { frames := 3, cells := 0, slots := 0, locals := 69 } s m args below meth c z D cX12_drops RX12 8 (some .int) 0 0 (tc_po r G ur) 0 0 G u 95 [(0, .ref (z + v0)), (1, .int v1), (4, .int v4), (5, .int v5)] [] := by
  unfold bl_X12_drops_95 at h
  refine tc_goto 32 dX12_drops_95 (by decide) ?_
  exact hK32 v0 v1 v4 v5 u iv0 h
set_option maxRecDepth 100000 in
set_option maxHeartbeats 4000000 in
theorem sl_X12_drops_32 {p : Program} {l : Launch} {e : Env} {s : State} {m : MethodId} {args : Array Value} {below : List Frame} {meth : Method} {c : Code} {z : Nat} {D : tc_D} {G : tc_G} (hW : tc_W G) (r : Int32) (ur : tc_S) : ∀ (n : Nat) (v0 : Nat) (v1 : Int32) (v4 : Int32) (v5 : Int32) (u : tc_S) (iv0 : tc_is G v0 12) (h : lo_X12_drops_32 G n v0 v1 v4 v5 u = some (r, ur)), tc_R p l e { frames := 3, cells := 0, slots := 0, locals := 69 } s m args below meth c z D cX12_drops RX12 8 (some .int) 0 0 (tc_po r G ur) 0 0 G u 32 [(0, .ref (z + v0)), (1, .int v1), (4, .int v4), (5, .int v5)] [] := by
  intro n
  induction n with
  | zero => intro v0 v1 v4 v5 u iv0 h; cases h
  | succ n ih =>
    intro v0 v1 v4 v5 u iv0 h
    rw [lo_X12_drops_32] at h
    refine tc_iload 3 rfl dX12_drops_32 ?_
    refine tc_aload_n 0 rfl dX12_drops_34 ?_
    refine tc_getp hW iv0 fl_X12_7 dX12_drops_35 rfl ?_
    refine tc_iload_n 1 rfl dX12_drops_38 ?_
    refine tc_bipush (v := 18) (by decide) dX12_drops_39 ?_
    refine tc_iadd dX12_drops_41 ?_
    obtain ⟨bx1, x1, ex1, h⟩ := tc_ld_ex h
    refine tc_iald (hW.p iv0 0 rfl).1 bx1 dX12_drops_42 ?_
    refine tc_nm ex1 ?_
    refine tc_icmp_ge 98 dX12_drops_43 (by decide) (fun hc2 => ?_) (fun hc2 => ?_)
    · rw [if_pos hc2] at h
      refine tc_iload 2 rfl dX12_drops_98 ?_
      cases h
      exact tc_ireturn rfl dX12_drops_100 rfl rfl ⟨rfl, rfl, rfl⟩
    · rw [if_neg hc2] at h
      refine tc_iload_n 1 rfl dX12_drops_46 ?_
      refine tc_bipush (v := 100) (by decide) dX12_drops_47 ?_
      refine tc_iload 3 rfl dX12_drops_49 ?_
      obtain ⟨x3, u4, hq5, h⟩ := tc_b_ex h
      refine tc_callSi [.int v1, .int 100, .int v5] dX12_drops_51 (ct_X12_cell hW hq5) ml_X12_92 mw_X12_cell ms_X12_cell ⟨Nat.le_of_ble_eq_true rfl, Nat.le_of_ble_eq_true rfl⟩ rfl rfl (Nat.le_of_ble_eq_true rfl) ⟨Nat.le_refl _, Nat.le_refl _⟩ ?_
      refine tc_istore [(6, .int x3), (0, .ref (z + v0)), (1, .int v1), (4, .int v4), (5, .int v5)] dX12_drops_54 (by decide) rfl ?_
      refine tc_aload_n 1 rfl dX12_drops_56 ?_
      refine tc_iload_n 2 rfl dX12_drops_57 ?_
      refine tc_aload_n 1 rfl dX12_drops_58 ?_
      refine tc_iload 0 rfl dX12_drops_59 ?_
      obtain ⟨x6, u7, hq8, h⟩ := tc_b_ex h
      refine tc_callVi [.int x3] dX12_drops_61 iv0.1 (ct_X12_keyOf hW iv0 hq8) ml_X12_103 mw_X12_keyOf mv_X12_keyOf ⟨Nat.le_of_ble_eq_true rfl, Nat.le_of_ble_eq_true rfl⟩ rfl rfl (Nat.le_of_ble_eq_true rfl) ⟨Nat.le_refl _, Nat.le_refl _⟩ (by decide) ?_
      obtain ⟨x9, u10, hq11, h⟩ := tc_b_ex h
      refine tc_callVi [.int v1, .int x6] dX12_drops_64 iv0.1 (ct_X12_freeFor hW iv0 hq11) ml_X12_125 mw_X12_freeFor mv_X12_freeFor ⟨Nat.le_of_ble_eq_true rfl, Nat.le_of_ble_eq_true rfl⟩ rfl rfl (Nat.le_of_ble_eq_true rfl) ⟨Nat.le_refl _, Nat.le_refl _⟩ (by decide) ?_
      refine tc_istore [(7, .int x9), (6, .int x3), (0, .ref (z + v0)), (1, .int v1), (4, .int v4), (5, .int v5)] dX12_drops_67 (by decide) rfl ?_
      refine tc_iload 0 rfl dX12_drops_69 ?_
      refine tc_if_lt 92 dX12_drops_71 (by decide) (fun hc12 => ?_) (fun hc12 => ?_)
      · rw [if_pos hc12] at h
        obtain ⟨x13, ex13, h⟩ := tc_let_ex h
        refine tc_iinc 5 (v := x13) [(5, .int x13), (7, .int x9), (6, .int x3), (0, .ref (z + v0)), (1, .int v1), (4, .int v4)] dX12_drops_92 rfl (by rw [ex13]; rfl) (by decide) rfl ?_
        refine tc_lvs [3, 4, 5, 0] rfl ?_
        exact sb_X12_drops_95 hW r ur _ ih v0 v1 v4 x13 u10 iv0 h
      · rw [if_neg hc12] at h
        refine tc_aload_n 2 rfl dX12_drops_74 ?_
        refine tc_iload 1 rfl dX12_drops_75 ?_
        refine tc_iload 0 rfl dX12_drops_77 ?_
        obtain ⟨x14, u15, hq16, h⟩ := tc_b_ex h
        refine tc_callVv [.int x3, .int x9] dX12_drops_79 iv0.1 (ct_X12_moves hW iv0 hq16) ml_X12_116 mw_X12_moves mv_X12_moves ⟨Nat.le_of_ble_eq_true rfl, Nat.le_of_ble_eq_true rfl⟩ rfl rfl (Nat.le_of_ble_eq_true rfl) ⟨Nat.le_refl _, Nat.le_refl _⟩ (by decide) ?_
        refine tc_aload_n 2 rfl dX12_drops_82 ?_
        refine tc_iload_n 3 rfl dX12_drops_83 ?_
        refine tc_iload 1 rfl dX12_drops_84 ?_
        obtain ⟨x17, u18, hq19, h⟩ := tc_b_ex h
        refine tc_callVv [.int v1, .int x3] dX12_drops_86 iv0.1 (ct_X12_goesOut hW iv0 hq19) ml_X12_176 mw_X12_goesOut mv_X12_goesOut ⟨Nat.le_of_ble_eq_true rfl, Nat.le_of_ble_eq_true rfl⟩ rfl rfl (Nat.le_of_ble_eq_true rfl) ⟨Nat.le_refl _, Nat.le_refl _⟩ (by decide) ?_
        refine tc_goto 95 dX12_drops_89 (by decide) ?_
        refine tc_lvs [2, 3, 4, 5] rfl ?_
        exact sb_X12_drops_95 hW r ur _ ih v0 v1 v4 v5 u18 iv0 h
set_option maxRecDepth 100000 in
set_option maxHeartbeats 4000000 in
theorem ct_X12_drops {l : Launch} {z : Nat} {D : tc_D} {G : tc_G} (hW : tc_W G) {v0 : Nat} {v1 : Int32} {v2 : Int32} {u : tc_S} {r : Int32} {ur : tc_S} (iv0 : tc_is G v0 12) (h : fn_X12_drops G v0 v1 v2 u = some (r, ur)) : tc_C l z D yX12_drops cX12_drops 8 (some .int) 3 69 0 0 [.ref (z + v0), .int v1, .int v2] G u (tc_po r G ur) := by
  unfold fn_X12_drops at h
  refine tc_C.of (by decide) (Nat.le_of_ble_eq_true rfl) fun p e s m args below meth c => ?_
  show tc_R p l e { frames := 3, cells := 0, slots := 0, locals := 69 } s m args below meth c z D cX12_drops RX12 8 (some .int) 0 0 (tc_po r G ur) 0 0 G u 0 [(0, .ref (z + v0)), (1, .int v1), (2, .int v2)] []
  refine tc_aload_n 0 rfl dX12_drops_0 ?_
  refine tc_iload_n 1 rfl dX12_drops_1 ?_
  refine tc_iload_n 2 rfl dX12_drops_2 ?_
  obtain ⟨x20, u21, hq22, h⟩ := tc_b_ex h
  refine tc_callVi [.int v1, .int v2] dX12_drops_3 iv0.1 (ct_X12_lies hW iv0 hq22) ml_X12_166 mw_X12_lies mv_X12_lies ⟨Nat.le_of_ble_eq_true rfl, Nat.le_of_ble_eq_true rfl⟩ rfl rfl (Nat.le_of_ble_eq_true rfl) ⟨Nat.le_refl _, Nat.le_refl _⟩ (by decide) ?_
  refine tc_istore_n [(3, .int x20), (0, .ref (z + v0)), (1, .int v1), (2, .int v2)] dX12_drops_6 (by decide) rfl ?_
  refine tc_iload_n 0 rfl dX12_drops_7 ?_
  refine tc_if_ge 13 dX12_drops_8 (by decide) (fun hc23 => ?_) (fun hc23 => ?_)
  · rw [if_pos hc23] at h
    refine tc_aload_n 1 rfl dX12_drops_13 ?_
    refine tc_getp hW iv0 fl_X12_7 dX12_drops_14 rfl ?_
    refine tc_iload_n 0 rfl dX12_drops_17 ?_
    refine tc_iconst (v := 1) (by decide) dX12_drops_18 ?_
    refine tc_iadd dX12_drops_19 ?_
    obtain ⟨bx24, x24, ex24, h⟩ := tc_ld_ex h
    refine tc_iald (hW.p iv0 0 rfl).1 bx24 dX12_drops_20 ?_
    refine tc_nm ex24 ?_
    refine tc_istore [(4, .int x24), (3, .int x20), (0, .ref (z + v0)), (1, .int v1), (2, .int v2)] dX12_drops_21 (by decide) rfl ?_
    refine tc_aload_n 2 rfl dX12_drops_23 ?_
    refine tc_iload_n 3 rfl dX12_drops_24 ?_
    refine tc_iload_n 1 rfl dX12_drops_25 ?_
    obtain ⟨x25, u26, hq27, h⟩ := tc_b_ex h
    refine tc_callVv [.int v1, .int x20] dX12_drops_26 iv0.1 (ct_X12_goesOut hW iv0 hq27) ml_X12_176 mw_X12_goesOut mv_X12_goesOut ⟨Nat.le_of_ble_eq_true rfl, Nat.le_of_ble_eq_true rfl⟩ rfl rfl (Nat.le_of_ble_eq_true rfl) ⟨Nat.le_refl _, Nat.le_refl _⟩ (by decide) ?_
    refine tc_iconst (v := 0) (by decide) dX12_drops_29 ?_
    refine tc_istore [(5, .int 0), (4, .int x24), (3, .int x20), (0, .ref (z + v0)), (1, .int v1), (2, .int v2)] dX12_drops_30 (by decide) rfl ?_
    refine tc_lvs [3, 4, 1, 0] rfl ?_
    exact sl_X12_drops_32 hW r ur  _ v0 v1 x24 0 u26 iv0 h
  · rw [if_neg hc23] at h
    refine tc_iconst (v := (-1)) (by decide) dX12_drops_11 ?_
    cases h
    exact tc_ireturn rfl dX12_drops_12 rfl rfl ⟨rfl, rfl, rfl⟩
