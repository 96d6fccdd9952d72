theorem lw_cmp {i len : Nat} (hi : i ≤ 4000) (hl : len ≤ 3072) : nI len - 6 < nI i ↔ ¬ i + 6 ≤ len := by
  rw [Int32.lt_iff_toInt_lt, show (6 : Int32) = nI 6 from rfl, pk_sub_toInt (by omega) (by omega), nI_toInt (by omega)]
  omega
set_option maxRecDepth 100000 in
set_option maxHeartbeats 8000000 in
theorem law_loop {p : Program} {l : Launch} {e : Env} {s : State} {m0 : MethodId} {args : Array Value} {below : List Frame} {meth : Method} {c : Code} {z : Nat} {D : tc_D} {b len x m : Nat} {xs : Nat → Int32} (hX : va_X b len xs s s.heap) (hbz : b < z) (hlen : len ≤ 3072) : ∀ (n i : Nat) (L : tc_L) (u : tc_S) (cc sc : Nat), i ≤ 3072 + 6 → cc + 12 * n ≤ room_1.cells → sc + 881 * n ≤ room_1.slots → lw_go x m xs len n i L u → tc_R p l e room_1 s m0 args below meth c z D cL_law RL 4 (some .boolean) room_1.cells room_1.slots (fun r _ _ => r = some (.int 1)) cc sc (tc_gl L) u 18 [(0, .ref b), (1, .ref (z + x)), (2, .ref (z + m)), (3, .int (nI i))] [] := by
  intro n
  induction n with
  | zero => intro i L u cc sc _ _ _ h; exact absurd h (by simp [lw_go])
  | succ n ih =>
    intro i L u cc sc hi hc hs h
    rw [lw_go] at h
    refine tc_iload_n 3 rfl dL_law_18 ?_
    refine tc_aload_n 0 rfl dL_law_19 ?_
    refine tc_sln hX hbz dL_law_20 ?_
    refine tc_bipush (v := 6) (by decide) dL_law_21 ?_
    refine tc_isub dL_law_23 ?_
    refine tc_icmp_gt 1036 dL_law_24 (by decide) (fun hq => ?_) (fun hq => ?_)
    · refine tc_widen (k := room_1.cells) (n := room_1.slots) (by omega) (by omega) ?_
      refine tc_iconst (v := 1) (by decide) dL_law_1036 ?_
      exact tc_zreturn (Or.inr rfl) rfl dL_law_1037 rfl rfl rfl
    · have hi3 : i + 6 ≤ len := Classical.byContradiction fun hn => hq ((lw_cmp (by omega) hlen).mpr hn)
      rw [if_pos hi3] at h
      obtain ⟨L2, u2, h, hg⟩ := h
      have kk : tc_R p l e room_1 s m0 args below meth c z D cL_law RL 4 (some .boolean) room_1.cells room_1.slots (fun r _ _ => r = some (.int 1)) (cc + 12) (sc + 881) (tc_gl L2) u2 1030 [(0, .ref b), (1, .ref (z + x)), (2, .ref (z + m)), (3, .int (nI i))] [] := by
        refine tc_iinc 3 (v := nI (i + 6)) [(3, .int (nI (i + 6))), (0, .ref b), (1, .ref (z + x)), (2, .ref (z + m))] dL_law_1030 rfl (by rw [← nI_add]; rfl) (by decide) rfl ?_
        refine tc_goto 18 dL_law_1033 (by decide) ?_
        refine tc_lvs [1, 2, 3, 0] rfl ?_
        exact ih (i + 6) L2 u2 (cc + 12) (sc + 881) (by omega) (by omega) (by omega) hg
      have hc2 : cc + 12 ≤ room_1.cells := by omega
      have hs2 : sc + 881 ≤ room_1.slots := by omega
      refine tc_aload_n 0 rfl dL_law_27 ?_
      refine tc_iload_n 3 rfl dL_law_28 ?_
      refine tc_sld hX hbz (vp_in_nI (by omega) (by omega)) dL_law_29 ?_
      rw [nI_clamp (by omega)]
      refine tc_bipush (v := 31) (by decide) dL_law_30 ?_
      refine tc_iand dL_law_32 ?_
      unfold lw_st at h
      by_cases h0 : (xs i &&& 31).toInt = 0
      · rw [if_pos h0] at h
        refine tc_tswIn 168 dL_law_33 (by rw [h0]; decide) (by rw [h0]; decide) (by rw [h0]; rfl) (by decide) ?_
        exact sc_law_0 hX hbz hlen hi3 hc2 hs2 h kk
      rw [if_neg h0] at h
      by_cases h1 : (xs i &&& 31).toInt = 1
      · rw [if_pos h1] at h
        refine tc_tswIn 231 dL_law_33 (by rw [h1]; decide) (by rw [h1]; decide) (by rw [h1]; rfl) (by decide) ?_
        exact sc_law_1 hX hbz hlen hi3 hc2 hs2 h kk
      rw [if_neg h1] at h
      by_cases h2 : (xs i &&& 31).toInt = 2
      · rw [if_pos h2] at h
        refine tc_tswIn 254 dL_law_33 (by rw [h2]; decide) (by rw [h2]; decide) (by rw [h2]; rfl) (by decide) ?_
        exact sc_law_2 hX hbz hlen hi3 hc2 hs2 h kk
      rw [if_neg h2] at h
      by_cases h3 : (xs i &&& 31).toInt = 3
      · rw [if_pos h3] at h
        refine tc_tswIn 267 dL_law_33 (by rw [h3]; decide) (by rw [h3]; decide) (by rw [h3]; rfl) (by decide) ?_
        exact sc_law_3 hX hbz hlen hi3 hc2 hs2 h kk
      rw [if_neg h3] at h
      by_cases h4 : (xs i &&& 31).toInt = 4
      · rw [if_pos h4] at h
        refine tc_tswIn 290 dL_law_33 (by rw [h4]; decide) (by rw [h4]; decide) (by rw [h4]; rfl) (by decide) ?_
        exact sc_law_4 hX hbz hlen hi3 hc2 hs2 h kk
      rw [if_neg h4] at h
      by_cases h5 : (xs i &&& 31).toInt = 5
      · rw [if_pos h5] at h
        refine tc_tswIn 323 dL_law_33 (by rw [h5]; decide) (by rw [h5]; decide) (by rw [h5]; rfl) (by decide) ?_
        exact sc_law_5 hX hbz hlen hi3 hc2 hs2 h kk
      rw [if_neg h5] at h
      by_cases h6 : (xs i &&& 31).toInt = 6
      · rw [if_pos h6] at h
        refine tc_tswIn 346 dL_law_33 (by rw [h6]; decide) (by rw [h6]; decide) (by rw [h6]; rfl) (by decide) ?_
        exact sc_law_6 hX hbz hlen hi3 hc2 hs2 h kk
      rw [if_neg h6] at h
      by_cases h7 : (xs i &&& 31).toInt = 7
      · rw [if_pos h7] at h
        refine tc_tswIn 369 dL_law_33 (by rw [h7]; decide) (by rw [h7]; decide) (by rw [h7]; rfl) (by decide) ?_
        exact sc_law_7 hX hbz hlen hi3 hc2 hs2 h kk
      rw [if_neg h7] at h
      by_cases h8 : (xs i &&& 31).toInt = 8
      · rw [if_pos h8] at h
        refine tc_tswIn 382 dL_law_33 (by rw [h8]; decide) (by rw [h8]; decide) (by rw [h8]; rfl) (by decide) ?_
        exact sc_law_8 hX hbz hlen hi3 hc2 hs2 h kk
      rw [if_neg h8] at h
      by_cases h9 : (xs i &&& 31).toInt = 9
      · rw [if_pos h9] at h
        refine tc_tswIn 435 dL_law_33 (by rw [h9]; decide) (by rw [h9]; decide) (by rw [h9]; rfl) (by decide) ?_
        exact sc_law_9 hX hbz hlen hi3 hc2 hs2 h kk
      rw [if_neg h9] at h
      by_cases h10 : (xs i &&& 31).toInt = 10
      · rw [if_pos h10] at h
        refine tc_tswIn 448 dL_law_33 (by rw [h10]; decide) (by rw [h10]; decide) (by rw [h10]; rfl) (by decide) ?_
        exact sc_law_10 hX hbz hlen hi3 hc2 hs2 h kk
      rw [if_neg h10] at h
      by_cases h11 : (xs i &&& 31).toInt = 11
      · rw [if_pos h11] at h
        refine tc_tswIn 481 dL_law_33 (by rw [h11]; decide) (by rw [h11]; decide) (by rw [h11]; rfl) (by decide) ?_
        exact sc_law_11 hX hbz hlen hi3 hc2 hs2 h kk
      rw [if_neg h11] at h
      by_cases h12 : (xs i &&& 31).toInt = 12
      · rw [if_pos h12] at h
        refine tc_tswIn 514 dL_law_33 (by rw [h12]; decide) (by rw [h12]; decide) (by rw [h12]; rfl) (by decide) ?_
        exact sc_law_12 hX hbz hlen hi3 hc2 hs2 h kk
      rw [if_neg h12] at h
      by_cases h13 : (xs i &&& 31).toInt = 13
      · rw [if_pos h13] at h
        refine tc_tswIn 547 dL_law_33 (by rw [h13]; decide) (by rw [h13]; decide) (by rw [h13]; rfl) (by decide) ?_
        exact sc_law_13 hX hbz hlen hi3 hc2 hs2 h kk
      rw [if_neg h13] at h
      by_cases h14 : (xs i &&& 31).toInt = 14
      · rw [if_pos h14] at h
        refine tc_tswIn 590 dL_law_33 (by rw [h14]; decide) (by rw [h14]; decide) (by rw [h14]; rfl) (by decide) ?_
        exact sc_law_14 hX hbz hlen hi3 hc2 hs2 h kk
      rw [if_neg h14] at h
      by_cases h15 : (xs i &&& 31).toInt = 15
      · rw [if_pos h15] at h
        refine tc_tswIn 639 dL_law_33 (by rw [h15]; decide) (by rw [h15]; decide) (by rw [h15]; rfl) (by decide) ?_
        exact sc_law_15 hX hbz hlen hi3 hc2 hs2 h kk
      rw [if_neg h15] at h
      by_cases h16 : (xs i &&& 31).toInt = 16
      · rw [if_pos h16] at h
        refine tc_tswIn 672 dL_law_33 (by rw [h16]; decide) (by rw [h16]; decide) (by rw [h16]; rfl) (by decide) ?_
        exact sc_law_16 hX hbz hlen hi3 hc2 hs2 h kk
      rw [if_neg h16] at h
      by_cases h17 : (xs i &&& 31).toInt = 17
      · rw [if_pos h17] at h
        refine tc_tswIn 695 dL_law_33 (by rw [h17]; decide) (by rw [h17]; decide) (by rw [h17]; rfl) (by decide) ?_
        exact sc_law_17 hX hbz hlen hi3 hc2 hs2 h kk
      rw [if_neg h17] at h
      by_cases h18 : (xs i &&& 31).toInt = 18
      · rw [if_pos h18] at h
        refine tc_tswIn 728 dL_law_33 (by rw [h18]; decide) (by rw [h18]; decide) (by rw [h18]; rfl) (by decide) ?_
        exact sc_law_18 hX hbz hlen hi3 hc2 hs2 h kk
      rw [if_neg h18] at h
      by_cases h19 : (xs i &&& 31).toInt = 19
      · rw [if_pos h19] at h
        refine tc_tswIn 751 dL_law_33 (by rw [h19]; decide) (by rw [h19]; decide) (by rw [h19]; rfl) (by decide) ?_
        exact sc_law_19 hX hbz hlen hi3 hc2 hs2 h kk
      rw [if_neg h19] at h
      by_cases h20 : (xs i &&& 31).toInt = 20
      · rw [if_pos h20] at h
        refine tc_tswIn 764 dL_law_33 (by rw [h20]; decide) (by rw [h20]; decide) (by rw [h20]; rfl) (by decide) ?_
        exact sc_law_20 hX hbz hlen hi3 hc2 hs2 h kk
      rw [if_neg h20] at h
      by_cases h21 : (xs i &&& 31).toInt = 21
      · rw [if_pos h21] at h
        refine tc_tswIn 787 dL_law_33 (by rw [h21]; decide) (by rw [h21]; decide) (by rw [h21]; rfl) (by decide) ?_
        exact sc_law_21 hX hbz hlen hi3 hc2 hs2 h kk
      rw [if_neg h21] at h
      by_cases h22 : (xs i &&& 31).toInt = 22
      · rw [if_pos h22] at h
        refine tc_tswIn 836 dL_law_33 (by rw [h22]; decide) (by rw [h22]; decide) (by rw [h22]; rfl) (by decide) ?_
        exact sc_law_22 hX hbz hlen hi3 hc2 hs2 h kk
      rw [if_neg h22] at h
      by_cases h23 : (xs i &&& 31).toInt = 23
      · rw [if_pos h23] at h
        refine tc_tswIn 859 dL_law_33 (by rw [h23]; decide) (by rw [h23]; decide) (by rw [h23]; rfl) (by decide) ?_
        exact sc_law_23 hX hbz hlen hi3 hc2 hs2 h kk
      rw [if_neg h23] at h
      by_cases h24 : (xs i &&& 31).toInt = 24
      · rw [if_pos h24] at h
        refine tc_tswIn 882 dL_law_33 (by rw [h24]; decide) (by rw [h24]; decide) (by rw [h24]; rfl) (by decide) ?_
        exact sc_law_24 hX hbz hlen hi3 hc2 hs2 h kk
      rw [if_neg h24] at h
      by_cases h25 : (xs i &&& 31).toInt = 25
      · rw [if_pos h25] at h
        refine tc_tswIn 895 dL_law_33 (by rw [h25]; decide) (by rw [h25]; decide) (by rw [h25]; rfl) (by decide) ?_
        exact sc_law_25 hX hbz hlen hi3 hc2 hs2 h kk
      rw [if_neg h25] at h
      by_cases h26 : (xs i &&& 31).toInt = 26
      · rw [if_pos h26] at h
        refine tc_tswIn 918 dL_law_33 (by rw [h26]; decide) (by rw [h26]; decide) (by rw [h26]; rfl) (by decide) ?_
        exact sc_law_26 hX hbz hlen hi3 hc2 hs2 h kk
      rw [if_neg h26] at h
      by_cases h27 : (xs i &&& 31).toInt = 27
      · rw [if_pos h27] at h
        refine tc_tswIn 961 dL_law_33 (by rw [h27]; decide) (by rw [h27]; decide) (by rw [h27]; rfl) (by decide) ?_
        exact sc_law_27 hX hbz hlen hi3 hc2 hs2 h kk
      rw [if_neg h27] at h
      by_cases h28 : (xs i &&& 31).toInt = 28
      · rw [if_pos h28] at h
        refine tc_tswIn 984 dL_law_33 (by rw [h28]; decide) (by rw [h28]; decide) (by rw [h28]; rfl) (by decide) ?_
        exact sc_law_28 hX hbz hlen hi3 hc2 hs2 h kk
      rw [if_neg h28] at h
      by_cases h29 : (xs i &&& 31).toInt = 29
      · rw [if_pos h29] at h
        refine tc_tswIn 1007 dL_law_33 (by rw [h29]; decide) (by rw [h29]; decide) (by rw [h29]; rfl) (by decide) ?_
        exact sc_law_29 hX hbz hlen hi3 hc2 hs2 h kk
      rw [if_neg h29] at h
      have sw : (xs i &&& 31).toInt < 0 ∨ 29 < (xs i &&& 31).toInt := by omega
      refine tc_tswOut 1030 dL_law_33 sw (by decide) ?_
      cases h
      refine tc_widen (k := cc + 12) (n := sc + 881) (by omega) (by omega) ?_
      exact kk
