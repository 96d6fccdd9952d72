/-! the JDK's texts: rows over what lies in the heap before, and contracts of String's own methods over the three texts -/
def tc_sl (w : Nat) : Int32 := Int32.ofNat (tc_tl.getD w 0)
def tc_sx (w : Nat) (j : Int32) : Int32 := (tc_by.getD w []).getD j.toNatClampNeg 0 &&& 255
def tc_sc {β : Type} (w : Nat) (j : Int32) (k : Int32 → Option β) : Option β := if j < 0 ∨ tc_tl.getD w 0 ≤ j.toNatClampNeg then none else k (tc_sx w j)
theorem tc_sc_ex {β : Type} {w : Nat} {j : Int32} {k : Int32 → Option β} {r : β} (h : tc_sc w j k = some r) : vp_in j (tc_tl.getD w 0) ∧ ∃ x, x = tc_sx w j ∧ k x = some r := by
  unfold tc_sc at h
  split at h
  · cases h
  · rename_i h1
    exact ⟨h1, _, rfl, h⟩
def tc_lx {β : Type} (w : Nat) (j : Int32) (k : Int32 → Option β) : Option β := if j < 0 ∨ 6 ≤ j.toNatClampNeg then none else k ((tc_lm w).getD j.toNatClampNeg 0)
theorem tc_lx_ex {β : Type} {w : Nat} {j : Int32} {k : Int32 → Option β} {r : β} (h : tc_lx w j k = some r) : vp_in j 6 ∧ ∃ x, x = (tc_lm w).getD j.toNatClampNeg 0 ∧ k x = some r := by
  unfold tc_lx at h
  split at h
  · cases h
  · rename_i h1
    exact ⟨h1, _, rfl, h⟩
section TCX
variable {p : Program} {l : Launch} {e : Env} {R : Room} {s : State} {m : MethodId} {args : Array Value} {below : List Frame} {meth : Method} {c : Code} {z : Nat} {D : tc_D} {cc : ByteArray} {own : String} {nL : Nat} {ret : Option FieldType} {mc ms : Nat} {post : Option Value → tc_G → tc_S → Prop} {cells slots : Nat} {G : tc_G} {u : tc_S} {pc : Nat} {lv : List (Nat × Value)} {rest : List Value}
theorem tc_xgetf {o n d : String} {index q : Nat} {v : Value} (hE : tc_X z D s → va_OF o n d v q (fun q => z ≤ q) s s.heap) (hlink : Cond.fieldLink own index o n d ∈ tc_T) (hd : decode cc pc = .ok (.getfield index, 3)) (kk : tc_R p l e R s m args below meth c z D cc own nL ret mc ms post cells slots G u (pc + 3) lv (v :: rest)) : tc_R p l e R s m args below meth c z D cc own nL ret mc ms post cells slots G u pc lv (.ref q :: rest) := by
  intro ok H locs ls hH h0 hL hl
  obtain ⟨cf, k, fi, f, cell, h1, h2, h3, h4, h5, h6⟩ := (hE ok.2.2.2.2.2.2.2.2).kept (H1 := H) (fun a _ h => h0 a (Nat.not_le.mp h))
  exact W.getf ok.1 ok.2.1 ok.2.2.2.1 (ok.2.2.2.2.1 _ hlink) h1 h2 h3 h4 (v := v) h5 rfl rfl hd (kk ok H locs ls hH h0 hL hl)
theorem tc_gets {C n d : String} {index : Nat} {v : Value} (hZ : tc_X z D s → va_Z C n d v (fun q => z ≤ q) s s.heap) (hlink : Cond.fieldLink own index C n d ∈ tc_T) (hd : decode cc pc = .ok (.getstatic index, 3)) (kk : tc_R p l e R s m args below meth c z D cc own nL ret mc ms post cells slots G u (pc + 3) lv (v :: rest)) : tc_R p l e R s m args below meth c z D cc own nL ret mc ms post cells slots G u pc lv rest := by
  intro ok H locs ls hH h0 hL hl
  obtain ⟨cf, kf, fi, f, a, cell, h1, h2, h3, h4, h5, h6, h7, h8⟩ := hZ ok.2.2.2.2.2.2.2.2
  exact W.gets ok.1 ok.2.1 ok.2.2.2.1 (ok.2.2.2.2.1 _ hlink) h1 h2 h3 h4 (by rw [h0 a (Nat.not_le.mp h8)]; exact h5) (fun q => by rw [q] at h6; cases h6) h7 rfl hd (kk ok H locs ls hH h0 hL hl)
theorem tc_xlen {ty : FieldType} {t N : Nat} {f : Nat → Value} (hT : tc_X z D s → va_T ty t N f (fun q => z ≤ q) s s.heap) (hd : decode cc pc = .ok (.arraylength, 1)) (kk : tc_R p l e R s m args below meth c z D cc own nL ret mc ms post cells slots G u (pc + 1) lv (.int (Int32.ofNat N) :: rest)) : tc_R p l e R s m args below meth c z D cc own nL ret mc ms post cells slots G u pc lv (.ref t :: rest) := by
  intro ok H locs ls hH h0 hL hl
  obtain ⟨cell, h1, h2, h3, h4, h5, h6, h7⟩ := hT ok.2.2.2.2.2.2.2.2
  exact W.alen (n := Int32.ofNat N) ok.1 ok.2.1 (by rw [h0 t (Nat.not_le.mp h7)]; exact h1) h2 h5 rfl rfl hd (kk ok H locs ls hH h0 hL hl)
theorem tc_xin {i : Int32} {N M : Nat} (hin : vp_in i N) (h : N ≤ M) : ¬ (i < 0 ∨ M ≤ i.toNatClampNeg) := by
  intro q
  rcases q with q | q
  · exact hin (Or.inl q)
  · exact hin (Or.inr (Nat.le_trans h q))
theorem tc_xbald {t N : Nat} {f : Nat → Value} {i : Int32} {v : Value} (hT : tc_X z D s → va_T .byte t N f (fun q => z ≤ q) s s.heap) (hin : vp_in i N) (hv : f i.toNatClampNeg = v) (hd : decode cc pc = .ok (.baload, 1)) (kk : tc_R p l e R s m args below meth c z D cc own nL ret mc ms post cells slots G u (pc + 1) lv (v :: rest)) : tc_R p l e R s m args below meth c z D cc own nL ret mc ms post cells slots G u pc lv (.int i :: .ref t :: rest) := by
  intro ok H locs ls hH h0 hL hl
  obtain ⟨cell, h1, h2, h3, h4, h5, h6, h7⟩ := hT ok.2.2.2.2.2.2.2.2
  have hlt : i.toNatClampNeg < N := Nat.not_le.mp fun q => hin (Or.inr q)
  exact W.bald (v := v) ok.1 ok.2.1 (by rw [h0 t (Nat.not_le.mp h7)]; exact h1) h2 h3 (tc_xin hin h4) (by rw [h6 _ hlt, hv]) rfl rfl hd (kk ok H locs ls hH h0 hL hl)
theorem tc_xiald {t N : Nat} {f : Nat → Value} {i : Int32} {v : Value} (hT : tc_X z D s → va_T .int t N f (fun q => z ≤ q) s s.heap) (hin : vp_in i N) (hv : f i.toNatClampNeg = v) (hd : decode cc pc = .ok (.iaload, 1)) (kk : tc_R p l e R s m args below meth c z D cc own nL ret mc ms post cells slots G u (pc + 1) lv (v :: rest)) : tc_R p l e R s m args below meth c z D cc own nL ret mc ms post cells slots G u pc lv (.int i :: .ref t :: rest) := by
  intro ok H locs ls hH h0 hL hl
  obtain ⟨cell, h1, h2, h3, h4, h5, h6, h7⟩ := hT ok.2.2.2.2.2.2.2.2
  have hlt : i.toNatClampNeg < N := Nat.not_le.mp fun q => hin (Or.inr q)
  exact W.iald (v := v) ok.1 ok.2.1 (by rw [h0 t (Nat.not_le.mp h7)]; exact h1) h2 h3 (tc_xin hin h4) (by rw [h6 _ hlt, hv]) rfl rfl hd (kk ok H locs ls hH h0 hL hl)
theorem tc_i2c {x : Int32} (hd : decode cc pc = .ok (.i2c, 1)) (k : tc_R p l e R s m args below meth c z D cc own nL ret mc ms post cells slots G u (pc + 1) lv (.int ((x.toUInt32 % 65536).toInt32) :: rest)) : tc_R p l e R s m args below meth c z D cc own nL ret mc ms post cells slots G u pc lv (.int x :: rest) := fun ok H locs ls hH h0 hL hl => lv_i2c ok.1 ok.2.1 hd rfl (k ok H locs ls hH h0 hL hl)
theorem tc_nreturn {ty : FieldType} {v : Int32} (hn : narrow ty (.int v) = .int v) (hr : ret = some ty) (hd : decode cc pc = .ok (.ireturn, 1)) (hc : cells = mc) (hs : slots = ms) (k : post (some (.int v)) G u) : tc_R p l e R s m args below meth c z D cc own nL ret mc ms post cells slots G u pc lv [.int v] := by
  subst hc; subst hs
  exact fun ok H locs ls hH h0 hL hl => W.zret (v := v) ok.1 ok.2.1 (ok.2.2.2.2.2.2.2.1.trans hr) hn (fun t ht hW => ⟨_, G, u, rfl, k, by rw [ht]; exact hH, fun q hq => by rw [ht]; exact h0 q hq⟩) hL hd ok.2.2.2.2.2.2.1
theorem tc_ldcS {index w : Nat} (hw : w < 3) (ho : own = RX6) (hi : index = tc_ti.getD w 0) (hd : decode cc pc = .ok (.ldc index, 2)) (kk : tc_R p l e R s m args below meth c z D cc own nL ret mc ms post cells slots G u (pc + 2) lv (.ref (D.2 (200 + w)) :: rest)) : tc_R p l e R s m args below meth c z D cc own nL ret mc ms post cells slots G u pc lv rest := by
  intro ok H locs ls hH h0 hL hl
  subst ho; subst hi
  exact va_ldcS ok.1 ok.2.1 ok.2.2.2.1 (ok.2.2.2.2.2.2.2.2.1 w hw) hd (kk ok H locs ls hH h0 hL hl)
/-- a call on one of the texts -/
theorem tc_callX {y : MethodName} {bytes : ByteArray} {maxL fr lc w n index : Nat} {rt : Option FieldType} (As : List Value) {st : List Value} {r1 : Int32} {u1 : tc_S} (hd : decode cc pc = .ok (.invokevirtual index, 3)) (hw3 : w < 3) (hM : tc_C l z D y bytes maxL rt fr lc 0 0 (.ref (D.2 (200 + w)) :: As) G u (tc_po r1 G u1)) (hlink : Cond.methodLink own index y ∈ tc_T) (hw : tc_MW y bytes maxL rt n) (hv : Cond.instanceMethod y ∈ tc_T ∧ Cond.selects "java/lang/String" y y ∈ tc_T) (hroom : fr + 1 ≤ R.frames ∧ 8 + (maxL + 11) + lc ≤ R.locals) (hn : As.length = n) (hst : st = As.reverse ++ .ref (D.2 (200 + w)) :: rest) (hW8 : (rest.map fun v => v.category).sum ≤ 8) (hf : cells + 0 ≤ R.cells ∧ slots + 0 ≤ R.slots)
    (kk : tc_R p l e R s m args below meth c z D cc own nL ret mc ms post cells slots G u1 (pc + 3) lv (.int r1 :: rest)) : tc_R p l e R s m args below meth c z D cc own nL ret mc ms post cells slots G u pc lv st := by
  intro ok H locs ls hH h0 hL hl
  obtain ⟨hx, hb, hml, hown, hts, hK, hlk, hrt, hX⟩ := id ok
  obtain ⟨cell, h1, h2, h3, -⟩ := (hX.2.1.1 w hw3).1.kept (H1 := H) (fun a _ h => h0 a (Nat.not_le.mp h))
  refine tc_after ok h0 hL hl (va_runV (C := "java/lang/String") (As := As) (rest := rest) (Ts := tc_T) (nL := nL) ⟨hx, hb, hml, hown, hts⟩ hM ⟨callB_of n hts (tc_good hw.1) rfl rfl rfl (hts _ hw.2.1) (hts _ hlink) hw.2.2 hroom, hts _ hv.1, hts _ hv.2⟩ ⟨tc_blind, ⟨cell, h1, h2, h3⟩, fun U hU hWU => ⟨rfl, by rw [hU]; exact hH, hK.moved hWU.alike, hX.warm hWU (fun q hq => by rw [hU]; exact h0 q hq)⟩⟩ rfl hn hl.1 hst (by simpa using hW8) hd hf) (fun r G1 u2 h => by obtain ⟨rfl, rfl, rfl⟩ := h; exact kk)
end TCX
set_option maxRecDepth 100000 in
set_option maxHeartbeats 4000000 in
theorem ct_J0_coder {l : Launch} {z : Nat} {D : tc_D} {G : tc_G} {u : tc_S} {w : Nat} (hw : w < 3) : tc_C l z D yJ0_coder_7d493 cJ0_coder_7d493 1 (some .byte) 0 0 0 0 [.ref (D.2 (200 + w))] G u (tc_po 0 G u) := by
  refine tc_C.of (by decide) (Nat.le_of_ble_eq_true rfl) fun p e s m args below meth c => ?_
  show tc_R p l e _ s m args below meth c z D cJ0_coder_7d493 RJ0 1 (some .byte) 0 0 _ 0 0 G u 0 [(0, .ref (D.2 (200 + w)))] []
  refine tc_gets (fun hX => hX.2.2.1) xf_J0_38 dJ0_coder_7d493_0 ?_
  refine tc_if_eq 13 dJ0_coder_7d493_3 (by decide) (fun h => absurd h (by decide)) (fun _ => ?_)
  refine tc_aload_n 0 rfl dJ0_coder_7d493_6 ?_
  refine tc_xgetf (fun hX => (hX.2.1.1 w hw).2.1) xf_J0_15 dJ0_coder_7d493_7 ?_
  refine tc_goto 14 dJ0_coder_7d493_10 (by decide) ?_
  exact tc_nreturn rfl rfl dJ0_coder_7d493_14 rfl rfl ⟨rfl, rfl, rfl⟩
set_option maxRecDepth 100000 in
set_option maxHeartbeats 4000000 in
theorem ct_J0_isLatin1 {l : Launch} {z : Nat} {D : tc_D} {G : tc_G} {u : tc_S} {w : Nat} (hw : w < 3) : tc_C l z D yJ0_isLatin1_aae02 cJ0_isLatin1_aae02 1 (some .boolean) 0 0 0 0 [.ref (D.2 (200 + w))] G u (tc_po 1 G u) := by
  refine tc_C.of (by decide) (Nat.le_of_ble_eq_true rfl) fun p e s m args below meth c => ?_
  show tc_R p l e _ s m args below meth c z D cJ0_isLatin1_aae02 RJ0 1 (some .boolean) 0 0 _ 0 0 G u 0 [(0, .ref (D.2 (200 + w)))] []
  refine tc_gets (fun hX => hX.2.2.1) xf_J0_38 dJ0_isLatin1_aae02_0 ?_
  refine tc_if_eq 17 dJ0_isLatin1_aae02_3 (by decide) (fun h => absurd h (by decide)) (fun _ => ?_)
  refine tc_aload_n 0 rfl dJ0_isLatin1_aae02_6 ?_
  refine tc_xgetf (fun hX => (hX.2.1.1 w hw).2.1) xf_J0_15 dJ0_isLatin1_aae02_7 ?_
  refine tc_if_ne 17 dJ0_isLatin1_aae02_10 (by decide) (fun h => absurd rfl h) (fun _ => ?_)
  refine tc_iconst (v := 1) (by decide) dJ0_isLatin1_aae02_13 ?_
  refine tc_goto 18 dJ0_isLatin1_aae02_14 (by decide) ?_
  exact tc_zreturn (Or.inr rfl) rfl dJ0_isLatin1_aae02_18 rfl rfl ⟨rfl, rfl, rfl⟩
set_option maxRecDepth 100000 in
set_option maxHeartbeats 4000000 in
theorem ct_J0_length {l : Launch} {z : Nat} {D : tc_D} {G : tc_G} {u : tc_S} {w : Nat} (hw : w < 3) : tc_C l z D yJ0_length_8abf5 cJ0_length_8abf5 1 (some .int) 1 20 0 0 [.ref (D.2 (200 + w))] G u (tc_po (tc_sl w) G u) := by
  refine tc_C.of (by decide) (Nat.le_of_ble_eq_true rfl) fun p e s m args below meth c => ?_
  show tc_R p l e _ s m args below meth c z D cJ0_length_8abf5 RJ0 1 (some .int) 0 0 _ 0 0 G u 0 [(0, .ref (D.2 (200 + w)))] []
  refine tc_aload_n 0 rfl dJ0_length_8abf5_0 ?_
  refine tc_xgetf (fun hX => (hX.2.1.1 w hw).2.2.1) xf_J0_9 dJ0_length_8abf5_1 ?_
  refine tc_xlen (fun hX => (hX.2.1.1 w hw).2.2.2) dJ0_length_8abf5_4 ?_
  refine tc_aload_n 0 rfl dJ0_length_8abf5_5 ?_
  refine tc_callX [] dJ0_length_8abf5_6 hw (ct_J0_coder hw) ml_J0_335 mw_J0_coder_7d493 jv_J0_coder_7d493 ⟨Nat.le_of_ble_eq_true rfl, Nat.le_of_ble_eq_true rfl⟩ rfl rfl (Nat.le_of_ble_eq_true rfl) ⟨Nat.le_refl _, Nat.le_refl _⟩ ?_
  refine tc_ishr dJ0_length_8abf5_9 ?_
  exact tc_ireturn rfl dJ0_length_8abf5_10 rfl rfl ⟨by rw [sb_shr0]; rfl, rfl, rfl⟩
set_option maxRecDepth 100000 in
set_option maxHeartbeats 4000000 in
theorem ct_J3_checkIndex {l : Launch} {z : Nat} {D : tc_D} {G : tc_G} {u : tc_S} {i n : Int32} {v : Value} (hv : lg_sl [v] = [Slot.val v]) (hi : ¬ i < 0) (hn : i < n) : tc_C l z D yJ3_checkIndex_8e157 cJ3_checkIndex_8e157 3 (some .int) 0 0 0 0 [.int i, .int n, v] G u (tc_po i G u) := by
  have hv2 : v.category = 1 := by
    rcases lv_cat v with h | h
    · exact h
    · simp [lg_sl, h] at hv
  refine tc_C.of (by decide) (by rw [show lg_sl [.int i, .int n, v] = [Slot.val (.int i), Slot.val (.int n)] ++ lg_sl [v] from rfl, hv]; exact Nat.le_of_ble_eq_true rfl) fun p e s m args below meth c => ?_
  show tc_R p l e _ s m args below meth c z D cJ3_checkIndex_8e157 RJ3 3 (some .int) 0 0 _ 0 0 G u 0 ((0, .int i) :: (1, .int n) :: _) []
  refine tc_iload_n 0 rfl dJ3_checkIndex_8e157_0 ?_
  refine tc_if_lt 9 dJ3_checkIndex_8e157_1 (by decide) (fun h => absurd h hi) (fun _ => ?_)
  refine tc_iload_n 0 rfl dJ3_checkIndex_8e157_4 ?_
  refine tc_iload_n 1 rfl dJ3_checkIndex_8e157_5 ?_
  refine tc_icmp_lt 16 dJ3_checkIndex_8e157_6 (by decide) (fun _ => ?_) (fun h => absurd hn h)
  refine tc_iload_n 0 rfl dJ3_checkIndex_8e157_16 ?_
  exact tc_ireturn rfl dJ3_checkIndex_8e157_17 rfl rfl ⟨rfl, rfl, rfl⟩
set_option maxRecDepth 100000 in
set_option maxHeartbeats 4000000 in
theorem ct_J0_checkIndex {l : Launch} {z : Nat} {D : tc_D} {G : tc_G} {u : tc_S} {i n : Int32} (hi : ¬ i < 0) (hn : i < n) : tc_C l z D yJ0_checkIndex_df160 cJ0_checkIndex_df160 2 none 1 22 0 0 [.int i, .int n] G u (tc_pv G u) := by
  refine tc_C.of (by decide) (Nat.le_of_ble_eq_true rfl) fun p e s m args below meth c => ?_
  show tc_R p l e _ s m args below meth c z D cJ0_checkIndex_df160 RJ0 2 none 0 0 _ 0 0 G u 0 [(0, .int i), (1, .int n)] []
  refine tc_iload_n 0 rfl dJ0_checkIndex_df160_0 ?_
  refine tc_iload_n 1 rfl dJ0_checkIndex_df160_1 ?_
  intro ok
  obtain ⟨v, hv, hZ⟩ : ∃ v : Value, lg_sl [v] = [Slot.val v] ∧ va_Z "jdk/internal/util/Preconditions" "SIOOBE_FORMATTER" "Ljava/util/function/BiFunction;" v (fun q => z ≤ q) s s.heap := by
    rcases ok.2.2.2.2.2.2.2.2.2.2.2.1 with h | ⟨t, h⟩
    · exact ⟨_, rfl, h⟩
    · exact ⟨_, rfl, h⟩
  have hv2 : v.category = 1 := by
    rcases lv_cat v with h | h
    · exact h
    · simp [lg_sl, h] at hv
  revert ok
  refine tc_gets (fun _ => hZ) xf_J0_1053 dJ0_checkIndex_df160_2 ?_
  refine tc_callSi [.int i, .int n, v] dJ0_checkIndex_df160_5 (ct_J3_checkIndex hv hi hn) ml_J0_1059 mw_J3_checkIndex_8e157 ms_J3_checkIndex_8e157 ⟨Nat.le_of_ble_eq_true rfl, Nat.le_of_ble_eq_true rfl⟩ rfl rfl (Nat.le_of_ble_eq_true rfl) ⟨Nat.le_refl _, Nat.le_refl _⟩ ?_
  refine tc_pop rfl dJ0_checkIndex_df160_8 ?_
  exact tc_return rfl dJ0_checkIndex_df160_9 rfl rfl ⟨rfl, rfl, rfl⟩
set_option maxRecDepth 100000 in
set_option maxHeartbeats 4000000 in
theorem ct_J1_charAt {l : Launch} {z : Nat} {D : tc_D} {G : tc_G} {u : tc_S} {w : Nat} (hw : w < 3) {j : Int32} (hj : vp_in j (tc_tl.getD w 0)) : tc_C l z D yJ1_charAt_3b067 cJ1_charAt_3b067 2 (some .char) 2 43 0 0 [.ref (D.2 (210 + w)), .int j] G u (tc_po (tc_sx w j) G u) := by
  refine tc_C.of (by decide) (Nat.le_of_ble_eq_true rfl) fun p e s m args below meth c => ?_
  show tc_R p l e _ s m args below meth c z D cJ1_charAt_3b067 RJ1 2 (some .char) 0 0 _ 0 0 G u 0 [(0, .ref (D.2 (210 + w))), (1, .int j)] []
  have hl : tc_tl.getD w 0 < 2 ^ 31 := by
    rcases (show w = 0 ∨ w = 1 ∨ w = 2 by omega) with rfl | rfl | rfl <;> decide
  have hlt : j < Int32.ofNat (tc_tl.getD w 0) := by
    obtain ⟨k, hk, rfl⟩ := vp_in_of hj hl
    exact nI_lt hk hl
  refine tc_iload_n 1 rfl dJ1_charAt_3b067_0 ?_
  refine tc_aload_n 0 rfl dJ1_charAt_3b067_1 ?_
  refine tc_xlen (fun hX => (hX.2.1.1 w hw).2.2.2) dJ1_charAt_3b067_2 ?_
  refine tc_callSv [.int j, .int (Int32.ofNat (tc_tl.getD w 0))] dJ1_charAt_3b067_3 (ct_J0_checkIndex (fun h => hj (Or.inl h)) hlt) ml_J1_9 mw_J0_checkIndex_df160 ms_J0_checkIndex_df160 ⟨Nat.le_of_ble_eq_true rfl, Nat.le_of_ble_eq_true rfl⟩ rfl rfl (Nat.le_of_ble_eq_true rfl) ⟨Nat.le_refl _, Nat.le_refl _⟩ ?_
  refine tc_aload_n 0 rfl dJ1_charAt_3b067_6 ?_
  refine tc_iload_n 1 rfl dJ1_charAt_3b067_7 ?_
  refine tc_xbald (fun hX => (hX.2.1.1 w hw).2.2.2) hj rfl dJ1_charAt_3b067_8 ?_
  refine tc_sipush (v := 255) (by decide) dJ1_charAt_3b067_9 ?_
  refine tc_iand dJ1_charAt_3b067_12 ?_
  refine tc_i2c dJ1_charAt_3b067_13 ?_
  refine tc_nm (y := tc_sx w j) (sc_c2 _).symm ?_
  exact tc_nreturn (sc_nar _) rfl dJ1_charAt_3b067_14 rfl rfl ⟨rfl, rfl, rfl⟩
set_option maxRecDepth 100000 in
set_option maxHeartbeats 4000000 in
theorem ct_J0_charAt {l : Launch} {z : Nat} {D : tc_D} {G : tc_G} {u : tc_S} {w : Nat} (hw : w < 3) {j : Int32} (hj : vp_in j (tc_tl.getD w 0)) : tc_C l z D yJ0_charAt_5068e cJ0_charAt_5068e 2 (some .char) 3 64 0 0 [.ref (D.2 (200 + w)), .int j] G u (tc_po (tc_sx w j) G u) := by
  refine tc_C.of (by decide) (Nat.le_of_ble_eq_true rfl) fun p e s m args below meth c => ?_
  show tc_R p l e _ s m args below meth c z D cJ0_charAt_5068e RJ0 2 (some .char) 0 0 _ 0 0 G u 0 [(0, .ref (D.2 (200 + w))), (1, .int j)] []
  refine tc_aload_n 0 rfl dJ0_charAt_5068e_0 ?_
  refine tc_callX [] dJ0_charAt_5068e_1 hw (ct_J0_isLatin1 hw) ml_J0_492 mw_J0_isLatin1_aae02 jv_J0_isLatin1_aae02 ⟨Nat.le_of_ble_eq_true rfl, Nat.le_of_ble_eq_true rfl⟩ rfl rfl (Nat.le_of_ble_eq_true rfl) ⟨Nat.le_refl _, Nat.le_refl _⟩ ?_
  refine tc_if_eq 16 dJ0_charAt_5068e_4 (by decide) (fun h => absurd h (by decide)) (fun _ => ?_)
  refine tc_aload_n 0 rfl dJ0_charAt_5068e_7 ?_
  refine tc_xgetf (fun hX => (hX.2.1.1 w hw).2.2.1) xf_J0_9 dJ0_charAt_5068e_8 ?_
  refine tc_iload_n 1 rfl dJ0_charAt_5068e_11 ?_
  refine tc_callSi [.ref (D.2 (210 + w)), .int j] dJ0_charAt_5068e_12 (ct_J1_charAt hw hj) ml_J0_495 mw_J1_charAt_3b067 ms_J1_charAt_3b067 ⟨Nat.le_of_ble_eq_true rfl, Nat.le_of_ble_eq_true rfl⟩ rfl rfl (Nat.le_of_ble_eq_true rfl) ⟨Nat.le_refl _, Nat.le_refl _⟩ ?_
  exact tc_nreturn (sc_nar _) rfl dJ0_charAt_5068e_15 rfl rfl ⟨rfl, rfl, rfl⟩
