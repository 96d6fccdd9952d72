/-- the plain statement that is left: over every script the law's function goes through -/
def lw_u0 : tc_S := (fun _ _ => 0, fun _ _ => 0)
def lw_Pure : Prop := ∀ (xs : Nat → Int32) (len : Nat), len ≤ 3072 → ∃ (L2 : tc_L) (u2 : tc_S) (L4 : tc_L) (u4 : tc_S), fn_X11_init [(11, 1, List.replicate 10 none)] 0 (tc_z lw_u0 0) = some (L2, u2) ∧ fn_X12_init (L2 ++ [(12, 1, List.replicate 34 none)]) L2.length (tc_z u2 L2.length) = some (L4, u4) ∧ lw_go 0 L2.length xs len 513 0 L4 u4
theorem W.mono {p : Program} {l : Launch} {e : Env} {R : Room} {s : State} {m : MethodId} {args : Array Value} {below : List Frame} {meth : Method} {c : Code} {H : Heap} {locs : List Loc} {cells slots : Nat} {Q Q2 : State → Prop} {g : JFrame} (h : W p l e R s m args below meth c H locs cells slots Q g) (hq : ∀ t, Q t → Q2 t) : W p l e R s m args below meth c H locs cells slots Q2 g := fun T hT X => by
  obtain ⟨t, a, b⟩ := h T hT X
  exact ⟨t, a, hq t b⟩
set_option maxRecDepth 100000 in
set_option maxHeartbeats 4000000 in
theorem whole_start_open (hp : lw_Pure) {p : Program} {e : Env} {s : State} {m : MethodId} {below : List Frame} {meth : Method} {c : Code} (l : Launch) (hflags : l.flags = flags0) {b L : Nat} {xs : Nat → Int32} (hL : L ≤ 3072) (C0 : lw_At p s m meth c b L xs) : W p l e room_1 s m #[Value.ref b] below meth c s.heap [] 0 0 (lw_Z below #[Value.ref b] s) (entryFrame m ([Value.ref b] : List Value).toArray 4) := by
  obtain ⟨hx, hb, hr, hml, hown, hts, hX, hbl, hlocks, hgv⟩ := C0
  obtain ⟨D, hK, hXD⟩ := ls_D hts hgv
  obtain ⟨L2, u2, L4, u4, hi1, hi2, hgo⟩ := hp xs L hL
  have key : tc_R p l e room_1 s m #[Value.ref b] below meth c s.heap.size D cL_law RL 4 (some .boolean) room_1.cells room_1.slots (fun r _ _ => r = some (.int 1)) 0 0 (tc_gl []) lw_u0 0 [(0, .ref b)] [] := by
    refine tc_newo (L := []) (r := (RX11, TX11, 10)) (ci := 11) rfl (by decide) cl_L_7c ii_11 it_11 (tc_df_11 _) (Nat.le_of_ble_eq_true rfl) (Nat.le_of_ble_eq_true rfl) dL_law_0 ?_
    refine tc_dup rfl dL_law_3 ?_
    refine tc_callIv [] dL_law_4 (ct_X11_init hi1) ml_L_9 mw_X11_init mj_X11_init ⟨Nat.le_of_ble_eq_true rfl, Nat.le_of_ble_eq_true rfl⟩ rfl rfl (Nat.le_of_ble_eq_true rfl) ⟨Nat.le_of_ble_eq_true rfl, Nat.le_of_ble_eq_true rfl⟩ ?_
    refine tc_astore_n [(1, .ref (s.heap.size + 0)), (0, .ref b)] dL_law_7 (by decide) rfl ?_
    refine tc_newo (L := L2) (r := (RX12, TX12, 34)) (ci := 12) rfl (by decide) cl_L_10c ii_12 it_12 (tc_df_12 _) (Nat.le_of_ble_eq_true rfl) (Nat.le_of_ble_eq_true rfl) dL_law_8 ?_
    refine tc_dup rfl dL_law_11 ?_
    refine tc_callIv [] dL_law_12 (ct_X12_init hi2) ml_L_12 mw_X12_init mj_X12_init ⟨Nat.le_of_ble_eq_true rfl, Nat.le_of_ble_eq_true rfl⟩ rfl rfl (Nat.le_of_ble_eq_true rfl) ⟨Nat.le_of_ble_eq_true rfl, Nat.le_of_ble_eq_true rfl⟩ ?_
    refine tc_astore_n [(2, .ref (s.heap.size + L2.length)), (1, .ref (s.heap.size + 0)), (0, .ref b)] dL_law_15 (by decide) rfl ?_
    refine tc_iconst (v := nI 0) rfl dL_law_16 ?_
    refine tc_istore_n [(3, .int (nI 0)), (2, .ref (s.heap.size + L2.length)), (1, .ref (s.heap.size + 0)), (0, .ref b)] dL_law_17 (by decide) rfl ?_
    refine tc_lvs [3, 2, 1, 0] rfl ?_
    exact law_loop hX hbl hL 513 0 L4 u4 _ _ (by omega) (Nat.le_of_ble_eq_true rfl) (Nat.le_of_ble_eq_true rfl) hgo
  have hl := lv_entry [Value.ref b] (n := 4) (Nat.le_of_ble_eq_true rfl)
  rw [lg_entry_eq]
  refine W.mono (key ⟨hx, hb, hml, hown, fun w hw => hts w (List.mem_filter.mp hw).1, hK, hlocks, hr, hXD⟩ s.heap [] _ ⟨rfl, fun i hi => absurd hi (Nat.not_lt_zero i), fun i hi => absurd hi (Nat.not_lt_zero i)⟩ (fun _ _ => rfl) (fun _ h => by cases h) hl) ?_
  intro t ht
  obtain ⟨o, h1, h2, ⟨r, G, u, ho, hpo, -, -⟩, Lc, hF, hLc⟩ := ht
  subst ho
  subst hpo
  obtain ⟨hv, hW, hsame⟩ := hF
  exact ⟨_, h1, h2, rfl, hv, hW, hsame.weaken (fun y hy hlt => absurd hlt (Nat.not_lt.mpr (hLc y hy))) (Nat.le_refl _) (Nat.le_refl _)⟩
