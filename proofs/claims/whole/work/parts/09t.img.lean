/-! references that may be null: the row of images -/
def tc_bq {β : Type} (o : Option (Option Nat)) (n : Option β) (k : Nat → Option β) : Option β := match o with
  | none => none
  | some none => n
  | some (some j) => k j
theorem tc_bq_ex {β : Type} {o : Option (Option Nat)} {n : Option β} {k : Nat → Option β} {r : β} (h : tc_bq o n k = some r) : (o = some none ∧ n = some r) ∨ ∃ j, o = some (some j) ∧ k j = some r := by
  cases o with
  | none => cases h
  | some q =>
    cases q with
    | none => exact Or.inl ⟨rfl, h⟩
    | some j => exact Or.inr ⟨j, rfl, h⟩
def tc_pq (q : Option Nat) (z : Nat) (G : tc_G) (u : tc_S) : Option Value → tc_G → tc_S → Prop := fun r1 G1 u1 => r1 = some (va_rf (q.map (fun j => z + j))) ∧ G1 = G ∧ u1 = u
section TCI
variable {p : Program} {l : Launch} {e : Env} {R : Room} {s : State} {m : MethodId} {args : Array Value} {below : List Frame} {meth : Method} {c : Code} {z : Nat} {D : tc_D} {cc : ByteArray} {own : String} {nL : Nat} {ret : Option FieldType} {mc ms : Nat} {post : Option Value → tc_G → tc_S → Prop} {cells slots : Nat} {G : tc_G} {u : tc_S} {pc : Nat} {lv : List (Nat × Value)} {rest : List Value}
theorem tc_aconst (hd : decode cc pc = .ok (.aconst_null, 1)) (k : tc_R p l e R s m args below meth c z D cc own nL ret mc ms post cells slots G u (pc + 1) lv (.null :: rest)) : tc_R p l e R s m args below meth c z D cc own nL ret mc ms post cells slots G u pc lv rest := fun ok H locs ls hH h0 hL hl => lv_null ok.1 ok.2.1 hd (k ok H locs ls hH h0 hL hl)
theorem tc_aload_nN {k : Fin 4} (j : Nat) (hl0 : lv[j]? = some ((k : Nat), .null)) (hd : decode cc pc = .ok (.aload_n k, 1)) (kk : tc_R p l e R s m args below meth c z D cc own nL ret mc ms post cells slots G u (pc + 1) lv (.null :: rest)) : tc_R p l e R s m args below meth c z D cc own nL ret mc ms post cells slots G u pc lv rest := fun ok H locs ls hH h0 hL hl => lv_aload_nN ok.1 ok.2.1 hd rfl (lv_at hl j hl0) (kk ok H locs ls hH h0 hL hl)
theorem tc_astore_nN {k : Fin 4} (lv2 : List (Nat × Value)) (hd : decode cc pc = .ok (.astore_n k, 1)) (hn : (k : Nat) < nL) (hl2 : ((k : Nat), Value.null) :: lv.filter (fun q => !(q.1 == (k : Nat)) && !(q.1 + 1 == (k : Nat) && q.2.category == 2)) = lv2) (kk : tc_R p l e R s m args below meth c z D cc own nL ret mc ms post cells slots G u (pc + 1) lv2 rest) : tc_R p l e R s m args below meth c z D cc own nL ret mc ms post cells slots G u pc lv (.null :: rest) := fun ok H locs ls hH h0 hL hl => lv_astore_nN ok.1 ok.2.1 hd rfl hl hn hl2 (fun ls2 hl3 => kk ok H locs ls2 hH h0 hL hl3)
theorem tc_ifnonnull {x : Nat} {off : Int} (tgt : Nat) (hd : decode cc pc = .ok (.ifnonnull off, 3)) (ht : (pc : Int) + off = (tgt : Int)) (k : tc_R p l e R s m args below meth c z D cc own nL ret mc ms post cells slots G u tgt lv rest) : tc_R p l e R s m args below meth c z D cc own nL ret mc ms post cells slots G u pc lv (.ref x :: rest) := fun ok H locs ls hH h0 hL hl => lv_ifnonnull ok.1 ok.2.1 hd ht (k ok H locs ls hH h0 hL hl)
theorem tc_ifnonnullN {off : Int} (hd : decode cc pc = .ok (.ifnonnull off, 3)) (k : tc_R p l e R s m args below meth c z D cc own nL ret mc ms post cells slots G u (pc + 3) lv rest) : tc_R p l e R s m args below meth c z D cc own nL ret mc ms post cells slots G u pc lv (.null :: rest) := fun ok H locs ls hH h0 hL hl => lv_ifnonnullN ok.1 ok.2.1 hd (k ok H locs ls hH h0 hL hl)
theorem tc_H.arq {H : Heap} (h : tc_H z D G u H) {i : Nat} (hi : tc_at G i 103) : H[z + i]? = some (vp_cell (D.2 103) (G.2.2.1 i, .inr (.inr (.inr (.inr (fun k => (G.2.2.2 i k).map (fun j => z + j))))))) := by
  have h2 := h.2.1 i hi.1
  unfold tc_cell at h2
  rw [hi.2, if_neg (by decide), if_neg (by decide)] at h2
  exact h2
theorem tc_arq {D : tc_D} {U : State} (h : tc_K D U) : ArrOfT U (D.2 103) (.object RX10) := (h.2 3 _ rfl).1
theorem tc_aald {i : Nat} {j : Int32} (hi : tc_at G i 103) (hin : vp_in j (G.2.2.1 i)) (hd : decode cc pc = .ok (.aaload, 1)) (kk : tc_R p l e R s m args below meth c z D cc own nL ret mc ms post cells slots G u (pc + 1) lv (va_rf ((G.2.2.2 i j.toNatClampNeg).map (fun j => z + j)) :: rest)) : tc_R p l e R s m args below meth c z D cc own nL ret mc ms post cells slots G u pc lv (.int j :: .ref (z + i) :: rest) := by
  intro ok H locs ls hH h0 hL hl
  have hlt : j.toNatClampNeg < G.2.2.1 i := Nat.not_le.mp fun q => hin (Or.inr q)
  exact W.aald (v := va_rf ((G.2.2.2 i j.toNatClampNeg).map (fun j => z + j))) (ty := .object RX10) ok.1 ok.2.1 (hH.arq hi) (tc_arq ok.2.2.2.2.2.1 _ _) rfl (fun q => by cases q) (by show ¬ (j < 0 ∨ (arrV _ _ _).slots.size ≤ _); rw [arrV_size]; exact hin) (by show (arrV _ _ _).slots[_]? = _; rw [arrV_read _ _ hlt]) rfl rfl hd (kk ok H locs ls hH h0 hL hl)
theorem tc_areturn {q : Option Nat} (hr : ∃ C, ret = some (.object C)) (hd : decode cc pc = .ok (.areturn, 1)) (hc : cells = mc) (hs : slots = ms) (k : post (some (va_rf (q.map (fun j => z + j)))) G u) : tc_R p l e R s m args below meth c z D cc own nL ret mc ms post cells slots G u pc lv [va_rf (q.map (fun j => z + j))] := by
  subst hc; subst hs
  obtain ⟨C, hr⟩ := hr
  intro ok H locs ls hH h0 hL hl
  exact W.aret (v := va_rf (q.map (fun j => z + j))) (rt := .object C) ok.1 ok.2.1 (ok.2.2.2.2.2.2.2.1.trans hr) (Or.inl ⟨_, rfl⟩) (by cases q with | none => exact Or.inl rfl | some j => exact Or.inr ⟨_, rfl⟩) (fun t ht hW => ⟨_, G, u, rfl, k, by rw [ht]; exact hH, fun q hq => by rw [ht]; exact h0 q hq⟩) hL hd ok.2.2.2.2.2.2.1
theorem tc_callVq {y : MethodName} {bytes : ByteArray} {maxL fr lc i ci n index : Nat} {rt : Option FieldType} (As : List Value) {st : List Value} {q : Option Nat} (hd : decode cc pc = .ok (.invokevirtual index, 3)) (hi : tc_at G i ci) (hM : tc_C l z D y bytes maxL rt fr lc 0 0 (.ref (z + i) :: As) G u (tc_pq q z G u)) (hlink : Cond.methodLink own index y ∈ tc_T) (hw : tc_MW y bytes maxL rt n) (hv : tc_MV y ci) (hroom : fr + 1 ≤ R.frames ∧ 8 + (maxL + 11) + lc ≤ R.locals) (hn : As.length = n) (hst : st = As.reverse ++ .ref (z + i) :: rest) (hW8 : (rest.map fun v => v.category).sum ≤ 8) (hf : cells + 0 ≤ R.cells ∧ slots + 0 ≤ R.slots) (hci : ci < 100)
    (kk : tc_R p l e R s m args below meth c z D cc own nL ret mc ms post cells slots G u (pc + 3) lv (va_rf (q.map (fun j => z + j)) :: rest)) : tc_R p l e R s m args below meth c z D cc own nL ret mc ms post cells slots G u pc lv st :=
  tc_callV hd hi hci hM hlink hw hv hroom hn hst hW8 hf (fun r G1 u2 h => by obtain ⟨rfl, rfl, rfl⟩ := h; exact kk)
end TCI
/-- TwoChoices.imageOf -/
def fn_X11_imageOf (G : tc_G) (v0 : Nat) (v1 : Int32) : Option (Option Nat) := if v1 < 0 then some none else if v1 < 3 then (if v1 < 0 ∨ G.2.2.1 (tc_p G v0 1) ≤ v1.toNatClampNeg then none else some (G.2.2.2 (tc_p G v0 1) v1.toNatClampNeg)) else some none
set_option maxRecDepth 100000 in
set_option maxHeartbeats 4000000 in
theorem ct_X11_imageOf {l : Launch} {z : Nat} {D : tc_D} {G : tc_G} (hW : tc_W G) {v0 : Nat} {v1 : Int32} {u : tc_S} {q : Option Nat} (iv0 : tc_is G v0 11) (h : fn_X11_imageOf G v0 v1 = some q) : tc_C l z D yX11_imageOf cX11_imageOf 2 (some (.object "TwoChoices$World")) 0 0 0 0 [.ref (z + v0), .int v1] G u (tc_pq q z G u) := by
  unfold fn_X11_imageOf at h
  refine tc_C.of (by decide) (Nat.le_of_ble_eq_true rfl) fun p e s m args below meth c => ?_
  show tc_R p l e { frames := 0, cells := 0, slots := 0, locals := 0 } s m args below meth c z D cX11_imageOf RX11 2 (some (.object "TwoChoices$World")) 0 0 (tc_pq q z G u) 0 0 G u 0 [(0, .ref (z + v0)), (1, .int v1)] []
  have hnull : some none = some q → tc_R p l e { frames := 0, cells := 0, slots := 0, locals := 0 } s m args below meth c z D cX11_imageOf RX11 2 (some (.object "TwoChoices$World")) 0 0 (tc_pq q z G u) 0 0 G u 9 [(0, .ref (z + v0)), (1, .int v1)] [] := by
    intro h
    cases h
    refine tc_aconst dX11_imageOf_9 ?_
    refine tc_goto 19 dX11_imageOf_10 (by decide) ?_
    exact tc_areturn (q := none) ⟨_, rfl⟩ dX11_imageOf_19 rfl rfl ⟨rfl, rfl, rfl⟩
  refine tc_iload_n 1 rfl dX11_imageOf_0 ?_
  refine tc_if_lt 9 dX11_imageOf_1 (by decide) (fun hc => ?_) (fun hc => ?_)
  · rw [if_pos hc] at h
    exact hnull h
  · rw [if_neg hc] at h
    refine tc_iload_n 1 rfl dX11_imageOf_4 ?_
    refine tc_iconst (v := 3) (by decide) dX11_imageOf_5 ?_
    refine tc_icmp_lt 13 dX11_imageOf_6 (by decide) (fun hc2 => ?_) (fun hc2 => ?_)
    · rw [if_pos hc2] at h
      split at h
      · cases h
      · rename_i hb
        cases h
        refine tc_aload_n 0 rfl dX11_imageOf_13 ?_
        refine tc_getp hW iv0 fl_X11_16 dX11_imageOf_14 rfl ?_
        refine tc_iload_n 1 rfl dX11_imageOf_17 ?_
        refine tc_aald (hW.p iv0 1 rfl).1 hb dX11_imageOf_18 ?_
        exact tc_areturn ⟨_, rfl⟩ dX11_imageOf_19 rfl rfl ⟨rfl, rfl, rfl⟩
    · rw [if_neg hc2] at h
      exact hnull h
theorem fn_X11_imageOf_is {G : tc_G} (hW : tc_W G) {v0 : Nat} {v1 : Int32} {j : Nat} (iv0 : tc_is G v0 11) (h : fn_X11_imageOf G v0 v1 = some (some j)) : tc_is G j 10 := by
  unfold fn_X11_imageOf at h
  split at h
  · cases h
  · split at h
    · split at h
      · cases h
      · exact hW.2 _ (hW.p iv0 1 rfl).1 _ _ (Option.some.inj h)
    · cases h
