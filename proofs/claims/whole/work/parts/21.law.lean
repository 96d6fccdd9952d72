/-! the law: its script, its calls, its loop -/
def tc_bi {β : Type} (o : Option (Int32 × tc_L × tc_S)) (k : Int32 → tc_L → tc_S → Option β) : Option β := match o with
  | some (r, L, u) => k r L u
  | none => none
theorem tc_bi_ex {β : Type} {o : Option (Int32 × tc_L × tc_S)} {k : Int32 → tc_L → tc_S → Option β} {r : β} (h : tc_bi o k = some r) : ∃ x L u, o = some (x, L, u) ∧ k x L u = some r := by
  cases o with
  | none => cases h
  | some q => exact ⟨q.1, q.2.1, q.2.2, rfl, h⟩
section TLW
variable {p : Program} {l : Launch} {e : Env} {R : Room} {s : State} {m : MethodId} {args : Array Value} {below : List Frame} {meth : Method} {c : Code} {z : Nat} {D : tc_D} {cc : ByteArray} {own : String} {nL : Nat} {ret : Option FieldType} {mc ms : Nat} {post : Option Value → tc_G → tc_S → Prop} {cells slots : Nat} {G : tc_G} {u : tc_S} {pc : Nat} {lv : List (Nat × Value)} {rest : List Value} {L : tc_L}
theorem tc_sld {b len : Nat} {xs : Nat → Int32} {j : Int32} (hX : va_X b len xs s s.heap) (hbz : b < z) (hin : vp_in j len) (hd : decode cc pc = .ok (.iaload, 1)) (kk : tc_R p l e R s m args below meth c z D cc own nL ret mc ms post cells slots G u (pc + 1) lv (.int (xs j.toNatClampNeg) :: rest)) : tc_R p l e R s m args below meth c z D cc own nL ret mc ms post cells slots G u pc lv (.int j :: .ref b :: rest) := by
  intro ok H locs ls hH h0 hL hl
  obtain ⟨scr, h1, h2, h3, h4, h5⟩ := hX
  have hlt : j.toNatClampNeg < len := Nat.not_le.mp fun q => hin (Or.inr q)
  exact W.iald (v := .int (xs j.toNatClampNeg)) ok.1 ok.2.1 (by rw [h0 b hbz]; exact h1) h2 h3 (by rw [h4]; exact hin) (h5 _ hlt) rfl rfl hd (kk ok H locs ls hH h0 hL hl)
theorem tc_sln {b len : Nat} {xs : Nat → Int32} (hX : va_X b len xs s s.heap) (hbz : b < z) (hd : decode cc pc = .ok (.arraylength, 1)) (kk : tc_R p l e R s m args below meth c z D cc own nL ret mc ms post cells slots G u (pc + 1) lv (.int (nI len) :: rest)) : tc_R p l e R s m args below meth c z D cc own nL ret mc ms post cells slots G u pc lv (.ref b :: rest) := by
  intro ok H locs ls hH h0 hL hl
  obtain ⟨scr, h1, h2, h3, h4, h5⟩ := hX
  exact W.alen (n := nI len) ok.1 ok.2.1 (by rw [h0 b hbz]; exact h1) h2 (by rw [h4]; rfl) rfl rfl hd (kk ok H locs ls hH h0 hL hl)
theorem lw_arg {b len x y i : Nat} {k : Nat} {xs : Nat → Int32} (hX : va_X b len xs s s.heap) (hbz : b < z) (hlen : len ≤ 3072) (hi : i + 6 ≤ len) (hk : k < 6) (d0 : decode cc pc = .ok (.aload_n 0, 1)) (d1 : decode cc (pc + 1) = .ok (.iload_n 3, 1)) (d2 : decode cc (pc + 1 + 1) = .ok (.iconst (k : Int), 1)) (d3 : decode cc (pc + 1 + 1 + 1) = .ok (.iadd, 1)) (d4 : decode cc (pc + 1 + 1 + 1 + 1) = .ok (.iaload, 1))
    (kk : tc_R p l e R s m args below meth c z D cc own nL ret mc ms post cells slots G u (pc + 1 + 1 + 1 + 1 + 1) [(0, .ref b), (1, .ref x), (2, .ref y), (3, .int (nI i))] (.int (xs (i + k)) :: rest)) : tc_R p l e R s m args below meth c z D cc own nL ret mc ms post cells slots G u pc [(0, .ref b), (1, .ref x), (2, .ref y), (3, .int (nI i))] rest := by
  refine tc_aload_n 0 rfl d0 ?_
  refine tc_iload_n 3 rfl d1 ?_
  refine tc_iconst (v := nI k) rfl d2 ?_
  refine tc_iadd d3 ?_
  refine tc_nm (y := nI (i + k)) (nI_add i k).symm ?_
  refine tc_sld hX hbz (vp_in_nI (by omega) (by omega)) d4 ?_
  rw [nI_clamp (by omega)]
  exact kk
theorem lw_bool {x : Int32} {o1 o2 : Int} (l1 l2 : Nat) (d0 : decode cc pc = .ok (.ifCond .eq o1, 3)) (h1 : (pc : Int) + o1 = (l1 : Int)) (d1 : decode cc (pc + 3) = .ok (.iconst 1, 1)) (d2 : decode cc (pc + 3 + 1) = .ok (.goto o2, 3)) (h2 : ((pc + 3 + 1 : Nat) : Int) + o2 = (l2 : Int)) (d3 : decode cc l1 = .ok (.iconst 0, 1)) (h3 : l1 + 1 = l2)
    (kk : tc_R p l e R s m args below meth c z D cc own nL ret mc ms post cells slots G u l2 lv (.int (if x = 0 then 0 else 1) :: rest)) : tc_R p l e R s m args below meth c z D cc own nL ret mc ms post cells slots G u pc lv (.int x :: rest) := by
  refine tc_if_eq l1 d0 h1 (fun hc => ?_) (fun hc => ?_)
  · rw [if_pos hc] at kk
    refine tc_iconst (v := 0) (by decide) d3 ?_
    rw [h3]
    exact kk
  · rw [if_neg hc] at kk
    refine tc_iconst (v := 1) (by decide) d1 ?_
    exact tc_goto l2 d2 h2 kk
theorem tc_callVim {y : MethodName} {bytes : ByteArray} {maxL fr lc mc1 ms1 i ci n index : Nat} {rt : Option FieldType} (As : List Value) {st : List Value} {r1 : Int32} {L1 : tc_L} {u1 : tc_S} (hd : decode cc pc = .ok (.invokevirtual index, 3)) (hi : tc_at G i ci) (hM : tc_C l z D y bytes maxL rt fr lc mc1 ms1 (.ref (z + i) :: As) G u (tc_pi r1 L1 u1)) (hlink : Cond.methodLink own index y ∈ tc_T) (hw : tc_MW y bytes maxL rt n) (hv : tc_MV y ci) (hroom : fr + 1 ≤ R.frames ∧ 8 + (maxL + 11) + lc ≤ R.locals) (hn : As.length = n) (hst : st = As.reverse ++ .ref (z + i) :: rest) (hW8 : (rest.map fun v => v.category).sum ≤ 8) (hf : cells + mc1 ≤ R.cells ∧ slots + ms1 ≤ R.slots) (hci : ci < 100)
    (kk : tc_R p l e R s m args below meth c z D cc own nL ret mc ms post (cells + mc1) (slots + ms1) (tc_gl L1) u1 (pc + 3) lv (.int r1 :: rest)) : tc_R p l e R s m args below meth c z D cc own nL ret mc ms post cells slots G u pc lv st :=
  tc_callV hd hi hci hM hlink hw hv hroom hn hst hW8 hf (fun r G1 u2 h => by obtain ⟨rfl, rfl, rfl⟩ := h; exact kk)
end TLW
def lw_c0 (L : tc_L) (x m : Nat) (xs : Nat → Int32) (i : Nat) (u : tc_S) : Option (tc_L × tc_S) := tc_wc L <| tc_kd L x 11 <| tc_kd L m 12 <| tc_b (fn_X11_feed (tc_gl L) x (xs (i + 1)) (xs (i + 2)) (xs (i + 3)) (xs (i + 4)) (xs (i + 5)) u) fun r1 u1 => tc_b (fn_X12_feed (tc_gl L) m (xs (i + 1)) (xs (i + 2)) (xs (i + 3)) (xs (i + 4)) (xs (i + 5)) u1) fun r2 u2 => if r1 = r2 then some (L, u2) else none
def lw_c1 (L : tc_L) (x m : Nat) (xs : Nat → Int32) (i : Nat) (u : tc_S) : Option (tc_L × tc_S) := tc_wc L <| tc_kd L x 11 <| tc_kd L m 12 <| tc_b (fn_X11_end (tc_gl L) x (xs (i + 1)) u) fun r1 u1 => tc_b (fn_X12_end (tc_gl L) m (xs (i + 1)) u1) fun r2 u2 => if r1 = r2 then some (L, u2) else none
def lw_c2 (L : tc_L) (x m : Nat) (xs : Nat → Int32) (i : Nat) (u : tc_S) : Option (tc_L × tc_S) := tc_wc L <| tc_kd L x 11 <| tc_kd L m 12 <| tc_b (fn_X11_text (tc_gl L) x u) fun r1 u1 => tc_b (fn_X12_text (tc_gl L) m u1) fun r2 u2 => if r1 = r2 then some (L, u2) else none
def lw_c3 (L : tc_L) (x m : Nat) (xs : Nat → Int32) (i : Nat) (u : tc_S) : Option (tc_L × tc_S) := tc_wc L <| tc_kd L x 11 <| tc_kd L m 12 <| tc_b (fn_X11_fault (tc_gl L) x (xs (i + 1)) u) fun r1 u1 => tc_b (fn_X12_fault (tc_gl L) m (xs (i + 1)) u1) fun r2 u2 => if r1 = r2 then some (L, u2) else none
def lw_c4 (L : tc_L) (x m : Nat) (xs : Nat → Int32) (i : Nat) (u : tc_S) : Option (tc_L × tc_S) := tc_wc L <| tc_kd L x 11 <| tc_kd L m 12 <| tc_b (fn_X11_put (tc_gl L) x (xs (i + 1)) (xs (i + 2)) u) fun r1 u1 => tc_b (fn_X12_put (tc_gl L) m (xs (i + 1)) (xs (i + 2)) u1) fun r2 u2 => if r1 = r2 then some (L, u2) else none
def lw_c5 (L : tc_L) (x m : Nat) (xs : Nat → Int32) (i : Nat) (u : tc_S) : Option (tc_L × tc_S) := tc_wc L <| tc_kd L x 11 <| tc_kd L m 12 <| tc_b (fn_X11_get (tc_gl L) x (xs (i + 1)) u) fun r1 u1 => tc_b (fn_X12_get (tc_gl L) m (xs (i + 1)) u1) fun r2 u2 => if r1 = r2 then some (L, u2) else none
def lw_c6 (L : tc_L) (x m : Nat) (xs : Nat → Int32) (i : Nat) (u : tc_S) : Option (tc_L × tc_S) := tc_wc L <| tc_kd L x 11 <| tc_kd L m 12 <| tc_b (fn_X11_drop (tc_gl L) x (xs (i + 1)) u) fun r1 u1 => tc_b (fn_X12_drop (tc_gl L) m (xs (i + 1)) u1) fun r2 u2 => if r1 = r2 then some (L, u2) else none
def lw_c7 (L : tc_L) (x m : Nat) (xs : Nat → Int32) (i : Nat) (u : tc_S) : Option (tc_L × tc_S) := tc_wc L <| tc_kd L x 11 <| tc_kd L m 12 <| tc_b (fn_X11_settle (tc_gl L) x u) fun r1 u1 => tc_b (fn_X12_settle (tc_gl L) m u1) fun r2 u2 => if r1 = r2 then some (L, u2) else none
def lw_c8 (L : tc_L) (x m : Nat) (xs : Nat → Int32) (i : Nat) (u : tc_S) : Option (tc_L × tc_S) := tc_wc L <| tc_kd L x 11 <| tc_kd L m 12 <| tc_b (fn_X11_rehash (tc_gl L) x (xs (i + 1)) (xs (i + 2)) (xs (i + 3)) (xs (i + 4)) u) fun r1 u1 => tc_b (fn_X12_rehash (tc_gl L) m (xs (i + 1)) (xs (i + 2)) (xs (i + 3)) (xs (i + 4)) u1) fun r2 u2 => if r1 = r2 then some (L, u2) else none
def lw_c9 (L : tc_L) (x m : Nat) (xs : Nat → Int32) (i : Nat) (u : tc_S) : Option (tc_L × tc_S) := tc_wc L <| tc_kd L x 11 <| tc_kd L m 12 <| tc_b (fn_X11_batch (tc_gl L) x u) fun r1 u1 => tc_b (fn_X12_batch (tc_gl L) m u1) fun r2 u2 => if r1 = r2 then some (L, u2) else none
def lw_c10 (L : tc_L) (x m : Nat) (xs : Nat → Int32) (i : Nat) (u : tc_S) : Option (tc_L × tc_S) := tc_wc L <| tc_kd L x 11 <| tc_kd L m 12 <| tc_b (fn_X11_peel (tc_gl L) x (xs (i + 1)) (xs (i + 2)) u) fun r1 u1 => tc_b (fn_X12_peel (tc_gl L) m (xs (i + 1)) (xs (i + 2)) u1) fun r2 u2 => if r1 = r2 then some (L, u2) else none
def lw_c11 (L : tc_L) (x m : Nat) (xs : Nat → Int32) (i : Nat) (u : tc_S) : Option (tc_L × tc_S) := tc_wc L <| tc_kd L x 11 <| tc_kd L m 12 <| tc_b (fn_X11_load (tc_gl L) x (xs (i + 1)) (xs (i + 2)) u) fun r1 u1 => tc_b (fn_X12_load (tc_gl L) m (xs (i + 1)) (xs (i + 2)) u1) fun r2 u2 => if r1 = r2 then some (L, u2) else none
def lw_c12 (L : tc_L) (x m : Nat) (xs : Nat → Int32) (i : Nat) (u : tc_S) : Option (tc_L × tc_S) := tc_wc L <| tc_kd L x 11 <| tc_kd L m 12 <| tc_b (fn_X11_find (tc_gl L) x (xs (i + 1)) (xs (i + 2)) u) fun r1 u1 => tc_b (fn_X12_find (tc_gl L) m (xs (i + 1)) (xs (i + 2)) u1) fun r2 u2 => if r1 = r2 then some (L, u2) else none
def lw_c13 (L : tc_L) (x m : Nat) (xs : Nat → Int32) (i : Nat) (u : tc_S) : Option (tc_L × tc_S) := tc_wc L <| tc_kd L x 11 <| tc_kd L m 12 <| tc_b (fn_X11_at (tc_gl L) x (xs (i + 1)) (xs (i + 2)) (xs (i + 3)) u) fun r1 u1 => tc_b (fn_X12_at (tc_gl L) m (xs (i + 1)) (xs (i + 2)) (xs (i + 3)) u1) fun r2 u2 => if r1 = r2 then some (L, u2) else none
def lw_c14 (L : tc_L) (x m : Nat) (xs : Nat → Int32) (i : Nat) (u : tc_S) : Option (tc_L × tc_S) := tc_wc L <| tc_kd L x 11 <| tc_kd L m 12 <| tc_b (fn_X11_hash (tc_gl L) x (xs (i + 1)) (if xs (i + 2) = 0 then 0 else 1) u) fun r1 u1 => tc_b (fn_X12_hash (tc_gl L) m (xs (i + 1)) (if xs (i + 2) = 0 then 0 else 1) u1) fun r2 u2 => if r1 = r2 then some (L, u2) else none
def lw_c15 (L : tc_L) (x m : Nat) (xs : Nat → Int32) (i : Nat) (u : tc_S) : Option (tc_L × tc_S) := tc_wc L <| tc_kd L x 11 <| tc_kd L m 12 <| tc_b (fn_X11_chain (tc_gl L) x (xs (i + 1)) (xs (i + 2)) u) fun r1 u1 => tc_b (fn_X12_chain (tc_gl L) m (xs (i + 1)) (xs (i + 2)) u1) fun r2 u2 => if r1 = r2 then some (L, u2) else none
def lw_c16 (L : tc_L) (x m : Nat) (xs : Nat → Int32) (i : Nat) (u : tc_S) : Option (tc_L × tc_S) := tc_wc L <| tc_kd L x 11 <| tc_kd L m 12 <| tc_b (fn_X11_would (tc_gl L) x (xs (i + 1)) u) fun r1 u1 => tc_b (fn_X12_would (tc_gl L) m (xs (i + 1)) u1) fun r2 u2 => if r1 = r2 then some (L, u2) else none
def lw_c17 (L : tc_L) (x m : Nat) (xs : Nat → Int32) (i : Nat) (u : tc_S) : Option (tc_L × tc_S) := tc_wc L <| tc_kd L x 11 <| tc_kd L m 12 <| tc_b (fn_X11_part (tc_gl L) x (xs (i + 1)) (xs (i + 2)) u) fun r1 u1 => tc_b (fn_X12_part (tc_gl L) m (xs (i + 1)) (xs (i + 2)) u1) fun r2 u2 => if r1 = r2 then some (L, u2) else none
def lw_c18 (L : tc_L) (x m : Nat) (xs : Nat → Int32) (i : Nat) (u : tc_S) : Option (tc_L × tc_S) := tc_wc L <| tc_kd L x 11 <| tc_kd L m 12 <| tc_b (fn_X11_fits (tc_gl L) x (xs (i + 1)) u) fun r1 u1 => tc_b (fn_X12_fits (tc_gl L) m (xs (i + 1)) u1) fun r2 u2 => if r1 = r2 then some (L, u2) else none
def lw_c19 (L : tc_L) (x m : Nat) (xs : Nat → Int32) (i : Nat) (u : tc_S) : Option (tc_L × tc_S) := tc_wc L <| tc_kd L x 11 <| tc_kd L m 12 <| tc_b (fn_X11_over (tc_gl L) x u) fun r1 u1 => tc_b (fn_X12_over (tc_gl L) m u1) fun r2 u2 => if r1 = r2 then some (L, u2) else none
def lw_c20 (L : tc_L) (x m : Nat) (xs : Nat → Int32) (i : Nat) (u : tc_S) : Option (tc_L × tc_S) := tc_wc L <| tc_kd L x 11 <| tc_kd L m 12 <| tc_b (fn_X11_least (tc_gl L) x (xs (i + 1)) u) fun r1 u1 => tc_b (fn_X12_least (tc_gl L) m (xs (i + 1)) u1) fun r2 u2 => if r1 = r2 then some (L, u2) else none
def lw_c21 (L : tc_L) (x m : Nat) (xs : Nat → Int32) (i : Nat) (u : tc_S) : Option (tc_L × tc_S) := tc_wc L <| tc_kd L x 11 <| tc_kd L m 12 <| tc_b (fn_X11_key (tc_gl L) x (xs (i + 1)) (if xs (i + 2) = 0 then 0 else 1) u) fun r1 u1 => tc_b (fn_X12_key (tc_gl L) m (xs (i + 1)) (if xs (i + 2) = 0 then 0 else 1) u1) fun r2 u2 => if r1 = r2 then some (L, u2) else none
def lw_c22 (L : tc_L) (x m : Nat) (xs : Nat → Int32) (i : Nat) (u : tc_S) : Option (tc_L × tc_S) := tc_wc L <| tc_kd L x 11 <| tc_kd L m 12 <| tc_b (fn_X11_count (tc_gl L) x (xs (i + 1)) u) fun r1 u1 => tc_b (fn_X12_count (tc_gl L) m (xs (i + 1)) u1) fun r2 u2 => if r1 = r2 then some (L, u2) else none
def lw_c23 (L : tc_L) (x m : Nat) (xs : Nat → Int32) (i : Nat) (u : tc_S) : Option (tc_L × tc_S) := tc_wc L <| tc_kd L x 11 <| tc_kd L m 12 <| tc_b (fn_X11_filled (tc_gl L) x (xs (i + 1)) u) fun r1 u1 => tc_b (fn_X12_filled (tc_gl L) m (xs (i + 1)) u1) fun r2 u2 => if r1 = r2 then some (L, u2) else none
def lw_c24 (L : tc_L) (x m : Nat) (xs : Nat → Int32) (i : Nat) (u : tc_S) : Option (tc_L × tc_S) := tc_wc L <| tc_kd L x 11 <| tc_kd L m 12 <| tc_b (fn_X11_restless (tc_gl L) x u) fun r1 u1 => tc_b (fn_X12_restless (tc_gl L) m u1) fun r2 u2 => if r1 = r2 then some (L, u2) else none
def lw_c25 (L : tc_L) (x m : Nat) (xs : Nat → Int32) (i : Nat) (u : tc_S) : Option (tc_L × tc_S) := tc_wc L <| tc_kd L x 11 <| tc_kd L m 12 <| tc_b (fn_X11_which (tc_gl L) x (xs (i + 1)) u) fun r1 u1 => tc_b (fn_X12_which (tc_gl L) m (xs (i + 1)) u1) fun r2 u2 => if r1 = r2 then some (L, u2) else none
def lw_c26 (L : tc_L) (x m : Nat) (xs : Nat → Int32) (i : Nat) (u : tc_S) : Option (tc_L × tc_S) := tc_wc L <| tc_kd L x 11 <| tc_kd L m 12 <| tc_b (fn_X11_tried (tc_gl L) x (xs (i + 1)) (xs (i + 2)) (xs (i + 3)) u) fun r1 u1 => tc_b (fn_X12_tried (tc_gl L) m (xs (i + 1)) (xs (i + 2)) (xs (i + 3)) u1) fun r2 u2 => if r1 = r2 then some (L, u2) else none
def lw_c27 (L : tc_L) (x m : Nat) (xs : Nat → Int32) (i : Nat) (u : tc_S) : Option (tc_L × tc_S) := tc_wc L <| tc_kd L x 11 <| tc_kd L m 12 <| tc_b (fn_X11_lost (tc_gl L) x (xs (i + 1)) u) fun r1 u1 => tc_b (fn_X12_lost (tc_gl L) m (xs (i + 1)) u1) fun r2 u2 => if r1 = r2 then some (L, u2) else none
def lw_c28 (L : tc_L) (x m : Nat) (xs : Nat → Int32) (i : Nat) (u : tc_S) : Option (tc_L × tc_S) := tc_kd L x 11 <| tc_bi (fn_X11_image L x (xs (i + 1)) u) fun r1 L1 u1 => tc_wc L1 <| tc_kd L1 m 12 <| tc_b (fn_X12_image (tc_gl L1) m (xs (i + 1)) u1) fun r2 u2 => if r1 = r2 then some (L1, u2) else none
def lw_c29 (L : tc_L) (x m : Nat) (xs : Nat → Int32) (i : Nat) (u : tc_S) : Option (tc_L × tc_S) := tc_wc L <| tc_kd L x 11 <| tc_kd L m 12 <| tc_b (fn_X11_again (tc_gl L) x (xs (i + 1)) u) fun r1 u1 => tc_b (fn_X12_again (tc_gl L) m (xs (i + 1)) u1) fun r2 u2 => if r1 = r2 then some (L, u2) else none
def lw_st (L : tc_L) (x m : Nat) (xs : Nat → Int32) (i : Nat) (u : tc_S) : Option (tc_L × tc_S) :=
  if (xs i &&& 31).toInt = 0 then lw_c0 L x m xs i u else
  if (xs i &&& 31).toInt = 1 then lw_c1 L x m xs i u else
  if (xs i &&& 31).toInt = 2 then lw_c2 L x m xs i u else
  if (xs i &&& 31).toInt = 3 then lw_c3 L x m xs i u else
  if (xs i &&& 31).toInt = 4 then lw_c4 L x m xs i u else
  if (xs i &&& 31).toInt = 5 then lw_c5 L x m xs i u else
  if (xs i &&& 31).toInt = 6 then lw_c6 L x m xs i u else
  if (xs i &&& 31).toInt = 7 then lw_c7 L x m xs i u else
  if (xs i &&& 31).toInt = 8 then lw_c8 L x m xs i u else
  if (xs i &&& 31).toInt = 9 then lw_c9 L x m xs i u else
  if (xs i &&& 31).toInt = 10 then lw_c10 L x m xs i u else
  if (xs i &&& 31).toInt = 11 then lw_c11 L x m xs i u else
  if (xs i &&& 31).toInt = 12 then lw_c12 L x m xs i u else
  if (xs i &&& 31).toInt = 13 then lw_c13 L x m xs i u else
  if (xs i &&& 31).toInt = 14 then lw_c14 L x m xs i u else
  if (xs i &&& 31).toInt = 15 then lw_c15 L x m xs i u else
  if (xs i &&& 31).toInt = 16 then lw_c16 L x m xs i u else
  if (xs i &&& 31).toInt = 17 then lw_c17 L x m xs i u else
  if (xs i &&& 31).toInt = 18 then lw_c18 L x m xs i u else
  if (xs i &&& 31).toInt = 19 then lw_c19 L x m xs i u else
  if (xs i &&& 31).toInt = 20 then lw_c20 L x m xs i u else
  if (xs i &&& 31).toInt = 21 then lw_c21 L x m xs i u else
  if (xs i &&& 31).toInt = 22 then lw_c22 L x m xs i u else
  if (xs i &&& 31).toInt = 23 then lw_c23 L x m xs i u else
  if (xs i &&& 31).toInt = 24 then lw_c24 L x m xs i u else
  if (xs i &&& 31).toInt = 25 then lw_c25 L x m xs i u else
  if (xs i &&& 31).toInt = 26 then lw_c26 L x m xs i u else
  if (xs i &&& 31).toInt = 27 then lw_c27 L x m xs i u else
  if (xs i &&& 31).toInt = 28 then lw_c28 L x m xs i u else
  if (xs i &&& 31).toInt = 29 then lw_c29 L x m xs i u else
  some (L, u)
def lw_go (x m : Nat) (xs : Nat → Int32) (len : Nat) : Nat → Nat → tc_L → tc_S → Prop
  | 0, _, _, _ => False
  | n + 1, i, L, u => if i + 6 ≤ len then ∃ L2 u2, lw_st L x m xs i u = some (L2, u2) ∧ lw_go x m xs len n (i + 6) L2 u2 else True
set_option maxRecDepth 100000 in
set_option maxHeartbeats 4000000 in
theorem sc_law_0 {p : Program} {l : Launch} {e : Env} {s : State} {m0 : MethodId} {args : Array Value} {below : List Frame} {meth : Method} {c : Code} {z : Nat} {D : tc_D} {b len x m i : Nat} {xs : Nat → Int32} (hX : va_X b len xs s s.heap) (hbz : b < z) (hlen : len ≤ 3072) (hi3 : i + 6 ≤ len) {L L2 : tc_L} {u u2 : tc_S} {cc sc : Nat} (hc : cc + 12 ≤ room_1.cells) (hs : sc + 881 ≤ room_1.slots) (h : lw_c0 L x m xs i u = some (L2, u2)) (kk : tc_R p l e room_1 s m0 args below meth c z D cL_law RL 4 (some .boolean) room_1.cells room_1.slots (fun r _ _ => r = some (.int 1)) (cc + 12) (sc + 881) (tc_gl L2) u2 1030 [(0, .ref b), (1, .ref (z + x)), (2, .ref (z + m)), (3, .int (nI i))] []) : tc_R p l e room_1 s m0 args below meth c z D cL_law RL 4 (some .boolean) room_1.cells room_1.slots (fun r _ _ => r = some (.int 1)) cc sc (tc_gl L) u 168 [(0, .ref b), (1, .ref (z + x)), (2, .ref (z + m)), (3, .int (nI i))] [] := by
  have hc1 : cc + 0 ≤ room_1.cells := by show cc + 0 ≤ room_1.cells; omega
  have hs1 : sc + 0 ≤ room_1.slots := by show sc + 0 ≤ room_1.slots; omega
  unfold lw_c0 at h
  obtain ⟨hW, h⟩ := tc_wc_ex h
  obtain ⟨ix, h⟩ := tc_kd_ex h
  obtain ⟨im, h⟩ := tc_kd_ex h
  obtain ⟨r1, u3, hq1, h⟩ := tc_b_ex h
  obtain ⟨r2, u4, hq2, h⟩ := tc_b_ex h
  split at h
  · rename_i he
    cases h
    refine tc_widen (k := cc) (n := sc) (Nat.le_refl _) (Nat.le_refl _) ?_
    refine tc_aload_n 1 rfl dL_law_168 ?_
    refine lw_arg (k := 1) hX hbz hlen hi3 (by omega) dL_law_169 dL_law_170 dL_law_171 dL_law_172 dL_law_173 ?_
    refine lw_arg (k := 2) hX hbz hlen hi3 (by omega) dL_law_174 dL_law_175 dL_law_176 dL_law_177 dL_law_178 ?_
    refine lw_arg (k := 3) hX hbz hlen hi3 (by omega) dL_law_179 dL_law_180 dL_law_181 dL_law_182 dL_law_183 ?_
    refine lw_arg (k := 4) hX hbz hlen hi3 (by omega) dL_law_184 dL_law_185 dL_law_186 dL_law_187 dL_law_188 ?_
    refine lw_arg (k := 5) hX hbz hlen hi3 (by omega) dL_law_189 dL_law_190 dL_law_191 dL_law_192 dL_law_193 ?_
    refine tc_callVi [.int (xs (i + 1)), .int (xs (i + 2)), .int (xs (i + 3)), .int (xs (i + 4)), .int (xs (i + 5))] dL_law_194 ix.1 (ct_X11_feed hW ix hq1) ml_L_13 mw_X11_feed mv_X11_feed ⟨(Nat.le_of_ble_eq_true rfl), (Nat.le_of_ble_eq_true rfl)⟩ rfl rfl (Nat.le_of_ble_eq_true rfl) ⟨hc1, hs1⟩ (by decide) ?_
    refine tc_aload_n 2 rfl dL_law_197 ?_
    refine lw_arg (k := 1) hX hbz hlen hi3 (by omega) dL_law_198 dL_law_199 dL_law_200 dL_law_201 dL_law_202 ?_
    refine lw_arg (k := 2) hX hbz hlen hi3 (by omega) dL_law_203 dL_law_204 dL_law_205 dL_law_206 dL_law_207 ?_
    refine lw_arg (k := 3) hX hbz hlen hi3 (by omega) dL_law_208 dL_law_209 dL_law_210 dL_law_211 dL_law_212 ?_
    refine lw_arg (k := 4) hX hbz hlen hi3 (by omega) dL_law_213 dL_law_214 dL_law_215 dL_law_216 dL_law_217 ?_
    refine lw_arg (k := 5) hX hbz hlen hi3 (by omega) dL_law_218 dL_law_219 dL_law_220 dL_law_221 dL_law_222 ?_
    refine tc_callVi [.int (xs (i + 1)), .int (xs (i + 2)), .int (xs (i + 3)), .int (xs (i + 4)), .int (xs (i + 5))] dL_law_223 im.1 (ct_X12_feed hW im hq2) ml_L_17 mw_X12_feed mv_X12_feed ⟨(Nat.le_of_ble_eq_true rfl), (Nat.le_of_ble_eq_true rfl)⟩ rfl rfl (Nat.le_of_ble_eq_true rfl) ⟨hc1, hs1⟩ (by decide) ?_
    refine tc_icmp_eq 1030 dL_law_226 (by decide) (fun _ => ?_) (fun hne => absurd he hne)
    refine tc_widen (k := cc + 12) (n := sc + 881) (by omega) (by omega) ?_
    exact kk
  · cases h
set_option maxRecDepth 100000 in
set_option maxHeartbeats 4000000 in
theorem sc_law_1 {p : Program} {l : Launch} {e : Env} {s : State} {m0 : MethodId} {args : Array Value} {below : List Frame} {meth : Method} {c : Code} {z : Nat} {D : tc_D} {b len x m i : Nat} {xs : Nat → Int32} (hX : va_X b len xs s s.heap) (hbz : b < z) (hlen : len ≤ 3072) (hi3 : i + 6 ≤ len) {L L2 : tc_L} {u u2 : tc_S} {cc sc : Nat} (hc : cc + 12 ≤ room_1.cells) (hs : sc + 881 ≤ room_1.slots) (h : lw_c1 L x m xs i u = some (L2, u2)) (kk : tc_R p l e room_1 s m0 args below meth c z D cL_law RL 4 (some .boolean) room_1.cells room_1.slots (fun r _ _ => r = some (.int 1)) (cc + 12) (sc + 881) (tc_gl L2) u2 1030 [(0, .ref b), (1, .ref (z + x)), (2, .ref (z + m)), (3, .int (nI i))] []) : tc_R p l e room_1 s m0 args below meth c z D cL_law RL 4 (some .boolean) room_1.cells room_1.slots (fun r _ _ => r = some (.int 1)) cc sc (tc_gl L) u 231 [(0, .ref b), (1, .ref (z + x)), (2, .ref (z + m)), (3, .int (nI i))] [] := by
  have hc1 : cc + 0 ≤ room_1.cells := by show cc + 0 ≤ room_1.cells; omega
  have hs1 : sc + 0 ≤ room_1.slots := by show sc + 0 ≤ room_1.slots; omega
  unfold lw_c1 at h
  obtain ⟨hW, h⟩ := tc_wc_ex h
  obtain ⟨ix, h⟩ := tc_kd_ex h
  obtain ⟨im, h⟩ := tc_kd_ex h
  obtain ⟨r1, u3, hq1, h⟩ := tc_b_ex h
  obtain ⟨r2, u4, hq2, h⟩ := tc_b_ex h
  split at h
  · rename_i he
    cases h
    refine tc_widen (k := cc) (n := sc) (Nat.le_refl _) (Nat.le_refl _) ?_
    refine tc_aload_n 1 rfl dL_law_231 ?_
    refine lw_arg (k := 1) hX hbz hlen hi3 (by omega) dL_law_232 dL_law_233 dL_law_234 dL_law_235 dL_law_236 ?_
    refine tc_callVi [.int (xs (i + 1))] dL_law_237 ix.1 (ct_X11_end hW ix hq1) ml_L_18 mw_X11_end mv_X11_end ⟨(Nat.le_of_ble_eq_true rfl), (Nat.le_of_ble_eq_true rfl)⟩ rfl rfl (Nat.le_of_ble_eq_true rfl) ⟨hc1, hs1⟩ (by decide) ?_
    refine tc_aload_n 2 rfl dL_law_240 ?_
    refine lw_arg (k := 1) hX hbz hlen hi3 (by omega) dL_law_241 dL_law_242 dL_law_243 dL_law_244 dL_law_245 ?_
    refine tc_callVi [.int (xs (i + 1))] dL_law_246 im.1 (ct_X12_end hW im hq2) ml_L_22 mw_X12_end mv_X12_end ⟨(Nat.le_of_ble_eq_true rfl), (Nat.le_of_ble_eq_true rfl)⟩ rfl rfl (Nat.le_of_ble_eq_true rfl) ⟨hc1, hs1⟩ (by decide) ?_
    refine tc_icmp_eq 1030 dL_law_249 (by decide) (fun _ => ?_) (fun hne => absurd he hne)
    refine tc_widen (k := cc + 12) (n := sc + 881) (by omega) (by omega) ?_
    exact kk
  · cases h
set_option maxRecDepth 100000 in
set_option maxHeartbeats 4000000 in
theorem sc_law_2 {p : Program} {l : Launch} {e : Env} {s : State} {m0 : MethodId} {args : Array Value} {below : List Frame} {meth : Method} {c : Code} {z : Nat} {D : tc_D} {b len x m i : Nat} {xs : Nat → Int32} (hX : va_X b len xs s s.heap) (hbz : b < z) (hlen : len ≤ 3072) (hi3 : i + 6 ≤ len) {L L2 : tc_L} {u u2 : tc_S} {cc sc : Nat} (hc : cc + 12 ≤ room_1.cells) (hs : sc + 881 ≤ room_1.slots) (h : lw_c2 L x m xs i u = some (L2, u2)) (kk : tc_R p l e room_1 s m0 args below meth c z D cL_law RL 4 (some .boolean) room_1.cells room_1.slots (fun r _ _ => r = some (.int 1)) (cc + 12) (sc + 881) (tc_gl L2) u2 1030 [(0, .ref b), (1, .ref (z + x)), (2, .ref (z + m)), (3, .int (nI i))] []) : tc_R p l e room_1 s m0 args below meth c z D cL_law RL 4 (some .boolean) room_1.cells room_1.slots (fun r _ _ => r = some (.int 1)) cc sc (tc_gl L) u 254 [(0, .ref b), (1, .ref (z + x)), (2, .ref (z + m)), (3, .int (nI i))] [] := by
  have hc1 : cc + 0 ≤ room_1.cells := by show cc + 0 ≤ room_1.cells; omega
  have hs1 : sc + 0 ≤ room_1.slots := by show sc + 0 ≤ room_1.slots; omega
  unfold lw_c2 at h
  obtain ⟨hW, h⟩ := tc_wc_ex h
  obtain ⟨ix, h⟩ := tc_kd_ex h
  obtain ⟨im, h⟩ := tc_kd_ex h
  obtain ⟨r1, u3, hq1, h⟩ := tc_b_ex h
  obtain ⟨r2, u4, hq2, h⟩ := tc_b_ex h
  split at h
  · rename_i he
    cases h
    refine tc_widen (k := cc) (n := sc) (Nat.le_refl _) (Nat.le_refl _) ?_
    refine tc_aload_n 1 rfl dL_law_254 ?_
    refine tc_callVi [] dL_law_255 ix.1 (ct_X11_text hW ix hq1) ml_L_23 mw_X11_text mv_X11_text ⟨(Nat.le_of_ble_eq_true rfl), (Nat.le_of_ble_eq_true rfl)⟩ rfl rfl (Nat.le_of_ble_eq_true rfl) ⟨hc1, hs1⟩ (by decide) ?_
    refine tc_aload_n 2 rfl dL_law_258 ?_
    refine tc_callVi [] dL_law_259 im.1 (ct_X12_text hW im hq2) ml_L_27 mw_X12_text mv_X12_text ⟨(Nat.le_of_ble_eq_true rfl), (Nat.le_of_ble_eq_true rfl)⟩ rfl rfl (Nat.le_of_ble_eq_true rfl) ⟨hc1, hs1⟩ (by decide) ?_
    refine tc_icmp_eq 1030 dL_law_262 (by decide) (fun _ => ?_) (fun hne => absurd he hne)
    refine tc_widen (k := cc + 12) (n := sc + 881) (by omega) (by omega) ?_
    exact kk
  · cases h
set_option maxRecDepth 100000 in
set_option maxHeartbeats 4000000 in
theorem sc_law_3 {p : Program} {l : Launch} {e : Env} {s : State} {m0 : MethodId} {args : Array Value} {below : List Frame} {meth : Method} {c : Code} {z : Nat} {D : tc_D} {b len x m i : Nat} {xs : Nat → Int32} (hX : va_X b len xs s s.heap) (hbz : b < z) (hlen : len ≤ 3072) (hi3 : i + 6 ≤ len) {L L2 : tc_L} {u u2 : tc_S} {cc sc : Nat} (hc : cc + 12 ≤ room_1.cells) (hs : sc + 881 ≤ room_1.slots) (h : lw_c3 L x m xs i u = some (L2, u2)) (kk : tc_R p l e room_1 s m0 args below meth c z D cL_law RL 4 (some .boolean) room_1.cells room_1.slots (fun r _ _ => r = some (.int 1)) (cc + 12) (sc + 881) (tc_gl L2) u2 1030 [(0, .ref b), (1, .ref (z + x)), (2, .ref (z + m)), (3, .int (nI i))] []) : tc_R p l e room_1 s m0 args below meth c z D cL_law RL 4 (some .boolean) room_1.cells room_1.slots (fun r _ _ => r = some (.int 1)) cc sc (tc_gl L) u 267 [(0, .ref b), (1, .ref (z + x)), (2, .ref (z + m)), (3, .int (nI i))] [] := by
  have hc1 : cc + 0 ≤ room_1.cells := by show cc + 0 ≤ room_1.cells; omega
  have hs1 : sc + 0 ≤ room_1.slots := by show sc + 0 ≤ room_1.slots; omega
  unfold lw_c3 at h
  obtain ⟨hW, h⟩ := tc_wc_ex h
  obtain ⟨ix, h⟩ := tc_kd_ex h
  obtain ⟨im, h⟩ := tc_kd_ex h
  obtain ⟨r1, u3, hq1, h⟩ := tc_b_ex h
  obtain ⟨r2, u4, hq2, h⟩ := tc_b_ex h
  split at h
  · rename_i he
    cases h
    refine tc_widen (k := cc) (n := sc) (Nat.le_refl _) (Nat.le_refl _) ?_
    refine tc_aload_n 1 rfl dL_law_267 ?_
    refine lw_arg (k := 1) hX hbz hlen hi3 (by omega) dL_law_268 dL_law_269 dL_law_270 dL_law_271 dL_law_272 ?_
    refine tc_callVi [.int (xs (i + 1))] dL_law_273 ix.1 (ct_X11_fault hW ix hq1) ml_L_28 mw_X11_fault mv_X11_fault ⟨(Nat.le_of_ble_eq_true rfl), (Nat.le_of_ble_eq_true rfl)⟩ rfl rfl (Nat.le_of_ble_eq_true rfl) ⟨hc1, hs1⟩ (by decide) ?_
    refine tc_aload_n 2 rfl dL_law_276 ?_
    refine lw_arg (k := 1) hX hbz hlen hi3 (by omega) dL_law_277 dL_law_278 dL_law_279 dL_law_280 dL_law_281 ?_
    refine tc_callVi [.int (xs (i + 1))] dL_law_282 im.1 (ct_X12_fault hW im hq2) ml_L_31 mw_X12_fault mv_X12_fault ⟨(Nat.le_of_ble_eq_true rfl), (Nat.le_of_ble_eq_true rfl)⟩ rfl rfl (Nat.le_of_ble_eq_true rfl) ⟨hc1, hs1⟩ (by decide) ?_
    refine tc_icmp_eq 1030 dL_law_285 (by decide) (fun _ => ?_) (fun hne => absurd he hne)
    refine tc_widen (k := cc + 12) (n := sc + 881) (by omega) (by omega) ?_
    exact kk
  · cases h
set_option maxRecDepth 100000 in
set_option maxHeartbeats 4000000 in
theorem sc_law_4 {p : Program} {l : Launch} {e : Env} {s : State} {m0 : MethodId} {args : Array Value} {below : List Frame} {meth : Method} {c : Code} {z : Nat} {D : tc_D} {b len x m i : Nat} {xs : Nat → Int32} (hX : va_X b len xs s s.heap) (hbz : b < z) (hlen : len ≤ 3072) (hi3 : i + 6 ≤ len) {L L2 : tc_L} {u u2 : tc_S} {cc sc : Nat} (hc : cc + 12 ≤ room_1.cells) (hs : sc + 881 ≤ room_1.slots) (h : lw_c4 L x m xs i u = some (L2, u2)) (kk : tc_R p l e room_1 s m0 args below meth c z D cL_law RL 4 (some .boolean) room_1.cells room_1.slots (fun r _ _ => r = some (.int 1)) (cc + 12) (sc + 881) (tc_gl L2) u2 1030 [(0, .ref b), (1, .ref (z + x)), (2, .ref (z + m)), (3, .int (nI i))] []) : tc_R p l e room_1 s m0 args below meth c z D cL_law RL 4 (some .boolean) room_1.cells room_1.slots (fun r _ _ => r = some (.int 1)) cc sc (tc_gl L) u 290 [(0, .ref b), (1, .ref (z + x)), (2, .ref (z + m)), (3, .int (nI i))] [] := by
  have hc1 : cc + 0 ≤ room_1.cells := by show cc + 0 ≤ room_1.cells; omega
  have hs1 : sc + 0 ≤ room_1.slots := by show sc + 0 ≤ room_1.slots; omega
  unfold lw_c4 at h
  obtain ⟨hW, h⟩ := tc_wc_ex h
  obtain ⟨ix, h⟩ := tc_kd_ex h
  obtain ⟨im, h⟩ := tc_kd_ex h
  obtain ⟨r1, u3, hq1, h⟩ := tc_b_ex h
  obtain ⟨r2, u4, hq2, h⟩ := tc_b_ex h
  split at h
  · rename_i he
    cases h
    refine tc_widen (k := cc) (n := sc) (Nat.le_refl _) (Nat.le_refl _) ?_
    refine tc_aload_n 1 rfl dL_law_290 ?_
    refine lw_arg (k := 1) hX hbz hlen hi3 (by omega) dL_law_291 dL_law_292 dL_law_293 dL_law_294 dL_law_295 ?_
    refine lw_arg (k := 2) hX hbz hlen hi3 (by omega) dL_law_296 dL_law_297 dL_law_298 dL_law_299 dL_law_300 ?_
    refine tc_callVi [.int (xs (i + 1)), .int (xs (i + 2))] dL_law_301 ix.1 (ct_X11_put hW ix hq1) ml_L_32 mw_X11_put mv_X11_put ⟨(Nat.le_of_ble_eq_true rfl), (Nat.le_of_ble_eq_true rfl)⟩ rfl rfl (Nat.le_of_ble_eq_true rfl) ⟨hc1, hs1⟩ (by decide) ?_
    refine tc_aload_n 2 rfl dL_law_304 ?_
    refine lw_arg (k := 1) hX hbz hlen hi3 (by omega) dL_law_305 dL_law_306 dL_law_307 dL_law_308 dL_law_309 ?_
    refine lw_arg (k := 2) hX hbz hlen hi3 (by omega) dL_law_310 dL_law_311 dL_law_312 dL_law_313 dL_law_314 ?_
    refine tc_callVi [.int (xs (i + 1)), .int (xs (i + 2))] dL_law_315 im.1 (ct_X12_put hW im hq2) ml_L_36 mw_X12_put mv_X12_put ⟨(Nat.le_of_ble_eq_true rfl), (Nat.le_of_ble_eq_true rfl)⟩ rfl rfl (Nat.le_of_ble_eq_true rfl) ⟨hc1, hs1⟩ (by decide) ?_
    refine tc_icmp_eq 1030 dL_law_318 (by decide) (fun _ => ?_) (fun hne => absurd he hne)
    refine tc_widen (k := cc + 12) (n := sc + 881) (by omega) (by omega) ?_
    exact kk
  · cases h
set_option maxRecDepth 100000 in
set_option maxHeartbeats 4000000 in
theorem sc_law_5 {p : Program} {l : Launch} {e : Env} {s : State} {m0 : MethodId} {args : Array Value} {below : List Frame} {meth : Method} {c : Code} {z : Nat} {D : tc_D} {b len x m i : Nat} {xs : Nat → Int32} (hX : va_X b len xs s s.heap) (hbz : b < z) (hlen : len ≤ 3072) (hi3 : i + 6 ≤ len) {L L2 : tc_L} {u u2 : tc_S} {cc sc : Nat} (hc : cc + 12 ≤ room_1.cells) (hs : sc + 881 ≤ room_1.slots) (h : lw_c5 L x m xs i u = some (L2, u2)) (kk : tc_R p l e room_1 s m0 args below meth c z D cL_law RL 4 (some .boolean) room_1.cells room_1.slots (fun r _ _ => r = some (.int 1)) (cc + 12) (sc + 881) (tc_gl L2) u2 1030 [(0, .ref b), (1, .ref (z + x)), (2, .ref (z + m)), (3, .int (nI i))] []) : tc_R p l e room_1 s m0 args below meth c z D cL_law RL 4 (some .boolean) room_1.cells room_1.slots (fun r _ _ => r = some (.int 1)) cc sc (tc_gl L) u 323 [(0, .ref b), (1, .ref (z + x)), (2, .ref (z + m)), (3, .int (nI i))] [] := by
  have hc1 : cc + 0 ≤ room_1.cells := by show cc + 0 ≤ room_1.cells; omega
  have hs1 : sc + 0 ≤ room_1.slots := by show sc + 0 ≤ room_1.slots; omega
  unfold lw_c5 at h
  obtain ⟨hW, h⟩ := tc_wc_ex h
  obtain ⟨ix, h⟩ := tc_kd_ex h
  obtain ⟨im, h⟩ := tc_kd_ex h
  obtain ⟨r1, u3, hq1, h⟩ := tc_b_ex h
  obtain ⟨r2, u4, hq2, h⟩ := tc_b_ex h
  split at h
  · rename_i he
    cases h
    refine tc_widen (k := cc) (n := sc) (Nat.le_refl _) (Nat.le_refl _) ?_
    refine tc_aload_n 1 rfl dL_law_323 ?_
    refine lw_arg (k := 1) hX hbz hlen hi3 (by omega) dL_law_324 dL_law_325 dL_law_326 dL_law_327 dL_law_328 ?_
    refine tc_callVi [.int (xs (i + 1))] dL_law_329 ix.1 (ct_X11_get hW ix hq1) ml_L_37 mw_X11_get mv_X11_get ⟨(Nat.le_of_ble_eq_true rfl), (Nat.le_of_ble_eq_true rfl)⟩ rfl rfl (Nat.le_of_ble_eq_true rfl) ⟨hc1, hs1⟩ (by decide) ?_
    refine tc_aload_n 2 rfl dL_law_332 ?_
    refine lw_arg (k := 1) hX hbz hlen hi3 (by omega) dL_law_333 dL_law_334 dL_law_335 dL_law_336 dL_law_337 ?_
    refine tc_callVi [.int (xs (i + 1))] dL_law_338 im.1 (ct_X12_get hW im hq2) ml_L_40 mw_X12_get mv_X12_get ⟨(Nat.le_of_ble_eq_true rfl), (Nat.le_of_ble_eq_true rfl)⟩ rfl rfl (Nat.le_of_ble_eq_true rfl) ⟨hc1, hs1⟩ (by decide) ?_
    refine tc_icmp_eq 1030 dL_law_341 (by decide) (fun _ => ?_) (fun hne => absurd he hne)
    refine tc_widen (k := cc + 12) (n := sc + 881) (by omega) (by omega) ?_
    exact kk
  · cases h
set_option maxRecDepth 100000 in
set_option maxHeartbeats 4000000 in
theorem sc_law_6 {p : Program} {l : Launch} {e : Env} {s : State} {m0 : MethodId} {args : Array Value} {below : List Frame} {meth : Method} {c : Code} {z : Nat} {D : tc_D} {b len x m i : Nat} {xs : Nat → Int32} (hX : va_X b len xs s s.heap) (hbz : b < z) (hlen : len ≤ 3072) (hi3 : i + 6 ≤ len) {L L2 : tc_L} {u u2 : tc_S} {cc sc : Nat} (hc : cc + 12 ≤ room_1.cells) (hs : sc + 881 ≤ room_1.slots) (h : lw_c6 L x m xs i u = some (L2, u2)) (kk : tc_R p l e room_1 s m0 args below meth c z D cL_law RL 4 (some .boolean) room_1.cells room_1.slots (fun r _ _ => r = some (.int 1)) (cc + 12) (sc + 881) (tc_gl L2) u2 1030 [(0, .ref b), (1, .ref (z + x)), (2, .ref (z + m)), (3, .int (nI i))] []) : tc_R p l e room_1 s m0 args below meth c z D cL_law RL 4 (some .boolean) room_1.cells room_1.slots (fun r _ _ => r = some (.int 1)) cc sc (tc_gl L) u 346 [(0, .ref b), (1, .ref (z + x)), (2, .ref (z + m)), (3, .int (nI i))] [] := by
  have hc1 : cc + 0 ≤ room_1.cells := by show cc + 0 ≤ room_1.cells; omega
  have hs1 : sc + 0 ≤ room_1.slots := by show sc + 0 ≤ room_1.slots; omega
  unfold lw_c6 at h
  obtain ⟨hW, h⟩ := tc_wc_ex h
  obtain ⟨ix, h⟩ := tc_kd_ex h
  obtain ⟨im, h⟩ := tc_kd_ex h
  obtain ⟨r1, u3, hq1, h⟩ := tc_b_ex h
  obtain ⟨r2, u4, hq2, h⟩ := tc_b_ex h
  split at h
  · rename_i he
    cases h
    refine tc_widen (k := cc) (n := sc) (Nat.le_refl _) (Nat.le_refl _) ?_
    refine tc_aload_n 1 rfl dL_law_346 ?_
    refine lw_arg (k := 1) hX hbz hlen hi3 (by omega) dL_law_347 dL_law_348 dL_law_349 dL_law_350 dL_law_351 ?_
    refine tc_callVi [.int (xs (i + 1))] dL_law_352 ix.1 (ct_X11_drop hW ix hq1) ml_L_41 mw_X11_drop mv_X11_drop ⟨(Nat.le_of_ble_eq_true rfl), (Nat.le_of_ble_eq_true rfl)⟩ rfl rfl (Nat.le_of_ble_eq_true rfl) ⟨hc1, hs1⟩ (by decide) ?_
    refine tc_aload_n 2 rfl dL_law_355 ?_
    refine lw_arg (k := 1) hX hbz hlen hi3 (by omega) dL_law_356 dL_law_357 dL_law_358 dL_law_359 dL_law_360 ?_
    refine tc_callVi [.int (xs (i + 1))] dL_law_361 im.1 (ct_X12_drop hW im hq2) ml_L_44 mw_X12_drop mv_X12_drop ⟨(Nat.le_of_ble_eq_true rfl), (Nat.le_of_ble_eq_true rfl)⟩ rfl rfl (Nat.le_of_ble_eq_true rfl) ⟨hc1, hs1⟩ (by decide) ?_
    refine tc_icmp_eq 1030 dL_law_364 (by decide) (fun _ => ?_) (fun hne => absurd he hne)
    refine tc_widen (k := cc + 12) (n := sc + 881) (by omega) (by omega) ?_
    exact kk
  · cases h
set_option maxRecDepth 100000 in
set_option maxHeartbeats 4000000 in
theorem sc_law_7 {p : Program} {l : Launch} {e : Env} {s : State} {m0 : MethodId} {args : Array Value} {below : List Frame} {meth : Method} {c : Code} {z : Nat} {D : tc_D} {b len x m i : Nat} {xs : Nat → Int32} (hX : va_X b len xs s s.heap) (hbz : b < z) (hlen : len ≤ 3072) (hi3 : i + 6 ≤ len) {L L2 : tc_L} {u u2 : tc_S} {cc sc : Nat} (hc : cc + 12 ≤ room_1.cells) (hs : sc + 881 ≤ room_1.slots) (h : lw_c7 L x m xs i u = some (L2, u2)) (kk : tc_R p l e room_1 s m0 args below meth c z D cL_law RL 4 (some .boolean) room_1.cells room_1.slots (fun r _ _ => r = some (.int 1)) (cc + 12) (sc + 881) (tc_gl L2) u2 1030 [(0, .ref b), (1, .ref (z + x)), (2, .ref (z + m)), (3, .int (nI i))] []) : tc_R p l e room_1 s m0 args below meth c z D cL_law RL 4 (some .boolean) room_1.cells room_1.slots (fun r _ _ => r = some (.int 1)) cc sc (tc_gl L) u 369 [(0, .ref b), (1, .ref (z + x)), (2, .ref (z + m)), (3, .int (nI i))] [] := by
  have hc1 : cc + 0 ≤ room_1.cells := by show cc + 0 ≤ room_1.cells; omega
  have hs1 : sc + 0 ≤ room_1.slots := by show sc + 0 ≤ room_1.slots; omega
  unfold lw_c7 at h
  obtain ⟨hW, h⟩ := tc_wc_ex h
  obtain ⟨ix, h⟩ := tc_kd_ex h
  obtain ⟨im, h⟩ := tc_kd_ex h
  obtain ⟨r1, u3, hq1, h⟩ := tc_b_ex h
  obtain ⟨r2, u4, hq2, h⟩ := tc_b_ex h
  split at h
  · rename_i he
    cases h
    refine tc_widen (k := cc) (n := sc) (Nat.le_refl _) (Nat.le_refl _) ?_
    refine tc_aload_n 1 rfl dL_law_369 ?_
    refine tc_callVi [] dL_law_370 ix.1 (ct_X11_settle hW ix hq1) ml_L_45 mw_X11_settle mv_X11_settle ⟨(Nat.le_of_ble_eq_true rfl), (Nat.le_of_ble_eq_true rfl)⟩ rfl rfl (Nat.le_of_ble_eq_true rfl) ⟨hc1, hs1⟩ (by decide) ?_
    refine tc_aload_n 2 rfl dL_law_373 ?_
    refine tc_callVi [] dL_law_374 im.1 (ct_X12_settle hW im hq2) ml_L_48 mw_X12_settle mv_X12_settle ⟨(Nat.le_of_ble_eq_true rfl), (Nat.le_of_ble_eq_true rfl)⟩ rfl rfl (Nat.le_of_ble_eq_true rfl) ⟨hc1, hs1⟩ (by decide) ?_
    refine tc_icmp_eq 1030 dL_law_377 (by decide) (fun _ => ?_) (fun hne => absurd he hne)
    refine tc_widen (k := cc + 12) (n := sc + 881) (by omega) (by omega) ?_
    exact kk
  · cases h
set_option maxRecDepth 100000 in
set_option maxHeartbeats 4000000 in
theorem sc_law_8 {p : Program} {l : Launch} {e : Env} {s : State} {m0 : MethodId} {args : Array Value} {below : List Frame} {meth : Method} {c : Code} {z : Nat} {D : tc_D} {b len x m i : Nat} {xs : Nat → Int32} (hX : va_X b len xs s s.heap) (hbz : b < z) (hlen : len ≤ 3072) (hi3 : i + 6 ≤ len) {L L2 : tc_L} {u u2 : tc_S} {cc sc : Nat} (hc : cc + 12 ≤ room_1.cells) (hs : sc + 881 ≤ room_1.slots) (h : lw_c8 L x m xs i u = some (L2, u2)) (kk : tc_R p l e room_1 s m0 args below meth c z D cL_law RL 4 (some .boolean) room_1.cells room_1.slots (fun r _ _ => r = some (.int 1)) (cc + 12) (sc + 881) (tc_gl L2) u2 1030 [(0, .ref b), (1, .ref (z + x)), (2, .ref (z + m)), (3, .int (nI i))] []) : tc_R p l e room_1 s m0 args below meth c z D cL_law RL 4 (some .boolean) room_1.cells room_1.slots (fun r _ _ => r = some (.int 1)) cc sc (tc_gl L) u 382 [(0, .ref b), (1, .ref (z + x)), (2, .ref (z + m)), (3, .int (nI i))] [] := by
  have hc1 : cc + 0 ≤ room_1.cells := by show cc + 0 ≤ room_1.cells; omega
  have hs1 : sc + 0 ≤ room_1.slots := by show sc + 0 ≤ room_1.slots; omega
  unfold lw_c8 at h
  obtain ⟨hW, h⟩ := tc_wc_ex h
  obtain ⟨ix, h⟩ := tc_kd_ex h
  obtain ⟨im, h⟩ := tc_kd_ex h
  obtain ⟨r1, u3, hq1, h⟩ := tc_b_ex h
  obtain ⟨r2, u4, hq2, h⟩ := tc_b_ex h
  split at h
  · rename_i he
    cases h
    refine tc_widen (k := cc) (n := sc) (Nat.le_refl _) (Nat.le_refl _) ?_
    refine tc_aload_n 1 rfl dL_law_382 ?_
    refine lw_arg (k := 1) hX hbz hlen hi3 (by omega) dL_law_383 dL_law_384 dL_law_385 dL_law_386 dL_law_387 ?_
    refine lw_arg (k := 2) hX hbz hlen hi3 (by omega) dL_law_388 dL_law_389 dL_law_390 dL_law_391 dL_law_392 ?_
    refine lw_arg (k := 3) hX hbz hlen hi3 (by omega) dL_law_393 dL_law_394 dL_law_395 dL_law_396 dL_law_397 ?_
    refine lw_arg (k := 4) hX hbz hlen hi3 (by omega) dL_law_398 dL_law_399 dL_law_400 dL_law_401 dL_law_402 ?_
    refine tc_callVi [.int (xs (i + 1)), .int (xs (i + 2)), .int (xs (i + 3)), .int (xs (i + 4))] dL_law_403 ix.1 (ct_X11_rehash hW ix hq1) ml_L_49 mw_X11_rehash mv_X11_rehash ⟨(Nat.le_of_ble_eq_true rfl), (Nat.le_of_ble_eq_true rfl)⟩ rfl rfl (Nat.le_of_ble_eq_true rfl) ⟨hc1, hs1⟩ (by decide) ?_
    refine tc_aload_n 2 rfl dL_law_406 ?_
    refine lw_arg (k := 1) hX hbz hlen hi3 (by omega) dL_law_407 dL_law_408 dL_law_409 dL_law_410 dL_law_411 ?_
    refine lw_arg (k := 2) hX hbz hlen hi3 (by omega) dL_law_412 dL_law_413 dL_law_414 dL_law_415 dL_law_416 ?_
    refine lw_arg (k := 3) hX hbz hlen hi3 (by omega) dL_law_417 dL_law_418 dL_law_419 dL_law_420 dL_law_421 ?_
    refine lw_arg (k := 4) hX hbz hlen hi3 (by omega) dL_law_422 dL_law_423 dL_law_424 dL_law_425 dL_law_426 ?_
    refine tc_callVi [.int (xs (i + 1)), .int (xs (i + 2)), .int (xs (i + 3)), .int (xs (i + 4))] dL_law_427 im.1 (ct_X12_rehash hW im hq2) ml_L_53 mw_X12_rehash mv_X12_rehash ⟨(Nat.le_of_ble_eq_true rfl), (Nat.le_of_ble_eq_true rfl)⟩ rfl rfl (Nat.le_of_ble_eq_true rfl) ⟨hc1, hs1⟩ (by decide) ?_
    refine tc_icmp_eq 1030 dL_law_430 (by decide) (fun _ => ?_) (fun hne => absurd he hne)
    refine tc_widen (k := cc + 12) (n := sc + 881) (by omega) (by omega) ?_
    exact kk
  · cases h
set_option maxRecDepth 100000 in
set_option maxHeartbeats 4000000 in
theorem sc_law_9 {p : Program} {l : Launch} {e : Env} {s : State} {m0 : MethodId} {args : Array Value} {below : List Frame} {meth : Method} {c : Code} {z : Nat} {D : tc_D} {b len x m i : Nat} {xs : Nat → Int32} (hX : va_X b len xs s s.heap) (hbz : b < z) (hlen : len ≤ 3072) (hi3 : i + 6 ≤ len) {L L2 : tc_L} {u u2 : tc_S} {cc sc : Nat} (hc : cc + 12 ≤ room_1.cells) (hs : sc + 881 ≤ room_1.slots) (h : lw_c9 L x m xs i u = some (L2, u2)) (kk : tc_R p l e room_1 s m0 args below meth c z D cL_law RL 4 (some .boolean) room_1.cells room_1.slots (fun r _ _ => r = some (.int 1)) (cc + 12) (sc + 881) (tc_gl L2) u2 1030 [(0, .ref b), (1, .ref (z + x)), (2, .ref (z + m)), (3, .int (nI i))] []) : tc_R p l e room_1 s m0 args below meth c z D cL_law RL 4 (some .boolean) room_1.cells room_1.slots (fun r _ _ => r = some (.int 1)) cc sc (tc_gl L) u 435 [(0, .ref b), (1, .ref (z + x)), (2, .ref (z + m)), (3, .int (nI i))] [] := by
  have hc1 : cc + 0 ≤ room_1.cells := by show cc + 0 ≤ room_1.cells; omega
  have hs1 : sc + 0 ≤ room_1.slots := by show sc + 0 ≤ room_1.slots; omega
  unfold lw_c9 at h
  obtain ⟨hW, h⟩ := tc_wc_ex h
  obtain ⟨ix, h⟩ := tc_kd_ex h
  obtain ⟨im, h⟩ := tc_kd_ex h
  obtain ⟨r1, u3, hq1, h⟩ := tc_b_ex h
  obtain ⟨r2, u4, hq2, h⟩ := tc_b_ex h
  split at h
  · rename_i he
    cases h
    refine tc_widen (k := cc) (n := sc) (Nat.le_refl _) (Nat.le_refl _) ?_
    refine tc_aload_n 1 rfl dL_law_435 ?_
    refine tc_callVi [] dL_law_436 ix.1 (ct_X11_batch hW ix hq1) ml_L_54 mw_X11_batch mv_X11_batch ⟨(Nat.le_of_ble_eq_true rfl), (Nat.le_of_ble_eq_true rfl)⟩ rfl rfl (Nat.le_of_ble_eq_true rfl) ⟨hc1, hs1⟩ (by decide) ?_
    refine tc_aload_n 2 rfl dL_law_439 ?_
    refine tc_callVi [] dL_law_440 im.1 (ct_X12_batch hW im hq2) ml_L_58 mw_X12_batch mv_X12_batch ⟨(Nat.le_of_ble_eq_true rfl), (Nat.le_of_ble_eq_true rfl)⟩ rfl rfl (Nat.le_of_ble_eq_true rfl) ⟨hc1, hs1⟩ (by decide) ?_
    refine tc_icmp_eq 1030 dL_law_443 (by decide) (fun _ => ?_) (fun hne => absurd he hne)
    refine tc_widen (k := cc + 12) (n := sc + 881) (by omega) (by omega) ?_
    exact kk
  · cases h
set_option maxRecDepth 100000 in
set_option maxHeartbeats 4000000 in
theorem sc_law_10 {p : Program} {l : Launch} {e : Env} {s : State} {m0 : MethodId} {args : Array Value} {below : List Frame} {meth : Method} {c : Code} {z : Nat} {D : tc_D} {b len x m i : Nat} {xs : Nat → Int32} (hX : va_X b len xs s s.heap) (hbz : b < z) (hlen : len ≤ 3072) (hi3 : i + 6 ≤ len) {L L2 : tc_L} {u u2 : tc_S} {cc sc : Nat} (hc : cc + 12 ≤ room_1.cells) (hs : sc + 881 ≤ room_1.slots) (h : lw_c10 L x m xs i u = some (L2, u2)) (kk : tc_R p l e room_1 s m0 args below meth c z D cL_law RL 4 (some .boolean) room_1.cells room_1.slots (fun r _ _ => r = some (.int 1)) (cc + 12) (sc + 881) (tc_gl L2) u2 1030 [(0, .ref b), (1, .ref (z + x)), (2, .ref (z + m)), (3, .int (nI i))] []) : tc_R p l e room_1 s m0 args below meth c z D cL_law RL 4 (some .boolean) room_1.cells room_1.slots (fun r _ _ => r = some (.int 1)) cc sc (tc_gl L) u 448 [(0, .ref b), (1, .ref (z + x)), (2, .ref (z + m)), (3, .int (nI i))] [] := by
  have hc1 : cc + 0 ≤ room_1.cells := by show cc + 0 ≤ room_1.cells; omega
  have hs1 : sc + 0 ≤ room_1.slots := by show sc + 0 ≤ room_1.slots; omega
  unfold lw_c10 at h
  obtain ⟨hW, h⟩ := tc_wc_ex h
  obtain ⟨ix, h⟩ := tc_kd_ex h
  obtain ⟨im, h⟩ := tc_kd_ex h
  obtain ⟨r1, u3, hq1, h⟩ := tc_b_ex h
  obtain ⟨r2, u4, hq2, h⟩ := tc_b_ex h
  split at h
  · rename_i he
    cases h
    refine tc_widen (k := cc) (n := sc) (Nat.le_refl _) (Nat.le_refl _) ?_
    refine tc_aload_n 1 rfl dL_law_448 ?_
    refine lw_arg (k := 1) hX hbz hlen hi3 (by omega) dL_law_449 dL_law_450 dL_law_451 dL_law_452 dL_law_453 ?_
    refine lw_arg (k := 2) hX hbz hlen hi3 (by omega) dL_law_454 dL_law_455 dL_law_456 dL_law_457 dL_law_458 ?_
    refine tc_callVi [.int (xs (i + 1)), .int (xs (i + 2))] dL_law_459 ix.1 (ct_X11_peel hW ix hq1) ml_L_59 mw_X11_peel mv_X11_peel ⟨(Nat.le_of_ble_eq_true rfl), (Nat.le_of_ble_eq_true rfl)⟩ rfl rfl (Nat.le_of_ble_eq_true rfl) ⟨hc1, hs1⟩ (by decide) ?_
    refine tc_aload_n 2 rfl dL_law_462 ?_
    refine lw_arg (k := 1) hX hbz hlen hi3 (by omega) dL_law_463 dL_law_464 dL_law_465 dL_law_466 dL_law_467 ?_
    refine lw_arg (k := 2) hX hbz hlen hi3 (by omega) dL_law_468 dL_law_469 dL_law_470 dL_law_471 dL_law_472 ?_
    refine tc_callVi [.int (xs (i + 1)), .int (xs (i + 2))] dL_law_473 im.1 (ct_X12_peel hW im hq2) ml_L_62 mw_X12_peel mv_X12_peel ⟨(Nat.le_of_ble_eq_true rfl), (Nat.le_of_ble_eq_true rfl)⟩ rfl rfl (Nat.le_of_ble_eq_true rfl) ⟨hc1, hs1⟩ (by decide) ?_
    refine tc_icmp_eq 1030 dL_law_476 (by decide) (fun _ => ?_) (fun hne => absurd he hne)
    refine tc_widen (k := cc + 12) (n := sc + 881) (by omega) (by omega) ?_
    exact kk
  · cases h
set_option maxRecDepth 100000 in
set_option maxHeartbeats 4000000 in
theorem sc_law_11 {p : Program} {l : Launch} {e : Env} {s : State} {m0 : MethodId} {args : Array Value} {below : List Frame} {meth : Method} {c : Code} {z : Nat} {D : tc_D} {b len x m i : Nat} {xs : Nat → Int32} (hX : va_X b len xs s s.heap) (hbz : b < z) (hlen : len ≤ 3072) (hi3 : i + 6 ≤ len) {L L2 : tc_L} {u u2 : tc_S} {cc sc : Nat} (hc : cc + 12 ≤ room_1.cells) (hs : sc + 881 ≤ room_1.slots) (h : lw_c11 L x m xs i u = some (L2, u2)) (kk : tc_R p l e room_1 s m0 args below meth c z D cL_law RL 4 (some .boolean) room_1.cells room_1.slots (fun r _ _ => r = some (.int 1)) (cc + 12) (sc + 881) (tc_gl L2) u2 1030 [(0, .ref b), (1, .ref (z + x)), (2, .ref (z + m)), (3, .int (nI i))] []) : tc_R p l e room_1 s m0 args below meth c z D cL_law RL 4 (some .boolean) room_1.cells room_1.slots (fun r _ _ => r = some (.int 1)) cc sc (tc_gl L) u 481 [(0, .ref b), (1, .ref (z + x)), (2, .ref (z + m)), (3, .int (nI i))] [] := by
  have hc1 : cc + 0 ≤ room_1.cells := by show cc + 0 ≤ room_1.cells; omega
  have hs1 : sc + 0 ≤ room_1.slots := by show sc + 0 ≤ room_1.slots; omega
  unfold lw_c11 at h
  obtain ⟨hW, h⟩ := tc_wc_ex h
  obtain ⟨ix, h⟩ := tc_kd_ex h
  obtain ⟨im, h⟩ := tc_kd_ex h
  obtain ⟨r1, u3, hq1, h⟩ := tc_b_ex h
  obtain ⟨r2, u4, hq2, h⟩ := tc_b_ex h
  split at h
  · rename_i he
    cases h
    refine tc_widen (k := cc) (n := sc) (Nat.le_refl _) (Nat.le_refl _) ?_
    refine tc_aload_n 1 rfl dL_law_481 ?_
    refine lw_arg (k := 1) hX hbz hlen hi3 (by omega) dL_law_482 dL_law_483 dL_law_484 dL_law_485 dL_law_486 ?_
    refine lw_arg (k := 2) hX hbz hlen hi3 (by omega) dL_law_487 dL_law_488 dL_law_489 dL_law_490 dL_law_491 ?_
    refine tc_callVi [.int (xs (i + 1)), .int (xs (i + 2))] dL_law_492 ix.1 (ct_X11_load hW ix hq1) ml_L_63 mw_X11_load mv_X11_load ⟨(Nat.le_of_ble_eq_true rfl), (Nat.le_of_ble_eq_true rfl)⟩ rfl rfl (Nat.le_of_ble_eq_true rfl) ⟨hc1, hs1⟩ (by decide) ?_
    refine tc_aload_n 2 rfl dL_law_495 ?_
    refine lw_arg (k := 1) hX hbz hlen hi3 (by omega) dL_law_496 dL_law_497 dL_law_498 dL_law_499 dL_law_500 ?_
    refine lw_arg (k := 2) hX hbz hlen hi3 (by omega) dL_law_501 dL_law_502 dL_law_503 dL_law_504 dL_law_505 ?_
    refine tc_callVi [.int (xs (i + 1)), .int (xs (i + 2))] dL_law_506 im.1 (ct_X12_load hW im hq2) ml_L_66 mw_X12_load mv_X12_load ⟨(Nat.le_of_ble_eq_true rfl), (Nat.le_of_ble_eq_true rfl)⟩ rfl rfl (Nat.le_of_ble_eq_true rfl) ⟨hc1, hs1⟩ (by decide) ?_
    refine tc_icmp_eq 1030 dL_law_509 (by decide) (fun _ => ?_) (fun hne => absurd he hne)
    refine tc_widen (k := cc + 12) (n := sc + 881) (by omega) (by omega) ?_
    exact kk
  · cases h
set_option maxRecDepth 100000 in
set_option maxHeartbeats 4000000 in
theorem sc_law_12 {p : Program} {l : Launch} {e : Env} {s : State} {m0 : MethodId} {args : Array Value} {below : List Frame} {meth : Method} {c : Code} {z : Nat} {D : tc_D} {b len x m i : Nat} {xs : Nat → Int32} (hX : va_X b len xs s s.heap) (hbz : b < z) (hlen : len ≤ 3072) (hi3 : i + 6 ≤ len) {L L2 : tc_L} {u u2 : tc_S} {cc sc : Nat} (hc : cc + 12 ≤ room_1.cells) (hs : sc + 881 ≤ room_1.slots) (h : lw_c12 L x m xs i u = some (L2, u2)) (kk : tc_R p l e room_1 s m0 args below meth c z D cL_law RL 4 (some .boolean) room_1.cells room_1.slots (fun r _ _ => r = some (.int 1)) (cc + 12) (sc + 881) (tc_gl L2) u2 1030 [(0, .ref b), (1, .ref (z + x)), (2, .ref (z + m)), (3, .int (nI i))] []) : tc_R p l e room_1 s m0 args below meth c z D cL_law RL 4 (some .boolean) room_1.cells room_1.slots (fun r _ _ => r = some (.int 1)) cc sc (tc_gl L) u 514 [(0, .ref b), (1, .ref (z + x)), (2, .ref (z + m)), (3, .int (nI i))] [] := by
  have hc1 : cc + 0 ≤ room_1.cells := by show cc + 0 ≤ room_1.cells; omega
  have hs1 : sc + 0 ≤ room_1.slots := by show sc + 0 ≤ room_1.slots; omega
  unfold lw_c12 at h
  obtain ⟨hW, h⟩ := tc_wc_ex h
  obtain ⟨ix, h⟩ := tc_kd_ex h
  obtain ⟨im, h⟩ := tc_kd_ex h
  obtain ⟨r1, u3, hq1, h⟩ := tc_b_ex h
  obtain ⟨r2, u4, hq2, h⟩ := tc_b_ex h
  split at h
  · rename_i he
    cases h
    refine tc_widen (k := cc) (n := sc) (Nat.le_refl _) (Nat.le_refl _) ?_
    refine tc_aload_n 1 rfl dL_law_514 ?_
    refine lw_arg (k := 1) hX hbz hlen hi3 (by omega) dL_law_515 dL_law_516 dL_law_517 dL_law_518 dL_law_519 ?_
    refine lw_arg (k := 2) hX hbz hlen hi3 (by omega) dL_law_520 dL_law_521 dL_law_522 dL_law_523 dL_law_524 ?_
    refine tc_callVi [.int (xs (i + 1)), .int (xs (i + 2))] dL_law_525 ix.1 (ct_X11_find hW ix hq1) ml_L_67 mw_X11_find mv_X11_find ⟨(Nat.le_of_ble_eq_true rfl), (Nat.le_of_ble_eq_true rfl)⟩ rfl rfl (Nat.le_of_ble_eq_true rfl) ⟨hc1, hs1⟩ (by decide) ?_
    refine tc_aload_n 2 rfl dL_law_528 ?_
    refine lw_arg (k := 1) hX hbz hlen hi3 (by omega) dL_law_529 dL_law_530 dL_law_531 dL_law_532 dL_law_533 ?_
    refine lw_arg (k := 2) hX hbz hlen hi3 (by omega) dL_law_534 dL_law_535 dL_law_536 dL_law_537 dL_law_538 ?_
    refine tc_callVi [.int (xs (i + 1)), .int (xs (i + 2))] dL_law_539 im.1 (ct_X12_find hW im hq2) ml_L_70 mw_X12_find mv_X12_find ⟨(Nat.le_of_ble_eq_true rfl), (Nat.le_of_ble_eq_true rfl)⟩ rfl rfl (Nat.le_of_ble_eq_true rfl) ⟨hc1, hs1⟩ (by decide) ?_
    refine tc_icmp_eq 1030 dL_law_542 (by decide) (fun _ => ?_) (fun hne => absurd he hne)
    refine tc_widen (k := cc + 12) (n := sc + 881) (by omega) (by omega) ?_
    exact kk
  · cases h
set_option maxRecDepth 100000 in
set_option maxHeartbeats 4000000 in
theorem sc_law_13 {p : Program} {l : Launch} {e : Env} {s : State} {m0 : MethodId} {args : Array Value} {below : List Frame} {meth : Method} {c : Code} {z : Nat} {D : tc_D} {b len x m i : Nat} {xs : Nat → Int32} (hX : va_X b len xs s s.heap) (hbz : b < z) (hlen : len ≤ 3072) (hi3 : i + 6 ≤ len) {L L2 : tc_L} {u u2 : tc_S} {cc sc : Nat} (hc : cc + 12 ≤ room_1.cells) (hs : sc + 881 ≤ room_1.slots) (h : lw_c13 L x m xs i u = some (L2, u2)) (kk : tc_R p l e room_1 s m0 args below meth c z D cL_law RL 4 (some .boolean) room_1.cells room_1.slots (fun r _ _ => r = some (.int 1)) (cc + 12) (sc + 881) (tc_gl L2) u2 1030 [(0, .ref b), (1, .ref (z + x)), (2, .ref (z + m)), (3, .int (nI i))] []) : tc_R p l e room_1 s m0 args below meth c z D cL_law RL 4 (some .boolean) room_1.cells room_1.slots (fun r _ _ => r = some (.int 1)) cc sc (tc_gl L) u 547 [(0, .ref b), (1, .ref (z + x)), (2, .ref (z + m)), (3, .int (nI i))] [] := by
  have hc1 : cc + 0 ≤ room_1.cells := by show cc + 0 ≤ room_1.cells; omega
  have hs1 : sc + 0 ≤ room_1.slots := by show sc + 0 ≤ room_1.slots; omega
  unfold lw_c13 at h
  obtain ⟨hW, h⟩ := tc_wc_ex h
  obtain ⟨ix, h⟩ := tc_kd_ex h
  obtain ⟨im, h⟩ := tc_kd_ex h
  obtain ⟨r1, u3, hq1, h⟩ := tc_b_ex h
  obtain ⟨r2, u4, hq2, h⟩ := tc_b_ex h
  split at h
  · rename_i he
    cases h
    refine tc_widen (k := cc) (n := sc) (Nat.le_refl _) (Nat.le_refl _) ?_
    refine tc_aload_n 1 rfl dL_law_547 ?_
    refine lw_arg (k := 1) hX hbz hlen hi3 (by omega) dL_law_548 dL_law_549 dL_law_550 dL_law_551 dL_law_552 ?_
    refine lw_arg (k := 2) hX hbz hlen hi3 (by omega) dL_law_553 dL_law_554 dL_law_555 dL_law_556 dL_law_557 ?_
    refine lw_arg (k := 3) hX hbz hlen hi3 (by omega) dL_law_558 dL_law_559 dL_law_560 dL_law_561 dL_law_562 ?_
    refine tc_callVi [.int (xs (i + 1)), .int (xs (i + 2)), .int (xs (i + 3))] dL_law_563 ix.1 (ct_X11_at hW ix hq1) ml_L_71 mw_X11_at mv_X11_at ⟨(Nat.le_of_ble_eq_true rfl), (Nat.le_of_ble_eq_true rfl)⟩ rfl rfl (Nat.le_of_ble_eq_true rfl) ⟨hc1, hs1⟩ (by decide) ?_
    refine tc_aload_n 2 rfl dL_law_566 ?_
    refine lw_arg (k := 1) hX hbz hlen hi3 (by omega) dL_law_567 dL_law_568 dL_law_569 dL_law_570 dL_law_571 ?_
    refine lw_arg (k := 2) hX hbz hlen hi3 (by omega) dL_law_572 dL_law_573 dL_law_574 dL_law_575 dL_law_576 ?_
    refine lw_arg (k := 3) hX hbz hlen hi3 (by omega) dL_law_577 dL_law_578 dL_law_579 dL_law_580 dL_law_581 ?_
    refine tc_callVi [.int (xs (i + 1)), .int (xs (i + 2)), .int (xs (i + 3))] dL_law_582 im.1 (ct_X12_at hW im hq2) ml_L_75 mw_X12_at mv_X12_at ⟨(Nat.le_of_ble_eq_true rfl), (Nat.le_of_ble_eq_true rfl)⟩ rfl rfl (Nat.le_of_ble_eq_true rfl) ⟨hc1, hs1⟩ (by decide) ?_
    refine tc_icmp_eq 1030 dL_law_585 (by decide) (fun _ => ?_) (fun hne => absurd he hne)
    refine tc_widen (k := cc + 12) (n := sc + 881) (by omega) (by omega) ?_
    exact kk
  · cases h
set_option maxRecDepth 100000 in
set_option maxHeartbeats 4000000 in
theorem sc_law_14 {p : Program} {l : Launch} {e : Env} {s : State} {m0 : MethodId} {args : Array Value} {below : List Frame} {meth : Method} {c : Code} {z : Nat} {D : tc_D} {b len x m i : Nat} {xs : Nat → Int32} (hX : va_X b len xs s s.heap) (hbz : b < z) (hlen : len ≤ 3072) (hi3 : i + 6 ≤ len) {L L2 : tc_L} {u u2 : tc_S} {cc sc : Nat} (hc : cc + 12 ≤ room_1.cells) (hs : sc + 881 ≤ room_1.slots) (h : lw_c14 L x m xs i u = some (L2, u2)) (kk : tc_R p l e room_1 s m0 args below meth c z D cL_law RL 4 (some .boolean) room_1.cells room_1.slots (fun r _ _ => r = some (.int 1)) (cc + 12) (sc + 881) (tc_gl L2) u2 1030 [(0, .ref b), (1, .ref (z + x)), (2, .ref (z + m)), (3, .int (nI i))] []) : tc_R p l e room_1 s m0 args below meth c z D cL_law RL 4 (some .boolean) room_1.cells room_1.slots (fun r _ _ => r = some (.int 1)) cc sc (tc_gl L) u 590 [(0, .ref b), (1, .ref (z + x)), (2, .ref (z + m)), (3, .int (nI i))] [] := by
  have hc1 : cc + 0 ≤ room_1.cells := by show cc + 0 ≤ room_1.cells; omega
  have hs1 : sc + 0 ≤ room_1.slots := by show sc + 0 ≤ room_1.slots; omega
  unfold lw_c14 at h
  obtain ⟨hW, h⟩ := tc_wc_ex h
  obtain ⟨ix, h⟩ := tc_kd_ex h
  obtain ⟨im, h⟩ := tc_kd_ex h
  obtain ⟨r1, u3, hq1, h⟩ := tc_b_ex h
  obtain ⟨r2, u4, hq2, h⟩ := tc_b_ex h
  split at h
  · rename_i he
    cases h
    refine tc_widen (k := cc) (n := sc) (Nat.le_refl _) (Nat.le_refl _) ?_
    refine tc_aload_n 1 rfl dL_law_590 ?_
    refine lw_arg (k := 1) hX hbz hlen hi3 (by omega) dL_law_591 dL_law_592 dL_law_593 dL_law_594 dL_law_595 ?_
    refine lw_arg (k := 2) hX hbz hlen hi3 (by omega) dL_law_596 dL_law_597 dL_law_598 dL_law_599 dL_law_600 ?_
    refine lw_bool 608 609 dL_law_601 (by decide) dL_law_604 dL_law_605 (by decide) dL_law_608 rfl ?_
    refine tc_callVi [.int (xs (i + 1)), .int (if xs (i + 2) = 0 then 0 else 1)] dL_law_609 ix.1 (ct_X11_hash hW ix hq1) ml_L_76 mw_X11_hash mv_X11_hash ⟨(Nat.le_of_ble_eq_true rfl), (Nat.le_of_ble_eq_true rfl)⟩ rfl rfl (Nat.le_of_ble_eq_true rfl) ⟨hc1, hs1⟩ (by decide) ?_
    refine tc_aload_n 2 rfl dL_law_612 ?_
    refine lw_arg (k := 1) hX hbz hlen hi3 (by omega) dL_law_613 dL_law_614 dL_law_615 dL_law_616 dL_law_617 ?_
    refine lw_arg (k := 2) hX hbz hlen hi3 (by omega) dL_law_618 dL_law_619 dL_law_620 dL_law_621 dL_law_622 ?_
    refine lw_bool 630 631 dL_law_623 (by decide) dL_law_626 dL_law_627 (by decide) dL_law_630 rfl ?_
    refine tc_callVi [.int (xs (i + 1)), .int (if xs (i + 2) = 0 then 0 else 1)] dL_law_631 im.1 (ct_X12_hash hW im hq2) ml_L_80 mw_X12_hash mv_X12_hash ⟨(Nat.le_of_ble_eq_true rfl), (Nat.le_of_ble_eq_true rfl)⟩ rfl rfl (Nat.le_of_ble_eq_true rfl) ⟨hc1, hs1⟩ (by decide) ?_
    refine tc_icmp_eq 1030 dL_law_634 (by decide) (fun _ => ?_) (fun hne => absurd he hne)
    refine tc_widen (k := cc + 12) (n := sc + 881) (by omega) (by omega) ?_
    exact kk
  · cases h
set_option maxRecDepth 100000 in
set_option maxHeartbeats 4000000 in
theorem sc_law_15 {p : Program} {l : Launch} {e : Env} {s : State} {m0 : MethodId} {args : Array Value} {below : List Frame} {meth : Method} {c : Code} {z : Nat} {D : tc_D} {b len x m i : Nat} {xs : Nat → Int32} (hX : va_X b len xs s s.heap) (hbz : b < z) (hlen : len ≤ 3072) (hi3 : i + 6 ≤ len) {L L2 : tc_L} {u u2 : tc_S} {cc sc : Nat} (hc : cc + 12 ≤ room_1.cells) (hs : sc + 881 ≤ room_1.slots) (h : lw_c15 L x m xs i u = some (L2, u2)) (kk : tc_R p l e room_1 s m0 args below meth c z D cL_law RL 4 (some .boolean) room_1.cells room_1.slots (fun r _ _ => r = some (.int 1)) (cc + 12) (sc + 881) (tc_gl L2) u2 1030 [(0, .ref b), (1, .ref (z + x)), (2, .ref (z + m)), (3, .int (nI i))] []) : tc_R p l e room_1 s m0 args below meth c z D cL_law RL 4 (some .boolean) room_1.cells room_1.slots (fun r _ _ => r = some (.int 1)) cc sc (tc_gl L) u 639 [(0, .ref b), (1, .ref (z + x)), (2, .ref (z + m)), (3, .int (nI i))] [] := by
  have hc1 : cc + 0 ≤ room_1.cells := by show cc + 0 ≤ room_1.cells; omega
  have hs1 : sc + 0 ≤ room_1.slots := by show sc + 0 ≤ room_1.slots; omega
  unfold lw_c15 at h
  obtain ⟨hW, h⟩ := tc_wc_ex h
  obtain ⟨ix, h⟩ := tc_kd_ex h
  obtain ⟨im, h⟩ := tc_kd_ex h
  obtain ⟨r1, u3, hq1, h⟩ := tc_b_ex h
  obtain ⟨r2, u4, hq2, h⟩ := tc_b_ex h
  split at h
  · rename_i he
    cases h
    refine tc_widen (k := cc) (n := sc) (Nat.le_refl _) (Nat.le_refl _) ?_
    refine tc_aload_n 1 rfl dL_law_639 ?_
    refine lw_arg (k := 1) hX hbz hlen hi3 (by omega) dL_law_640 dL_law_641 dL_law_642 dL_law_643 dL_law_644 ?_
    refine lw_arg (k := 2) hX hbz hlen hi3 (by omega) dL_law_645 dL_law_646 dL_law_647 dL_law_648 dL_law_649 ?_
    refine tc_callVi [.int (xs (i + 1)), .int (xs (i + 2))] dL_law_650 ix.1 (ct_X11_chain hW ix hq1) ml_L_81 mw_X11_chain mv_X11_chain ⟨(Nat.le_of_ble_eq_true rfl), (Nat.le_of_ble_eq_true rfl)⟩ rfl rfl (Nat.le_of_ble_eq_true rfl) ⟨hc1, hs1⟩ (by decide) ?_
    refine tc_aload_n 2 rfl dL_law_653 ?_
    refine lw_arg (k := 1) hX hbz hlen hi3 (by omega) dL_law_654 dL_law_655 dL_law_656 dL_law_657 dL_law_658 ?_
    refine lw_arg (k := 2) hX hbz hlen hi3 (by omega) dL_law_659 dL_law_660 dL_law_661 dL_law_662 dL_law_663 ?_
    refine tc_callVi [.int (xs (i + 1)), .int (xs (i + 2))] dL_law_664 im.1 (ct_X12_chain hW im hq2) ml_L_84 mw_X12_chain mv_X12_chain ⟨(Nat.le_of_ble_eq_true rfl), (Nat.le_of_ble_eq_true rfl)⟩ rfl rfl (Nat.le_of_ble_eq_true rfl) ⟨hc1, hs1⟩ (by decide) ?_
    refine tc_icmp_eq 1030 dL_law_667 (by decide) (fun _ => ?_) (fun hne => absurd he hne)
    refine tc_widen (k := cc + 12) (n := sc + 881) (by omega) (by omega) ?_
    exact kk
  · cases h
set_option maxRecDepth 100000 in
set_option maxHeartbeats 4000000 in
theorem sc_law_16 {p : Program} {l : Launch} {e : Env} {s : State} {m0 : MethodId} {args : Array Value} {below : List Frame} {meth : Method} {c : Code} {z : Nat} {D : tc_D} {b len x m i : Nat} {xs : Nat → Int32} (hX : va_X b len xs s s.heap) (hbz : b < z) (hlen : len ≤ 3072) (hi3 : i + 6 ≤ len) {L L2 : tc_L} {u u2 : tc_S} {cc sc : Nat} (hc : cc + 12 ≤ room_1.cells) (hs : sc + 881 ≤ room_1.slots) (h : lw_c16 L x m xs i u = some (L2, u2)) (kk : tc_R p l e room_1 s m0 args below meth c z D cL_law RL 4 (some .boolean) room_1.cells room_1.slots (fun r _ _ => r = some (.int 1)) (cc + 12) (sc + 881) (tc_gl L2) u2 1030 [(0, .ref b), (1, .ref (z + x)), (2, .ref (z + m)), (3, .int (nI i))] []) : tc_R p l e room_1 s m0 args below meth c z D cL_law RL 4 (some .boolean) room_1.cells room_1.slots (fun r _ _ => r = some (.int 1)) cc sc (tc_gl L) u 672 [(0, .ref b), (1, .ref (z + x)), (2, .ref (z + m)), (3, .int (nI i))] [] := by
  have hc1 : cc + 0 ≤ room_1.cells := by show cc + 0 ≤ room_1.cells; omega
  have hs1 : sc + 0 ≤ room_1.slots := by show sc + 0 ≤ room_1.slots; omega
  unfold lw_c16 at h
  obtain ⟨hW, h⟩ := tc_wc_ex h
  obtain ⟨ix, h⟩ := tc_kd_ex h
  obtain ⟨im, h⟩ := tc_kd_ex h
  obtain ⟨r1, u3, hq1, h⟩ := tc_b_ex h
  obtain ⟨r2, u4, hq2, h⟩ := tc_b_ex h
  split at h
  · rename_i he
    cases h
    refine tc_widen (k := cc) (n := sc) (Nat.le_refl _) (Nat.le_refl _) ?_
    refine tc_aload_n 1 rfl dL_law_672 ?_
    refine lw_arg (k := 1) hX hbz hlen hi3 (by omega) dL_law_673 dL_law_674 dL_law_675 dL_law_676 dL_law_677 ?_
    refine tc_callVi [.int (xs (i + 1))] dL_law_678 ix.1 (ct_X11_would hW ix hq1) ml_L_85 mw_X11_would mv_X11_would ⟨(Nat.le_of_ble_eq_true rfl), (Nat.le_of_ble_eq_true rfl)⟩ rfl rfl (Nat.le_of_ble_eq_true rfl) ⟨hc1, hs1⟩ (by decide) ?_
    refine tc_aload_n 2 rfl dL_law_681 ?_
    refine lw_arg (k := 1) hX hbz hlen hi3 (by omega) dL_law_682 dL_law_683 dL_law_684 dL_law_685 dL_law_686 ?_
    refine tc_callVi [.int (xs (i + 1))] dL_law_687 im.1 (ct_X12_would hW im hq2) ml_L_88 mw_X12_would mv_X12_would ⟨(Nat.le_of_ble_eq_true rfl), (Nat.le_of_ble_eq_true rfl)⟩ rfl rfl (Nat.le_of_ble_eq_true rfl) ⟨hc1, hs1⟩ (by decide) ?_
    refine tc_icmp_eq 1030 dL_law_690 (by decide) (fun _ => ?_) (fun hne => absurd he hne)
    refine tc_widen (k := cc + 12) (n := sc + 881) (by omega) (by omega) ?_
    exact kk
  · cases h
set_option maxRecDepth 100000 in
set_option maxHeartbeats 4000000 in
theorem sc_law_17 {p : Program} {l : Launch} {e : Env} {s : State} {m0 : MethodId} {args : Array Value} {below : List Frame} {meth : Method} {c : Code} {z : Nat} {D : tc_D} {b len x m i : Nat} {xs : Nat → Int32} (hX : va_X b len xs s s.heap) (hbz : b < z) (hlen : len ≤ 3072) (hi3 : i + 6 ≤ len) {L L2 : tc_L} {u u2 : tc_S} {cc sc : Nat} (hc : cc + 12 ≤ room_1.cells) (hs : sc + 881 ≤ room_1.slots) (h : lw_c17 L x m xs i u = some (L2, u2)) (kk : tc_R p l e room_1 s m0 args below meth c z D cL_law RL 4 (some .boolean) room_1.cells room_1.slots (fun r _ _ => r = some (.int 1)) (cc + 12) (sc + 881) (tc_gl L2) u2 1030 [(0, .ref b), (1, .ref (z + x)), (2, .ref (z + m)), (3, .int (nI i))] []) : tc_R p l e room_1 s m0 args below meth c z D cL_law RL 4 (some .boolean) room_1.cells room_1.slots (fun r _ _ => r = some (.int 1)) cc sc (tc_gl L) u 695 [(0, .ref b), (1, .ref (z + x)), (2, .ref (z + m)), (3, .int (nI i))] [] := by
  have hc1 : cc + 0 ≤ room_1.cells := by show cc + 0 ≤ room_1.cells; omega
  have hs1 : sc + 0 ≤ room_1.slots := by show sc + 0 ≤ room_1.slots; omega
  unfold lw_c17 at h
  obtain ⟨hW, h⟩ := tc_wc_ex h
  obtain ⟨ix, h⟩ := tc_kd_ex h
  obtain ⟨im, h⟩ := tc_kd_ex h
  obtain ⟨r1, u3, hq1, h⟩ := tc_b_ex h
  obtain ⟨r2, u4, hq2, h⟩ := tc_b_ex h
  split at h
  · rename_i he
    cases h
    refine tc_widen (k := cc) (n := sc) (Nat.le_refl _) (Nat.le_refl _) ?_
    refine tc_aload_n 1 rfl dL_law_695 ?_
    refine lw_arg (k := 1) hX hbz hlen hi3 (by omega) dL_law_696 dL_law_697 dL_law_698 dL_law_699 dL_law_700 ?_
    refine lw_arg (k := 2) hX hbz hlen hi3 (by omega) dL_law_701 dL_law_702 dL_law_703 dL_law_704 dL_law_705 ?_
    refine tc_callVi [.int (xs (i + 1)), .int (xs (i + 2))] dL_law_706 ix.1 (ct_X11_part hW ix hq1) ml_L_89 mw_X11_part mv_X11_part ⟨(Nat.le_of_ble_eq_true rfl), (Nat.le_of_ble_eq_true rfl)⟩ rfl rfl (Nat.le_of_ble_eq_true rfl) ⟨hc1, hs1⟩ (by decide) ?_
    refine tc_aload_n 2 rfl dL_law_709 ?_
    refine lw_arg (k := 1) hX hbz hlen hi3 (by omega) dL_law_710 dL_law_711 dL_law_712 dL_law_713 dL_law_714 ?_
    refine lw_arg (k := 2) hX hbz hlen hi3 (by omega) dL_law_715 dL_law_716 dL_law_717 dL_law_718 dL_law_719 ?_
    refine tc_callVi [.int (xs (i + 1)), .int (xs (i + 2))] dL_law_720 im.1 (ct_X12_part hW im hq2) ml_L_92 mw_X12_part mv_X12_part ⟨(Nat.le_of_ble_eq_true rfl), (Nat.le_of_ble_eq_true rfl)⟩ rfl rfl (Nat.le_of_ble_eq_true rfl) ⟨hc1, hs1⟩ (by decide) ?_
    refine tc_icmp_eq 1030 dL_law_723 (by decide) (fun _ => ?_) (fun hne => absurd he hne)
    refine tc_widen (k := cc + 12) (n := sc + 881) (by omega) (by omega) ?_
    exact kk
  · cases h
set_option maxRecDepth 100000 in
set_option maxHeartbeats 4000000 in
theorem sc_law_18 {p : Program} {l : Launch} {e : Env} {s : State} {m0 : MethodId} {args : Array Value} {below : List Frame} {meth : Method} {c : Code} {z : Nat} {D : tc_D} {b len x m i : Nat} {xs : Nat → Int32} (hX : va_X b len xs s s.heap) (hbz : b < z) (hlen : len ≤ 3072) (hi3 : i + 6 ≤ len) {L L2 : tc_L} {u u2 : tc_S} {cc sc : Nat} (hc : cc + 12 ≤ room_1.cells) (hs : sc + 881 ≤ room_1.slots) (h : lw_c18 L x m xs i u = some (L2, u2)) (kk : tc_R p l e room_1 s m0 args below meth c z D cL_law RL 4 (some .boolean) room_1.cells room_1.slots (fun r _ _ => r = some (.int 1)) (cc + 12) (sc + 881) (tc_gl L2) u2 1030 [(0, .ref b), (1, .ref (z + x)), (2, .ref (z + m)), (3, .int (nI i))] []) : tc_R p l e room_1 s m0 args below meth c z D cL_law RL 4 (some .boolean) room_1.cells room_1.slots (fun r _ _ => r = some (.int 1)) cc sc (tc_gl L) u 728 [(0, .ref b), (1, .ref (z + x)), (2, .ref (z + m)), (3, .int (nI i))] [] := by
  have hc1 : cc + 0 ≤ room_1.cells := by show cc + 0 ≤ room_1.cells; omega
  have hs1 : sc + 0 ≤ room_1.slots := by show sc + 0 ≤ room_1.slots; omega
  unfold lw_c18 at h
  obtain ⟨hW, h⟩ := tc_wc_ex h
  obtain ⟨ix, h⟩ := tc_kd_ex h
  obtain ⟨im, h⟩ := tc_kd_ex h
  obtain ⟨r1, u3, hq1, h⟩ := tc_b_ex h
  obtain ⟨r2, u4, hq2, h⟩ := tc_b_ex h
  split at h
  · rename_i he
    cases h
    refine tc_widen (k := cc) (n := sc) (Nat.le_refl _) (Nat.le_refl _) ?_
    refine tc_aload_n 1 rfl dL_law_728 ?_
    refine lw_arg (k := 1) hX hbz hlen hi3 (by omega) dL_law_729 dL_law_730 dL_law_731 dL_law_732 dL_law_733 ?_
    refine tc_callVi [.int (xs (i + 1))] dL_law_734 ix.1 (ct_X11_fits hW ix hq1) ml_L_93 mw_X11_fits mv_X11_fits ⟨(Nat.le_of_ble_eq_true rfl), (Nat.le_of_ble_eq_true rfl)⟩ rfl rfl (Nat.le_of_ble_eq_true rfl) ⟨hc1, hs1⟩ (by decide) ?_
    refine tc_aload_n 2 rfl dL_law_737 ?_
    refine lw_arg (k := 1) hX hbz hlen hi3 (by omega) dL_law_738 dL_law_739 dL_law_740 dL_law_741 dL_law_742 ?_
    refine tc_callVi [.int (xs (i + 1))] dL_law_743 im.1 (ct_X12_fits hW im hq2) ml_L_97 mw_X12_fits mv_X12_fits ⟨(Nat.le_of_ble_eq_true rfl), (Nat.le_of_ble_eq_true rfl)⟩ rfl rfl (Nat.le_of_ble_eq_true rfl) ⟨hc1, hs1⟩ (by decide) ?_
    refine tc_icmp_eq 1030 dL_law_746 (by decide) (fun _ => ?_) (fun hne => absurd he hne)
    refine tc_widen (k := cc + 12) (n := sc + 881) (by omega) (by omega) ?_
    exact kk
  · cases h
set_option maxRecDepth 100000 in
set_option maxHeartbeats 4000000 in
theorem sc_law_19 {p : Program} {l : Launch} {e : Env} {s : State} {m0 : MethodId} {args : Array Value} {below : List Frame} {meth : Method} {c : Code} {z : Nat} {D : tc_D} {b len x m i : Nat} {xs : Nat → Int32} (hX : va_X b len xs s s.heap) (hbz : b < z) (hlen : len ≤ 3072) (hi3 : i + 6 ≤ len) {L L2 : tc_L} {u u2 : tc_S} {cc sc : Nat} (hc : cc + 12 ≤ room_1.cells) (hs : sc + 881 ≤ room_1.slots) (h : lw_c19 L x m xs i u = some (L2, u2)) (kk : tc_R p l e room_1 s m0 args below meth c z D cL_law RL 4 (some .boolean) room_1.cells room_1.slots (fun r _ _ => r = some (.int 1)) (cc + 12) (sc + 881) (tc_gl L2) u2 1030 [(0, .ref b), (1, .ref (z + x)), (2, .ref (z + m)), (3, .int (nI i))] []) : tc_R p l e room_1 s m0 args below meth c z D cL_law RL 4 (some .boolean) room_1.cells room_1.slots (fun r _ _ => r = some (.int 1)) cc sc (tc_gl L) u 751 [(0, .ref b), (1, .ref (z + x)), (2, .ref (z + m)), (3, .int (nI i))] [] := by
  have hc1 : cc + 0 ≤ room_1.cells := by show cc + 0 ≤ room_1.cells; omega
  have hs1 : sc + 0 ≤ room_1.slots := by show sc + 0 ≤ room_1.slots; omega
  unfold lw_c19 at h
  obtain ⟨hW, h⟩ := tc_wc_ex h
  obtain ⟨ix, h⟩ := tc_kd_ex h
  obtain ⟨im, h⟩ := tc_kd_ex h
  obtain ⟨r1, u3, hq1, h⟩ := tc_b_ex h
  obtain ⟨r2, u4, hq2, h⟩ := tc_b_ex h
  split at h
  · rename_i he
    cases h
    refine tc_widen (k := cc) (n := sc) (Nat.le_refl _) (Nat.le_refl _) ?_
    refine tc_aload_n 1 rfl dL_law_751 ?_
    refine tc_callVi [] dL_law_752 ix.1 (ct_X11_over hW ix hq1) ml_L_98 mw_X11_over mv_X11_over ⟨(Nat.le_of_ble_eq_true rfl), (Nat.le_of_ble_eq_true rfl)⟩ rfl rfl (Nat.le_of_ble_eq_true rfl) ⟨hc1, hs1⟩ (by decide) ?_
    refine tc_aload_n 2 rfl dL_law_755 ?_
    refine tc_callVi [] dL_law_756 im.1 (ct_X12_over hW im hq2) ml_L_101 mw_X12_over mv_X12_over ⟨(Nat.le_of_ble_eq_true rfl), (Nat.le_of_ble_eq_true rfl)⟩ rfl rfl (Nat.le_of_ble_eq_true rfl) ⟨hc1, hs1⟩ (by decide) ?_
    refine tc_icmp_eq 1030 dL_law_759 (by decide) (fun _ => ?_) (fun hne => absurd he hne)
    refine tc_widen (k := cc + 12) (n := sc + 881) (by omega) (by omega) ?_
    exact kk
  · cases h
set_option maxRecDepth 100000 in
set_option maxHeartbeats 4000000 in
theorem sc_law_20 {p : Program} {l : Launch} {e : Env} {s : State} {m0 : MethodId} {args : Array Value} {below : List Frame} {meth : Method} {c : Code} {z : Nat} {D : tc_D} {b len x m i : Nat} {xs : Nat → Int32} (hX : va_X b len xs s s.heap) (hbz : b < z) (hlen : len ≤ 3072) (hi3 : i + 6 ≤ len) {L L2 : tc_L} {u u2 : tc_S} {cc sc : Nat} (hc : cc + 12 ≤ room_1.cells) (hs : sc + 881 ≤ room_1.slots) (h : lw_c20 L x m xs i u = some (L2, u2)) (kk : tc_R p l e room_1 s m0 args below meth c z D cL_law RL 4 (some .boolean) room_1.cells room_1.slots (fun r _ _ => r = some (.int 1)) (cc + 12) (sc + 881) (tc_gl L2) u2 1030 [(0, .ref b), (1, .ref (z + x)), (2, .ref (z + m)), (3, .int (nI i))] []) : tc_R p l e room_1 s m0 args below meth c z D cL_law RL 4 (some .boolean) room_1.cells room_1.slots (fun r _ _ => r = some (.int 1)) cc sc (tc_gl L) u 764 [(0, .ref b), (1, .ref (z + x)), (2, .ref (z + m)), (3, .int (nI i))] [] := by
  have hc1 : cc + 0 ≤ room_1.cells := by show cc + 0 ≤ room_1.cells; omega
  have hs1 : sc + 0 ≤ room_1.slots := by show sc + 0 ≤ room_1.slots; omega
  unfold lw_c20 at h
  obtain ⟨hW, h⟩ := tc_wc_ex h
  obtain ⟨ix, h⟩ := tc_kd_ex h
  obtain ⟨im, h⟩ := tc_kd_ex h
  obtain ⟨r1, u3, hq1, h⟩ := tc_b_ex h
  obtain ⟨r2, u4, hq2, h⟩ := tc_b_ex h
  split at h
  · rename_i he
    cases h
    refine tc_widen (k := cc) (n := sc) (Nat.le_refl _) (Nat.le_refl _) ?_
    refine tc_aload_n 1 rfl dL_law_764 ?_
    refine lw_arg (k := 1) hX hbz hlen hi3 (by omega) dL_law_765 dL_law_766 dL_law_767 dL_law_768 dL_law_769 ?_
    refine tc_callVi [.int (xs (i + 1))] dL_law_770 ix.1 (ct_X11_least hW ix hq1) ml_L_102 mw_X11_least mv_X11_least ⟨(Nat.le_of_ble_eq_true rfl), (Nat.le_of_ble_eq_true rfl)⟩ rfl rfl (Nat.le_of_ble_eq_true rfl) ⟨hc1, hs1⟩ (by decide) ?_
    refine tc_aload_n 2 rfl dL_law_773 ?_
    refine lw_arg (k := 1) hX hbz hlen hi3 (by omega) dL_law_774 dL_law_775 dL_law_776 dL_law_777 dL_law_778 ?_
    refine tc_callVi [.int (xs (i + 1))] dL_law_779 im.1 (ct_X12_least hW im hq2) ml_L_105 mw_X12_least mv_X12_least ⟨(Nat.le_of_ble_eq_true rfl), (Nat.le_of_ble_eq_true rfl)⟩ rfl rfl (Nat.le_of_ble_eq_true rfl) ⟨hc1, hs1⟩ (by decide) ?_
    refine tc_icmp_eq 1030 dL_law_782 (by decide) (fun _ => ?_) (fun hne => absurd he hne)
    refine tc_widen (k := cc + 12) (n := sc + 881) (by omega) (by omega) ?_
    exact kk
  · cases h
set_option maxRecDepth 100000 in
set_option maxHeartbeats 4000000 in
theorem sc_law_21 {p : Program} {l : Launch} {e : Env} {s : State} {m0 : MethodId} {args : Array Value} {below : List Frame} {meth : Method} {c : Code} {z : Nat} {D : tc_D} {b len x m i : Nat} {xs : Nat → Int32} (hX : va_X b len xs s s.heap) (hbz : b < z) (hlen : len ≤ 3072) (hi3 : i + 6 ≤ len) {L L2 : tc_L} {u u2 : tc_S} {cc sc : Nat} (hc : cc + 12 ≤ room_1.cells) (hs : sc + 881 ≤ room_1.slots) (h : lw_c21 L x m xs i u = some (L2, u2)) (kk : tc_R p l e room_1 s m0 args below meth c z D cL_law RL 4 (some .boolean) room_1.cells room_1.slots (fun r _ _ => r = some (.int 1)) (cc + 12) (sc + 881) (tc_gl L2) u2 1030 [(0, .ref b), (1, .ref (z + x)), (2, .ref (z + m)), (3, .int (nI i))] []) : tc_R p l e room_1 s m0 args below meth c z D cL_law RL 4 (some .boolean) room_1.cells room_1.slots (fun r _ _ => r = some (.int 1)) cc sc (tc_gl L) u 787 [(0, .ref b), (1, .ref (z + x)), (2, .ref (z + m)), (3, .int (nI i))] [] := by
  have hc1 : cc + 0 ≤ room_1.cells := by show cc + 0 ≤ room_1.cells; omega
  have hs1 : sc + 0 ≤ room_1.slots := by show sc + 0 ≤ room_1.slots; omega
  unfold lw_c21 at h
  obtain ⟨hW, h⟩ := tc_wc_ex h
  obtain ⟨ix, h⟩ := tc_kd_ex h
  obtain ⟨im, h⟩ := tc_kd_ex h
  obtain ⟨r1, u3, hq1, h⟩ := tc_b_ex h
  obtain ⟨r2, u4, hq2, h⟩ := tc_b_ex h
  split at h
  · rename_i he
    cases h
    refine tc_widen (k := cc) (n := sc) (Nat.le_refl _) (Nat.le_refl _) ?_
    refine tc_aload_n 1 rfl dL_law_787 ?_
    refine lw_arg (k := 1) hX hbz hlen hi3 (by omega) dL_law_788 dL_law_789 dL_law_790 dL_law_791 dL_law_792 ?_
    refine lw_arg (k := 2) hX hbz hlen hi3 (by omega) dL_law_793 dL_law_794 dL_law_795 dL_law_796 dL_law_797 ?_
    refine lw_bool 805 806 dL_law_798 (by decide) dL_law_801 dL_law_802 (by decide) dL_law_805 rfl ?_
    refine tc_callVi [.int (xs (i + 1)), .int (if xs (i + 2) = 0 then 0 else 1)] dL_law_806 ix.1 (ct_X11_key hW ix hq1) ml_L_106 mw_X11_key mv_X11_key ⟨(Nat.le_of_ble_eq_true rfl), (Nat.le_of_ble_eq_true rfl)⟩ rfl rfl (Nat.le_of_ble_eq_true rfl) ⟨hc1, hs1⟩ (by decide) ?_
    refine tc_aload_n 2 rfl dL_law_809 ?_
    refine lw_arg (k := 1) hX hbz hlen hi3 (by omega) dL_law_810 dL_law_811 dL_law_812 dL_law_813 dL_law_814 ?_
    refine lw_arg (k := 2) hX hbz hlen hi3 (by omega) dL_law_815 dL_law_816 dL_law_817 dL_law_818 dL_law_819 ?_
    refine lw_bool 827 828 dL_law_820 (by decide) dL_law_823 dL_law_824 (by decide) dL_law_827 rfl ?_
    refine tc_callVi [.int (xs (i + 1)), .int (if xs (i + 2) = 0 then 0 else 1)] dL_law_828 im.1 (ct_X12_key hW im hq2) ml_L_109 mw_X12_key mv_X12_key ⟨(Nat.le_of_ble_eq_true rfl), (Nat.le_of_ble_eq_true rfl)⟩ rfl rfl (Nat.le_of_ble_eq_true rfl) ⟨hc1, hs1⟩ (by decide) ?_
    refine tc_icmp_eq 1030 dL_law_831 (by decide) (fun _ => ?_) (fun hne => absurd he hne)
    refine tc_widen (k := cc + 12) (n := sc + 881) (by omega) (by omega) ?_
    exact kk
  · cases h
set_option maxRecDepth 100000 in
set_option maxHeartbeats 4000000 in
theorem sc_law_22 {p : Program} {l : Launch} {e : Env} {s : State} {m0 : MethodId} {args : Array Value} {below : List Frame} {meth : Method} {c : Code} {z : Nat} {D : tc_D} {b len x m i : Nat} {xs : Nat → Int32} (hX : va_X b len xs s s.heap) (hbz : b < z) (hlen : len ≤ 3072) (hi3 : i + 6 ≤ len) {L L2 : tc_L} {u u2 : tc_S} {cc sc : Nat} (hc : cc + 12 ≤ room_1.cells) (hs : sc + 881 ≤ room_1.slots) (h : lw_c22 L x m xs i u = some (L2, u2)) (kk : tc_R p l e room_1 s m0 args below meth c z D cL_law RL 4 (some .boolean) room_1.cells room_1.slots (fun r _ _ => r = some (.int 1)) (cc + 12) (sc + 881) (tc_gl L2) u2 1030 [(0, .ref b), (1, .ref (z + x)), (2, .ref (z + m)), (3, .int (nI i))] []) : tc_R p l e room_1 s m0 args below meth c z D cL_law RL 4 (some .boolean) room_1.cells room_1.slots (fun r _ _ => r = some (.int 1)) cc sc (tc_gl L) u 836 [(0, .ref b), (1, .ref (z + x)), (2, .ref (z + m)), (3, .int (nI i))] [] := by
  have hc1 : cc + 0 ≤ room_1.cells := by show cc + 0 ≤ room_1.cells; omega
  have hs1 : sc + 0 ≤ room_1.slots := by show sc + 0 ≤ room_1.slots; omega
  unfold lw_c22 at h
  obtain ⟨hW, h⟩ := tc_wc_ex h
  obtain ⟨ix, h⟩ := tc_kd_ex h
  obtain ⟨im, h⟩ := tc_kd_ex h
  obtain ⟨r1, u3, hq1, h⟩ := tc_b_ex h
  obtain ⟨r2, u4, hq2, h⟩ := tc_b_ex h
  split at h
  · rename_i he
    cases h
    refine tc_widen (k := cc) (n := sc) (Nat.le_refl _) (Nat.le_refl _) ?_
    refine tc_aload_n 1 rfl dL_law_836 ?_
    refine lw_arg (k := 1) hX hbz hlen hi3 (by omega) dL_law_837 dL_law_838 dL_law_839 dL_law_840 dL_law_841 ?_
    refine tc_callVi [.int (xs (i + 1))] dL_law_842 ix.1 (ct_X11_count hW ix hq1) ml_L_110 mw_X11_count mv_X11_count ⟨(Nat.le_of_ble_eq_true rfl), (Nat.le_of_ble_eq_true rfl)⟩ rfl rfl (Nat.le_of_ble_eq_true rfl) ⟨hc1, hs1⟩ (by decide) ?_
    refine tc_aload_n 2 rfl dL_law_845 ?_
    refine lw_arg (k := 1) hX hbz hlen hi3 (by omega) dL_law_846 dL_law_847 dL_law_848 dL_law_849 dL_law_850 ?_
    refine tc_callVi [.int (xs (i + 1))] dL_law_851 im.1 (ct_X12_count hW im hq2) ml_L_113 mw_X12_count mv_X12_count ⟨(Nat.le_of_ble_eq_true rfl), (Nat.le_of_ble_eq_true rfl)⟩ rfl rfl (Nat.le_of_ble_eq_true rfl) ⟨hc1, hs1⟩ (by decide) ?_
    refine tc_icmp_eq 1030 dL_law_854 (by decide) (fun _ => ?_) (fun hne => absurd he hne)
    refine tc_widen (k := cc + 12) (n := sc + 881) (by omega) (by omega) ?_
    exact kk
  · cases h
set_option maxRecDepth 100000 in
set_option maxHeartbeats 4000000 in
theorem sc_law_23 {p : Program} {l : Launch} {e : Env} {s : State} {m0 : MethodId} {args : Array Value} {below : List Frame} {meth : Method} {c : Code} {z : Nat} {D : tc_D} {b len x m i : Nat} {xs : Nat → Int32} (hX : va_X b len xs s s.heap) (hbz : b < z) (hlen : len ≤ 3072) (hi3 : i + 6 ≤ len) {L L2 : tc_L} {u u2 : tc_S} {cc sc : Nat} (hc : cc + 12 ≤ room_1.cells) (hs : sc + 881 ≤ room_1.slots) (h : lw_c23 L x m xs i u = some (L2, u2)) (kk : tc_R p l e room_1 s m0 args below meth c z D cL_law RL 4 (some .boolean) room_1.cells room_1.slots (fun r _ _ => r = some (.int 1)) (cc + 12) (sc + 881) (tc_gl L2) u2 1030 [(0, .ref b), (1, .ref (z + x)), (2, .ref (z + m)), (3, .int (nI i))] []) : tc_R p l e room_1 s m0 args below meth c z D cL_law RL 4 (some .boolean) room_1.cells room_1.slots (fun r _ _ => r = some (.int 1)) cc sc (tc_gl L) u 859 [(0, .ref b), (1, .ref (z + x)), (2, .ref (z + m)), (3, .int (nI i))] [] := by
  have hc1 : cc + 0 ≤ room_1.cells := by show cc + 0 ≤ room_1.cells; omega
  have hs1 : sc + 0 ≤ room_1.slots := by show sc + 0 ≤ room_1.slots; omega
  unfold lw_c23 at h
  obtain ⟨hW, h⟩ := tc_wc_ex h
  obtain ⟨ix, h⟩ := tc_kd_ex h
  obtain ⟨im, h⟩ := tc_kd_ex h
  obtain ⟨r1, u3, hq1, h⟩ := tc_b_ex h
  obtain ⟨r2, u4, hq2, h⟩ := tc_b_ex h
  split at h
  · rename_i he
    cases h
    refine tc_widen (k := cc) (n := sc) (Nat.le_refl _) (Nat.le_refl _) ?_
    refine tc_aload_n 1 rfl dL_law_859 ?_
    refine lw_arg (k := 1) hX hbz hlen hi3 (by omega) dL_law_860 dL_law_861 dL_law_862 dL_law_863 dL_law_864 ?_
    refine tc_callVi [.int (xs (i + 1))] dL_law_865 ix.1 (ct_X11_filled hW ix hq1) ml_L_114 mw_X11_filled mv_X11_filled ⟨(Nat.le_of_ble_eq_true rfl), (Nat.le_of_ble_eq_true rfl)⟩ rfl rfl (Nat.le_of_ble_eq_true rfl) ⟨hc1, hs1⟩ (by decide) ?_
    refine tc_aload_n 2 rfl dL_law_868 ?_
    refine lw_arg (k := 1) hX hbz hlen hi3 (by omega) dL_law_869 dL_law_870 dL_law_871 dL_law_872 dL_law_873 ?_
    refine tc_callVi [.int (xs (i + 1))] dL_law_874 im.1 (ct_X12_filled hW im hq2) ml_L_117 mw_X12_filled mv_X12_filled ⟨(Nat.le_of_ble_eq_true rfl), (Nat.le_of_ble_eq_true rfl)⟩ rfl rfl (Nat.le_of_ble_eq_true rfl) ⟨hc1, hs1⟩ (by decide) ?_
    refine tc_icmp_eq 1030 dL_law_877 (by decide) (fun _ => ?_) (fun hne => absurd he hne)
    refine tc_widen (k := cc + 12) (n := sc + 881) (by omega) (by omega) ?_
    exact kk
  · cases h
set_option maxRecDepth 100000 in
set_option maxHeartbeats 4000000 in
theorem sc_law_24 {p : Program} {l : Launch} {e : Env} {s : State} {m0 : MethodId} {args : Array Value} {below : List Frame} {meth : Method} {c : Code} {z : Nat} {D : tc_D} {b len x m i : Nat} {xs : Nat → Int32} (hX : va_X b len xs s s.heap) (hbz : b < z) (hlen : len ≤ 3072) (hi3 : i + 6 ≤ len) {L L2 : tc_L} {u u2 : tc_S} {cc sc : Nat} (hc : cc + 12 ≤ room_1.cells) (hs : sc + 881 ≤ room_1.slots) (h : lw_c24 L x m xs i u = some (L2, u2)) (kk : tc_R p l e room_1 s m0 args below meth c z D cL_law RL 4 (some .boolean) room_1.cells room_1.slots (fun r _ _ => r = some (.int 1)) (cc + 12) (sc + 881) (tc_gl L2) u2 1030 [(0, .ref b), (1, .ref (z + x)), (2, .ref (z + m)), (3, .int (nI i))] []) : tc_R p l e room_1 s m0 args below meth c z D cL_law RL 4 (some .boolean) room_1.cells room_1.slots (fun r _ _ => r = some (.int 1)) cc sc (tc_gl L) u 882 [(0, .ref b), (1, .ref (z + x)), (2, .ref (z + m)), (3, .int (nI i))] [] := by
  have hc1 : cc + 0 ≤ room_1.cells := by show cc + 0 ≤ room_1.cells; omega
  have hs1 : sc + 0 ≤ room_1.slots := by show sc + 0 ≤ room_1.slots; omega
  unfold lw_c24 at h
  obtain ⟨hW, h⟩ := tc_wc_ex h
  obtain ⟨ix, h⟩ := tc_kd_ex h
  obtain ⟨im, h⟩ := tc_kd_ex h
  obtain ⟨r1, u3, hq1, h⟩ := tc_b_ex h
  obtain ⟨r2, u4, hq2, h⟩ := tc_b_ex h
  split at h
  · rename_i he
    cases h
    refine tc_widen (k := cc) (n := sc) (Nat.le_refl _) (Nat.le_refl _) ?_
    refine tc_aload_n 1 rfl dL_law_882 ?_
    refine tc_callVi [] dL_law_883 ix.1 (ct_X11_restless hW ix hq1) ml_L_118 mw_X11_restless mv_X11_restless ⟨(Nat.le_of_ble_eq_true rfl), (Nat.le_of_ble_eq_true rfl)⟩ rfl rfl (Nat.le_of_ble_eq_true rfl) ⟨hc1, hs1⟩ (by decide) ?_
    refine tc_aload_n 2 rfl dL_law_886 ?_
    refine tc_callVi [] dL_law_887 im.1 (ct_X12_restless hW im hq2) ml_L_121 mw_X12_restless mv_X12_restless ⟨(Nat.le_of_ble_eq_true rfl), (Nat.le_of_ble_eq_true rfl)⟩ rfl rfl (Nat.le_of_ble_eq_true rfl) ⟨hc1, hs1⟩ (by decide) ?_
    refine tc_icmp_eq 1030 dL_law_890 (by decide) (fun _ => ?_) (fun hne => absurd he hne)
    refine tc_widen (k := cc + 12) (n := sc + 881) (by omega) (by omega) ?_
    exact kk
  · cases h
set_option maxRecDepth 100000 in
set_option maxHeartbeats 4000000 in
theorem sc_law_25 {p : Program} {l : Launch} {e : Env} {s : State} {m0 : MethodId} {args : Array Value} {below : List Frame} {meth : Method} {c : Code} {z : Nat} {D : tc_D} {b len x m i : Nat} {xs : Nat → Int32} (hX : va_X b len xs s s.heap) (hbz : b < z) (hlen : len ≤ 3072) (hi3 : i + 6 ≤ len) {L L2 : tc_L} {u u2 : tc_S} {cc sc : Nat} (hc : cc + 12 ≤ room_1.cells) (hs : sc + 881 ≤ room_1.slots) (h : lw_c25 L x m xs i u = some (L2, u2)) (kk : tc_R p l e room_1 s m0 args below meth c z D cL_law RL 4 (some .boolean) room_1.cells room_1.slots (fun r _ _ => r = some (.int 1)) (cc + 12) (sc + 881) (tc_gl L2) u2 1030 [(0, .ref b), (1, .ref (z + x)), (2, .ref (z + m)), (3, .int (nI i))] []) : tc_R p l e room_1 s m0 args below meth c z D cL_law RL 4 (some .boolean) room_1.cells room_1.slots (fun r _ _ => r = some (.int 1)) cc sc (tc_gl L) u 895 [(0, .ref b), (1, .ref (z + x)), (2, .ref (z + m)), (3, .int (nI i))] [] := by
  have hc1 : cc + 0 ≤ room_1.cells := by show cc + 0 ≤ room_1.cells; omega
  have hs1 : sc + 0 ≤ room_1.slots := by show sc + 0 ≤ room_1.slots; omega
  unfold lw_c25 at h
  obtain ⟨hW, h⟩ := tc_wc_ex h
  obtain ⟨ix, h⟩ := tc_kd_ex h
  obtain ⟨im, h⟩ := tc_kd_ex h
  obtain ⟨r1, u3, hq1, h⟩ := tc_b_ex h
  obtain ⟨r2, u4, hq2, h⟩ := tc_b_ex h
  split at h
  · rename_i he
    cases h
    refine tc_widen (k := cc) (n := sc) (Nat.le_refl _) (Nat.le_refl _) ?_
    refine tc_aload_n 1 rfl dL_law_895 ?_
    refine lw_arg (k := 1) hX hbz hlen hi3 (by omega) dL_law_896 dL_law_897 dL_law_898 dL_law_899 dL_law_900 ?_
    refine tc_callVi [.int (xs (i + 1))] dL_law_901 ix.1 (ct_X11_which hW ix hq1) ml_L_122 mw_X11_which mv_X11_which ⟨(Nat.le_of_ble_eq_true rfl), (Nat.le_of_ble_eq_true rfl)⟩ rfl rfl (Nat.le_of_ble_eq_true rfl) ⟨hc1, hs1⟩ (by decide) ?_
    refine tc_aload_n 2 rfl dL_law_904 ?_
    refine lw_arg (k := 1) hX hbz hlen hi3 (by omega) dL_law_905 dL_law_906 dL_law_907 dL_law_908 dL_law_909 ?_
    refine tc_callVi [.int (xs (i + 1))] dL_law_910 im.1 (ct_X12_which hW im hq2) ml_L_125 mw_X12_which mv_X12_which ⟨(Nat.le_of_ble_eq_true rfl), (Nat.le_of_ble_eq_true rfl)⟩ rfl rfl (Nat.le_of_ble_eq_true rfl) ⟨hc1, hs1⟩ (by decide) ?_
    refine tc_icmp_eq 1030 dL_law_913 (by decide) (fun _ => ?_) (fun hne => absurd he hne)
    refine tc_widen (k := cc + 12) (n := sc + 881) (by omega) (by omega) ?_
    exact kk
  · cases h
set_option maxRecDepth 100000 in
set_option maxHeartbeats 4000000 in
theorem sc_law_26 {p : Program} {l : Launch} {e : Env} {s : State} {m0 : MethodId} {args : Array Value} {below : List Frame} {meth : Method} {c : Code} {z : Nat} {D : tc_D} {b len x m i : Nat} {xs : Nat → Int32} (hX : va_X b len xs s s.heap) (hbz : b < z) (hlen : len ≤ 3072) (hi3 : i + 6 ≤ len) {L L2 : tc_L} {u u2 : tc_S} {cc sc : Nat} (hc : cc + 12 ≤ room_1.cells) (hs : sc + 881 ≤ room_1.slots) (h : lw_c26 L x m xs i u = some (L2, u2)) (kk : tc_R p l e room_1 s m0 args below meth c z D cL_law RL 4 (some .boolean) room_1.cells room_1.slots (fun r _ _ => r = some (.int 1)) (cc + 12) (sc + 881) (tc_gl L2) u2 1030 [(0, .ref b), (1, .ref (z + x)), (2, .ref (z + m)), (3, .int (nI i))] []) : tc_R p l e room_1 s m0 args below meth c z D cL_law RL 4 (some .boolean) room_1.cells room_1.slots (fun r _ _ => r = some (.int 1)) cc sc (tc_gl L) u 918 [(0, .ref b), (1, .ref (z + x)), (2, .ref (z + m)), (3, .int (nI i))] [] := by
  have hc1 : cc + 0 ≤ room_1.cells := by show cc + 0 ≤ room_1.cells; omega
  have hs1 : sc + 0 ≤ room_1.slots := by show sc + 0 ≤ room_1.slots; omega
  unfold lw_c26 at h
  obtain ⟨hW, h⟩ := tc_wc_ex h
  obtain ⟨ix, h⟩ := tc_kd_ex h
  obtain ⟨im, h⟩ := tc_kd_ex h
  obtain ⟨r1, u3, hq1, h⟩ := tc_b_ex h
  obtain ⟨r2, u4, hq2, h⟩ := tc_b_ex h
  split at h
  · rename_i he
    cases h
    refine tc_widen (k := cc) (n := sc) (Nat.le_refl _) (Nat.le_refl _) ?_
    refine tc_aload_n 1 rfl dL_law_918 ?_
    refine lw_arg (k := 1) hX hbz hlen hi3 (by omega) dL_law_919 dL_law_920 dL_law_921 dL_law_922 dL_law_923 ?_
    refine lw_arg (k := 2) hX hbz hlen hi3 (by omega) dL_law_924 dL_law_925 dL_law_926 dL_law_927 dL_law_928 ?_
    refine lw_arg (k := 3) hX hbz hlen hi3 (by omega) dL_law_929 dL_law_930 dL_law_931 dL_law_932 dL_law_933 ?_
    refine tc_callVi [.int (xs (i + 1)), .int (xs (i + 2)), .int (xs (i + 3))] dL_law_934 ix.1 (ct_X11_tried hW ix hq1) ml_L_126 mw_X11_tried mv_X11_tried ⟨(Nat.le_of_ble_eq_true rfl), (Nat.le_of_ble_eq_true rfl)⟩ rfl rfl (Nat.le_of_ble_eq_true rfl) ⟨hc1, hs1⟩ (by decide) ?_
    refine tc_aload_n 2 rfl dL_law_937 ?_
    refine lw_arg (k := 1) hX hbz hlen hi3 (by omega) dL_law_938 dL_law_939 dL_law_940 dL_law_941 dL_law_942 ?_
    refine lw_arg (k := 2) hX hbz hlen hi3 (by omega) dL_law_943 dL_law_944 dL_law_945 dL_law_946 dL_law_947 ?_
    refine lw_arg (k := 3) hX hbz hlen hi3 (by omega) dL_law_948 dL_law_949 dL_law_950 dL_law_951 dL_law_952 ?_
    refine tc_callVi [.int (xs (i + 1)), .int (xs (i + 2)), .int (xs (i + 3))] dL_law_953 im.1 (ct_X12_tried hW im hq2) ml_L_129 mw_X12_tried mv_X12_tried ⟨(Nat.le_of_ble_eq_true rfl), (Nat.le_of_ble_eq_true rfl)⟩ rfl rfl (Nat.le_of_ble_eq_true rfl) ⟨hc1, hs1⟩ (by decide) ?_
    refine tc_icmp_eq 1030 dL_law_956 (by decide) (fun _ => ?_) (fun hne => absurd he hne)
    refine tc_widen (k := cc + 12) (n := sc + 881) (by omega) (by omega) ?_
    exact kk
  · cases h
set_option maxRecDepth 100000 in
set_option maxHeartbeats 4000000 in
theorem sc_law_27 {p : Program} {l : Launch} {e : Env} {s : State} {m0 : MethodId} {args : Array Value} {below : List Frame} {meth : Method} {c : Code} {z : Nat} {D : tc_D} {b len x m i : Nat} {xs : Nat → Int32} (hX : va_X b len xs s s.heap) (hbz : b < z) (hlen : len ≤ 3072) (hi3 : i + 6 ≤ len) {L L2 : tc_L} {u u2 : tc_S} {cc sc : Nat} (hc : cc + 12 ≤ room_1.cells) (hs : sc + 881 ≤ room_1.slots) (h : lw_c27 L x m xs i u = some (L2, u2)) (kk : tc_R p l e room_1 s m0 args below meth c z D cL_law RL 4 (some .boolean) room_1.cells room_1.slots (fun r _ _ => r = some (.int 1)) (cc + 12) (sc + 881) (tc_gl L2) u2 1030 [(0, .ref b), (1, .ref (z + x)), (2, .ref (z + m)), (3, .int (nI i))] []) : tc_R p l e room_1 s m0 args below meth c z D cL_law RL 4 (some .boolean) room_1.cells room_1.slots (fun r _ _ => r = some (.int 1)) cc sc (tc_gl L) u 961 [(0, .ref b), (1, .ref (z + x)), (2, .ref (z + m)), (3, .int (nI i))] [] := by
  have hc1 : cc + 0 ≤ room_1.cells := by show cc + 0 ≤ room_1.cells; omega
  have hs1 : sc + 0 ≤ room_1.slots := by show sc + 0 ≤ room_1.slots; omega
  unfold lw_c27 at h
  obtain ⟨hW, h⟩ := tc_wc_ex h
  obtain ⟨ix, h⟩ := tc_kd_ex h
  obtain ⟨im, h⟩ := tc_kd_ex h
  obtain ⟨r1, u3, hq1, h⟩ := tc_b_ex h
  obtain ⟨r2, u4, hq2, h⟩ := tc_b_ex h
  split at h
  · rename_i he
    cases h
    refine tc_widen (k := cc) (n := sc) (Nat.le_refl _) (Nat.le_refl _) ?_
    refine tc_aload_n 1 rfl dL_law_961 ?_
    refine lw_arg (k := 1) hX hbz hlen hi3 (by omega) dL_law_962 dL_law_963 dL_law_964 dL_law_965 dL_law_966 ?_
    refine tc_callVi [.int (xs (i + 1))] dL_law_967 ix.1 (ct_X11_lost hW ix hq1) ml_L_130 mw_X11_lost mv_X11_lost ⟨(Nat.le_of_ble_eq_true rfl), (Nat.le_of_ble_eq_true rfl)⟩ rfl rfl (Nat.le_of_ble_eq_true rfl) ⟨hc1, hs1⟩ (by decide) ?_
    refine tc_aload_n 2 rfl dL_law_970 ?_
    refine lw_arg (k := 1) hX hbz hlen hi3 (by omega) dL_law_971 dL_law_972 dL_law_973 dL_law_974 dL_law_975 ?_
    refine tc_callVi [.int (xs (i + 1))] dL_law_976 im.1 (ct_X12_lost hW im hq2) ml_L_133 mw_X12_lost mv_X12_lost ⟨(Nat.le_of_ble_eq_true rfl), (Nat.le_of_ble_eq_true rfl)⟩ rfl rfl (Nat.le_of_ble_eq_true rfl) ⟨hc1, hs1⟩ (by decide) ?_
    refine tc_icmp_eq 1030 dL_law_979 (by decide) (fun _ => ?_) (fun hne => absurd he hne)
    refine tc_widen (k := cc + 12) (n := sc + 881) (by omega) (by omega) ?_
    exact kk
  · cases h
set_option maxRecDepth 100000 in
set_option maxHeartbeats 4000000 in
theorem sc_law_28 {p : Program} {l : Launch} {e : Env} {s : State} {m0 : MethodId} {args : Array Value} {below : List Frame} {meth : Method} {c : Code} {z : Nat} {D : tc_D} {b len x m i : Nat} {xs : Nat → Int32} (hX : va_X b len xs s s.heap) (hbz : b < z) (hlen : len ≤ 3072) (hi3 : i + 6 ≤ len) {L L2 : tc_L} {u u2 : tc_S} {cc sc : Nat} (hc : cc + 12 ≤ room_1.cells) (hs : sc + 881 ≤ room_1.slots) (h : lw_c28 L x m xs i u = some (L2, u2)) (kk : tc_R p l e room_1 s m0 args below meth c z D cL_law RL 4 (some .boolean) room_1.cells room_1.slots (fun r _ _ => r = some (.int 1)) (cc + 12) (sc + 881) (tc_gl L2) u2 1030 [(0, .ref b), (1, .ref (z + x)), (2, .ref (z + m)), (3, .int (nI i))] []) : tc_R p l e room_1 s m0 args below meth c z D cL_law RL 4 (some .boolean) room_1.cells room_1.slots (fun r _ _ => r = some (.int 1)) cc sc (tc_gl L) u 984 [(0, .ref b), (1, .ref (z + x)), (2, .ref (z + m)), (3, .int (nI i))] [] := by
  have hc1 : cc + 0 ≤ room_1.cells := by show cc + 0 ≤ room_1.cells; omega
  have hs1 : sc + 0 ≤ room_1.slots := by show sc + 0 ≤ room_1.slots; omega
  unfold lw_c28 at h
  have hc2 : cc + 12 ≤ room_1.cells := hc
  have hs2 : sc + 881 ≤ room_1.slots := hs
  have hc3 : cc + 12 + 0 ≤ room_1.cells := hc
  have hs3 : sc + 881 + 0 ≤ room_1.slots := hs
  obtain ⟨ix, h⟩ := tc_kd_ex h
  obtain ⟨r1, L3, u3, hq1, h⟩ := tc_bi_ex h
  obtain ⟨hW2, h⟩ := tc_wc_ex h
  obtain ⟨im, h⟩ := tc_kd_ex h
  obtain ⟨r2, u4, hq2, h⟩ := tc_b_ex h
  split at h
  · rename_i he
    cases h
    refine tc_aload_n 1 rfl dL_law_984 ?_
    refine lw_arg (k := 1) hX hbz hlen hi3 (by omega) dL_law_985 dL_law_986 dL_law_987 dL_law_988 dL_law_989 ?_
    refine tc_callVim [.int (xs (i + 1))] dL_law_990 ix.1 (ct_X11_image hq1) ml_L_134 mw_X11_image mv_X11_image ⟨(Nat.le_of_ble_eq_true rfl), (Nat.le_of_ble_eq_true rfl)⟩ rfl rfl (Nat.le_of_ble_eq_true rfl) ⟨hc2, hs2⟩ (by decide) ?_
    refine tc_aload_n 2 rfl dL_law_993 ?_
    refine lw_arg (k := 1) hX hbz hlen hi3 (by omega) dL_law_994 dL_law_995 dL_law_996 dL_law_997 dL_law_998 ?_
    refine tc_callVi [.int (xs (i + 1))] dL_law_999 im.1 (ct_X12_image hW2 im hq2) ml_L_137 mw_X12_image mv_X12_image ⟨(Nat.le_of_ble_eq_true rfl), (Nat.le_of_ble_eq_true rfl)⟩ rfl rfl (Nat.le_of_ble_eq_true rfl) ⟨hc3, hs3⟩ (by decide) ?_
    refine tc_icmp_eq 1030 dL_law_1002 (by decide) (fun _ => ?_) (fun hne => absurd he hne)
    exact kk
  · cases h
set_option maxRecDepth 100000 in
set_option maxHeartbeats 4000000 in
theorem sc_law_29 {p : Program} {l : Launch} {e : Env} {s : State} {m0 : MethodId} {args : Array Value} {below : List Frame} {meth : Method} {c : Code} {z : Nat} {D : tc_D} {b len x m i : Nat} {xs : Nat → Int32} (hX : va_X b len xs s s.heap) (hbz : b < z) (hlen : len ≤ 3072) (hi3 : i + 6 ≤ len) {L L2 : tc_L} {u u2 : tc_S} {cc sc : Nat} (hc : cc + 12 ≤ room_1.cells) (hs : sc + 881 ≤ room_1.slots) (h : lw_c29 L x m xs i u = some (L2, u2)) (kk : tc_R p l e room_1 s m0 args below meth c z D cL_law RL 4 (some .boolean) room_1.cells room_1.slots (fun r _ _ => r = some (.int 1)) (cc + 12) (sc + 881) (tc_gl L2) u2 1030 [(0, .ref b), (1, .ref (z + x)), (2, .ref (z + m)), (3, .int (nI i))] []) : tc_R p l e room_1 s m0 args below meth c z D cL_law RL 4 (some .boolean) room_1.cells room_1.slots (fun r _ _ => r = some (.int 1)) cc sc (tc_gl L) u 1007 [(0, .ref b), (1, .ref (z + x)), (2, .ref (z + m)), (3, .int (nI i))] [] := by
  have hc1 : cc + 0 ≤ room_1.cells := by show cc + 0 ≤ room_1.cells; omega
  have hs1 : sc + 0 ≤ room_1.slots := by show sc + 0 ≤ room_1.slots; omega
  unfold lw_c29 at h
  obtain ⟨hW, h⟩ := tc_wc_ex h
  obtain ⟨ix, h⟩ := tc_kd_ex h
  obtain ⟨im, h⟩ := tc_kd_ex h
  obtain ⟨r1, u3, hq1, h⟩ := tc_b_ex h
  obtain ⟨r2, u4, hq2, h⟩ := tc_b_ex h
  split at h
  · rename_i he
    cases h
    refine tc_widen (k := cc) (n := sc) (Nat.le_refl _) (Nat.le_refl _) ?_
    refine tc_aload_n 1 rfl dL_law_1007 ?_
    refine lw_arg (k := 1) hX hbz hlen hi3 (by omega) dL_law_1008 dL_law_1009 dL_law_1010 dL_law_1011 dL_law_1012 ?_
    refine tc_callVi [.int (xs (i + 1))] dL_law_1013 ix.1 (ct_X11_again hW ix hq1) ml_L_138 mw_X11_again mv_X11_again ⟨(Nat.le_of_ble_eq_true rfl), (Nat.le_of_ble_eq_true rfl)⟩ rfl rfl (Nat.le_of_ble_eq_true rfl) ⟨hc1, hs1⟩ (by decide) ?_
    refine tc_aload_n 2 rfl dL_law_1016 ?_
    refine lw_arg (k := 1) hX hbz hlen hi3 (by omega) dL_law_1017 dL_law_1018 dL_law_1019 dL_law_1020 dL_law_1021 ?_
    refine tc_callVi [.int (xs (i + 1))] dL_law_1022 im.1 (ct_X12_again hW im hq2) ml_L_141 mw_X12_again mv_X12_again ⟨(Nat.le_of_ble_eq_true rfl), (Nat.le_of_ble_eq_true rfl)⟩ rfl rfl (Nat.le_of_ble_eq_true rfl) ⟨hc1, hs1⟩ (by decide) ?_
    refine tc_icmp_eq 1030 dL_law_1025 (by decide) (fun _ => ?_) (fun hne => absurd he hne)
    refine tc_widen (k := cc + 12) (n := sc + 881) (by omega) (by omega) ?_
    exact kk
  · cases h
