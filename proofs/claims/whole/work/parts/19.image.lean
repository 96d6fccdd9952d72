/-! image(k): a World may be made -/
def tc_pi (r : Int32) (L : tc_L) (u : tc_S) : Option Value → tc_G → tc_S → Prop := fun r1 G1 u1 => r1 = some (.int r) ∧ G1 = tc_gl L ∧ u1 = u
section TCM
variable {p : Program} {l : Launch} {e : Env} {R : Room} {s : State} {m : MethodId} {args : Array Value} {below : List Frame} {meth : Method} {c : Code} {z : Nat} {D : tc_D} {cc : ByteArray} {own : String} {nL : Nat} {ret : Option FieldType} {mc ms : Nat} {post : Option Value → tc_G → tc_S → Prop} {cells slots : Nat} {G : tc_G} {u : tc_S} {pc : Nat} {lv : List (Nat × Value)} {rest : List Value} {L : tc_L}
theorem tc_aast {a w : Nat} {j : Int32} (ha : tc_at (tc_gl L) a 103) (hw : tc_at (tc_gl L) w 10) (hin : vp_in j ((tc_gl L).2.2.1 a)) (hk : j.toNatClampNeg < (tc_k0 L a).2.2.length) (hd : decode cc pc = .ok (.aastore, 1)) (kk : tc_R p l e R s m args below meth c z D cc own nL ret mc ms post cells slots (tc_gl (tc_sp L a j.toNatClampNeg w)) u (pc + 1) lv rest) : tc_R p l e R s m args below meth c z D cc own nL ret mc ms post cells slots (tc_gl L) u pc lv (.ref (z + w) :: .int j :: .ref (z + a) :: rest) := by
  intro ok H locs ls hH h0 hL hl
  obtain ⟨hx, hb, hml, hown, hts, hK, hlk, hrt, hX⟩ := id ok
  have hlt : j.toNatClampNeg < (tc_gl L).2.2.1 a := Nat.not_le.mp fun q => hin (Or.inr q)
  have hj0 : ¬ j < 0 := fun q => hin (Or.inl q)
  have haL : a < L.length := ha.1
  obtain ⟨r, g0, cellV, g1, g2, g3, -⟩ := hH.ob hw (by decide)
  have hr : r = (RX10, TX10, 5) := Option.some.inj (g0.symm.trans rfl)
  subst hr
  have hcls := (hK.1 10 _ rfl).2
  obtain ⟨kA, comp, k1, k2, k3, -⟩ := (hK.2 3 _ rfl).2
  have hcomp : comp = D.1.1 10 := Option.some.inj (k3.symm.trans hcls.1)
  subst hcomp
  obtain ⟨kC, hkC, -⟩ := hcls.2
  refine W.aast hx hb (hH.arq ha) (fun q h => by cases h) (fun h => by cases h) k1 k2 rfl hkC ⟨hj0, by show _ < (arrV _ _ _).slots.size; rw [arrV_size]; exact hlt⟩ g1 (fun q h => by rw [g3] at h; cases h) (by rw [g2]; exact hkC) (by rw [g2]; exact va_assign hcls) rfl rfl hd fun H1 e1 z1 oq => ?_
  refine kk ok H1 _ ls ⟨?_, fun i hi => ?_, fun i hi hk2 k => ?_⟩ (fun q hq => (oq q (Nat.ne_of_lt (Nat.lt_of_lt_of_le hq (Nat.le_add_right _ _)))).trans (h0 q hq)) (tc_locs hL) hl
  · rw [z1]; simpa [tc_gl, tc_sp] using hH.1
  · have hi : i < L.length := by simpa [tc_gl, tc_sp] using hi
    by_cases ei : i = a
    · subst ei
      have ek : (tc_gl (tc_sp L i j.toNatClampNeg w)).2.1 i = 103 := by show (tc_k0 (tc_sp L i j.toNatClampNeg w) i).1 = 103; rw [tc_sp_self haL]; exact ha.2
      have el : (tc_gl (tc_sp L i j.toNatClampNeg w)).2.2.1 i = (tc_gl L).2.2.1 i := by show (tc_k0 (tc_sp L i j.toNatClampNeg w) i).2.1 = _; rw [tc_sp_self haL]; rfl
      have ep : (tc_gl (tc_sp L i j.toNatClampNeg w)).2.2.2 i = fun k => ((tc_k0 L i).2.2.set j.toNatClampNeg (some w)).getD k none := by funext k; show (tc_k0 (tc_sp L i j.toNatClampNeg w) i).2.2.getD k none = _; rw [tc_sp_self haL]
      unfold tc_cell
      rw [ek, el, ep, if_neg (by decide), if_neg (by decide), e1, vp_cell_q, vp_cell_q, arrV_store]
      congr 2
      funext k
      by_cases hq : k = j.toNatClampNeg
      · subst hq
        simp only [updV, if_true]
        rw [List.getD_eq_getElem?_getD, List.getElem?_set_self hk]
        rfl
      · simp only [updV, if_neg hq]
        rw [List.getD_eq_getElem?_getD, List.getElem?_set_ne (Ne.symm hq), ← List.getD_eq_getElem?_getD]
        rfl
    · refine (hH.2.1 i hi).to (oq _ (fun q => ei (Nat.add_left_cancel q))) rfl rfl ?_ (Or.inr ?_) ?_
      · show (tc_k0 (tc_sp L a j.toNatClampNeg w) i).1 = _; rw [tc_sp_other ei]; rfl
      · show (tc_k0 (tc_sp L a j.toNatClampNeg w) i).2.1 = _; rw [tc_sp_other ei]; rfl
      · funext k; show (tc_k0 (tc_sp L a j.toNatClampNeg w) i).2.2.getD k none = _; rw [tc_sp_other ei]; rfl
  · have hi : i < L.length := by simpa [tc_gl, tc_sp] using hi
    refine hH.2.2 i hi ?_ k
    have hk2 : (tc_k0 (tc_sp L a j.toNatClampNeg w) i).1 = 101 := hk2
    by_cases ei : i = a
    · subst ei; rw [tc_sp_self haL] at hk2; exact hk2
    · rw [tc_sp_other ei] at hk2; exact hk2
end TCM
def bl_X11_image_33 (L : tc_L) (v0 : Nat) (v1 : Int32) (u : tc_S) : Option (Int32 × tc_L × tc_S) :=
  tc_wc L <| tc_kd L v0 11 <| if v1 < 0 ∨ (tc_gl L).2.2.1 (tc_p (tc_gl L) v0 1) ≤ v1.toNatClampNeg then none else tc_gp L (tc_p (tc_gl L) v0 1) v1.toNatClampNeg fun w => tc_b (fn_X10_copyFrom (tc_gl L) w (tc_p (tc_gl L) v0 0) u) fun _ u3 => some (1, L, u3)
def fn_X11_image (L : tc_L) (v0 : Nat) (v1 : Int32) (u : tc_S) : Option (Int32 × tc_L × tc_S) :=
  if v1 < 0 then some (0, L, u) else if v1 < 3 then
    tc_wc L <| tc_kd L v0 11 <| if v1 < 0 ∨ (tc_gl L).2.2.1 (tc_p (tc_gl L) v0 1) ≤ v1.toNatClampNeg then none else
      match (tc_gl L).2.2.2 (tc_p (tc_gl L) v0 1) v1.toNatClampNeg with
      | some _ => bl_X11_image_33 L v0 v1 u
      | none => tc_let L.length fun n1 => tc_let (L ++ [(10, 1, List.replicate 5 none)]) fun L1 => tc_let (tc_z u L.length) fun u1 => tc_bl (fn_X10_init L1 n1 u1) fun L2 u2 => tc_kc L2 (tc_p (tc_gl L) v0 1) 103 <| tc_kc L2 n1 10 <| tc_ks L2 (tc_p (tc_gl L) v0 1) v1.toNatClampNeg <| if v1 < 0 ∨ (tc_gl L2).2.2.1 (tc_p (tc_gl L) v0 1) ≤ v1.toNatClampNeg then none else bl_X11_image_33 (tc_sp L2 (tc_p (tc_gl L) v0 1) v1.toNatClampNeg n1) v0 v1 u2
  else some (0, L, u)
set_option maxRecDepth 100000 in
set_option maxHeartbeats 4000000 in
theorem sb_X11_image_33 {p : Program} {l : Launch} {e : Env} {s : State} {m : MethodId} {args : Array Value} {below : List Frame} {meth : Method} {c : Code} {z : Nat} {D : tc_D} {L : tc_L} {v0 : Nat} {v1 : Int32} {u : tc_S} {r : Int32} {Lr : tc_L} {ur : tc_S} (h : bl_X11_image_33 L v0 v1 u = some (r, Lr, ur)) :
    tc_R p l e { frames := 5, cells := 12, slots := 881, locals := 105 } s m args below meth c z D cX11_image RX11 2 (some .boolean) 12 881 (tc_pi r Lr ur) 12 881 (tc_gl L) u 33 [(0, .ref (z + v0)), (1, .int v1)] [] := by
  unfold bl_X11_image_33 at h
  obtain ⟨hW, h⟩ := tc_wc_ex h
  obtain ⟨iv0, h⟩ := tc_kd_ex h
  split at h
  · cases h
  · rename_i hb
    obtain ⟨w, hw, h⟩ := tc_gp_ex h
    obtain ⟨x, u3, hq, h⟩ := tc_b_ex h
    cases h
    have iw : tc_is (tc_gl L) w 10 := hW.2 _ (hW.p iv0 1 rfl).1 _ _ hw
    refine tc_aload_n 0 rfl dX11_image_33 ?_
    refine tc_getp hW iv0 fl_X11_16 dX11_image_34 rfl ?_
    refine tc_iload_n 1 rfl dX11_image_37 ?_
    refine tc_aald (hW.p iv0 1 rfl).1 hb dX11_image_38 ?_
    refine tc_eqs (st2 := [.ref (z + w)]) (by rw [hw]; rfl) ?_
    refine tc_aload_n 0 rfl dX11_image_39 ?_
    refine tc_getp hW iv0 fl_X11_12 dX11_image_40 rfl ?_
    refine tc_callVv [.ref (z + tc_p (tc_gl L) v0 0)] dX11_image_43 iw.1 (ct_X10_copyFrom hW iw (hW.p iv0 0 rfl) hq) ml_X11_300 mw_X10_copyFrom mv_X10_copyFrom ⟨Nat.le_of_ble_eq_true rfl, Nat.le_of_ble_eq_true rfl⟩ rfl rfl (Nat.le_of_ble_eq_true rfl) ⟨Nat.le_of_ble_eq_true rfl, Nat.le_of_ble_eq_true rfl⟩ (by decide) ?_
    refine tc_iconst (v := 1) (by decide) dX11_image_46 ?_
    exact tc_zreturn (Or.inr rfl) rfl dX11_image_47 rfl rfl ⟨rfl, rfl, rfl⟩
set_option maxRecDepth 100000 in
set_option maxHeartbeats 4000000 in
theorem ct_X11_image {l : Launch} {z : Nat} {D : tc_D} {L : tc_L} {v0 : Nat} {v1 : Int32} {u : tc_S} {r : Int32} {Lr : tc_L} {ur : tc_S} (h : fn_X11_image L v0 v1 u = some (r, Lr, ur)) : tc_C l z D yX11_image cX11_image 2 (some .boolean) 5 105 12 881 [.ref (z + v0), .int v1] (tc_gl L) u (tc_pi r Lr ur) := by
  unfold fn_X11_image at h
  refine tc_C.of (by decide) (Nat.le_of_ble_eq_true rfl) fun p e s m args below meth c => ?_
  show tc_R p l e { frames := 5, cells := 12, slots := 881, locals := 105 } s m args below meth c z D cX11_image RX11 2 (some .boolean) 12 881 (tc_pi r Lr ur) 0 0 (tc_gl L) u 0 [(0, .ref (z + v0)), (1, .int v1)] []
  have hno : some ((0 : Int32), L, u) = some (r, Lr, ur) → tc_R p l e { frames := 5, cells := 12, slots := 881, locals := 105 } s m args below meth c z D cX11_image RX11 2 (some .boolean) 12 881 (tc_pi r Lr ur) 0 0 (tc_gl L) u 9 [(0, .ref (z + v0)), (1, .int v1)] [] := by
    intro h
    cases h
    refine tc_widen (k := 12) (n := 881) (by decide) (by decide) ?_
    refine tc_iconst (v := 0) (by decide) dX11_image_9 ?_
    exact tc_zreturn (Or.inl rfl) rfl dX11_image_10 rfl rfl ⟨rfl, rfl, rfl⟩
  refine tc_iload_n 1 rfl dX11_image_0 ?_
  refine tc_if_lt 9 dX11_image_1 (by decide) (fun hc => ?_) (fun hc => ?_)
  · rw [if_pos hc] at h
    exact hno h
  · rw [if_neg hc] at h
    refine tc_iload_n 1 rfl dX11_image_4 ?_
    refine tc_iconst (v := 3) (by decide) dX11_image_5 ?_
    refine tc_icmp_lt 11 dX11_image_6 (by decide) (fun hc2 => ?_) (fun hc2 => ?_)
    · rw [if_pos hc2] at h
      obtain ⟨hW, h⟩ := tc_wc_ex h
      obtain ⟨iv0, h⟩ := tc_kd_ex h
      split at h
      · cases h
      · rename_i hb
        refine tc_aload_n 0 rfl dX11_image_11 ?_
        refine tc_getp hW iv0 fl_X11_16 dX11_image_12 rfl ?_
        refine tc_iload_n 1 rfl dX11_image_15 ?_
        refine tc_aald (hW.p iv0 1 rfl).1 hb dX11_image_16 ?_
        cases hp : (tc_gl L).2.2.2 (tc_p (tc_gl L) v0 1) v1.toNatClampNeg with
        | some w =>
          rw [hp] at h
          refine tc_ifnonnull (x := z + w) 33 dX11_image_17 (by decide) ?_
          refine tc_widen (k := 12) (n := 881) (by decide) (by decide) ?_
          exact sb_X11_image_33 h
        | none =>
          rw [hp] at h
          obtain ⟨n1, en1, h⟩ := tc_let_ex h
          obtain ⟨L1, eL1, h⟩ := tc_let_ex h
          obtain ⟨u1, eu1, h⟩ := tc_let_ex h
          obtain ⟨L2, u2, hq, h⟩ := tc_bl_ex h
          obtain ⟨ha, h⟩ := tc_kc_ex h
          obtain ⟨hn, h⟩ := tc_kc_ex h
          obtain ⟨hk, h⟩ := tc_ks_ex h
          split at h
          · cases h
          · rename_i hb2
            refine tc_ifnonnullN dX11_image_17 ?_
            refine tc_aload_n 0 rfl dX11_image_20 ?_
            refine tc_getp hW iv0 fl_X11_16 dX11_image_21 rfl ?_
            refine tc_iload_n 1 rfl dX11_image_24 ?_
            refine tc_newo (r := (RX10, TX10, 5)) (ci := 10) rfl (by decide) cl_X11_9c ii_10 it_10 (tc_df_10 z) (Nat.le_of_ble_eq_true rfl) (Nat.le_of_ble_eq_true rfl) dX11_image_25 ?_
            refine tc_nmr en1 ?_
            refine tc_nmL eL1 ?_
            refine tc_nmu eu1 ?_
            refine tc_dup rfl dX11_image_28 ?_
            refine tc_callINv [] dX11_image_29 (ct_X10_init hq) (by decide) mw_X10_init mj_X10_init ⟨Nat.le_of_ble_eq_true rfl, Nat.le_of_ble_eq_true rfl⟩ rfl rfl (Nat.le_of_ble_eq_true rfl) ⟨Nat.le_of_ble_eq_true rfl, Nat.le_of_ble_eq_true rfl⟩ ?_
            refine tc_aast ha hn hb2 hk dX11_image_32 ?_
            exact sb_X11_image_33 h
    · rw [if_neg hc2] at h
      exact hno h
