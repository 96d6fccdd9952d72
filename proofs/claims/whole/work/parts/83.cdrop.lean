/-! the class: the stash closes, empties; a drop -/
def mshf : Nat → mp → Nat → mp
  | 0, g, _ => g
  | n + 1, g, i => mshf n (mv g (i + 1) i) (i + 1)
theorem gc_mv {g : mp} {i j x : Nat} : gc (mv g i j) x = if x = i then e0 else if x = j then gc g i else gc g x := by
  unfold mv
  rw [gc_cs, gc_cs]
theorem gc_mshf : ∀ (n : Nat) (g : mp) (i x : Nat), gc g i = e0 → gc (mshf n g i) x = if i ≤ x ∧ x < i + n then gc g (x + 1) else if x = i + n then e0 else gc g x := by
  intro n
  induction n with
  | zero =>
    intro g i x h
    rw [mshf, if_neg (by omega)]
    by_cases e : x = i
    · rw [if_pos (by omega), e, h]
    · rw [if_neg (by omega)]
  | succ n ih =>
    intro g i x h
    rw [mshf, ih _ _ _ (by rw [gc_mv, if_pos rfl]), gc_mv, gc_mv]
    by_cases c1 : i + 1 ≤ x ∧ x < i + 1 + n
    · rw [if_pos c1, if_neg (by omega), if_neg (by omega), if_pos (by omega)]
    · rw [if_neg c1]
      by_cases c2 : x = i + 1 + n
      · rw [if_pos c2, if_neg (by omega), if_pos (by omega)]
      · rw [if_neg c2]
        by_cases c3 : x = i
        · rw [if_neg (by omega), if_pos c3, if_pos (by omega), c3]
        · by_cases c4 : x = i + 1
          · rw [if_pos c4]
            omega
          · rw [if_neg c4, if_neg c3, if_neg (by omega), if_neg (by omega)]
theorem mshf_lo : ∀ (n : Nat) (g : mp) (i k : Nat), k < 20 → mshf n g i k = g k := by
  intro n
  induction n with
  | zero => intro g i k _; rfl
  | succ n ih =>
    intro g i k hk
    rw [mshf, ih _ _ _ hk]
    unfold mv
    rw [cs_lo hk, cs_lo hk]
theorem fc_gc {g h : mp} (m0 : mn h 0 = mn g 0) (m1 : mn h 1 = mn g 1) (hx : ∀ x, gc h x = gc g x) : fc h = fc g := by
  funext i
  unfold fc
  rw [m0, m1, hx, hx]
theorem pc_closeStash {G : tc_G} {t : Nat} (hT : gT G t 64) : ∀ (n i f : Nat) (g : mp) (u : tc_S) (s : Nat), i + n + 1 = 64 + s → s ≤ 4 → 64 ≤ i → n < f → wA g → g 18 = nI s → mt u t g → gc g i = e0 → (∀ x, i < x → x < 64 + s → ¬ (gc g x).1 = 0) → y2 (lo_X9_closeStash_7 G f t (nI i) u) (fun _ w => mt w t (upd (mshf n g i) 18 (nI (s - 1))) ∧ fr (fT t) u w) := by
  intro n
  induction n with
  | zero =>
    intro i f g u s hi hs h64 hf a h18 hm he hne
    obtain ⟨f, rfl⟩ : ∃ k, f = k + 1 := ⟨f - 1, by omega⟩
    have e10 : u.1 t 10 = nI s := by rw [hm.1.2.2.2.2]; exact h18
    have e1 : nI s - 1 = nI (s - 1) := pk_sub (b := 1) (by omega)
    rw [lo_X9_closeStash_7, (mt_room hm).1, e10, nI_add, show nI (64 + s) - 1 = nI (64 + s - 1) from pk_sub (b := 1) (by omega), pu_le (by omega) (by omega), if_pos (by omega), e1, mshf]
    exact yl_let (yl_ok ⟨mt_upd hm (by omega) (by omega) t 10 (Or.inr (Or.inr ⟨rfl, rfl, rfl⟩)) rfl, fr_w fr_refl ⟨by omega, by omega, by omega⟩⟩)
  | succ n ih =>
    intro i f g u s hi hs h64 hf a h18 hm he hne
    obtain ⟨f, rfl⟩ : ∃ k, f = k + 1 := ⟨f - 1, by omega⟩
    have e10 : u.1 t 10 = nI s := by rw [hm.1.2.2.2.2]; exact h18
    rw [lo_X9_closeStash_7, (mt_room hm).1, e10, nI_add, show nI (64 + s) - 1 = nI (64 + s - 1) from pk_sub (b := 1) (by omega), pu_le (by omega) (by omega), if_neg (by omega), nI_1]
    have z := mt_move (i := i + 1) (j := i) hT a hm ⟨by omega, fun q => absurd q (by omega)⟩ ⟨by omega, fun q => absurd q (by omega)⟩ (by omega) (hne (i + 1) (by omega) (by omega)) (by rw [he]; rfl)
    rw [show fx g (i + 1) = i + 1 from by unfold fx; rw [if_neg (by omega)], show fx g i = i from by unfold fx; rw [if_neg (by omega)]] at z
    refine yl_b z fun _ w hw => ?_
    refine yl_let ?_
    rw [mshf]
    refine yl_m (ih (i + 1) f (mv g (i + 1) i) w s (by omega) hs (by omega) (by omega) (wA_cs (wA_cs a)) ?_ hw.1 (by rw [gc_mv, if_pos rfl]) fun x h1 h2 => ?_) fun r hx => ⟨hx.1, fr_trans hw.2 hx.2⟩
    · unfold mv
      rw [cs_lo (by omega), cs_lo (by omega)]
      exact h18
    · rw [gc_mv, if_neg (by omega), if_neg (by omega)]
      exact hne x (by omega) h2
/-- the stash closes over an empty place -/
theorem mt_closeStash {G : tc_G} {u : tc_S} {t j : Nat} {g : mp} (hT : gT G t 64) (a : wA g) (h18 : g 18 = nI (mn g 18)) (h4 : mn g 18 ≤ 4) (hj : j < mn g 18) (h : mt u t g) (he : gc g (64 + j) = e0) (hne : ∀ x, 64 + j < x → x < 64 + mn g 18 → ¬ (gc g x).1 = 0) : y2 (fn_X9_closeStash G t (nI j) u) (fun _ w => mt w t (mcls g j) ∧ fr (fT t) u w) := by
  have hfu := tc_fu_big
  unfold fn_X9_closeStash
  rw [(mt_room h).1, nI_add]
  refine yl_let ?_
  refine yl_m (pc_closeStash hT (mn g 18 - 1 - j) (64 + j) tc_fu g u (mn g 18) (by omega) h4 (by omega) (by omega) a h18 h he hne) fun r hx => ⟨?_, hx.2⟩
  have a2 : wA (upd (mshf (mn g 18 - 1 - j) g (64 + j)) 18 (nI (mn g 18 - 1))) := sA_wA (fun k hk => by rw [upd_ne (by omega), mshf_lo _ _ _ _ (by omega)]) a
  refine cong19 a2 hx.1 (fun k hk => ?_) ?_
  · by_cases e : k = 18
    · rw [e, mcls_18, upd_eq]
    · rw [mcls_lo (by omega) e, upd_ne e, mshf_lo _ _ _ _ (by omega)]
  · refine fc_gc ?_ ?_ (fun x => ?_)
    · rw [mn_upd (by omega)]
      unfold mn
      rw [mcls_lo (by omega) (by omega), mshf_lo _ _ _ _ (by omega)]
    · rw [mn_upd (by omega)]
      unfold mn
      rw [mcls_lo (by omega) (by omega), mshf_lo _ _ _ _ (by omega)]
    · rw [gc_upd (by omega), gc_mshf _ _ _ _ he, gc_mcls (by omega)]
      by_cases c1 : 64 + j ≤ x ∧ x + 1 < 64 + mn g 18
      · rw [if_pos c1, if_pos (by omega)]
      · rw [if_neg c1]
        by_cases c2 : x + 1 = 64 + mn g 18
        · rw [if_pos c2, if_neg (by omega), if_pos (by omega)]
        · rw [if_neg c2, if_neg (by omega), if_neg (by omega)]
/-! one leaves the stash -/
theorem mvb_cs {g : mp} {x y z : Nat} {e : en} (h1 : x ≠ y) (h2 : x ≠ z) : mvb (cs g x e) y z = cs (mvb g y z) x e := by
  unfold mvb
  rw [gc_cs_ne (fun q => h1 q.symm), cs_swap h2, cs_swap h1]
theorem msh_cs {g : mp} {x f : Nat} {e : en} : ∀ (l : ch), (∀ r, r ∈ l → x ≠ 4 * r.1 + r.2) → x ≠ f → (msh (cs g x e) l f).1 = cs (msh g l f).1 x e ∧ (msh (cs g x e) l f).2 = (msh g l f).2 ∧ x ≠ (msh g l f).2
  | [], _, h => ⟨rfl, rfl, h⟩
  | q :: l, h, hf => by
    obtain ⟨i1, i2, i3⟩ := msh_cs l (fun r hr => h r (List.mem_cons_of_mem _ hr)) hf
    refine ⟨?_, rfl, h q (List.mem_cons_self ..)⟩
    show mvb (msh (cs g x e) l f).1 (4 * q.1 + q.2) (msh (cs g x e) l f).2 = cs (mvb (msh g l f).1 (4 * q.1 + q.2) (msh g l f).2) x e
    rw [i1, i2, mvb_cs (h q (List.mem_cons_self ..)) i3]
theorem moth_cs {g : mp} {x b p : Nat} {e : en} (hx : 64 ≤ x) (hb : b < 16) (hp : p < 4) : moth (cs g x e) b p = moth g b p := by
  have s : sA g (cs g x e) := sA_cs
  unfold moth
  rw [show mn (cs g x e) (mcell b p) = mn g (mcell b p) from by
    rw [mcell_ci]
    show ck (cs g x e) (4 * b + p) = ck g (4 * b + p)
    rw [ck_cs, if_neg (by omega)], sA_hash s (by omega), sA_hash s (by omega)]
theorem chv_cs {g : mp} {x f : Nat} {e : en} (hx : 64 ≤ x) (a : wA g) : ∀ {l : ch}, chv g l f → chv (cs g x e) l f
  | [], h => by
    refine ⟨h.1, ?_, ?_, ?_⟩
    · rw [mn_cs (by omega)]; exact h.2.1
    · rw [mn_cs (by omega)]; exact h.2.2.1
    · rw [ck_cs, if_neg (by have := h.1; omega)]; exact h.2.2.2
  | q :: l, h => by
    have hn := a.2.1.2
    have hs := a.2.2.1.2
    obtain ⟨⟨h1, h2⟩, h3, h4, h5⟩ := h
    refine ⟨⟨?_, ?_⟩, ?_, h4, chv_cs hx a h5⟩
    · rw [mn_cs (by omega)]; exact h1
    · rw [mn_cs (by omega)]; exact h2
    · rw [moth_cs hx (by omega) (by omega)]; exact h3
theorem memp_cs {g : mp} {x b : Nat} {e : en} (hx : 64 ≤ x) (hb : b < 16) (hs : mn g 1 ≤ 4) : memp (cs g x e) b = memp g b := by
  unfold memp
  rw [mn_cs (by omega)]
  refine ff_cong fun p h1 h2 => ?_
  rw [show cs g x e (mcell b p) = g (mcell b p) from by rw [mcell_ci, cs_k, if_neg (by omega)]]
def oB : Option mp → Int32
  | some _ => 1
  | none => 0
theorem mt_leave {G : tc_G} (hK : gK G) (hV : gV G) {u : tc_S} {t j : Nat} {g : mp} {chn : Bool} (hT : gT G t 64) (htt : t + 10 ≤ 24 ∨ 32 ≤ t) (hg : mwf g) (h : mt u t g) (hj : j < mn g 18) : y2 (fn_X4_leaveStash G 30 t (nI (64 + j)) (if chn then 1 else 0) u) (fun r w => r = oB (mlv g (64 + j) chn) ∧ mt w t ((mlv g (64 + j) chn).getD g) ∧ fr (fV t) u w) := by
  have a := hg.1.1
  have hn := a.2.1.2
  have hs := a.2.2.1.2
  have h4 : mn g 18 ≤ 4 := Nat.le_trans hg.1.2.1.2 a.2.2.2.1
  have hd := a.2.2.2.2.1
  have hv : vc g (64 + j) := ⟨by omega, fun q => absurd q (by omega)⟩
  have h0 : ck g (64 + j) ≠ 0 := (hg.2 j (by omega)).mpr hj
  have efx : fx g (64 + j) = 64 + j := by unfold fx; rw [if_neg (by omega)]
  unfold fn_X4_leaveStash
  have zo := mt_open hT hg h hv h0
  rw [efx] at zo
  refine yl_e zo ?_
  have hm : mlv g (64 + j) chn = mlv1 g (64 + j) chn (mfr g (ck g (64 + j) - 1)) := rfl
  have zb : ∀ w, mt w t g → mt (tc_w w (t + 7) (64 + j) (w.1 (t + 7) (64 + j) + 1)) t (cs g (64 + j) (bump (gc g (64 + j)))) ∧ fr (fT t) w (tc_w w (t + 7) (64 + j) (w.1 (t + 7) (64 + j) + 1)) := by
    intro w hw
    have z := mt_bump hg hw hv h0
    rw [efx] at z
    exact z
  have wb : mwf (cs g (64 + j) (bump (gc g (64 + j)))) := mwf_same hg (by omega) h0 rfl rfl
  have ckb : ck (cs g (64 + j) (bump (gc g (64 + j)))) (64 + j) ≠ 0 := by rw [ck_cs, if_pos rfl]; exact h0
  rcases opb_mfr a (ck g (64 + j) - 1) with ⟨h1, h2⟩ | ⟨b, p, h1, h2, h3, h5⟩
  · rw [h1]
    rw [h2, mlv1] at hm
    show yl (if (-1 : Int32) < 0 then _ else _) _
    refine yl_p (by decide) ?_
    have no : ∀ w, mt w t g → fr (fV t) u w → mlv g (64 + j) chn = none → y2 (bl_X4_leaveStash_83 G w) (fun r w => r = oB (mlv g (64 + j) chn) ∧ mt w t ((mlv g (64 + j) chn).getD g) ∧ fr (fV t) u w) := by
      intro w hw hr e
      rw [e]
      unfold bl_X4_leaveStash_83
      exact yl_z0 (yl_ok ⟨rfl, hw, hr⟩)
    cases chn with
    | false =>
      rw [if_neg (by decide)] at hm
      exact yl_p rfl (no u h fr_refl hm)
    | true =>
      rw [if_pos rfl] at hm
      refine yl_n i_n1 ?_
      have c := hg.1.2.2.1 (64 + j) (by omega)
      obtain ⟨⟨x, w⟩, hsk, hp⟩ := pc_seekFor hK hV.1 hT (by omega) (wA_wS a) (nbns a) (by omega) h (i := 64 + j) (q := ck g (64 + j) - 1) (by omega) (by rw [fc_s a (by omega), show ck g (64 + j) - 1 + 1 = ck g (64 + j) by omega]; exact c.1) (by omega)
      refine yl_e hsk ?_
      rw [bfs_mchain hg] at hp
      cases hc : mchain g (ck g (64 + j) - 1) with
      | none =>
        rw [hc] at hp
        rw [hc, mlv2] at hm
        have hx : x = 0 := hp.1
        have hw : fr fK u w := hp.2
        rw [hx]
        exact yl_p rfl (no w (mt_fr h hw fun o k h1 h2 => by unfold fK; omega) (fK_V hw) hm)
      | some l =>
        rw [hc] at hp
        rw [hc, mlv2] at hm
        obtain ⟨hx, y1, y2, y3, hw⟩ := hp
        have hx : x = 1 := hx
        have hw : fr fK u w := hw
        have mtw := mt_fr h hw fun o k h1 h2 => by unfold fK; omega
        have hck : chk w l (mtg g (ck g (64 + j) - 1)) (mn g 1) := ⟨y1, y2, y3⟩
        obtain ⟨c1, c3, c4, c5, c6, c7, c8⟩ := mchain_sp hg hc
        rw [hx]
        refine yl_n i_n1 ?_
        rw [hT.1.1, hV.1, mt_set mtw (by omega), a.1 3 (by omega), hck.1, pu_lt (by omega) (by omega)]
        by_cases c9 : l.length ≤ mn g 3
        · rw [if_pos c9] at hm
          rw [if_neg (by omega), hm, hT.2.1.2.2.2.1]
          refine yl_ld 69 (hT.2.2.2 _ (by omega) (by omega)) (by omega) (by omega) ?_
          refine yl_sd 69 (hT.2.2.2 _ (by omega) (by omega)) (by omega) (by omega) ?_
          have z2 := zb w mtw
          generalize tc_w w (t + 7) (64 + j) (w.1 (t + 7) (64 + j) + 1) = w2 at z2 ⊢
          cases hpp : memp g (mtg g (ck g (64 + j) - 1)) with
          | none => rw [hpp] at c6; cases c6
          | some p =>
            have ef : mfin g (ck g (64 + j) - 1) = 4 * mtg g (ck g (64 + j) - 1) + p := by unfold mfin; rw [hpp]; rfl
            have c1' := c1
            rw [ef] at c1'
            have hm2 := chv_mem c1
            have z3 := mt_follow hK hV.1 hT (by omega) wb z2.1 (e := mtg g (ck g (64 + j) - 1)) (p := p) (l := l) (i := 64 + j) (by rw [mn_cs (by omega)]; exact c5) (by rw [memp_cs (by omega) (by omega) hs]; exact hpp) (chv_cs (by omega) a c1') c3 c4 (by rw [mn_cs (by omega)]; exact chk_fr hck z2.2 fun o k h1 h2 => by unfold fT; omega) (by omega) (by omega) ckb
            rw [fx_cs, efx] at z3
            refine yl_b z3 fun _ w3 hw3 => ?_
            refine yl_z1 (yl_ok ⟨rfl, ?_, fr_trans (fK_V hw) (fr_trans (fT_V z2.2) (fT_V hw3.2))⟩)
            show mt w3 t (mvb (mopn g (ck g (64 + j) - 1) l) (64 + j) (mopf g (ck g (64 + j) - 1) l))
            have q := hw3.1
            have hx1 : ∀ r, r ∈ l → 64 + j ≠ 4 * r.1 + r.2 := fun r hr => by have := hm2.2 r hr; omega
            have hx2 : 64 + j ≠ 4 * mtg g (ck g (64 + j) - 1) + p := by have := hm2.1.1; rw [ef] at this; omega
            obtain ⟨k1, k2, k3⟩ := msh_cs (g := g) (x := 64 + j) (e := bump (gc g (64 + j))) l hx1 hx2
            rw [k1, k2, cs_lo (by omega), mv_upd17] at q
            have e3 : (mvb (mopn g (ck g (64 + j) - 1) l) (64 + j) (mopf g (ck g (64 + j) - 1) l)) = mv (upd (cs (msh g l (4 * mtg g (ck g (64 + j) - 1) + p)).1 (64 + j) (bump (gc g (64 + j)))) 17 (if nI l.length ≤ g 17 then g 17 else nI l.length)) (64 + j) (msh g l (4 * mtg g (ck g (64 + j) - 1) + p)).2 := by
              obtain ⟨m1, m2, m3, m4, m5, m6, m7, m8⟩ := msh_ok hg l _ c1'
              have gs : gc (msh g l (4 * mtg g (ck g (64 + j) - 1) + p)).1 (64 + j) = gc g (64 + j) := m3 _ hx2 hx1
              rw [upd_cs (by omega)]
              unfold mopn mopf
              rw [ef]
              have gs2 : gc (upd (msh g l (4 * mtg g (ck g (64 + j) - 1) + p)).1 17 (if nI l.length ≤ g 17 then g 17 else nI l.length)) (64 + j) = gc g (64 + j) := by rw [gc_upd (by omega), gs]
              rw [← mv_bump k3, gs2]
            rw [e3]
            exact q
        · rw [if_neg c9] at hm
          rw [if_pos (by omega)]
          exact no w mtw (fK_V hw) hm
  · rw [h1]
    rw [h5, mlv1] at hm
    rw [hm]
    show yl (if nI b < 0 then _ else _) _
    refine yl_n (nI_pos (by omega)) ?_
    rw [hT.2.1.2.2.2.1]
    refine yl_ld 69 (hT.2.2.2 _ (by omega) (by omega)) (by omega) (by omega) ?_
    refine yl_sd 69 (hT.2.2.2 _ (by omega) (by omega)) (by omega) (by omega) ?_
    have z2 := zb u h
    generalize tc_w u (t + 7) (64 + j) (u.1 (t + 7) (64 + j) + 1) = w2 at z2 ⊢
    refine yl_e (mt_epl (b := b) (p := p) hT wb.1.1 z2.1 (by rw [mn_cs (by omega)]; exact h2) (by rw [memp_cs (by omega) (by omega) hs]; exact h3)) ?_
    obtain ⟨x1, x2, x3, x4, x5⟩ := memp_sp a hg.1.2.2.1 h2 h3
    have zm := mt_move (i := 64 + j) (j := 4 * b + p) hT wb.1.1 z2.1 (vc_cs.mpr hv) (vc_cs.mpr ⟨by omega, fun _ => ⟨by omega, by omega⟩⟩) (by omega) (by rw [← gc_e0 wb (by omega)]; exact ckb) ((gc_e0 wb (by omega)).mp (by rw [ck_cs, if_neg (by omega)]; exact x3))
    rw [fx_cs, fx_cs, efx, mv_bump (by omega)] at zm
    rw [fx_cs]
    refine yl_b zm fun _ w hw => ?_
    exact yl_z1 (yl_ok ⟨rfl, hw.1, fr_trans (fT_V z2.2) (fT_V hw.2)⟩)
