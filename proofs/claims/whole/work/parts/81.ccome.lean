/-! the class: the walk forward; how one comes in -/
theorem mt_key {u : tc_S} {t i : Nat} {g : mp} (hg : mwf g) (h : mt u t g) (hi : vc g i) (h0 : ck g i ≠ 0) : u.1 (t + 4) (fx g i) = nI (ck g i - 1) ∧ u.1 (t + 5) (fx g i) = (gc g i).2.1 ∧ u.1 (t + 6) (fx g i) = (gc g i).2.2.1 ∧ u.1 (t + 7) (fx g i) = (gc g i).2.2.2 ∧ u.1 (t + 8) (fx g i) = nI (mhash g 0 (ck g i - 1)) ∧ u.1 (t + 9) (fx g i) = nI (mhash g 1 (ck g i - 1)) := by
  have a := hg.1.1
  have li := fx_lt a hi
  have c := hg.1.2.2.1 i (by have := hi.1; omega)
  have q := h.2.1 (fx g i) (by omega)
  rw [fc_x a hi] at q
  exact pl_ent q (by rw [show ck g i - 1 + 1 = ck g i by omega]; exact c.1) (by omega)
theorem mt_fill {u : tc_S} {t b : Nat} {g : mp} (h : mt u t g) (a : wA g) (hb : b < mn g 0) : ∃ n, n ≤ mn g 1 ∧ u.1 (t + 3) b = nI n ∧ (n < mn g 1 ↔ (memp g b).isSome = true) := by
  refine ⟨_, cnt_le, h.2.2 b hb, ?_⟩
  rw [cnt_epl, epl_memp hb]
theorem mt_room {u : tc_S} {t : Nat} {g : mp} (h : mt u t g) : u.1 t 1 = nI 64 ∧ u.1 t 2 = nI 68 := h.1.1
theorem mt_set {u : tc_S} {t k : Nat} {g : mp} (h : mt u t g) (hk : k < 11) : u.1 (t + 1) k = g k := h.1.2.1 k hk
theorem pc_walk35 {G : tc_G} (hV : gV G) {g0 : mp} {t : Nat} {u0 : tc_S} (hT : gT G t 64) (htt : t + 10 ≤ 24 ∨ 32 ≤ t) : ∀ (n k : Nat) (tr : List Nat) (g : mp) (b f : Nat) (u : tc_S), k + n = mn g0 3 → mn g0 3 ≤ 16 → tr.length = k → n < f → Hs g0 tr g → mwv g b → sA g0 g → mt u t g → (∀ k (h : k < tr.length), u.1 31 k = nI (fx g0 (tr.reverse[k]'(by rw [List.length_reverse]; exact h)))) → fr (fV t) u0 u → y2 (lo_X4_walk_35 G f 30 t (nI (mn g0 1)) (nI (mn g0 3)) (nI b) (nI k) u) (fun r w => r = (if (mwl n g b).1 then 1 else 0) ∧ mt w t (mwk2 g0 (mwl n g b)).2 ∧ fr (fV t) u0 w) := by
  have hfu := tc_fu_big
  have hT0 := hT
  obtain ⟨⟨p0, p11⟩, ⟨p3, p4, p5, p6, p7, p8, p9⟩, l3, ll⟩ := hT
  intro n
  induction n with
  | zero =>
    intro k tr g b f u hk h16 htr hf hs hv sg hm hr hfr
    obtain ⟨f, rfl⟩ : ∃ k, f = k + 1 := ⟨f - 1, by omega⟩
    rw [mwl_0, mwk2, lo_X4_walk_35, pu_le (by omega) (by omega), if_pos (by omega)]
    refine yl_let ?_
    have e : upd g 11 (g 11) = g := upd_self
    have hm2 : mt u t (upd g 11 (g 11)) := by rw [e]; exact hm
    have z := pc_undo hV (s := g 11) hT0 htt tr g tc_fu u (by omega) (by omega) hs hm2 sg hr
    rw [htr, show k = mn g0 3 by omega] at z
    exact yl_m z fun r hx => ⟨hx.1, hx.2.1, fr_trans hfr (fT_V hx.2.2)⟩
  | succ n ih =>
    intro k tr g b f u hk h16 htr hf hs hv sg hm hr hfr
    obtain ⟨f, rfl⟩ : ∃ k, f = k + 1 := ⟨f - 1, by omega⟩
    have a := hv.1.1.1
    have hn := a.2.1.2
    have hs4 := a.2.2.1
    obtain ⟨p, q1, q2, q3, q4, q5, q6⟩ := mwst_cell hv
    obtain ⟨o1, o2, o3, o4, o5, o6⟩ := mwst_ok hv
    have hb := hv.2.1
    have m1 : mn g 1 = mn g0 1 := sA_mn sg (by omega)
    rw [lo_X4_walk_35, pu_le (by omega) (by omega), if_neg (by omega), p0, p11, p6, p7, p8, mwl_s]
    refine yl_e (pc_below (by omega) (by omega)) ?_
    have es : u.1 (t + 2) 0 = g 11 := hm.1.2.2.1
    have e1 : g 1 = nI (mn g0 1) := by rw [← m1]; exact a.1 1 (by omega)
    rw [es, ← e1, q2]
    have mt1 : mt (tc_w u (t + 2) 0 (mseed (g 11))) t (upd g 11 (mseed (g 11))) := mt_upd hm (by omega) (by omega) (t + 2) 0 (Or.inl ⟨rfl, rfl, rfl⟩) rfl
    have f1 : fr (fT t) u (tc_w u (t + 2) 0 (mseed (g 11))) := fr_w fr_refl ⟨by omega, by omega, by omega⟩
    generalize tc_w u (t + 2) 0 (mseed (g 11)) = u1 at mt1 f1 ⊢
    refine yl_let ?_
    have s1 : sA g (upd g 11 (mseed (g 11))) := sA_upd (by omega)
    have ei : nI b * g 1 + nI p = nI (fx g (4 * b + p)) := by
      rw [a.1 1 (by omega), pk_mul, nI_add, fx_b (by omega) (by omega)]
    rw [ei]
    have li := fx_lt a q4
    have w1 := mwf_seed (x := mseed (g 11)) hv.1
    have ck1 : ck (upd g 11 (mseed (g 11))) (4 * b + p) ≠ 0 := by rw [ck_upd (by omega)]; exact q6
    refine yl_ld 69 (ll _ (by omega) (by omega)) (by omega) (by omega) ?_
    refine yl_sd 69 (ll _ (by omega) (by omega)) (by omega) (by omega) ?_
    have z2 := mt_bump w1 mt1 ((vc_sA s1).mpr q4) ck1
    rw [fx_sA s1] at z2
    generalize tc_w u1 (t + 7) (fx g (4 * b + p)) (u1.1 (t + 7) (fx g (4 * b + p)) + 1) = u2 at z2 ⊢
    have w2 : mwf (cs (upd g 11 (mseed (g 11))) (4 * b + p) (bump (gc (upd g 11 (mseed (g 11))) (4 * b + p)))) := mwf_same w1 (by omega) ck1 rfl rfl
    have z3 := mt_swap hT0 w2 z2.1 (vc_cs.mpr ((vc_sA s1).mpr q4)) (by omega) (by rw [ck_cs, if_pos rfl]; exact ck1) (by rw [ck_cs, if_neg (by omega), ck_upd (by omega)]; exact hv.2.2.2.1)
    rw [fx_cs, fx_sA s1, gc_cs_ne (show 68 ≠ 4 * b + p by omega), gc_cs_eq, cs_2] at z3
    have emw : cs (cs (upd g 11 (mseed (g 11))) (4 * b + p) (gc (upd g 11 (mseed (g 11))) 68)) 68 (bump (gc (upd g 11 (mseed (g 11))) (4 * b + p))) = mwst g b := by
      unfold mwst
      rw [q3, gc_upd (by omega), gc_upd (by omega)]
    rw [emw] at z3
    refine yl_b z3 fun _ u3 h3 => ?_
    rw [hV.2.1]
    refine yl_sd 16 hV.2.2 (by omega) (by omega) ?_
    have f31 : fr (fun o j => o = 31 ∧ j = k) u3 (tc_w u3 31 k (nI (fx g (4 * b + p)))) := fr_w fr_refl ⟨rfl, rfl⟩
    have g31 : (tc_w u3 31 k (nI (fx g (4 * b + p)))).1 31 k = nI (fx g (4 * b + p)) := by rw [w_get, if_pos ⟨rfl, rfl⟩]
    generalize tc_w u3 31 k (nI (fx g (4 * b + p))) = u4 at f31 g31 ⊢
    have mt4 : mt u4 t (mwst g b) := mt_fr h3.1 f31 fun o j h1 h2 => by omega
    have ff : fr (fV t) u u4 := fr_trans (fT_V f1) (fr_trans (fT_V z2.2) (fr_trans (fT_V h3.2) (fr_mono f31 fun o j q => Or.inr ⟨by omega, by omega⟩)))
    have sm : sA g0 (mwst g b) := sA_trans sg o2
    have hkey := mt_key o1 mt4 vc68 o3
    rw [fx68] at hkey
    rw [(mt_room mt4).2]
    refine yl_ld 69 (ll _ (by omega) (by omega)) (by omega) (by omega) ?_
    rw [hkey.2.2.2.2.1]
    have l0 := wA_hash o1.1.1 0 (ck (mwst g b) 68 - 1)
    have l1 := wA_hash o1.1.1 1 (ck (mwst g b) 68 - 1)
    have nb2 : mn (mwst g b) 0 = mn g 0 := sA_mn o2 (by omega)
    have hr4 : ∀ j (h : j < ((4 * b + p) :: tr).length), u4.1 31 j = nI (fx g0 (((4 * b + p) :: tr).reverse[j]'(by rw [List.length_reverse]; exact h))) := by
      intro j hj
      rw [List.length_cons] at hj
      by_cases ej : j = k
      · subst ej
        rw [g31]
        simp only [List.reverse_cons]
        rw [List.getElem_append_right (by rw [List.length_reverse]; omega)]
        simp only [List.length_reverse, htr, Nat.sub_self, List.getElem_cons_zero]
        rw [fx_sA sg]
      · have hj2 : j < tr.length := by omega
        rw [f31 _ _ (by omega), h3.2 _ _ (by unfold fT; omega), z2.2 _ _ (by unfold fT; omega), f1 _ _ (by unfold fT; omega), hr j hj2]
        simp only [List.reverse_cons]
        rw [List.getElem_append_left (by rw [List.length_reverse]; exact hj2)]
    have key : y2 (bl_X4_walk_117 G (lo_X4_walk_35 G f) 30 t (nI (mn g0 1)) (nI (mn g0 3)) (nI k) (nI (mwb (mwst g b) b)) u4) (fun r w => r = (if (mwl1 (mwl n) g b).1 then 1 else 0) ∧ mt w t (mwk2 g0 (mwl1 (mwl n) g b)).2 ∧ fr (fV t) u0 w) := by
      unfold bl_X4_walk_117
      obtain ⟨c, c1, c2, c3⟩ := mt_fill (b := mwb (mwst g b) b) mt4 o1.1.1 (by omega)
      have m1' : mn (mwst g b) 1 = mn g0 1 := by rw [sA_mn o2 (by omega), m1]
      rw [p9]
      refine yl_ld 32 l3 (by omega) (by omega) ?_
      rw [c2, pu_le (by omega) (by omega)]
      cases hmm : memp (mwst g b) (mwb (mwst g b) b) with
      | none =>
        rw [hmm] at c3
        have : ¬ c < mn (mwst g b) 1 := fun w => by have := c3.mp w; cases this
        rw [if_pos (by omega), mwl1_n hmm]
        refine yl_let ?_
        rw [nI_1]
        exact yl_m (ih (k + 1) ((4 * b + p) :: tr) (mwst g b) _ f u4 (by omega) h16 (by rw [List.length_cons]; omega) (by omega) ⟨g, b, hv, by rw [q3], rfl, hs⟩ (mwst_next hv hmm) sm mt4 hr4 (fr_trans hfr ff)) fun r hx => hx
      | some x =>
        rw [hmm] at c3
        have : c < mn (mwst g b) 1 := c3.mpr rfl
        rw [if_neg (by omega), mwl1_s hmm, mwk2]
        refine yl_e (mt_epl hT0 o1.1.1 mt4 (by omega) hmm) ?_
        rw [(mt_room mt4).2]
        obtain ⟨x1, x2, x3, x4, x5⟩ := memp_sp o1.1.1 o1.1.2.2.1 (show mwb (mwst g b) b < mn (mwst g b) 0 by omega) hmm
        have zm := mt_move (i := 68) (j := 4 * mwb (mwst g b) b + x) hT0 o1.1.1 mt4 vc68 ⟨by omega, fun _ => ⟨by omega, by omega⟩⟩ (by omega) (by rw [← gc_e0 o1 (by omega)]; exact o3) ((gc_e0 o1 (by omega)).mp x3)
        rw [fx68] at zm
        refine yl_b zm fun _ w hw => ?_
        exact yl_z1 (yl_ok ⟨rfl, hw.1, fr_trans hfr (fr_trans ff (fT_V hw.2))⟩)
    have eb : (if mhash (mwst g b) 0 (ck (mwst g b) 68 - 1) = b then mhash (mwst g b) 1 (ck (mwst g b) 68 - 1) else mhash (mwst g b) 0 (ck (mwst g b) 68 - 1)) = mwb (mwst g b) b := by
      have o5' := o5
      rw [← sA_hash o2 (by omega), ← sA_hash o2 (show 1 < 2 by omega)] at o5'
      unfold mwb
      by_cases h1 : mhash (mwst g b) 0 (ck (mwst g b) 68 - 1) = mhash (mwst g b) 1 (ck (mwst g b) 68 - 1)
      · rw [if_pos h1, if_pos (by omega)]; omega
      · rw [if_neg h1]
        by_cases h2 : mhash (mwst g b) 0 (ck (mwst g b) 68 - 1) = b
        · rw [if_pos h2, if_pos h2.symm]
        · rw [if_neg h2, if_neg (fun q => h2 q.symm)]
    rw [pu_eq (by omega) (by omega), e1]
    rw [← eb] at key
    by_cases hh : mhash (mwst g b) 0 (ck (mwst g b) 68 - 1) = b
    · rw [if_pos hh] at key ⊢
      refine yl_ld 69 (ll _ (by omega) (by omega)) (by omega) (by omega) ?_
      rw [hkey.2.2.2.2.2]
      exact key
    · rw [if_neg hh] at key ⊢
      exact key
theorem pc_walk {G : tc_G} (hV : gV G) {t : Nat} {g : mp} {u : tc_S} (hT : gT G t 64) (htt : t + 10 ≤ 24 ∨ 32 ≤ t) (hg : mwf g) (h : mt u t g) (h0 : ck g 68 ≠ 0) (hf : mfr g (ck g 68 - 1) = none) : y2 (fn_X4_walk G 30 t u) (fun r w => r = (if (mwk g).1 then 1 else 0) ∧ mt w t (mwk g).2 ∧ fr (fV t) u w) := by
  have hfu := tc_fu_big
  have a := hg.1.1
  have hd := a.2.2.2.2.1
  unfold fn_X4_walk
  rw [hT.1.1, mt_set h (by omega), mt_set h (by omega), hT.2.1.2.2.2.2.1, (mt_room h).2]
  refine yl_let (yl_let ?_)
  rw [a.1 3 (by omega), if_neg (show ¬ (16 : Int32) < nI (mn g 3) from nI_nlt (a := 16) (b := mn g 3) hd (by omega))]
  refine yl_ld 69 (hT.2.2.2 _ (by omega) (by omega)) (by omega) (by omega) ?_
  have hkey := mt_key hg h vc68 h0
  rw [fx68] at hkey
  rw [hkey.2.2.2.2.1, a.1 1 (by omega)]
  have z := pc_walk35 hV (g0 := g) (u0 := u) hT htt (mn g 3) 0 [] g (mhash g 0 (ck g 68 - 1)) tc_fu u (by omega) hd rfl (by omega) ⟨g 11, upd_self.symm⟩ (mwv_start hg h0 hf) sA_refl h (fun k hk => absurd hk (Nat.not_lt_zero k)) fr_refl
  refine yl_m z fun r hx => ⟨?_, hx.2.1, hx.2.2⟩
  rw [hx.1]
  unfold mwk
  cases mwl (mn g 3) g (mhash g 0 (ck g 68 - 1)) with
  | mk t x => cases t <;> rfl
theorem mt_stash {G : tc_G} {u : tc_S} {t : Nat} {g : mp} (hT : gT G t 64) (hg : mwf g) (h : mt u t g) (h0 : ck g 68 ≠ 0) : y2 (bl_X4_comeIn_106 G t (nI 68) (t + 1) u) (fun r w => r = (mstash g).1 ∧ mt w t (mstash g).2 ∧ fr (fT t) u w) := by
  have a := hg.1.1
  have b := hg.1.2.1
  have h4 := a.2.2.2.1
  have e18 : u.1 t 10 = nI (mn g 18) := by rw [h.1.2.2.2.2]; exact b.1
  unfold bl_X4_comeIn_106 bl_X4_comeIn_151 mstash
  rw [mt_set h (by omega), a.1 2 (by omega), e18, pu_le (by omega) (by have := b.2; omega)]
  by_cases c : mn g 2 ≤ mn g 18
  · have : g 18 = nI (mn g 2) := by rw [b.1, show mn g 18 = mn g 2 by have := b.2; omega]
    rw [if_pos c, if_pos this]
    exact yl_ok ⟨rfl, h, fr_refl⟩
  · have hne : ¬ g 18 = nI (mn g 2) := fun q => by
      rw [b.1, nI_eq (by omega) (by omega)] at q
      omega
    rw [if_neg c, if_neg hne, show (4 : Int32) = nI 4 from rfl, pu_le (by omega) (by omega), if_neg (by omega), (mt_room h).1, nI_add]
    have hE := hg.2 (mn g 18) (by omega)
    have z := mt_move (i := 68) (j := 64 + mn g 18) hT a h vc68 ⟨by omega, fun q => absurd q (by omega)⟩ (by omega) (by rw [← gc_e0 hg (by omega)]; exact h0) ((gc_e0 hg (by omega)).mp (by omega))
    rw [fx68, show fx g (64 + mn g 18) = 64 + mn g 18 from by unfold fx; rw [if_neg (by omega)]] at z
    refine yl_b z fun _ w hw => ?_
    have ew : w.1 t 10 = g 18 := by
      have q : w.1 t 10 = mv g 68 (64 + mn g 18) 18 := hw.1.1.2.2.2.2
      rw [q]
      unfold mv
      rw [cs_lo (by omega), cs_lo (by omega)]
    refine yl_let (yl_ok ⟨rfl, mt_upd hw.1 (by omega) (by omega) t 10 (Or.inr (Or.inr ⟨rfl, rfl, rfl⟩)) ?_, fr_w hw.2 ⟨by omega, by omega, by omega⟩⟩)
    rw [ew]
theorem mt_comeIn {G : tc_G} (hK : gK G) (hV : gV G) {u : tc_S} {t : Nat} {g : mp} (hT : gT G t 64) (htt : t + 10 ≤ 24 ∨ 32 ≤ t) (hg : mwf g) (h : mt u t g) (h0 : ck g 68 ≠ 0) : y2 (fn_X4_comeIn G 30 t u) (fun r w => r = (mcome g).1 ∧ mt w t (mcome g).2 ∧ fr (fV t) u w) := by
  have a := hg.1.1
  have hd := a.2.2.2.2.1
  unfold fn_X4_comeIn mcome
  refine yl_let ?_
  rw [(mt_room h).2]
  have zo := mt_open hT hg h vc68 h0
  rw [fx68] at zo
  refine yl_e zo ?_
  have stash : ∀ w g, mwf g → ck g 68 ≠ 0 → mt w t g → fr (fV t) u w → y2 (bl_X4_comeIn_106 G t (nI 68) (t + 1) w) (fun r w => r = (mstash g).1 ∧ mt w t (mstash g).2 ∧ fr (fV t) u w) := by
    intro w g hg h0 hw hr
    exact yl_m (mt_stash hT hg hw h0) fun r hx => ⟨hx.1, hx.2.1, fr_trans hr (fT_V hx.2.2)⟩
  rcases opb_mfr a (ck g 68 - 1) with ⟨h1, h2⟩ | ⟨b, p, h1, h2, h3, h4⟩
  · rw [h1, h2, mcf]
    show yl (if (-1 : Int32) < 0 then _ else _) _
    refine yl_p (by decide) ?_
    rw [hT.1.1, mt_set h (by omega)]
    have i5 : ¬ (2 : Int32) = 1 := by decide
    by_cases c2 : g 5 = 2
    · rw [if_pos c2, if_pos c2, hT.2.1.2.2.2.2.1, hT.2.1.2.2.2.2.2.1, hV.1]
      have hkey := mt_key hg h vc68 h0
      rw [fx68] at hkey
      refine yl_ld 69 (hT.2.2.2 _ (by omega) (by omega)) (by omega) (by omega) ?_
      refine yl_ld 69 (hT.2.2.2 _ (by omega) (by omega)) (by omega) (by omega) ?_
      rw [hkey.2.2.2.2.1, hkey.2.2.2.2.2]
      obtain ⟨⟨x, w⟩, hs, hp⟩ := pc_seek hK hT (by omega) (wA_wS a) (nbns a) (by omega) h (wA_hash a 0 (ck g 68 - 1)) (wA_hash a 1 (ck g 68 - 1))
      refine yl_e hs ?_
      rw [bfs_mchain hg] at hp
      have no : ∀ w, mt w t g → fr (fV t) u w → y2 (bl_X4_comeIn_88 G 30 t (nI 68) (t + 1) w) (fun r w => r = (mstash g).1 ∧ mt w t (mstash g).2 ∧ fr (fV t) u w) := by
        intro w hw hr
        unfold bl_X4_comeIn_88
        rw [mt_set hw (by omega), c2]
        exact yl_n i5 (stash w g hg h0 hw hr)
      cases hc : mchain g (ck g 68 - 1) with
      | none =>
        rw [hc] at hp
        have hx : x = 0 := hp.1
        have hw : fr fK u w := hp.2
        rw [mcc, hx]
        exact yl_p rfl (no w (mt_fr h hw fun o k h1 h2 => by unfold fK; omega) (fK_V hw))
      | some l =>
        rw [hc] at hp
        obtain ⟨hx, y1, y2, y3, hw⟩ := hp
        have hx : x = 1 := hx
        have hw : fr fK u w := hw
        have mtw := mt_fr h hw fun o k h1 h2 => by unfold fK; omega
        have hck : chk w l (mtg g (ck g 68 - 1)) (mn g 1) := ⟨y1, y2, y3⟩
        obtain ⟨c1, c3, c4, c5, c6, c7, c8⟩ := mchain_sp hg hc
        rw [mcc, hx]
        refine yl_n i_n1 ?_
        rw [mt_set mtw (by omega), a.1 3 (by omega), hck.1, pu_lt (by omega) (by omega)]
        by_cases c9 : l.length ≤ mn g 3
        · rw [if_pos c9, if_neg (by omega)]
          refine yl_b (mt_chainIn hK hV.1 hT (by omega) hg mtw hc hck h0) fun _ z hz => ?_
          exact yl_ok ⟨rfl, hz.1, fr_trans (fK_V hw) (fT_V hz.2)⟩
        · rw [if_neg c9, if_pos (by omega)]
          exact no w mtw (fK_V hw)
    · rw [if_neg c2, if_neg c2]
      unfold bl_X4_comeIn_88
      rw [mt_set h (by omega)]
      by_cases c1 : g 5 = 1
      · rw [if_pos c1, if_pos c1]
        refine yl_b (pc_walk hV hT htt hg h h0 h2) fun r w hw => ?_
        obtain ⟨w1, w2, w3⟩ := hw
        cases hk2 : mwk g with
        | mk tt x =>
          rw [hk2] at w1 w2
          cases tt with
          | true =>
            rw [mcw, w1]
            exact yl_n i_n1 (yl_ok ⟨rfl, w2, w3⟩)
          | false =>
            rw [mcw, w1]
            refine yl_p rfl ?_
            have e : x = upd g 11 (x 11) := by
              unfold mwk at hk2
              cases hl : mwl (mn g 3) g (mhash g 0 (ck g 68 - 1)) with
              | mk t2 y =>
                rw [hl] at hk2
                cases t2 with
                | true => rw [mwk2] at hk2; cases hk2
                | false =>
                  rw [mwk2] at hk2
                  have := (Prod.mk.inj hk2).2
                  rw [← this]
                  unfold mback
                  rw [upd_eq]
            exact stash w x (by rw [e]; exact mwf_seed hg) (by rw [e, ck_upd (by omega)]; exact h0) w2 w3
      · rw [if_neg c1, if_neg c1]
        exact stash u g hg h0 h fr_refl
  · rw [h1, h4, mcf]
    show yl (if nI b < 0 then _ else _) _
    have hn := a.2.1.2
    refine yl_n (nI_pos (by omega)) ?_
    refine yl_e (mt_epl hT a h h2 h3) ?_
    obtain ⟨x1, x2, x3, x4, x5⟩ := memp_sp a hg.1.2.2.1 h2 h3
    have z := mt_move (i := 68) (j := 4 * b + p) hT a h vc68 ⟨by omega, fun _ => ⟨by omega, by omega⟩⟩ (by omega) (by rw [← gc_e0 hg (by omega)]; exact h0) ((gc_e0 hg (by omega)).mp x3)
    rw [fx68] at z
    refine yl_b z fun _ w hw => ?_
    exact yl_ok ⟨rfl, hw.1, fT_V hw.2⟩
