/-! calls: which, chain -/
theorem cC_fr {u w : tc_S} {P : Nat} {g : mp} (hu : cC u P g) (hm : mt w 2 g) (hf : fr fMc u w) : cC w P g := by
  have h2 : fr fMM u w := fr_mono hf fun _ _ q => Or.inl q
  exact ⟨hm, hu.2.1, tR_c (by omega) h2 hu.2.2.1, tR_c (by omega) h2 hu.2.2.2.1, tR_c (by omega) h2 hu.2.2.2.2⟩
def awh (g : mp) (ans : Int32) : Nat → Nat → Int32
  | 0, _ => -1
  | n + 1, k => if (mput g k 0).1 = ans then nI k else awh g ans n (k + 1)
theorem mt_which19 {G : tc_G} (hA : gA G) {P : Nat} {g : mp} {ans : Int32} {u0 : tc_S} (hP : P + 12 < 2 ^ 30) : ∀ (n k f : Nat) (u : tc_S), k + n = 100 → n < f → cC u P g → fr fMc u0 u → y2 (lo_X11_which_19 G f 0 ans (nI k) u) (fun r w => r = awh g ans n k ∧ mt w 2 g ∧ fr fMc u0 w) := by
  intro n
  induction n with
  | zero =>
    intro k f u hk hf hu hr
    obtain ⟨f, rfl⟩ : ∃ k, f = k + 1 := ⟨f - 1, by omega⟩
    rw [lo_X11_which_19, show (100 : Int32) = nI 100 from rfl, pu_le (by omega) (by omega), if_pos (by omega)]
    exact yl_ok ⟨rfl, hu.1, hr⟩
  | succ n ih =>
    intro k f u hk hf hu hr
    obtain ⟨f, rfl⟩ : ∃ k, f = k + 1 := ⟨f - 1, by omega⟩
    rw [lo_X11_which_19, show (100 : Int32) = nI 100 from rfl, pu_le (by omega) (by omega), if_neg (by omega), awh]
    refine yl_b (mt_answer hA hu hP (by omega)) fun r w hw => ?_
    obtain ⟨w1, w2, w3⟩ := hw
    rw [w1]
    by_cases c : (mput g k 0).1 = ans
    · rw [if_pos c, if_pos c]
      exact yl_ok ⟨rfl, w2, fr_trans hr w3⟩
    · rw [if_neg c, if_neg c]
      refine yl_let ?_
      rw [nI_1]
      exact ih (k + 1) f w (by omega) (by omega) (cC_fr hu w2 w3) (fr_trans hr w3)
theorem mloc_upd {g : mp} {q k : Nat} {x : Int32} (h : 11 ≤ k) (h2 : k < 18) (hw : mwf g) : mloc (upd g k x) q = mloc g q := by
  have s : sA g (upd g k x) := sA_upd h
  have e1 : ∀ b y, mlo1 (upd g k x) y b = mlo1 g y b := by
    intro b y
    unfold mlo1
    rw [mn_upd (by omega)]
    congr 1
    refine ff_cong fun p _ _ => ?_
    rw [upd_ne (by unfold mcell; omega)]
  have e2 : ∀ y, mlo2 (upd g k x) y = mlo2 g y := by
    intro y
    unfold mlo2
    rw [mn_upd (by omega)]
    congr 1
    refine ff_cong fun p _ _ => ?_
    rw [upd_ne (by unfold msc; omega)]
  unfold mloc
  rw [sA_hash s (by omega), sA_hash s (by omega), e1, e1, e2]
theorem mput_old {g : mp} {q i : Nat} {v : Int32} (hw : mwf g) (h : mloc g q = some i) : (mput g q v).1 = 0 := by
  unfold mput
  rw [mloc_upd (by omega) (by omega) hw, h, mputf]
theorem pm_which18 {G : tc_G} (hA : gA G) {P : Nat} {g : mp} {ans : Int32} {u0 : tc_S} (hP : P + 12 < 2 ^ 30) (hg : mre P g) (hans : ¬ 0 = ans) : ∀ (n k f : Nat) (u : tc_S), k + n = 100 → n < f → isM u 0 g → fr fMr u0 u → y2 (lo_X12_which_18 G f 71 ans (nI k) u) (fun r w => r = awh g ans n k ∧ isM w 0 g ∧ fr fMr u0 w) := by
  have hk2 := mwf_ok hg.1
  intro n
  induction n with
  | zero =>
    intro k f u hk hf hM hr
    obtain ⟨f, rfl⟩ : ∃ k, f = k + 1 := ⟨f - 1, by omega⟩
    rw [lo_X12_which_18, show (100 : Int32) = nI 100 from rfl, pu_le (by omega) (by omega), if_pos (by omega)]
    exact yl_ok ⟨rfl, hM, hr⟩
  | succ n ih =>
    intro k f u hk hf hM hr
    obtain ⟨f, rfl⟩ : ∃ k, f = k + 1 := ⟨f - 1, by omega⟩
    rw [lo_X12_which_18, show (100 : Int32) = nI 100 from rfl, pu_le (by omega) (by omega), if_neg (by omega), awh]
    have zl := pm_lies hA.2.2.2.1 (B := 0) (key := k) (by omega) hM hk2 (by omega)
    refine yl_e zl ?_
    rw [mlies_loc]
    unfold bl_X12_which_44
    cases hl : mloc g k with
    | some i =>
      have e := mput_old (v := 0) hg.1 hl
      have hi := mloc_sp hg.1 (by omega) hl
      rw [e, if_neg hans]
      show yl (if 0 ≤ nI (0 + (20 + 4 * i)) then _ else _) _
      refine yl_p (nI_pos' (by omega)) (yl_let ?_)
      rw [nI_1]
      exact ih (k + 1) f u (by omega) (by omega) hM hr
    | none =>
      show yl (if 0 ≤ (-1 : Int32) then _ else _) _
      refine yl_n (by decide) ?_
      refine yl_b (pm_would hA hg hM hP (by omega)) fun r w hw => ?_
      obtain ⟨w1, w2, w3⟩ := hw
      rw [w1]
      by_cases c : (mput g k 0).1 = ans
      · rw [if_pos c, if_pos c]
        exact yl_ok ⟨rfl, w2, fr_trans hr w3⟩
      · rw [if_neg c, if_neg c]
        refine yl_let ?_
        rw [nI_1]
        exact ih (k + 1) f w (by omega) (by omega) w2 (fr_trans hr w3)
theorem c_which {G : tc_G} (hA : gA G) {L : tc_L} {u : tc_S} {P : Nat} {g : mp} (x : Int32) (hu : cC u P g) (hM : isM u 0 g) (hP : P + 12 < 2 ^ 30) : ∃ g2 P2, P2 ≤ P + 12 ∧ yl (tc_b (fn_X11_which G 0 x u) fun r1 u1 => tc_b (fn_X12_which G 71 x u1) fun r2 u2 => if r1 = r2 then some (L, u2) else none) (pqq L u P2 g2) := by
  have hfu := tc_fu_big
  have good : ¬ 0 = x → y2 (bl_X11_which_17 G 0 x u) (fun r w => r = awh g x 100 0 ∧ mt w 2 g ∧ fr fMc u w) ∧ ∀ w, isM w 0 g → y2 (bl_X12_which_16 G 71 x w) (fun r v => r = awh g x 100 0 ∧ isM v 0 g ∧ fr fMr w v) := by
    intro h0
    refine ⟨mt_which19 hA hP 100 0 tc_fu u (by omega) (by omega) hu fr_refl, fun w hw => ?_⟩
    exact pm_which18 hA hP hu.2.1 h0 100 0 tc_fu w (by omega) (by omega) hw fr_refl
  by_cases c : x = -1
  · obtain ⟨g1, g2⟩ := good (by rw [c]; decide)
    refine ⟨g, P, by omega, pr_call (R := awh g x 100 0) hu hM hu.2.1 ?_ fun w hw => ?_⟩
    · unfold fn_X11_which
      exact yl_p c g1
    · unfold fn_X12_which
      exact yl_p c (g2 w hw)
  · rcases pm_isInB (G := G) x 1 5 (by omega) (by omega) with ⟨h1, h2⟩ | ⟨q, q1, q2, q3, q4⟩
    · refine ⟨g, P, by omega, pr_call (R := -1) hu hM hu.2.1 ?_ fun w hw => ?_⟩
      · unfold fn_X11_which bl_X11_which_15
        refine yl_n c ?_
        by_cases d : x < 1
        · exact yl_p d (yl_ok ⟨rfl, hu.1, fr_refl⟩)
        · have h5 : nI 5 < x := by
            rcases h1 with q | q
            · exact absurd q d
            · exact q
          exact yl_n d (yl_n (Int32.not_le.mpr h5) (yl_ok ⟨rfl, hu.1, fr_refl⟩))
      · unfold fn_X12_which
        exact yl_n c (yl_e (h2 w) (yl_p rfl (yl_ok ⟨rfl, hw, fr_refl⟩)))
    · obtain ⟨g1, g2⟩ := good (by rw [q3]; exact fun w => nI_ne0 (by omega) (by omega) w.symm)
      refine ⟨g, P, by omega, pr_call (R := awh g x 100 0) hu hM hu.2.1 ?_ fun w hw => ?_⟩
      · unfold fn_X11_which
        refine yl_n c (yl_n ?_ (yl_p ?_ g1))
        · rw [q3]; exact nI_nlt (b := 1) q1 (by omega)
        · rw [q3]; exact nI_le (b := 5) q2 (by omega)
      · unfold fn_X12_which
        exact yl_n c (yl_e (q4 w) (yl_n i_n1 (g2 w hw)))
/-! chain -/
theorem pc_bucketOf {G : tc_G} {u : tc_S} {t i : Nat} {g : mp} (hT : gT G t 64) (a : wA g) (h : mt u t g) (hi : i < 2 ^ 31) : fn_X9_bucketOf G t (nI i) u = some (nI (i / mn g 1), u) := by
  have hs := a.2.2.1
  unfold fn_X9_bucketOf bl_X9_bucketOf_24
  rw [hT.1.1, mt_set h (by omega), a.1 1 (by omega), if_pos (show (1 : Int32) ≤ nI (mn g 1) from nI_le hs.1 (by omega)), pu_nz hs.1 (by omega), pk_div hi hs.1 (by omega)]
def achn (k : Int32) (o : Option ch) : Int32 := match o with
  | none => -2
  | some l => if k = -1 then nI l.length else if k < 0 then -2 else if k < nI l.length then nI (10 * (l.getD k.toNatClampNeg (0, 0)).1 + (l.getD k.toNatClampNeg (0, 0)).2) else -2
theorem c_chain {G : tc_G} (hA : gA G) {L : tc_L} {u : tc_S} {P : Nat} {g : mp} (x k : Int32) (hu : cC u P g) (hM : isM u 0 g) : ∃ g2 P2, P2 ≤ P + 12 ∧ yl (tc_b (fn_X11_chain G 0 x k u) fun r1 u1 => tc_b (fn_X12_chain G 71 x k u1) fun r2 u2 => if r1 = r2 then some (L, u2) else none) (pqq L u P2 g2) := by
  obtain ⟨⟨o0, o1, o2, o3, o4, o5, o6, o7, o8, o9, o10⟩, ⟨a1, a2, a3⟩, ⟨a4, a5, a6, a7⟩, b1, b2, b3, b4⟩ := hA
  have hw := hu.2.1.1
  have a := hw.1.1
  have hS := wA_wS a
  have hk := mwf_ok hw
  have hn := a.2.1.2
  have hs4 := a.2.2.1
  rcases pc_isNum (G := G) (u := u) x with ⟨n1, n2⟩ | ⟨q, q1, q2, q3, q4⟩
  · refine ⟨g, P, by omega, pr_call (R := -2) hu hM hu.2.1 ?_ fun w hw => ?_⟩
    · unfold fn_X11_chain
      exact yl_e n1 (yl_p rfl (yl_ok ⟨rfl, hu.1, fr_refl⟩))
    · unfold fn_X12_chain
      refine yl_e (n2 w) (yl_p rfl ?_)
      unfold bl_X12_chain_17
      exact yl_n (by decide) (yl_ok ⟨rfl, hw, fr_refl⟩)
  · refine ⟨g, P, by omega, pr_call (R := achn k (mchain g q)) hu hM hu.2.1 ?_ fun v hv => ?_⟩
    · unfold fn_X11_chain
      refine yl_e q3 (yl_n i_n1 ?_)
      rw [o0, o1, o3, a4.1.1, q2, a1.1.1]
      refine yl_e (pc_firstOf hS hu.1.1.2.1 q1) ?_
      refine yl_e (pc_secondOf hS hu.1.1.2.1 q1) ?_
      obtain ⟨⟨y, w⟩, hs, hp⟩ := pc_seek a1 a4 (by omega) hS (nbns a) (by omega) hu.1 (wA_hash a 0 q) (wA_hash a 1 q)
      refine yl_e hs ?_
      rw [bfs_mchain hw] at hp
      cases hc : mchain g q with
      | none =>
        rw [hc] at hp
        have hx : y = 0 := hp.1
        have hf : fr fK u w := hp.2
        rw [hx]
        exact yl_p rfl (yl_ok ⟨rfl, mt_fr hu.1 hf fun o k h1 h2 => by unfold fK; omega, fK_c hf⟩)
      | some l =>
        rw [hc] at hp
        obtain ⟨hx, y1, y2, y3, hf⟩ := hp
        have hx : y = 1 := hx
        have hf : fr fK u w := hf
        have y1 : w.1 24 1 = nI l.length := y1
        have mtw := mt_fr hu.1 hf fun o k h1 h2 => by unfold fK; omega
        obtain ⟨c1, c3, c4, c5, c6, c7, c8⟩ := mchain_sp hw hc
        rw [hx, y1]
        refine yl_n i_n1 ?_
        unfold achn
        by_cases d1 : k = -1
        · simp only [if_pos d1]
          exact yl_ok ⟨rfl, mtw, fK_c hf⟩
        · simp only [if_neg d1]
          by_cases d2 : k < 0
          · simp only [if_pos d2]
            exact yl_ok ⟨rfl, mtw, fK_c hf⟩
          · simp only [if_neg d2]
            by_cases d3 : k < nI l.length
            · simp only [if_pos d3]
              obtain ⟨j, hj, rfl⟩ := nI_of d2
              have hjl : j < l.length := (nI_ltI hj (by omega)).mp d3
              have hm := (chv_mem c1).2 _ (List.getElem_mem hjl)
              have hb := bn_lt hm.1 hm.2.1
              have h64 := nbns a
              have y3 : w.1 25 j = nI ((l[j]).1 * mn g 1 + (l[j]).2) := y3 j hjl
              refine yl_ld 32 a1.1.2 (by omega) (by omega) ?_
              rw [y3]
              refine yl_e (pc_bucketOf a4 a mtw (by omega)) ?_
              rw [(dm hm.2.1).1]
              unfold fn_X9_startOf
              rw [a4.1.1, mt_set mtw (by omega), a.1 1 (by omega), pk_mul]
              refine yl_e rfl ?_
              refine yl_ok ⟨?_, mtw, fK_c hf⟩
              show (10 : Int32) * nI (l[j]).1 + nI ((l[j]).1 * mn g 1 + (l[j]).2) - nI ((l[j]).1 * mn g 1) = _
              rw [show (10 : Int32) * nI (l[j]).1 = nI (10 * (l[j]).1) from pk_mul 10 _, nI_add, pk_sub (by omega), nI_clamp hj]
              have e : l.getD j (0, 0) = l[j] := by simp [List.getD, hjl]
              rw [e]
              congr 1
              omega
            · simp only [if_neg d3]
              exact yl_ok ⟨rfl, mtw, fK_c hf⟩
    · unfold fn_X12_chain
      refine yl_e (q4 v) (yl_n i_n1 ?_)
      rw [q2]
      refine yl_e (pm_chainOf b1 b2 (B := 0) (by omega) hv hk q1) ?_
      unfold bl_X12_chain_17 bl_X12_chain_66
      cases hc : mchain g q with
      | none =>
        show yl (if 0 ≤ (-1 : Int32) then _ else _) _
        exact yl_n (by decide) (yl_ok ⟨rfl, isM_uA hv, fD_r0 fr_uA⟩)
      | some l =>
        obtain ⟨c1, c3, c4, c5, c6, c7, c8⟩ := mchain_sp hw hc
        rw [show lC (some l) = nI l.length from rfl, show oC v g q (some l) = uC v (mn g 0) (maway g q) l from rfl]
        refine yl_p (nI_pos' (by omega)) ?_
        unfold achn
        by_cases d1 : k = -1
        · simp only [if_pos d1]
          exact yl_ok ⟨rfl, isM_uC hv, fD_r0 fr_uC⟩
        · simp only [if_neg d1]
          rw [show nI l.length - 1 = nI (l.length - 1) from pk_sub (b := 1) c3, show (0 : Int32) = nI 0 from rfl]
          rcases pm_isInB (G := G) k 0 (l.length - 1) (by omega) (by omega) with ⟨h1, h2⟩ | ⟨j, j1, j2, j3, j4⟩
          · refine yl_e (h2 _) (yl_p rfl (yl_ok ⟨?_, isM_uC hv, fD_r0 fr_uC⟩))
            by_cases d2 : k < nI 0
            · simp only [if_pos d2]
            · have d3 : ¬ k < nI l.length := by
                rcases h1 with w | w
                · exact absurd w d2
                · obtain ⟨j, hj, rfl⟩ := nI_of d2
                  have := (nI_ltI (by omega) hj).mp w
                  exact nI_nlt (by omega) hj
              simp only [if_neg d2, if_neg d3]
          · have hjl : j < l.length := by omega
            refine yl_e (j4 _) (yl_n i_n1 ?_)
            have cu := chn_uC (u := v) (nb := mn g 0) (a := maway g q) (l := l) j hjl
            rw [j3, b2.2.1.1, b2.2.2.1]
            refine yl_ld 16 b2.2.1.2 (by omega) (by omega) ?_
            refine yl_ld 16 b2.2.2.2 (by omega) (by omega) ?_
            rw [cu.1, cu.2]
            refine yl_ok ⟨?_, isM_uC hv, fD_r0 fr_uC⟩
            have d2 : ¬ nI j < nI 0 := nI_nlt (by omega) (by omega)
            have d3 : nI j < nI l.length := nI_lt hjl (by omega)
            simp only [if_neg d2, if_pos d3]
            have e : l.getD j (0, 0) = l[j] := by simp [List.getD, hjl]
            rw [show (10 : Int32) * nI (l[j]).1 = nI (10 * (l[j]).1) from pk_mul 10 _, nI_add, nI_clamp (by omega), e]
