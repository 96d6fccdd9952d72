/-! batch: the reference, the call -/
theorem rB_fr {P : Nat → Nat → Prop} {g : mp} {u w : tc_S} {lf : Nat → Bool} {out : List (Nat × Nat)} (h : rB g u lf out) (hf : fr P u w) (hp : ∀ o k, 80 ≤ o → o ≤ 83 → ¬ P o k) (h12 : ¬ P 71 12) (h17 : ¬ P 71 17) : rB g w lf out := by
  obtain ⟨p1, p2, p3, p4, p5, p6⟩ := h
  refine ⟨ls_fr p1 hf (fun k => hp 80 k (by omega) (by omega)) h12, fun k hk => ?_, ?_, fun j p hj => ?_, p5, p6⟩
  · rw [hf _ _ (hp _ _ (by omega) (by omega))]; exact p2 k hk
  · rw [hf _ _ h17]; exact p3
  · rw [hf _ _ (hp 81 _ (by omega) (by omega)), hf _ _ (hp 82 _ (by omega) (by omega))]; exact p4 j p hj
theorem i_pm (x : Int32) : x - 1 + 1 = x := by grind
theorem cs_68 {h : mp} {i : Nat} {e : en} {k : Nat} (hk : k < 292) : cs (cs h 68 e) i e k = cs h i e k := by
  unfold cs
  grind
theorem isM_bstp {u : tc_S} {h : mp} {b x : Nat} {e : en} (hM : isM u 0 (cs h (4 * b + x) e)) : isM u 0 (bstp h b e (some x)) := by
  show isM u 0 (mv (cs h 68 e) 68 (4 * b + x))
  exact isM_mv (isM_lo hM fun k hk => cs_68 hk) gc_cs_eq.symm
/-- what the reference's batch changes -/
def fU (o k : Nat) : Prop := fC 0 o k ∨ o = 83
theorem pr_107 {G : tc_G} (hG : gm G) (h2 : gm2 G) (h3 : gm3 G) (h4 : gm4 G) (h5 : gm5 G) {g0 : mp} {u0 : tc_S} (hg0 : mwf g0) {lf : Nat → Bool} (hlk : ∀ q, lf q = true → ∃ k, k < (mes g0).length ∧ mk g0 k = q) : ∀ (m f x : Nat) (r : Int32) (h : mp) (u : tc_S), 1001 ≤ x + m → x ≤ 1000 → m < f → mwf h → adm h ((kl lf (1000 - x) x).map (gen g0)) → isM u 0 h → isM u 584 g0 → ls u (mes g0) → (∀ k, k < (mes g0).length → u.1 83 k = (if (lf (mk g0 k) && decide (x ≤ mk g0 k)) = true then 1 else 0)) → bst g0 (fun q => lf q && decide (x ≤ q)) (mes g0).length r → fr fU u0 u → y2 (lo_X12_batch_107 G f 71 r u) (fun r w => r = (if (mbk g0 (mall ((kl lf (1000 - x) x).map (gen g0)) h)).1 then 1 else 0) ∧ isM w 0 (mbk g0 (mall ((kl lf (1000 - x) x).map (gen g0)) h)).2 ∧ fr fU u0 w) := by
  have hln := mes_len hg0
  intro m
  induction m with
  | zero => intro f x r h u h1 h2; omega
  | succ m ih =>
    intro f x r h u h1 hx hf hw ha hM hW hl hfl hb hr
    obtain ⟨f, rfl⟩ : ∃ k, f = k + 1 := ⟨f - 1, by omega⟩
    rw [lo_X12_batch_107]
    rcases hb with ⟨b1, b2⟩ | ⟨a, a1, a2, a3, a4⟩
    · have hnil : kl lf (1000 - x) x = [] := kl_nil _ _ fun q q1 q2 => by
        cases e : lf q with
        | false => rfl
        | true =>
          obtain ⟨j, j1, j2⟩ := hlk q e
          have : (lf (mk g0 j) && decide (x ≤ mk g0 j)) = false := b2 j j1
          rw [j2, e, decide_eq_true q1] at this
          cases this
      rw [b1, hnil, List.map_nil, mall_n]
      exact yl_p (by decide) (yl_z1 (yl_ok ⟨rfl, hM, hr⟩))
    · have a3 : (lf (mk g0 a) && decide (x ≤ mk g0 a)) = true := a3
      rw [Bool.and_eq_true, decide_eq_true_iff] at a3
      obtain ⟨k1, k2⟩ := mk_key hg0 a1
      have hgen := gen_eq hg0 (List.getElem_mem a1) k1 k2
      have up : kl lf (1000 - x) x = kl lf (1000 - mk g0 a) (mk g0 a) := kl_up2 a3.2 (by omega) fun q q1 q2 => by
        cases e : lf q with
        | false => rfl
        | true =>
          obtain ⟨j, j1, j2⟩ := hlk q e
          have := a4 j j1 (by
            show (lf (mk g0 j) && decide (x ≤ mk g0 j)) = true
            rw [j2, e, decide_eq_true q1]; rfl)
          omega
      rw [up, kl_hd (by omega), if_pos a3.1, List.map_cons, hgen] at ha ⊢
      have ih2 := ih f (mk g0 a + 1)
      generalize kl lf (1000 - (mk g0 a + 1)) (mk g0 a + 1) = R at *
      rw [a2]
      refine yl_n (nI_pos (by omega)) (yl_z0 ?_)
      rw [h5.1.2.2, h4.1]
      refine yl_sd 72 h5.2.2.2 (by omega) (by omega) ?_
      rw [show (4 : Int32) * nI a = nI (4 * a) from pk_mul 4 a, show nI (4 * a) + 1 = nI (4 * a + 1) from nI_add _ 1, show nI (4 * a) + 2 = nI (4 * a + 2) from nI_add _ 2, show nI (4 * a) + 3 = nI (4 * a + 3) from nI_add _ 3]
      refine yl_ld 288 h4.2 (by omega) (by omega) (yl_ld 288 h4.2 (by omega) (by omega) (yl_ld 288 h4.2 (by omega) (by omega) (yl_ld 288 h4.2 (by omega) (by omega) ?_)))
      rw [w_get, if_neg (by omega), w_get, if_neg (by omega), w_get, if_neg (by omega), w_get, if_neg (by omega)]
      obtain ⟨l1, l2, l3, l4⟩ := hl.2 a a1
      rw [l1, l2, l3, l4]
      have fw : fr fU u (tc_w u 83 a 0) := fr_w fr_refl (Or.inr rfl)
      have hh := adm_hand hw ha
      have e68 : ck (cs h 68 (mes g0)[a]) 68 ≠ 0 := by
        rw [ck_cs, if_pos rfl]
        exact (ha.1 _ (List.mem_cons_self ..)).1
      have hc := mcome_ok hh e68
      have iM : isM (tc_w u 83 a 0) 0 (cs h 68 (mes g0)[a]) := isM_h68 (isM_fr hM (fr_w (P := fun o _ => o = 83) fr_refl rfl) fun k hk => by omega)
      rw [k1, nI_pred]
      refine yl_b (pm_comesIn hG h2 h3 (B := 0) (by omega) iM hh k2 (by rw [gc_cs_eq, ← k1])) fun r1 v hv => ?_
      obtain ⟨v1, v2, v3⟩ := hv
      have fv : fr fU u v := fr_trans fw (fr_mono v3 fun o k q => Or.inl q)
      have vW : isM v 584 g0 := isM_fr hW fv fun k hk => by unfold fU fC; omega
      have vl : ls v (mes g0) := ls_fr hl fv (fun k => by unfold fU fC; omega) (by unfold fU fC; omega)
      rw [mall_c]
      unfold mall1
      rw [v1]
      obtain ⟨nn, nn1, nn2⟩ := hc.2.2.2.2.2
      by_cases hr0 : (mcome (cs h 68 (mes g0)[a])).1 = 0
      · rw [if_pos hr0, mbk_1 rfl]
        refine yl_p (by rw [hr0]; decide) ?_
        refine yl_e (pm_comesBack hG (F := 584) (T := 0) (by omega) (by omega) (by omega) vW v2) ?_
        exact yl_z0 (yl_ok ⟨rfl, uM_isM, fr_trans hr (fr_trans fv (fr_uM fr_refl fun k q1 q2 => Or.inl (Or.inl ⟨rfl, Or.inl ⟨by omega, by omega⟩⟩)))⟩)
      · rw [if_neg hr0]
        refine yl_n (fun z => hr0 ?_) ?_
        · rw [nn2] at z ⊢
          have := (nI_leI (a := nn) (b := 0) (by omega) (by omega)).mp z
          rw [show nn = 0 by omega]; rfl
        · have vf : ∀ k, k < (mes g0).length → v.1 83 k = (if (lf (mk g0 k) && decide (mk g0 a + 1 ≤ mk g0 k)) = true then 1 else 0) := by
            intro k hk
            rw [v3 83 k (by unfold fC; omega), w_get]
            by_cases d : k = a
            · rw [if_pos ⟨rfl, d⟩, d, decide_eq_false (by omega), Bool.and_false]
              rfl
            · rw [if_neg (fun z => d z.2), hfl k hk]
              have hne : mk g0 k ≠ mk g0 a := by
                rcases Nat.lt_or_gt_of_ne d with z | z
                · exact mk_inj hg0 k a z a1
                · exact (mk_inj hg0 a k z hk).symm
              refine if_bb ?_
              cases e : lf (mk g0 k) with
              | false => rfl
              | true =>
                rw [Bool.true_and, Bool.true_and]
                refine decide_eq_decide.mpr ⟨fun z => ?_, fun z => by omega⟩
                have := a4 k hk (by
                  show (lf (mk g0 k) && decide (x ≤ mk g0 k)) = true
                  rw [e, decide_eq_true z]; rfl)
                omega
          refine yl_b (pr_least hG h4 h5 (lf := fun q => lf q && decide (mk g0 a + 1 ≤ q)) (P := fun q => lf q && decide (mk g0 a + 1 ≤ q)) (v := -1) hg0 vl vf (Or.inl ⟨rfl, rfl⟩)) fun r2 w2 hr2 => ?_
          obtain ⟨hr3, hr4⟩ := hr2
          subst hr3
          exact ih2 r2 _ w2 (by omega) (by omega) (by omega) hc.1 (adm_next ha hc hr0) v2 vW vl vf hr4 (fr_trans hr fv)
theorem pr_20 {G : tc_G} (hG : gm G) (h2 : gm2 G) (h3 : gm3 G) (h4 : gm4 G) (h5 : gm5 G) {g0 : mp} {u0 : tc_S} (hg0 : mwf g0) {lf : Nat → Bool} {out : List (Nat × Nat)} (hout : ∀ p ∈ out, p.2 < mn g0 0 ∧ mts g0 p.2 p.1 = true ∧ (gen g0 p.1).1 = nI (p.1 + 1) ∧ p.1 ≤ 999) : ∀ (m k f : Nat) (h : mp) (u : tc_S), k + m = out.length → m < f → mwf h → ck h 68 = 0 → sA g0 h → adm h ((out.drop k).map (fun p => gen g0 p.1) ++ (kl lf 1000 0).map (gen g0)) → blok g0 (out.drop k) h → isM u 0 h → isM u 584 g0 → rB g0 u lf out → fr fU u0 u → y2 (lo_X12_batch_20 G f 71 (nI k) u) (fun r w => r = (if (mbk g0 (mall ((kl lf 1000 0).map (gen g0)) (blay g0 (out.drop k) h))).1 then 1 else 0) ∧ isM w 0 (mbk g0 (mall ((kl lf 1000 0).map (gen g0)) (blay g0 (out.drop k) h))).2 ∧ fr fU u0 w) := by
  have hfu := tc_fu_big
  have hln := mes_len hg0
  intro m
  induction m with
  | zero =>
    intro k f h u hk hf hw hck hsA ha hbl hM hW hp hr
    obtain ⟨f, rfl⟩ : ∃ k, f = k + 1 := ⟨f - 1, by omega⟩
    have hol : out.length ≤ 68 := by have := hp.2.2.2.2.1; omega
    rw [List.drop_eq_nil_of_le (by omega)] at ha ⊢
    have ha2 : adm h ((kl lf 1000 0).map (gen g0)) := ha
    rw [lo_X12_batch_20, hp.2.2.1, pu_le (by omega) (by omega), if_pos (by omega)]
    have e0 : (fun q => lf q && decide (0 ≤ q)) = lf := by
      funext q
      rw [decide_eq_true (Nat.zero_le q), Bool.and_true]
    have vf : ∀ k, k < (mes g0).length → u.1 83 k = (if (lf (mk g0 k) && decide (0 ≤ mk g0 k)) = true then 1 else 0) := fun k hk => by
      rw [hp.2.1 k hk]
      exact if_bb (by rw [decide_eq_true (Nat.zero_le _), Bool.and_true])
    refine yl_b (pr_least hG h4 h5 (lf := lf) (P := lf) (v := -1) hg0 hp.1 hp.2.1 (Or.inl ⟨rfl, rfl⟩)) fun r2 w2 hr2 => ?_
    obtain ⟨hr3, hr4⟩ := hr2
    subst hr3
    exact pr_107 hG h2 h3 h4 h5 (u0 := u0) hg0 hp.2.2.2.2.2 1001 tc_fu 0 r2 h w2 (by omega) (by omega) (by omega) hw ha2 hM hW hp.1 vf (by rw [e0]; exact hr4) hr
  | succ m ih =>
    intro k f h u hk hf hw hck hsA ha hbl hM hW hp hr
    obtain ⟨f, rfl⟩ : ∃ k, f = k + 1 := ⟨f - 1, by omega⟩
    have hol : out.length ≤ 68 := by have := hp.2.2.2.2.1; omega
    have hkl : k < out.length := by omega
    rw [List.drop_eq_getElem_cons hkl] at ha hbl ⊢
    have hpm := hout _ (List.getElem_mem hkl)
    obtain ⟨⟨i, i1, i2, i3⟩, i4⟩ := hp.2.2.2.1 k _ (List.getElem?_eq_getElem hkl)
    have hb16 := hg0.1.1.2.1.2
    obtain ⟨k1, k2⟩ := mk_key hg0 i1
    have hgen := gen_eq hg0 (List.getElem_mem i1) k1 k2
    rw [i3] at hgen
    obtain ⟨⟨x, hx⟩, hbl2⟩ := hbl
    rw [hx] at hbl2
    have ha : adm h (gen g0 (out[k]).1 :: ((out.drop (k + 1)).map (fun p => gen g0 p.1) ++ (kl lf 1000 0).map (gen g0))) := ha
    show y2 _ (fun r w => r = (if (mbk g0 (mall ((kl lf 1000 0).map (gen g0)) (blay g0 (out.drop (k + 1)) (bstp h (out[k]).2 (gen g0 (out[k]).1) (memp h (out[k]).2))))).1 then 1 else 0) ∧ isM w 0 (mbk g0 (mall ((kl lf 1000 0).map (gen g0)) (blay g0 (out.drop (k + 1)) (bstp h (out[k]).2 (gen g0 (out[k]).1) (memp h (out[k]).2))))).2 ∧ fr fU u0 w)
    rw [hx]
    have a := hw.1.1
    have a2 := a.2.2.1.2
    have hb : (out[k]).2 < mn h 0 := by rw [sA_mn hsA (by omega)]; exact hpm.1
    have sp := memp_sp a hw.1.2.2.1 hb hx
    have one := blay_ok (g0 := g0) [out[k]] h ((out.drop (k + 1)).map (fun p => gen g0 p.1) ++ (kl lf 1000 0).map (gen g0)) hw hck hsA ha (fun p hp2 => by
      rw [List.mem_singleton] at hp2
      rw [hp2]
      exact hpm) ⟨⟨x, hx⟩, trivial⟩
    have one : mwf (bstp h (out[k]).2 (gen g0 (out[k]).1) (memp h (out[k]).2)) ∧ ck (bstp h (out[k]).2 (gen g0 (out[k]).1) (memp h (out[k]).2)) 68 = 0 ∧ adm (bstp h (out[k]).2 (gen g0 (out[k]).1) (memp h (out[k]).2)) ((out.drop (k + 1)).map (fun p => gen g0 p.1) ++ (kl lf 1000 0).map (gen g0)) ∧ ∀ j, j < 20 → bstp h (out[k]).2 (gen g0 (out[k]).1) (memp h (out[k]).2) j = h j := one
    rw [hx] at one
    rw [lo_X12_batch_20, hp.2.2.1, pu_le (by omega) (by omega), if_neg (by omega), h5.1.1, h5.1.2.1, h4.1]
    refine yl_ld 72 h5.2.1 (by omega) (by omega) ?_
    rw [i2]
    refine yl_let ?_
    refine yl_ld 72 h5.2.2.1 (by omega) (by omega) (yl_ld 72 h5.2.2.1 (by omega) (by omega) ?_)
    rw [i4]
    have em : fn_X12_emptyIn G 71 0 (nI (out[k]).2) u = some (nI x, u) := by
      have := pm_emptyIn hG (B := 0) (by omega) hM (mwf_ok hw) (b := (out[k]).2) (by omega)
      rw [hx] at this
      exact this
    refine yl_e em ?_
    have ce : fn_X12_cell G 0 (nI (out[k]).2) (nI x) u = some (nI (0 + mcell (out[k]).2 x), u) := pm_cell (B := 0) (by omega)
    refine yl_e ce ?_
    rw [show (4 : Int32) * nI i = nI (4 * i) from pk_mul 4 i, show nI (4 * i) + 1 = nI (4 * i + 1) from nI_add _ 1, show nI (4 * i) + 2 = nI (4 * i + 2) from nI_add _ 2, show nI (4 * i) + 3 = nI (4 * i + 3) from nI_add _ 3]
    refine yl_ld 288 h4.2 (by omega) (by omega) (yl_ld 288 h4.2 (by omega) (by omega) (yl_ld 288 h4.2 (by omega) (by omega) (yl_ld 288 h4.2 (by omega) (by omega) ?_)))
    obtain ⟨l1, l2, l3, l4⟩ := hp.1.2 i i1
    rw [l1, l2, l3, l4]
    refine yl_e (pm_lays hG (B := 0) (by omega) hM (x := mcell (out[k]).2 x) (by unfold mcell; omega)) (yl_let ?_)
    rw [nI_1]
    have fu : fr fU u (uM u 0 (mlay h (mcell (out[k]).2 x) ((mes g0)[i].1 - 1) (mes g0)[i].2.1 (mes g0)[i].2.2.1 (mes g0)[i].2.2.2)) := fr_uM fr_refl fun k q1 q2 => Or.inl (Or.inl ⟨rfl, Or.inl ⟨by omega, by omega⟩⟩)
    have im : isM (uM u 0 (mlay h (mcell (out[k]).2 x) ((mes g0)[i].1 - 1) (mes g0)[i].2.1 (mes g0)[i].2.2.1 (mes g0)[i].2.2.2)) 0 (bstp h (out[k]).2 (gen g0 (out[k]).1) (some x)) := by
      refine isM_bstp ?_
      have z := uM_isM (u := u) (B := 0) (g := mlay h (mcell (out[k]).2 x) ((mes g0)[i].1 - 1) (mes g0)[i].2.1 (mes g0)[i].2.2.1 (mes g0)[i].2.2.2)
      rw [mcell_ci, mlay_cs, i_pm] at z ⊢
      rw [hgen]
      exact z
    have f72 : fr (fun o _ => o = 72) u (uM u 0 (mlay h (mcell (out[k]).2 x) ((mes g0)[i].1 - 1) (mes g0)[i].2.1 (mes g0)[i].2.2.1 (mes g0)[i].2.2.2)) := fr_uM fr_refl fun k q1 q2 => rfl
    generalize uM u 0 (mlay h (mcell (out[k]).2 x) ((mes g0)[i].1 - 1) (mes g0)[i].2.1 (mes g0)[i].2.2.1 (mes g0)[i].2.2.2) = v at fu im f72 ⊢
    refine ih (k + 1) f _ v (by omega) (by omega) one.1 one.2.1 (fun j hj => by rw [one.2.2.2 j (by omega)]; exact hsA j hj) one.2.2.1 hbl2 im ?_ ?_ (fr_trans hr fu)
    · exact isM_fr hW fu fun k hk => by unfold fU fC; omega
    · exact rB_fr hp f72 (fun o k q1 q2 => by omega) (by omega) (by omega)
theorem pr_batch {G : tc_G} (hG : gm G) (h2 : gm2 G) (h3 : gm3 G) (h4 : gm4 G) (h5 : gm5 G) {u : tc_S} {g : mp} (hM : isM u 0 g) (hw : mwf g) : y2 (fn_X12_batch G 71 u) (fun r w => r = (if (mbt g).1 then 1 else 0) ∧ isM w 0 (mbt g).2 ∧ fr fMr u w) := by
  have hfu := tc_fu_big
  unfold fn_X12_batch
  have c1 : fn_X12_copies G 71 0 584 u = some (0, uM u 584 g) := pm_copies hG (F := 0) (T := 584) (by omega) (by omega) (by omega) hM
  refine yl_e c1 ?_
  have f1 : fr fMr u (uM u 584 g) := fr_uM fr_refl fun k q1 q2 => Or.inl ⟨rfl, by omega⟩
  have i1 : isM (uM u 584 g) 0 g := fun k hk => (uM_out (by omega)).trans (hM k hk)
  have i2 : isM (uM u 584 g) 584 g := uM_isM
  generalize uM u 584 g = w at f1 i1 i2 ⊢
  refine yl_b (pr_peelsAll hG h4 h5 i1 hw) fun _ x hx => ?_
  have j1 := isM_Z i1 hx.2
  have j2 : isM x 584 g := isM_fr i2 hx.2 fun k _ => by unfold fZ; omega
  have e1 : fn_X12_empties G 71 0 x = some (0, uM x 0 (mempt g)) := pm_empties hG (B := 0) (by omega) j1
  refine yl_e e1 ?_
  have l1 : isM (uM x 0 (mempt g)) 0 (mclr g) := isM_mclr uM_isM
  have l2 : isM (uM x 0 (mempt g)) 584 g := fun k hk => (uM_out (by omega)).trans (j2 k hk)
  have l3 : rB g (uM x 0 (mempt g)) (mbl g) (mbo g) := rB_fr (P := fun o _ => o = 72) hx.1 (fr_uM fr_refl fun k q1 q2 => rfl) (fun o k q1 q2 => by omega) (by omega) (by omega)
  have f2 : fr fMr u (uM x 0 (mempt g)) := fr_trans f1 (fr_trans (fZ_r hx.2) (fr_uM fr_refl fun k q1 q2 => Or.inl ⟨rfl, by omega⟩))
  generalize uM x 0 (mempt g) = v at l1 l2 l3 f2 ⊢
  have hol : (mbo g).length ≤ 68 := by have := l3.2.2.2.2.1; omega
  refine yl_m (pr_20 hG h2 h3 h4 h5 (u0 := v) hw (lf := mbl g) (out := mbo g) (mbo_p hw) (mbo g).length 0 tc_fu (mclr g) v (by omega) (by omega) (mwf_mclr hw.1.1 hw.1.2.2.2.2.2.1) (ck_mclr (by omega)) (fun k hk => mclr_k (by omega) (by omega)) (mb_adm hw) (mb_blok hw) l1 l2 l3 fr_refl) fun r hr => ⟨hr.1, hr.2.1, fr_trans f2 (fr_mono hr.2.2 fun o k q => by unfold fU fC at q; unfold fMr; omega)⟩
/-- the call batch -/
theorem c_batch {G : tc_G} (hA : gA G) (hR : gR G) (h5 : gm5 G) {L : tc_L} {u : tc_S} {P : Nat} {g : mp} (hu : cC u P g) (hM : isM u 0 g) : ∃ g2 P2, P2 ≤ P + 12 ∧ yl (tc_b (fn_X11_batch G 0 u) fun r1 u1 => tc_b (fn_X12_batch G 71 u1) fun r2 u2 => if r1 = r2 then some (L, u2) else none) (pqq L u P2 g2) := by
  obtain ⟨⟨o0, o1, o2, o3, o4, o5, o6, o7, o8, o9, o10⟩, ⟨a1, a2, a3⟩, ⟨a4, a5, a6, a7⟩, b1, b2, b3, b4⟩ := hA
  refine ⟨(mbt g).2, P, by omega, pr_call (R := if (mbt g).1 then 1 else 0) hu hM (mbt_ok hu.2.1) ?_ fun w hw => pr_batch b1 b2 b3 b4 h5 hw hu.2.1.1⟩
  unfold fn_X11_batch
  rw [o6, o0, o1]
  refine yl_b (mt_layBatch a1 a2 a3 hR a4 a6 okt2 hu.2.1.1 hu.1 hu.2.2.2.1) fun r w hw => ?_
  have fc1 : fr fMc u w := fr_mono hw.2.2 fun o k q => by unfold fX fE fV fT fY at q; unfold fMc; omega
  rw [hw.1]
  cases (mbt g).1 with
  | true => exact yl_z1 (yl_ok ⟨rfl, hw.2.1, fc1⟩)
  | false => exact yl_z0 (yl_ok ⟨rfl, hw.2.1, fc1⟩)
