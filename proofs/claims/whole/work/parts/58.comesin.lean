/-! the reference: how one comes in -/
theorem isM_mv {u : tc_S} {B i : Nat} {g : mp} {e : en} (h : isM u B (cs g i e)) (he : e = gc g 68) : isM u B (mv g 68 i) := isM_lo h fun k hk => by
  unfold mv
  rw [he, cs_k (i := 68), if_neg (by omega)]
theorem pm_lay68 {G : tc_G} (hG : gm G) {u : tc_S} {B i q : Nat} {v b m : Int32} {g : mp} (hB : B + 292 ≤ 3253) (hM : isM u B g) (hh : gc g 68 = (nI (q + 1), v, b, m)) (hi : i < 68) : y2 (fn_X12_lays G 71 (nI (B + (20 + 4 * i))) (nI q) v b m u) (fun _ w => isM w B (mv g 68 i) ∧ fr (fD B) u w) := by
  refine ⟨_, pm_lays hG hB hM (by omega), ?_, fr_uM'⟩
  rw [mlay_cs]
  exact isM_mv uM_isM (by rw [hh, nI_1])
theorem isM_upd {u w : tc_S} {B k : Nat} {g : mp} {x : Int32} (hM : isM w B g) (h : k < 292) (e : u = tc_w w 72 (B + k) x) : isM u B (upd g k x) := by
  intro j hj
  rw [e, w_get]
  unfold upd
  by_cases q : j = k
  · rw [if_pos ⟨rfl, by omega⟩, if_pos q]
  · rw [if_neg (by omega), if_neg q]
    exact hM j hj
theorem pm_stash {G : tc_G} (hG : gm G) {u : tc_S} {B q : Nat} {v b m : Int32} {g : mp} (hB : B + 292 ≤ 3253) (hM : isM u B g) (hg : mwf g) (hh : gc g 68 = (nI (q + 1), v, b, m)) : y2 (bl_X12_comesIn_116 G 71 (nI B) (nI q) v b m u) (fun r w => r = (mstash g).1 ∧ isM w B (mstash g).2 ∧ fr (fD B) u w) := by
  have b18 := hg.1.2.1
  have h4 := hg.1.1.2.2.2.1
  unfold bl_X12_comesIn_116 mstash
  rw [hG.1.1, show nI B + 18 = nI (B + 18) from nI_add B 18, isM_ld hG hM hB (by omega), show nI B + 2 = nI (B + 2) from nI_add B 2, isM_ld hG hM hB (by omega)]
  by_cases h : g 18 = g 2
  · rw [if_pos h, if_pos h]
    exact yl_ok ⟨rfl, hM, fr_refl⟩
  · rw [if_neg h, if_neg h, isM_ld hG hM hB (by omega)]
    have hlt : mn g 18 < mn g 2 := by
      rcases Nat.lt_or_eq_of_le b18.2 with q | q
      · exact q
      · exact absurd (by rw [b18.1, q]; exact (hg.1.1.1 2 (by omega)).symm) h
    have e18 : g 18 = nI (mn g 18) := b18.1
    rw [e18]
    refine yl_e pm_cellS ?_
    rw [msc_ci]
    refine yl_b (pm_lay68 hG hB hM hh (by omega)) fun r w hw => ?_
    rw [isM_ld hG hw.1 hB (by omega)]
    refine yl_sd (j := B + 18) 3253 hG.1.2 (by omega) (by omega) (yl_ok ⟨rfl, ?_, ?_⟩)
    · have e : mv g 68 (64 + mn g 18) 18 = g 18 := by
        unfold mv
        rw [cs_lo (by omega), cs_lo (by omega)]
      have z := isM_upd (k := 18) (x := mv g 68 (64 + mn g 18) 18 + 1) hw.1 (by omega) rfl
      rw [e, e18] at z
      rw [e, e18]
      exact z
    · exact fr_w hw.2 (Or.inl ⟨rfl, by omega, by omega⟩)
theorem fr_uC {u : tc_S} {nb B : Nat} {a : Nat → Nat} {l : List (Nat × Nat)} : fr (fD B) u (uC u nb a l) := fr_o (fr_o (fr_o fr_refl fun _ => Or.inr ⟨by omega, by omega⟩) fun _ => Or.inr ⟨by omega, by omega⟩) fun _ => Or.inr ⟨by omega, by omega⟩
theorem fr_uA {u : tc_S} {nb B : Nat} {a : Nat → Nat} : fr (fD B) u (uA u nb a) := fr_o fr_refl fun _ => Or.inr ⟨by omega, by omega⟩
/-- by a chain -/
theorem pm_chainIn {G : tc_G} (hG : gm G) (h2 : gm2 G) {u : tc_S} {B q : Nat} {v b m : Int32} {g : mp} {l : List (Nat × Nat)} (hB : B + 292 ≤ 3253) (hM : isM u B g) (hg : mwf g) (hh : gc g 68 = (nI (q + 1), v, b, m)) (hl : mchain g q = some l) (hc : chn u l) : y2 (tc_b (fn_X12_opens G 71 (nI B) (nI l.length) u) fun x22 u23 => tc_b (fn_X12_lays G 71 x22 (nI q) v b m u23) fun _ u26 => some (2, u26)) (fun r w => r = 2 ∧ isM w B (mv (mopn g q l) 68 (mopf g q l)) ∧ fr (fD B) u w) := by
  obtain ⟨o1, o2, o3, o4, o5, o6, o7, o8⟩ := mopn_ok hg hl
  refine yl_e (pm_opens hG h2 hB hM hg hl hc) ?_
  refine yl_b (pm_lay68 hG hB uM_isM (by rw [o7 68 (by omega)]; exact hh) (by omega)) fun r w hw => ?_
  exact yl_ok ⟨rfl, hw.1, fr_trans fr_uM' hw.2⟩
theorem pm_comesIn {G : tc_G} (hG : gm G) (h2 : gm2 G) (h3 : gm3 G) {u : tc_S} {B q : Nat} {v b m : Int32} {g : mp} (hB : B + 292 ≤ 876) (hM : isM u B g) (hg : mwf g) (hq : q ≤ 999) (hh : gc g 68 = (nI (q + 1), v, b, m)) : y2 (fn_X12_comesIn G 71 (nI B) (nI q) v b m u) (fun r w => r = (mcome g).1 ∧ isM w B (mcome g).2 ∧ fr (fC B) u w) := by
  have hk := mwf_ok hg
  have a := hg.1.1
  have ek : ck g 68 = q + 1 := by rw [ck_gc, hh]; exact nI_clamp (by omega)
  have eq : ck g 68 - 1 = q := by omega
  unfold fn_X12_comesIn mcome
  rw [eq]
  refine yl_e (pm_freeFor hG (by omega) hM hk hq) ?_
  rw [mfree_fr]
  cases hf : mfr g q with
  | some i =>
    obtain ⟨f1, f2, f3⟩ := mfr_sp a hg.1.2.2.1 hf
    rw [mcf]
    show yl (if nI (B + (20 + 4 * i)) < 0 then _ else _) _
    refine yl_n (nI_pos (by omega)) ?_
    refine yl_b (pm_lay68 hG (by omega) hM hh (by omega)) fun r w hw => ?_
    exact yl_ok ⟨rfl, hw.1, fD_C hw.2⟩
  | none =>
    rw [mcf]
    show yl (if (-1 : Int32) < 0 then _ else _) _
    refine yl_p (by decide) ?_
    rw [hG.1.1, show nI B + 5 = nI (B + 5) from nI_add B 5, isM_ld hG hM (by omega) (by omega)]
    have stash : ∀ w, isM w B g → fr (fC B) u w → y2 (bl_X12_comesIn_116 G 71 (nI B) (nI q) v b m w) (fun r w => r = (mstash g).1 ∧ isM w B (mstash g).2 ∧ fr (fC B) u w) := by
      intro w hw hr
      exact yl_m (pm_stash hG (by omega) hw hg hh) fun r hx => ⟨hx.1, hx.2.1, fr_trans hr (fD_C hx.2.2)⟩
    have i5 : ¬ (2 : Int32) = 1 := by decide
    by_cases c2 : g 5 = 2
    · rw [if_pos c2, if_pos c2]
      refine yl_e (pm_chainOf hG h2 (by omega) hM hk hq) ?_
      have no : ∀ w, isM w B g → fr (fC B) u w → y2 (bl_X12_comesIn_88 G 71 (nI B) (nI q) v b m w) (fun r w => r = (mstash g).1 ∧ isM w B (mstash g).2 ∧ fr (fC B) u w) := by
        intro w hw hr
        unfold bl_X12_comesIn_88
        rw [hG.1.1, show nI B + 5 = nI (B + 5) from nI_add B 5, isM_ld hG hw (by omega) (by omega), c2]
        exact yl_n i5 (stash w hw hr)
      unfold bl_X12_comesIn_49
      cases hc : mchain g q with
      | none =>
        rw [mcc]
        show yl (if (-1 : Int32) ≤ 0 then _ else _) _
        exact yl_p (by decide) (no _ (isM_uA hM) (fD_C fr_uA))
      | some l =>
        obtain ⟨c1, c3, c4, c5, c6, c7, c8⟩ := mchain_sp hg hc
        have hd3 := a.2.2.2.2.1
        rw [mcc, show lC (some l) = nI l.length from rfl, show oC u g q (some l) = uC u (mn g 0) (maway g q) l from rfl]
        refine yl_n (nI_nle c3 (by omega)) ?_
        rw [show nI B + 3 = nI (B + 3) from nI_add B 3]
        rw [hG.1.1, isM_ld hG (isM_uC hM) (by omega) (by omega), a.1 3 (by omega), pu_lt (by omega) (by omega)]
        by_cases c9 : l.length ≤ mn g 3
        · rw [if_pos c9, if_neg (by omega)]
          exact yl_m (pm_chainIn hG h2 (by omega) (isM_uC hM) hg hh hc chn_uC) fun r hx => ⟨hx.1, hx.2.1, fr_trans (fD_C fr_uC) (fD_C hx.2.2)⟩
        · rw [if_neg c9, if_pos (by omega)]
          exact no _ (isM_uC hM) (fD_C fr_uC)
    · rw [if_neg c2, if_neg c2]
      unfold bl_X12_comesIn_49
      refine yl_p (by decide) ?_
      unfold bl_X12_comesIn_88
      rw [hG.1.1, show nI B + 5 = nI (B + 5) from nI_add B 5, isM_ld hG hM (by omega) (by omega)]
      by_cases c1 : g 5 = 1
      · rw [if_pos c1, if_pos c1]
        refine yl_b (pm_walks hG h3 hB hM hg hq hh hf) fun r w hw => ?_
        cases hk2 : mwk g with
        | mk t x =>
          rw [hk2] at hw
          cases t with
          | true =>
            rw [mcw]
            obtain ⟨w1, w2, w3⟩ := hw
            rw [w1]
            exact yl_n i_n1 (yl_ok ⟨rfl, w2, w3⟩)
          | false =>
            rw [mcw]
            obtain ⟨w1, w2, w3⟩ := hw
            rw [w1]
            have e : x = upd g 11 (x 11) := by
              unfold mwk at hk2
              cases hl : mwl (mn g 3) g (mhash g 0 (ck g 68 - 1)) with
              | mk t2 y =>
                rw [hl] at hk2
                cases t2 with
                | true => rw [mwk2] at hk2; cases hk2
                | false =>
                  rw [mwk2] at hk2
                  have := (Prod.mk.inj hk2).2
                  rw [← this]
                  unfold mback
                  rw [upd_eq]
            refine yl_p rfl ?_
            have hx : mwf x := by rw [e]; exact mwf_seed hg
            have hh2 : gc x 68 = (nI (q + 1), v, b, m) := by rw [e, gc_upd (by omega)]; exact hh
            exact yl_m (pm_stash hG (by omega) w2 hx hh2) fun r hy => ⟨hy.1, hy.2.1, fr_trans w3 (fD_C hy.2.2)⟩
      · rw [if_neg c1, if_neg c1]
        exact stash u hM fr_refl
