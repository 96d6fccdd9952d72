/-! the reference: all come, hashes drawn anew, growing, a put -/
theorem pm_addsNew {G : tc_G} (h4 : gm4 G) {u : tc_S} {es : List en} {k v b : Int32} (hl : ls u es) (hn : es.length < 72) : y2 (fn_X12_addsNew G 71 k v b u) (fun _ w => ls w (es ++ [(k + 1, v, b, 0)]) ∧ fr fL u w) := by
  have hl1 := hl.1
  have n1 : ∀ (w : tc_S) (j : Nat) (x : Int32), (tc_w w 80 j x).1 71 12 = w.1 71 12 := fun w j x => by rw [w_get, if_neg (by omega)]
  unfold fn_X12_addsNew
  have m4 : (4 : Int32) * nI es.length = nI (4 * es.length) := pk_mul 4 es.length
  rw [h4.1, hl1, m4]
  refine yl_sd 288 h4.2 (by omega) (by omega) ?_
  rw [n1, hl1, m4, show nI (4 * es.length) + 1 = nI (4 * es.length + 1) from nI_1 _]
  refine yl_sd 288 h4.2 (by omega) (by omega) ?_
  rw [n1, n1, hl1, m4, show nI (4 * es.length) + 2 = nI (4 * es.length + 2) from nI_add _ 2]
  refine yl_sd 288 h4.2 (by omega) (by omega) ?_
  rw [n1, n1, n1, hl1, m4, show nI (4 * es.length) + 3 = nI (4 * es.length + 3) from nI_add _ 3]
  refine yl_sd 288 h4.2 (by omega) (by omega) ?_
  rw [n1, n1, n1, n1, hl1, nI_1]
  refine yl_let (yl_ok ⟨?_, ?_⟩)
  · refine ls_push hl ?_ ?_ ?_ ?_ ?_ ?_
    · rw [w_get, if_pos ⟨rfl, rfl⟩]
    · intro k hk
      simp only [w_get]
      rw [if_neg (by omega), if_neg (by omega), if_neg (by omega), if_neg (by omega), if_neg (by omega)]
    · simp only [w_get]
      rw [if_neg (by omega), if_neg (by omega), if_neg (by omega), if_neg (by omega), if_pos (by simp)]
    · simp only [w_get]
      rw [if_neg (by omega), if_neg (by omega), if_neg (by omega), if_pos (by simp)]
    · simp only [w_get]
      rw [if_neg (by omega), if_neg (by omega), if_pos (by simp)]
    · simp only [w_get]
      rw [if_neg (by omega), if_pos (by simp)]
  · exact fr_w (fr_w (fr_w (fr_w (fr_w fr_refl (Or.inl rfl)) (Or.inl rfl)) (Or.inl rfl)) (Or.inl rfl)) (Or.inr ⟨rfl, rfl⟩)
theorem ls_fr {P : Nat → Nat → Prop} {u w : tc_S} {es : List en} (h : ls u es) (hf : fr P u w) (h1 : ∀ k, ¬ P 80 k) (h2 : ¬ P 71 12) : ls w es := by
  refine ⟨(hf 71 12 h2).trans h.1, fun k hk => ?_⟩
  rw [hf _ _ (h1 _), hf _ _ (h1 _), hf _ _ (h1 _), hf _ _ (h1 _)]
  exact h.2 k hk
theorem ls_C {u w : tc_S} {B : Nat} {es : List en} (h : ls u es) (hf : fr (fC B) u w) : ls w es := ls_fr h hf (fun k => by unfold fC; omega) (by unfold fC; omega)
theorem wc1_key {P : Nat} {e : en} (h : wc1 P e) (h0 : e.1.toNatClampNeg ≠ 0) : ∃ q, q ≤ 999 ∧ e.1 = nI (q + 1) ∧ e.1 - 1 = nI q := by
  refine ⟨e.1.toNatClampNeg - 1, by have := h.2.1; omega, ?_, ?_⟩
  · rw [show e.1.toNatClampNeg - 1 + 1 = e.1.toNatClampNeg by omega]; exact h.1
  · conv => lhs; rw [h.1, show e.1.toNatClampNeg = (e.1.toNatClampNeg - 1) + 1 by omega, nI_pred]
theorem isM_h68 {u : tc_S} {B : Nat} {g : mp} {e : en} (h : isM u B g) : isM u B (cs g 68 e) := isM_lo h fun k hk => by rw [cs_k, if_neg (by omega)]
theorem pm_doAll {G : tc_G} (hG : gm G) (h2 : gm2 G) (h3 : gm3 G) (h4 : gm4 G) {B : Nat} {es : List en} (hB : B + 292 ≤ 876) (hlen : es.length ≤ 72) : ∀ (n k f : Nat) (u : tc_S) (g : mp), k + n = es.length → n < f → isM u B g → mwf g → adm g (es.drop k) → ls u es → y2 (lo_X12_doAllCome_2 G f 71 (nI B) (nI k) u) (fun r w => r = (if (mall (es.drop k) g).1 then 1 else 0) ∧ isM w B (mall (es.drop k) g).2 ∧ fr (fC B) u w) := by
  intro n
  induction n with
  | zero =>
    intro k f u g hk hf hM hg ha hl
    obtain ⟨f, rfl⟩ : ∃ k, f = k + 1 := ⟨f - 1, by omega⟩
    rw [lo_X12_doAllCome_2, hl.1, pu_le (by omega) (by omega), if_pos (by omega), List.drop_of_length_le (by omega), mall_n]
    exact yl_z1 (yl_ok ⟨rfl, hM, fr_refl⟩)
  | succ n ih =>
    intro k f u g hk hf hM hg ha hl
    obtain ⟨f, rfl⟩ : ∃ k, f = k + 1 := ⟨f - 1, by omega⟩
    have hlt : k < es.length := by omega
    have hd : es.drop k = es[k] :: es.drop (k + 1) := List.drop_eq_getElem_cons hlt
    rw [hd] at ha ⊢
    have he := ha.1 _ (List.mem_cons_self ..)
    obtain ⟨q, q1, q2, q3⟩ := wc1_key he.2.1 he.1
    have l1 := hl.2 k hlt
    have m4 : (4 : Int32) * nI k = nI (4 * k) := pk_mul 4 k
    have h68 := adm_hand hg ha
    have e68 : ck (cs g 68 es[k]) 68 ≠ 0 := by
      rw [ck_cs, if_pos rfl]
      exact he.1
    have hc := mcome_ok h68 e68
    rw [lo_X12_doAllCome_2, hl.1, pu_le (by omega) (by omega), if_neg (by omega), h4.1, m4, show nI (4 * k) + 1 = nI (4 * k + 1) from nI_1 _, show nI (4 * k) + 2 = nI (4 * k + 2) from nI_add _ 2, show nI (4 * k) + 3 = nI (4 * k + 3) from nI_add _ 3]
    refine yl_ld 288 h4.2 (by omega) (by omega) ?_
    refine yl_ld 288 h4.2 (by omega) (by omega) ?_
    refine yl_ld 288 h4.2 (by omega) (by omega) ?_
    refine yl_ld 288 h4.2 (by omega) (by omega) ?_
    rw [l1.1, l1.2.1, l1.2.2.1, l1.2.2.2, q3]
    refine yl_b (pm_comesIn hG h2 h3 hB (isM_h68 (e := es[k]) hM) h68 q1 (by rw [gc_cs, if_pos rfl, ← q2])) fun r w hw => ?_
    rw [mall_c]
    unfold mall1
    obtain ⟨w1, w2, w3⟩ := hw
    rw [w1]
    by_cases h0 : (mcome (cs g 68 es[k])).1 = 0
    · rw [if_pos h0, if_pos h0]
      exact yl_z0 (yl_ok ⟨rfl, w2, w3⟩)
    · rw [if_neg h0, if_neg h0]
      refine yl_let ?_
      rw [nI_1]
      exact yl_m (ih (k + 1) f w _ (by omega) (by omega) w2 hc.1 (adm_next ha hc h0) (ls_C hl w3)) fun r hx => ⟨hx.1, hx.2.1, fr_trans w3 hx.2.2⟩
/-- what a put of the reference may change -/
def fP (B : Nat) (o k : Nat) : Prop := (o = 72 ∧ (B ≤ k ∧ k < B + 292 ∨ 584 ≤ k ∧ k < 1168)) ∨ (75 ≤ o ∧ o ≤ 80) ∨ (o = 71 ∧ k = 12)
theorem fC_P {B : Nat} {u v : tc_S} (h : fr (fC B) u v) : fr (fP B) u v := fr_mono h fun o k q => by unfold fC at q; unfold fP; omega
theorem fL_P {B : Nat} {u v : tc_S} (h : fr fL u v) : fr (fP B) u v := fr_mono h fun o k q => by unfold fL at q; unfold fP; omega
theorem fD_P {B : Nat} {u v : tc_S} (h : fr (fD B) u v) : fr (fP B) u v := fC_P (fD_C h)
theorem isM_mclr {u : tc_S} {B : Nat} {g : mp} (h : isM u B (mempt g)) : isM u B (mclr g) := isM_h68 h
theorem pm_rh40 {G : tc_G} (hG : gm G) {K : Nat → Int32 → Int32 → tc_S → Option (Int32 × tc_S)} {u : tc_S} {B k f n a : Nat} {v5 : Int32} {g : mp} (hB : B + 292 ≤ 3253) (hk : k < 4) (hc : (tc_mod (nI k) 2 = 0 ∧ n = 1008 ∧ a = 1) ∨ (¬ tc_mod (nI k) 2 = 0 ∧ n = 1009 ∧ a = 0)) : lo_X12_rehashes_40 G K (f + 1) 71 (nI B) v5 (nI k) (uM u B g) = lo_X12_rehashes_40 G K f 71 (nI B) v5 (nI (k + 1)) (uM u B (mdh1 g k (nI n) (nI a))) := by
  rw [lo_X12_rehashes_40, if_neg (show ¬ (4 : Int32) ≤ nI k from fun q => by
    rw [show (4 : Int32) = nI 4 from rfl, nI_leI (by omega) (by omega)] at q
    omega), hG.1.1, show nI B + 7 = nI (B + 7) from nI_add B 7, nI_add, show B + 7 + k = B + (7 + k) by omega]
  rcases hc with ⟨h1, h2, h3⟩ | ⟨h1, h2, h3⟩
  · rw [if_pos h1, h2, h3, show (1008 : Int32) = nI 1008 from rfl, pm_draws hG hB uM_isM (nI_ne0 (by omega) (by omega)), pu_b]
    unfold bl_X12_rehashes_85 tc_let
    rw [uM_uM, uM_sd hG hB (by omega), nI_1]
    rfl
  · rw [if_neg h1, h2, h3, show (1009 : Int32) = nI 1009 from rfl, pm_draws hG hB uM_isM (nI_ne0 (by omega) (by omega)), pu_b]
    unfold bl_X12_rehashes_85 tc_let
    rw [uM_uM, uM_sd hG hB (by omega), nI_1]
    unfold mdh1
    rw [show nI 0 + mpick (mseed (g 11)) (nI 1009) = mpick (mseed (g 11)) (nI 1009) from Int32.zero_add _]
theorem pm_rh24 {G : tc_G} (hG : gm G) (h2 : gm2 G) (h3 : gm3 G) (h4 : gm4 G) {B : Nat} {g0 : mp} (hB : B + 292 ≤ 584) (hg : mwf g0) (h0 : ck g0 68 ≠ 0) : ∀ (n t f : Nat) (u : tc_S) (g : mp), t + n = mn g0 4 → n < f → isd g0 g → isM u B g → isM u 584 g0 → ls u (mesh g0) → y2 (lo_X12_rehashes_24 G f 71 (nI B) (nI t) u) (fun r w => r = (if (mrh (mesh g0) g0 n g).1 then 1 else 0) ∧ isM w B (mrh (mesh g0) g0 n g).2 ∧ fr (fP B) u w) := by
  have hfu := tc_fu_big
  have a := hg.1.1
  have h44 := a.2.2.2.2.2.1
  have hlen : (mesh g0).length ≤ 72 := by
    unfold mesh
    rw [List.length_append, List.length_singleton]
    have := mes_len hg
    omega
  intro n
  induction n with
  | zero =>
    intro t f u g ht hf hi hM hW hl
    obtain ⟨f, rfl⟩ : ∃ k, f = k + 1 := ⟨f - 1, by omega⟩
    have e4 : g 4 = nI (mn g0 4) := by
      obtain ⟨s, rfl⟩ := hi
      rw [upd_ne (by omega)]
      exact a.1 4 (by omega)
    rw [lo_X12_rehashes_24, hG.1.1, show nI B + 4 = nI (B + 4) from nI_add B 4, isM_ld hG hM (by omega) (by omega), e4, pu_le (by omega) (by omega), if_pos (by omega), mrh_0]
    exact yl_z0 (yl_ok ⟨rfl, hM, fr_refl⟩)
  | succ n ih =>
    intro t f u g ht hf hi hM hW hl
    obtain ⟨f, rfl⟩ : ∃ k, f = k + 1 := ⟨f - 1, by omega⟩
    have e4 : g 4 = nI (mn g0 4) := by
      obtain ⟨s, rfl⟩ := hi
      rw [upd_ne (by omega)]
      exact a.1 4 (by omega)
    have hw : mwf g := (isd_wf hg hi).1
    have e12 : mdh g 12 = g0 12 := by
      obtain ⟨s, rfl⟩ := hi
      rw [mdh_k (by omega) (by omega), upd_ne (by omega)]
    have m12 : mn (mdh g) 12 = mn g0 12 := by unfold mn; rw [e12]
    have hc := mwf_mclr (wA_mdh hw.1.1) (by rw [e12, m12]; exact hg.1.2.2.2.2.2.1)
    have ha := mesh_adm (h := mdh g) hg h0 m12
    obtain ⟨f5, hf5⟩ : ∃ k, tc_fu = k + 1 + 1 + 1 + 1 + 1 := ⟨tc_fu - 5, by omega⟩
    rw [lo_X12_rehashes_24, hG.1.1, show nI B + 4 = nI (B + 4) from nI_add B 4, isM_ld hG hM (by omega) (by omega), e4, pu_le (by omega) (by omega), if_neg (by omega), mrh_s, hf5, show (0 : Int32) = nI 0 from rfl]
    conv => enter [1, 8]; rw [← uM_id hM]
    rw [pm_rh40 hG (n := 1008) (a := 1) (by omega) (by omega) (Or.inl ⟨by decide, rfl, rfl⟩), pm_rh40 hG (n := 1009) (a := 0) (by omega) (by omega) (Or.inr ⟨by decide, rfl, rfl⟩), pm_rh40 hG (n := 1008) (a := 1) (by omega) (by omega) (Or.inl ⟨by decide, rfl, rfl⟩), pm_rh40 hG (n := 1009) (a := 0) (by omega) (by omega) (Or.inr ⟨by decide, rfl, rfl⟩), lo_X12_rehashes_40, if_pos (by decide)]
    have f1 : fr (fD B) u (uM u B (mdh g)) := fr_uM'
    refine yl_e (pm_empties hG (by omega) (uM_isM (g := mdh g))) ?_
    have f2 : fr (fD B) u (uM (uM u B (mdh g)) B (mempt (mdh g))) := fr_trans f1 fr_uM'
    have i2 : isM (uM (uM u B (mdh g)) B (mempt (mdh g))) B (mclr (mdh g)) := isM_mclr uM_isM
    have z := pm_doAll hG h2 h3 h4 (by omega) hlen (mesh g0).length 0 tc_fu _ (mclr (mdh g)) (by omega) (by omega) i2 hc ha (ls_C hl (fD_C f2))
    rw [List.drop_zero] at z
    refine yl_b z fun r w hx => ?_
    obtain ⟨x1, x2, x3⟩ := hx
    have f3 := fr_trans (fD_C f2) x3
    cases hm : mall (mesh g0) (mclr (mdh g)) with
    | mk t2 y =>
      rw [hm] at x1 x2
      cases t2 with
      | true =>
        rw [mrh1, x1]
        refine yl_n i_n1 ?_
        rw [hG.1.1, show nI B + 14 = nI (B + 14) from nI_add B 14, isM_ld hG x2 (by omega) (by omega)]
        refine yl_sd 3253 hG.1.2 (by omega) (by omega) (yl_z1 (yl_ok ⟨rfl, isM_upd x2 (by omega) rfl, ?_⟩))
        exact fr_w (fC_P f3) (Or.inl ⟨rfl, Or.inl ⟨by omega, by omega⟩⟩)
      | false =>
        rw [mrh1, x1]
        refine yl_p rfl ?_
        rw [show (584 : Int32) = nI 584 from rfl]
        have hW2 : isM w 584 g0 := isM_fr hW f3 fun k hk => by unfold fC; omega
        refine yl_e (pm_comesBack hG (F := 584) (T := B) (by omega) (by omega) (by omega) hW2 x2) ?_
        refine yl_let ?_
        rw [nI_1]
        have f4 : fr (fC B) u (uM w B (mback y g0)) := fr_trans f3 (fD_C fr_uM')
        refine yl_m (ih (t + 1) f (uM w B (mback y g0)) (mback y g0) (by omega) (by omega) isd_back uM_isM (isM_fr hW f4 fun k hk => by unfold fC; omega) (ls_C hl f4)) fun r hx => ⟨hx.1, hx.2.1, fr_trans (fC_P f4) hx.2.2⟩
