/-! batch: the class -/
theorem pB_fr {P : Nat → Nat → Prop} {g : mp} {u w : tc_S} {n : Nat} {os : Nat → Nat} {lf : Nat → Bool} {out : List (Nat × Nat)} (h : pB g u n os lf out) (hf : fr P u w) (hp : ∀ o k, 32 ≤ o → o ≤ 37 → ¬ P o k) : pB g w n os lf out := by
  obtain ⟨p1, p2, p3, p4, p5, p6, p7⟩ := h
  refine ⟨⟨?_, fun k hk => ?_⟩, fun k hk => ?_, fun b hb => ?_, ?_, fun j p hj => ?_, p6, p7⟩
  · rw [hf _ _ (hp _ _ (by omega) (by omega))]; exact p1.1
  · rw [hf _ _ (hp _ _ (by omega) (by omega))]; exact p1.2 k hk
  · rw [hf _ _ (hp _ _ (by omega) (by omega))]; exact p2 k hk
  · rw [hf _ _ (hp _ _ (by omega) (by omega))]; exact p3 b hb
  · rw [hf _ _ (hp _ _ (by omega) (by omega))]; exact p4
  · rw [hf _ _ (hp 35 _ (by omega) (by omega)), hf _ _ (hp 36 _ (by omega) (by omega))]; exact p5 j p hj
theorem kl_up2 {P : Nat → Bool} {x y N : Nat} (h1 : x ≤ y) (h2 : y ≤ N) (h : ∀ q, x ≤ q → q < y → P q = false) : kl P (N - x) x = kl P (N - y) y := by
  rw [show N - x = (y - x) + (N - y) by omega, kl_app, kl_nil (P := P) (y - x) x fun q a b => h q a (by omega), List.nil_append, show x + (y - x) = y by omega]
theorem kl_hd {P : Nat → Bool} {q N : Nat} (h : q < N) : kl P (N - q) q = if P q = true then q :: kl P (N - (q + 1)) (q + 1) else kl P (N - (q + 1)) (q + 1) := by
  rw [show N - q = (N - (q + 1)) + 1 by omega, kl]
theorem mbk_1 {g : mp} {r : Bool × mp} (h : r.1 = false) : mbk g r = (false, mback r.2 g) := by
  cases r with
  | mk a b => subst h; rfl
theorem memp_h68 {h : mp} {b : Nat} {e : en} (hb : b < 16) (h4 : mn h 1 ≤ 4) : memp (cs h 68 e) b = memp h b := by
  unfold memp
  rw [mn_cs (by omega)]
  refine ff_cong fun x _ hx => ?_
  rw [mcell_ci]
  have : cs h 68 e (20 + 4 * (4 * b + x)) = h (20 + 4 * (4 * b + x)) := by
    have := gc_cs_ne (g := h) (i := 68) (j := 4 * b + x) (e := e) (by omega)
    exact congrArg Prod.fst this
  rw [this]
theorem mb_79 {G : tc_G} (hK : gK G) (hV : gV G) (hE : gE G) (hR : gR G) {t n : Nat} {os : Nat → Nat} {g0 : mp} {u0 : tc_S} (hT : gT G t 64) (hB : gT G 39 64) (ht : okt t) (hg0 : mwf g0) (hs : srt (kfil g0) (fun j => kvl 0 (fc g0 j)) 68 n os) {lf : Nat → Bool} {out : List (Nat × Nat)} : ∀ (m k f x : Nat) (h : mp) (u : tc_S), k + m = n → m < f → x ≤ 1000 → (∀ j, j < k → kvl 0 (fc g0 (os j)) < x) → (∀ j, k ≤ j → j < n → x ≤ kvl 0 (fc g0 (os j))) → mwf h → adm h ((kl lf (1000 - x) x).map (gen g0)) → mt u t h → mt u 39 g0 → pB g0 u n os lf out → fr (fV t) u0 u → y2 (lo_X3_layBatch_79 G f 38 t (nI k) u) (fun r w => r = (if (mbk g0 (mall ((kl lf (1000 - x) x).map (gen g0)) h)).1 then 1 else 0) ∧ mt w t (mbk g0 (mall ((kl lf (1000 - x) x).map (gen g0)) h)).2 ∧ fr (fV t) u0 w) := by
  have htt : t + 10 ≤ 24 ∨ 32 ≤ t := by unfold okt at ht; omega
  have h68 := srt_len hs
  intro m
  induction m with
  | zero =>
    intro k f x h u hk hf hx h1 h2 hw ha hm h0 hp hr
    obtain ⟨f, rfl⟩ : ∃ k, f = k + 1 := ⟨f - 1, by omega⟩
    have hnil : kl lf (1000 - x) x = [] := kl_nil _ _ fun q q1 q2 => by
      cases e : lf q with
      | false => rfl
      | true =>
        obtain ⟨j, j1, j2⟩ := hp.2.2.2.2.2.2 q e
        have := h1 j (by omega)
        omega
    rw [lo_X3_layBatch_79, hE.2.1, hp.1.1, pu_le (by omega) (by omega), if_pos (by omega), hnil, List.map_nil, mall_n]
    exact yl_z1 (yl_ok ⟨rfl, hm, hr⟩)
  | succ m ih =>
    intro k f x h u hk hf hx h1 h2 hw ha hm h0 hp hr
    obtain ⟨f, rfl⟩ : ∃ k, f = k + 1 := ⟨f - 1, by omega⟩
    have ho := hs.2.1 k (by omega)
    obtain ⟨he, hq⟩ := kent hg0 ho.1 ho.2
    have hkx := h2 k (by omega) (by omega)
    have hmem : fc g0 (os k) ∈ mes g0 := by
      rw [← cl_mes hg0]
      exact (cl_mem 68 0).mpr ⟨os k, by omega, by omega, ho.2, rfl⟩
    have hgen := gen_eq hg0 hmem he hq
    have up : kl lf (1000 - x) x = kl lf (1000 - kvl 0 (fc g0 (os k))) (kvl 0 (fc g0 (os k))) := kl_up2 hkx (by omega) fun q q1 q2 => by
      cases e : lf q with
      | false => rfl
      | true =>
        obtain ⟨j, j1, j2⟩ := hp.2.2.2.2.2.2 q e
        exfalso
        by_cases c : j < k
        · have := h1 j c; omega
        · by_cases d : j = k
          · rw [d] at j2; omega
          · have : kvl 0 (fc g0 (os k)) < kvl 0 (fc g0 (os j)) := hs.1 k j (by omega) j1
            omega
    have upk : ∀ j, j < k + 1 → kvl 0 (fc g0 (os j)) < kvl 0 (fc g0 (os k)) + 1 := fun j hj => by
      by_cases d : j = k
      · rw [d]; omega
      · have : kvl 0 (fc g0 (os j)) < kvl 0 (fc g0 (os k)) := hs.1 j k (by omega) (by omega)
        omega
    have dnk : ∀ j, k + 1 ≤ j → j < n → kvl 0 (fc g0 (os k)) + 1 ≤ kvl 0 (fc g0 (os j)) := fun j q1 q2 => by
      have : kvl 0 (fc g0 (os k)) < kvl 0 (fc g0 (os j)) := hs.1 k j (by omega) q2
      omega
    rw [up, kl_hd (by omega)] at ha ⊢
    have ih2 := ih (k + 1) f (kvl 0 (fc g0 (os k)) + 1)
    generalize kl lf (1000 - (kvl 0 (fc g0 (os k)) + 1)) (kvl 0 (fc g0 (os k)) + 1) = R at *
    rw [lo_X3_layBatch_79, hE.2.1, hp.1.1, pu_le (by omega) (by omega), if_neg (by omega), hR.1.1, hR.1.2.1]
    refine yl_ld 68 hR.2.2.1 (by omega) (by omega) ?_
    rw [hp.2.1 k (by omega)]
    by_cases c : lf (kvl 0 (fc g0 (os k))) = true
    · rw [if_pos c, List.map_cons, hgen] at ha
      rw [if_pos c, if_pos c, List.map_cons, hgen]
      refine yl_p rfl (yl_ld 68 hR.2.1 (by omega) (by omega) ?_)
      rw [hp.1.2 k (by omega)]
      refine yl_b (mt_takeOver hE hT hB hw.1.1 hm h0 (by omega) he hq) fun _ w hw2 => ?_
      have w0 : mt w 39 g0 := mt_fr h0 hw2.2 fun o k q1 q2 => by unfold fT; unfold okt at ht; omega
      have wp := pB_fr hp hw2.2 fun o k q1 q2 => by unfold fT; unfold okt at ht; omega
      have hh := adm_hand hw ha
      have e68 : ck (cs h 68 (fc g0 (os k))) 68 ≠ 0 := by
        rw [ck_cs, if_pos rfl]
        exact (ha.1 _ (List.mem_cons_self ..)).1
      have hc := mcome_ok hh e68
      rw [hE.1]
      refine yl_b (mt_comeIn hK hV hT htt hh hw2.1 e68) fun r v hv => ?_
      obtain ⟨v1, v2, v3⟩ := hv
      have v0 : mt v 39 g0 := mt_fr w0 v3 fun o k q1 q2 => by unfold fV fT; unfold okt at ht; omega
      have vp := pB_fr wp v3 fun o k q1 q2 => by unfold fV fT; unfold okt at ht; omega
      have fr2 := fr_trans hr (fr_trans (fT_V hw2.2) v3)
      rw [mall_c]
      unfold mall1
      rw [v1]
      by_cases hr0 : (mcome (cs h 68 (fc g0 (os k)))).1 = 0
      · rw [if_pos hr0, if_pos hr0, hE.2.2.1, mbk_1 rfl]
        refine yl_b (mt_back hT hB ht hg0 v2 v0) fun _ z hz => ?_
        exact yl_z0 (yl_ok ⟨rfl, hz.1, fr_trans fr2 (fT_V hz.2.2)⟩)
      · rw [if_neg hr0, if_neg hr0]
        unfold bl_X3_layBatch_137
        refine yl_let ?_
        rw [nI_1]
        exact ih2 _ v (by omega) (by omega) (by omega) upk dnk hc.1 (adm_next ha hc hr0) v2 v0 vp fr2
    · rw [if_neg c] at ha
      rw [if_neg c, if_neg c]
      refine yl_n i_n1 ?_
      unfold bl_X3_layBatch_137
      refine yl_let ?_
      rw [nI_1]
      exact ih2 h u (by omega) (by omega) (by omega) upk dnk hw ha hm h0 hp hr
theorem mb_25 {G : tc_G} (hK : gK G) (hV : gV G) (hE : gE G) (hR : gR G) {t n : Nat} {os : Nat → Nat} {g0 : mp} {u0 : tc_S} (hT : gT G t 64) (hB : gT G 39 64) (ht : okt t) (hg0 : mwf g0) (hs : srt (kfil g0) (fun j => kvl 0 (fc g0 j)) 68 n os) {lf : Nat → Bool} {out : List (Nat × Nat)} (hout : ∀ p ∈ out, p.2 < mn g0 0 ∧ mts g0 p.2 p.1 = true ∧ (gen g0 p.1).1 = nI (p.1 + 1) ∧ p.1 ≤ 999) : ∀ (m k f : Nat) (h : mp) (u : tc_S), k + m = out.length → m < f → mwf h → ck h 68 = 0 → sA g0 h → adm h ((out.drop k).map (fun p => gen g0 p.1) ++ (kl lf 1000 0).map (gen g0)) → blok g0 (out.drop k) h → mt u t h → mt u 39 g0 → pB g0 u n os lf out → fr (fV t) u0 u → y2 (lo_X3_layBatch_25 G f 38 t (nI k) u) (fun r w => r = (if (mbk g0 (mall ((kl lf 1000 0).map (gen g0)) (blay g0 (out.drop k) h))).1 then 1 else 0) ∧ mt w t (mbk g0 (mall ((kl lf 1000 0).map (gen g0)) (blay g0 (out.drop k) h))).2 ∧ fr (fV t) u0 w) := by
  have hfu := tc_fu_big
  have h68 := srt_len hs
  intro m
  induction m with
  | zero =>
    intro k f h u hk hf hw hck hsA ha hbl hm h0 hp hr
    obtain ⟨f, rfl⟩ : ∃ k, f = k + 1 := ⟨f - 1, by omega⟩
    have hol : out.length ≤ 68 := by have := hp.2.2.2.2.2.1; omega
    rw [List.drop_eq_nil_of_le (by omega)] at ha ⊢
    rw [lo_X3_layBatch_25, hE.2.1, hp.2.2.2.1, pu_le (by omega) (by omega), if_pos (by omega)]
    have ha2 : adm h ((kl lf 1000 0).map (gen g0)) := ha
    exact mb_79 hK hV hE hR (u0 := u0) hT hB ht hg0 hs n 0 tc_fu 0 h u (by omega) (by omega) (by omega) (fun j hj => by omega) (fun j _ _ => Nat.zero_le _) hw ha2 hm h0 hp hr
  | succ m ih =>
    intro k f h u hk hf hw hck hsA ha hbl hm h0 hp hr
    obtain ⟨f, rfl⟩ : ∃ k, f = k + 1 := ⟨f - 1, by omega⟩
    have hol : out.length ≤ 68 := by have := hp.2.2.2.2.2.1; omega
    have hkl : k < out.length := by omega
    rw [List.drop_eq_getElem_cons hkl] at ha hbl ⊢
    have hpm := hout _ (List.getElem_mem hkl)
    obtain ⟨⟨i, i1, i2, i3⟩, i4⟩ := hp.2.2.2.2.1 k _ (List.getElem?_eq_getElem hkl)
    have hb16 := hg0.1.1.2.1.2
    have hkf : kfil g0 i := by
      unfold kfil
      rw [i3]
      exact nI_ne0 (by omega) (by omega)
    have hmem : fc g0 i ∈ mes g0 := by
      rw [← cl_mes hg0]
      exact (cl_mem 68 0).mpr ⟨i, by omega, by omega, hkf, rfl⟩
    have hgen := gen_eq hg0 hmem i3 hpm.2.2.2
    obtain ⟨⟨x, hx⟩, hbl2⟩ := hbl
    rw [hx] at hbl2
    have ha : adm h (gen g0 (out[k]).1 :: ((out.drop (k + 1)).map (fun p => gen g0 p.1) ++ (kl lf 1000 0).map (gen g0))) := ha
    show y2 _ (fun r w => r = (if (mbk g0 (mall ((kl lf 1000 0).map (gen g0)) (blay g0 (out.drop (k + 1)) (bstp h (out[k]).2 (gen g0 (out[k]).1) (memp h (out[k]).2))))).1 then 1 else 0) ∧ mt w t (mbk g0 (mall ((kl lf 1000 0).map (gen g0)) (blay g0 (out.drop (k + 1)) (bstp h (out[k]).2 (gen g0 (out[k]).1) (memp h (out[k]).2))))).2 ∧ fr (fV t) u0 w)
    rw [hx]
    have a := hw.1.1
    have a2 := a.2.2.1.2
    have hb : (out[k]).2 < mn h 0 := by rw [sA_mn hsA (by omega)]; exact hpm.1
    have sp := memp_sp a hw.1.2.2.1 hb hx
    have one := blay_ok (g0 := g0) [out[k]] h ((out.drop (k + 1)).map (fun p => gen g0 p.1) ++ (kl lf 1000 0).map (gen g0)) hw hck hsA ha (fun p hp2 => by
      rw [List.mem_singleton] at hp2
      rw [hp2]
      exact hpm) ⟨⟨x, hx⟩, trivial⟩
    have one : mwf (bstp h (out[k]).2 (gen g0 (out[k]).1) (memp h (out[k]).2)) ∧ ck (bstp h (out[k]).2 (gen g0 (out[k]).1) (memp h (out[k]).2)) 68 = 0 ∧ adm (bstp h (out[k]).2 (gen g0 (out[k]).1) (memp h (out[k]).2)) ((out.drop (k + 1)).map (fun p => gen g0 p.1) ++ (kl lf 1000 0).map (gen g0)) ∧ ∀ j, j < 20 → bstp h (out[k]).2 (gen g0 (out[k]).1) (memp h (out[k]).2) j = h j := one
    rw [hx] at one
    have hh := adm_hand hw ha
    rw [lo_X3_layBatch_25, hE.2.1, hp.2.2.2.1, pu_le (by omega) (by omega), if_neg (by omega), hR.1.2.2.1, hR.1.2.2.2.1]
    refine yl_ld 68 hR.2.2.2.1 (by omega) (by omega) ?_
    rw [i2]
    refine yl_b (mt_takeOver hE hT hB a hm h0 (by omega) i3 hpm.2.2.2) fun _ w hw2 => ?_
    rw [← hgen] at hw2
    have w0 : mt w 39 g0 := mt_fr h0 hw2.2 fun o k q1 q2 => by unfold fT; unfold okt at ht; omega
    have wp := pB_fr hp hw2.2 fun o k q1 q2 => by unfold fT; unfold okt at ht; omega
    refine yl_ld 68 hR.2.2.2.2.1 (by omega) (by omega) ?_
    rw [(wp.2.2.2.2.1 k _ (List.getElem?_eq_getElem hkl)).2]
    have aH : wA (cs h 68 (gen g0 (out[k]).1)) := hh.1.1
    have hm2 : memp (cs h 68 (gen g0 (out[k]).1)) (out[k]).2 = some x := by rw [memp_h68 (by omega) (by omega)]; exact hx
    have hb2 : (out[k]).2 < mn (cs h 68 (gen g0 (out[k]).1)) 0 := by rw [mn_cs (by omega)]; exact hb
    refine yl_e (mt_epl hT aH hw2.1 hb2 hm2) ?_
    rw [(mt_room hw2.1).2]
    have v68 : vc (cs h 68 (gen g0 (out[k]).1)) 68 := ⟨by omega, fun z => by omega⟩
    have f68 : fx (cs h 68 (gen g0 (out[k]).1)) 68 = 68 := by unfold fx; rw [if_neg (by omega)]
    have vx : vc (cs h 68 (gen g0 (out[k]).1)) (4 * (out[k]).2 + x) := ⟨by omega, fun _ => ⟨by rw [sp.2.2.2.1]; exact hb2, by rw [sp.2.2.2.2, mn_cs (by omega)]; exact sp.1⟩⟩
    have mvv := mt_move hT aH hw2.1 v68 vx (by omega) (by rw [gc_cs_eq, hpm.2.2.1]; exact nI_ne0 (by omega) (by omega)) (by
      rw [gc_cs_ne (by omega)]
      exact (gc_e0 hw (by omega)).mp sp.2.2.1)
    rw [f68] at mvv
    refine yl_b mvv fun _ v hv => yl_let ?_
    rw [nI_1]
    exact ih (k + 1) f _ v (by omega) (by omega) one.1 one.2.1 (fun j hj => by rw [one.2.2.2 j (by omega)]; exact hsA j hj) one.2.2.1 hbl2 hv.1 (mt_fr w0 hv.2 fun o k q1 q2 => by unfold fT; unfold okt at ht; omega) (pB_fr wp hv.2 fun o k q1 q2 => by unfold fT; unfold okt at ht; omega) (fr_trans hr (fT_V (fr_trans hw2.2 hv.2)))
/-- what a batch may change -/
def fX (t : Nat) (o k : Nat) : Prop := fE t o k ∨ fY o k
theorem mt_layBatch {G : tc_G} (hK : gK G) (hV : gV G) (hE : gE G) (hR : gR G) {u : tc_S} {t : Nat} {g : mp} (hT : gT G t 64) (hB : gT G 39 64) (ht : okt t) (hg : mwf g) (h : mt u t g) (hb : tR u 39 64) : y2 (fn_X3_layBatch G 38 t u) (fun r w => r = (if (mbt g).1 then 1 else 0) ∧ mt w t (mbt g).2 ∧ fr (fX t) u w) := by
  have hfu := tc_fu_big
  unfold fn_X3_layBatch
  rw [hE.2.1, hE.2.2.1]
  refine yl_b (mt_copyB hT hB ht hg h hb) fun _ w1 h1 => ?_
  refine yl_b (mt_peelOff hR hB (by omega) hg h1.2.1) fun _ w2 h2 => ?_
  obtain ⟨n, os, s1, m1, f1, p1⟩ := h2
  have t2 : mt w2 t g := mt_fr h1.1 f1 fun o k q1 q2 => by unfold fY; unfold okt at ht; omega
  have a := hg.1.1
  refine yl_b (pc_clear hT (by omega) (wA_wS a) t2.1) fun _ w3 h3 => ?_
  have m3 : mt w3 t (mclr g) := by
    have a2 : wA (upd g 18 0) := sA_wA (sA_upd (by omega)) a
    have a3 : wA (mclr g) := (mwf_mclr a hg.1.2.2.2.2.2.1).1.1
    refine tb_cong h3.1 (fun k hk => ?_) (fun i hi => ?_) (nbns a2)
    · by_cases e : k = 18
      · rw [e, mclr_18, upd_eq]
      · rw [mclr_k (by omega) e, upd_ne e]
    · rw [fc_c0 (fun i hi => gc_mclr hi) a3 i (by omega)]
      rfl
  have m39 : mt w3 39 g := mt_fr m1 h3.2 fun o k q1 q2 => by unfold fT; unfold okt at ht; omega
  have p3 := pB_fr p1 h3.2 fun o k q1 q2 => by unfold fT; unfold okt at ht; omega
  have ha := mb_adm hg
  have hbl := mb_blok hg
  have hop := mbo_p hg
  have hol : (mbo g).length ≤ 68 := by have := p1.2.2.2.2.2.1; unfold mbo; omega
  refine yl_m (mb_25 hK hV hE hR (u0 := w3) (lf := mbl g) (out := mbo g) hT hB ht hg s1 hop (mbo g).length 0 tc_fu (mclr g) w3 (by omega) (by omega) (mwf_mclr a hg.1.2.2.2.2.2.1) (ck_mclr (by omega)) (fun k hk => mclr_k (by omega) (by omega)) ha hbl m3 m39 p3 fr_refl) fun r hr => ⟨hr.1, hr.2.1, ?_⟩
  refine fr_trans (fr_mono h1.2.2 fun o k q => Or.inl (Or.inr q)) (fr_trans (fr_mono f1 fun o k q => Or.inr q) (fr_trans (fr_mono h3.2 fun o k q => Or.inl (Or.inl (Or.inl q))) (fr_mono hr.2.2 fun o k q => Or.inl (Or.inl q))))
