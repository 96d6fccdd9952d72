/-! peel: the class, all of it -/
theorem pe_64 {G : tc_G} (hR : gR G) {u0 : tc_S} {t n : Nat} {g : mp} {os : Nat → Nat} (hT : gT G t 64) (ht : t + 10 ≤ 24 ∨ 38 ≤ t) (hw : mwf g) (hs : srt (kfil g) (fun j => kvl 0 (fc g j)) 68 n os) : ∀ (m k f : Nat) (lf : Nat → Bool) (out : List (Nat × Nat)) (u : tc_S), k + m = mn g 0 → m < f → mt u t g → fr fY u0 u → pB g u n os lf out → y2 (lo_X7_peelOff_64 G f 32 t (nI (mn g 0)) (nI k) u) (fun _ w => mt w t g ∧ fr fY u0 w ∧ pB g w n os (pls g m lf).2 (out ++ (pls g m lf).1)) := by
  have hfu := tc_fu_big
  have aa := hw.1.1
  have hn := aa.2.1.2
  have h68 := srt_len hs
  intro m
  induction m with
  | zero =>
    intro k f lf out u hk hf h hr hp
    obtain ⟨f, rfl⟩ : ∃ k, f = k + 1 := ⟨f - 1, by omega⟩
    rw [lo_X7_peelOff_64, pu_le (by omega) (by omega), if_pos (by omega), pls_0, List.append_nil]
    exact yl_ok ⟨h, hr, hp⟩
  | succ m ih =>
    intro k f lf out u hk hf h hr hp
    obtain ⟨f, rfl⟩ : ∃ k, f = k + 1 := ⟨f - 1, by omega⟩
    rw [lo_X7_peelOff_64, pu_le (by omega) (by omega), if_neg (by omega), hT.1.1, mt_set h (by omega), aa.1 1 (by omega), pls_s]
    refine yl_e (pe_open hR hw hp.2.2.1) ?_
    cases e : pkb g lf with
    | none =>
      refine yl_n (by decide) (yl_ok ⟨h, hr, ?_⟩)
      rw [pls1, List.append_nil]
      exact hp
    | some b =>
      obtain ⟨b1, b2, -⟩ := ff_lt e
      refine yl_p (nI_pos' (by omega)) ?_
      have q := pe_bkt hR (u0 := u0) (out := out) hT ht hw hs (b := b) (by omega) hp.2.2.2.2.2.2 n 0 tc_fu 0 u (by omega) (by omega) h hr (fun j hj => by omega) (fun j _ _ => Nat.zero_le _) (by
        rw [lfx_0, kl, List.map_nil, List.append_nil]
        exact hp)
      refine yl_b (o := fn_X7_peelBucket G 32 t (nI b) u) q fun _ w hw2 => yl_let ?_
      rw [nI_1, pls1]
      have := ih (k + 1) f (lfs g lf b) (out ++ grp g lf b) w (by omega) (by omega) hw2.1 hw2.2.1 hw2.2.2
      rw [List.append_assoc] at this
      exact this
theorem pe_21 {G : tc_G} (hR : gR G) {u0 : tc_S} {t n : Nat} {g : mp} {os : Nat → Nat} (hT : gT G t 64) (ht : t + 10 ≤ 24 ∨ 38 ≤ t) (hw : mwf g) (hs : srt (kfil g) (fun j => kvl 0 (fc g j)) 68 n os) : ∀ (m k f : Nat) (u : tc_S), k + m = n → m < f → mt u t g → fr fY u0 u → rs u n os → (∀ j, j < k → u.1 34 j = 0) → (∀ b, b < mn g 0 → u.1 37 b = nI (cf (fun j => mts g b (kvl 0 (fc g (os j)))) k 0)) → u.1 32 5 = 0 → y2 (lo_X7_peelOff_21 G f 32 t (nI k) u) (fun _ w => mt w t g ∧ fr fY u0 w ∧ pB g w n os (pls g (mn g 0) (lf0 g)).2 (pls g (mn g 0) (lf0 g)).1) := by
  have hfu := tc_fu_big
  have aa := hw.1.1
  have hn := aa.2.1.2
  have h68 := srt_len hs
  have inj : ∀ j k, j < k → k < n → kvl 0 (fc g (os j)) ≠ kvl 0 (fc g (os k)) := fun j k h1 h2 => by
    have : kvl 0 (fc g (os j)) < kvl 0 (fc g (os k)) := hs.1 j k h1 h2
    omega
  have lt : ∀ k, k < n → kvl 0 (fc g (os k)) < 1000 := fun k hk => by
    have := hs.2.1 k hk
    have := (kent hw this.1 this.2).2
    omega
  have tr : ∀ k, k < n → lf0 g (kvl 0 (fc g (os k))) = true := fun k hk => (lf0_iff hw _).mpr ⟨os k, (hs.2.1 k hk).1, (hs.2.1 k hk).2, rfl⟩
  have sur : ∀ q, lf0 g q = true → ∃ k, k < n ∧ kvl 0 (fc g (os k)) = q := fun q hq => by
    obtain ⟨j, j1, j2, j3⟩ := (lf0_iff hw q).mp hq
    obtain ⟨k, k1, k2⟩ := hs.2.2 j j1 j2
    exact ⟨k, k1, by rw [k2]; exact j3⟩
  intro m
  induction m with
  | zero =>
    intro k f u hk hf h hr hrs hg hd h5
    obtain ⟨f, rfl⟩ : ∃ k, f = k + 1 := ⟨f - 1, by omega⟩
    rw [lo_X7_peelOff_21, hrs.1, pu_le (by omega) (by omega), if_pos (by omega)]
    refine yl_let ?_
    rw [hT.1.1, mt_set h (by omega), aa.1 0 (by omega)]
    have e0 : k = n := by omega
    subst e0
    have := pe_64 hR (u0 := u0) hT ht hw hs (mn g 0) 0 tc_fu (lf0 g) [] u (by omega) (by omega) h hr ⟨hrs, fun j hj => by rw [hg j hj, if_pos (tr j hj)], fun b hb => ?_, h5, fun j p hj => (by simp at hj), ?_, sur⟩
    · exact this
    · rw [hd b hb]
      refine congrArg nI ?_
      have z := cf_bij (N := 1000) k (fun j => kvl 0 (fc g (os j))) (fun q => lf0 g q && mts g b q) inj lt (fun q _ hq => sur q (by rw [Bool.and_eq_true] at hq; exact hq.1))
      unfold deg
      rw [← z]
      refine cf_congr fun i _ hi => ?_
      show _ = (lf0 g (kvl 0 (fc g (os i))) && mts g b (kvl 0 (fc g (os i))))
      rw [tr i (by omega), Bool.true_and]
    · have z := cf_bij (N := 1000) k (fun j => kvl 0 (fc g (os j))) (lf0 g) inj lt (fun q _ hq => sur q hq)
      rw [← z]
      have : cf (fun k => lf0 g (kvl 0 (fc g (os k)))) k 0 ≤ k := cf_le
      show 0 + _ ≤ 68
      omega
  | succ m ih =>
    intro k f u hk hf h hr hrs hg hd h5
    obtain ⟨f, rfl⟩ : ∃ k, f = k + 1 := ⟨f - 1, by omega⟩
    have ho := hs.2.1 k (by omega)
    obtain ⟨he, hq⟩ := kent hw ho.1 ho.2
    rw [lo_X7_peelOff_21, hrs.1, pu_le (by omega) (by omega), if_neg (by omega), hR.1.1, hR.1.2.1]
    refine yl_z0 ?_
    refine yl_sd 68 hR.2.2.1 (by omega) (by omega) ?_
    refine yl_ld 68 hR.2.1 (by omega) (by omega) ?_
    rw [w_get, if_neg (by omega), hrs.2 k (by omega)]
    have f1 : fr fY u (tc_w u 34 k 0) := fr_w fr_refl (by unfold fY; omega)
    have m1 : mt (tc_w u 34 k 0) t g := mt_fr h f1 fun o j q1 q2 => by unfold fY; omega
    refine yl_b (pe_add hR 1 hT ht hw m1 ho.1 he hq) fun _ w hw2 => yl_let ?_
    obtain ⟨w1, w2⟩ := hw2
    rw [nI_1]
    refine ih (k + 1) f w (by omega) (by omega) (mt_fr m1 w2 fun o j q1 q2 => by omega) (fr_trans hr (fr_trans f1 (fr_mono w2 fun o j q => by unfold fY; omega))) ⟨?_, fun j hj => ?_⟩ (fun j hj => ?_) (fun b hb => ?_) ?_
    · rw [w2 32 1 (by omega), w_get, if_neg (by omega)]; exact hrs.1
    · rw [w2 33 j (by omega), w_get, if_neg (by omega)]; exact hrs.2 j hj
    · rw [w2 34 j (by omega), w_get]
      by_cases d : j = k
      · rw [if_pos ⟨rfl, d⟩]
      · rw [if_neg (fun z => d z.2)]; exact hg j (by omega)
    · rw [w1 b hb, w_get, if_neg (by omega), hd b hb, cf_snoc, Nat.zero_add]
      by_cases d : mts g b (kvl 0 (fc g (os k))) = true
      · rw [if_pos d, if_pos d, nI_1]
      · rw [if_neg d, if_neg d, Int32.add_zero, Nat.add_zero]
    · rw [w2 32 5 (by omega), w_get, if_neg (by omega)]; exact h5
theorem mt_peelOff {G : tc_G} (hR : gR G) {u : tc_S} {t : Nat} {g : mp} (hT : gT G t 64) (ht : t + 10 ≤ 24 ∨ 38 ≤ t) (hw : mwf g) (h : mt u t g) : y2 (fn_X7_peelOff G 32 t u) (fun _ w => ∃ n os, srt (kfil g) (fun j => kvl 0 (fc g j)) 68 n os ∧ mt w t g ∧ fr fY u w ∧ pB g w n os (pls g (mn g 0) (lf0 g)).2 (pls g (mn g 0) (lf0 g)).1) := by
  have hfu := tc_fu_big
  have hn := hw.1.1.2.1.2
  unfold fn_X7_peelOff
  refine yl_b (mt_gather hR hT ht hw h 0) fun _ w hg => ?_
  obtain ⟨n, os, g1, g2, g3⟩ := hg
  have h68 := srt_len g2
  have f1 : fr fY u w := fr_mono g3 fun o k q => by unfold fG at q; unfold fY; omega
  rw [hR.1.2.2.2.2]
  refine yl_b (pc_fill hR.2.2.2.2.2 (by omega)) fun _ v hv => yl_let ?_
  have f2 : fr fY u v := fr_trans f1 (fr_mono hv.2 fun o k q => by unfold fY; omega)
  have f3 : fr fY u (tc_w v 32 5 0) := fr_w f2 (by unfold fY; omega)
  have r2 : rs (tc_w v 32 5 0) n os := ⟨by rw [w_get, if_neg (by omega), hv.2 _ _ (by omega)]; exact g1.1, fun k hk => by rw [w_get, if_neg (by omega), hv.2 _ _ (by omega)]; exact g1.2 k hk⟩
  refine yl_m (pe_21 hR (u0 := u) hT ht hw g2 n 0 tc_fu (tc_w v 32 5 0) (by omega) (by omega) (mt_fr h f3 fun o j q1 q2 => by unfold fY; omega) f3 r2 (fun j hj => by omega) (fun b hb => ?_) (by rw [w_get, if_pos ⟨rfl, rfl⟩])) fun r hr => ⟨n, os, g2, hr⟩
  rw [w_get, if_neg (by omega), hv.1 b (by omega)]
  rfl
