/-! the class: hashes drawn anew, growing, a put -/
theorem tR_fr {t : Nat} {u w : tc_S} (ht : okt t) (hf : fr (fE t) u w) (h : tR u 39 64) : tR w 39 64 := by
  refine ⟨?_, ?_⟩
  · rw [hf _ _ (by unfold fE fV fT; unfold okt at ht; omega)]; exact h.1
  · rw [hf _ _ (by unfold fE fV fT; unfold okt at ht; omega)]; exact h.2
theorem mt_back {G : tc_G} {u : tc_S} {t : Nat} {g g0 : mp} (hT : gT G t 64) (hB : gT G 39 64) (ht : okt t) (hg0 : mwf g0) (h : mt u t g) (h0 : mt u 39 g0) : y2 (fn_X9_goBackTo G t 39 u) (fun _ w => mt w t (mback g g0) ∧ mt w 39 g0 ∧ fr (fT t) u w) := by
  refine yl_m (pc_goBack (g := g) hT hB (by unfold okt at ht; omega) (by omega) (wA_wS hg0.1.1) h.1.1 h.1.2.2.1 h0) fun r hx => ⟨?_, ?_, hx.2⟩
  · have e : fc (mback g g0) = fc g0 := fc_upd (by omega) (by omega)
    unfold mt
    rw [e]
    exact hx.1
  · exact mt_fr h0 hx.2 fun o k h1 h2 => by unfold fT; unfold okt at ht; omega
theorem cl_hand {g0 : mp} (hg : mwf g0) (h0 : ck g0 68 ≠ 0) : cl g0 69 0 = mesh g0 := by
  rw [cl_mesh hg, if_neg h0]
  rfl
theorem mt_redraw10 {G : tc_G} (hK : gK G) (hV : gV G) (hE : gE G) {t : Nat} {g0 : mp} {u0 : tc_S} (hT : gT G t 64) (hB : gT G 39 64) (ht : okt t) (hg : mwf g0) (h0 : ck g0 68 ≠ 0) : ∀ (n k f : Nat) (g : mp) (u : tc_S), k + n = mn g0 4 → n < f → isd g0 g → mt u t g → mt u 39 g0 → fr (fV t) u0 u → y2 (lo_X3_redraw_10 G f 38 t (nI k) u) (fun r w => r = (if (mrh (mesh g0) g0 n g).1 then 1 else 0) ∧ mt w t (mrh (mesh g0) g0 n g).2 ∧ fr (fV t) u0 w) := by
  have a := hg.1.1
  have h44 := a.2.2.2.2.2.1
  intro n
  induction n with
  | zero =>
    intro k f g u hk hf hi hm hb hr
    obtain ⟨f, rfl⟩ : ∃ k, f = k + 1 := ⟨f - 1, by omega⟩
    rw [lo_X3_redraw_10, hE.2.2.1, hB.1.1, mt_set hb (by omega), a.1 4 (by omega), pu_le (by omega) (by omega), if_pos (by omega), mrh_0]
    exact yl_z0 (yl_ok ⟨rfl, hm, hr⟩)
  | succ n ih =>
    intro k f g u hk hf hi hm hb hr
    obtain ⟨f, rfl⟩ : ∃ k, f = k + 1 := ⟨f - 1, by omega⟩
    have hw : mwf g := (isd_wf hg hi).1
    have e12 : mdh g 12 = g0 12 := by
      obtain ⟨s, rfl⟩ := hi
      rw [mdh_k (by omega) (by omega), upd_ne (by omega)]
    have m12 : mn (mdh g) 12 = mn g0 12 := by unfold mn; rw [e12]
    have ha := mesh_adm (h := mdh g) hg h0 m12
    rw [lo_X3_redraw_10, hE.2.2.1, hB.1.1, mt_set hb (by omega), a.1 4 (by omega), pu_le (by omega) (by omega), if_neg (by omega), hT.1.1, mrh_s]
    refine yl_b (pc_drawHashes hT.1.2 hm.1) fun _ w1 hw1 => ?_
    have b1 : mt w1 39 g0 := mt_fr hb hw1.2 fun o k h1 h2 => by unfold fT; unfold okt at ht; omega
    have z := mt_layAnew hK hV hE hT hB ht hg (wA_mdh hw.1.1) (by rw [e12, m12]; exact hg.1.2.2.2.2.2.1) hw1.1 b1 (by rw [cl_hand hg h0]; exact ha)
    rw [cl_hand hg h0] at z
    refine yl_b z fun r w2 hw2 => ?_
    obtain ⟨x1, x2, x3, x4⟩ := hw2
    have f2 := fr_trans hr (fr_trans (fT_V hw1.2) x4)
    cases hmm : mall (mesh g0) (mclr (mdh g)) with
    | mk t2 y =>
      rw [hmm] at x1 x2
      cases t2 with
      | true =>
        rw [mrh1, x1]
        refine yl_n i_n1 ?_
        have e : w2.1 t 13 = y 14 := x2.1.2.2.2.1 14 (by omega) (by omega)
        rw [e]
        exact yl_let (yl_z1 (yl_ok ⟨rfl, mt_upd x2 (by omega) (by omega) t 13 (Or.inr (Or.inl ⟨by omega, by omega, rfl, rfl⟩)) rfl, fr_w f2 (Or.inl ⟨by omega, by omega, by omega⟩)⟩))
      | false =>
        rw [mrh1, x1]
        refine yl_p rfl ?_
        refine yl_b (mt_back hT hB ht hg x2 x3) fun _ w3 hw3 => ?_
        refine yl_let ?_
        rw [nI_1]
        exact ih (k + 1) f (mback y g0) w3 (by omega) (by omega) isd_back hw3.1 hw3.2.1 (fr_trans f2 (fT_V hw3.2.2))
theorem mt_copyB {G : tc_G} {u : tc_S} {t : Nat} {g : mp} (hT : gT G t 64) (hB : gT G 39 64) (ht : okt t) (hg : mwf g) (h : mt u t g) (hb : tR u 39 64) : y2 (fn_X9_copyFrom G 39 t u) (fun _ w => mt w t g ∧ mt w 39 g ∧ fr (fT 39) u w) := by
  refine yl_m (pc_copyFrom hB hT (by unfold okt at ht; omega) (by omega) (wA_wS hg.1.1) hb h) fun r hx => ⟨?_, hx.1, hx.2⟩
  exact mt_fr h hx.2 fun o k h1 h2 => by unfold fT; unfold okt at ht; omega
theorem mt_redraw {G : tc_G} (hK : gK G) (hV : gV G) (hE : gE G) {u : tc_S} {t : Nat} {g : mp} (hT : gT G t 64) (hB : gT G 39 64) (ht : okt t) (hg : mwf g) (h0 : ck g 68 ≠ 0) (h : mt u t g) (hb : tR u 39 64) : y2 (fn_X3_redraw G 38 t u) (fun r w => r = (if (mrh (mesh g) g (mn g 4) g).1 then 1 else 0) ∧ mt w t (mrh (mesh g) g (mn g 4) g).2 ∧ fr (fE t) u w) := by
  have hfu := tc_fu_big
  have h44 := hg.1.1.2.2.2.2.2.1
  unfold fn_X3_redraw
  rw [hE.2.2.1]
  refine yl_b (mt_copyB hT hB ht hg h hb) fun _ w hw => ?_
  refine yl_m (mt_redraw10 hK hV hE hT hB ht hg h0 (mn g 4) 0 tc_fu g w (by omega) (by omega) isd_refl hw.1 hw.2.1 fr_refl) fun r hx => ⟨hx.1, hx.2.1, fr_trans (fr_mono hw.2.2 fun _ _ q => Or.inr q) (fV_E hx.2.2)⟩
theorem shl_nb {nb t : Nat} (h1 : 1 ≤ t) (h4 : t ≤ 4) (hn : nb ≤ 16) : nI nb <<< (nI t &&& 31) = nI (nb * 2 ^ t) := by
  rcases (show t = 1 ∨ t = 2 ∨ t = 3 ∨ t = 4 by omega) with rfl | rfl | rfl | rfl
  · exact pk_shlN _ 1 (by decide) (by omega)
  · exact pk_shlN _ 2 (by decide) (by omega)
  · exact pk_shlN _ 3 (by decide) (by omega)
  · exact pk_shlN _ 4 (by decide) (by omega)
theorem mt_grow10 {G : tc_G} (hK : gK G) (hV : gV G) (hE : gE G) {t : Nat} {g0 : mp} {u0 : tc_S} (hT : gT G t 64) (hB : gT G 39 64) (ht : okt t) (hg : mwf g0) (h0 : ck g0 68 ≠ 0) : ∀ (n k f : Nat) (g : mp) (u : tc_S), k + n = 5 → n < f → isd g0 g → mt u t g → mt u 39 g0 → fr (fV t) u0 u → y2 (lo_X3_grow_10 G f 38 t (nI (k + 1)) u) (fun r w => r = (if (mgr (mesh g0) g0 n (mn g0 0 * 2 ^ k) (k + 1) g).1 then 1 else 0) ∧ mt w t (mgr (mesh g0) g0 n (mn g0 0 * 2 ^ k) (k + 1) g).2 ∧ fr (fV t) u0 w) := by
  have a := hg.1.1
  have hnb := a.2.1
  intro n
  induction n with
  | zero =>
    intro k f g u hk hf hi hm hb hr
    obtain ⟨f, rfl⟩ : ∃ k, f = k + 1 := ⟨f - 1, by omega⟩
    rw [lo_X3_grow_10, show (4 : Int32) = nI 4 from rfl, pu_lt (by omega) (by omega), if_pos (by omega), mgr_0]
    exact yl_z0 (yl_ok ⟨rfl, hm, hr⟩)
  | succ n ih =>
    intro k f g u hk hf hi hm hb hr
    obtain ⟨f, rfl⟩ : ∃ k, f = k + 1 := ⟨f - 1, by omega⟩
    rw [lo_X3_grow_10, show (4 : Int32) = nI 4 from rfl, pu_lt (by omega) (by omega), mgr_s]
    by_cases c4 : 4 < k + 1
    · obtain rfl : k = 4 := by omega
      rw [if_pos c4, if_pos (show 8 < mn g0 0 * 2 ^ 4 by omega)]
      exact yl_z0 (yl_ok ⟨rfl, hm, hr⟩)
    · have hpow : mn g0 0 * 2 ^ (k + 1) = mn g0 0 * 2 ^ k * 2 := by rw [Nat.pow_succ, Nat.mul_assoc]
      have hle : mn g0 0 * 2 ^ k ≤ 16 * 8 := Nat.mul_le_mul hnb.2 (by
        rcases (show k = 0 ∨ k = 1 ∨ k = 2 ∨ k = 3 by omega) with rfl | rfl | rfl | rfl <;> decide)
      have hge : 1 ≤ mn g0 0 * 2 ^ k := Nat.mul_pos hnb.1 (Nat.two_pow_pos k)
      rw [if_neg c4, hE.2.2.1, hB.1.1, mt_set hb (by omega), a.1 0 (by omega), shl_nb (by omega) (by omega) hnb.2, hpow]
      refine yl_let ?_
      rw [show (16 : Int32) = nI 16 from rfl, pu_le (by omega) (by omega)]
      by_cases h8 : 8 < mn g0 0 * 2 ^ k
      · rw [if_neg (by omega), if_pos h8]
        exact yl_z0 (yl_ok ⟨rfl, hm, hr⟩)
      · rw [if_pos (by omega), if_neg h8]
        refine yl_let ?_
        have hw : mwf g := (isd_wf hg hi).1
        have e12 : upd g 0 (nI (mn g0 0 * 2 ^ k * 2)) 12 = g0 12 := by
          obtain ⟨s, rfl⟩ := hi
          rw [upd_ne (by omega), upd_ne (by omega)]
        have m12 : mn (upd g 0 (nI (mn g0 0 * 2 ^ k * 2))) 12 = mn g0 12 := by
          show (upd g 0 (nI (mn g0 0 * 2 ^ k * 2)) 12).toNatClampNeg = (g0 12).toNatClampNeg
          rw [e12]
        have ha := mesh_adm (h := upd g 0 (nI (mn g0 0 * 2 ^ k * 2))) hg h0 m12
        rw [hT.1.1]
        have s1 : tS (tc_w u (t + 1) 0 (nI (mn g0 0 * 2 ^ k * 2))) t 64 (upd g 0 (nI (mn g0 0 * 2 ^ k * 2))) := tS_upd hm.1 (by omega) (t + 1) 0 (Or.inl ⟨by omega, rfl, rfl⟩) rfl
        have f1 : fr (fT t) u (tc_w u (t + 1) 0 (nI (mn g0 0 * 2 ^ k * 2))) := fr_w fr_refl ⟨by omega, by omega, by omega⟩
        generalize tc_w u (t + 1) 0 (nI (mn g0 0 * 2 ^ k * 2)) = w1 at s1 f1 ⊢
        have b1 : mt w1 39 g0 := mt_fr hb f1 fun o k h1 h2 => by unfold fT; unfold okt at ht; omega
        have z := mt_layAnew hK hV hE hT hB ht hg (wA_nb hw.1.1 ⟨by omega, by omega⟩) (by rw [e12, m12]; exact hg.1.2.2.2.2.2.1) s1 b1 (by rw [cl_hand hg h0]; exact ha)
        rw [cl_hand hg h0] at z
        refine yl_b z fun r w2 hw2 => ?_
        obtain ⟨x1, x2, x3, x4⟩ := hw2
        have f2 := fr_trans hr (fr_trans (fT_V f1) x4)
        cases hmm : mall (mesh g0) (mclr (upd g 0 (nI (mn g0 0 * 2 ^ k * 2)))) with
        | mk t2 y =>
          rw [hmm] at x1 x2
          cases t2 with
          | true =>
            rw [mgr1, x1]
            refine yl_n i_n1 ?_
            have e : w2.1 t 14 = y 15 := x2.1.2.2.2.1 15 (by omega) (by omega)
            rw [e]
            exact yl_let (yl_z1 (yl_ok ⟨rfl, mt_upd x2 (by omega) (by omega) t 14 (Or.inr (Or.inl ⟨by omega, by omega, rfl, rfl⟩)) rfl, fr_w f2 (Or.inl ⟨by omega, by omega, by omega⟩)⟩))
          | false =>
            rw [mgr1, x1]
            refine yl_p rfl ?_
            refine yl_b (mt_back hT hB ht hg x2 x3) fun _ w3 hw3 => ?_
            refine yl_let ?_
            rw [nI_1, ← hpow]
            exact ih (k + 1) f (mback y g0) w3 (by omega) (by omega) isd_back hw3.1 hw3.2.1 (fr_trans f2 (fT_V hw3.2.2))
theorem mt_grow {G : tc_G} (hK : gK G) (hV : gV G) (hE : gE G) {u : tc_S} {t : Nat} {g : mp} (hT : gT G t 64) (hB : gT G 39 64) (ht : okt t) (hg : mwf g) (h0 : ck g 68 ≠ 0) (h : mt u t g) (hb : tR u 39 64) : y2 (fn_X3_grow G 38 t u) (fun r w => r = (if (mgr (mesh g) g 5 (mn g 0) 1 g).1 then 1 else 0) ∧ mt w t (mgr (mesh g) g 5 (mn g 0) 1 g).2 ∧ fr (fE t) u w) := by
  have hfu := tc_fu_big
  unfold fn_X3_grow
  rw [hE.2.2.1]
  refine yl_b (mt_copyB hT hB ht hg h hb) fun _ w hw => ?_
  have z := mt_grow10 hK hV hE (u0 := w) hT hB ht hg h0 5 0 tc_fu g w (by omega) (by omega) isd_refl hw.1 hw.2.1 fr_refl
  rw [Nat.pow_zero, Nat.mul_one] at z
  exact yl_m z fun r hx => ⟨hx.1, hx.2.1, fr_trans (fr_mono hw.2.2 fun _ _ q => Or.inr q) (fV_E hx.2.2)⟩
theorem mt_refused {G : tc_G} {u u0 : tc_S} {t : Nat} {a : Int32} {g : mp} (hT : gT G t 64) (hg : mwf g) (h : mt u t g) (hr : fr (fE t) u0 u) : y2 (bl_X3_enter_143 G t u) (fun r w => r = (mpt3 a (false, g)).1 ∧ mt w t (mpt3 a (false, g)).2 ∧ fr (fE t) u0 w) := by
  unfold bl_X3_enter_143
  rw [mpt3]
  refine yl_b (mt_emptyHand hT hg.1.1 h) fun _ w hw => ?_
  have e : w.1 t 12 = g 13 := by
    have q : w.1 t 12 = cs g 68 e0 13 := hw.1.1.2.2.2.1 13 (by omega) (by omega)
    rw [q, cs_lo (by omega)]
  rw [e]
  exact yl_let (yl_ok ⟨rfl, mt_upd hw.1 (by omega) (by omega) t 12 (Or.inr (Or.inl ⟨by omega, by omega, rfl, rfl⟩)) rfl, fr_w (fr_trans hr (fT_E hw.2)) (Or.inl (Or.inl ⟨by omega, by omega, by omega⟩))⟩)
theorem mt_put2 {G : tc_G} (hK : gK G) (hV : gV G) (hE : gE G) {u u0 : tc_S} {t : Nat} {g : mp} (hT : gT G t 64) (hB : gT G 39 64) (ht : okt t) (hg : mwf g) (h0 : ck g 68 ≠ 0) (h : mt u t g) (hb : tR u 39 64) (hr : fr (fE t) u0 u) : y2 (tc_let ((u.1 (tc_p G t 0) 6)) fun x28 => if x28 = 3 then (tc_b (fn_X4_seekFor G (tc_p G 38 0) t (u.1 t 2) u) fun x30 u31 => if x30 = 0 then (bl_X3_enter_105 G 38 t x28 u31) else (tc_b (fn_X4_follow G (tc_p G 38 0) t (u31.1 t 2) u31) fun x34 u35 => some (2, u35))) else (bl_X3_enter_105 G 38 t x28 u)) (fun r w => r = (mpt2 g).1 ∧ mt w t (mpt2 g).2 ∧ fr (fE t) u0 w) := by
  have a := hg.1.1
  have i12 : ¬ (1 : Int32) = 2 := by decide
  have i32 : ¬ (3 : Int32) = 2 := by decide
  have i31 : ¬ (3 : Int32) = 1 := by decide
  have i21 : ¬ (2 : Int32) = 1 := by decide
  have i23 : ¬ (2 : Int32) = 3 := by decide
  have rh : ∀ w, mt w t g → tR w 39 64 → fr (fE t) u0 w → y2 (bl_X3_enter_133 G 38 t w) (fun r w => r = (mpt3 4 (mrh (mesh g) g (mn g 4) g)).1 ∧ mt w t (mpt3 4 (mrh (mesh g) g (mn g 4) g)).2 ∧ fr (fE t) u0 w) := by
    intro w hw hbw hrw
    unfold bl_X3_enter_133
    refine yl_b (mt_redraw hK hV hE hT hB ht hg h0 hw hbw) fun r y hy => ?_
    obtain ⟨y1, y2, y3⟩ := hy
    have ok := mrh_ok hg h0 (mn g 4) g isd_refl
    cases hm : mrh (mesh g) g (mn g 4) g with
    | mk tt z =>
      rw [hm] at y1 y2 ok
      cases tt with
      | true =>
        rw [y1, mpt3]
        exact yl_n i_n1 (yl_ok ⟨rfl, y2, fr_trans hrw y3⟩)
      | false =>
        rw [y1]
        exact yl_p rfl (mt_refused hT (isd_wf hg (ok.2 rfl)).1 y2 (fr_trans hrw y3))
  refine yl_let ?_
  rw [hT.1.1, mt_set h (by omega), hE.1]
  by_cases c3 : g 6 = 3
  · have e2 : mpt2 g = mptc g (mchain g (ck g 68 - 1)) := by unfold mpt2; rw [if_pos c3]
    rw [if_pos c3, e2, (mt_room h).2]
    have c := hg.1.2.2.1 68 (by omega)
    obtain ⟨⟨x, w⟩, hsk, hp⟩ := pc_seekFor hK hV.1 hT (by omega) (wA_wS a) (nbns a) (by unfold okt at ht; omega) h (i := 68) (q := ck g 68 - 1) (by omega) (by rw [fc_s a (by omega), show ck g 68 - 1 + 1 = ck g 68 by omega]; exact c.1) (by omega)
    refine yl_e hsk ?_
    rw [bfs_mchain hg] at hp
    cases hc : mchain g (ck g 68 - 1) with
    | none =>
      rw [hc] at hp
      have hx : x = 0 := hp.1
      have hw : fr fK u w := hp.2
      have fw := fr_trans hr (fV_E (fK_V hw))
      rw [mptc, hx]
      refine yl_p rfl ?_
      unfold bl_X3_enter_105 bl_X3_enter_121
      rw [c3]
      exact yl_n i32 (yl_n i31 (yl_p rfl (rh w (mt_fr h hw fun o k h1 h2 => by unfold fK; unfold okt at ht; omega) (tR_fr ht (fV_E (fK_V hw)) hb) fw)))
    | some l =>
      rw [hc] at hp
      obtain ⟨hx, y1, y2, y3, hw⟩ := hp
      have hx : x = 1 := hx
      have hw : fr fK u w := hw
      have mtw := mt_fr h hw fun o k h1 h2 => by unfold fK; unfold okt at ht; omega
      rw [mptc, hx]
      refine yl_n i_n1 ?_
      rw [(mt_room mtw).2]
      refine yl_b (mt_chainIn hK hV.1 hT (by unfold okt at ht; omega) hg mtw hc ⟨y1, y2, y3⟩ h0) fun _ z hz => ?_
      exact yl_ok ⟨rfl, hz.1, fr_trans hr (fr_trans (fV_E (fK_V hw)) (fT_E hz.2))⟩
  · rw [if_neg c3]
    unfold bl_X3_enter_105 bl_X3_enter_121
    by_cases c1 : g 6 = 1
    · have e2 : mpt2 g = mpt3 4 (mrh (mesh g) g (mn g 4) g) := by unfold mpt2; rw [if_neg c3, if_pos c1]
      rw [e2, c1]
      exact yl_n i12 (yl_p rfl (rh u h hb hr))
    · by_cases c2 : g 6 = 2
      · have e2 : mpt2 g = mpt3 5 (mgr (mesh g) g 5 (mn g 0) 1 g) := by unfold mpt2; rw [if_neg c3, if_neg c1, if_pos c2]
        rw [e2, c2]
        refine yl_p rfl ?_
        refine yl_b (mt_grow hK hV hE hT hB ht hg h0 h hb) fun r y hy => ?_
        obtain ⟨y1, y2, y3⟩ := hy
        have ok := mgr_ok hg h0 5 (mn g 0) 1 g a.2.1.1 isd_refl
        cases hm : mgr (mesh g) g 5 (mn g 0) 1 g with
        | mk tt z =>
          rw [hm] at y1 y2 ok
          cases tt with
          | true =>
            rw [y1, mpt3]
            exact yl_n i_n1 (yl_ok ⟨rfl, y2, fr_trans hr y3⟩)
          | false =>
            rw [y1]
            exact yl_p rfl (yl_n i21 (yl_n i23 (mt_refused hT (isd_wf hg (ok.2 rfl)).1 y2 (fr_trans hr y3))))
      · have e2 : mpt2 g = mpt3 0 (false, g) := by unfold mpt2; rw [if_neg c3, if_neg c1, if_neg c2]
        rw [e2]
        exact yl_n c2 (yl_n c1 (yl_n c3 (mt_refused hT hg h hr)))
theorem mt_enter {G : tc_G} (hK : gK G) (hV : gV G) (hE : gE G) {u : tc_S} {t q P : Nat} {v : Int32} {g : mp} (hT : gT G t 64) (hB : gT G 39 64) (ht : okt t) (hg : mre P g) (hP : P + 1 < 2 ^ 30) (h : mt u t g) (hb : tR u 39 64) (hq : q ≤ 999) : y2 (fn_X3_enter G 38 t (nI q) v u) (fun r w => r = (mput g q v).1 ∧ mt w t (mput g q v).2 ∧ fr (fE t) u w) := by
  have hh := fun hl => put_hand (v := v) hg hq hP hl
  obtain ⟨w1, w2⟩ := mwf_puts hg.1 (by rw [hg.2.2]; omega)
  unfold fn_X3_enter mput
  refine yl_let ?_
  have e11 : u.1 t 11 = g 12 := h.1.2.2.2.1 12 (by omega) (by omega)
  rw [e11]
  have m1 : mt (tc_w u t 11 (g 12 + 1)) t (upd g 12 (g 12 + 1)) := mt_upd h (by omega) (by omega) t 11 (Or.inr (Or.inl ⟨by omega, by omega, rfl, rfl⟩)) rfl
  have f1 : fr (fT t) u (tc_w u t 11 (g 12 + 1)) := fr_w fr_refl ⟨by omega, by omega, by omega⟩
  generalize tc_w u t 11 (g 12 + 1) = x at m1 f1 ⊢
  refine yl_e (mt_locate hT w1 m1 hq) ?_
  cases hl : mloc (upd g 12 (g 12 + 1)) q with
  | some i =>
    have hi := mloc_sp w1 hq hl
    have h0 : ck (upd g 12 (g 12 + 1)) i ≠ 0 := by omega
    have hv : vc (upd g 12 (g 12 + 1)) i := ⟨by omega, fun c => by
      have := w1.1.2.2.2.1 i c h0
      exact ⟨this.1, this.2.1⟩⟩
    have lx := fx_lt w1.1.1 hv
    rw [mputf]
    show yl (if nI (fx (upd g 12 (g 12 + 1)) i) < 0 then _ else (tc_sd G x (tc_p G t 4) (nI (fx (upd g 12 (g 12 + 1)) i)) v fun u37 => some (0, u37))) _
    refine yl_n (nI_pos (by omega)) ?_
    rw [hT.2.1.2.1]
    refine yl_sd 69 (hT.2.2.2 _ (by omega) (by omega)) (by omega) (by omega) (yl_ok ?_)
    have c := w1.1.2.2.1 i (by omega)
    have z := tb_val (x := v) (i := fx (upd g 12 (g 12 + 1)) i) (q := q) m1 (nbns w1.1.1) (by omega) (by rw [fc_x w1.1.1 hv, ← hi.2]; exact c.1) hq
    refine ⟨rfl, ?_, fT_E (fr_trans f1 z.2)⟩
    show mt (tc_w x (t + 5) (fx (upd g 12 (g 12 + 1)) i) v) t (upd (upd g 12 (g 12 + 1)) (21 + 4 * i) v)
    rw [upd_val]
    refine cong19 w1.1.1 z.1 (fun k hk => cs_lo (by omega)) ?_
    rw [fc_cs w1.1.1 hv, fc_x w1.1.1 hv]
  | none =>
    rw [mputf]
    obtain ⟨a1, a2⟩ := hh hl
    show yl (if (-1 : Int32) < 0 then _ else _) _
    refine yl_p (by decide) ?_
    have e11b : x.1 t 11 = upd g 12 (g 12 + 1) 12 := m1.1.2.2.2.1 12 (by omega) (by omega)
    rw [e11b]
    refine yl_b (mt_hand hT w1.1.1 m1 hq) fun _ y hy => ?_
    rw [hE.1]
    have htt : t + 10 ≤ 24 ∨ 32 ≤ t := by unfold okt at ht; omega
    refine yl_b (mt_comeIn hK hV hT htt a1 hy.1 (by omega)) fun r z hz => ?_
    obtain ⟨z1, z2, z3⟩ := hz
    obtain ⟨c1, c2, c3, c4, c5, n, c6, c7⟩ := mcome_ok a1 (by omega)
    have fz : fr (fE t) u z := fr_trans (fT_E (fr_trans f1 hy.2)) (fV_E z3)
    unfold mpt1
    rw [z1]
    by_cases hr : (mcome (cs (upd g 12 (g 12 + 1)) 68 (nI (q + 1), v, upd g 12 (g 12 + 1) 12, 0))).1 = 0
    · rw [if_pos hr, hr]
      refine yl_p (by decide) ?_
      obtain ⟨s, hs⟩ := c4 hr
      have h8 : ck (mcome (cs (upd g 12 (g 12 + 1)) 68 (nI (q + 1), v, upd g 12 (g 12 + 1) 12, 0))).2 68 ≠ 0 := by
        rw [hs, ck_upd (by omega)]; omega
      have w := mt_put2 hK hV hE hT hB ht c1 h8 z2 (tR_fr ht fz hb) fz
      rw [hE.1] at w
      exact w
    · rw [if_neg hr]
      have hn : ¬ (mcome (cs (upd g 12 (g 12 + 1)) 68 (nI (q + 1), v, upd g 12 (g 12 + 1) 12, 0))).1 ≤ 0 := by
        rw [c7]
        exact nI_nle (Nat.pos_of_ne_zero fun e => hr (by rw [c7, e]; rfl)) (by omega)
      exact yl_n hn (yl_ok ⟨rfl, z2, fz⟩)
