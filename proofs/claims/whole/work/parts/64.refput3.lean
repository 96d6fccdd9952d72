/-! the reference: growing, a put -/
theorem mesh_len {g : mp} (h : mwf g) : (mesh g).length ≤ 72 := by
  unfold mesh
  rw [List.length_append, List.length_singleton]
  have := mes_len h
  omega
theorem pm_gr34 {G : tc_G} (hG : gm G) (h2 : gm2 G) (h3 : gm3 G) (h4 : gm4 G) {B : Nat} {g0 : mp} (hB : B + 292 ≤ 584) (hg : mwf g0) (h0 : ck g0 68 ≠ 0) : ∀ (n nb t f : Nat) (u : tc_S) (g : mp), 8 < nb * 2 ^ n → 1 ≤ nb → nb ≤ 16 → t + n < 100 → n < f → isd g0 g → isM u B g → isM u 584 g0 → ls u (mesh g0) → y2 (lo_X12_grows_34 G f 71 (nI B) (nI nb) (nI t) u) (fun r w => r = (if (mgr (mesh g0) g0 n nb t g).1 then 1 else 0) ∧ isM w B (mgr (mesh g0) g0 n nb t g).2 ∧ fr (fP B) u w) := by
  have hfu := tc_fu_big
  have hlen := mesh_len hg
  intro n
  induction n with
  | zero =>
    intro nb t f u g hnb h1 h16 ht hf hi hM hW hl
    obtain ⟨f, rfl⟩ : ∃ k, f = k + 1 := ⟨f - 1, by omega⟩
    rw [lo_X12_grows_34, show (8 : Int32) = nI 8 from rfl, pu_lt (by omega) (by omega), if_pos (by omega), mgr_0]
    exact yl_z0 (yl_ok ⟨rfl, hM, fr_refl⟩)
  | succ n ih =>
    intro nb t f u g hnb h1 h16 ht hf hi hM hW hl
    obtain ⟨f, rfl⟩ : ∃ k, f = k + 1 := ⟨f - 1, by omega⟩
    rw [lo_X12_grows_34, show (8 : Int32) = nI 8 from rfl, pu_lt (by omega) (by omega), mgr_s]
    by_cases h8 : 8 < nb
    · rw [if_pos h8, if_pos h8]
      exact yl_z0 (yl_ok ⟨rfl, hM, fr_refl⟩)
    · rw [if_neg h8, if_neg h8]
      have hw : mwf g := (isd_wf hg hi).1
      have e12 : upd g 0 (nI (nb * 2)) 12 = g0 12 := by
        obtain ⟨s, rfl⟩ := hi
        rw [upd_ne (by omega), upd_ne (by omega)]
      have m12 : mn (upd g 0 (nI (nb * 2))) 12 = mn g0 12 := by unfold mn; rw [e12]
      have hc := mwf_mclr (wA_nb (nb := nb * 2) hw.1.1 (by omega)) (by rw [e12, m12]; exact hg.1.2.2.2.2.2.1)
      have ha := mesh_adm (h := upd g 0 (nI (nb * 2))) hg h0 m12
      refine yl_let ?_
      rw [hG.1.1, show nI nb * 2 = nI (nb * 2) from pk_mul nb 2, show nI B + 0 = nI (B + 0) from nI_add B 0]
      conv => enter [1, 2]; rw [← uM_id hM]
      rw [uM_sd hG (by omega) (by omega)]
      have f1 : fr (fD B) u (uM u B (upd g 0 (nI (nb * 2)))) := fr_uM'
      refine yl_e (pm_empties hG (by omega) (uM_isM (g := upd g 0 (nI (nb * 2))))) ?_
      have f2 : fr (fD B) u (uM (uM u B (upd g 0 (nI (nb * 2)))) B (mempt (upd g 0 (nI (nb * 2))))) := fr_trans f1 fr_uM'
      have i2 : isM (uM (uM u B (upd g 0 (nI (nb * 2)))) B (mempt (upd g 0 (nI (nb * 2))))) B (mclr (upd g 0 (nI (nb * 2)))) := isM_mclr uM_isM
      have z := pm_doAll hG h2 h3 h4 (by omega) hlen (mesh g0).length 0 tc_fu _ (mclr (upd g 0 (nI (nb * 2)))) (by omega) (by omega) i2 hc ha (ls_C hl (fD_C f2))
      rw [List.drop_zero] at z
      refine yl_b z fun r w hx => ?_
      obtain ⟨x1, x2, x3⟩ := hx
      have f3 := fr_trans (fD_C f2) x3
      cases hm : mall (mesh g0) (mclr (upd g 0 (nI (nb * 2)))) with
      | mk t2 y =>
        rw [hm] at x1 x2
        cases t2 with
        | true =>
          rw [mgr1, x1]
          refine yl_n i_n1 ?_
          rw [show nI B + 15 = nI (B + 15) from nI_add B 15, isM_ld hG x2 (by omega) (by omega)]
          refine yl_sd 3253 hG.1.2 (by omega) (by omega) (yl_z1 (yl_ok ⟨rfl, isM_upd x2 (by omega) rfl, ?_⟩))
          exact fr_w (fC_P f3) (Or.inl ⟨rfl, Or.inl ⟨by omega, by omega⟩⟩)
        | false =>
          rw [mgr1, x1]
          refine yl_p rfl ?_
          rw [show (584 : Int32) = nI 584 from rfl]
          have hW2 : isM w 584 g0 := isM_fr hW f3 fun k hk => by unfold fC; omega
          refine yl_e (pm_comesBack hG (F := 584) (T := B) (by omega) (by omega) (by omega) hW2 x2) ?_
          refine yl_let ?_
          rw [nI_1]
          have f4 : fr (fC B) u (uM w B (mback y g0)) := fr_trans f3 (fD_C fr_uM')
          have hpow : 8 < nb * 2 * 2 ^ n := by rw [Nat.pow_succ] at hnb; rw [Nat.mul_assoc, Nat.mul_comm 2]; exact hnb
          refine yl_m (ih (nb * 2) (t + 1) f (uM w B (mback y g0)) (mback y g0) hpow (by omega) (by omega) (by omega) (by omega) isd_back uM_isM (isM_fr hW f4 fun k hk => by unfold fC; omega) (ls_C hl f4)) fun r hx => ⟨hx.1, hx.2.1, fr_trans (fC_P f4) hx.2.2⟩

theorem pm_begin {G : tc_G} (hG : gm G) (h4 : gm4 G) {u : tc_S} {B q : Nat} {v b : Int32} {g : mp} {R : Type} {k : Int32 → tc_S → Option R} {Q : R → Prop} (hB : B + 292 ≤ 584) (hM : isM u B g) (hg : mwf g) (hh : gc g 68 = (nI (q + 1), v, b, 0)) (hk : ∀ r w, isM w B g → isM w 584 g → ls w (mesh g) → fr (fP B) u w → yl (k r w) Q) : yl (tc_b (fn_X12_copies G 71 (nI B) 584 u) fun _ u29 => tc_b (fn_X12_lists G 71 (nI B) u29) fun _ u32 => tc_b (fn_X12_addsNew G 71 (nI q) v b u32) k) Q := by
  rw [show (584 : Int32) = nI 584 from rfl]
  refine yl_e (pm_copies hG (F := B) (T := 584) (by omega) (by omega) (by omega) hM) ?_
  have f1 : fr (fP B) u (uM u 584 g) := fr_uM fr_refl fun k h1 h2 => Or.inl ⟨rfl, Or.inr ⟨h1, by omega⟩⟩
  have i1 : isM (uM u 584 g) B g := fun k hk => (uM_out (by omega)).trans (hM k hk)
  have i2 : isM (uM u 584 g) 584 g := uM_isM
  generalize uM u 584 g = w at f1 i1 i2 ⊢
  refine yl_b (pm_lists hG h4 (by omega) i1 hg) fun r x hx => ?_
  have := mes_len hg
  refine yl_b (pm_addsNew h4 (k := nI q) (v := v) (b := b) hx.1 (by omega)) fun r2 y hy => ?_
  have f2 : fr fL w y := fr_trans hx.2 hy.2
  refine hk r2 y (isM_L i1 f2) (isM_L i2 f2) ?_ (fr_trans f1 (fL_P f2))
  unfold mesh
  rw [hh, ← nI_1]
  exact hy.1
theorem pm_rehashes {G : tc_G} (hG : gm G) (h2 : gm2 G) (h3 : gm3 G) (h4 : gm4 G) {u : tc_S} {B q : Nat} {v b : Int32} {g : mp} (hB : B + 292 ≤ 584) (hM : isM u B g) (hg : mwf g) (h0 : ck g 68 ≠ 0) (hh : gc g 68 = (nI (q + 1), v, b, 0)) : y2 (fn_X12_rehashes G 71 (nI B) (nI q) v b u) (fun r w => r = (if (mrh (mesh g) g (mn g 4) g).1 then 1 else 0) ∧ isM w B (mrh (mesh g) g (mn g 4) g).2 ∧ fr (fP B) u w) := by
  have hfu := tc_fu_big
  have h44 := hg.1.1.2.2.2.2.2.1
  unfold fn_X12_rehashes
  refine pm_begin hG h4 hB hM hg hh fun r w i1 i2 hl f1 => ?_
  have z := pm_rh24 hG h2 h3 h4 hB hg h0 (mn g 4) 0 tc_fu w g (by omega) (by omega) isd_refl i1 i2 hl
  exact yl_m z fun r hx => ⟨hx.1, hx.2.1, fr_trans f1 hx.2.2⟩
theorem pm_grows {G : tc_G} (hG : gm G) (h2 : gm2 G) (h3 : gm3 G) (h4 : gm4 G) {u : tc_S} {B q : Nat} {v b : Int32} {g : mp} (hB : B + 292 ≤ 584) (hM : isM u B g) (hg : mwf g) (h0 : ck g 68 ≠ 0) (hh : gc g 68 = (nI (q + 1), v, b, 0)) : y2 (fn_X12_grows G 71 (nI B) (nI q) v b u) (fun r w => r = (if (mgr (mesh g) g 5 (mn g 0) 1 g).1 then 1 else 0) ∧ isM w B (mgr (mesh g) g 5 (mn g 0) 1 g).2 ∧ fr (fP B) u w) := by
  have hfu := tc_fu_big
  have hnb := hg.1.1.2.1
  unfold fn_X12_grows
  refine pm_begin hG h4 hB hM hg hh fun r w i1 i2 hl f1 => ?_
  rw [hG.1.1, show nI B + 0 = nI (B + 0) from nI_add B 0, isM_ld hG i1 (by omega) (by omega), hg.1.1.1 0 (by omega)]
  have z := pm_gr34 hG h2 h3 h4 hB hg h0 5 (mn g 0) 1 tc_fu w g (by omega) hnb.1 hnb.2 (by omega) (by omega) isd_refl i1 i2 hl
  exact yl_m z fun r hx => ⟨hx.1, hx.2.1, fr_trans f1 hx.2.2⟩
/-- refused -/
theorem pm_ref167 {G : tc_G} (hG : gm G) {u u0 : tc_S} {B : Nat} {a : Int32} {g : mp} (hB : B + 292 ≤ 584) (hM : isM u B g) (hf : fr (fP B) u0 u) : y2 (bl_X12_puts_167 G 71 (nI B) u) (fun r w => r = (mpt3 a (false, g)).1 ∧ isM w B (mpt3 a (false, g)).2 ∧ fr (fP B) u0 w) := by
  unfold bl_X12_puts_167
  rw [mpt3, hG.1.1, show nI B + 13 = nI (B + 13) from nI_add B 13, isM_ld hG hM (by omega) (by omega)]
  refine yl_sd 3253 hG.1.2 (by omega) (by omega) (yl_ok ⟨rfl, ?_, fr_w hf (Or.inl ⟨rfl, Or.inl ⟨by omega, by omega⟩⟩)⟩)
  refine isM_upd (isM_h68 hM) (by omega) ?_
  rfl
theorem mpt3_f (a b : Int32) (g : mp) : mpt3 a (false, g) = mpt3 b (false, g) := rfl
theorem pm_put2 {G : tc_G} (hG : gm G) (h2 : gm2 G) (h3 : gm3 G) (h4 : gm4 G) {u u0 : tc_S} {B q : Nat} {v b : Int32} {g : mp} (hB : B + 292 ≤ 584) (hM : isM u B g) (hg : mwf g) (hq : q ≤ 999) (hh : gc g 68 = (nI (q + 1), v, b, 0)) (hf : fr (fP B) u0 u) : y2 (tc_ld G u (tc_p G 71 0) (nI B + 6) fun x32 => if x32 = 3 then (tc_b (fn_X12_chainOf G 71 (nI B) (nI q) u) fun x34 u35 => bl_X12_puts_96 G 71 (nI B) (nI q) v b x32 x34 u35) else (bl_X12_puts_96 G 71 (nI B) (nI q) v b x32 (-1) u)) (fun r w => r = (mpt2 g).1 ∧ isM w B (mpt2 g).2 ∧ fr (fP B) u0 w) := by
  have hk := mwf_ok hg
  have ek : ck g 68 = q + 1 := by rw [ck_gc, hh]; exact nI_clamp (by omega)
  have eq : ck g 68 - 1 = q := by omega
  have h0 : ck g 68 ≠ 0 := by omega
  have i13 : ¬ (1 : Int32) = 3 := by decide
  have i12 : ¬ (1 : Int32) = 2 := by decide
  have i32 : ¬ (3 : Int32) = 2 := by decide
  have i31 : ¬ (3 : Int32) = 1 := by decide
  have rh : ∀ (x : Int32) (w : tc_S), x ≠ 2 → isM w B g → fr (fP B) u0 w → y2 (bl_X12_puts_133 G 71 (nI B) (nI q) v b x w) (fun r w => r = (mpt3 4 (mrh (mesh g) g (mn g 4) g)).1 ∧ isM w B (mpt3 4 (mrh (mesh g) g (mn g 4) g)).2 ∧ fr (fP B) u0 w) := by
    intro x w hx hw hr
    unfold bl_X12_puts_133
    refine yl_b (pm_rehashes hG h2 h3 h4 hB hw hg h0 hh) fun r y hy => ?_
    obtain ⟨y1, y2, y3⟩ := hy
    cases hm : mrh (mesh g) g (mn g 4) g with
    | mk t z =>
      rw [hm] at y1 y2
      cases t with
      | true =>
        rw [y1, mpt3]
        exact yl_n i_n1 (yl_ok ⟨rfl, y2, fr_trans hr y3⟩)
      | false =>
        rw [y1]
        refine yl_p rfl ?_
        unfold bl_X12_puts_147
        exact yl_n hx (pm_ref167 hG hB y2 (fr_trans hr y3))
  unfold mpt2
  rw [hG.1.1, show nI B + 6 = nI (B + 6) from nI_add B 6, isM_ld hG hM (by omega) (by omega), eq]
  by_cases c3 : g 6 = 3
  · rw [if_pos c3, if_pos c3]
    refine yl_e (pm_chainOf hG h2 (by omega) hM hk hq) ?_
    unfold bl_X12_puts_96
    cases hc : mchain g q with
    | none =>
      rw [mptc]
      show yl (if (-1 : Int32) ≤ 0 then _ else _) _
      refine yl_p (by decide) ?_
      rw [c3]
      exact yl_n i31 (yl_p rfl (rh 3 _ i32 (isM_uA hM) (fr_trans hf (fD_P fr_uA))))
    | some l =>
      obtain ⟨c1, c4, c5, c6, c7, c8, c9⟩ := mchain_sp hg hc
      rw [mptc, show lC (some l) = nI l.length from rfl, show oC u g q (some l) = uC u (mn g 0) (maway g q) l from rfl, eq]
      refine yl_n (nI_nle c4 (by omega)) ?_
      exact yl_m (pm_chainIn hG h2 (by omega) (isM_uC hM) hg hh hc chn_uC) fun r hx => ⟨hx.1, hx.2.1, fr_trans hf (fr_trans (fD_P fr_uC) (fD_P hx.2.2))⟩
  · rw [if_neg c3, if_neg c3]
    unfold bl_X12_puts_96
    refine yl_p (by decide) ?_
    by_cases c1 : g 6 = 1
    · rw [if_pos c1, if_pos c1, c1]
      exact rh 1 u i12 hM hf
    · rw [if_neg c1, if_neg c1, if_neg c3]
      unfold bl_X12_puts_147
      by_cases c2 : g 6 = 2
      · rw [if_pos c2, if_pos c2]
        refine yl_b (pm_grows hG h2 h3 h4 hB hM hg h0 hh) fun r y hy => ?_
        obtain ⟨y1, y2, y3⟩ := hy
        cases hm : mgr (mesh g) g 5 (mn g 0) 1 g with
        | mk t z =>
          rw [hm] at y1 y2
          cases t with
          | true =>
            rw [y1, mpt3]
            exact yl_n i_n1 (yl_ok ⟨rfl, y2, fr_trans hf y3⟩)
          | false =>
            rw [y1]
            exact yl_p rfl (pm_ref167 hG hB y2 (fr_trans hf y3))
      · rw [if_neg c2, if_neg c2]
        exact pm_ref167 hG hB hM hf
theorem pm_puts {G : tc_G} (hG : gm G) (h2 : gm2 G) (h3 : gm3 G) (h4 : gm4 G) {u : tc_S} {B q P : Nat} {v : Int32} {g : mp} (hB : B + 292 ≤ 584) (hM : isM u B g) (hg : mre P g) (hP : P + 1 < 2 ^ 30) (hq : q ≤ 999) : y2 (fn_X12_puts G 71 (nI B) (nI q) v u) (fun r w => r = (mput g q v).1 ∧ isM w B (mput g q v).2 ∧ fr (fP B) u w) := by
  have hh := fun hl => put_hand (v := v) hg hq hP hl
  obtain ⟨w1, w2⟩ := mwf_puts hg.1 (by rw [hg.2.2]; omega)
  have hk := mwf_ok w1
  unfold fn_X12_puts mput
  rw [hG.1.1, show nI B + 12 = nI (B + 12) from nI_add B 12, isM_ld hG hM (by omega) (by omega)]
  refine yl_sd 3253 hG.1.2 (by omega) (by omega) ?_
  have i1 : isM (tc_w u 72 (B + 12) (g 12 + 1)) B (upd g 12 (g 12 + 1)) := isM_upd hM (by omega) rfl
  have f1 : fr (fP B) u (tc_w u 72 (B + 12) (g 12 + 1)) := fr_w fr_refl (Or.inl ⟨rfl, Or.inl ⟨by omega, by omega⟩⟩)
  generalize tc_w u 72 (B + 12) (g 12 + 1) = w at i1 f1 ⊢
  refine yl_e (pm_lies hG (by omega) i1 hk hq) ?_
  rw [mlies_loc]
  cases hl : mloc (upd g 12 (g 12 + 1)) q with
  | some i =>
    have hi := mloc_sp w1 hq hl
    rw [mputf]
    show yl (if nI (B + (20 + 4 * i)) < 0 then _ else tc_sd G w 72 (nI (B + (20 + 4 * i)) + 1) v fun u37 => some (0, u37)) _
    refine yl_n (nI_pos (by omega)) ?_
    rw [nI_1]
    refine yl_sd 3253 hG.1.2 (by omega) (by omega) (yl_ok ⟨rfl, ?_, fr_w f1 (Or.inl ⟨rfl, Or.inl ⟨by omega, by omega⟩⟩)⟩)
    refine isM_upd i1 (by omega) ?_
    rw [show B + (20 + 4 * i) + 1 = B + (21 + 4 * i) by omega]
  | none =>
    rw [mputf]
    obtain ⟨a1, a2⟩ := hh hl
    show yl (if (-1 : Int32) < 0 then _ else _) _
    refine yl_p (by decide) ?_
    rw [isM_ld hG i1 (by omega) (by omega)]
    refine yl_b (pm_comesIn hG h2 h3 (by omega) (isM_h68 (e := (nI (q + 1), v, upd g 12 (g 12 + 1) 12, 0)) i1) a1 hq (by rw [gc_cs, if_pos rfl])) fun r x hx => ?_
    obtain ⟨x1, x2, x3⟩ := hx
    obtain ⟨c1, c2, c3, c4, c5, n, c6, c7⟩ := mcome_ok a1 (by omega)
    unfold mpt1
    rw [x1]
    by_cases hr : (mcome (cs (upd g 12 (g 12 + 1)) 68 (nI (q + 1), v, upd g 12 (g 12 + 1) 12, 0))).1 = 0
    · rw [if_pos hr, hr]
      refine yl_p (by decide) ?_
      obtain ⟨s, hs⟩ := c4 hr
      have hh2 : gc (mcome (cs (upd g 12 (g 12 + 1)) 68 (nI (q + 1), v, upd g 12 (g 12 + 1) 12, 0))).2 68 = (nI (q + 1), v, upd g 12 (g 12 + 1) 12, 0) := by
        rw [hs, gc_upd (by omega), gc_cs, if_pos rfl]
      have z := pm_put2 hG h2 h3 h4 hB x2 c1 hq hh2 (fr_trans f1 (fC_P x3))
      rw [hG.1.1] at z
      exact z
    · rw [if_neg hr]
      have hn : ¬ (mcome (cs (upd g 12 (g 12 + 1)) 68 (nI (q + 1), v, upd g 12 (g 12 + 1) 12, 0))).1 ≤ 0 := by
        rw [c7]
        refine nI_nle ?_ (by omega)
        rcases Nat.eq_zero_or_pos n with e | e
        · rw [c7, e] at hr; exact absurd rfl hr
        · exact e
      exact yl_n hn (yl_ok ⟨rfl, x2, fr_trans f1 (fC_P x3)⟩)
