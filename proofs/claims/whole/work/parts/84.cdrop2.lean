/-! the class: the stash empties; a drop -/
theorem gc_mvb {g : mp} {i j x : Nat} : gc (mvb g i j) x = if x = i then e0 else if x = j then bump (gc g i) else gc g x := by
  unfold mvb
  rw [gc_cs, gc_cs]
theorem mlv_sp {g h : mp} {j : Nat} {chn : Bool} (hg : mwf g) (hj : j < mn g 18) (hl : mlv g (64 + j) chn = some h) : sA g h ∧ h 18 = g 18 ∧ gc h (64 + j) = e0 ∧ ∀ x, 64 ≤ x → x ≠ 64 + j → gc h x = gc g x := by
  have a := hg.1.1
  unfold mlv at hl
  cases hf : mfr g (ck g (64 + j) - 1) with
  | some i =>
    rw [hf, mlv1] at hl
    obtain ⟨f1, f2, f3⟩ := mfr_sp a hg.1.2.2.1 hf
    have e := (Option.some.inj hl).symm
    subst e
    refine ⟨sA_trans sA_cs sA_cs, ?_, ?_, fun x h1 h2 => ?_⟩
    · unfold mvb; rw [cs_lo (by omega), cs_lo (by omega)]
    · rw [gc_mvb, if_pos rfl]
    · rw [gc_mvb, if_neg h2, if_neg (by omega)]
  | none =>
    rw [hf, mlv1] at hl
    split at hl
    · cases hc : mchain g (ck g (64 + j) - 1) with
      | none => rw [hc, mlv2] at hl; cases hl
      | some l =>
        rw [hc, mlv2] at hl
        split at hl
        · obtain ⟨o1, o2, o3, o4, o5, o6, o7, o8⟩ := mopn_ok hg hc
          have e := (Option.some.inj hl).symm
          subst e
          refine ⟨sA_trans o2 (sA_trans sA_cs sA_cs), ?_, ?_, fun x h1 h2 => ?_⟩
          · unfold mvb; rw [cs_lo (by omega), cs_lo (by omega)]; exact o8 18 (by omega) (by omega)
          · rw [gc_mvb, if_pos rfl]
          · rw [gc_mvb, if_neg h2, if_neg (by omega)]; exact o7 x h1
        · cases hl
    · cases hl
theorem mt_empty14 {G : tc_G} (hK : gK G) (hV : gV G) {t m : Nat} {chn : Bool} {u0 : tc_S} (hT : gT G t 64) (htt : t + 10 ≤ 24 ∨ 32 ≤ t) (hm4 : m ≤ 4) : ∀ (n k stay left f : Nat) (g : mp) (u : tc_S), k + n = m → n < f → stay + n = mn g 18 → mwf g → mt u t g → fr (fV t) u0 u → y2 (lo_X4_emptyStash_14 G f 30 t (if chn then 1 else 0) (nI left) (nI stay) (nI m) (nI k) u) (fun r w => r = nI (mem chn n g stay left).1 ∧ mt w t (mem chn n g stay left).2 ∧ fr (fV t) u0 w) := by
  intro n
  induction n with
  | zero =>
    intro k stay left f g u hk hf hs hg h hr
    obtain ⟨f, rfl⟩ : ∃ k, f = k + 1 := ⟨f - 1, by omega⟩
    rw [lo_X4_emptyStash_14, pu_le (by omega) (by omega), if_pos (by omega), mem_0]
    exact yl_ok ⟨rfl, h, hr⟩
  | succ n ih =>
    intro k stay left f g u hk hf hs hg h hr
    obtain ⟨f, rfl⟩ : ∃ k, f = k + 1 := ⟨f - 1, by omega⟩
    have h4 : mn g 18 ≤ 4 := Nat.le_trans hg.1.2.1.2 hg.1.1.2.2.2.1
    rw [lo_X4_emptyStash_14, pu_le (by omega) (by omega), if_neg (by omega), (mt_room h).1, nI_add, mem_s]
    refine yl_b (mt_leave hK hV (chn := chn) hT htt hg h (by omega)) fun r w hw => ?_
    unfold bl_X4_emptyStash_52
    cases hl : mlv g (64 + stay) chn with
    | none =>
      rw [hl] at hw
      obtain ⟨w1, w2, w3⟩ := hw
      rw [w1, mem2]
      refine yl_p rfl (yl_let (yl_let ?_))
      rw [nI_1, nI_1]
      exact ih (k + 1) (stay + 1) left f g w (by omega) (by omega) (by omega) hg w2 (fr_trans hr w3)
    | some x =>
      rw [hl] at hw
      obtain ⟨w1, w2, w3⟩ := hw
      have w2 : mt w t x := w2
      obtain ⟨l1, l2, l3, l4, l5, l6⟩ := mlv_ok hg (by omega) hl
      obtain ⟨s1, s2, s3, s4⟩ := mlv_sp hg (by omega) hl
      rw [w1, mem2]
      refine yl_n i_n1 ?_
      refine yl_b (mt_closeStash hT (sA_wA s1 hg.1.1) (by rw [l5, s2]; exact hg.1.2.1.1) (by omega) (by omega) w2 s3 (fun y h1 h2 => ?_)) fun _ v hv => ?_
      · rw [s4 y (by omega) (by omega), ← gc_e0 hg (by omega)]
        have := (hg.2 (y - 64) (by omega)).mpr (by omega)
        rw [show 64 + (y - 64) = y by omega] at this
        exact this
      · refine yl_let (yl_let ?_)
        rw [nI_1, nI_1]
        exact ih (k + 1) stay (left + 1) f (mcls x stay) v (by omega) (by omega) (by omega) l1 hv.1 (fr_trans hr (fr_trans w3 (fT_V hv.2)))
theorem mt_emptyStash {G : tc_G} (hK : gK G) (hV : gV G) {u : tc_S} {t : Nat} {chn : Bool} {g : mp} (hT : gT G t 64) (htt : t + 10 ≤ 24 ∨ 32 ≤ t) (hg : mwf g) (h : mt u t g) : y2 (fn_X4_emptyStash G 30 t (if chn then 1 else 0) u) (fun r w => r = nI (mem chn (mn g 18) g 0 0).1 ∧ mt w t (mem chn (mn g 18) g 0 0).2 ∧ fr (fV t) u w) := by
  have hfu := tc_fu_big
  have h4 : mn g 18 ≤ 4 := Nat.le_trans hg.1.2.1.2 hg.1.1.2.2.2.1
  unfold fn_X4_emptyStash
  refine yl_let ?_
  have e : u.1 t 10 = nI (mn g 18) := by rw [h.1.2.2.2.2]; exact hg.1.2.1.1
  rw [e]
  exact mt_empty14 hK hV hT htt h4 (mn g 18) 0 0 0 tc_fu g u (by omega) (by omega) (by omega) hg h fr_refl
theorem mt_remove {G : tc_G} (hK : gK G) (hV : gV G) (h38 : tc_p G 38 0 = 30) {u : tc_S} {t q P : Nat} {g : mp} (hT : gT G t 64) (htt : t + 10 ≤ 24 ∨ 32 ≤ t) (hg : mre P g) (h : mt u t g) (hq : q ≤ 999) : y2 (fn_X3_remove G 38 t (nI q) u) (fun r w => r = (mdrp g q).1 ∧ mt w t (mdrp g q).2 ∧ fr (fV t) u w) := by
  have hw := hg.1
  have a := hw.1.1
  have h4 : mn g 18 ≤ 4 := Nat.le_trans hw.1.2.1.2 a.2.2.2.1
  unfold fn_X3_remove mdrp
  refine yl_e (mt_locate hT hw h hq) ?_
  cases hl : mloc g q with
  | none =>
    rw [mdrp1]
    show yl (if 0 ≤ (-1 : Int32) then _ else _) _
    exact yl_n (by decide) (yl_ok ⟨rfl, h, fr_refl⟩)
  | some i =>
    have hi := mloc_sp hw hq hl
    have h0 : ck g i ≠ 0 := by omega
    have hv : vc g i := ⟨by omega, fun c => by
      have := hw.1.2.2.2.1 i c h0
      exact ⟨this.1, this.2.1⟩⟩
    obtain ⟨o1, o2, o3⟩ := mout_ok hg hi.1 h0
    have lx := fx_lt a hv
    have g68 : gc g 68 = e0 := (hw.1.2.2.1 68 (by omega)).2.2 hg.2.1
    rw [mdrp1]
    show yl (if 0 ≤ nI (fx g i) then (tc_ld G u (tc_p G t 4) (nI (fx g i)) fun x8 => tc_b (fn_X9_move G t (nI (fx g i)) (u.1 t 2) u) fun x9 u10 => tc_b (fn_X9_emptyHand G t u10) fun x12 u13 => if nI (fx g i) < (u13.1 t 1) then (bl_X3_remove_51 G 38 t x8 u13) else (tc_b (fn_X9_closeStash G t (nI (fx g i) - (u13.1 t 1)) u13) fun x16 u17 => bl_X3_remove_51 G 38 t x8 u17)) else _) _
    refine yl_p (nI_pos' (by omega)) ?_
    rw [hT.2.1.2.1, (mt_room h).2]
    refine yl_ld 69 (hT.2.2.2 _ (by omega) (by omega)) (by omega) (by omega) ?_
    rw [(mt_key hw h hv h0).2.1]
    have zm := mt_move (i := i) (j := 68) hT a h hv vc68 (by omega) (by rw [← gc_e0 hw (by omega)]; exact h0) (by rw [g68]; rfl)
    rw [fx68] at zm
    refine yl_b zm fun _ w1 hw1 => ?_
    refine yl_b (mt_emptyHand hT (wA_cs (wA_cs a)) hw1.1) fun _ w2 hw2 => ?_
    have e1 : cs (cs (cs g 68 (gc g i)) i e0) 68 e0 = cs g i e0 := by
      rw [cs_cs]
      have q : cs (cs g i e0) 68 (gc (cs g i e0) 68) = cs g i e0 := cs_self
      rw [gc_cs_ne (by omega), g68] at q
      exact q
    have hw2' := hw2.1
    rw [e1] at hw2'
    have fin : ∀ w, mt w t (mout g i) → fr (fV t) u w → y2 (bl_X3_remove_51 G 38 t (gc g i).2.1 w) (fun r w => r = g (21 + 4 * i) ∧ mt w t (mem false (mn (mout g i) 18) (mout g i) 0 0).2 ∧ fr (fV t) u w) := by
      intro w hm hr
      unfold bl_X3_remove_51
      rw [h38]
      refine yl_b (mt_emptyStash hK hV (chn := false) hT htt o1.1 hm) fun r v hv => ?_
      exact yl_ok ⟨rfl, hv.2.1, fr_trans hr hv.2.2⟩
    have f12 : fr (fV t) u w2 := fT_V (fr_trans hw1.2 hw2.2)
    rw [(mt_room hw2').1, pu_lt (by omega) (by omega)]
    by_cases c : i < 64
    · rw [if_pos (lx.2.2.mp c)]
      have e2 : mout g i = cs g i e0 := by unfold mout; rw [if_pos c]
      exact fin w2 (by rw [e2]; exact hw2') f12
    · have hf : fx g i = i := by unfold fx; rw [if_neg c]
      rw [if_neg (by omega), hf, show nI i - nI 64 = nI (i - 64) from pk_sub (by omega)]
      have hj : i - 64 < mn g 18 := (hw.2 (i - 64) (by omega)).mp (by rw [show 64 + (i - 64) = i by omega]; exact h0)
      have m18 : mn (cs g i e0) 18 = mn g 18 := mn_cs (by omega)
      refine yl_b (mt_closeStash (j := i - 64) hT (wA_cs a) (by rw [m18, cs_lo (by omega)]; exact hw.1.2.1.1) (by omega) (by omega) hw2' (by rw [show 64 + (i - 64) = i by omega, gc_cs_eq]) fun y h1 h2 => ?_) fun _ v hv => ?_
      · rw [gc_cs_ne (by omega), ← gc_e0 hw (by omega)]
        have := (hw.2 (y - 64) (by omega)).mpr (by omega)
        rw [show 64 + (y - 64) = y by omega] at this
        exact this
      · have e2 : mout g i = mcls (cs g i e0) (i - 64) := by
          unfold mout
          rw [if_neg c, mcls_e0 (by omega) hj]
        exact fin v (by rw [e2]; exact hv.1) (fr_trans f12 (fT_V hv.2))
