/-! counts; the call count (all but the parts) -/
def cts (g : mp) (k : Nat) : Int32 :=
  if k = 0 then nI (mes g).length else if k ≤ 3 then g (k - 1) else if k = 4 then g 18 else if k = 5 then g 0 * g 1 + g 18 - nI (mes g).length
  else if k ≤ 13 then g (k - 3) else if k ≤ 17 then g (k - 2) else if k = 18 then (mes g).foldl mvS 0 else if k = 19 then (mes g).foldl mvM 0
  else if k = 20 then g 16 else if k = 21 then nI ((mes g).foldl (rdM g) 0) else if k = 22 then g 17 else g 11
theorem i_cases (x : Int32) : (∃ k, k ≤ 26 ∧ x = nI k) ∨ (x.toInt < 0 ∨ 26 < x.toInt) := by
  by_cases h : x.toInt < 0 ∨ 26 < x.toInt
  · exact Or.inr h
  · exact Or.inl ⟨x.toInt.toNat, by omega, ti (by omega) (by omega)⟩
theorem i_lt1 {x : Int32} (h : x.toInt < 0) : x < 1 := Int32.lt_iff_toInt_lt.mpr (by rw [show (1 : Int32).toInt = 1 from rfl]; omega)
theorem i_gt13 {x : Int32} (h : 26 < x.toInt) : ¬ x < 1 ∧ 13 < x := ⟨fun q => by have := Int32.lt_iff_toInt_lt.mp q; rw [show (1 : Int32).toInt = 1 from rfl] at this; omega, Int32.lt_iff_toInt_lt.mpr (by rw [show (13 : Int32).toInt = 13 from rfl]; omega)⟩
theorem k_cases {k : Nat} (h : k ≤ 25) : k = 0 ∨ k = 1 ∨ k = 2 ∨ k = 3 ∨ k = 4 ∨ k = 5 ∨ k = 6 ∨ k = 7 ∨ k = 8 ∨ k = 9 ∨ k = 10 ∨ k = 11 ∨ k = 12 ∨ k = 13 ∨ k = 14 ∨ k = 15 ∨ k = 16 ∨ k = 17 ∨ k = 18 ∨ k = 19 ∨ k = 20 ∨ k = 21 ∨ k = 22 ∨ k = 23 ∨ k = 24 ∨ k = 25 := by omega
theorem mt_tell {G : tc_G} {u : tc_S} {t k : Nat} {g : mp} (hT : gT G t 64) (hw : mwf g) (h : mt u t g) (hk : k ≤ 25) (h3 : k ≠ 23) (h4 : k ≠ 24) : fn_X11_tell G 0 t (nI k) u = some (cts g k, u) := by
  have hfu := tc_fu_big
  have e12 : ∀ j, 12 ≤ j → j < 18 → u.1 t (j - 1) = g j := h.1.2.2.2.1
  have e18 : u.1 t 10 = g 18 := h.1.2.2.2.2
  have e11 : u.1 (t + 2) 0 = g 11 := h.1.2.2.1
  have eS : ∀ j, j < 11 → u.1 (t + 1) j = g j := h.1.2.1
  have en := mt_entries hT hw h
  unfold fn_X11_tell fn_X11_tellOfSettings bl_X11_tell_17
  rw [hT.1.1, hT.1.2]
  rcases k_cases hk with rfl | rfl | rfl | rfl | rfl | rfl | rfl | rfl | rfl | rfl | rfl | rfl | rfl | rfl | rfl | rfl | rfl | rfl | rfl | rfl | rfl | rfl | rfl | rfl | rfl | rfl
  · rw [if_pos (by decide), if_pos (by decide), en, pu_b]; rfl
  · rw [if_neg (by decide), if_neg (by decide)]; repeat rw [if_neg (by decide)]
    rw [if_pos (by decide), eS 0 (by omega), pu_b]; rfl
  · rw [if_neg (by decide), if_neg (by decide)]; repeat rw [if_neg (by decide)]
    rw [if_pos (by decide), eS 1 (by omega), pu_b]; rfl
  · rw [if_neg (by decide), if_neg (by decide)]; repeat rw [if_neg (by decide)]
    rw [if_pos (by decide), eS 2 (by omega), pu_b]; rfl
  · rw [if_neg (by decide), if_neg (by decide)]; repeat rw [if_neg (by decide)]
    rw [if_pos (by decide), e18, pu_b]; rfl
  · rw [if_neg (by decide), if_neg (by decide)]; repeat rw [if_neg (by decide)]
    rw [if_pos (by decide), en, pu_b, eS 0 (by omega), eS 1 (by omega), e18, pu_b]
    show some (g 0 * g 1 - (nI (mes g).length - g 18), u) = some (g 0 * g 1 + g 18 - nI (mes g).length, u)
    rw [show g 0 * g 1 - (nI (mes g).length - g 18) = g 0 * g 1 + g 18 - nI (mes g).length by grind]
  · rw [if_neg (by decide), if_neg (by decide)]; repeat rw [if_neg (by decide)]
    rw [if_pos (by decide), eS 3 (by omega), pu_b]; rfl
  · rw [if_neg (by decide), if_neg (by decide)]; repeat rw [if_neg (by decide)]
    rw [if_pos (by decide), eS 4 (by omega), pu_b]; rfl
  · rw [if_neg (by decide), if_neg (by decide)]; repeat rw [if_neg (by decide)]
    rw [if_pos (by decide), eS 5 (by omega), pu_b]; rfl
  · rw [if_neg (by decide), if_neg (by decide)]; repeat rw [if_neg (by decide)]
    rw [if_pos (by decide), eS 6 (by omega), pu_b]; rfl
  · rw [if_neg (by decide), if_neg (by decide)]; repeat rw [if_neg (by decide)]
    rw [if_pos (by decide), eS 7 (by omega), pu_b]; rfl
  · rw [if_neg (by decide), if_neg (by decide)]; repeat rw [if_neg (by decide)]
    rw [if_pos (by decide), eS 8 (by omega), pu_b]; rfl
  · rw [if_neg (by decide), if_neg (by decide)]; repeat rw [if_neg (by decide)]
    rw [if_pos (by decide), eS 9 (by omega), pu_b]; rfl
  · rw [if_neg (by decide), if_neg (by decide)]; repeat rw [if_neg (by decide)]
    rw [if_pos (by decide), eS 10 (by omega), pu_b]; rfl
  · rw [if_neg (by decide), if_pos (by decide)]; repeat rw [if_neg (by decide)]
    rw [if_pos (by decide), show u.1 t 11 = g 12 from e12 12 (by omega) (by omega)]; rfl
  · rw [if_neg (by decide), if_pos (by decide)]; repeat rw [if_neg (by decide)]
    rw [if_pos (by decide), show u.1 t 12 = g 13 from e12 13 (by omega) (by omega)]; rfl
  · rw [if_neg (by decide), if_pos (by decide)]; repeat rw [if_neg (by decide)]
    rw [if_pos (by decide), show u.1 t 13 = g 14 from e12 14 (by omega) (by omega)]; rfl
  · rw [if_neg (by decide), if_pos (by decide)]; repeat rw [if_neg (by decide)]
    rw [if_pos (by decide), show u.1 t 14 = g 15 from e12 15 (by omega) (by omega)]; rfl
  · rw [if_neg (by decide), if_pos (by decide)]; repeat rw [if_neg (by decide)]
    rw [if_pos (by decide)]
    show tc_b (lo_X9_movedInAll_4 G tc_fu t 0 (nI 0) u) _ = _
    rw [mt_movedInAll hT h 68 0 tc_fu 0 (by omega) (by omega), pu_b, cl_mes hw]
    rfl
  · rw [if_neg (by decide), if_pos (by decide)]; repeat rw [if_neg (by decide)]
    rw [if_pos (by decide)]
    show tc_b (lo_X9_movedMost_4 G tc_fu t 0 (nI 0) u) _ = _
    rw [mt_movedMost hT h 68 0 tc_fu 0 (by omega) (by omega), pu_b, cl_mes hw]
    rfl
  · rw [if_neg (by decide), if_pos (by decide)]; repeat rw [if_neg (by decide)]
    rw [if_pos (by decide), show u.1 t 15 = g 16 from e12 16 (by omega) (by omega)]; rfl
  · rw [if_neg (by decide), if_pos (by decide)]; repeat rw [if_neg (by decide)]
    rw [if_pos (by decide)]
    show tc_b (lo_X9_readsMost_4 G tc_fu t (nI 0) (nI 0) u) _ = _
    rw [mt_readsMost hT hw h 68 0 tc_fu 0 (by omega) (by omega) (by omega), pu_b, cl_mes hw]
    rfl
  · rw [if_neg (by decide), if_pos (by decide)]; repeat rw [if_neg (by decide)]
    rw [if_pos (by decide), show u.1 t 16 = g 17 from e12 17 (by omega) (by omega)]; rfl
  · exact absurd rfl h3
  · exact absurd rfl h4
  · rw [if_neg (by decide), if_pos (by decide)]; repeat rw [if_neg (by decide)]
    rw [if_pos (by decide), e11]; rfl
theorem mt_tellN {G : tc_G} {u : tc_S} {t : Nat} {x : Int32} (hx : x.toInt < 0 ∨ 26 < x.toInt) : fn_X11_tell G 0 t x u = some (-1, u) := by
  unfold fn_X11_tell bl_X11_tell_17
  rcases hx with c | c
  · rw [if_pos (i_lt1 c)]
    repeat rw [if_neg (by omega)]
  · rw [if_neg (i_gt13 c).1, if_pos (i_gt13 c).2]
    repeat rw [if_neg (by omega)]
theorem pm_entries {G : tc_G} (hG : gm G) (h4 : gm4 G) {u : tc_S} {B : Nat} {g : mp} (hB : B + 292 ≤ 3253) (hM : isM u B g) (hw : mwf g) : y2 (fn_X12_entries G 71 (nI B) u) (fun r w => r = nI (mes g).length ∧ fr fL u w) := by
  unfold fn_X12_entries
  refine yl_b (pm_lists hG h4 hB hM hw) fun _ w hl => ?_
  exact yl_ok ⟨hl.1.1, hl.2⟩
theorem pm_counts {G : tc_G} (hG : gm G) (h4 : gm4 G) {u : tc_S} {B k : Nat} {g : mp} (hB : B + 292 ≤ 3253) (hM : isM u B g) (hw : mwf g) (hk : k ≤ 25) (k3 : k ≠ 23) (k4 : k ≠ 24) : y2 (fn_X12_counts G 71 (nI B) (nI k) u) (fun r w => r = cts g k ∧ fr fL u w) := by
  have hfu := tc_fu_big
  have hln := mes_len hw
  have hen := pm_entries hG h4 hB hM hw
  have z0 : ∀ j, j < 292 → ∀ {β : Type} (kk : Int32 → Option β), tc_ld G u 72 (nI B + nI j) kk = kk (g j) := fun j hj β kk => by rw [nI_add]; exact isM_ld hG hM hB hj
  have mv : ∀ j (F : Int32 → en → Int32), (∀ w, ls w (mes g) → lo_X12_moved_10 G tc_fu 71 j 0 (nI 0) w = some ((mes g).foldl F 0, w)) → y2 (fn_X12_moved G 71 (nI B) j u) (fun r w => r = (mes g).foldl F 0 ∧ fr fL u w) := by
    intro j F hF
    unfold fn_X12_moved
    refine yl_b (pm_lists hG h4 hB hM hw) fun _ w hl => ?_
    exact ⟨_, hF w hl.1, rfl, hl.2⟩
  unfold fn_X12_counts
  rw [hG.1.1]
  rcases pm_isInB (G := G) (nI k) 10 13 (by omega) (by omega) with ⟨c1, c2⟩ | ⟨q, q1, q2, q3, q4⟩
  · refine yl_e (c2 u) (yl_p rfl ?_)
    have hn : ¬ (10 ≤ k ∧ k ≤ 13) := by
      rintro ⟨a, b⟩
      rcases c1 with w | w
      · exact absurd w (nI_nlt a (by omega))
      · exact absurd w (nI_nlt b (by omega))
    rcases k_cases hk with rfl | rfl | rfl | rfl | rfl | rfl | rfl | rfl | rfl | rfl | rfl | rfl | rfl | rfl | rfl | rfl | rfl | rfl | rfl | rfl | rfl | rfl | rfl | rfl | rfl | rfl
    · repeat refine yl_n (by decide) ?_
      refine yl_p (by decide) ?_
      exact yl_b hen fun r w hr => yl_ok ⟨by rw [hr.1]; rfl, hr.2⟩
    · repeat refine yl_n (by decide) ?_
      refine yl_p (by decide) ?_
      rw [show (0 : Int32) = nI 0 from rfl, z0 0 (by omega)]
      exact yl_ok ⟨rfl, fr_refl⟩
    · repeat refine yl_n (by decide) ?_
      refine yl_p (by decide) ?_
      rw [show (1 : Int32) = nI 1 from rfl, z0 1 (by omega)]
      exact yl_ok ⟨rfl, fr_refl⟩
    · repeat refine yl_n (by decide) ?_
      refine yl_p (by decide) ?_
      rw [show (2 : Int32) = nI 2 from rfl, z0 2 (by omega)]
      exact yl_ok ⟨rfl, fr_refl⟩
    · repeat refine yl_n (by decide) ?_
      refine yl_p (by decide) ?_
      rw [show (18 : Int32) = nI 18 from rfl, z0 18 (by omega)]
      exact yl_ok ⟨rfl, fr_refl⟩
    · repeat refine yl_n (by decide) ?_
      refine yl_p (by decide) ?_
      rw [show (0 : Int32) = nI 0 from rfl, z0 0 (by omega), show (1 : Int32) = nI 1 from rfl, z0 1 (by omega), show (18 : Int32) = nI 18 from rfl, z0 18 (by omega)]
      exact yl_b hen fun r w hr => yl_ok ⟨by rw [hr.1]; rfl, hr.2⟩
    · repeat refine yl_n (by decide) ?_
      refine yl_p (by decide) ?_
      rw [show (3 : Int32) = nI 3 from rfl, z0 3 (by omega)]
      exact yl_ok ⟨rfl, fr_refl⟩
    · repeat refine yl_n (by decide) ?_
      refine yl_p (by decide) ?_
      rw [show (4 : Int32) = nI 4 from rfl, z0 4 (by omega)]
      exact yl_ok ⟨rfl, fr_refl⟩
    · repeat refine yl_n (by decide) ?_
      refine yl_p (by decide) ?_
      rw [show (5 : Int32) = nI 5 from rfl, z0 5 (by omega)]
      exact yl_ok ⟨rfl, fr_refl⟩
    · repeat refine yl_n (by decide) ?_
      refine yl_p (by decide) ?_
      rw [show (6 : Int32) = nI 6 from rfl, z0 6 (by omega)]
      exact yl_ok ⟨rfl, fr_refl⟩
    · omega
    · omega
    · omega
    · omega
    · repeat refine yl_n (by decide) ?_
      refine yl_p (by decide) ?_
      rw [show (12 : Int32) = nI 12 from rfl, z0 12 (by omega)]
      exact yl_ok ⟨rfl, fr_refl⟩
    · repeat refine yl_n (by decide) ?_
      refine yl_p (by decide) ?_
      rw [show (13 : Int32) = nI 13 from rfl, z0 13 (by omega)]
      exact yl_ok ⟨rfl, fr_refl⟩
    · repeat refine yl_n (by decide) ?_
      refine yl_p (by decide) ?_
      rw [show (14 : Int32) = nI 14 from rfl, z0 14 (by omega)]
      exact yl_ok ⟨rfl, fr_refl⟩
    · repeat refine yl_n (by decide) ?_
      refine yl_p (by decide) ?_
      rw [show (15 : Int32) = nI 15 from rfl, z0 15 (by omega)]
      exact yl_ok ⟨rfl, fr_refl⟩
    · repeat refine yl_n (by decide) ?_
      refine yl_p (by decide) ?_
      refine yl_b (mv 0 mvS fun w hl => ?_) fun r w hr => yl_ok ⟨by rw [hr.1]; rfl, hr.2⟩
      exact pm_moved0 h4 hl hln _ 0 tc_fu 0 (Nat.zero_add _) (by omega)
    · repeat refine yl_n (by decide) ?_
      refine yl_p (by decide) ?_
      refine yl_b (mv 1 mvM fun w hl => ?_) fun r w hr => yl_ok ⟨by rw [hr.1]; rfl, hr.2⟩
      exact pm_moved1 h4 hl hln _ 0 tc_fu 0 (Nat.zero_add _) (by omega)
    · repeat refine yl_n (by decide) ?_
      refine yl_p (by decide) ?_
      rw [show (16 : Int32) = nI 16 from rfl, z0 16 (by omega)]
      exact yl_ok ⟨rfl, fr_refl⟩
    · repeat refine yl_n (by decide) ?_
      refine yl_p (by decide) ?_
      unfold fn_X12_greatestRead
      have hgr : y2 (tc_b (fn_X12_lists G 71 (nI B) u) fun _ u9 => lo_X12_greatestRead_9 G tc_fu 71 (nI B) 0 0 u9) (fun r w => r = nI ((mes g).foldl (rdM g) 0) ∧ fr fL u w) := by
        refine yl_b (pm_lists hG h4 hB hM hw) fun _ w hl => ?_
        exact ⟨_, pm_gread hG h4 hB (isM_L hM hl.2) hw hl.1 hln (mes_key hw) _ 0 tc_fu 0 (Nat.zero_add _) (by omega) (by omega), rfl, hl.2⟩
      exact yl_b hgr fun r w hr => yl_ok ⟨by rw [hr.1]; rfl, hr.2⟩
    · repeat refine yl_n (by decide) ?_
      refine yl_p (by decide) ?_
      rw [show (17 : Int32) = nI 17 from rfl, z0 17 (by omega)]
      exact yl_ok ⟨rfl, fr_refl⟩
    · exact absurd rfl k3
    · exact absurd rfl k4
    · repeat refine yl_n (by decide) ?_
      refine yl_p (by decide) ?_
      rw [show (11 : Int32) = nI 11 from rfl, z0 11 (by omega)]
      exact yl_ok ⟨rfl, fr_refl⟩
  · refine yl_e (q4 u) (yl_n i_n1 ?_)
    have eq : k = q := by
      have := congrArg Int32.toNatClampNeg q3
      rwa [nI_clamp (by omega), nI_clamp (by omega)] at this
    subst eq
    rw [show nI B + 7 = nI (B + 7) from nI_add B 7, nI_add, show nI (B + 7 + k) - 10 = nI (B + 7 + k - 10) from pk_sub (b := 10) (by omega), show B + 7 + k - 10 = B + (k - 3) by omega, isM_ld hG hM hB (by omega)]
    refine yl_ok ⟨?_, fr_refl⟩
    unfold cts
    rw [if_neg (by omega), if_neg (by omega), if_neg (by omega), if_neg (by omega), if_pos (by omega)]
theorem pm_countsN {G : tc_G} {u : tc_S} {x b : Int32} (hx : x.toInt < 0 ∨ 26 < x.toInt) : fn_X12_counts G 71 b x u = some (-1, u) := by
  unfold fn_X12_counts
  rcases pm_isInB (G := G) x 10 13 (by omega) (by omega) with ⟨c1, c2⟩ | ⟨q, q1, q2, q3, q4⟩
  · have c3 : fn_X12_isIn G x 10 13 u = some (0, u) := c2 u
    rw [c3, pu_b, if_pos rfl]
    repeat rw [if_neg (by omega)]
  · rw [q3, nI_toInt (by omega)] at hx
    omega
/-- count, where no parts are asked for -/
theorem c_count0 {G : tc_G} (hA : gA G) {L : tc_L} {u : tc_S} {P : Nat} {g : mp} (x : Int32) (hu : cC u P g) (hM : isM u 0 g) (ht : u.1 1 2 = u.1 71 3) (h3 : x ≠ 23) (h4 : x ≠ 24) : ∃ g2 P2, P2 ≤ P + 12 ∧ yl (tc_b (fn_X11_count G 0 x u) fun r1 u1 => tc_b (fn_X12_count G 71 x u1) fun r2 u2 => if r1 = r2 then some (L, u2) else none) (pqq L u P2 g2) := by
  obtain ⟨⟨o0, o1, o2, o3, o4, o5, o6, o7, o8, o9, o10⟩, ⟨a1, a2, a3⟩, ⟨a4, a5, a6, a7⟩, b1, b2, b3, b4⟩ := hA
  have hw := hu.2.1.1
  by_cases h6 : x = 26
  · refine ⟨g, P, by omega, ?_⟩
    have e1 : fn_X11_count G 0 x u = some (u.1 1 2, u) := by
      unfold fn_X11_count bl_X11_count_28
      rw [if_pos h6, o0]
    have e2 : fn_X12_count G 71 x u = some (u.1 71 3, u) := by
      unfold fn_X12_count bl_X12_count_47
      rw [if_neg h3, if_neg h4, if_pos h6]
    exact yl_e e1 (yl_e e2 (yl_p ht (yl_ok ⟨rfl, hM, hu, fr_refl⟩)))
  · rcases i_cases x with ⟨k, k1, rfl⟩ | hx
    · have n3 : k ≠ 23 := fun z => h3 (by rw [z]; rfl)
      have n4 : k ≠ 24 := fun z => h4 (by rw [z]; rfl)
      have n6 : k ≠ 26 := fun z => h6 (by rw [z]; rfl)
      refine ⟨g, P, by omega, pr_call (R := cts g k) hu hM hu.2.1 ?_ fun w hw2 => ?_⟩
      · unfold fn_X11_count bl_X11_count_28
        refine yl_n h6 ?_
        rw [o0, o1]
        exact yl_e (mt_tell a4 hw hu.1 (by omega) n3 n4) (yl_ok ⟨rfl, hu.1, fr_refl⟩)
      · unfold fn_X12_count bl_X12_count_47
        refine yl_n h3 (yl_n h4 (yl_n h6 ?_))
        refine yl_b (pm_counts b1 b4 (B := 0) (by omega) hw2 hw (by omega) n3 n4) fun r v hv => yl_ok ⟨hv.1, isM_L hw2 hv.2, fL_r hv.2⟩
    · refine ⟨g, P, by omega, pr_call (R := -1) hu hM hu.2.1 ?_ fun w hw2 => ?_⟩
      · unfold fn_X11_count bl_X11_count_28
        refine yl_n h6 ?_
        exact yl_e (mt_tellN hx) (yl_ok ⟨rfl, hu.1, fr_refl⟩)
      · unfold fn_X12_count bl_X12_count_47
        refine yl_n h3 (yl_n h4 (yl_n h6 ?_))
        exact yl_e (pm_countsN hx) (yl_ok ⟨rfl, hw2, fr_refl⟩)
