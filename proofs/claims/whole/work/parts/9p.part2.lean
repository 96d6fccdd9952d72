/-! the call part, the reference, both -/
theorem wd_ht {g : mp} (hw : mwf g) {a : Nat} (ha : a < mn g 0) : ∀ b, (wd (lb g) (lb g a) 16 0 0).testBit b = true ↔ b < mn g 0 ∧ lb g b = lb g a := by
  have hn := hw.1.1.2.1.2
  have la := lb_lt hw ha
  intro c
  rw [wd_tb, Nat.zero_testBit]
  constructor
  · rintro (h | ⟨_, _, h⟩)
    · cases h
    · refine ⟨?_, h⟩
      refine Classical.byContradiction fun q => ?_
      have := lb_out hw (b := c) (by omega)
      omega
  · rintro ⟨h1, h2⟩
    exact Or.inr ⟨by omega, by omega, h2⟩
theorem fL_isM {u w : tc_S} {g : mp} (h : isM u 0 g) (hf : fr fL u w) : isM w 0 g := isM_L h hf
theorem pm_part {G : tc_G} (hG : gm G) (h4 : gm4 G) {u : tc_S} {a k : Nat} {g : mp} (hM : isM u 0 g) (hw : mwf g) (ha : a < mn g 0) (hk : k ≤ 4) : y2 (fn_X12_part G 71 (nI a) (nI k) u) (fun r w => r = pans g a (wd (lb g) (lb g a) 16 0 0) (nI k) ∧ isM w 0 g ∧ fr fMr u w) := by
  have hfu := tc_fu_big
  have aa := hw.1.1
  have hn := aa.2.1.2
  have z0 : ∀ {β : Type} (kk : Int32 → Option β), tc_ld G u 72 0 kk = kk (g 0) := fun kk => isM_ld hG (B := 0) (k := 0) hM (by omega) (by omega)
  unfold fn_X12_part
  rw [hG.1.1, z0, aa.1 0 (by omega), show nI (mn g 0) - 1 = nI (mn g 0 - 1) from pk_sub (b := 1) (by omega)]
  have i1 : ∀ w, fn_X12_isIn G (nI a) 0 (nI (mn g 0 - 1)) w = some (1, w) := by
    rcases pm_isInB (G := G) (nI a) 0 (mn g 0 - 1) (by omega) (by omega) with ⟨c1, c2⟩ | ⟨q, q1, q2, q3, q4⟩
    · exfalso
      rcases c1 with c | c
      · exact nI_pos (by omega) c
      · have := (nI_ltI (by omega) (by omega)).mp c
        omega
    · exact q4
  have i2 : ∀ w, fn_X12_isIn G (nI k) 0 4 w = some (1, w) := by
    rcases pm_isInB (G := G) (nI k) 0 4 (by omega) (by omega) with ⟨c1, c2⟩ | ⟨q, q1, q2, q3, q4⟩
    · exfalso
      rcases c1 with c | c
      · exact nI_pos (by omega) c
      · have := (nI_ltI (by omega) (by omega)).mp c
        omega
    · exact q4
  refine yl_e (i1 u) (yl_n i_n1 (yl_e (i2 u) (yl_n i_n1 ?_)))
  refine yl_b (pm_partOf hG h4 hM hw ha) fun r w hr => ?_
  obtain ⟨⟨M, M0, M1, M2⟩, hl, hf⟩ := hr
  have hM2 : isM w 0 g := isM_L hM hf
  have hwd := wd_part hw ha M2
  rw [M1]
  refine yl_e (pm_members hG h4 hM2 hw hl M0 M2) (yl_e (pm_bits hw M0 M2) ?_)
  rw [bct_bkn hn M2, hwd]
  have z1 : ∀ {β : Type} (kk : Int32 → Option β), tc_ld G w 72 1 kk = kk (g 1) := fun kk => isM_ld hG (B := 0) (k := 1) hM2 (by omega) (by omega)
  have fin : ∀ {x y : Int32}, x = y → (x = y ∧ isM w 0 g ∧ fr fMr u w) := fun e => ⟨e, hM2, fL_r hf⟩
  rcases (show k = 0 ∨ k = 1 ∨ k = 2 ∨ k = 3 ∨ k = 4 by omega) with rfl | rfl | rfl | rfl | rfl
  · exact yl_p rfl (yl_ok (fin rfl))
  · exact yl_n (by decide) (yl_p rfl (yl_ok (fin rfl)))
  · refine yl_n (by decide) (yl_n (by decide) (yl_p rfl ?_))
    rw [z1]
    exact yl_ok (fin rfl)
  · refine yl_n (by decide) (yl_n (by decide) (yl_n (by decide) (yl_p rfl ?_)))
    unfold bl_X12_part_103
    have e : pans g a M (nI 3) = (if nI (bkn (mn g 0) (lb g) (lb g a)) ≤ nI (mmn (lb g) (lb g a) (edg g)) then (if nI (mmn (lb g) (lb g a) (edg g)) = nI (bkn (mn g 0) (lb g) (lb g a)) then 1 else 2) else 0) := rfl
    rw [e]
    refine yl_if (fun c => ?_) (fun c => ?_)
    · rw [if_pos c]
      refine yl_if (fun d => ?_) (fun d => ?_)
      · rw [if_pos d]
        exact yl_ok (fin rfl)
      · rw [if_neg d]
        exact yl_ok (fin rfl)
    · rw [if_neg c]
      exact yl_ok (fin rfl)
  · refine yl_n (by decide) (yl_n (by decide) (yl_n (by decide) (yl_n (by decide) ?_)))
    exact ⟨_, pm_part110 hG (k5 := bkn (mn g 0) (lb g) (lb g a)) hM2 hw M0 M2 (mn g 0) 0 tc_fu 0 (by omega) (by omega), fin rfl⟩
theorem c_part {G : tc_G} (hA : gA G) (hP : gP G) {L : tc_L} {u : tc_S} {P : Nat} {g : mp} (x y : Int32) (hu : cC u P g) (hM : isM u 0 g) : ∃ g2 P2, P2 ≤ P + 12 ∧ yl (tc_b (fn_X11_part G 0 x y u) fun r1 u1 => tc_b (fn_X12_part G 71 x y u1) fun r2 u2 => if r1 = r2 then some (L, u2) else none) (pqq L u P2 g2) := by
  have hA0 := hA
  obtain ⟨⟨o0, o1, o2, o3, o4, o5, o6, o7, o8, o9, o10⟩, ⟨a1, a2, a3⟩, ⟨a4, a5, a6, a7⟩, b1, b2, b3, b4⟩ := hA
  have hw := hu.2.1.1
  have aa := hw.1.1
  have hn := aa.2.1
  refine ⟨g, P, by omega, ?_⟩
  have z0 : ∀ w, isM w 0 g → ∀ {β : Type} (kk : Int32 → Option β), tc_ld G w 72 0 kk = kk (g 0) := fun w hw2 β kk => isM_ld b1 (B := 0) (k := 0) hw2 (by omega) (by omega)
  have sub : nI (mn g 0) - 1 = nI (mn g 0 - 1) := pk_sub (b := 1) (by omega)
  rcases pm_isInB (G := G) x 0 (mn g 0 - 1) (by omega) (by omega) with ⟨c1, c2⟩ | ⟨a, q1, q2, q3, q4⟩
  · refine pr_call (R := -1) hu hM hu.2.1 ?_ fun w hw2 => ?_
    · unfold fn_X11_part bl_X11_part_23
      refine yl_if (fun _ => yl_ok ⟨rfl, hu.1, fr_refl⟩) (fun c => ?_)
      rw [o0, o1, a4.1.1, mt_set hu.1 (by omega), aa.1 0 (by omega)]
      refine yl_n (fun d => ?_) (yl_ok ⟨rfl, hu.1, fr_refl⟩)
      rcases c1 with c1 | c1
      · exact c c1
      · obtain ⟨j, hj, rfl⟩ := nI_of c
        have e1 := (nI_ltI (by omega) hj).mp c1
        have e2 := (nI_ltI hj (by omega)).mp d
        omega
    · unfold fn_X12_part bl_X12_part_25
      rw [b1.1.1, z0 w hw2, aa.1 0 (by omega), sub]
      exact yl_e (c2 w) (yl_p rfl (yl_ok ⟨rfl, hw2, fr_refl⟩))
  · subst q3
    have ha : a < mn g 0 := by omega
    rcases pm_isInB (G := G) y 0 4 (by omega) (by omega) with ⟨c1, c2⟩ | ⟨k, k1, k2, k3, k4⟩
    · refine pr_call (R := -1) hu hM hu.2.1 ?_ fun w hw2 => ?_
      · refine yl_m (mt_part hA0 hP y hu ha (wd_ht hw ha)) fun r hr => ⟨?_, hr.2⟩
        rw [hr.1]
        have := isIn_out (a := 0) (b := 4) (by omega) (by omega) c1
        unfold pans
        repeat rw [if_neg (by omega)]
      · unfold fn_X12_part bl_X12_part_25
        rw [b1.1.1, z0 w hw2, aa.1 0 (by omega), sub]
        exact yl_e (q4 w) (yl_n i_n1 (yl_e (c2 w) (yl_p rfl (yl_ok ⟨rfl, hw2, fr_refl⟩))))
    · subst k3
      exact pr_call (R := pans g a (wd (lb g) (lb g a) 16 0 0) (nI k)) hu hM hu.2.1 (mt_part hA0 hP (nI k) hu ha (wd_ht hw ha)) fun w hw2 => pm_part b1 b4 hw2 hw ha k2
