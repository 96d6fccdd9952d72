/-! calls: at, filled -/
theorem ti {x : Int32} {k : Nat} (hk : k < 2 ^ 31) (h : x.toInt = (k : Int)) : x = nI k := Int32.toInt_inj.mp (by rw [h, nI_toInt hk])
theorem mt_other {G : tc_G} {u : tc_S} {t i b : Nat} {g : mp} (hT : gT G t 64) (hw : mwf g) (h : mt u t g) (hv : vc g i) (h0 : ck g i ≠ 0) (hb : b < 2 ^ 31) : fn_X9_otherOf G t (nI (fx g i)) (nI b) u = some (if mhash g 0 (ck g i - 1) = mhash g 1 (ck g i - 1) then -1 else if b = mhash g 0 (ck g i - 1) then nI (mhash g 1 (ck g i - 1)) else nI (mhash g 0 (ck g i - 1)), u) := by
  have a := hw.1.1
  have lx := fx_lt a hv
  have hn := a.2.1.2
  have l0 := wA_hash a 0 (ck g i - 1)
  have l1 := wA_hash a 1 (ck g i - 1)
  obtain ⟨e4, e5, e6, e7, e8, e9⟩ := mt_key hw h hv h0
  unfold fn_X9_otherOf bl_X9_otherOf_42
  rw [hT.2.1.2.2.2.2.1, hT.2.1.2.2.2.2.2.1, pu_ld (hT.2.2.2 _ (by omega) (by omega)) (show fx g i < 64 + 5 by omega) (by omega), pu_ld (hT.2.2.2 _ (by omega) (by omega)) (show fx g i < 64 + 5 by omega) (by omega), e8, e9, pu_eq (by omega) (by omega)]
  by_cases c : mhash g 0 (ck g i - 1) = mhash g 1 (ck g i - 1)
  · rw [if_pos c, if_pos c]
  · rw [if_neg c, if_neg c, pu_ld (hT.2.2.2 _ (by omega) (by omega)) (show fx g i < 64 + 5 by omega) (by omega), e8, pu_eq (by omega) (by omega)]
    by_cases d : mhash g 0 (ck g i - 1) = b
    · rw [if_pos d, if_pos d.symm, pu_ld (hT.2.2.2 _ (by omega) (by omega)) (show fx g i < 64 + 5 by omega) (by omega), e9]
    · rw [if_neg d, if_neg (fun w => d w.symm), pu_ld (hT.2.2.2 _ (by omega) (by omega)) (show fx g i < 64 + 5 by omega) (by omega), e8]
/-- the cell that a bucket's number and a place name -/
theorem at_cell {G : tc_G} (hA : gA G) {u : tc_S} {P : Nat} {g : mp} (x y : Int32) (hu : cC u P g) : (fn_X9_indexOf G 2 x y u = some (-1, u) ∧ ∀ z w, isM w 0 g → fn_X12_at G 71 x y z w = some (-1, w)) ∨ ∃ i b, vc g i ∧ i < 68 ∧ fn_X9_indexOf G 2 x y u = some (nI (fx g i), u) ∧ (∀ z w, isM w 0 g → fn_X12_at G 71 x y z w = bl_X12_at_60 G 71 x y z 1 w) ∧ (∀ w, fn_X12_cell G 0 x y w = some (nI (0 + (20 + 4 * i)), w)) ∧ (if x = 100 then b = mhash g 0 (ck g i - 1) else x = nI b ∧ b < 16) := by
  obtain ⟨⟨o0, o1, o2, o3, o4, o5, o6, o7, o8, o9, o10⟩, ⟨a1, a2, a3⟩, ⟨a4, a5, a6, a7⟩, b1, b2, b3, b4⟩ := hA
  have hw := hu.2.1.1
  have a := hw.1.1
  have hn := a.2.1
  have hs := a.2.2.1
  have h4 : mn g 18 ≤ 4 := Nat.le_trans hw.1.2.1.2 a.2.2.2.1
  have e18 : u.1 2 10 = nI (mn g 18) := by rw [hu.1.1.2.2.2.2]; exact hw.1.2.1.1
  have ld0 : ∀ {R : Type} (w : tc_S) (k : Nat) (K : Int32 → Option R), isM w 0 g → k < 20 → tc_ld G w (tc_p G 71 0) (nI k) K = K (g k) := fun w k K hM hk => by
    rw [b1.1.1]
    have := isM_ld (q := K) b1 hM (show 0 + 292 ≤ 3253 by omega) (show k < 292 by omega)
    rw [Nat.zero_add] at this
    exact this
  have no60 : ∀ z w, bl_X12_at_60 G 71 x y z 0 w = some (-1, w) := fun z w => by
    unfold bl_X12_at_60 bl_X12_at_80
    rw [if_pos rfl]
  by_cases c100 : x = 100
  · by_cases hy : y < 0 ∨ nI (mn g 18) ≤ y
    · left
      refine ⟨?_, fun z w hM => ?_⟩
      · unfold fn_X9_indexOf bl_X9_indexOf_30
        by_cases hy0 : 0 ≤ y
        · rw [if_pos hy0, if_pos c100, e18, if_pos]
          rcases hy with q | q
          · exact absurd q (Int32.not_lt.mpr hy0)
          · exact q
        · rw [if_neg hy0]
      · unfold fn_X12_at
        rw [if_pos c100, show (18 : Int32) = nI 18 from rfl, ld0 w 18 _ hM (by omega), hw.1.2.1.1]
        have e : fn_X12_isIn G y 0 (nI (mn g 18) - 1) w = some (0, w) := by
          unfold fn_X12_isIn bl_X12_isIn_14 bl_X12_isIn_15
          by_cases q0 : y < 0
          · rw [if_pos q0]; rfl
          · rw [if_neg q0]
            obtain ⟨j, hj, rfl⟩ := nI_of q0
            have hq : mn g 18 ≤ j := by
              rcases hy with q | q
              · exact absurd q q0
              · exact (nI_leI (by omega) hj).mp q
            have : nI (mn g 18) - 1 < nI j := by
              rcases Nat.eq_zero_or_pos (mn g 18) with w | w
              · rw [w, show nI 0 - 1 = (-1 : Int32) from rfl]
                exact Int32.lt_of_lt_of_le (by decide) (nI_pos' hj)
              · rw [show nI (mn g 18) - 1 = nI (mn g 18 - 1) from pk_sub (b := 1) w]
                exact nI_lt (by omega) hj
            rw [if_pos this]; rfl
        rw [e, pu_b, no60]
    · right
      have y0 : ¬ y < 0 := fun q => hy (Or.inl q)
      obtain ⟨j, hj, rfl⟩ := nI_of y0
      have hjl : j < mn g 18 := Nat.not_le.mp fun q => hy (Or.inr (nI_le q hj))
      have efx : fx g (64 + j) = 64 + j := by unfold fx; rw [if_neg (by omega)]
      refine ⟨64 + j, mhash g 0 (ck g (64 + j) - 1), ⟨by omega, fun q => absurd q (by omega)⟩, by omega, ?_, fun z w hM => ?_, fun w => ?_, by rw [if_pos c100]⟩
      · unfold fn_X9_indexOf bl_X9_indexOf_30
        rw [if_pos (nI_pos' (by omega)), if_pos c100, e18, pu_le (by omega) (by omega), if_neg (by omega), (mt_room hu.1).1, nI_add, efx]
      · unfold fn_X12_at
        rw [if_pos c100, show (18 : Int32) = nI 18 from rfl, ld0 w 18 _ hM (by omega), hw.1.2.1.1, show nI (mn g 18) - 1 = nI (mn g 18 - 1) from pk_sub (b := 1) (by omega)]
        rcases pm_isInB (G := G) (nI j) 0 (mn g 18 - 1) (by omega) (by omega) with ⟨h1, h2⟩ | ⟨q, q1, q2, q3, q4⟩
        · rcases h1 with q | q
          · exact absurd q (nI_pos (by omega))
          · have := (nI_ltI (by omega) hj).mp q
            omega
        · have e := q4 w
          rw [show nI 0 = (0 : Int32) from rfl] at e
          rw [e, pu_b]
      · rw [c100]
        have e := pm_cellS (G := G) (u := w) (B := 0) (p := j)
        rw [msc_ci] at e
        exact e
  · by_cases hx : x < 0 ∨ nI (mn g 0) ≤ x
    · left
      refine ⟨?_, fun z w hM => ?_⟩
      · unfold fn_X9_indexOf bl_X9_indexOf_61 bl_X9_indexOf_62 bl_X9_indexOf_78
        rw [a4.1.1, mt_set hu.1 (by omega), mt_set hu.1 (by omega), a.1 0 (by omega), a.1 1 (by omega)]
        by_cases hy0 : 0 ≤ y
        · rw [if_pos hy0, if_neg c100]
          by_cases q0 : x < 0
          · rw [if_pos q0, if_pos rfl]
          · have q1 : nI (mn g 0) ≤ x := by
              rcases hx with q | q
              · exact absurd q q0
              · exact q
            rw [if_neg q0, if_pos q1, if_pos rfl]
        · rw [if_neg hy0]
      · unfold fn_X12_at bl_X12_at_59
        rw [if_neg c100, show (0 : Int32) = nI 0 from rfl, ld0 w 0 _ hM (by omega), a.1 0 (by omega), show nI (mn g 0) - 1 = nI (mn g 0 - 1) from pk_sub (b := 1) hn.1]
        rcases pm_isInB (G := G) x 0 (mn g 0 - 1) (by omega) (by omega) with ⟨h1, h2⟩ | ⟨q, q1, q2, q3, q4⟩
        · rw [h2 w, pu_b, if_pos (show (0 : Int32) = nI 0 from rfl)]
          exact no60 z w
        · exfalso
          rcases hx with w | w
          · rw [q3] at w; exact nI_pos (by omega) w
          · rw [q3] at w
            have := (nI_leI (by omega) (by omega)).mp w
            omega
    · have x0 : ¬ x < 0 := fun q => hx (Or.inl q)
      obtain ⟨b, hb, rfl⟩ := nI_of x0
      have hbl : b < mn g 0 := Nat.not_le.mp fun q => hx (Or.inr (nI_le q hb))
      have inb : ∀ w, fn_X12_isIn G (nI b) 0 (nI (mn g 0) - 1) w = some (1, w) := fun w => by
        rw [show nI (mn g 0) - 1 = nI (mn g 0 - 1) from pk_sub (b := 1) hn.1]
        rcases pm_isInB (G := G) (nI b) 0 (mn g 0 - 1) (by omega) (by omega) with ⟨h1, h2⟩ | ⟨q, q1, q2, q3, q4⟩
        · rcases h1 with q | q
          · exact absurd q (nI_pos (by omega))
          · have := (nI_ltI (by omega) hb).mp q
            omega
        · exact q4 w
      by_cases hy : y < 0 ∨ nI (mn g 1) ≤ y
      · left
        refine ⟨?_, fun z w hM => ?_⟩
        · unfold fn_X9_indexOf bl_X9_indexOf_61 bl_X9_indexOf_62 bl_X9_indexOf_78
          rw [a4.1.1, mt_set hu.1 (by omega), mt_set hu.1 (by omega), a.1 0 (by omega), a.1 1 (by omega)]
          by_cases hy0 : 0 ≤ y
          · have q1 : nI (mn g 1) ≤ y := by
              rcases hy with q | q
              · exact absurd q (Int32.not_lt.mpr hy0)
              · exact q
            rw [if_pos hy0, if_neg c100, if_neg x0, pu_le (by omega) (by omega), if_neg (by omega), if_pos q1, if_pos rfl]
          · rw [if_neg hy0]
        · unfold fn_X12_at bl_X12_at_59
          rw [if_neg c100]
          have e := ld0 (R := Int32 × tc_S) w 0 (fun x36 => tc_b (fn_X12_isIn G (nI b) 0 (x36 - 1) w) fun x37 u38 => if x37 = 0 then bl_X12_at_60 G 71 (nI b) y z 0 u38 else tc_ld G u38 (tc_p G 71 0) 1 fun x41 => tc_b (fn_X12_isIn G y 0 (x41 - 1) u38) fun x42 u43 => if x42 = 0 then bl_X12_at_60 G 71 (nI b) y z 0 u43 else bl_X12_at_60 G 71 (nI b) y z 1 u43) hM (by omega)
          refine Eq.trans e ?_
          rw [a.1 0 (by omega), inb w, pu_b, if_neg i_n1]
          have e1 := ld0 (R := Int32 × tc_S) w 1 (fun x41 => tc_b (fn_X12_isIn G y 0 (x41 - 1) w) fun x42 u43 => if x42 = 0 then bl_X12_at_60 G 71 (nI b) y z 0 u43 else bl_X12_at_60 G 71 (nI b) y z 1 u43) hM (by omega)
          refine Eq.trans e1 ?_
          rw [a.1 1 (by omega), show nI (mn g 1) - 1 = nI (mn g 1 - 1) from pk_sub (b := 1) hs.1]
          rcases pm_isInB (G := G) y 0 (mn g 1 - 1) (by omega) (by omega) with ⟨h1, h2⟩ | ⟨q, q1, q2, q3, q4⟩
          · have e2 := h2 w
            rw [show nI 0 = (0 : Int32) from rfl] at e2
            rw [e2, pu_b, if_pos rfl]
            exact no60 z w
          · exfalso
            rcases hy with w | w
            · rw [q3] at w; exact nI_pos (by omega) w
            · rw [q3] at w
              have := (nI_leI (by omega) (by omega)).mp w
              omega
      · right
        have y0 : ¬ y < 0 := fun q => hy (Or.inl q)
        obtain ⟨p, hp, rfl⟩ := nI_of y0
        have hpl : p < mn g 1 := Nat.not_le.mp fun q => hy (Or.inr (nI_le q hp))
        refine ⟨4 * b + p, b, ⟨by omega, fun _ => ⟨by omega, by omega⟩⟩, by omega, ?_, fun z w hM => ?_, fun w => ?_, by rw [if_neg c100]; exact ⟨rfl, by omega⟩⟩
        · unfold fn_X9_indexOf bl_X9_indexOf_61 bl_X9_indexOf_62 bl_X9_indexOf_78 fn_X9_startOf
          rw [a4.1.1, mt_set hu.1 (by omega), mt_set hu.1 (by omega), a.1 0 (by omega), a.1 1 (by omega), if_pos (nI_pos' (by omega)), if_neg c100, if_neg x0, pu_le (by omega) (by omega), if_neg (by omega), pu_le (by omega) (by omega), if_neg (by omega), if_neg i_n1, pu_b, pk_mul, nI_add, fx_b (by omega) (by omega)]
        · unfold fn_X12_at bl_X12_at_59
          rw [if_neg c100]
          have e := ld0 (R := Int32 × tc_S) w 0 (fun x36 => tc_b (fn_X12_isIn G (nI b) 0 (x36 - 1) w) fun x37 u38 => if x37 = 0 then bl_X12_at_60 G 71 (nI b) (nI p) z 0 u38 else tc_ld G u38 (tc_p G 71 0) 1 fun x41 => tc_b (fn_X12_isIn G (nI p) 0 (x41 - 1) u38) fun x42 u43 => if x42 = 0 then bl_X12_at_60 G 71 (nI b) (nI p) z 0 u43 else bl_X12_at_60 G 71 (nI b) (nI p) z 1 u43) hM (by omega)
          refine Eq.trans e ?_
          rw [a.1 0 (by omega), inb w, pu_b, if_neg i_n1]
          have e1 := ld0 (R := Int32 × tc_S) w 1 (fun x41 => tc_b (fn_X12_isIn G (nI p) 0 (x41 - 1) w) fun x42 u43 => if x42 = 0 then bl_X12_at_60 G 71 (nI b) (nI p) z 0 u43 else bl_X12_at_60 G 71 (nI b) (nI p) z 1 u43) hM (by omega)
          refine Eq.trans e1 ?_
          rw [a.1 1 (by omega), show nI (mn g 1) - 1 = nI (mn g 1 - 1) from pk_sub (b := 1) hs.1]
          rcases pm_isInB (G := G) (nI p) 0 (mn g 1 - 1) (by omega) (by omega) with ⟨h1, h2⟩ | ⟨q, q1, q2, q3, q4⟩
          · rcases h1 with q | q
            · exact absurd q (nI_pos (by omega))
            · have := (nI_ltI (by omega) hp).mp q
              omega
          · have e2 := q4 w
            rw [show nI 0 = (0 : Int32) from rfl] at e2
            rw [e2, pu_b, if_neg i_n1]
        · have e := pm_cell (G := G) (u := w) (B := 0) (b := b) (p := p) (by omega)
          rw [mcell_ci] at e
          exact e
/-- at -/
theorem c_at {G : tc_G} (hA : gA G) {L : tc_L} {u : tc_S} {P : Nat} {g : mp} (x y z : Int32) (hu : cC u P g) (hM : isM u 0 g) : ∃ g2 P2, P2 ≤ P + 12 ∧ yl (tc_b (fn_X11_at G 0 x y z u) fun r1 u1 => tc_b (fn_X12_at G 71 x y z u1) fun r2 u2 => if r1 = r2 then some (L, u2) else none) (pqq L u P2 g2) := by
  have hac := at_cell hA x y hu
  obtain ⟨⟨o0, o1, o2, o3, o4, o5, o6, o7, o8, o9, o10⟩, ⟨a1, a2, a3⟩, ⟨a4, a5, a6, a7⟩, b1, b2, b3, b4⟩ := hA
  have hw := hu.2.1.1
  have a := hw.1.1
  have hk := mwf_ok hw
  rcases hac with ⟨n1, n2⟩ | ⟨i, b, v1, v2, v3, v4, v5, v6⟩
  · refine ⟨g, P, by omega, pr_call (R := -1) hu hM hu.2.1 ?_ fun w hM2 => ?_⟩
    · unfold fn_X11_at bl_X11_at_34
      rw [o0, o1]
      exact yl_e n1 (yl_p (by decide) (yl_ok ⟨rfl, hu.1, fr_refl⟩))
    · rw [n2 z w hM2]
      exact yl_ok ⟨rfl, hM2, fr_refl⟩
  · have lx := fx_lt a v1
    have hc := hw.1.2.2.1 i (by omega)
    have pl1 := (mt_place hw hu.1 v1).1
    by_cases h0 : ck g i = 0
    · refine ⟨g, P, by omega, pr_call (R := -1) hu hM hu.2.1 ?_ fun w hM2 => ?_⟩
      · unfold fn_X11_at bl_X11_at_34
        rw [o0, o1]
        refine yl_e v3 (yl_n (nI_pos (by omega)) ?_)
        rw [a4.2.1.1]
        refine yl_ld 69 (a4.2.2.2 _ (by omega) (by omega)) (by omega) (by omega) ?_
        exact yl_n (Int32.not_le.mpr (pl1.mpr h0)) (yl_ok ⟨rfl, hu.1, fr_refl⟩)
      · rw [v4 z w hM2]
        unfold bl_X12_at_60 bl_X12_at_80
        refine yl_n i_n1 (yl_e (v5 w) ?_)
        refine yl_e (pm_isEntry b1 (by omega) (by rw [hM2 _ (by omega)]; exact hc.1) (by omega)) ?_
        rw [hM2 _ (by omega), hc.1, h0, if_pos (show nI 0 = 0 from rfl)]
        exact yl_p rfl (yl_ok ⟨rfl, hM2, fr_refl⟩)
    · obtain ⟨e4, e5, e6, e7, e8, e9⟩ := mt_key hw hu.1 v1 h0
      have hot : mn g 0 ≤ 16 := a.2.1.2
      have hb16 : b < 2 ^ 31 := by
        split at v6
        · have := wA_hash a 0 (ck g i - 1); omega
        · omega
      have go : ∀ R : Int32, (y2 (if z.toInt = 0 then (tc_ld G u 6 (nI (fx g i)) fun x11 => some (x11, u)) else if z.toInt = 1 then (tc_ld G u 7 (nI (fx g i)) fun x13 => some (x13, u)) else if z.toInt = 2 then (tc_ld G u 8 (nI (fx g i)) fun x15 => some (x15, u)) else if z.toInt = 3 then (tc_ld G u 9 (nI (fx g i)) fun x17 => some (x17, u)) else if z.toInt = 4 then (if x = 100 then (tc_ld G u 10 (nI (fx g i)) fun x20 => bl_X11_at_130 G 2 (nI (fx g i)) x20 u) else (bl_X11_at_130 G 2 (nI (fx g i)) x u)) else (some ((-1), u))) (fun r w => r = R ∧ mt w 2 g ∧ fr fMc u w)) → (∀ w, isM w 0 g → y2 (if z = 0 then (tc_b (fn_X12_keyOf G 71 (nI (0 + (20 + 4 * i))) w) fun x32 u33 => some (x32, u33)) else (if z = 4 then (tc_b (fn_X12_keyOf G 71 (nI (0 + (20 + 4 * i))) w) fun x22 u23 => if x = 100 then (tc_b (fn_X12_keyOf G 71 (nI (0 + (20 + 4 * i))) u23) fun x26 u27 => tc_b (fn_X12_hashOf G 71 0 x26 0 u27) fun x29 u30 => bl_X12_at_136 G 71 0 x22 x29 u30) else (bl_X12_at_136 G 71 0 x22 x u23)) else (tc_b (fn_X12_isIn G z 1 3 w) fun x17 u18 => if x17 = 0 then (bl_X12_at_162 G (-1) u18) else (tc_ld G u18 (tc_p G 71 0) (nI (0 + (20 + 4 * i)) + z) fun x21 => bl_X12_at_162 G x21 u18)))) (fun r v => r = R ∧ isM v 0 g ∧ fr fMr w v)) → ∃ g2 P2, P2 ≤ P + 12 ∧ yl (tc_b (fn_X11_at G 0 x y z u) fun r1 u1 => tc_b (fn_X12_at G 71 x y z u1) fun r2 u2 => if r1 = r2 then some (L, u2) else none) (pqq L u P2 g2) := by
        intro R h1 h2
        refine ⟨g, P, by omega, pr_call (R := R) hu hM hu.2.1 ?_ fun w hM2 => ?_⟩
        · unfold fn_X11_at
          rw [o0, o1]
          refine yl_e v3 (yl_n (nI_pos (by omega)) ?_)
          rw [a4.2.1.1, a4.2.1.2.1, a4.2.1.2.2.1, a4.2.1.2.2.2.1, a4.2.1.2.2.2.2.1]
          refine yl_ld 69 (a4.2.2.2 _ (by omega) (by omega)) (by omega) (by omega) ?_
          exact yl_p (Int32.not_lt.mp fun q => h0 (pl1.mp q)) h1
        · rw [v4 z w hM2]
          unfold bl_X12_at_60
          refine yl_n i_n1 (yl_e (v5 w) ?_)
          refine yl_e (pm_isEntry b1 (by omega) (by rw [hM2 _ (by omega)]; exact hc.1) (by omega)) ?_
          rw [hM2 _ (by omega), hc.1, if_neg (nI_ne0 (by omega) (by omega))]
          refine yl_n i_n1 (yl_e (v5 w) ?_)
          exact h2 w hM2
      have kof : ∀ w, isM w 0 g → fn_X12_keyOf G 71 (nI (0 + (20 + 4 * i))) w = some (nI (ck g i - 1), w) := fun w hM2 => by
        rw [pm_keyOf b1 (by omega), hM2 _ (by omega), hc.1]
        obtain ⟨s, hs⟩ : ∃ s, ck g i = s + 1 := ⟨ck g i - 1, by omega⟩
        rw [hs, nI_pred]
        rfl
      have rd3 : ∀ k, 1 ≤ k → k ≤ 3 → z = nI k → ∀ w, isM w 0 g → y2 (if z = 0 then (tc_b (fn_X12_keyOf G 71 (nI (0 + (20 + 4 * i))) w) fun x32 u33 => some (x32, u33)) else (if z = 4 then (tc_b (fn_X12_keyOf G 71 (nI (0 + (20 + 4 * i))) w) fun x22 u23 => if x = 100 then (tc_b (fn_X12_keyOf G 71 (nI (0 + (20 + 4 * i))) u23) fun x26 u27 => tc_b (fn_X12_hashOf G 71 0 x26 0 u27) fun x29 u30 => bl_X12_at_136 G 71 0 x22 x29 u30) else (bl_X12_at_136 G 71 0 x22 x u23)) else (tc_b (fn_X12_isIn G z 1 3 w) fun x17 u18 => if x17 = 0 then (bl_X12_at_162 G (-1) u18) else (tc_ld G u18 (tc_p G 71 0) (nI (0 + (20 + 4 * i)) + z) fun x21 => bl_X12_at_162 G x21 u18)))) (fun r v => r = g (20 + 4 * i + k) ∧ isM v 0 g ∧ fr fMr w v) := by
        intro k k1 k3 ez w hM2
        have z0 : ¬ z = 0 := by rw [ez]; exact nI_ne0 (by omega) (by omega)
        have z4 : ¬ z = 4 := by
          rw [ez, show (4 : Int32) = nI 4 from rfl, nI_eq (by omega) (by omega)]
          omega
        refine yl_n z0 (yl_n z4 ?_)
        rcases pm_isInB (G := G) z 1 3 (by omega) (by omega) with ⟨h1, h2⟩ | ⟨q, q1, q2, q3, q4⟩
        · exfalso
          rw [ez] at h1
          rcases h1 with q | q
          · exact nI_nlt k1 (by omega) q
          · exact nI_nlt k3 (by omega) q
        · refine yl_e (q4 w) (yl_n i_n1 ?_)
          rw [ez, nI_add, b1.1.1, show 0 + (20 + 4 * i) + k = 0 + (20 + 4 * i + k) by omega, isM_ld b1 hM2 (by omega) (by omega)]
          exact yl_ok ⟨rfl, hM2, fr_refl⟩
      by_cases z0 : z.toInt = 0
      · have ez : z = 0 := ti (k := 0) (by omega) z0
        refine go (nI (ck g i - 1)) ?_ fun w hM2 => ?_
        · refine yl_p z0 (yl_ld 69 (a4.2.2.2 _ (by omega) (by omega)) (by omega) (by omega) (yl_ok ⟨e4, hu.1, fr_refl⟩))
        · exact yl_p ez (yl_e (kof w hM2) (yl_ok ⟨rfl, hM2, fr_refl⟩))
      · by_cases z1 : z.toInt = 1
        · have ez : z = nI 1 := ti (k := 1) (by omega) z1
          refine go (g (20 + 4 * i + 1)) ?_ (rd3 1 (by omega) (by omega) ez)
          refine yl_n z0 (yl_p z1 (yl_ld 69 (a4.2.2.2 _ (by omega) (by omega)) (by omega) (by omega) (yl_ok ⟨e5.trans ?_, hu.1, fr_refl⟩)))
          show g (21 + 4 * i) = g (20 + 4 * i + 1)
          congr 1; omega
        · by_cases z2 : z.toInt = 2
          · have ez : z = nI 2 := ti (k := 2) (by omega) z2
            refine go (g (20 + 4 * i + 2)) ?_ (rd3 2 (by omega) (by omega) ez)
            refine yl_n z0 (yl_n z1 (yl_p z2 (yl_ld 69 (a4.2.2.2 _ (by omega) (by omega)) (by omega) (by omega) (yl_ok ⟨e6.trans ?_, hu.1, fr_refl⟩))))
            show g (22 + 4 * i) = g (20 + 4 * i + 2)
            congr 1; omega
          · by_cases z3 : z.toInt = 3
            · have ez : z = nI 3 := ti (k := 3) (by omega) z3
              refine go (g (20 + 4 * i + 3)) ?_ (rd3 3 (by omega) (by omega) ez)
              refine yl_n z0 (yl_n z1 (yl_n z2 (yl_p z3 (yl_ld 69 (a4.2.2.2 _ (by omega) (by omega)) (by omega) (by omega) (yl_ok ⟨e7.trans ?_, hu.1, fr_refl⟩)))))
              show g (23 + 4 * i) = g (20 + 4 * i + 3)
              congr 1; omega
            · by_cases z4 : z.toInt = 4
              · have ez : z = 4 := ti (k := 4) (by omega) z4
                have ez0 : ¬ z = 0 := by rw [ez]; decide
                refine go (if mhash g 0 (ck g i - 1) = mhash g 1 (ck g i - 1) then -1 else if b = mhash g 0 (ck g i - 1) then nI (mhash g 1 (ck g i - 1)) else nI (mhash g 0 (ck g i - 1))) ?_ fun w hM2 => ?_
                · refine yl_n z0 (yl_n z1 (yl_n z2 (yl_n z3 (yl_p z4 ?_))))
                  unfold bl_X11_at_130
                  by_cases c : x = 100
                  · rw [if_pos c] at v6
                    refine yl_p c (yl_ld 69 (a4.2.2.2 _ (by omega) (by omega)) (by omega) (by omega) ?_)
                    have e8' : u.1 10 (fx g i) = nI b := by rw [v6]; exact e8
                    rw [e8']
                    exact yl_e (mt_other a4 hw hu.1 v1 h0 hb16) (yl_ok ⟨rfl, hu.1, fr_refl⟩)
                  · rw [if_neg c] at v6
                    refine yl_n c ?_
                    rw [v6.1]
                    exact yl_e (mt_other a4 hw hu.1 v1 h0 hb16) (yl_ok ⟨rfl, hu.1, fr_refl⟩)
                · refine yl_n ez0 (yl_p ez (yl_e (kof w hM2) ?_))
                  unfold bl_X12_at_136
                  by_cases c : x = 100
                  · rw [if_pos c] at v6
                    refine yl_p c (yl_e (kof w hM2) ?_)
                    have eh : fn_X12_hashOf G 71 (nI 0) (nI (ck g i - 1)) (nI 0) w = some (nI b, w) := by
                      rw [v6]
                      exact pm_hash b1 (B := 0) (w := 0) (by omega) hM2 hk (by omega) (by omega)
                    refine yl_e eh ?_
                    exact yl_e (pm_other b1 (B := 0) (by omega) hM2 hk (by omega) hb16) (yl_ok ⟨rfl, hM2, fr_refl⟩)
                  · rw [if_neg c] at v6
                    refine yl_n c ?_
                    rw [v6.1]
                    exact yl_e (pm_other b1 (B := 0) (by omega) hM2 hk (by omega) hb16) (yl_ok ⟨rfl, hM2, fr_refl⟩)
              · refine go (-1) ?_ fun w hM2 => ?_
                · exact yl_n z0 (yl_n z1 (yl_n z2 (yl_n z3 (yl_n z4 (yl_ok ⟨rfl, hu.1, fr_refl⟩)))))
                · have ez0 : ¬ z = 0 := fun q => z0 (by rw [q]; rfl)
                  have ez4 : ¬ z = 4 := fun q => z4 (by rw [q]; rfl)
                  refine yl_n ez0 (yl_n ez4 ?_)
                  rcases pm_isInB (G := G) z 1 3 (by omega) (by omega) with ⟨h1, h2⟩ | ⟨q, q1, q2, q3, q4⟩
                  · exact yl_e (h2 w) (yl_p rfl (yl_ok ⟨rfl, hM2, fr_refl⟩))
                  · exfalso
                    have := nI_toInt (n := q) (by omega)
                    rw [← q3] at this
                    omega
/-- filled -/
theorem mt_inb {u : tc_S} {t b : Nat} {g : mp} (h : mt u t g) (hb : b < mn g 0) : u.1 (t + 3) b = nI (minb g b) := by
  rw [h.2.2 b hb]
  unfold cnt minb
  congr 1
  have : ∀ (n p : Nat), p + n ≤ mn g 1 → cf (fun i => decide (¬ (fc g i).1 = 0)) n (b * mn g 1 + p) = cf (fun p => decide (¬ g (mcell b p) = 0)) n p := by
    intro n
    induction n with
    | zero => intro p _; rfl
    | succ n ih =>
      intro p hp
      rw [cf, cf, show b * mn g 1 + p + 1 = b * mn g 1 + (p + 1) by omega, ih (p + 1) (by omega), fc_b hb (by omega), mcell_ci]
      rfl
  exact this (mn g 1) 0 (by omega)
