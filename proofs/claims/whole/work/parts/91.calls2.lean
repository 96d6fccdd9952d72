/-! calls: rehash, hash, would, which, chain -/
theorem pm_isInB {G : tc_G} (x : Int32) (a b : Nat) (hb : b < 2 ^ 31) (hab : a ≤ b) : ((x < nI a ∨ nI b < x) ∧ ∀ w, fn_X12_isIn G x (nI a) (nI b) w = some (0, w)) ∨ ∃ q, a ≤ q ∧ q ≤ b ∧ x = nI q ∧ ∀ w, fn_X12_isIn G x (nI a) (nI b) w = some (1, w) := by
  unfold fn_X12_isIn bl_X12_isIn_14 bl_X12_isIn_15
  by_cases h1 : x < nI a
  · exact Or.inl ⟨Or.inl h1, fun w => by rw [if_pos h1]; rfl⟩
  · by_cases h2 : nI b < x
    · exact Or.inl ⟨Or.inr h2, fun w => by rw [if_neg h1, if_pos h2]; rfl⟩
    · have h3 : ¬ x < 0 := fun q => h1 (Int32.lt_of_lt_of_le q (nI_pos' (by omega)))
      obtain ⟨j, hj, rfl⟩ := nI_of h3
      have h4 : a ≤ j := by
        rcases Nat.lt_or_ge j a with q | q
        · exact absurd (nI_lt q (by omega)) h1
        · exact q
      have h5 : j ≤ b := by
        rcases Nat.lt_or_ge b j with q | q
        · exact absurd (nI_lt q hj) h2
        · exact q
      exact Or.inr ⟨j, h4, h5, rfl, fun w => by rw [if_neg h1, if_neg h2]; rfl⟩
theorem pc_areH {G : tc_G} {u : tc_S} (x y : Int32) : (fn_X11_areHashes G x y u = some (0, u) ∧ ((∀ w, fn_X12_isIn G x 1 1008 w = some (0, w)) ∨ ((∀ w, fn_X12_isIn G x 1 1008 w = some (1, w)) ∧ ∀ w, fn_X12_isIn G y 0 1008 w = some (0, w)))) ∨ ∃ p q, p ≤ 1008 ∧ q ≤ 1008 ∧ x = nI p ∧ y = nI q ∧ fn_X11_areHashes G x y u = some (1, u) ∧ (∀ w, fn_X12_isIn G x 1 1008 w = some (1, w)) ∧ ∀ w, fn_X12_isIn G y 0 1008 w = some (1, w) := by
  unfold fn_X11_areHashes bl_X11_areHashes_27 bl_X11_areHashes_28
  rcases pm_isInB (G := G) x 1 1008 (by omega) (by omega) with ⟨h1, h2⟩ | ⟨p, p1, p2, p3, p4⟩
  · left
    refine ⟨?_, Or.inl h2⟩
    by_cases c : x < 1
    · rw [if_pos c]; rfl
    · have h3 : nI 1008 < x := by
        rcases h1 with q | q
        · exact absurd q c
        · exact q
      have h4 : (1009 : Int32) ≤ x := by
        have h5 : ¬ x < 0 := fun q => c (Int32.lt_trans q (by decide))
        obtain ⟨j, hj, rfl⟩ := nI_of h5
        have := (nI_ltI (a := 1008) (b := j) (by omega) hj).mp h3
        exact nI_le (a := 1009) (by omega) hj
      rw [if_neg c, if_pos h4]; rfl
  · have c1 : ¬ x < 1 := by rw [p3]; exact nI_nlt (b := 1) p1 (by omega)
    have c2 : ¬ (1009 : Int32) ≤ x := by rw [p3]; exact nI_ge (b := 1009) (by omega) (by omega)
    rw [if_neg c1, if_neg c2]
    rcases pm_isInB (G := G) y 0 1008 (by omega) (by omega) with ⟨h1, h2⟩ | ⟨q, q1, q2, q3, q4⟩
    · left
      refine ⟨?_, Or.inr ⟨p4, h2⟩⟩
      by_cases c : y < 0
      · rw [if_pos c]; rfl
      · have h3 : nI 1008 < y := by
          rcases h1 with q | q
          · exact absurd q c
          · exact q
        have h4 : (1009 : Int32) ≤ y := by
          obtain ⟨j, hj, rfl⟩ := nI_of c
          have := (nI_ltI (a := 1008) (b := j) (by omega) hj).mp h3
          exact nI_le (a := 1009) (by omega) hj
        rw [if_neg c, if_pos h4]; rfl
    · right
      have c3 : ¬ y < 0 := by rw [q3]; exact nI_pos (by omega)
      have c4 : ¬ (1009 : Int32) ≤ y := by rw [q3]; exact nI_ge (b := 1009) (by omega) (by omega)
      exact ⟨p, q, p2, q2, p3, q3, by rw [if_neg c3, if_neg c4]; rfl, p4, q4⟩
theorem c_rehash {G : tc_G} (hA : gA G) {L : tc_L} {u : tc_S} {P : Nat} {g : mp} (x y z t : Int32) (hu : cC u P g) (hM : isM u 0 g) : ∃ g2 P2, P2 ≤ P + 12 ∧ yl (tc_b (fn_X11_rehash G 0 x y z t u) fun r1 u1 => tc_b (fn_X12_rehash G 71 x y z t u1) fun r2 u2 => if r1 = r2 then some (L, u2) else none) (pqq L u P2 g2) := by
  obtain ⟨⟨o0, o1, o2, o3, o4, o5, o6, o7, o8, o9, o10⟩, ⟨a1, a2, a3⟩, ⟨a4, a5, a6, a7⟩, b1, b2, b3, b4⟩ := hA
  have bad : ∀ w, isM w 0 g → y2 (bl_X12_rehash_45 G w) (fun r v => r = 0 ∧ isM v 0 g ∧ fr fMr w v) := fun w hw => yl_z0 (yl_ok ⟨rfl, hw, fr_refl⟩)
  rcases pc_areH (G := G) (u := u) x y with ⟨n1, n2⟩ | ⟨p, q, p1, q1, p2, q2, p3, p4, p5⟩
  · refine ⟨g, P, by omega, pr_call (R := 0) hu hM hu.2.1 ?_ fun w hw => ?_⟩
    · unfold fn_X11_rehash bl_X11_rehash_43 bl_X11_rehash_44
      exact yl_e n1 (yl_p rfl (yl_z0 (yl_ok ⟨rfl, hu.1, fr_refl⟩)))
    · unfold fn_X12_rehash
      rcases n2 with n2 | ⟨n2, n3⟩
      · exact yl_e (n2 w) (yl_p rfl (bad w hw))
      · exact yl_e (n2 w) (yl_n i_n1 (yl_e (n3 w) (yl_p rfl (bad w hw))))
  · rcases pc_areH (G := G) (u := u) z t with ⟨n1, n2⟩ | ⟨c, d, c1, d1, c2, d2, c3, c4, c5⟩
    · refine ⟨g, P, by omega, pr_call (R := 0) hu hM hu.2.1 ?_ fun w hw => ?_⟩
      · unfold fn_X11_rehash bl_X11_rehash_43 bl_X11_rehash_44
        exact yl_e p3 (yl_n i_n1 (yl_e n1 (yl_p rfl (yl_z0 (yl_ok ⟨rfl, hu.1, fr_refl⟩)))))
      · unfold fn_X12_rehash
        refine yl_e (p4 w) (yl_n i_n1 (yl_e (p5 w) (yl_n i_n1 ?_)))
        rcases n2 with n2 | ⟨n2, n3⟩
        · exact yl_e (n2 w) (yl_p rfl (bad w hw))
        · exact yl_e (n2 w) (yl_n i_n1 (yl_e (n3 w) (yl_p rfl (bad w hw))))
    · refine ⟨(mrhb g (nI p) (nI q) (nI c) (nI d)).2, P, by omega, pr_call (R := if (mrhb g (nI p) (nI q) (nI c) (nI d)).1 then 1 else 0) hu hM (mrhb_ok hu.2.1 p1 q1 c1 d1) ?_ fun w hw => ?_⟩
      · unfold fn_X11_rehash bl_X11_rehash_43 bl_X11_rehash_44
        refine yl_e p3 (yl_n i_n1 (yl_e c3 (yl_n i_n1 ?_)))
        rw [o6, o0, o1, p2, q2, c2, d2]
        refine yl_b (mt_rehashBy a1 a2 a3 a4 a6 okt2 hu.2.1 hu.1 hu.2.2.2.1 p1 q1 c1 d1) fun r w hw => ?_
        obtain ⟨w1, w2, w3⟩ := hw
        rw [w1]
        cases (mrhb g (nI p) (nI q) (nI c) (nI d)).1 with
        | true => exact yl_n i_n1 (yl_z1 (yl_ok ⟨rfl, w2, fE_c2 w3⟩))
        | false => exact yl_p rfl (yl_z0 (yl_ok ⟨rfl, w2, fE_c2 w3⟩))
      · unfold fn_X12_rehash
        refine yl_e (p4 w) (yl_n i_n1 (yl_e (p5 w) (yl_n i_n1 (yl_e (c4 w) (yl_n i_n1 (yl_e (c5 w) (yl_n i_n1 ?_)))))))
        rw [p2, q2, c2, d2]
        exact yl_m (pm_rehashB b1 b2 b3 b4 hw hu.2.1 p1 q1 c1 d1) fun r hz => ⟨hz.1, hz.2.1, fP_r0 hz.2.2⟩
/-- hash -/
theorem c_hash {G : tc_G} (hA : gA G) {L : tc_L} {u : tc_S} {P : Nat} {g : mp} (x y : Int32) (hu : cC u P g) (hM : isM u 0 g) : ∃ g2 P2, P2 ≤ P + 12 ∧ yl (tc_b (fn_X11_hash G 0 x y u) fun r1 u1 => tc_b (fn_X12_hash G 71 x y u1) fun r2 u2 => if r1 = r2 then some (L, u2) else none) (pqq L u P2 g2) := by
  obtain ⟨⟨o0, o1, o2, o3, o4, o5, o6, o7, o8, o9, o10⟩, ⟨a1, a2, a3⟩, ⟨a4, a5, a6, a7⟩, b1, b2, b3, b4⟩ := hA
  have hS := wA_wS hu.2.1.1.1.1
  have hk := mwf_ok hu.2.1.1
  rcases pc_isNum (G := G) (u := u) x with ⟨n1, n2⟩ | ⟨q, q1, q2, q3, q4⟩
  · refine ⟨g, P, by omega, pr_call (R := -1) hu hM hu.2.1 ?_ fun w hw => ?_⟩
    · unfold fn_X11_hash
      exact yl_e n1 (yl_p rfl (yl_ok ⟨rfl, hu.1, fr_refl⟩))
    · unfold fn_X12_hash
      exact yl_e (n2 w) (yl_p rfl (yl_ok ⟨rfl, hw, fr_refl⟩))
  · refine ⟨g, P, by omega, pr_call (R := if y = 0 then nI (mhash g 0 q) else nI (mhash g 1 q)) hu hM hu.2.1 ?_ fun w hw => ?_⟩
    · unfold fn_X11_hash bl_X11_hash_37
      refine yl_e q3 (yl_n i_n1 ?_)
      rw [o0, o1, a4.1.1, q2]
      by_cases c : y = 0
      · rw [if_pos c, if_pos c]
        exact yl_e (pc_firstOf hS hu.1.1.2.1 q1) (yl_ok ⟨rfl, hu.1, fr_refl⟩)
      · rw [if_neg c, if_neg c]
        exact yl_e (pc_secondOf hS hu.1.1.2.1 q1) (yl_ok ⟨rfl, hu.1, fr_refl⟩)
    · unfold fn_X12_hash bl_X12_hash_19 bl_X12_hash_26
      refine yl_e (q4 w) (yl_n i_n1 ?_)
      rw [q2]
      by_cases c : y = 0
      · rw [if_pos c, if_pos c]
        exact yl_e (pm_hash b1 (B := 0) (w := 0) (by omega) hw hk (by omega) q1) (yl_ok ⟨rfl, hw, fr_refl⟩)
      · rw [if_neg c, if_neg c]
        exact yl_e (pm_hash b1 (B := 0) (w := 1) (by omega) hw hk (by omega) q1) (yl_ok ⟨rfl, hw, fr_refl⟩)
/-! what a put would answer -/
theorem mt_answer {G : tc_G} (hA : gA G) {u : tc_S} {P q : Nat} {g : mp} (hu : cC u P g) (hP : P + 12 < 2 ^ 30) (hq : q ≤ 999) : y2 (fn_X11_answerFor G 0 (nI q) u) (fun r w => r = (mput g q 0).1 ∧ mt w 2 g ∧ fr fMc u w) := by
  obtain ⟨⟨o0, o1, o2, o3, o4, o5, o6, o7, o8, o9, o10⟩, ⟨a1, a2, a3⟩, ⟨a4, a5, a6, a7⟩, b1, b2, b3, b4⟩ := hA
  have a := hu.2.1.1.1.1
  unfold fn_X11_answerFor
  rw [o2, o0, o1, o6]
  refine yl_b (pc_copyFrom a5 a4 (by omega) (by omega) (wA_wS a) hu.2.2.1 hu.1) fun _ w1 h1 => ?_
  have b39 : tR w1 39 64 := ⟨by rw [h1.2 _ _ (by unfold fT; omega)]; exact hu.2.2.2.1.1, by rw [h1.2 _ _ (by unfold fT; omega)]; exact hu.2.2.2.1.2⟩
  refine yl_b (mt_enter a1 a2 a3 (v := 0) a5 a6 okt14 hu.2.1 (by omega) h1.1 b39 hq) fun r w2 h2 => ?_
  have ff : fr (fE 14) u w2 := fr_trans (fT_E h1.2) h2.2.2
  exact yl_ok ⟨h2.1, mt_fr hu.1 ff fun o k q1 q2 => by unfold fE fV fT; omega, fE_c14 ff⟩
theorem pm_would {G : tc_G} (hA : gA G) {u : tc_S} {P q : Nat} {g : mp} (hg : mre P g) (hM : isM u 0 g) (hP : P + 12 < 2 ^ 30) (hq : q ≤ 999) : y2 (fn_X12_would G 71 (nI q) u) (fun r w => r = (mput g q 0).1 ∧ isM w 0 g ∧ fr fMr u w) := by
  obtain ⟨-, -, -, b1, b2, b3, b4⟩ := hA
  rcases pc_isNum (G := G) (u := u) (nI q) with ⟨n1, n2⟩ | ⟨q', q1, q2, q3, q4⟩
  · exfalso
    unfold fn_X11_isNumber bl_X11_isNumber_15 bl_X11_isNumber_16 at n1
    rw [if_neg (nI_pos (by omega)), if_neg (show ¬ (1000 : Int32) ≤ nI q from nI_ge (b := 1000) (by omega) (by omega))] at n1
    exact absurd (Prod.mk.inj (Option.some.inj n1)).1 i_n1
  · unfold fn_X12_would
    refine yl_e (q4 u) (yl_n i_n1 ?_)
    rw [show (0 : Int32) = nI 0 from rfl, show (292 : Int32) = nI 292 from rfl]
    refine yl_e (pm_copies b1 (F := 0) (T := 292) (by omega) (by omega) (by omega) hM) ?_
    have f1 : fr fMr u (uM u 292 g) := fr_uM fr_refl fun k h1 h2 => Or.inl ⟨rfl, by omega⟩
    have i0 : isM (uM u 292 g) 0 g := fun k hk => (uM_out (by omega)).trans (hM k hk)
    refine yl_b (pm_puts b1 b2 b3 b4 (B := 292) (v := nI 0) (by omega) uM_isM hg (by omega) hq) fun r z hz => ?_
    exact yl_ok ⟨hz.1, isM_fr i0 hz.2.2 fun k hk => by unfold fP; omega, fr_trans f1 (fP_r2 hz.2.2)⟩
theorem c_would {G : tc_G} (hA : gA G) {L : tc_L} {u : tc_S} {P : Nat} {g : mp} (x : Int32) (hu : cC u P g) (hM : isM u 0 g) (hP : P + 12 < 2 ^ 30) : ∃ g2 P2, P2 ≤ P + 12 ∧ yl (tc_b (fn_X11_would G 0 x u) fun r1 u1 => tc_b (fn_X12_would G 71 x u1) fun r2 u2 => if r1 = r2 then some (L, u2) else none) (pqq L u P2 g2) := by
  rcases pc_isNum (G := G) (u := u) x with ⟨n1, n2⟩ | ⟨q, q1, q2, q3, q4⟩
  · refine ⟨g, P, by omega, pr_call (R := -2) hu hM hu.2.1 ?_ fun w hw => ?_⟩
    · unfold fn_X11_would
      exact yl_e n1 (yl_p rfl (yl_ok ⟨rfl, hu.1, fr_refl⟩))
    · unfold fn_X12_would
      exact yl_e (n2 w) (yl_p rfl (yl_ok ⟨rfl, hw, fr_refl⟩))
  · refine ⟨g, P, by omega, pr_call (R := (mput g q 0).1) hu hM hu.2.1 ?_ fun w hw => ?_⟩
    · unfold fn_X11_would bl_X11_would_17
      refine yl_e q3 (yl_n i_n1 ?_)
      rw [q2]
      exact yl_b (mt_answer hA hu hP q1) fun r w hw => yl_ok hw
    · rw [q2]
      exact pm_would hA hu.2.1 hw hP q1
