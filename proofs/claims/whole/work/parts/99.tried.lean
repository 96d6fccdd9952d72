/-! the call tried (where no parts are asked for) -/
theorem mt_tellO {G : tc_G} {u : tc_S} {t : Nat} {x : Int32} (hx : x.toInt < 0 ∨ 25 < x.toInt) : fn_X11_tell G 0 t x u = some (-1, u) := by
  by_cases c : x.toInt = 26
  · have : x = nI 26 := ti (by omega) (by omega)
    subst this
    unfold fn_X11_tell bl_X11_tell_17
    rw [if_neg (by decide), if_pos (by decide)]
    repeat rw [if_neg (by decide)]
  · exact mt_tellN (by omega)
theorem isIn_out {x : Int32} {a b : Nat} (hb : b < 2 ^ 31) (hab : a ≤ b) (h : x < nI a ∨ nI b < x) : x.toInt < (a : Int) ∨ (b : Int) < x.toInt := by
  rcases h with h | h
  · have := Int32.lt_iff_toInt_lt.mp h
    rw [nI_toInt (by omega)] at this
    exact Or.inl this
  · have := Int32.lt_iff_toInt_lt.mp h
    rw [nI_toInt (by omega)] at this
    exact Or.inr this
/-- the class's copy is loaded, and something is told of it -/
theorem mt_tried {G : tc_G} (hA : gA G) {u : tc_S} {P q : Nat} {g : mp} {s x y R : Int32} (hu : cC u P g) (hP : P + 12 < 2 ^ 30) (hq : q ≤ 12) (hx : x = nI q) (hl : fn_X11_isLoad G x u = some (1, u)) (ht : ∀ w, mt w 14 (mld q g s 0).2 → tR w 39 64 → y2 (fn_X11_tell G 0 14 y w) (fun r v => r = R ∧ fr (fun o k => fMc o k ∧ ¬ (2 ≤ o ∧ o < 12)) w v)) : y2 (fn_X11_tried G 0 s x y u) (fun r w => r = R ∧ mt w 2 g ∧ fr fMc u w) := by
  obtain ⟨⟨o0, o1, o2, o3, o4, o5, o6, o7, o8, o9, o10⟩, ⟨a1, a2, a3⟩, ⟨a4, a5, a6, a7⟩, b1, b2, b3, b4⟩ := hA
  have a := hu.2.1.1.1.1
  unfold fn_X11_tried
  refine yl_e hl (yl_n i_n1 ?_)
  rw [o2, o0, o1, o6, hx]
  refine yl_b (pc_copyFrom a5 a4 (by omega) (by omega) (wA_wS a) hu.2.2.1 hu.1) fun _ w1 h1 => ?_
  have b39 : tR w1 39 64 := ⟨by rw [h1.2 _ _ (by unfold fT; omega)]; exact hu.2.2.2.1.1, by rw [h1.2 _ _ (by unfold fT; omega)]; exact hu.2.2.2.1.2⟩
  refine yl_b (mt_loadBy a1 a2 a3 (s := s) a5 a6 okt14 (by omega) hq hu.2.1 (by omega) h1.1 b39) fun r w2 h2 => ?_
  have b39' : tR w2 39 64 := ⟨by rw [fO_c14 h2.2.2 _ _ (by unfold fMc; omega)]; exact b39.1, by rw [fO_c14 h2.2.2 _ _ (by unfold fMc; omega)]; exact b39.2⟩
  have m2 : mt w2 2 g := mt_fr (mt_fr hu.1 h1.2 fun o k q1 q2 => by unfold fT; omega) h2.2.2 fun o k q1 q2 => by unfold fO fE fV fT; omega
  refine yl_b (ht w2 h2.2.1 b39') fun r2 w3 h3 => ?_
  exact yl_ok ⟨h3.1, mt_fr m2 h3.2 fun o k q1 q2 => by omega, fr_trans (fT_c14 h1.2) (fr_trans (fO_c14 h2.2.2) (fr_mono h3.2 fun o k q => q.1))⟩
theorem c_tried0 {G : tc_G} (hA : gA G) {L : tc_L} {u : tc_S} {P : Nat} {g : mp} (s x y : Int32) (hu : cC u P g) (hM : isM u 0 g) (hP : P + 12 < 2 ^ 30) (h3 : y ≠ 23) (h4 : y ≠ 24) : ∃ g2 P2, P2 ≤ P + 12 ∧ yl (tc_b (fn_X11_tried G 0 s x y u) fun r1 u1 => tc_b (fn_X12_tried G 71 s x y u1) fun r2 u2 => if r1 = r2 then some (L, u2) else none) (pqq L u P2 g2) := by
  have hA0 := hA
  obtain ⟨⟨o0, o1, o2, o3, o4, o5, o6, o7, o8, o9, o10⟩, ⟨a1, a2, a3⟩, ⟨a4, a5, a6, a7⟩, b1, b2, b3, b4⟩ := hA
  rcases pc_isLoad (G := G) (u := u) x with ⟨n1, n2⟩ | ⟨q, q1, q2, q3, q4⟩
  · refine ⟨g, P, by omega, pr_call (R := -1) hu hM hu.2.1 ?_ fun w hw => ?_⟩
    · unfold fn_X11_tried
      exact yl_e n1 (yl_p rfl (yl_ok ⟨rfl, hu.1, fr_refl⟩))
    · unfold fn_X12_tried
      exact yl_e (n2 w) (yl_p rfl (yl_ok ⟨rfl, hw, fr_refl⟩))
  · obtain ⟨P2, p1, p2⟩ := mld_ok q g s 0 P hu.2.1 (by omega)
    rcases pm_isInB (G := G) y 0 25 (by omega) (by omega) with ⟨c1, c2⟩ | ⟨k, k1, k2, k3, k4⟩
    · refine ⟨g, P, by omega, pr_call (R := -1) hu hM hu.2.1 ?_ fun w hw => ?_⟩
      · exact mt_tried hA0 hu hP (by omega) q2 q3 fun w h1 h2 => ⟨_, mt_tellO (isIn_out (a := 0) (b := 25) (by omega) (by omega) c1), rfl, fr_refl⟩
      · unfold fn_X12_tried
        exact yl_e (q4 w) (yl_n i_n1 (yl_e (c2 w) (yl_p rfl (yl_ok ⟨rfl, hw, fr_refl⟩))))
    · have n3 : k ≠ 23 := fun z => h3 (by rw [k3, z]; rfl)
      have n4 : k ≠ 24 := fun z => h4 (by rw [k3, z]; rfl)
      refine ⟨g, P, by omega, pr_call (R := cts (mld q g s 0).2 k) hu hM hu.2.1 ?_ fun w hw => ?_⟩
      · refine mt_tried hA0 hu hP (by omega) q2 q3 fun w h1 h2 => ?_
        rw [k3]
        exact ⟨_, mt_tell a5 p2.1 h1 (by omega) n3 n4, rfl, fr_refl⟩
      · unfold fn_X12_tried
        refine yl_e (q4 w) (yl_n i_n1 (yl_e (k4 w) (yl_n i_n1 (yl_n h3 (yl_n h4 ?_)))))
        rw [q2, k3, show (0 : Int32) = nI 0 from rfl, show (292 : Int32) = nI 292 from rfl]
        refine yl_e (pm_copies b1 (F := 0) (T := 292) (by omega) (by omega) (by omega) hw) ?_
        have f1 : fr fMr w (uM w 292 g) := fr_uM fr_refl fun k h1 h2 => Or.inl ⟨rfl, by omega⟩
        have i0 : isM (uM w 292 g) 0 g := fun k hk => (uM_out (by omega)).trans (hw k hk)
        refine yl_b (pm_loads b1 b2 b3 b4 (B := 292) (s := s) (by omega) (by omega) uM_isM hu.2.1 (by omega)) fun r z hz => ?_
        have i1 : isM z 0 g := isM_fr i0 hz.2.2 fun k hk => by unfold fW fP; omega
        refine yl_b (pm_counts b1 b4 (B := 292) (by omega) hz.2.1 p2.1 (by omega) n3 n4) fun r v hv => ?_
        exact yl_ok ⟨hv.1, isM_L i1 hv.2, fr_trans f1 (fr_trans (fW_r2 hz.2.2) (fL_r hv.2))⟩
