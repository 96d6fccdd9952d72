/-! THE CALLS: class and reference side by side -/
def gO (G : tc_G) : Prop := tc_p G 0 0 = 1 ∧ tc_p G 1 0 = 2 ∧ tc_p G 0 2 = 14 ∧ tc_p G 0 3 = 24 ∧ tc_p G 0 4 = 30 ∧ tc_p G 0 5 = 32 ∧ tc_p G 0 6 = 38 ∧ tc_p G 0 7 = 50 ∧ tc_p G 0 8 = 54 ∧ tc_p G 0 9 = 65 ∧ tc_p G 1 1 = 12
def gA (G : tc_G) : Prop := gO G ∧ (gK G ∧ gV G ∧ gE G) ∧ (gT G 2 64 ∧ gT G 14 64 ∧ gT G 39 64 ∧ gT G 55 144) ∧ gm G ∧ gm2 G ∧ gm3 G ∧ gm4 G
def cC (u : tc_S) (P : Nat) (g : mp) : Prop := mt u 2 g ∧ mre P g ∧ tR u 14 64 ∧ tR u 39 64 ∧ tR u 55 144
/-- what a call of the class on the map, or one of the reference, may change -/
def fMc (o k : Nat) : Prop := 2 ≤ o ∧ o ≤ 70 ∧ o ≠ 12 ∧ o ≠ 13 ∧ ¬ ((o = 2 ∨ o = 14 ∨ o = 39 ∨ o = 55) ∧ (k = 1 ∨ k = 2))
def fMr (o k : Nat) : Prop := (o = 72 ∧ k < 1168) ∨ (75 ≤ o ∧ o ≤ 91) ∨ (o = 71 ∧ 6 ≤ k)
def fMM (o k : Nat) : Prop := fMc o k ∨ fMr o k
theorem okt2 : okt 2 := by unfold okt; omega
theorem okt14 : okt 14 := by unfold okt; omega
theorem fO_c2 {u w : tc_S} (h : fr (fO 2) u w) : fr fMc u w := fr_mono h fun o k q => by unfold fO fE fV fT at q; unfold fMc; omega
theorem fO_c14 {u w : tc_S} (h : fr (fO 14) u w) : fr fMc u w := fr_mono h fun o k q => by unfold fO fE fV fT at q; unfold fMc; omega
theorem fV_c2 {u w : tc_S} (h : fr (fV 2) u w) : fr fMc u w := fO_c2 (fE_O (fV_E h))
theorem fE_c2 {u w : tc_S} (h : fr (fE 2) u w) : fr fMc u w := fO_c2 (fE_O h)
theorem fE_c14 {u w : tc_S} (h : fr (fE 14) u w) : fr fMc u w := fO_c14 (fE_O h)
theorem fT_c14 {u w : tc_S} (h : fr (fT 14) u w) : fr fMc u w := fE_c14 (fT_E h)
theorem fT_c2 {u w : tc_S} (h : fr (fT 2) u w) : fr fMc u w := fE_c2 (fT_E h)
theorem fK_c {u w : tc_S} (h : fr fK u w) : fr fMc u w := fV_c2 (fK_V h)
theorem fW_r0 {u w : tc_S} (h : fr (fW 0) u w) : fr fMr u w := fr_mono h fun o k q => by unfold fW fP at q; unfold fMr; omega
theorem fW_r2 {u w : tc_S} (h : fr (fW 292) u w) : fr fMr u w := fr_mono h fun o k q => by unfold fW fP at q; unfold fMr; omega
theorem fP_r0 {u w : tc_S} (h : fr (fP 0) u w) : fr fMr u w := fW_r0 (fP_W h)
theorem fP_r2 {u w : tc_S} (h : fr (fP 292) u w) : fr fMr u w := fW_r2 (fP_W h)
theorem fD_r0 {u w : tc_S} (h : fr (fD 0) u w) : fr fMr u w := fP_r0 (fD_P h)
theorem fL_r {u w : tc_S} (h : fr fL u w) : fr fMr u w := fP_r0 (fL_P h)
theorem tR_c {t r : Nat} {u w : tc_S} (ht : t = 14 ∨ t = 39 ∨ t = 55) (hf : fr fMM u w) (h : tR u t r) : tR w t r := ⟨by rw [hf _ _ (by unfold fMM fMc fMr; omega)]; exact h.1, by rw [hf _ _ (by unfold fMM fMc fMr; omega)]; exact h.2⟩
/-- both are called, and answer alike -/
def pqq (L : tc_L) (u : tc_S) (P : Nat) (g2 : mp) (q : tc_L × tc_S) : Prop := q.1 = L ∧ isM q.2 0 g2 ∧ cC q.2 P g2 ∧ fr fMM u q.2
theorem pr_call {L : tc_L} {u : tc_S} {P P2 : Nat} {g g2 : mp} {R : Int32} {co mo : tc_S → Option (Int32 × tc_S)} (hu : cC u P g) (hM : isM u 0 g) (hg2 : mre P2 g2) (hc : y2 (co u) (fun r w => r = R ∧ mt w 2 g2 ∧ fr fMc u w)) (hm : ∀ w, isM w 0 g → y2 (mo w) (fun r v => r = R ∧ isM v 0 g2 ∧ fr fMr w v)) : yl (tc_b (co u) fun r1 u1 => tc_b (mo u1) fun r2 u2 => if r1 = r2 then some (L, u2) else none) (pqq L u P2 g2) := by
  refine yl_b hc fun r1 u1 h1 => ?_
  have hM1 : isM u1 0 g := isM_fr hM h1.2.2 fun k _ => by unfold fMc; omega
  refine yl_b (hm u1 hM1) fun r2 u2 h2 => ?_
  rw [h1.1, h2.1]
  have hf : fr fMM u u2 := fr_trans (fr_mono h1.2.2 fun _ _ q => Or.inl q) (fr_mono h2.2.2 fun _ _ q => Or.inr q)
  refine yl_p rfl (yl_ok ⟨rfl, h2.2.1, ⟨mt_fr h1.2.1 h2.2.2 fun o k q1 q2 => by unfold fMr; omega, hg2, tR_c (by omega) hf hu.2.2.1, tR_c (by omega) hf hu.2.2.2.1, tR_c (by omega) hf hu.2.2.2.2⟩, hf⟩)
/-- numbers -/
theorem pc_isNum {G : tc_G} {u : tc_S} (x : Int32) : (fn_X11_isNumber G x u = some (0, u) ∧ (∀ w, fn_X12_isKey G x w = some (0, w))) ∨ ∃ q, q ≤ 999 ∧ x = nI q ∧ fn_X11_isNumber G x u = some (1, u) ∧ (∀ w, fn_X12_isKey G x w = some (1, w)) := by
  unfold fn_X11_isNumber bl_X11_isNumber_15 bl_X11_isNumber_16 fn_X12_isKey fn_X12_isIn bl_X12_isIn_14 bl_X12_isIn_15
  by_cases h1 : x < 0
  · left
    rw [if_pos h1]
    refine ⟨rfl, fun w => ?_⟩
    rw [if_pos h1]
    rfl
  · obtain ⟨j, hj, rfl⟩ := nI_of h1
    by_cases h2 : 1000 ≤ j
    · left
      have a : (1000 : Int32) ≤ nI j := nI_le (a := 1000) h2 hj
      have b : (999 : Int32) < nI j := nI_lt (a := 999) (by omega) hj
      rw [if_neg h1, if_pos a]
      refine ⟨rfl, fun w => ?_⟩
      rw [if_neg h1, if_pos b]
      rfl
    · right
      have a : ¬ (1000 : Int32) ≤ nI j := fun q => by
        have := (nI_leI (a := 1000) (b := j) (by omega) hj).mp q
        omega
      have b : ¬ (999 : Int32) < nI j := fun q => by
        have := (nI_ltI (a := 999) (b := j) (by omega) hj).mp q
        omega
      refine ⟨j, by omega, rfl, ?_, fun w => ?_⟩
      · rw [if_neg h1, if_neg a]; rfl
      · rw [if_neg h1, if_neg b]; rfl
theorem mput_c {G : tc_G} (hA : gA G) {u : tc_S} {P q : Nat} {v : Int32} {g : mp} (hu : cC u P g) (hP : P + 1 < 2 ^ 30) (hq : q ≤ 999) : y2 (fn_X3_enter G 38 2 (nI q) v u) (fun r w => r = (mput g q v).1 ∧ mt w 2 (mput g q v).2 ∧ fr fMc u w) := by
  obtain ⟨a0, ⟨a1, a2, a3⟩, ⟨a4, a5, a6, a7⟩, a8⟩ := hA
  exact yl_m (mt_enter a1 a2 a3 a4 a6 okt2 hu.2.1 hP hu.1 hu.2.2.2.1 hq) fun r hx => ⟨hx.1, hx.2.1, fE_c2 hx.2.2⟩
/-- put -/
theorem c_put {G : tc_G} (hA : gA G) {L : tc_L} {u : tc_S} {P : Nat} {g : mp} (x y : Int32) (hu : cC u P g) (hM : isM u 0 g) (hP : P + 12 < 2 ^ 30) : ∃ g2 P2, P2 ≤ P + 12 ∧ yl (tc_b (fn_X11_put G 0 x y u) fun r1 u1 => tc_b (fn_X12_put G 71 x y u1) fun r2 u2 => if r1 = r2 then some (L, u2) else none) (pqq L u P2 g2) := by
  have hA2 := hA
  obtain ⟨⟨o0, o1, o2, o3, o4, o5, o6, o7, o8, o9, o10⟩, ⟨a1, a2, a3⟩, ⟨a4, a5, a6, a7⟩, b1, b2, b3, b4⟩ := hA
  have bad : y2 (fn_X11_put G 0 x y u) (fun r w => r = -1 ∧ mt w 2 g ∧ fr fMc u w) → (∀ w, isM w 0 g → y2 (fn_X12_put G 71 x y w) (fun r v => r = -1 ∧ isM v 0 g ∧ fr fMr w v)) → ∃ g2 P2, P2 ≤ P + 12 ∧ yl (tc_b (fn_X11_put G 0 x y u) fun r1 u1 => tc_b (fn_X12_put G 71 x y u1) fun r2 u2 => if r1 = r2 then some (L, u2) else none) (pqq L u P2 g2) := fun h1 h2 => ⟨g, P, by omega, pr_call hu hM hu.2.1 h1 h2⟩
  rcases pc_isNum (G := G) (u := u) x with ⟨n1, n2⟩ | ⟨q, q1, q2, q3, q4⟩
  · refine bad ?_ fun w hw => ?_
    · unfold fn_X11_put
      exact yl_e n1 (yl_p rfl (yl_ok ⟨rfl, hu.1, fr_refl⟩))
    · unfold fn_X12_put
      exact yl_e (n2 w) (yl_p rfl (yl_ok ⟨rfl, hw, fr_refl⟩))
  · rcases pc_isNum (G := G) (u := u) y with ⟨n1, n2⟩ | ⟨v, v1, v2, v3, v4⟩
    · refine bad ?_ fun w hw => ?_
      · unfold fn_X11_put
        exact yl_e q3 (yl_n i_n1 (yl_e n1 (yl_p rfl (yl_ok ⟨rfl, hu.1, fr_refl⟩))))
      · unfold fn_X12_put
        exact yl_e (q4 w) (yl_n i_n1 (yl_e (n2 w) (yl_p rfl (yl_ok ⟨rfl, hw, fr_refl⟩))))
    · refine ⟨(mput g q y).2, P + 1, by omega, pr_call (R := (mput g q y).1) hu hM (mput_ok hu.2.1 q1 (by omega)) ?_ fun w hw => ?_⟩
      · unfold fn_X11_put
        refine yl_e q3 (yl_n i_n1 (yl_e v3 (yl_n i_n1 ?_)))
        rw [o6, o0, o1, q2]
        refine yl_b (mput_c hA2 hu (by omega) q1) fun r w hw => ?_
        exact yl_ok hw
      · unfold fn_X12_put bl_X12_put_25
        refine yl_e (q4 w) (yl_n i_n1 (yl_e (v4 w) (yl_n i_n1 ?_)))
        rw [q2]
        refine yl_b (pm_puts b1 b2 b3 b4 (B := 0) (v := y) (by omega) hw hu.2.1 (by omega) q1) fun r z hz => ?_
        exact yl_ok ⟨hz.1, hz.2.1, fP_r0 hz.2.2⟩
/-- drop -/
theorem c_drop {G : tc_G} (hA : gA G) {L : tc_L} {u : tc_S} {P : Nat} {g : mp} (x : Int32) (hu : cC u P g) (hM : isM u 0 g) : ∃ g2 P2, P2 ≤ P + 12 ∧ yl (tc_b (fn_X11_drop G 0 x u) fun r1 u1 => tc_b (fn_X12_drop G 71 x u1) fun r2 u2 => if r1 = r2 then some (L, u2) else none) (pqq L u P2 g2) := by
  obtain ⟨⟨o0, o1, o2, o3, o4, o5, o6, o7, o8, o9, o10⟩, ⟨a1, a2, a3⟩, ⟨a4, a5, a6, a7⟩, b1, b2, b3, b4⟩ := hA
  rcases pc_isNum (G := G) (u := u) x with ⟨n1, n2⟩ | ⟨q, q1, q2, q3, q4⟩
  · refine ⟨g, P, by omega, pr_call (R := -1) hu hM hu.2.1 ?_ fun w hw => ?_⟩
    · unfold fn_X11_drop
      exact yl_e n1 (yl_p rfl (yl_ok ⟨rfl, hu.1, fr_refl⟩))
    · unfold fn_X12_drop
      exact yl_e (n2 w) (yl_p rfl (yl_ok ⟨rfl, hw, fr_refl⟩))
  · refine ⟨(mdrp g q).2, P, by omega, pr_call (R := (mdrp g q).1) hu hM (mdrp_ok hu.2.1 q1).1 ?_ fun w hw => ?_⟩
    · unfold fn_X11_drop bl_X11_drop_26
      refine yl_e q3 (yl_n i_n1 ?_)
      rw [o6, o0, o1, q2]
      refine yl_b (mt_remove a1 a2 a3.1 a4 (by omega) hu.2.1 hu.1 q1) fun r w hw => ?_
      exact yl_ok ⟨hw.1, hw.2.1, fV_c2 hw.2.2⟩
    · unfold fn_X12_drop bl_X12_drop_17
      refine yl_e (q4 w) (yl_n i_n1 ?_)
      rw [q2]
      refine yl_b (pm_drops b1 (B := 0) (by omega) hw hu.2.1 q1) fun r z hz => ?_
      exact yl_ok ⟨hz.1, hz.2.1, fD_r0 hz.2.2⟩
/-- settle -/
theorem c_settle {G : tc_G} (hA : gA G) {L : tc_L} {u : tc_S} {P : Nat} {g : mp} (hu : cC u P g) (hM : isM u 0 g) : ∃ g2 P2, P2 ≤ P + 12 ∧ yl (tc_b (fn_X11_settle G 0 u) fun r1 u1 => tc_b (fn_X12_settle G 71 u1) fun r2 u2 => if r1 = r2 then some (L, u2) else none) (pqq L u P2 g2) := by
  have hfu := tc_fu_big
  obtain ⟨⟨o0, o1, o2, o3, o4, o5, o6, o7, o8, o9, o10⟩, ⟨a1, a2, a3⟩, ⟨a4, a5, a6, a7⟩, b1, b2, b3, b4⟩ := hA
  have h4 : mn g 18 ≤ 4 := Nat.le_trans hu.2.1.1.1.2.1.2 hu.2.1.1.1.1.2.2.2.1
  refine ⟨(mset g).2, P, by omega, pr_call (R := nI (mset g).1) hu hM (mset_ok hu.2.1) ?_ fun w hw => ?_⟩
  · unfold fn_X11_settle
    rw [o4, o0, o1]
    refine yl_b (mt_emptyStash a1 a2 (chn := true) a4 (by omega) hu.2.1.1 hu.1) fun r w hw => ?_
    exact yl_ok ⟨hw.1, hw.2.1, fV_c2 hw.2.2⟩
  · unfold fn_X12_settle
    exact yl_m (pm_settle4 b1 b2 (mn g 18) 0 0 tc_fu w g (by omega) (by omega) hu.2.1.1 hw) fun r hz => ⟨hz.1, hz.2.1, fD_r0 hz.2.2⟩
/-- load -/
theorem pc_isLoad {G : tc_G} {u : tc_S} (x : Int32) : (fn_X11_isLoad G x u = some (0, u) ∧ (∀ w, fn_X12_isIn G x 1 12 w = some (0, w))) ∨ ∃ q, q ≤ 12 ∧ x = nI q ∧ fn_X11_isLoad G x u = some (1, u) ∧ (∀ w, fn_X12_isIn G x 1 12 w = some (1, w)) := by
  unfold fn_X11_isLoad bl_X11_isLoad_15 bl_X11_isLoad_16 fn_X12_isIn bl_X12_isIn_14 bl_X12_isIn_15
  by_cases h1 : x < 1
  · left
    rw [if_pos h1]
    exact ⟨rfl, fun w => by rw [if_pos h1]; rfl⟩
  · rw [if_neg h1]
    by_cases h2 : 12 < x
    · left
      rw [if_pos h2]
      exact ⟨rfl, fun w => by rw [if_neg h1, if_pos h2]; rfl⟩
    · right
      rw [if_neg h2]
      have h3 : ¬ x < 0 := fun q => h1 (Int32.lt_trans q (by decide))
      obtain ⟨j, hj, e⟩ := nI_of2 (M := 12) (n := 12) rfl h3 (Int32.not_lt.mp h2)
      exact ⟨j, hj, e, rfl, fun w => by rw [if_neg h1, if_neg h2]; rfl⟩
theorem c_load {G : tc_G} (hA : gA G) {L : tc_L} {u : tc_S} {P : Nat} {g : mp} (s x : Int32) (hu : cC u P g) (hM : isM u 0 g) (hP : P + 12 < 2 ^ 30) : ∃ g2 P2, P2 ≤ P + 12 ∧ yl (tc_b (fn_X11_load G 0 s x u) fun r1 u1 => tc_b (fn_X12_load G 71 s x u1) fun r2 u2 => if r1 = r2 then some (L, u2) else none) (pqq L u P2 g2) := by
  obtain ⟨⟨o0, o1, o2, o3, o4, o5, o6, o7, o8, o9, o10⟩, ⟨a1, a2, a3⟩, ⟨a4, a5, a6, a7⟩, b1, b2, b3, b4⟩ := hA
  rcases pc_isLoad (G := G) (u := u) x with ⟨n1, n2⟩ | ⟨q, q1, q2, q3, q4⟩
  · refine ⟨g, P, by omega, pr_call (R := -1) hu hM hu.2.1 ?_ fun w hw => ?_⟩
    · unfold fn_X11_load
      exact yl_e n1 (yl_p rfl (yl_ok ⟨rfl, hu.1, fr_refl⟩))
    · unfold fn_X12_load
      exact yl_e (n2 w) (yl_p rfl (yl_ok ⟨rfl, hw, fr_refl⟩))
  · obtain ⟨P2, p1, p2⟩ := mld_ok q g s 0 P hu.2.1 (by omega)
    refine ⟨(mld q g s 0).2, P2, by omega, pr_call (R := (mld q g s 0).1) hu hM p2 ?_ fun w hw => ?_⟩
    · unfold fn_X11_load bl_X11_load_27
      refine yl_e q3 (yl_n i_n1 ?_)
      rw [o6, o0, o1, q2]
      refine yl_b (mt_loadBy a1 a2 a3 (s := s) a4 a6 okt2 (by omega) q1 hu.2.1 (by omega) hu.1 hu.2.2.2.1) fun r w hw => ?_
      exact yl_ok ⟨hw.1, hw.2.1, fO_c2 hw.2.2⟩
    · unfold fn_X12_load bl_X12_load_21
      refine yl_e (q4 w) (yl_n i_n1 ?_)
      rw [q2]
      refine yl_b (pm_loads b1 b2 b3 b4 (B := 0) (s := s) (by omega) q1 hw hu.2.1 (by omega)) fun r z hz => ?_
      exact yl_ok ⟨hz.1, hz.2.1, fW_r0 hz.2.2⟩
