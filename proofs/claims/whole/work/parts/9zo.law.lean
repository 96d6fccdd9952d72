/-! what holds between the calls, and that each call keeps it -/
def tI (u : tc_S) (v k : Nat) (t : Nat → Nat) (n : Nat) : Prop := n ≤ 400 ∧ (∀ j, t j < 256) ∧ (∀ j, j < 400 → u.1 72 (1460 + 695 * k + j) = nI (t j) ∧ u.1 (v + 11) j = sb (t j)) ∧ u.1 v 2 = nI n ∧ u.1 72 (1860 + 695 * k) = nI n ∧ u.1 v 3 = u.1 72 (1861 + 695 * k) ∧ u.1 v 4 = u.1 72 (1862 + 695 * k)
def iW (L : tc_L) (u : tc_S) (B k : Nat) : Prop := ((tc_gl L).2.2.2 13 k = none ∧ u.1 74 k = 0) ∨ ∃ v gi Pi ti ni, (tc_gl L).2.2.2 13 k = some v ∧ ¬ u.1 74 k = 0 ∧ mre Pi gi ∧ Pi ≤ B ∧ mt u (v + 1) gi ∧ isM u (1168 + 695 * k) gi ∧ tI u v k ti ni
def IV (L : tc_L) (u : tc_S) (B : Nat) : Prop := L ∈ Sall ∧ (∃ P g t n, P ≤ B ∧ cC u P g ∧ isM u 0 g ∧ tw u t n) ∧ ∀ k, k < 3 → iW L u B k
theorem iW_mv {P : Nat → Nat → Prop} {L L2 : tc_L} {u w : tc_S} {B B2 k : Nat} (hL : L ∈ Sall) (hk : k < 3) (h : iW L u B k) (hB : B ≤ B2) (he : (tc_gl L2).2.2.2 13 k = (tc_gl L).2.2.2 13 k) (hf : fr P u w) (h74 : ¬ P 74 k) (h72 : ∀ i, 1168 + 695 * k ≤ i → i < 1863 + 695 * k → ¬ P 72 i) (hv : ∀ v, (tc_gl L).2.2.2 13 k = some v → ∀ o i, v ≤ o → o < v + 12 → ¬ P o i) : iW L2 w B2 k := by
  rcases h with ⟨h1, h2⟩ | ⟨v, gi, Pi, ti, ni, s1, s2, s3, s4, s5, s6, t1, t2, t3, t4, t5, t6, t7⟩
  · exact Or.inl ⟨by rw [he]; exact h1, by rw [hf _ _ h74]; exact h2⟩
  · have hv := hv v s1
    refine Or.inr ⟨v, gi, Pi, ti, ni, by rw [he]; exact s1, by rw [hf _ _ h74]; exact s2, s3, by omega, mt_fr s5 hf fun o i q1 q2 => hv o i (by omega) (by omega), isM_fr s6 hf fun i hi => h72 _ (by omega) (by omega), t1, t2, fun j hj => ?_, ?_, ?_, ?_, ?_⟩
    · rw [hf _ _ (h72 _ (by omega) (by omega)), hf _ _ (hv _ _ (by omega) (by omega))]; exact t3 j hj
    · rw [hf _ _ (hv _ _ (by omega) (by omega))]; exact t4
    · rw [hf _ _ (h72 _ (by omega) (by omega))]; exact t5
    · rw [hf _ _ (h72 _ (by omega) (by omega)), hf _ _ (hv _ _ (by omega) (by omega))]; exact t6
    · rw [hf _ _ (h72 _ (by omega) (by omega)), hf _ _ (hv _ _ (by omega) (by omega))]; exact t7
theorem iW_X {L : tc_L} {u w : tc_S} {B k : Nat} (hL : L ∈ Sall) (hk : k < 3) (h : iW L u B k) (hf : fr fMX u w) : iW L w (B + 60) k := by
  refine iW_mv hL hk h (by omega) rfl hf (by unfold fMX fMM fMc fMr; omega) (fun i q1 q2 => by unfold fMX fMM fMc fMr; omega) (fun v hv o i q1 q2 => ?_)
  have im := st_img L hL k hk
  rw [hv] at im
  have := im.1
  unfold fMX fMM fMc fMr
  omega
theorem tw_M {u w : tc_S} {t : Nat → Nat} {n : Nat} (h : tw u t n) (hf : fr fMM u w) : tw w t n := by
  obtain ⟨t1, t2, t3, t4, t5, t6, t7⟩ := h
  have e : ∀ o k, (o = 1 ∨ o = 12 ∨ o = 73 ∨ (o = 71 ∧ k < 6)) → w.1 o k = u.1 o k := fun o k q => hf _ _ (by unfold fMM fMc fMr; omega)
  refine ⟨t1, t2, fun k hk => ?_, ?_, ?_, ?_, ?_⟩
  · rw [e _ _ (by omega), e _ _ (by omega)]; exact t3 k hk
  · rw [e _ _ (by omega)]; exact t4
  · rw [e _ _ (by omega)]; exact t5
  · rw [e _ _ (by omega), e _ _ (by omega)]; exact t6
  · rw [e _ _ (by omega), e _ _ (by omega)]; exact t7
theorem yw_3 {R : Type} {L : tc_L} (hL : L ∈ Sall) {X : Option R} {Q : R → Prop} (h : yl X Q) : yl (tc_wc L (tc_kd L 0 11 (tc_kd L 71 12 X))) Q := by
  obtain ⟨wf, r0, r71⟩ := st_wf hL
  exact yw_wc wf (yw_kd r0 (yw_kd r71 h))
theorem iv_q {L : tc_L} {u : tc_S} {B P n : Nat} {g : mp} {t : Nat → Nat} (hL : L ∈ Sall) (hP : P ≤ B) (ht : tw u t n) (hi : ∀ k, k < 3 → iW L u B k) {X : Option (tc_L × tc_S)} (h : ∃ g2 P2, P2 ≤ P + 12 ∧ yl X (pqq L u P2 g2)) : yl (tc_wc L (tc_kd L 0 11 (tc_kd L 71 12 X))) (fun q => IV q.1 q.2 (B + 60)) := by
  obtain ⟨g2, P2, p1, p2⟩ := h
  refine yw_3 hL (yl_m p2 fun q hq => ?_)
  obtain ⟨q1, q2, q3, q4⟩ := hq
  rw [q1]
  exact ⟨hL, ⟨P2, g2, t, n, by omega, q3, q2, tw_M ht q4⟩, fun k hk => iW_X hL hk (hi k hk) (fr_mono q4 fun o k z => Or.inl z)⟩
theorem iv_2 {L : tc_L} {u : tc_S} {B P : Nat} (hL : L ∈ Sall) (hP : P ≤ B) (hi : ∀ k, k < 3 → iW L u B k) {X : Option (tc_L × tc_S)} (h : ∃ g2 P2 t2 n2, P2 ≤ P + 60 ∧ yl X (pq2 L u P2 g2 t2 n2)) : yl (tc_wc L (tc_kd L 0 11 (tc_kd L 71 12 X))) (fun q => IV q.1 q.2 (B + 60)) := by
  obtain ⟨g2, P2, t2, n2, p1, p2⟩ := h
  refine yw_3 hL (yl_m p2 fun q hq => ?_)
  obtain ⟨q1, q2, q3, q4, q5⟩ := hq
  rw [q1]
  exact ⟨hL, ⟨P2, g2, t2, n2, by omega, q3, q2, q4⟩, fun k hk => iW_X hL hk (hi k hk) q5⟩
theorem iW_iM {L : tc_L} {u : tc_S} {B k : Nat} (hL : L ∈ Sall) (hk : k < 3) (h : iW L u B k) : iM (tc_gl L) u k := by
  rcases h with h | ⟨v, gi, Pi, ti, ni, s1, s2, s3, s4, s5, s6, -⟩
  · exact Or.inl h
  · have im := st_img L hL k hk
    rw [s1] at im
    exact Or.inr ⟨v, gi, Pi, s1, s2, im.1, im.2.2.1, gT_d im.2.2.2.2.2, s3, s5, s6⟩
theorem im_in {G : tc_G} (hI : gI G) {k : Nat} (hk : k < 3) : fn_X11_imageOf G 0 (nI k) = some (G.2.2.2 13 k) := by
  unfold fn_X11_imageOf
  rw [if_neg (nI_pos (by omega)), if_pos (show nI k < 3 from nI_lt (b := 3) (by omega) (by omega)), hI.1, hI.2.1, nI_clamp (by omega), if_neg (by
    rintro (z | z)
    · exact nI_pos (by omega) z
    · omega)]
theorem im_n3 {x : Int32} (c1 : x < nI 0 ∨ nI 2 < x) (d : ¬ x < 0) : ¬ x < 3 := by
  rcases isIn_out (a := 0) (b := 2) (by omega) (by omega) c1 with z | z
  · exact absurd (Int32.lt_iff_toInt_lt.mpr (by rw [show (0 : Int32).toInt = 0 from rfl]; exact z)) d
  · intro q
    have := Int32.lt_iff_toInt_lt.mp q
    rw [show (3 : Int32).toInt = 3 from rfl] at this
    omega
theorem iv_up {L : tc_L} {u : tc_S} {B P n : Nat} {g : mp} {t : Nat → Nat} (hL : L ∈ Sall) (hP : P ≤ B) (hu : cC u P g) (hM : isM u 0 g) (ht : tw u t n) (hi : ∀ k, k < 3 → iW L u B k) : IV L u (B + 60) := ⟨hL, ⟨P, g, t, n, by omega, hu, hM, ht⟩, fun k hk => iW_X hL hk (hi k hk) fr_refl⟩
/-- image -/
theorem iv_image {L : tc_L} {u : tc_S} {B P n : Nat} {g : mp} {t : Nat → Nat} (x : Int32) (hL : L ∈ Sall) (hP : P ≤ B) (hu : cC u P g) (hM : isM u 0 g) (ht : tw u t n) (hi : ∀ k, k < 3 → iW L u B k) : yl (tc_kd L 0 11 <| tc_bi (fn_X11_image L 0 x u) fun r1 L1 u1 => tc_wc L1 <| tc_kd L1 71 12 <| tc_b (fn_X12_image (tc_gl L1) 71 x u1) fun r2 u2 => if r1 = r2 then some (L1, u2) else none) (fun q => IV q.1 q.2 (B + 60)) := by
  obtain ⟨wf, r0, r71⟩ := st_wf hL
  refine yw_kd r0 ?_
  rcases pm_isInB (G := tc_gl L) x 0 2 (by omega) (by omega) with ⟨c1, c2⟩ | ⟨k, -, k2, k3, k4⟩
  · have e1 : fn_X11_image L 0 x u = some (0, L, u) := by
      unfold fn_X11_image
      by_cases d : x < 0
      · rw [if_pos d]
      · rw [if_neg d, if_neg (im_n3 c1 d)]
    have e2 : fn_X12_image (tc_gl L) 71 x u = some (0, u) := by
      unfold fn_X12_image
      have z := c2 u
      rw [show nI 0 = 0 from rfl, show nI 2 = 2 from rfl] at z
      rw [z, pu_b, if_pos rfl]
      rfl
    rw [e1]
    refine yw_wc wf (yw_kd r71 ?_)
    rw [e2, pu_b]
    exact yl_p rfl (yl_ok (iv_up hL hP hu hM ht hi))
  · subst k3
    have hk : k < 3 := by omega
    have hR : ∀ v, (tc_gl L).2.2.2 13 k = some v → tR u (v + 1) 64 := by
      intro v hv
      rcases hi k hk with ⟨n1, -⟩ | ⟨v2, gi, Pi, ti, ni, s1, s2, s3, s4, s5, -⟩
      · rw [n1] at hv; cases hv
      · rw [s1] at hv
        rw [← Option.some.inj hv]
        exact s5.1.1
    obtain ⟨⟨r, L1, u1⟩, e1, q1, q2, q3, ⟨v, q4, q5⟩, q6⟩ := mt_image hL hk hu hR
    have q1 : r = 1 := q1
    have q2 : L1 ∈ Sall := q2
    rw [e1]
    show yl (tc_wc L1 <| tc_kd L1 71 12 <| tc_b (fn_X12_image (tc_gl L1) 71 (nI k) u1) fun r2 u2 => if r = r2 then some (L1, u2) else none) _
    obtain ⟨wf1, r01, r711⟩ := st_wf q2
    refine yw_wc wf1 (yw_kd r711 ?_)
    have G1 := (st_gm L1 q2).1
    have I1 := (st_gR L1 q2).2.1
    have f92 : fr (fun o _ => 92 ≤ o) u u1 := fr_mono q6 fun o i z => z.1
    have M1 : isM u1 0 g := isM_fr hM f92 fun i hi => by omega
    have hin : ∀ w, fn_X12_isIn (tc_gl L1) (nI k) 0 2 w = some (1, w) := by
      rcases pm_isInB (G := tc_gl L1) (nI k) 0 2 (by omega) (by omega) with ⟨z1, -⟩ | ⟨k', -, -, -, z⟩
      · exfalso
        rcases z1 with z1 | z1
        · exact nI_pos (by omega) z1
        · have := (nI_ltI (by omega) (by omega)).mp z1
          omega
      · exact z
    refine yl_b (pr_image G1 I1 hk M1 hin) fun r2 w hw => ?_
    obtain ⟨d1, d2, d3, d4, d5, d6, d7, d8⟩ := hw
    rw [q1, d1]
    obtain ⟨t1, t2, t3, t4, t5, t6, t7⟩ := id ht
    have lo : ∀ o i, o < 92 → o ≠ 74 → (o ≠ 72 ∨ i < 1168) → w.1 o i = u.1 o i := fun o i z1 z2 z3 => by rw [d8 _ _ (by omega), f92 _ _ (by omega)]
    have cw : cC w P g := by
      have c1 := cC_hi hu f92
      have tr : ∀ {s r : Nat}, (s = 14 ∨ s = 39 ∨ s = 55) → tR u1 s r → tR w s r := fun hs q => ⟨by rw [d8 _ _ (by omega)]; exact q.1, by rw [d8 _ _ (by omega)]; exact q.2⟩
      exact ⟨mt_fr c1.1 d8 fun o i z1 z2 => by omega, c1.2.1, tr (by omega) c1.2.2.1, tr (by omega) c1.2.2.2.1, tr (by omega) c1.2.2.2.2⟩
    have twW : tw w t n := by
      refine ⟨t1, t2, fun j hj => ?_, ?_, ?_, ?_, ?_⟩
      · rw [lo _ _ (by omega) (by omega) (by omega), lo _ _ (by omega) (by omega) (by omega)]; exact t3 j hj
      · rw [lo _ _ (by omega) (by omega) (by omega)]; exact t4
      · rw [lo _ _ (by omega) (by omega) (by omega)]; exact t5
      · rw [lo _ _ (by omega) (by omega) (by omega), lo _ _ (by omega) (by omega) (by omega)]; exact t6
      · rw [lo _ _ (by omega) (by omega) (by omega), lo _ _ (by omega) (by omega) (by omega)]; exact t7
    refine yl_p rfl (yl_ok ⟨q2, ⟨P, g, t, n, by omega, cw, isM_fr M1 d8 fun i hi => by omega, twW⟩, fun j hj => ?_⟩)
    by_cases c : j = k
    · subst c
      have im := st_img L1 q2 j hj
      rw [q4] at im
      have i1 := im.1
      obtain ⟨p1, p2, p3, p4, p5⟩ := q5
      have vv : ∀ o i, 92 ≤ o → w.1 o i = u1.1 o i := fun o i z => d8 _ _ (by omega)
      have u1l : ∀ o i, o < 92 → u1.1 o i = u.1 o i := fun o i z => f92 _ _ (by omega)
      refine Or.inr ⟨v, g, P, t, n, q4, by rw [d7]; decide, hu.2.1, by omega, mt_fr p1 d8 fun o i z1 z2 => by omega, d2, t1, t2, fun i hi => ⟨?_, ?_⟩, ?_, ?_, ?_, ?_⟩
      · rw [d3 i hi, u1l _ _ (by omega)]; exact (t3 i hi).1
      · rw [vv _ _ (by omega), p2 i hi]; exact (t3 i hi).2
      · rw [vv _ _ (by omega), p3]; exact t4
      · rw [d4, u1l _ _ (by omega)]; exact t5
      · rw [vv _ _ (by omega), p4, d5, u1l _ _ (by omega)]; exact t6
      · rw [vv _ _ (by omega), p5, d6, u1l _ _ (by omega)]; exact t7
    · have s1 : iW L1 u1 (B + 60) j := iW_mv hL hj (hi j hj) (by omega) (q3 j hj c) q6 (fun z => by have := z.1; omega) (fun i _ _ z => by have := z.1; omega) (fun v2 hv2 o i z1 z2 z => z.2 j hj c v2 hv2 ⟨z1, z2⟩)
      refine iW_mv q2 hj s1 (Nat.le_refl _) rfl d8 (by omega) (fun i z1 z2 => by omega) (fun v2 hv2 o i z1 z2 => ?_)
      have im := st_img L1 q2 j hj
      rw [hv2] at im
      have := im.1
      omega
/-- again -/
theorem iv_again {L : tc_L} {u : tc_S} {B P n : Nat} {g : mp} {t : Nat → Nat} (x : Int32) (hL : L ∈ Sall) (hP : P ≤ B) (hu : cC u P g) (hM : isM u 0 g) (ht : tw u t n) (hi : ∀ k, k < 3 → iW L u B k) : yl (tc_wc L <| tc_kd L 0 11 <| tc_kd L 71 12 <| tc_b (fn_X11_again (tc_gl L) 0 x u) fun r1 u1 => tc_b (fn_X12_again (tc_gl L) 71 x u1) fun r2 u2 => if r1 = r2 then some (L, u2) else none) (fun q => IV q.1 q.2 (B + 60)) := by
  have hI := (st_gR L hL).2.1
  have hY := (st_gR L hL).2.2.2.2.1
  have hA := st_gA hL
  obtain ⟨⟨o0, o1, o2, o3, o4, o5, o6, o7, o8, o9, o10⟩, -, ⟨a4, a5, a6, a7⟩, b1, b2, b3, b4⟩ := hA
  refine yw_3 hL ?_
  have non : fn_X11_imageOf (tc_gl L) 0 x = some none → fn_X12_again (tc_gl L) 71 x u = some (0, u) → yl (tc_b (fn_X11_again (tc_gl L) 0 x u) fun r1 u1 => tc_b (fn_X12_again (tc_gl L) 71 x u1) fun r2 u2 => if r1 = r2 then some (L, u2) else none) (fun q => IV q.1 q.2 (B + 60)) := by
    intro h1 h2
    have e1 : fn_X11_again (tc_gl L) 0 x u = some (0, u) := by
      unfold fn_X11_again
      rw [h1]
      rfl
    rw [e1, pu_b, h2, pu_b]
    exact yl_p rfl (yl_ok (iv_up hL hP hu hM ht hi))
  rcases pm_isInB (G := tc_gl L) x 0 2 (by omega) (by omega) with ⟨c1, c2⟩ | ⟨k, -, k2, k3, k4⟩
  · refine non ?_ ?_
    · unfold fn_X11_imageOf
      by_cases d : x < 0
      · rw [if_pos d]
      · rw [if_neg d, if_neg (im_n3 c1 d)]
    · unfold fn_X12_again
      have z := c2 u
      rw [show nI 0 = 0 from rfl, show nI 2 = 2 from rfl] at z
      rw [z, pu_b, if_pos rfl]
      rfl
  · subst k3
    have hk : k < 3 := by omega
    have hin : ∀ w, fn_X12_isIn (tc_gl L) (nI k) 0 2 w = some (1, w) := k4
    rcases hi k hk with ⟨n1, n2⟩ | ⟨v, gi, Pi, ti, ni, s1, s2, s3, s4, s5, s6, t1, t2, t3, t4, t5, t6, t7⟩
    · refine non (by rw [im_in hI hk, n1]) ?_
      unfold fn_X12_again
      rw [hin u, pu_b, if_neg i_n1, hI.2.2.1, pu_ld hI.2.2.2 (by omega) (by omega), n2, if_pos rfl]
      rfl
    · have im := st_img L hL k hk
      rw [s1] at im
      obtain ⟨i1, i2, i3, i4, i5, i6⟩ := im
      have ca : y2 (fn_X11_again (tc_gl L) 0 (nI k) u) (fun r w => r = 1 ∧ mt w 2 gi ∧ (∀ j, j < 400 → w.1 12 j = u.1 (v + 11) j) ∧ w.1 1 2 = u.1 v 2 ∧ w.1 1 3 = u.1 v 3 ∧ w.1 1 4 = u.1 v 4 ∧ fr (fun o k => fT 2 o k ∨ o = 12 ∨ (o = 1 ∧ 2 ≤ k ∧ k ≤ 4)) u w) := by
        unfold fn_X11_again
        rw [im_in hI hk, s1]
        show y2 (tc_b (fn_X10_copyFrom (tc_gl L) (tc_p (tc_gl L) 0 0) v u) fun x4 u5 => tc_zo 1 <| some (1, u5)) _
        rw [o0]
        refine yl_b (x10_copy (d := 1) (s := v) (td := 2) (ts := v + 1) (pd := 12) (ps := v + 11) o1 i3 o10 i4 hY i5 a4 (gT_d i6) (by omega) (wA_wS s3.1.1.1) hu.1.1.1 s5 (by omega) (by omega) (by omega) (by omega) (by omega) (by omega) (by omega) (by omega)) fun _ w hw => ?_
        exact yl_z1 (yl_ok ⟨rfl, hw⟩)
      refine yl_b ca fun r1 u1 h1 => ?_
      obtain ⟨p0, p1, p2, p3, p4, p5, p6⟩ := h1
      have n1 : ∀ o i, 70 < o → u1.1 o i = u.1 o i := fun o i z => p6 _ _ (by unfold fT; omega)
      have M1 : isM u1 (1168 + 695 * k) gi := isM_fr s6 p6 fun i hi => by unfold fT; omega
      refine yl_b (pr_again b1 hI hk M1 (by rw [n1 _ _ (by omega)]; exact s2) hin) fun r2 w hw => ?_
      obtain ⟨d1, d2, d3, d4, d5, d6, d7⟩ := hw
      rw [p0, d1]
      have lo : ∀ o i, o < 71 → w.1 o i = u1.1 o i := fun o i z => d7 _ _ (by omega)
      have tr : ∀ {s r : Nat}, (s = 14 ∨ s = 39 ∨ s = 55) → tR u s r → tR w s r := fun hs q => ⟨by rw [lo _ _ (by omega), p6 _ _ (by unfold fT; omega)]; exact q.1, by rw [lo _ _ (by omega), p6 _ _ (by unfold fT; omega)]; exact q.2⟩
      have fx : fr fMX u w := fr_trans (fr_mono p6 fun o i q => by unfold fT at q; unfold fMX fMM fMc; omega) (fr_mono d7 fun o i q => by unfold fMX fMM fMr; omega)
      refine yl_p rfl (yl_ok ⟨hL, ⟨Pi, gi, ti, ni, by omega, ⟨mt_fr p1 d7 fun o i z1 z2 => by omega, s3, tr (by omega) hu.2.2.1, tr (by omega) hu.2.2.2.1, tr (by omega) hu.2.2.2.2⟩, d2, t1, t2, fun j hj => ⟨?_, ?_⟩, ?_, ?_, ?_, ?_⟩, fun j hj => iW_X hL hj (hi j hj) fx⟩)
      · show w.1 73 j = _
        rw [d3 j hj, n1 _ _ (by omega)]; exact (t3 j hj).1
      · show w.1 12 j = _
        rw [lo _ _ (by omega), p2 j hj]; exact (t3 j hj).2
      · show w.1 1 2 = _
        rw [lo _ _ (by omega), p3]; exact t4
      · show w.1 71 3 = _
        rw [d4, n1 _ _ (by omega)]; exact t5
      · show w.1 1 3 = w.1 71 4
        rw [lo _ _ (by omega), p4, d5, n1 _ _ (by omega)]; exact t6
      · show w.1 1 4 = w.1 71 5
        rw [lo _ _ (by omega), p5, d6, n1 _ _ (by omega)]; exact t7
/-- one call -/
theorem iv_st {L : tc_L} {u : tc_S} {B : Nat} (xs : Nat → Int32) (i : Nat) (h : IV L u B) (hB : B + 60 < 2 ^ 30) : yl (lw_st L 0 71 xs i u) (fun q => IV q.1 q.2 (B + 60)) := by
  obtain ⟨hL, ⟨P, g, t, n, hP, hu, hM, ht⟩, hi⟩ := h
  have hA := st_gA hL
  obtain ⟨gr, gi, gp, gx, gy, gw⟩ := st_gR L hL
  obtain ⟨g5, g6, g7⟩ := st_g5 L hL
  have hP12 : P + 12 < 2 ^ 30 := by omega
  have e12 : u.1 1 2 = u.1 71 3 := by rw [ht.2.2.2.1, ht.2.2.2.2.1]
  unfold lw_st
  refine yl_if (fun _ => ?_) (fun _ => ?_)
  · exact iv_2 hL hP hi (c_feed hA gy _ _ _ _ _ hu hM ht)
  refine yl_if (fun _ => ?_) (fun _ => ?_)
  · exact iv_2 hL hP hi (c_end hA _ hu hM ht)
  refine yl_if (fun _ => ?_) (fun _ => ?_)
  · exact iv_2 hL hP hi (c_text hA gw g7 hu hM ht)
  refine yl_if (fun _ => ?_) (fun _ => ?_)
  · exact iv_2 hL hP hi (c_fault hA _ hu hM ht)
  refine yl_if (fun _ => ?_) (fun _ => ?_)
  · exact iv_q (g := g) hL hP ht hi (c_put hA _ _ hu hM hP12)
  refine yl_if (fun _ => ?_) (fun _ => ?_)
  · exact iv_q (g := g) hL hP ht hi (c_get hA _ hu hM)
  refine yl_if (fun _ => ?_) (fun _ => ?_)
  · exact iv_q (g := g) hL hP ht hi (c_drop hA _ hu hM)
  refine yl_if (fun _ => ?_) (fun _ => ?_)
  · exact iv_q (g := g) hL hP ht hi (c_settle hA hu hM)
  refine yl_if (fun _ => ?_) (fun _ => ?_)
  · exact iv_q (g := g) hL hP ht hi (c_rehash hA _ _ _ _ hu hM)
  refine yl_if (fun _ => ?_) (fun _ => ?_)
  · exact iv_q (g := g) hL hP ht hi (c_batch hA gr g5 hu hM)
  refine yl_if (fun _ => ?_) (fun _ => ?_)
  · exact iv_q (g := g) hL hP ht hi (c_peel hA gr g5 _ _ hu hM)
  refine yl_if (fun _ => ?_) (fun _ => ?_)
  · exact iv_q (g := g) hL hP ht hi (c_load hA _ _ hu hM hP12)
  refine yl_if (fun _ => ?_) (fun _ => ?_)
  · exact iv_q (g := g) hL hP ht hi (c_find hA _ _ hu hM)
  refine yl_if (fun _ => ?_) (fun _ => ?_)
  · exact iv_q (g := g) hL hP ht hi (c_at hA _ _ _ hu hM)
  refine yl_if (fun _ => ?_) (fun _ => ?_)
  · exact iv_q (g := g) hL hP ht hi (c_hash hA _ _ hu hM)
  refine yl_if (fun _ => ?_) (fun _ => ?_)
  · exact iv_q (g := g) hL hP ht hi (c_chain hA _ _ hu hM)
  refine yl_if (fun _ => ?_) (fun _ => ?_)
  · exact iv_q (g := g) hL hP ht hi (c_would hA _ hu hM hP12)
  refine yl_if (fun _ => ?_) (fun _ => ?_)
  · exact iv_q (g := g) hL hP ht hi (c_part hA gp _ _ hu hM)
  refine yl_if (fun _ => ?_) (fun _ => ?_)
  · exact iv_q (g := g) hL hP ht hi (c_fits hA gx g6 _ hu hM)
  refine yl_if (fun _ => ?_) (fun _ => ?_)
  · exact iv_q (g := g) hL hP ht hi (c_over hA gx g6 hu hM)
  refine yl_if (fun _ => ?_) (fun _ => ?_)
  · exact iv_q (g := g) hL hP ht hi (c_least hA gx g6 _ hu hM)
  refine yl_if (fun _ => ?_) (fun _ => ?_)
  · exact iv_q (g := g) hL hP ht hi (c_key hA gr _ _ hu hM)
  refine yl_if (fun _ => ?_) (fun _ => ?_)
  · exact iv_q (g := g) hL hP ht hi (c_count hA gp _ hu hM e12)
  refine yl_if (fun _ => ?_) (fun _ => ?_)
  · exact iv_q (g := g) hL hP ht hi (c_filled hA _ hu hM)
  refine yl_if (fun _ => ?_) (fun _ => ?_)
  · exact iv_q (g := g) hL hP ht hi (c_restless hA gr hu hM)
  refine yl_if (fun _ => ?_) (fun _ => ?_)
  · exact iv_q (g := g) hL hP ht hi (c_which hA _ hu hM hP12)
  refine yl_if (fun _ => ?_) (fun _ => ?_)
  · exact iv_q (g := g) hL hP ht hi (c_tried hA gp _ _ _ hu hM hP12)
  refine yl_if (fun _ => ?_) (fun _ => ?_)
  · exact iv_q (g := g) hL hP ht hi (c_lost hA gi _ hu hM (fun k hk => iW_iM hL hk (hi k hk)))
  refine yl_if (fun _ => ?_) (fun _ => ?_)
  · exact iv_image _ hL hP hu hM ht hi
  refine yl_if (fun _ => ?_) (fun _ => ?_)
  · exact iv_again _ hL hP hu hM ht hi
  exact yl_ok (iv_up hL hP hu hM ht hi)
/-- the law goes through -/
theorem iv_go (xs : Nat → Int32) (len : Nat) : ∀ (m i : Nat) (L : tc_L) (u : tc_S) (B : Nat), len < i + 6 * m + 6 → IV L u B → B + 60 * (m + 1) < 2 ^ 30 → lw_go 0 71 xs len (m + 1) i L u := by
  intro m
  induction m with
  | zero =>
    intro i L u B h1 h2 h3
    rw [lw_go, if_neg (by omega)]
    trivial
  | succ m ih =>
    intro i L u B h1 h2 h3
    rw [lw_go]
    by_cases c : i + 6 ≤ len
    · rw [if_pos c]
      obtain ⟨⟨L2, u2⟩, e, q⟩ := iv_st xs i h2 (by omega)
      exact ⟨L2, u2, e, ih (i + 6) L2 u2 (B + 60) (by omega) q (by omega)⟩
    · rw [if_neg c]; trivial
