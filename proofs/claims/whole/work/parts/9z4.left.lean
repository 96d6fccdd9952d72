/-! arranged: the class, how many are left out -/
def kys (l : List en) : List Nat := l.map ky
noncomputable def fit (g : mp) (S : List Nat) : Bool := @decide (arr (mhash g 0) (mhash g 1) (mn g 1) S) (Classical.propDecidable _)
theorem fit_y {g : mp} {S : List Nat} (h : arr (mhash g 0) (mhash g 1) (mn g 1) S) : fit g S = true := @decide_eq_true _ (Classical.propDecidable _) h
theorem fit_n {g : mp} {S : List Nat} (h : ¬ arr (mhash g 0) (mhash g 1) (mn g 1) S) : fit g S = false := @decide_eq_false _ (Classical.propDecidable _) h
noncomputable def ovg (g : mp) (l A : List Nat) : Nat := ov (mhash g 0) (mhash g 1) (mn g 1) l A
theorem ovg_0 {g : mp} {l : List Nat} : (ovg g l [] = 0) ↔ fit g l = true := by
  unfold ovg
  rw [ov_all]
  exact (@decide_eq_true_iff _ (Classical.propDecidable _)).symm
theorem sA_h {g g2 : mp} (s : sA g g2) : mhash g2 0 = mhash g 0 ∧ mhash g2 1 = mhash g 1 ∧ mn g2 1 = mn g 1 ∧ mn g2 0 = mn g 0 := ⟨funext fun q => sA_hash s (by omega), funext fun q => sA_hash s (by omega), sA_mn s (by omega), sA_mn s (by omega)⟩
theorem sA_wS {g g2 : mp} (s : sA g g2) (h : wS g) : wS g2 := by
  obtain ⟨a1, a2, a3, a4⟩ := h
  refine ⟨fun k hk => ?_, ?_, ?_, fun k h1 hk => ?_⟩
  · rw [s k hk, sA_mn s hk]; exact a1 k hk
  · rw [sA_mn s (by omega)]; exact a2
  · rw [sA_mn s (by omega)]; exact a3
  · rw [sA_mn s hk]; exact a4 k h1 hk
/-- what is told: so many, or enough -/
def enx (N T : Nat) (r : Int32) : Prop := ∃ x, r = nI x ∧ (x = T ∨ (N ≤ x ∧ x ≤ T))
theorem lo_25 {G : tc_G} (hK : gK G) (hM : tc_p G 30 0 = 24) (hX : gX G) (hT : gT G 55 144) (hT2 : gT G 2 64) {u0 : tc_S} {g0 gm : mp} {N : Nat} (hS : wS g0) (hns : mn g0 0 * mn g0 1 ≤ 144) (hN : N ≤ 68) (hw : mwf gm) : ∀ (m i f left : Nat) (A : List Nat) (pos : Nat → Nat) (c : Nat → en) (g : mp) (u : tc_S), i + m = 68 → m < f → left ≤ i + 1 → sA g0 g → tb u 55 144 g c → cA g c A pos → mt u 2 gm → (kys (cl gm m i)).Nodup → (∀ q ∈ kys (cl gm m i), q ∉ A) → fr fA u0 u → y2 (lo_X0_leftOut_25 G f 54 2 (nI N) (nI left) (nI i) u) (fun r w => enx N (left + ovg g0 (kys (cl gm m i)) A) r ∧ (∃ g2 c2, sA g0 g2 ∧ tb w 55 144 g2 c2) ∧ fr fA u0 w) := by
  intro m
  induction m with
  | zero =>
    intro i f left A pos c g u hi hf hl hs hu hA hm hnd hna hr
    obtain ⟨f, rfl⟩ : ∃ k, f = k + 1 := ⟨f - 1, by omega⟩
    rw [lo_X0_leftOut_25, (mt_room hm).2, pu_le (by omega) (by omega), if_pos (by omega)]
    exact yl_ok ⟨⟨left, rfl, Or.inl rfl⟩, ⟨g, c, hs, hu⟩, hr⟩
  | succ m ih =>
    intro i f left A pos c g u hi hf hl hs hu hA hm hnd hna hr
    obtain ⟨f, rfl⟩ : ∃ k, f = k + 1 := ⟨f - 1, by omega⟩
    rw [lo_X0_leftOut_25, (mt_room hm).2, pu_le (by omega) (by omega), if_neg (by omega), pu_le (by omega) (by omega)]
    by_cases hen : N ≤ left
    · rw [if_pos hen]
      exact yl_ok ⟨⟨left, rfl, Or.inr ⟨hen, by omega⟩⟩, ⟨g, c, hs, hu⟩, hr⟩
    · rw [if_neg hen, hT2.2.1.1]
      refine yl_ld 69 (hT2.2.2.2 _ (by omega) (by omega)) (by omega) (by omega) ?_
      have hp := hm.2.1 i (by omega)
      have hem := pl_emp hp
      rw [cl] at hnd hna ⊢
      unfold bl_X0_leftOut_67
      by_cases c0 : (fc gm i).1 = 0
      · rw [if_pos c0, List.nil_append] at hnd hna ⊢
        refine yl_p (hem.2.1.mpr c0) (yl_let (yl_let ?_))
        rw [nI_1, show nI left + 0 = nI left from Int32.add_zero _]
        exact ih (i + 1) f left A pos c g u (by omega) (by omega) (by omega) hs hu hA hm hnd hna hr
      · rw [if_neg c0] at hnd hna ⊢
        have hnd : (ky (fc gm i) :: kys (cl gm m (i + 1))).Nodup := hnd
        have hna : ∀ q ∈ ky (fc gm i) :: kys (cl gm m (i + 1)), q ∉ A := hna
        show y2 _ (fun r w => enx N (left + ovg g0 (ky (fc gm i) :: kys (cl gm m (i + 1))) A) r ∧ (∃ g2 c2, sA g0 g2 ∧ tb w 55 144 g2 c2) ∧ fr fA u0 w)
        refine yl_n (fun q => c0 (hem.2.1.mp q)) ?_
        obtain ⟨he, hq⟩ := kent hw (j := i) (by omega) c0
        have hky : kvl 0 (fc gm i) = ky (fc gm i) := rfl
        rw [hky] at he hq
        obtain ⟨e4, -⟩ := pl_ent hp he hq
        refine yl_ld 69 (hT2.2.2.2 _ (by omega) (by omega)) (by omega) (by omega) ?_
        rw [e4]
        have hnd2 := List.nodup_cons.mp hnd
        obtain ⟨x0, x1, x2, x3⟩ := sA_h hs
        refine yl_b (pc_layKey hK hM hX hT (sA_wS hs hS) (by rw [x3, x2]; exact hns) hu hA hq (hna _ (List.mem_cons_self ..))) fun r w hr2 => ?_
        rw [x0, x1, x2] at hr2
        obtain ⟨hor, hfr⟩ := hr2
        have hm2 : mt w 2 gm := mt_fr hm hfr fun o k q1 q2 => by unfold fA fT; omega
        refine yl_let (yl_let ?_)
        rw [nI_1]
        rcases hor with ⟨y1, y2, g2, c2, pos2, y3, y4, y5⟩ | ⟨y1, y2, c2, y3, y4⟩
        · rw [y1, show nI left + 0 = nI left from Int32.add_zero _, show ovg g0 (ky (fc gm i) :: kys (cl gm m (i + 1))) A = ovg g0 (kys (cl gm m (i + 1))) (ky (fc gm i) :: A) from ov_y y2]
          refine ih (i + 1) f left (ky (fc gm i) :: A) pos2 c2 g2 w (by omega) (by omega) (by omega) (sA_trans hs y3) y4 y5 hm2 hnd2.2 (fun q hq2 => ?_) (fr_trans hr hfr)
          rw [List.mem_cons]
          rintro (z | z)
          · rw [z] at hq2; exact hnd2.1 hq2
          · exact hna q (List.mem_cons_of_mem _ hq2) z
        · rw [y1, nI_1, show ovg g0 (ky (fc gm i) :: kys (cl gm m (i + 1))) A = 1 + ovg g0 (kys (cl gm m (i + 1))) A from ov_n y2, ← Nat.add_assoc]
          exact ih (i + 1) f (left + 1) A pos c2 g w (by omega) (by omega) (by omega) hs y3 y4 hm2 hnd2.2 (fun q hq2 => hna q (List.mem_cons_of_mem _ hq2)) (fr_trans hr hfr)
theorem kys_nd {g : mp} (hw : mwf g) : (kys (mes g)).Nodup := by
  unfold kys List.Nodup
  rw [List.pairwise_map]
  refine List.Pairwise.imp_of_mem ?_ (mes_adm (h := g) hw rfl).2
  intro x y hx hy hxy
  obtain ⟨p, p1, p2⟩ := mes_key hw x hx
  obtain ⟨q, q1, q2⟩ := mes_key hw y hy
  have := hxy.1
  unfold ky
  rw [p2, q2, nI_clamp (by omega), nI_clamp (by omega)] at this ⊢
  omega
theorem pc_leftOut {G : tc_G} (hK : gK G) (hM : tc_p G 30 0 = 24) (hX : gX G) (hT : gT G 55 144) (hT2 : gT G 2 64) {u : tc_S} {g gm : mp} {N : Nat} {v : Int32} {F : List Nat} (hS : wS g) (hns : mn g 0 * mn g 1 ≤ 144) (hN : N ≤ 68) (hw : mwf gm) (hu : tS u 55 144 g) (hm : mt u 2 gm) (hF : (v = -1 ∧ F = []) ∨ ∃ k, k ≤ 999 ∧ v = nI k ∧ F = [k] ∧ k ∉ kys (mes gm)) : y2 (fn_X0_leftOut G 54 2 v (nI N) u) (fun r w => enx N (ovg g (F ++ kys (mes gm)) []) r ∧ (∃ g2, sA g g2 ∧ tS w 55 144 g2) ∧ fr fA u w) := by
  have hfu := tc_fu_big
  unfold fn_X0_leftOut bl_X0_leftOut_20
  rw [hX.2]
  refine yl_b (pc_clear hT (by omega) hS hu) fun _ w h1 => ?_
  have s1 : sA g (upd g 18 0) := sA_upd (by omega)
  have m1 : mt w 2 gm := mt_fr hm h1.2 fun o k q1 q2 => by unfold fT; omega
  have A1 : cA (upd g 18 0) c0 [] (fun _ => 0) := ⟨fun q hq => (by cases hq), fun i _ hn => absurd rfl hn, List.nodup_nil⟩
  rcases hF with ⟨v1, v2⟩ | ⟨k, k1, k2, k3, k4⟩
  · refine yl_p (by rw [v1]; decide) ?_
    have z := lo_25 hK hM hX hT hT2 (u0 := u) (g0 := g) (gm := gm) (N := N) hS hns hN hw 68 0 tc_fu 0 [] (fun _ => 0) c0 (upd g 18 0) w (by omega) (by omega) (by omega) s1 h1.1 A1 m1 (by rw [cl_mes hw]; exact kys_nd hw) (fun q _ hq => (by cases hq)) (fT_A h1.2)
    rw [cl_mes hw, Nat.zero_add] at z
    rw [v2]
    refine yl_m z fun r hr => ⟨hr.1, ?_, hr.2.2⟩
    obtain ⟨g2, c2, y1, y2⟩ := hr.2.1
    exact ⟨g2, y1, y2.1⟩
  · refine yl_n (by rw [k2]; exact nI_pos (by omega)) ?_
    rw [k2, k3]
    obtain ⟨x0, x1, x2, x3⟩ := sA_h s1
    refine yl_b (pc_layKey hK hM hX hT (sA_wS s1 hS) (by rw [x3, x2]; exact hns) h1.1 A1 k1 (by intro z; cases z)) fun r w2 hr2 => ?_
    rw [x0, x1, x2] at hr2
    obtain ⟨hor, hfr⟩ := hr2
    have hm2 : mt w2 2 gm := mt_fr m1 hfr fun o k q1 q2 => by unfold fA fT; omega
    show y2 _ (fun r w => enx N (ovg g (k :: kys (mes gm)) []) r ∧ (∃ g2, sA g g2 ∧ tS w 55 144 g2) ∧ fr fA u w)
    rcases hor with ⟨y1, y2, g2, c2, pos2, y3, y4, y5⟩ | ⟨y1, y2, c2, y3, y4⟩
    · rw [y1, show ovg g (k :: kys (mes gm)) [] = ovg g (kys (mes gm)) [k] from ov_y y2]
      have z := lo_25 hK hM hX hT hT2 (u0 := u) (g0 := g) (gm := gm) (N := N) hS hns hN hw 68 0 tc_fu 0 [k] pos2 c2 g2 w2 (by omega) (by omega) (by omega) (sA_trans s1 y3) y4 y5 hm2 (by rw [cl_mes hw]; exact kys_nd hw) (fun q hq hk => by
        rw [cl_mes hw] at hq
        rw [List.mem_singleton] at hk
        rw [hk] at hq
        exact k4 hq) (fr_trans (fT_A h1.2) hfr)
      rw [cl_mes hw, Nat.zero_add] at z
      refine yl_m z fun r hr => ⟨hr.1, ?_, hr.2.2⟩
      obtain ⟨g2, c2, y1, y2⟩ := hr.2.1
      exact ⟨g2, y1, y2.1⟩
    · rw [y1, show ovg g (k :: kys (mes gm)) [] = 1 + ovg g (kys (mes gm)) [] from ov_n y2]
      have z := lo_25 hK hM hX hT hT2 (u0 := u) (g0 := g) (gm := gm) (N := N) hS hns hN hw 68 0 tc_fu 1 [] (fun _ => 0) c2 (upd g 18 0) w2 (by omega) (by omega) (by omega) s1 y3 y4 hm2 (by rw [cl_mes hw]; exact kys_nd hw) (fun q _ hq => (by cases hq)) (fr_trans (fT_A h1.2) hfr)
      rw [cl_mes hw] at z
      refine yl_m z fun r hr => ⟨hr.1, ?_, hr.2.2⟩
      obtain ⟨g2, c2, y1, y2⟩ := hr.2.1
      exact ⟨g2, y1, y2.1⟩
theorem pc_allFit {G : tc_G} (hK : gK G) (hM : tc_p G 30 0 = 24) (hX : gX G) (hT : gT G 55 144) (hT2 : gT G 2 64) {u : tc_S} {g gm : mp} {v : Int32} {F : List Nat} (hS : wS g) (hns : mn g 0 * mn g 1 ≤ 144) (hw : mwf gm) (hu : tS u 55 144 g) (hm : mt u 2 gm) (hF : (v = -1 ∧ F = []) ∨ ∃ k, k ≤ 999 ∧ v = nI k ∧ F = [k] ∧ k ∉ kys (mes gm)) : y2 (fn_X0_allFit G 54 2 v u) (fun r w => r = (if fit g (F ++ kys (mes gm)) = true then 1 else 0) ∧ (∃ g2, sA g g2 ∧ tS w 55 144 g2) ∧ fr fA u w) := by
  unfold fn_X0_allFit bl_X0_allFit_15
  refine yl_b (pc_leftOut hK hM hX hT hT2 (N := 1) hS hns (by omega) hw hu hm hF) fun r w hr => ?_
  obtain ⟨⟨x, x1, x2⟩, h2, h3⟩ := hr
  have hle : x ≤ 70 := by
    have := ov_le (h0 := mhash g 0) (h1 := mhash g 1) (sl := mn g 1) (F ++ kys (mes gm)) []
    rw [List.length_append] at this
    have l1 : (kys (mes gm)).length ≤ 68 := by unfold kys; rw [List.length_map]; exact mes_len hw
    have l2 : F.length ≤ 1 := by
      rcases hF with ⟨_, z⟩ | ⟨k, _, _, z, _⟩ <;> rw [z] <;> simp
    unfold ovg at x2
    omega
  have key : x = 0 ↔ fit g (F ++ kys (mes gm)) = true := by
    rw [← ovg_0]
    omega
  by_cases c : fit g (F ++ kys (mes gm)) = true
  · rw [if_pos c]
    refine yl_p (by rw [x1, key.mpr c]; rfl) (yl_z1 (yl_ok ⟨rfl, h2, h3⟩))
  · rw [if_neg c]
    refine yl_n ?_ (yl_z0 (yl_ok ⟨rfl, h2, h3⟩))
    rw [x1]
    have hx0 : x ≠ 0 := fun z => c (key.mp z)
    exact nI_ne0 (by omega) (by omega)
