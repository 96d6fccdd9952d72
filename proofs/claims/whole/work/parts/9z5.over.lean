/-! over, fits, least: the class -/
theorem fA_c {u w : tc_S} (h : fr fA u w) : fr fMc u w := fr_mono h fun o k q => by unfold fA fT at q; unfold fMc; omega
theorem pc_take {G : tc_G} (hX : gX G) (hT : gT G 55 144) (hT2 : gT G 2 64) {u : tc_S} {gm : mp} (hr : tR u 55 144) (hm : mt u 2 gm) : y2 (fn_X0_takeSettings G 54 2 u) (fun _ w => (∃ g, sA gm g ∧ tS w 55 144 g) ∧ mt w 2 gm ∧ fr fA u w) := by
  unfold fn_X0_takeSettings
  rw [hX.2, hT.1.1, hT2.1.1]
  refine yl_b (pc_copyS (t := 55) (s := 2) hT.1.2 hT2.1.2 (by omega)) fun _ w hw => ?_
  obtain ⟨w1, w2, w3⟩ := hw
  refine yl_ok ⟨⟨fun k => if k < 11 then gm k else if k = 11 then gm 11 else if k = 18 then w.1 55 10 else w.1 55 (k - 1), fun k hk => if_pos hk, ⟨?_, ?_⟩, fun k hk => ?_, ?_, fun k h1 h2 => ?_, ?_⟩, mt_fr hm w3 fun o k q1 q2 => by omega, fr_mono w3 fun o k q => by unfold fA fT; omega⟩
  · rw [w3 _ _ (by omega)]; exact hr.1
  · rw [w3 _ _ (by omega)]; exact hr.2
  · rw [w1 k hk]
    dsimp only
    rw [if_pos hk]
    exact mt_set hm hk
  · rw [w2]
    dsimp only
    rw [if_neg (by omega), if_pos rfl]
    exact hm.1.2.2.1
  · dsimp only
    rw [if_neg (by omega), if_neg (by omega), if_neg (by omega)]
  · dsimp only
    rw [if_neg (by omega), if_neg (by omega), if_pos rfl]
theorem wA_144 {g : mp} (a : wA g) : mn g 0 * mn g 1 ≤ 144 := by have := nbns a; omega
theorem kys_len {g : mp} (hw : mwf g) : (kys (mes g)).length ≤ 68 := by unfold kys; rw [List.length_map]; exact mes_len hw
theorem sA_ov {g g2 : mp} (s : sA g g2) (l A : List Nat) : ovg g2 l A = ovg g l A := by
  unfold ovg
  obtain ⟨x0, x1, x2, x3⟩ := sA_h s
  rw [x0, x1, x2]
theorem sA_fit {g g2 : mp} (s : sA g g2) (l : List Nat) : fit g2 l = fit g l := by
  unfold fit
  obtain ⟨x0, x1, x2, x3⟩ := sA_h s
  rw [x0, x1, x2]
theorem mt_over {G : tc_G} (hA : gA G) (hX : gX G) {u : tc_S} {P : Nat} {g : mp} (hu : cC u P g) : y2 (fn_X11_over G 0 u) (fun r w => r = nI (ovg g (kys (mes g)) []) ∧ mt w 2 g ∧ fr fMc u w) := by
  obtain ⟨⟨o0, o1, o2, o3, o4, o5, o6, o7, o8, o9, o10⟩, ⟨a1, a2, a3⟩, ⟨a4, a5, a6, a7⟩, b1, b2, b3, b4⟩ := hA
  have hw := hu.2.1.1
  have aa := hw.1.1
  unfold fn_X11_over
  rw [o8, o0, o1]
  refine yl_b (pc_take hX a7 a4 hu.2.2.2.2 hu.1) fun _ w h1 => ?_
  obtain ⟨⟨g1, s1, t1⟩, m1, f1⟩ := h1
  refine yl_b (pc_leftOut a1 a2.1 hX a7 a4 (N := 68) (F := []) (sA_wS s1 (wA_wS aa)) (by rw [sA_mn s1 (by omega), sA_mn s1 (by omega)]; exact wA_144 aa) (by omega) hw t1 m1 (Or.inl ⟨rfl, rfl⟩)) fun r v hr => ?_
  obtain ⟨⟨x, x1, x2⟩, -, x3⟩ := hr
  refine yl_ok ⟨?_, mt_fr m1 x3 fun o k q1 q2 => by unfold fA fT; omega, fA_c (fr_trans f1 x3)⟩
  rw [x1]
  refine congrArg nI ?_
  rw [List.nil_append, sA_ov s1] at x2
  have := ov_le (h0 := mhash g 0) (h1 := mhash g 1) (sl := mn g 1) (kys (mes g)) []
  have := kys_len hw
  unfold ovg at x2 ⊢
  omega
/-- the key that is asked for, where it isn't there -/
def ftF (g : mp) (q : Nat) : List Nat := if (mloc g q).isSome = true then [] else [q]
theorem kys_mem {g : mp} (hw : mwf g) {q : Nat} (hq : q ≤ 999) : q ∈ kys (mes g) ↔ (mloc g q).isSome = true := by
  unfold kys
  rw [List.mem_map]
  constructor
  · rintro ⟨e, e1, e2⟩
    obtain ⟨i, i1, i2⟩ := List.mem_map.mp e1
    have i1 := (mcl_mem hw).mp i1
    rw [mloc_self hw hq i1.1 ?_]
    · rfl
    · rw [← i2] at e2
      unfold ky at e2
      have : ck g i - 1 = q := e2
      have := i1.2
      omega
  · intro h
    obtain ⟨i, hi⟩ := Option.isSome_iff_exists.mp h
    have sp := mloc_sp hw hq hi
    refine ⟨gc g i, List.mem_map.mpr ⟨i, (mcl_mem hw).mpr ⟨sp.1, by omega⟩, rfl⟩, ?_⟩
    show ck g i - 1 = q
    omega
theorem mt_fits {G : tc_G} (hA : gA G) (hX : gX G) {u : tc_S} {P q : Nat} {g : mp} (hu : cC u P g) (hq : q ≤ 999) (hn : fn_X11_isNumber G (nI q) u = some (1, u)) : y2 (fn_X11_fits G 0 (nI q) u) (fun r w => r = (if fit g (ftF g q ++ kys (mes g)) = true then 1 else 0) ∧ mt w 2 g ∧ fr fMc u w) := by
  obtain ⟨⟨o0, o1, o2, o3, o4, o5, o6, o7, o8, o9, o10⟩, ⟨a1, a2, a3⟩, ⟨a4, a5, a6, a7⟩, b1, b2, b3, b4⟩ := hA
  have hw := hu.2.1.1
  have aa := hw.1.1
  unfold fn_X11_fits bl_X11_fits_43
  rw [o8, o0, o1]
  refine yl_e hn (yl_n i_n1 ?_)
  refine yl_b (pc_take hX a7 a4 hu.2.2.2.2 hu.1) fun _ w h1 => ?_
  obtain ⟨⟨g1, s1, t1⟩, m1, f1⟩ := h1
  refine yl_e (mt_locate a4 hw m1 hq) ?_
  have fin : ∀ v, ((v = -1 ∧ ftF g q = []) ∨ ∃ k, k ≤ 999 ∧ v = nI k ∧ ftF g q = [k] ∧ k ∉ kys (mes g)) → y2 (tc_b (fn_X0_allFit G 54 2 v w) fun x1 u2 => tc_zo x1 <| some (x1, u2)) (fun r w => r = (if fit g (ftF g q ++ kys (mes g)) = true then 1 else 0) ∧ mt w 2 g ∧ fr fMc u w) := by
    intro v hv
    refine yl_b (pc_allFit a1 a2.1 hX a7 a4 (F := ftF g q) (sA_wS s1 (wA_wS aa)) (by rw [sA_mn s1 (by omega), sA_mn s1 (by omega)]; exact wA_144 aa) hw t1 m1 hv) fun r z hr => ?_
    obtain ⟨r1, -, r3⟩ := hr
    rw [sA_fit s1] at r1
    have mz : mt z 2 g := mt_fr m1 r3 fun o k q1 q2 => by unfold fA fT; omega
    rw [r1]
    by_cases c : fit g (ftF g q ++ kys (mes g)) = true
    · rw [if_pos c]; exact yl_z1 (yl_ok ⟨rfl, mz, fA_c (fr_trans f1 r3)⟩)
    · rw [if_neg c]; exact yl_z0 (yl_ok ⟨rfl, mz, fA_c (fr_trans f1 r3)⟩)
  cases hl : mloc g q with
  | some i =>
    have lx := fx_lt aa (mloc_vc hw hq hl).1
    have := (mloc_vc hw hq hl).2.1
    refine yl_p (nI_pos' (show fx g i < 2 ^ 31 by omega)) (fin (-1) (Or.inl ⟨rfl, ?_⟩))
    unfold ftF
    rw [hl]
    rfl
  | none =>
    refine yl_n (show ¬ (0 : Int32) ≤ -1 by decide) (fin (nI q) (Or.inr ⟨q, hq, rfl, ?_, ?_⟩))
    · unfold ftF
      rw [hl]
      rfl
    · rw [kys_mem hw hq, hl]
      decide
/-- the settings that are tried -/
def gn (g : mp) (y : Int32) (n : Nat) : mp := if y = 0 then upd g 0 (nI n) else if y = 1 then upd g 1 (nI n) else mdh (upd g 11 (nI n))
def gnok (y : Int32) (n : Nat) : Prop := 1 ≤ n ∧ ((y = 0 ∧ n ≤ 32) ∨ (y = 1 ∧ n ≤ 9) ∨ (¬ y = 0 ∧ ¬ y = 1))
theorem gn_wS {g : mp} {y : Int32} {n : Nat} (a : wA g) (h : gnok y n) : wS (gn g y n) ∧ mn (gn g y n) 0 * mn (gn g y n) 1 ≤ 144 := by
  obtain ⟨h1, h2⟩ := h
  have hS := wA_wS a
  unfold gn
  rcases h2 with ⟨h2, h3⟩ | ⟨h2, h3⟩ | ⟨h2, h3⟩
  · rw [if_pos h2]
    have e0 : mn (upd g 0 (nI n)) 0 = n := by unfold mn; rw [upd_eq, nI_clamp (by omega)]
    have ek : ∀ k, k ≠ 0 → mn (upd g 0 (nI n)) k = mn g k := fun k hk => mn_upd hk
    refine ⟨⟨fun k hk => ?_, by rw [e0]; omega, by rw [ek 1 (by omega)]; exact hS.2.2.1, fun k k1 k2 => by rw [ek k (by omega)]; exact hS.2.2.2 k k1 k2⟩, ?_⟩
    · by_cases z : k = 0
      · rw [z, e0, upd_eq]
      · rw [ek k z, upd_ne z]; exact hS.1 k hk
    · rw [e0, ek 1 (by omega)]
      have := Nat.mul_le_mul h3 a.2.2.1.2
      omega
  · rw [if_neg (by rw [h2]; decide), if_pos h2]
    have e0 : mn (upd g 1 (nI n)) 1 = n := by unfold mn; rw [upd_eq, nI_clamp (by omega)]
    have ek : ∀ k, k ≠ 1 → mn (upd g 1 (nI n)) k = mn g k := fun k hk => mn_upd hk
    refine ⟨⟨fun k hk => ?_, by rw [ek 0 (by omega)]; exact hS.2.1, by rw [e0]; omega, fun k k1 k2 => by rw [ek k (by omega)]; exact hS.2.2.2 k k1 k2⟩, ?_⟩
    · by_cases z : k = 1
      · rw [z, e0, upd_eq]
      · rw [ek k z, upd_ne z]; exact hS.1 k hk
    · rw [e0, ek 0 (by omega)]
      have := Nat.mul_le_mul a.2.1.2 h3
      omega
  · rw [if_neg h2, if_neg h3]
    have a2 := wA_mdh (sA_wA (sA_upd (k := 11) (x := nI n) (by omega)) a)
    exact ⟨wA_wS a2, wA_144 a2⟩
theorem mdh1_c {g g2 : mp} {j : Nat} {n a : Int32} (hj : j < 4) (h11 : g2 11 = g 11) (h : ∀ k, k < 7 + j → g2 k = g k) : mdh1 g2 j n a 11 = mdh1 g j n a 11 ∧ ∀ k, k < 7 + (j + 1) → mdh1 g2 j n a k = mdh1 g j n a k := by
  unfold mdh1
  rw [h11]
  refine ⟨?_, fun k hk => ?_⟩
  · rw [upd_ne (show 11 ≠ 7 + j by omega), upd_ne (show 11 ≠ 7 + j by omega), upd_eq, upd_eq]
  · by_cases c : k = 7 + j
    · rw [c, upd_eq, upd_eq]
    · rw [upd_ne c, upd_ne c, upd_ne (by omega), upd_ne (by omega)]
      exact h k (by omega)
theorem mdh_c {g g2 : mp} (h11 : g2 11 = g 11) (h : ∀ k, k < 7 → g2 k = g k) : sA (mdh g) (mdh g2) := by
  unfold mdh
  have s1 := mdh1_c (j := 0) (n := 1008) (a := 1) (by omega) h11 h
  have s2 := mdh1_c (j := 1) (n := 1009) (a := 0) (by omega) s1.1 s1.2
  have s3 := mdh1_c (j := 2) (n := 1008) (a := 1) (by omega) s2.1 s2.2
  have s4 := mdh1_c (j := 3) (n := 1009) (a := 0) (by omega) s3.1 s3.2
  exact s4.2
/-- the trial's settings are the map's, but for what is tried -/
def gnr (y : Int32) (gm g : mp) : Prop := ∀ k, k < 11 → (y = 0 → k ≠ 0) → (¬ y = 0 → y = 1 → k ≠ 1) → (¬ y = 0 → ¬ y = 1 → k < 7) → g k = gm k
theorem gnr_gn {y : Int32} {gm g : mp} {n : Nat} (h : sA (gn gm y n) g) : gnr y gm g := by
  intro k hk h1 h2 h3
  rw [h k hk]
  unfold gn
  by_cases c0 : y = 0
  · rw [if_pos c0, upd_ne (h1 c0)]
  · rw [if_neg c0]
    by_cases c1 : y = 1
    · rw [if_pos c1, upd_ne (h2 c0 c1)]
    · have := h3 c0 c1
      rw [if_neg c1, mdh_k (by omega) (Or.inl this), upd_ne (by omega)]
theorem pc_change {G : tc_G} (hX : gX G) (hT : gT G 55 144) {u : tc_S} {gm g : mp} {y : Int32} {n : Nat} (h : tS u 55 144 g) (hr : gnr y gm g) : y2 (fn_X0_change G 54 y (nI n) u) (fun _ w => (∃ g2, sA (gn gm y n) g2 ∧ tS w 55 144 g2) ∧ fr fA u w) := by
  unfold fn_X0_change bl_X0_change_61
  rw [hX.2, hT.1.1, hT.1.2]
  by_cases c0 : y = 0
  · refine yl_p c0 (yl_let (yl_ok ⟨⟨upd g 0 (nI n), fun k hk => ?_, tS_upd h (by omega) 56 0 (Or.inl ⟨by omega, rfl, rfl⟩) rfl⟩, fr_w fr_refl (Or.inl ⟨by omega, by omega, by omega⟩)⟩))
    unfold gn
    rw [if_pos c0]
    by_cases z : k = 0
    · rw [z, upd_eq, upd_eq]
    · rw [upd_ne z, upd_ne z]; exact hr k hk (fun _ => z) (fun q => absurd c0 q) (fun q => absurd c0 q)
  · refine yl_n c0 ?_
    by_cases c1 : y = 1
    · refine yl_p c1 (yl_let (yl_ok ⟨⟨upd g 1 (nI n), fun k hk => ?_, tS_upd h (by omega) 56 1 (Or.inl ⟨by omega, rfl, rfl⟩) rfl⟩, fr_w fr_refl (Or.inl ⟨by omega, by omega, by omega⟩)⟩))
      unfold gn
      rw [if_neg c0, if_pos c1]
      by_cases z : k = 1
      · rw [z, upd_eq, upd_eq]
      · rw [upd_ne z, upd_ne z]; exact hr k hk (fun q => absurd q c0) (fun _ _ => z) (fun _ q => absurd c1 q)
    · refine yl_n c1 (yl_let ?_)
      have t1 : tS (tc_w u 57 0 (nI n)) 55 144 (upd g 11 (nI n)) := tS_upd h (by omega) 57 0 (Or.inr (Or.inl ⟨rfl, rfl, rfl⟩)) rfl
      refine yl_b (pc_drawHashes (t := 55) hT.1.2 t1) fun _ w hw => yl_ok ⟨⟨_, ?_, hw.1⟩, fr_trans (fr_w fr_refl (Or.inl ⟨by omega, by omega, by omega⟩)) (fT_A hw.2)⟩
      unfold gn
      rw [if_neg c0, if_neg c1]
      refine mdh_c ?_ fun k hk => ?_
      · rw [upd_eq, upd_eq]
      · rw [upd_ne (by omega), upd_ne (by omega)]
        exact hr k (by omega) (fun q => absurd q c0) (fun _ q => absurd q c1) (fun _ _ => hk)
theorem pc_least13 {G : tc_G} (hK : gK G) (hM : tc_p G 30 0 = 24) (hX : gX G) (hT : gT G 55 144) (hT2 : gT G 2 64) {u0 : tc_S} {gm : mp} {y : Int32} {M : Nat} (hw : mwf gm) (hM2 : M ≤ 40) (hok : ∀ n, 1 ≤ n → n ≤ M → gnok y n) : ∀ (m n f : Nat) (g : mp) (u : tc_S), n + m = M + 1 → m < f → 1 ≤ n → gnr y gm g → tS u 55 144 g → mt u 2 gm → fr fA u0 u → y2 (lo_X0_leastOf_13 G f 54 2 y (nI M) (nI n) u) (fun r w => r = oI (ff (fun n => fit (gn gm y n) (kys (mes gm))) m n) ∧ fr fA u0 w) := by
  intro m
  induction m with
  | zero =>
    intro n f g u hn hf h1 hr hu hm hfr
    obtain ⟨f, rfl⟩ : ∃ k, f = k + 1 := ⟨f - 1, by omega⟩
    rw [lo_X0_leastOf_13, pu_lt (by omega) (by omega), if_pos (by omega)]
    exact yl_ok ⟨rfl, hfr⟩
  | succ m ih =>
    intro n f g u hn hf h1 hr hu hm hfr
    obtain ⟨f, rfl⟩ : ∃ k, f = k + 1 := ⟨f - 1, by omega⟩
    rw [lo_X0_leastOf_13, pu_lt (by omega) (by omega), if_neg (by omega), ff]
    refine yl_b (pc_change hX hT hu hr) fun _ w hw2 => ?_
    obtain ⟨⟨g2, s2, t2⟩, f2⟩ := hw2
    have m2 : mt w 2 gm := mt_fr hm f2 fun o k q1 q2 => by unfold fA fT; omega
    have gw := gn_wS hw.1.1 (hok n h1 (by omega))
    refine yl_b (pc_allFit hK hM hX hT hT2 (F := []) (sA_wS s2 gw.1) (by rw [sA_mn s2 (by omega), sA_mn s2 (by omega)]; exact gw.2) hw t2 m2 (Or.inl ⟨rfl, rfl⟩)) fun r v hv => ?_
    obtain ⟨v1, ⟨g3, s3, t3⟩, f3⟩ := hv
    rw [sA_fit s2, List.nil_append] at v1
    rw [v1]
    by_cases c : fit (gn gm y n) (kys (mes gm)) = true
    · rw [if_pos c, if_pos c]
      exact yl_n i_n1 (yl_ok ⟨rfl, fr_trans hfr (fr_trans f2 f3)⟩)
    · rw [if_neg c, if_neg c]
      refine yl_p rfl (yl_let ?_)
      rw [nI_1]
      exact ih (n + 1) f g3 v (by omega) (by omega) (by omega) (gnr_gn (sA_trans s2 s3)) t3 (mt_fr m2 f3 fun o k q1 q2 => by unfold fA fT; omega) (fr_trans hfr (fr_trans f2 f3))
noncomputable def lsR (g : mp) (y : Int32) : Int32 := if y.toInt = 0 then oI (ff (fun n => fit (gn g y n) (kys (mes g))) 32 1) else if y.toInt = 1 then oI (ff (fun n => fit (gn g y n) (kys (mes g))) 9 1) else if y.toInt = 2 then oI (ff (fun n => fit (gn g y n) (kys (mes g))) 40 1) else -1
theorem mt_least {G : tc_G} (hA : gA G) (hX : gX G) {u : tc_S} {P : Nat} {g : mp} (y : Int32) (hu : cC u P g) : y2 (fn_X11_least G 0 y u) (fun r w => r = lsR g y ∧ mt w 2 g ∧ fr fMc u w) := by
  have hfu := tc_fu_big
  obtain ⟨⟨o0, o1, o2, o3, o4, o5, o6, o7, o8, o9, o10⟩, ⟨a1, a2, a3⟩, ⟨a4, a5, a6, a7⟩, b1, b2, b3, b4⟩ := hA
  have hw := hu.2.1.1
  have aa := hw.1.1
  unfold fn_X11_least fn_X0_leastOf
  rw [o8, o0, o1]
  have inner : y2 (tc_b (fn_X0_takeSettings G 54 2 u) fun x10 u11 => tc_b (fn_X0_mostOf G y u11) fun x13 u14 => lo_X0_leastOf_13 G tc_fu 54 2 y x13 1 u14) (fun r w => r = lsR g y ∧ fr fA u w) := by
    refine yl_b (pc_take hX a7 a4 hu.2.2.2.2 hu.1) fun _ w h1 => ?_
    obtain ⟨⟨g1, s1, t1⟩, m1, f1⟩ := h1
    have gr : gnr y g g1 := fun k hk _ _ _ => s1 k hk
    have i0 : y.toInt = 0 → y = 0 := fun z => ti (k := 0) (by omega) z
    have i1 : y.toInt = 1 → y = 1 := fun z => ti (k := 1) (by omega) z
    unfold fn_X0_mostOf lsR
    by_cases c0 : y.toInt = 0
    · rw [if_pos c0, if_pos c0]
      exact yl_e (r := 32) rfl (pc_least13 a1 a2.1 hX a7 a4 (M := 32) hw (by omega) (fun n n1 n2 => ⟨n1, Or.inl ⟨i0 c0, n2⟩⟩) 32 1 tc_fu g1 w (by omega) (by omega) (by omega) gr t1 m1 f1)
    · rw [if_neg c0, if_neg c0]
      by_cases c1 : y.toInt = 1
      · rw [if_pos c1, if_pos c1]
        exact yl_e (r := 9) rfl (pc_least13 a1 a2.1 hX a7 a4 (M := 9) hw (by omega) (fun n n1 n2 => ⟨n1, Or.inr (Or.inl ⟨i1 c1, n2⟩)⟩) 9 1 tc_fu g1 w (by omega) (by omega) (by omega) gr t1 m1 f1)
      · rw [if_neg c1, if_neg c1]
        have n0 : ¬ y = 0 := fun z => c0 (by rw [z]; rfl)
        have n1 : ¬ y = 1 := fun z => c1 (by rw [z]; rfl)
        by_cases c2 : y.toInt = 2
        · rw [if_pos c2, if_pos c2]
          exact yl_e (r := 40) rfl (pc_least13 a1 a2.1 hX a7 a4 (M := 40) hw (by omega) (fun n m1 m2 => ⟨m1, Or.inr (Or.inr ⟨n0, n1⟩)⟩) 40 1 tc_fu g1 w (by omega) (by omega) (by omega) gr t1 m1 f1)
        · rw [if_neg c2, if_neg c2]
          exact yl_e (r := 0) rfl (pc_least13 a1 a2.1 hX a7 a4 (M := 0) hw (by omega) (fun n m1 m2 => by omega) 0 1 tc_fu g1 w (by omega) (by omega) (by omega) gr t1 m1 f1)
  refine yl_b inner fun r w hr => yl_ok ⟨hr.1, mt_fr hu.1 hr.2 fun o k q1 q2 => by unfold fA fT; omega, fA_c hr.2⟩
