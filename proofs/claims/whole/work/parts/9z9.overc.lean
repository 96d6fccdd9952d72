/-! over, fits, least: the reference, the calls -/
theorem esK_of {es : List en} (h1 : ∀ e ∈ es, ∃ q, q ≤ 999 ∧ e.1 = nI (q + 1)) (h2 : (kys es).Nodup) (h3 : es.length ≤ 69) : esK es := by
  have kg : ∀ k (h : k < es.length), kq es k = ky es[k] := fun k h => by unfold kq; rw [List.getElem?_eq_getElem h]; rfl
  refine ⟨fun k h => ?_, fun j k hj hk => ?_, h3⟩
  · obtain ⟨q, q1, q2⟩ := h1 _ (List.getElem_mem h)
    have : kq es k = q := by
      rw [kg k h]
      unfold ky
      rw [q2, nI_clamp (by omega)]
      omega
    rw [this]
    exact ⟨q2, q1⟩
  · rw [kg j (by omega), kg k hk]
    have := List.pairwise_iff_getElem.mp h2 j k (by unfold kys; rw [List.length_map]; omega) (by unfold kys; rw [List.length_map]; omega) hj
    unfold kys at this
    rw [List.getElem_map, List.getElem_map] at this
    exact this
theorem esK_mes {g : mp} (hw : mwf g) : esK (mes g) := esK_of (mes_key hw) (kys_nd hw) (by have := mes_len hw; omega)
theorem pm_asNow {G : tc_G} (hG : gm G) (h6 : gm6 G) {u0 : tc_S} {g : mp} : ∀ (n k f : Nat) (u : tc_S), k + n = 4 → n < f → isM u 0 g → (∀ i, i < k → u.1 87 i = g (7 + i)) → fr (fun o _ => o = 87) u0 u → y2 (lo_X12_asNow_2 G f 71 (nI k) u) (fun _ w => byS w g ∧ fr (fun o _ => o = 87) u0 w) := by
  intro n
  induction n with
  | zero =>
    intro k f u hk hf hM hb hr
    obtain ⟨f, rfl⟩ : ∃ k, f = k + 1 := ⟨f - 1, by omega⟩
    rw [lo_X12_asNow_2, show (4 : Int32) = nI 4 from rfl, pu_le (by omega) (by omega), if_pos (by omega)]
    exact yl_ok ⟨fun i hi => hb i (by omega), hr⟩
  | succ n ih =>
    intro k f u hk hf hM hb hr
    obtain ⟨f, rfl⟩ : ∃ k, f = k + 1 := ⟨f - 1, by omega⟩
    rw [lo_X12_asNow_2, show (4 : Int32) = nI 4 from rfl, pu_le (by omega) (by omega), if_neg (by omega), hG.1.1, h6.1.2.2.2, show (7 : Int32) + nI k = nI (0 + (7 + k)) from (nI_add 7 k).trans (by rw [Nat.zero_add]), isM_ld hG hM (by omega) (by omega)]
    refine yl_sd 4 h6.2.2.2.2 (by omega) (by omega) (yl_let ?_)
    rw [nI_1]
    refine ih (k + 1) f _ (by omega) (by omega) (fun j hj => by rw [w_get, if_neg (by omega)]; exact hM j hj) (fun i hi => ?_) (fr_w hr rfl)
    rw [w_get]
    by_cases d : i = k
    · rw [if_pos ⟨rfl, d⟩, d]
    · rw [if_neg (fun z => d z.2)]; exact hb i (by omega)
theorem pm_asNow0 {G : tc_G} (hG : gm G) (h6 : gm6 G) {u : tc_S} {g : mp} (hM : isM u 0 g) : y2 (fn_X12_asNow G 71 u) (fun _ w => byS w g ∧ fr (fun o _ => o = 87) u w) := by
  have hfu := tc_fu_big
  unfold fn_X12_asNow
  exact pm_asNow hG h6 (u0 := u) 4 0 tc_fu u (by omega) (by omega) hM (fun i hi => by omega) fr_refl
theorem pr_begin {G : tc_G} (hG : gm G) (h4 : gm4 G) (h6 : gm6 G) {u : tc_S} {g : mp} {R : Type} {k : Int32 → tc_S → Option R} {Q : R → Prop} (hM : isM u 0 g) (hw : mwf g) (hk : ∀ r w, isM w 0 g → ls w (mes g) → byS w g → fr fMr u w → yl (k r w) Q) : yl (tc_b (fn_X12_lists G 71 0 u) fun _ u2 => tc_b (fn_X12_asNow G 71 u2) k) Q := by
  have l1 : y2 (fn_X12_lists G 71 0 u) (fun _ w => ls w (mes g) ∧ fr fL u w) := pm_lists hG h4 (B := 0) (by omega) hM hw
  refine yl_b l1 fun _ w hx => ?_
  have m1 := isM_L hM hx.2
  refine yl_b (pm_asNow0 hG h6 m1) fun r v hv => ?_
  exact hk r v (isM_fr m1 hv.2 fun k _ => by omega) (ls_fr hx.1 hv.2 (fun k => by omega) (by omega)) hv.1 (fr_trans (fL_r hx.2) (fr_mono hv.2 fun o k q => by unfold fMr; omega))
theorem fB_r {u w : tc_S} (h : fr fB u w) : fr fMr u w := fr_mono h fun o k q => by unfold fB at q; unfold fMr; omega
theorem isM_B {u w : tc_S} {B : Nat} {g : mp} (h : isM u B g) (hf : fr fB u w) : isM w B g := isM_fr h hf fun k _ => by unfold fB; omega
theorem pr_over {G : tc_G} (hG : gm G) (h4 : gm4 G) (h6 : gm6 G) {u : tc_S} {g : mp} (hM : isM u 0 g) (hw : mwf g) : y2 (fn_X12_over G 71 u) (fun r w => r = nI (ovg g (kys (mes g)) []) ∧ isM w 0 g ∧ fr fMr u w) := by
  have aa := hw.1.1
  unfold fn_X12_over
  refine pr_begin hG h4 h6 hM hw fun _ w m1 l1 b1 f1 => ?_
  have z0 : ∀ {β : Type} (kk : Int32 → Option β), tc_ld G w 72 0 kk = kk (g 0) := fun kk => isM_ld hG (B := 0) (k := 0) m1 (by omega) (by omega)
  have z1 : ∀ {β : Type} (kk : Int32 → Option β), tc_ld G w 72 1 kk = kk (g 1) := fun kk => isM_ld hG (B := 0) (k := 1) m1 (by omega) (by omega)
  rw [hG.1.1, z0, z1, aa.1 0 (by omega), aa.1 1 (by omega)]
  refine yl_b (pr_overBy h4 h6 (wA_wS aa) (esK_mes hw) l1 b1) fun r v hv => ?_
  exact yl_ok ⟨hv.1, isM_B m1 hv.2, fr_trans f1 (fB_r hv.2)⟩
/-- the call over -/
theorem c_over {G : tc_G} (hA : gA G) (hX : gX G) (h6 : gm6 G) {L : tc_L} {u : tc_S} {P : Nat} {g : mp} (hu : cC u P g) (hM : isM u 0 g) : ∃ g2 P2, P2 ≤ P + 12 ∧ yl (tc_b (fn_X11_over G 0 u) fun r1 u1 => tc_b (fn_X12_over G 71 u1) fun r2 u2 => if r1 = r2 then some (L, u2) else none) (pqq L u P2 g2) :=
  ⟨g, P, by omega, pr_call (R := nI (ovg g (kys (mes g)) [])) hu hM hu.2.1 (mt_over hA hX hu) fun w hw => pr_over hA.2.2.2.1 hA.2.2.2.2.2.2 h6 hw hu.2.1.1⟩
theorem fit_perm {g : mp} {l m : List Nat} (h : l.Perm m) : fit g l = fit g m := by
  unfold fit
  exact @decide_eq_decide _ _ (Classical.propDecidable _) (Classical.propDecidable _) |>.mpr ⟨arr_perm h, arr_perm h.symm⟩
theorem ovg_nI {g : mp} {l : List Nat} (hl : l.length ≤ 69) : nI (ovg g l []) = 0 ↔ fit g l = true := by
  rw [← ovg_0]
  have := ov_le (h0 := mhash g 0) (h1 := mhash g 1) (sl := mn g 1) l []
  have h2 : ovg g l [] ≤ 69 := Nat.le_trans this hl
  constructor
  · intro h
    by_cases c : ovg g l [] = 0
    · exact c
    · exact absurd h (nI_ne0 (by omega) (by omega))
  · intro h
    rw [h]
    rfl
theorem pr_fits34 {G : tc_G} (hG : gm G) (h4 : gm4 G) (h6 : gm6 G) {u0 u : tc_S} {g : mp} {es : List en} {l : List Nat} (hw : mwf g) (hes : esK es) (hl : ls u es) (hb : byS u g) (hM : isM u 0 g) (hf : fr fMr u0 u) (hp : (kys es).Perm l) : y2 (bl_X12_fits_34 G 71 u) (fun r w => r = (if fit g l = true then 1 else 0) ∧ isM w 0 g ∧ fr fMr u0 w) := by
  have aa := hw.1.1
  unfold bl_X12_fits_34 bl_X12_fits_58
  have z0 : ∀ {β : Type} (kk : Int32 → Option β), tc_ld G u 72 0 kk = kk (g 0) := fun kk => isM_ld hG (B := 0) (k := 0) hM (by omega) (by omega)
  have z1 : ∀ {β : Type} (kk : Int32 → Option β), tc_ld G u 72 1 kk = kk (g 1) := fun kk => isM_ld hG (B := 0) (k := 1) hM (by omega) (by omega)
  rw [hG.1.1, z0, z1, aa.1 0 (by omega), aa.1 1 (by omega)]
  refine yl_b (pr_overBy h4 h6 (wA_wS aa) hes hl hb) fun r v hv => ?_
  have e := ovg_nI (g := g) (l := kys es) (by unfold kys; rw [List.length_map]; exact hes.2.2)
  have hv1 : r = nI (ovg g (kys es) []) := hv.1
  rw [← fit_perm hp, hv1]
  by_cases c : fit g (kys es) = true
  · rw [if_pos c]
    exact yl_p (e.mpr c) (yl_z1 (yl_ok ⟨rfl, isM_B hM hv.2, fr_trans hf (fB_r hv.2)⟩))
  · rw [if_neg c]
    exact yl_n (fun z => c (e.mp z)) (yl_z0 (yl_ok ⟨rfl, isM_B hM hv.2, fr_trans hf (fB_r hv.2)⟩))
theorem pr_fits {G : tc_G} (hG : gm G) (h4 : gm4 G) (h6 : gm6 G) {u : tc_S} {g : mp} {q : Nat} (hM : isM u 0 g) (hw : mwf g) (hq : q ≤ 999) (hn : fn_X12_isKey G (nI q) u = some (1, u)) : y2 (fn_X12_fits G 71 (nI q) u) (fun r w => r = (if fit g (ftF g q ++ kys (mes g)) = true then 1 else 0) ∧ isM w 0 g ∧ fr fMr u w) := by
  unfold fn_X12_fits
  refine yl_e hn (yl_n i_n1 ?_)
  refine pr_begin hG h4 h6 hM hw fun _ w m1 l1 b1 f1 => ?_
  have e : fn_X12_lies G 71 0 (nI q) w = some (oI ((mloc g q).map fun i => 0 + (20 + 4 * i)), w) := by
    have := pm_lies hG (B := 0) (by omega) m1 (mwf_ok hw) hq
    rw [mlies_loc] at this
    refine this.trans ?_
    cases mloc g q <;> rfl
  refine yl_e e ?_
  cases hl : mloc g q with
  | some i =>
    have := (mloc_vc hw hq hl).2.1
    have hi := (mloc_sp hw hq hl).1
    have e0 : ftF g q = [] := by unfold ftF; rw [hl]; rfl
    rw [e0, List.nil_append]
    refine yl_p ?_ (pr_fits34 hG h4 h6 hw (esK_mes hw) l1 b1 m1 f1 (List.Perm.refl _))
    exact nI_pos' (show 0 + (20 + 4 * i) < 2 ^ 31 by omega)
  | none =>
    have e0 : ftF g q = [q] := by unfold ftF; rw [hl]; rfl
    rw [e0]
    refine yl_n (show ¬ (0 : Int32) ≤ -1 by decide) ?_
    have ml := mes_len hw
    refine yl_b (pm_addsNew h4 l1 (by omega)) fun _ v hv => ?_
    have ek : kys (mes g ++ [(nI q + 1, 0, 0, 0)]) = kys (mes g) ++ [q] := by
      unfold kys
      rw [List.map_append, List.map_singleton]
      congr 2
      unfold ky
      rw [nI_1, nI_clamp (by omega)]
      omega
    have nq : q ∉ kys (mes g) := by
      rw [kys_mem hw hq, hl]
      decide
    refine pr_fits34 hG h4 h6 hw (es := mes g ++ [(nI q + 1, 0, 0, 0)]) (esK_of (fun e he => ?_) ?_ ?_) hv.1 (fun k hk => ?_) (isM_L m1 hv.2) (fr_trans f1 (fL_r hv.2)) ?_
    · rcases List.mem_append.mp he with z | z
      · exact mes_key hw e z
      · rw [List.mem_singleton] at z
        exact ⟨q, hq, by rw [z]; exact nI_1 q⟩
    · rw [ek]
      refine List.nodup_append.mpr ⟨kys_nd hw, List.nodup_cons.mpr ⟨List.not_mem_nil, List.nodup_nil⟩, fun a ha b hb => ?_⟩
      rw [List.mem_singleton] at hb
      rw [hb]
      intro z
      rw [z] at ha
      exact nq ha
    · rw [List.length_append]
      show (mes g).length + 1 ≤ 69
      omega
    · rw [hv.2 _ _ (by unfold fL; omega)]
      exact b1 k hk
    · rw [ek]
      exact List.perm_append_comm
/-- the call fits -/
theorem c_fits {G : tc_G} (hA : gA G) (hX : gX G) (h6 : gm6 G) {L : tc_L} {u : tc_S} {P : Nat} {g : mp} (x : Int32) (hu : cC u P g) (hM : isM u 0 g) : ∃ g2 P2, P2 ≤ P + 12 ∧ yl (tc_b (fn_X11_fits G 0 x u) fun r1 u1 => tc_b (fn_X12_fits G 71 x u1) fun r2 u2 => if r1 = r2 then some (L, u2) else none) (pqq L u P2 g2) := by
  rcases pc_isNum (G := G) (u := u) x with ⟨n1, n2⟩ | ⟨q, q1, q2, q3, q4⟩
  · refine ⟨g, P, by omega, pr_call (R := 0) hu hM hu.2.1 ?_ fun w hw => ?_⟩
    · unfold fn_X11_fits
      exact yl_e n1 (yl_p rfl (yl_z0 (yl_ok ⟨rfl, hu.1, fr_refl⟩)))
    · unfold fn_X12_fits
      exact yl_e (n2 w) (yl_p rfl (yl_z0 (yl_ok ⟨rfl, hw, fr_refl⟩)))
  · subst q2
    exact ⟨g, P, by omega, pr_call (R := if fit g (ftF g q ++ kys (mes g)) = true then 1 else 0) hu hM hu.2.1 (mt_fits hA hX hu q1 q3) fun w hw => pr_fits hA.2.2.2.1 hA.2.2.2.2.2.2 h6 hw hu.2.1.1 q1 (q4 w)⟩
/-- hashes by a seed -/
theorem pr_dr {G : tc_G} (h6 : gm6 G) {u0 : tc_S} {g : mp} {j f : Nat} {n a : Int32} {u : tc_S} {Q : Int32 × tc_S → Prop} (hj : j < 4) (hc : (j % 2 = 0 ∧ n = 1008 ∧ a = 1) ∨ (j % 2 = 1 ∧ n = 1009 ∧ a = 0)) (h11 : u.1 71 13 = g 11) (hb : ∀ i, i < j → u.1 87 i = g (7 + i)) (hr : fr (fun o k => o = 87 ∨ (o = 71 ∧ k = 13)) u0 u)
    (hk : ∀ w, w.1 71 13 = mdh1 g j n a 11 → (∀ i, i < j + 1 → w.1 87 i = mdh1 g j n a (7 + i)) → fr (fun o k => o = 87 ∨ (o = 71 ∧ k = 13)) u0 w → yl (lo_X12_drawsBy_7 G f 71 (nI (j + 1)) w) Q) : yl (lo_X12_drawsBy_7 G (f + 1) 71 (nI j) u) Q := by
  have core : yl (lo_X12_drawsBy_7 G f 71 (nI (j + 1)) (tc_w (tc_w u 71 13 (mseed (u.1 71 13))) 87 j (a + mpick (mseed (u.1 71 13)) n))) Q := by
    refine hk _ ?_ (fun i hi => ?_) (fr_w (fr_w hr (Or.inr ⟨rfl, rfl⟩)) (Or.inl rfl))
    · rw [w_get, if_neg (by omega), w_get, if_pos ⟨rfl, rfl⟩, h11]
      unfold mdh1
      rw [upd_ne (by omega), upd_eq]
    · unfold mdh1
      rw [w_get, h11]
      by_cases d : i = j
      · rw [if_pos ⟨rfl, d⟩, d, upd_eq]
      · rw [if_neg (fun z => d z.2), w_get, if_neg (by omega), upd_ne (by omega), upd_ne (by omega)]
        exact hb i (by omega)
  rw [lo_X12_drawsBy_7, show (4 : Int32) = nI 4 from rfl, pu_le (by omega) (by omega), if_neg (by omega), show tc_mod (nI j) 2 = nI (j % 2) from pu_mod (d := 2) (by omega) (by omega) (by omega)]
  unfold bl_X12_drawsBy_42
  rw [h6.1.2.2.2]
  rcases hc with ⟨c1, c2, c3⟩ | ⟨c1, c2, c3⟩
  · rw [c1]
    refine yl_p rfl (yl_e (pm_below (by decide)) ?_)
    refine yl_sd 4 h6.2.2.2.2 (by omega) (by omega) (yl_let ?_)
    rw [nI_1, ← c2, ← c3]
    exact core
  · rw [c1]
    refine yl_n (by decide) (yl_e (pm_below (by decide)) ?_)
    refine yl_sd 4 h6.2.2.2.2 (by omega) (by omega) (yl_let ?_)
    rw [c2, c3, Int32.zero_add] at core
    rw [nI_1]
    exact core
theorem pr_drawsBy {G : tc_G} (h6 : gm6 G) {u : tc_S} {g : mp} {x : Int32} (hx : g 11 = x) : y2 (fn_X12_drawsBy G 71 x u) (fun _ w => byS w (mdh g) ∧ fr (fun o k => o = 87 ∨ (o = 71 ∧ k = 13)) u w) := by
  unfold fn_X12_drawsBy
  refine yl_let ?_
  obtain ⟨f, hf⟩ : ∃ f, tc_fu = f + 5 := ⟨4091, rfl⟩
  rw [hf]
  have s0 : (tc_w u 71 13 x).1 71 13 = g 11 := by rw [w_get, if_pos ⟨rfl, rfl⟩, hx]
  refine pr_dr h6 (u0 := u) (j := 0) (n := 1008) (a := 1) (by omega) (Or.inl ⟨rfl, rfl, rfl⟩) s0 (fun i hi => by omega) (fr_w fr_refl (Or.inr ⟨rfl, rfl⟩)) fun w1 a1 a2 a3 => ?_
  refine pr_dr h6 (u0 := u) (j := 1) (n := 1009) (a := 0) (by omega) (Or.inr ⟨rfl, rfl, rfl⟩) a1 a2 a3 fun w2 b1 b2 b3 => ?_
  refine pr_dr h6 (u0 := u) (j := 2) (n := 1008) (a := 1) (by omega) (Or.inl ⟨rfl, rfl, rfl⟩) b1 b2 b3 fun w3 c1 c2 c3 => ?_
  refine pr_dr h6 (u0 := u) (j := 3) (n := 1009) (a := 0) (by omega) (Or.inr ⟨rfl, rfl, rfl⟩) c1 c2 c3 fun w4 d1 d2 d3 => ?_
  rw [lo_X12_drawsBy_7, show (4 : Int32) = nI 4 from rfl, pu_le (by omega) (by omega), if_pos (by omega)]
  exact yl_ok ⟨d2, d3⟩
theorem gn0 {g : mp} {n : Nat} : gn g (nI 0) n = upd g 0 (nI n) := if_pos rfl
theorem gn1 {g : mp} {n : Nat} : gn g (nI 1) n = upd g 1 (nI n) := (if_neg (by decide)).trans (if_pos rfl)
theorem gn2 {g : mp} {n : Nat} : gn g (nI 2) n = mdh (upd g 11 (nI n)) := (if_neg (by decide)).trans (if_neg (by decide))
theorem pr_least89 {G : tc_G} (h4 : gm4 G) (h6 : gm6 G) {u : tc_S} {g g2 : mp} {f M n : Nat} {y : Int32} {Q : Int32 × tc_S → Prop} (hw : mwf g) (hS : wS g2) (hl : ls u (mes g)) (hb : byS u g2) (h1 : fit g2 (kys (mes g)) = true → ∀ w, fr fB u w → Q (nI n, w)) (h2 : ¬ fit g2 (kys (mes g)) = true → ∀ w, fr fB u w → yl (lo_X12_least_44 G f 71 y (nI M) (nI (n + 1)) w) Q) : yl (bl_X12_least_89 G (lo_X12_least_44 G f) 71 y (nI M) (nI n) 71 (nI (mn g2 0)) (nI (mn g2 1)) u) Q := by
  unfold bl_X12_least_89
  refine yl_b (pr_overBy h4 h6 hS (esK_mes hw) hl hb) fun r v hv => ?_
  have e := ovg_nI (g := g2) (l := kys (mes g)) (by unfold kys; rw [List.length_map]; exact (esK_mes hw).2.2)
  have hv1 : r = nI (ovg g2 (kys (mes g)) []) := hv.1
  rw [hv1]
  by_cases c : fit g2 (kys (mes g)) = true
  · exact yl_p (e.mpr c) (yl_ok (h1 c v hv.2))
  · refine yl_n (fun z => c (e.mp z)) (yl_let ?_)
    rw [nI_1]
    exact h2 c v hv.2
theorem pr_least44 {G : tc_G} (hG : gm G) (h4 : gm4 G) (h6 : gm6 G) {u0 : tc_S} {g : mp} {M k : Nat} (hw : mwf g) (hk : k ≤ 2) (hM2 : M ≤ 40) (hok : ∀ n, 1 ≤ n → n ≤ M → gnok (nI k) n) : ∀ (m n f : Nat) (u : tc_S), n + m = M + 1 → m < f → 1 ≤ n → isM u 0 g → ls u (mes g) → (k < 2 → byS u g) → fr fMr u0 u → y2 (lo_X12_least_44 G f 71 (nI k) (nI M) (nI n) u) (fun r w => r = oI (ff (fun n => fit (gn g (nI k) n) (kys (mes g))) m n) ∧ isM w 0 g ∧ fr fMr u0 w) := by
  have aa := hw.1.1
  intro m
  induction m with
  | zero =>
    intro n f u hn hf h1 hM hl hb hr
    obtain ⟨f, rfl⟩ : ∃ k, f = k + 1 := ⟨f - 1, by omega⟩
    rw [lo_X12_least_44, pu_lt (by omega) (by omega), if_pos (by omega)]
    exact yl_ok ⟨rfl, hM, hr⟩
  | succ m ih =>
    intro n f u hn hf h1 hM hl hb hr
    obtain ⟨f, rfl⟩ : ∃ k, f = k + 1 := ⟨f - 1, by omega⟩
    have gw := gn_wS aa (hok n h1 (by omega))
    rw [lo_X12_least_44, pu_lt (by omega) (by omega), if_neg (by omega), ff, show (2 : Int32) = nI 2 from rfl, pu_eq (by omega) (by omega)]
    have fin : ∀ w, isM w 0 g → ls w (mes g) → byS w (gn g (nI k) n) → (k < 2 → byS w g) → fr fMr u0 w → y2 (bl_X12_least_59 G (lo_X12_least_44 G f) 71 (nI k) (nI M) (nI n) w) (fun r w => r = oI (if fit (gn g (nI k) n) (kys (mes g)) = true then some n else ff (fun n => fit (gn g (nI k) n) (kys (mes g))) m (n + 1)) ∧ isM w 0 g ∧ fr fMr u0 w) := by
      intro w m1 l1 b1 b2 f1
      have z0 : ∀ {β : Type} (kk : Int32 → Option β), tc_ld G w 72 0 kk = kk (g 0) := fun kk => isM_ld hG (B := 0) (k := 0) m1 (by omega) (by omega)
      have z1 : ∀ {β : Type} (kk : Int32 → Option β), tc_ld G w 72 1 kk = kk (g 1) := fun kk => isM_ld hG (B := 0) (k := 1) m1 (by omega) (by omega)
      have last := pr_least89 h4 h6 (u := w) (f := f) (M := M) (n := n) (y := nI k) (Q := fun r => r.1 = oI (if fit (gn g (nI k) n) (kys (mes g)) = true then some n else ff (fun n => fit (gn g (nI k) n) (kys (mes g))) m (n + 1)) ∧ isM r.2 0 g ∧ fr fMr u0 r.2) hw gw.1 l1 b1 (fun c v hv => by
        rw [if_pos c]
        exact ⟨rfl, isM_B m1 hv, fr_trans f1 (fB_r hv)⟩) (fun c v hv => by
        rw [if_neg c]
        exact ih (n + 1) f v (by omega) (by omega) (by omega) (isM_B m1 hv) (ls_fr l1 hv (fun k => by unfold fB; omega) (by unfold fB; omega)) (fun hk2 j hj => by rw [hv _ _ (by unfold fB; omega)]; exact b2 hk2 j hj) (fr_trans f1 (fB_r hv)))
      unfold bl_X12_least_59 bl_X12_least_74
      rw [hG.1.1]
      have hk3 : k = 0 ∨ k = 1 ∨ k = 2 := by omega
      rcases hk3 with hk3 | hk3 | hk3
      · subst hk3
        have e0 : mn (gn g (nI 0) n) 0 = n := by rw [gn0]; unfold mn; rw [upd_eq, nI_clamp (by omega)]
        have e1 : mn (gn g (nI 0) n) 1 = mn g 1 := by rw [gn0, mn_upd (by omega)]
        rw [e0, e1] at last
        refine yl_p rfl (yl_n (by decide) ?_)
        rw [z1, aa.1 1 (by omega)]
        exact last
      · subst hk3
        have e0 : mn (gn g (nI 1) n) 1 = n := by rw [gn1]; unfold mn; rw [upd_eq, nI_clamp (by omega)]
        have e1 : mn (gn g (nI 1) n) 0 = mn g 0 := by rw [gn1, mn_upd (by omega)]
        rw [e0, e1] at last
        refine yl_n (by decide) ?_
        rw [z0, aa.1 0 (by omega)]
        exact yl_p rfl last
      · subst hk3
        have ej : ∀ j, j < 7 → gn g (nI 2) n j = g j := fun j hj => by rw [gn2, mdh_k (by omega) (by omega), upd_ne (by omega)]
        have e0 : mn (gn g (nI 2) n) 0 = mn g 0 := by unfold mn; rw [ej 0 (by omega)]
        have e1 : mn (gn g (nI 2) n) 1 = mn g 1 := by unfold mn; rw [ej 1 (by omega)]
        rw [e0, e1] at last
        refine yl_n (by decide) ?_
        rw [z0, aa.1 0 (by omega)]
        refine yl_n (by decide) ?_
        rw [z1, aa.1 1 (by omega)]
        exact last
    by_cases c : k = 2
    · refine yl_p c ?_
      refine yl_b (pr_drawsBy h6 (g := upd g 11 (nI n)) upd_eq) fun _ w hw2 => ?_
      refine fin w (isM_fr hM hw2.2 fun k _ => by omega) (ls_fr hl hw2.2 (fun k => by omega) (by omega)) ?_ (fun z => by omega) (fr_trans hr (fr_mono hw2.2 fun o k q => by unfold fMr; omega))
      subst c
      rw [gn2]
      exact hw2.1
    · refine yl_n c (fin u hM hl ?_ hb hr)
      intro j hj
      rw [hb (by omega) j hj]
      have hk3 : k = 0 ∨ k = 1 := by omega
      rcases hk3 with hk3 | hk3
      · subst hk3; rw [gn0, upd_ne (by omega)]
      · subst hk3; rw [gn1, upd_ne (by omega)]
theorem lsR_0 {g : mp} : lsR g (nI 0) = oI (ff (fun n => fit (gn g (nI 0) n) (kys (mes g))) 32 1) := if_pos (by decide)
theorem lsR_1 {g : mp} : lsR g (nI 1) = oI (ff (fun n => fit (gn g (nI 1) n) (kys (mes g))) 9 1) := (if_neg (by decide)).trans (if_pos (by decide))
theorem lsR_2 {g : mp} : lsR g (nI 2) = oI (ff (fun n => fit (gn g (nI 2) n) (kys (mes g))) 40 1) := (if_neg (by decide)).trans ((if_neg (by decide)).trans (if_pos (by decide)))
/-- the call least -/
theorem c_least {G : tc_G} (hA : gA G) (hX : gX G) (h6 : gm6 G) {L : tc_L} {u : tc_S} {P : Nat} {g : mp} (y : Int32) (hu : cC u P g) (hM : isM u 0 g) : ∃ g2 P2, P2 ≤ P + 12 ∧ yl (tc_b (fn_X11_least G 0 y u) fun r1 u1 => tc_b (fn_X12_least G 71 y u1) fun r2 u2 => if r1 = r2 then some (L, u2) else none) (pqq L u P2 g2) := by
  have hfu := tc_fu_big
  refine ⟨g, P, by omega, pr_call (R := lsR g y) hu hM hu.2.1 (mt_least hA hX y hu) fun w hw => ?_⟩
  obtain ⟨-, -, -, b1, b2, b3, b4⟩ := hA
  have hwf := hu.2.1.1
  unfold fn_X12_least bl_X12_least_41
  rcases pm_isInB (G := G) y 0 2 (by omega) (by omega) with ⟨c1, c2⟩ | ⟨k, k1, k2, k3, k4⟩
  · refine yl_e (c2 w) (yl_p rfl (yl_ok ⟨?_, hw, fr_refl⟩))
    have := isIn_out (a := 0) (b := 2) (by omega) (by omega) c1
    unfold lsR
    rw [if_neg (by omega), if_neg (by omega), if_neg (by omega)]
  · subst k3
    refine yl_e (k4 w) (yl_n i_n1 ?_)
    refine pr_begin b1 b4 h6 hw hwf fun _ v m1 l1 q1 f1 => ?_
    have hk3 : k = 0 ∨ k = 1 ∨ k = 2 := by omega
    rcases hk3 with hk3 | hk3 | hk3
    · subst hk3
      rw [lsR_0]
      exact yl_p rfl (pr_least44 b1 b4 h6 (u0 := w) (M := 32) hwf k2 (by omega) (fun n n1 n2 => ⟨n1, Or.inl ⟨rfl, n2⟩⟩) 32 1 tc_fu v (by omega) (by omega) (by omega) m1 l1 (fun _ => q1) f1)
    · subst hk3
      rw [lsR_1]
      exact yl_n (by decide) (yl_p rfl (pr_least44 b1 b4 h6 (u0 := w) (M := 9) hwf k2 (by omega) (fun n n1 n2 => ⟨n1, Or.inr (Or.inl ⟨rfl, n2⟩)⟩) 9 1 tc_fu v (by omega) (by omega) (by omega) m1 l1 (fun _ => q1) f1))
    · subst hk3
      rw [lsR_2]
      exact yl_n (by decide) (yl_n (by decide) (pr_least44 b1 b4 h6 (u0 := w) (M := 40) hwf k2 (by omega) (fun n n1 n2 => ⟨n1, Or.inr (Or.inr ⟨by decide, by decide⟩)⟩) 40 1 tc_fu v (by omega) (by omega) (by omega) m1 l1 (fun _ => q1) f1))
