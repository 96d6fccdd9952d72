/-! the reference: one goes out, a drop, settling -/
theorem zero4 {g : mp} {i : Nat} : upd (upd (upd (upd g (20 + 4 * i + 0) 0) (20 + 4 * i + (0 + 1)) 0) (20 + 4 * i + (0 + 1 + 1)) 0) (20 + 4 * i + (0 + 1 + 1 + 1)) 0 = cs g i e0 := by
  funext k
  unfold upd cs e0
  grind
theorem pm_go2 {G : tc_G} (hG : gm G) {u : tc_S} {B x k f : Nat} {g : mp} (hB : B + 292 ≤ 3253) (hx : x + 4 ≤ 292) (hk : k < 4) : lo_X12_goesOut_2 G (f + 1) 71 (nI B) (nI (B + x)) (nI k) (uM u B g) = lo_X12_goesOut_2 G f 71 (nI B) (nI (B + x)) (nI (k + 1)) (uM u B (upd g (x + k) 0)) := by
  rw [lo_X12_goesOut_2, show (4 : Int32) = nI 4 from rfl, pu_le (by omega) (by omega), if_neg (by omega), hG.1.1, nI_add, show B + x + k = B + (x + k) by omega, uM_sd hG hB (by omega)]
  unfold tc_let
  rw [nI_1]
theorem pm_go90 {G : tc_G} (hG : gm G) {u : tc_S} {B s k f : Nat} {g : mp} (hB : B + 292 ≤ 3253) (hs : s < 4) (h18 : g 18 = nI s) (hk : k < 4) : lo_X12_goesOut_90 G (f + 1) 71 (nI B) (nI k) (uM u B g) = lo_X12_goesOut_90 G f 71 (nI B) (nI (k + 1)) (uM u B (upd g (20 + 4 * (64 + s) + k) 0)) := by
  rw [lo_X12_goesOut_90, show (4 : Int32) = nI 4 from rfl, pu_le (by omega) (by omega), if_neg (by omega), hG.1.1, show nI B + 18 = nI (B + 18) from nI_add B 18, uM_ld hG hB (by omega), h18, pm_cellS, pu_b, msc_ci, nI_add, show B + (20 + 4 * (64 + s)) + k = B + (20 + 4 * (64 + s) + k) by omega, uM_sd hG hB (by omega)]
  unfold tc_let
  rw [nI_1]
def msl (g : mp) (a k : Nat) : mp := fun m => if a ≤ m ∧ m < k then g (m + 4) else g m
theorem msl_step {g : mp} {a k : Nat} (h : a ≤ k) : upd (msl g a k) k (g (k + 4)) = msl g a (k + 1) := by
  funext m
  unfold upd msl
  grind
theorem msl_0 {g : mp} {a : Nat} : msl g a a = g := by
  funext m
  unfold msl
  rw [if_neg (by omega)]
theorem mcls_msl {g : mp} {j : Nat} (h1 : 1 ≤ mn g 18) (hj : j < mn g 18) : cs (upd (msl g (276 + 4 * j) (20 + 4 * (64 + (mn g 18 - 1)))) 18 (nI (mn g 18 - 1))) (64 + (mn g 18 - 1)) e0 = mcls g j := by
  funext k
  unfold mcls
  rw [cs_k]
  unfold upd msl e0
  grind
theorem mcls_e0 {g : mp} {i : Nat} (h1 : 64 ≤ i) (h2 : i - 64 < mn g 18) : mcls (cs g i e0) (i - 64) = mcls g (i - 64) := by
  funext k
  unfold mcls
  rw [mn_cs (by omega), cs_k, cs_k]
  grind
theorem pm_go34 {G : tc_G} (hG : gm G) {u : tc_S} {B j : Nat} {g : mp} (hB : B + 292 ≤ 3253) (h18 : g 18 = nI (mn g 18)) (h4 : mn g 18 ≤ 4) (hj : j < mn g 18) : ∀ (n k f : Nat), k + n = 20 + 4 * (64 + (mn g 18 - 1)) → 276 + 4 * j ≤ k → n < f → lo_X12_goesOut_34 G f 71 (nI B) (nI (B + k)) (uM u B (msl g (276 + 4 * j) k)) = some (0, uM u B (mcls g j)) := by
  have hfu := tc_fu_big
  intro n
  induction n with
  | zero =>
    intro k f hk hk2 hf
    obtain ⟨f, rfl⟩ : ∃ k, f = k + 1 := ⟨f - 1, by omega⟩
    have e18 : msl g (276 + 4 * j) k 18 = nI (mn g 18) := by
      unfold msl
      rw [if_neg (by omega)]
      exact h18
    have es : nI (mn g 18) - 1 = nI (mn g 18 - 1) := by
      obtain ⟨s, hs⟩ : ∃ s, mn g 18 = s + 1 := ⟨mn g 18 - 1, by omega⟩
      rw [hs, nI_pred]
      rfl
    obtain ⟨f5, hf5⟩ : ∃ k, tc_fu = k + 1 + 1 + 1 + 1 + 1 := ⟨tc_fu - 5, by omega⟩
    rw [lo_X12_goesOut_34, hG.1.1, show nI B + 18 = nI (B + 18) from nI_add B 18, uM_ld hG hB (by omega), e18, es, pm_cellS, pu_b, msc_ci, pu_le (by omega) (by omega), if_pos (by omega), uM_ld hG hB (by omega), e18, es, uM_sd hG hB (by omega), hf5, show (0 : Int32) = nI 0 from rfl]
    have z : ∀ (x : mp) (k : Nat), 20 ≤ k → x 18 = nI (mn g 18 - 1) → upd x k 0 18 = nI (mn g 18 - 1) := fun x k h1 h2 => by rw [upd_ne (by omega)]; exact h2
    have q0 : upd (msl g (276 + 4 * j) k) 18 (nI (mn g 18 - 1)) 18 = nI (mn g 18 - 1) := upd_eq
    rw [pm_go90 hG hB (s := mn g 18 - 1) (by omega) q0 (by omega), pm_go90 hG hB (s := mn g 18 - 1) (by omega) (z _ _ (by omega) q0) (by omega), pm_go90 hG hB (s := mn g 18 - 1) (by omega) (z _ _ (by omega) (z _ _ (by omega) q0)) (by omega), pm_go90 hG hB (s := mn g 18 - 1) (by omega) (z _ _ (by omega) (z _ _ (by omega) (z _ _ (by omega) q0))) (by omega), lo_X12_goesOut_90, if_pos (by decide), zero4]
    rw [show k = 20 + 4 * (64 + (mn g 18 - 1)) by omega, mcls_msl (by omega) hj]
    rfl
  | succ n ih =>
    intro k f hk hk2 hf
    obtain ⟨f, rfl⟩ : ∃ k, f = k + 1 := ⟨f - 1, by omega⟩
    have e18 : msl g (276 + 4 * j) k 18 = nI (mn g 18) := by
      unfold msl
      rw [if_neg (by omega)]
      exact h18
    have es : nI (mn g 18) - 1 = nI (mn g 18 - 1) := by
      obtain ⟨s, hs⟩ : ∃ s, mn g 18 = s + 1 := ⟨mn g 18 - 1, by omega⟩
      rw [hs, nI_pred]
      rfl
    have e4 : msl g (276 + 4 * j) k (k + 4) = g (k + 4) := by
      unfold msl
      rw [if_neg (by omega)]
    rw [lo_X12_goesOut_34, hG.1.1, show nI B + 18 = nI (B + 18) from nI_add B 18, uM_ld hG hB (by omega), e18, es, pm_cellS, pu_b, msc_ci, pu_le (by omega) (by omega), if_neg (by omega), show nI (B + k) + 4 = nI (B + (k + 4)) from nI_add (B + k) 4, uM_ld hG hB (by omega), e4, uM_sd hG hB (by omega), msl_step hk2]
    unfold tc_let
    rw [nI_1]
    exact ih (k + 1) f (by omega) (by omega) (by omega)
theorem pm_goesOut {G : tc_G} (hG : gm G) {u : tc_S} {B i : Nat} {g : mp} (hB : B + 292 ≤ 3253) (hM : isM u B g) (h18 : g 18 = nI (mn g 18)) (h4 : mn g 18 ≤ 4) (hi : i < 68) (hj : 64 ≤ i → i - 64 < mn g 18) : fn_X12_goesOut G 71 (nI B) (nI (B + (20 + 4 * i))) u = some (0, uM u B (mout g i)) := by
  have hfu := tc_fu_big
  obtain ⟨f5, hf5⟩ : ∃ k, tc_fu = k + 1 + 1 + 1 + 1 + 1 := ⟨tc_fu - 5, by omega⟩
  unfold fn_X12_goesOut mout
  conv => lhs; rw [← uM_id hM]
  rw [hf5, show (0 : Int32) = nI 0 from rfl, pm_go2 hG hB (by omega) (by omega), pm_go2 hG hB (by omega) (by omega), pm_go2 hG hB (by omega) (by omega), pm_go2 hG hB (by omega) (by omega), lo_X12_goesOut_2, if_pos (by decide), zero4, show nI B + 276 = nI (B + 276) from nI_add B 276, pu_le (by omega) (by omega)]
  by_cases c : i < 64
  · rw [if_neg (by omega), if_pos c]
    rfl
  · rw [if_pos (by omega), if_neg c]
    have m18 : mn (cs g i e0) 18 = mn g 18 := mn_cs (by omega)
    have z := pm_go34 hG (u := u) (j := i - 64) (g := cs g i e0) hB (by rw [m18, cs_lo (by omega)]; exact h18) (by omega) (by have := hj (by omega); omega) (20 + 4 * (64 + (mn (cs g i e0) 18 - 1)) - (20 + 4 * i)) (20 + 4 * i) tc_fu (by have := hj (by omega); omega) (by omega) (by omega)
    rw [show 276 + 4 * (i - 64) = 20 + 4 * i by omega, msl_0, mcls_e0 (by omega) (hj (by omega))] at z
    exact z
theorem pm_drops32 {G : tc_G} (hG : gm G) {B : Nat} {v4 : Int32} (hB : B + 292 ≤ 3253) : ∀ (n j l f : Nat) (u : tc_S) (g : mp), j + n = mn g 18 → n < f → mwf g → isM u B g → y2 (lo_X12_drops_32 G f 71 (nI B) v4 (nI j) u) (fun r w => r = v4 ∧ isM w B (mem false n g j l).2 ∧ fr (fD B) u w) := by
  intro n
  induction n with
  | zero =>
    intro j l f u g hj hf hg hM
    obtain ⟨f, rfl⟩ : ∃ k, f = k + 1 := ⟨f - 1, by omega⟩
    have h4 : mn g 18 ≤ 4 := Nat.le_trans hg.1.2.1.2 hg.1.1.2.2.2.1
    rw [lo_X12_drops_32, hG.1.1, show nI B + 18 = nI (B + 18) from nI_add B 18, isM_ld hG hM hB (by omega), hg.1.2.1.1, pu_le (by omega) (by omega), if_pos (by omega), mem_0]
    exact yl_ok ⟨rfl, hM, fr_refl⟩
  | succ n ih =>
    intro j l f u g hj hf hg hM
    obtain ⟨f, rfl⟩ : ∃ k, f = k + 1 := ⟨f - 1, by omega⟩
    have h4 : mn g 18 ≤ 4 := Nat.le_trans hg.1.2.1.2 hg.1.1.2.2.2.1
    have hk := mwf_ok hg
    have c := hg.1.2.2.1 (64 + j) (by omega)
    have h0 : ck g (64 + j) ≠ 0 := (hg.2 j (by omega)).mpr (by omega)
    rw [lo_X12_drops_32, hG.1.1, show nI B + 18 = nI (B + 18) from nI_add B 18, isM_ld hG hM hB (by omega), hg.1.2.1.1, pu_le (by omega) (by omega), if_neg (by omega)]
    refine yl_e pm_cellS ?_
    rw [msc_ci]
    refine yl_e (pm_keyOf hG (by omega)) ?_
    have ek : u.1 72 (B + (20 + 4 * (64 + j))) - 1 = nI (ck g (64 + j) - 1) := by
      rw [hM _ (by omega), c.1]
      obtain ⟨s, hs⟩ : ∃ s, ck g (64 + j) = s + 1 := ⟨ck g (64 + j) - 1, by omega⟩
      rw [hs, nI_pred]
      rfl
    rw [ek]
    refine yl_e (pm_freeFor hG hB hM hk (by omega)) ?_
    rw [mfree_fr, mem_s]
    unfold bl_X12_drops_95
    have hm : mlv g (64 + j) false = mlv1 g (64 + j) false (mfr g (ck g (64 + j) - 1)) := rfl
    cases hf2 : mfr g (ck g (64 + j) - 1) with
    | none =>
      rw [hf2] at hm
      rw [show mlv g (64 + j) false = none from hm, mem2]
      show yl (if (-1 : Int32) < 0 then _ else _) _
      refine yl_p (by decide) (yl_let ?_)
      rw [nI_1]
      exact ih (j + 1) l f u g (by omega) (by omega) hg hM
    | some i =>
      rw [hf2] at hm
      obtain ⟨f1, f2, f3⟩ := mfr_sp hg.1.1 hg.1.2.2.1 hf2
      have e1 : mlv g (64 + j) false = some (mvb g (64 + j) i) := by rw [hm, mlv1]
      obtain ⟨l1, l2, l3, l4, l5, l6⟩ := mlv_ok hg (by omega) e1
      rw [e1, mem2]
      rw [show oIB B (Option.map (fun i => 20 + 4 * i) (some i)) = nI (B + (20 + 4 * i)) from rfl]
      refine yl_n (nI_pos (by omega)) ?_
      refine yl_e (pm_moves hG hB hM (by omega) (by omega)) ?_
      rw [mmove_cs (by omega)]
      have e18 : mvb g (64 + j) i 18 = nI (mn (mvb g (64 + j) i) 18) := by
        rw [l5]
        unfold mvb
        rw [cs_lo (by omega), cs_lo (by omega)]
        exact hg.1.2.1.1
      refine yl_e (pm_goesOut hG hB uM_isM e18 (by omega) (by omega) (by omega)) ?_
      have eo : mout (mvb g (64 + j) i) (64 + j) = mcls (mvb g (64 + j) i) j := by
        unfold mout
        rw [if_neg (by omega), show 64 + j - 64 = j by omega]
      rw [eo, uM_uM]
      have f3 : fr (fD B) u (uM u B (mcls (mvb g (64 + j) i) j)) := fr_uM'
      exact yl_m (ih j (l + 1) f _ _ (by omega) (by omega) l1 (uM_isM (u := u))) fun r hx => ⟨hx.1, hx.2.1, fr_trans f3 hx.2.2⟩
theorem pm_drops {G : tc_G} (hG : gm G) {u : tc_S} {B q P : Nat} {g : mp} (hB : B + 292 ≤ 3253) (hM : isM u B g) (hg : mre P g) (hq : q ≤ 999) : y2 (fn_X12_drops G 71 (nI B) (nI q) u) (fun r w => r = (mdrp g q).1 ∧ isM w B (mdrp g q).2 ∧ fr (fD B) u w) := by
  have hk := mwf_ok hg.1
  have hfu := tc_fu_big
  have h4 : mn g 18 ≤ 4 := Nat.le_trans hg.1.1.2.1.2 hg.1.1.1.2.2.2.1
  unfold fn_X12_drops mdrp
  refine yl_e (pm_lies hG hB hM hk hq) ?_
  rw [mlies_loc]
  cases hl : mloc g q with
  | none =>
    rw [mdrp1]
    show yl (if 0 ≤ (-1 : Int32) then _ else _) _
    exact yl_n (by decide) (yl_ok ⟨rfl, hM, fr_refl⟩)
  | some i =>
    have hi := mloc_sp hg.1 hq hl
    obtain ⟨o1, o2, o3⟩ := mout_ok hg hi.1 (by omega)
    rw [mdrp1]
    show yl (if 0 ≤ nI (B + (20 + 4 * i)) then tc_ld G u (tc_p G 71 0) (nI (B + (20 + 4 * i)) + 1) fun x24 => tc_b (fn_X12_goesOut G 71 (nI B) (nI (B + (20 + 4 * i))) u) fun x25 u26 => lo_X12_drops_32 G tc_fu 71 (nI B) x24 0 u26 else _) _
    refine yl_p (nI_pos' (by omega)) ?_
    rw [nI_1, show B + (20 + 4 * i) + 1 = B + (21 + 4 * i) by omega, hG.1.1, isM_ld hG hM hB (by omega)]
    have hj : 64 ≤ i → i - 64 < mn g 18 := fun q => (hg.1.2 (i - 64) (by omega)).mp (by rw [show 64 + (i - 64) = i by omega]; omega)
    refine yl_e (pm_goesOut hG hB hM hg.1.1.2.1.1 h4 hi.1 hj) ?_
    have f1 : fr (fD B) u (uM u B (mout g i)) := fr_uM'
    have z := pm_drops32 hG (v4 := g (21 + 4 * i)) hB (mn (mout g i) 18) 0 0 tc_fu (uM u B (mout g i)) (mout g i) (by omega) (by split at o3 <;> omega) o1.1 uM_isM
    exact yl_m z fun r hx => ⟨hx.1, hx.2.1, fr_trans f1 hx.2.2⟩
theorem pm_settle4 {G : tc_G} (hG : gm G) (h2 : gm2 G) : ∀ (n j l f : Nat) (u : tc_S) (g : mp), j + n = mn g 18 → n < f → mwf g → isM u 0 g → y2 (lo_X12_settle_4 G f 71 (nI l) (nI j) u) (fun r w => r = nI (mem true n g j l).1 ∧ isM w 0 (mem true n g j l).2 ∧ fr (fD 0) u w) := by
  intro n
  induction n with
  | zero =>
    intro j l f u g hj hf hg hM
    obtain ⟨f, rfl⟩ : ∃ k, f = k + 1 := ⟨f - 1, by omega⟩
    have h4 : mn g 18 ≤ 4 := Nat.le_trans hg.1.2.1.2 hg.1.1.2.2.2.1
    rw [lo_X12_settle_4, hG.1.1, show (18 : Int32) = nI (0 + 18) from rfl, isM_ld hG hM (by omega) (by omega), hg.1.2.1.1, pu_le (by omega) (by omega), if_pos (by omega), mem_0]
    exact yl_ok ⟨rfl, hM, fr_refl⟩
  | succ n ih =>
    intro j l f u g hj hf hg hM
    obtain ⟨f, rfl⟩ : ∃ k, f = k + 1 := ⟨f - 1, by omega⟩
    have h4 : mn g 18 ≤ 4 := Nat.le_trans hg.1.2.1.2 hg.1.1.2.2.2.1
    have hk := mwf_ok hg
    have c := hg.1.2.2.1 (64 + j) (by omega)
    have h0 : ck g (64 + j) ≠ 0 := (hg.2 j (by omega)).mpr (by omega)
    have hd3 := hg.1.1.2.2.2.2.1
    rw [lo_X12_settle_4, hG.1.1, show (18 : Int32) = nI (0 + 18) from rfl, isM_ld hG hM (by omega) (by omega), hg.1.2.1.1, pu_le (by omega) (by omega), if_neg (by omega), show (0 : Int32) = nI 0 from rfl]
    refine yl_e (pm_cellS (B := 0)) ?_
    rw [msc_ci]
    refine yl_e (pm_keyOf hG (by omega)) ?_
    have ek : u.1 72 (0 + (20 + 4 * (64 + j))) - 1 = nI (ck g (64 + j) - 1) := by
      rw [hM _ (by omega), c.1]
      obtain ⟨s, hs⟩ : ∃ s, ck g (64 + j) = s + 1 := ⟨ck g (64 + j) - 1, by omega⟩
      rw [hs, nI_pred]
      rfl
    rw [ek]
    refine yl_e (pm_freeFor hG (B := 0) (by omega) hM hk (by omega)) ?_
    rw [mfree_fr, mem_s]
    have hm : mlv g (64 + j) true = mlv1 g (64 + j) true (mfr g (ck g (64 + j) - 1)) := rfl
    have go : ∀ (x : mp) (i : Nat) (w : tc_S), isM w 0 x → fr (fD 0) u w → i < 64 → mlv g (64 + j) true = some (mvb x (64 + j) i) → y2 (bl_X12_settle_81 G (lo_X12_settle_4 G f) 71 (nI l) (nI j) (nI (0 + (20 + 4 * (64 + j)))) (nI (0 + (20 + 4 * i))) w) (fun r w => r = nI (mem2 (mem true n) g j l (mlv g (64 + j) true)).1 ∧ isM w 0 (mem2 (mem true n) g j l (mlv g (64 + j) true)).2 ∧ fr (fD 0) u w) := by
      intro x i w hx hr hi e1
      obtain ⟨l1, l2, l3, l4, l5, l6⟩ := mlv_ok hg (by omega) e1
      rw [e1, mem2]
      unfold bl_X12_settle_81
      rw [show (0 : Int32) = nI 0 from rfl]
      refine yl_p (nI_pos' (by omega)) ?_
      refine yl_e (pm_moves hG (B := 0) (by omega) hx (by omega) (by omega)) ?_
      rw [mmove_cs (by omega)]
      have e18 : mvb x (64 + j) i 18 = nI (mn (mvb x (64 + j) i) 18) := by
        rw [l5]
        have q := l6
        have q2 : mcls (mvb x (64 + j) i) j 18 = _ := mcls_18
        have b1 := l1.1.2.1.1
        unfold mvb
        rw [cs_lo (by omega), cs_lo (by omega)]
        have hw18 : x 18 = g 18 := by
          unfold mlv at e1
          cases hf3 : mfr g (ck g (64 + j) - 1) with
          | some i2 =>
            rw [hf3, mlv1] at e1
            have := congrFun (Option.some.inj e1) 18
            unfold mvb at this
            rw [cs_lo (by omega), cs_lo (by omega), cs_lo (by omega), cs_lo (by omega)] at this
            exact this.symm
          | none =>
            rw [hf3, mlv1, if_pos rfl] at e1
            cases hc : mchain g (ck g (64 + j) - 1) with
            | none => rw [hc, mlv2] at e1; cases e1
            | some ll =>
              rw [hc, mlv2] at e1
              split at e1
              · have := congrFun (Option.some.inj e1) 18
                unfold mvb at this
                rw [cs_lo (by omega), cs_lo (by omega), cs_lo (by omega), cs_lo (by omega)] at this
                rw [← this]
                exact (mopn_ok hg hc).2.2.2.2.2.2.2 18 (by omega) (by omega)
              · cases e1
        rw [hw18]
        exact hg.1.2.1.1
      refine yl_e (pm_goesOut hG (B := 0) (by omega) uM_isM e18 (by omega) (by omega) (by omega)) ?_
      have eo : mout (mvb x (64 + j) i) (64 + j) = mcls (mvb x (64 + j) i) j := by
        unfold mout
        rw [if_neg (by omega), show 64 + j - 64 = j by omega]
      rw [eo, uM_uM]
      refine yl_let ?_
      rw [nI_1]
      have f3 : fr (fD 0) w (uM w 0 (mcls (mvb x (64 + j) i) j)) := fr_uM'
      exact yl_m (ih j (l + 1) f _ _ (by omega) (by omega) l1 (uM_isM (u := w))) fun r hx => ⟨hx.1, hx.2.1, fr_trans hr (fr_trans f3 hx.2.2)⟩
    cases hf2 : mfr g (ck g (64 + j) - 1) with
    | some i =>
      rw [hf2] at hm
      obtain ⟨f1, f2, f3⟩ := mfr_sp hg.1.1 hg.1.2.2.1 hf2
      show yl (if nI 0 ≤ nI (0 + (20 + 4 * i)) then bl_X12_settle_54 G (lo_X12_settle_4 G f) 71 (nI l) (nI j) (nI (0 + (20 + 4 * (64 + j)))) (nI (0 + (20 + 4 * i))) (-1) u else _) _
      refine yl_p (nI_pos' (by omega)) ?_
      unfold bl_X12_settle_54
      refine yl_p (by decide) ?_
      exact go g i u hM fr_refl f1 (by rw [hm, mlv1])
    | none =>
      rw [hf2, mlv1, if_pos rfl] at hm
      show yl (if nI 0 ≤ (-1 : Int32) then _ else _) _
      refine yl_n (by decide) ?_
      refine yl_e (pm_keyOf hG (by omega)) ?_
      rw [ek]
      refine yl_e (pm_chainOf hG h2 (B := 0) (by omega) hM hk (by omega)) ?_
      have no : ∀ w, isM w 0 g → fr (fD 0) u w → mlv g (64 + j) true = none → y2 (bl_X12_settle_81 G (lo_X12_settle_4 G f) 71 (nI l) (nI j) (nI (0 + (20 + 4 * (64 + j)))) (-1) w) (fun r w => r = nI (mem2 (mem true n) g j l (mlv g (64 + j) true)).1 ∧ isM w 0 (mem2 (mem true n) g j l (mlv g (64 + j) true)).2 ∧ fr (fD 0) u w) := by
        intro w hw hr e
        rw [e, mem2]
        unfold bl_X12_settle_81
        refine yl_n (by decide) (yl_let ?_)
        rw [nI_1]
        exact yl_m (ih (j + 1) l f w g (by omega) (by omega) hg hw) fun r hx => ⟨hx.1, hx.2.1, fr_trans hr hx.2.2⟩
      unfold bl_X12_settle_54
      cases hc : mchain g (ck g (64 + j) - 1) with
      | none =>
        rw [hc, mlv2] at hm
        show yl (if (-1 : Int32) ≤ 0 then _ else _) _
        exact yl_p (by decide) (no _ (isM_uA hM) fr_uA hm)
      | some ll =>
        obtain ⟨c1, c3, c4, c5, c6, c7, c8⟩ := mchain_sp hg hc
        obtain ⟨o1, o2, o3, o4, o5, o6, o7, o8⟩ := mopn_ok hg hc
        rw [hc, mlv2] at hm
        rw [show lC (some ll) = nI ll.length from rfl, show oC u g (ck g (64 + j) - 1) (some ll) = uC u (mn g 0) (maway g (ck g (64 + j) - 1)) ll from rfl]
        refine yl_n (nI_nle c3 (by omega)) ?_
        rw [hG.1.1, show (3 : Int32) = nI (0 + 3) from rfl, isM_ld hG (isM_uC hM) (by omega) (by omega), hg.1.1.1 3 (by omega), pu_lt (by omega) (by omega)]
        by_cases c9 : ll.length ≤ mn g 3
        · rw [if_pos c9] at hm
          rw [if_neg (by omega)]
          refine yl_e (pm_opens hG h2 (B := 0) (by omega) (isM_uC hM) hg hc chn_uC) ?_
          exact go _ _ _ uM_isM (fr_trans fr_uC fr_uM') o4 hm
        · rw [if_neg c9] at hm
          rw [if_pos (by omega)]
          exact no _ (isM_uC hM) fr_uC hm
