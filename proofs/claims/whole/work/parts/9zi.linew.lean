/-! lines: the reference, by words -/
def kcO (w : tc_S) (t : Nat → Nat) (n : Nat) (x : pxs) (wd c : Nat) (r : Int32) : Prop := (∃ s, bCho t n wd c x = .inl s ∧ mF w s) ∨ ∃ j, bCho t n wd c x = .inr (kE t n x.1, upd x.2.1 c (nI j), x.2.2) ∧ r = nI j ∧ mSr w t n (kE t n x.1, x.2)
theorem pr_chset {t : Nat → Nat} {n wd c : Nat} {x : pxs} {r : Int32} {w : tc_S} (h : kcO w t n x wd c r) : mO (tc_w w 88 c r) t n (bCho t n wd c x) := by
  rcases h with ⟨s, h1, h2⟩ | ⟨j, h1, h2, h3⟩
  · rw [h1]; exact mF_w h2 (by omega)
  · rw [h1, h2]; exact mSr_set (x := (kE t n x.1, x.2)) h3 (fun _ => rfl)
theorem bCho_n {t : Nat → Nat} {n wd c : Nat} {x : pxs} (h : kK t n x.1 = 1 → wix (wds wd) 0 (kW t n x.1) = none) : bCho t n wd c x = .inl (kS t n x.1) := by
  unfold bCho
  by_cases k : kK t n x.1 = 1
  · rw [if_pos k, h k]; rfl
  · rw [if_neg k]
theorem bCho_s {t : Nat → Nat} {n wd c j : Nat} {x : pxs} (k : kK t n x.1 = 1) (h : wix (wds wd) 0 (kW t n x.1) = some j) : bCho t n wd c x = .inr (kE t n x.1, upd x.2.1 c (nI j), x.2.2) := by
  unfold bCho
  rw [if_pos k, h]; rfl
theorem pr_kick {G : tc_G} (hG : gm G) {t : Nat → Nat} {n : Nat} {u : tc_S} {x : pxs} (h : mSr u t n x) (hp : x.1 ≤ n) : y2 (fn_X12_kickTaken G 71 u) (fun r w => kcO w t n x 1 5 r ∧ fr fGd u w) := by
  have h4 := h.2.2.2.2.2.2
  have N0 : (kK t n x.1 = 1 → kW t n x.1 ≠ [110, 111, 110, 101]) → fn_X12_hasWord G 71 286880 u = some (0, u) := fun q => pr_noWord (w := 1) (W := [110, 111, 110, 101]) (by decide) (by omega) (by decide +kernel) h4 hp h.2.1 q
  have Y0 : kK t n x.1 = 1 → kW t n x.1 = [110, 111, 110, 101] → y2 (fn_X12_hasWord G 71 286880 u) (fun r w => r = 1 ∧ mT w t n (kE t n x.1) ∧ fr fU2 u w) := fun k q => pr_isWord hG (w := 1) (W := [110, 111, 110, 101]) (by decide) (by omega) (by decide +kernel) h4 hp h.1 h.2.1 k q
  have N1 : (kK t n x.1 = 1 → kW t n x.1 ≠ [119, 97, 108, 107]) → fn_X12_hasWord G 71 453773 u = some (0, u) := fun q => pr_noWord (w := 1) (W := [119, 97, 108, 107]) (by decide) (by omega) (by decide +kernel) h4 hp h.2.1 q
  have Y1 : kK t n x.1 = 1 → kW t n x.1 = [119, 97, 108, 107] → y2 (fn_X12_hasWord G 71 453773 u) (fun r w => r = 1 ∧ mT w t n (kE t n x.1) ∧ fr fU2 u w) := fun k q => pr_isWord hG (w := 1) (W := [119, 97, 108, 107]) (by decide) (by omega) (by decide +kernel) h4 hp h.1 h.2.1 k q
  have N2 : (kK t n x.1 = 1 → kW t n x.1 ≠ [115, 104, 111, 114, 116, 101, 115, 116]) → fn_X12_hasWord G 71 202071272150 u = some (0, u) := fun q => pr_noWord (w := 1) (W := [115, 104, 111, 114, 116, 101, 115, 116]) (by decide) (by omega) (by decide +kernel) h4 hp h.2.1 q
  have Y2 : kK t n x.1 = 1 → kW t n x.1 = [115, 104, 111, 114, 116, 101, 115, 116] → y2 (fn_X12_hasWord G 71 202071272150 u) (fun r w => r = 1 ∧ mT w t n (kE t n x.1) ∧ fr fU2 u w) := fun k q => pr_isWord hG (w := 1) (W := [115, 104, 111, 114, 116, 101, 115, 116]) (by decide) (by omega) (by decide +kernel) h4 hp h.1 h.2.1 k q
  unfold fn_X12_kickTaken bl_X12_kickTaken_38
  have none_ : (kK t n x.1 = 1 → wix (wds 1) 0 (kW t n x.1) = none) → y2 (fn_X12_fails G 71 u) (fun _ w => kcO w t n x 1 5 2 ∧ fr fGd u w) := fun q => yl_m (pr_fails h4 h.2.1.1) fun r hr => ⟨Or.inl ⟨_, bCho_n q, hr.1⟩, hr.2⟩
  by_cases k : kK t n x.1 = 1
  · cases hx : wix (wds 1) 0 (kW t n x.1) with
    | none =>
      have no := wix_no hx
      rw [N0 (fun _ => no _ (by decide)), pu_b, if_pos rfl]
      rw [N1 (fun _ => no _ (by decide)), pu_b, if_pos rfl]
      rw [N2 (fun _ => no _ (by decide)), pu_b, if_pos rfl]
      exact yl_b (none_ fun _ => hx) fun _ w hw => yl_ok hw
    | some j =>
      have lt := (wix_lt hx).2
      have l3 : (wds 1).length = 3 := by decide
      obtain ⟨s1, s2⟩ := wix_sp hx
      rw [Nat.sub_zero] at s1 s2
      have fin : ∀ w, mT w t n (kE t n x.1) → fr fU2 u w → kcO w t n x 1 5 (nI j) ∧ fr fGd u w := fun w q1 q2 => ⟨Or.inr ⟨j, bCho_s k hx, rfl, mB_U h.1 q2, q1, mG_U h.2.2 q2⟩, fU2_G q2⟩
      have cs : j = 0 ∨ j = 1 ∨ j = 2 := by omega
      rcases cs with e | e | e
      · subst e
        refine yl_b (Y0 k (Option.some.inj s1).symm) fun r w hw => ?_
        rw [hw.1]
        exact yl_n i_n1 (yl_ok (fin w hw.2.1 hw.2.2))
      · subst e
        rw [N0 (fun _ q => s2 0 (by omega) (by rw [q]; rfl)), pu_b, if_pos rfl]
        refine yl_b (Y1 k (Option.some.inj s1).symm) fun r w hw => ?_
        rw [hw.1]
        exact yl_n i_n1 (yl_ok (fin w hw.2.1 hw.2.2))
      · subst e
        rw [N0 (fun _ q => s2 0 (by omega) (by rw [q]; rfl)), pu_b, if_pos rfl]
        rw [N1 (fun _ q => s2 1 (by omega) (by rw [q]; rfl)), pu_b, if_pos rfl]
        refine yl_b (Y2 k (Option.some.inj s1).symm) fun r w hw => ?_
        rw [hw.1]
        exact yl_n i_n1 (yl_ok (fin w hw.2.1 hw.2.2))
  · rw [N0 (fun q => absurd q k), pu_b, if_pos rfl, N1 (fun q => absurd q k), pu_b, if_pos rfl, N2 (fun q => absurd q k), pu_b, if_pos rfl]
    exact yl_b (none_ fun q => absurd q k) fun _ w hw => yl_ok hw
theorem pr_full {G : tc_G} (hG : gm G) {t : Nat → Nat} {n : Nat} {u : tc_S} {x : pxs} (h : mSr u t n x) (hp : x.1 ≤ n) : y2 (fn_X12_fullTaken G 71 u) (fun r w => kcO w t n x 2 6 r ∧ fr fGd u w) := by
  have h4 := h.2.2.2.2.2.2
  have N0 : (kK t n x.1 = 1 → kW t n x.1 ≠ [114, 101, 102, 117, 115, 101]) → fn_X12_hasWord G 71 261071456 u = some (0, u) := fun q => pr_noWord (w := 2) (W := [114, 101, 102, 117, 115, 101]) (by decide) (by omega) (by decide +kernel) h4 hp h.2.1 q
  have Y0 : kK t n x.1 = 1 → kW t n x.1 = [114, 101, 102, 117, 115, 101] → y2 (fn_X12_hasWord G 71 261071456 u) (fun r w => r = 1 ∧ mT w t n (kE t n x.1) ∧ fr fU2 u w) := fun k q => pr_isWord hG (w := 2) (W := [114, 101, 102, 117, 115, 101]) (by decide) (by omega) (by decide +kernel) h4 hp h.1 h.2.1 k q
  have N1 : (kK t n x.1 = 1 → kW t n x.1 ≠ [114, 101, 104, 97, 115, 104]) → fn_X12_hasWord G 71 261096245 u = some (0, u) := fun q => pr_noWord (w := 2) (W := [114, 101, 104, 97, 115, 104]) (by decide) (by omega) (by decide +kernel) h4 hp h.2.1 q
  have Y1 : kK t n x.1 = 1 → kW t n x.1 = [114, 101, 104, 97, 115, 104] → y2 (fn_X12_hasWord G 71 261096245 u) (fun r w => r = 1 ∧ mT w t n (kE t n x.1) ∧ fr fU2 u w) := fun k q => pr_isWord hG (w := 2) (W := [114, 101, 104, 97, 115, 104]) (by decide) (by omega) (by decide +kernel) h4 hp h.1 h.2.1 k q
  have N2 : (kK t n x.1 = 1 → kW t n x.1 ≠ [103, 114, 111, 119]) → fn_X12_hasWord G 71 151331 u = some (0, u) := fun q => pr_noWord (w := 2) (W := [103, 114, 111, 119]) (by decide) (by omega) (by decide +kernel) h4 hp h.2.1 q
  have Y2 : kK t n x.1 = 1 → kW t n x.1 = [103, 114, 111, 119] → y2 (fn_X12_hasWord G 71 151331 u) (fun r w => r = 1 ∧ mT w t n (kE t n x.1) ∧ fr fU2 u w) := fun k q => pr_isWord hG (w := 2) (W := [103, 114, 111, 119]) (by decide) (by omega) (by decide +kernel) h4 hp h.1 h.2.1 k q
  have N3 : (kK t n x.1 = 1 → kW t n x.1 ≠ [116, 101, 115, 116]) → fn_X12_hasWord G 71 397838 u = some (0, u) := fun q => pr_noWord (w := 2) (W := [116, 101, 115, 116]) (by decide) (by omega) (by decide +kernel) h4 hp h.2.1 q
  have Y3 : kK t n x.1 = 1 → kW t n x.1 = [116, 101, 115, 116] → y2 (fn_X12_hasWord G 71 397838 u) (fun r w => r = 1 ∧ mT w t n (kE t n x.1) ∧ fr fU2 u w) := fun k q => pr_isWord hG (w := 2) (W := [116, 101, 115, 116]) (by decide) (by omega) (by decide +kernel) h4 hp h.1 h.2.1 k q
  unfold fn_X12_fullTaken bl_X12_fullTaken_50
  have none_ : (kK t n x.1 = 1 → wix (wds 2) 0 (kW t n x.1) = none) → y2 (fn_X12_fails G 71 u) (fun _ w => kcO w t n x 2 6 3 ∧ fr fGd u w) := fun q => yl_m (pr_fails h4 h.2.1.1) fun r hr => ⟨Or.inl ⟨_, bCho_n q, hr.1⟩, hr.2⟩
  by_cases k : kK t n x.1 = 1
  · cases hx : wix (wds 2) 0 (kW t n x.1) with
    | none =>
      have no := wix_no hx
      rw [N0 (fun _ => no _ (by decide)), pu_b, if_pos rfl]
      rw [N1 (fun _ => no _ (by decide)), pu_b, if_pos rfl]
      rw [N2 (fun _ => no _ (by decide)), pu_b, if_pos rfl]
      rw [N3 (fun _ => no _ (by decide)), pu_b, if_pos rfl]
      exact yl_b (none_ fun _ => hx) fun _ w hw => yl_ok hw
    | some j =>
      have lt := (wix_lt hx).2
      have l4 : (wds 2).length = 4 := by decide
      obtain ⟨s1, s2⟩ := wix_sp hx
      rw [Nat.sub_zero] at s1 s2
      have fin : ∀ w, mT w t n (kE t n x.1) → fr fU2 u w → kcO w t n x 2 6 (nI j) ∧ fr fGd u w := fun w q1 q2 => ⟨Or.inr ⟨j, bCho_s k hx, rfl, mB_U h.1 q2, q1, mG_U h.2.2 q2⟩, fU2_G q2⟩
      have cs : j = 0 ∨ j = 1 ∨ j = 2 ∨ j = 3 := by omega
      rcases cs with e | e | e | e
      · subst e
        refine yl_b (Y0 k (Option.some.inj s1).symm) fun r w hw => ?_
        rw [hw.1]
        exact yl_n i_n1 (yl_ok (fin w hw.2.1 hw.2.2))
      · subst e
        rw [N0 (fun _ q => s2 0 (by omega) (by rw [q]; rfl)), pu_b, if_pos rfl]
        refine yl_b (Y1 k (Option.some.inj s1).symm) fun r w hw => ?_
        rw [hw.1]
        exact yl_n i_n1 (yl_ok (fin w hw.2.1 hw.2.2))
      · subst e
        rw [N0 (fun _ q => s2 0 (by omega) (by rw [q]; rfl)), pu_b, if_pos rfl]
        rw [N1 (fun _ q => s2 1 (by omega) (by rw [q]; rfl)), pu_b, if_pos rfl]
        refine yl_b (Y2 k (Option.some.inj s1).symm) fun r w hw => ?_
        rw [hw.1]
        exact yl_n i_n1 (yl_ok (fin w hw.2.1 hw.2.2))
      · subst e
        rw [N0 (fun _ q => s2 0 (by omega) (by rw [q]; rfl)), pu_b, if_pos rfl]
        rw [N1 (fun _ q => s2 1 (by omega) (by rw [q]; rfl)), pu_b, if_pos rfl]
        rw [N2 (fun _ q => s2 2 (by omega) (by rw [q]; rfl)), pu_b, if_pos rfl]
        refine yl_b (Y3 k (Option.some.inj s1).symm) fun r w hw => ?_
        rw [hw.1]
        exact yl_n i_n1 (yl_ok (fin w hw.2.1 hw.2.2))
  · rw [N0 (fun q => absurd q k), pu_b, if_pos rfl, N1 (fun q => absurd q k), pu_b, if_pos rfl, N2 (fun q => absurd q k), pu_b, if_pos rfl, N3 (fun q => absurd q k), pu_b, if_pos rfl]
    exact yl_b (none_ fun q => absurd q k) fun _ w hw => yl_ok hw
theorem pr_readsHash {G : tc_G} (hG : gm G) (h7 : gm7 G) {t : Nat → Nat} {n w : Nat} {u : tc_S} {x : pxs} (hw : w < 2) (h : mSr u t n x) (hp : x.1 ≤ n) (hw4 : x.2.2.2.1 ≤ 4) : y2 (fn_X12_readsHash G 71 (nI w) u) (fun _ z => mO z t n (bHsh t n (7 + 2 * w) x) ∧ fr fGd u z) := by
  have he := kE_le (t := t) hp
  unfold fn_X12_readsHash bHsh
  rw [h7.1.1, show (2 : Int32) * nI w = nI (2 * w) from pk_mul 2 w, show (7 : Int32) + nI (2 * w) = nI (7 + 2 * w) from nI_add 7 _, nI_1]
  by_cases c : kK t n x.1 = 2
  · rw [if_pos c]
    refine yl_b (pr_num hG (lo := 1) (hi := 1008) h hp hw4 (by omega) (by omega) c) fun r z hz => ?_
    refine yl_sd 12 h7.2.1 (by omega) (by omega) ?_
    have z1 := mSr_set (k := 7 + 2 * w) hz.1 hz.2.1
    have f1 : fr fGd u (tc_w z 88 (7 + 2 * w) r) := fr_w hz.2.2 (by unfold fGd; omega)
    by_cases d : kK t n (kE t n x.1) = 2
    · rw [if_pos d]
      refine yl_b (pr_num hG (lo := 0) (hi := 1008) z1 he.2 (nrg_le hw4) (by omega) (by omega) d) fun r2 y hy => ?_
      refine yl_sd 12 h7.2.1 (by omega) (by omega) (yl_ok ⟨mSr_set (k := 7 + 2 * w + 1) hy.1 hy.2.1, fr_w (fr_trans f1 hy.2.2) (by unfold fGd; omega)⟩)
    · rw [if_neg d]
      refine yl_b (pr_num0 z1 d) fun r2 y hy => ?_
      exact yl_sd 12 h7.2.1 (by omega) (by omega) (yl_ok ⟨mF_w hy.1 (by omega), fr_w (fr_trans f1 hy.2) (by unfold fGd; omega)⟩)
  · rw [if_neg c]
    refine yl_b (pr_num0 h c) fun r z hz => ?_
    refine yl_sd 12 h7.2.1 (by omega) (by omega) ?_
    have z1 : mF (tc_w z 88 (7 + 2 * w) r) (kS t n x.1) := mF_w hz.1 (by omega)
    rw [pr_numB (mF_n z1), pu_b]
    exact yl_sd 12 h7.2.1 (by omega) (by omega) (yl_ok ⟨mF_w z1 (by omega), fr_w (fr_w hz.2 (by unfold fGd; omega)) (by unfold fGd; omega)⟩)
def ndk (v s : Nat) (H : List (Nat × Nat × Nat)) (W : Nat × Nat) : Nat × Nat := if (∃ h ∈ H, h.1 = v) then nte (if 999 < v then 2 else 3) s W else W
theorem ndx {v s kk : Nat} {h0 : Nat × Nat × Nat} {H : List (Nat × Nat × Nat)} {X : Nat × Nat} (hk : 1 ≤ kk) : (if (∃ h ∈ h0 :: H, h.1 = v) then nte kk s X else X) = if h0.1 = v then (if (∃ h ∈ H, h.1 = v) then nte kk s (nte kk s X) else nte kk s X) else (if (∃ h ∈ H, h.1 = v) then nte kk s X else X) := by
  by_cases c : h0.1 = v
  · rw [if_pos c, if_pos ⟨_, List.mem_cons_self .., c⟩]
    by_cases e : ∃ h ∈ H, h.1 = v
    · rw [if_pos e, nte_2 hk]
    · rw [if_neg e]
  · rw [if_neg c]
    by_cases e : ∃ h ∈ H, h.1 = v
    · have e2 : ∃ h ∈ h0 :: H, h.1 = v := by
        obtain ⟨h, h1, h2⟩ := e
        exact ⟨h, List.mem_cons_of_mem _ h1, h2⟩
      rw [if_pos e, if_pos e2]
    · have e2 : ¬ ∃ h ∈ h0 :: H, h.1 = v := by
        rintro ⟨h, h1, h2⟩
        rcases List.mem_cons.mp h1 with q | q
        · rw [q] at h2; exact c h2
        · exact e ⟨h, q, h2⟩
      rw [if_neg e, if_neg e2]
theorem ndk_eq {v s : Nat} {H : List (Nat × Nat × Nat)} {W : Nat × Nat} : nrg 0 999 v s (ndk v s H W) = nhs v s H W := by
  unfold ndk nrg nhs
  by_cases c : 999 < v
  · rw [if_pos (show v < 0 ∨ 999 < v from Or.inr c), if_pos c, if_pos c]
    split
    · rw [nte_2 (by omega)]
    · rfl
  · rw [if_neg (show ¬ (v < 0 ∨ 999 < v) by omega), if_neg c, if_neg c]
theorem ndk_le {v s : Nat} {H : List (Nat × Nat × Nat)} {W : Nat × Nat} (h : W.1 ≤ 4) : (ndk v s H W).1 ≤ 4 := by
  unfold ndk
  split
  · exact nte_le (by split <;> omega) h
  · exact h
theorem pr_has95 {G : tc_G} (hG : gm G) (h7 : gm7 G) {t : Nat → Nat} {n : Nat} {u : tc_S} {x : pxs} (h : mSr u t n x) (hp : x.1 ≤ n) (hw4 : x.2.2.2.1 ≤ 4) (hH : x.2.2.1.length < 57) (hk : kK t n x.1 = 2) : y2 (bl_X12_readsHas_95 G 71 (nI (kS t n x.1)) (nI (kV t n x.1)) u) (fun _ z => mO z t n (if kK t n (kE t n x.1) = 2 then .inr (kE t n (kE t n x.1), x.2.1, x.2.2.1 ++ [(kV t n x.1, kV t n (kE t n x.1), kS t n x.1)], nrg 0 999 (kV t n (kE t n x.1)) (kS t n (kE t n x.1)) (nrg 0 999 (kV t n x.1) (kS t n x.1) x.2.2.2)) else .inl (kS t n (kE t n x.1))) ∧ fr fGd u z) := by
  have he := kE_le (t := t) hp
  unfold bl_X12_readsHas_95
  refine yl_b (pr_num hG (lo := 0) (hi := 999) h hp hw4 (by omega) (by omega) hk) fun r z hz => ?_
  by_cases d : kK t n (kE t n x.1) = 2
  · rw [if_pos d]
    refine yl_b (pr_num hG (lo := 0) (hi := 999) hz.1 he.2 (nrg_le hw4) (by omega) (by omega) d) fun r2 y hy => ?_
    obtain ⟨⟨hB, hT, a1, ⟨a2, a3⟩, a4, a5, a6⟩, hr2, hf⟩ := hy
    have a2 : y.1 71 28 = nI x.2.2.1.length := a2
    rw [pr_isGood a6, pu_b, if_neg i_n1, a2, h7.1.2.1, h7.1.2.2.1, h7.1.2.2.2]
    refine yl_sd 60 h7.2.2.1 (by omega) (by omega) ?_
    rw [show (tc_w y 89 x.2.2.1.length (nI (kV t n x.1))).1 71 28 = nI x.2.2.1.length from by rw [w_get, if_neg (by omega)]; exact a2]
    refine yl_sd 60 h7.2.2.2.1 (by omega) (by omega) ?_
    rw [show (tc_w (tc_w y 89 x.2.2.1.length (nI (kV t n x.1))) 90 x.2.2.1.length r2).1 71 28 = nI x.2.2.1.length from by rw [w_get, if_neg (by omega), w_get, if_neg (by omega)]; exact a2]
    refine yl_sd 60 h7.2.2.2.2 (by omega) (by omega) ?_
    rw [show (tc_w (tc_w (tc_w y 89 x.2.2.1.length (nI (kV t n x.1))) 90 x.2.2.1.length r2) 91 x.2.2.1.length (nI (kS t n x.1))).1 71 28 = nI x.2.2.1.length from by rw [w_get, if_neg (by omega), w_get, if_neg (by omega), w_get, if_neg (by omega)]; exact a2, nI_1]
    refine yl_let ?_
    have gg : ∀ o k, (tc_w (tc_w (tc_w (tc_w y 89 x.2.2.1.length (nI (kV t n x.1))) 90 x.2.2.1.length r2) 91 x.2.2.1.length (nI (kS t n x.1))) 71 28 (nI (x.2.2.1.length + 1))).1 o k = if o = 71 ∧ k = 28 then nI (x.2.2.1.length + 1) else if o = 91 ∧ k = x.2.2.1.length then nI (kS t n x.1) else if o = 90 ∧ k = x.2.2.1.length then r2 else if o = 89 ∧ k = x.2.2.1.length then nI (kV t n x.1) else y.1 o k := fun o k => rfl
    have g2 : (tc_w (tc_w (tc_w (tc_w y 89 x.2.2.1.length (nI (kV t n x.1))) 90 x.2.2.1.length r2) 91 x.2.2.1.length (nI (kS t n x.1))) 71 28 (nI (x.2.2.1.length + 1))).2 = y.2 := rfl
    have f1 : fr fGd u (tc_w (tc_w (tc_w (tc_w y 89 x.2.2.1.length (nI (kV t n x.1))) 90 x.2.2.1.length r2) 91 x.2.2.1.length (nI (kS t n x.1))) 71 28 (nI (x.2.2.1.length + 1))) := fr_w (fr_w (fr_w (fr_w (fr_trans hz.2.2 hf) (by unfold fGd; omega)) (by unfold fGd; omega)) (by unfold fGd; omega)) (by unfold fGd; omega)
    generalize tc_w (tc_w (tc_w (tc_w y 89 x.2.2.1.length (nI (kV t n x.1))) 90 x.2.2.1.length r2) 91 x.2.2.1.length (nI (kS t n x.1))) 71 28 (nI (x.2.2.1.length + 1)) = w at gg g2 f1 ⊢
    have fz : fr (fun o k => (89 ≤ o ∧ o ≤ 91) ∨ (o = 71 ∧ k = 28)) y w := fun o k q => by
      rw [gg, if_neg (by omega), if_neg (by omega), if_neg (by omega), if_neg (by omega)]
    refine yl_ok ⟨⟨mB_fr hB fz (by omega) (fun k => by omega), mT_fr hT fz g2 (fun k q1 q2 => by omega), fun q k hk => ?_, ⟨?_, fun k hk => ?_⟩, ?_, fun q => ?_, ?_⟩, f1⟩
    · rw [fz _ _ (by omega)]; exact a1 q k hk
    · rw [gg, if_pos ⟨rfl, rfl⟩]
      show _ = nI (x.2.2.1 ++ [(kV t n x.1, kV t n (kE t n x.1), kS t n x.1)]).length
      rw [List.length_append]
      rfl
    · have hk : k < (x.2.2.1 ++ [(kV t n x.1, kV t n (kE t n x.1), kS t n x.1)]).length := hk
      show w.1 89 k = nI (x.2.2.1 ++ [(kV t n x.1, kV t n (kE t n x.1), kS t n x.1)])[k].1 ∧ w.1 91 k = nI (x.2.2.1 ++ [(kV t n x.1, kV t n (kE t n x.1), kS t n x.1)])[k].2.2 ∧ (_ → w.1 90 k = nI (x.2.2.1 ++ [(kV t n x.1, kV t n (kE t n x.1), kS t n x.1)])[k].2.1)
      rw [gg, gg, gg]
      by_cases q : k < x.2.2.1.length
      · rw [List.getElem_append_left q]
        rw [if_neg (by omega), if_neg (by omega), if_neg (by omega), if_neg (by omega), if_neg (by omega), if_neg (by omega), if_neg (by omega), if_neg (by omega), if_neg (by omega), if_neg (by omega), if_neg (by omega), if_neg (by omega)]
        exact a3 k q
      · have ek : k = x.2.2.1.length := by
          rw [List.length_append] at hk
          have : k < x.2.2.1.length + 1 := hk
          omega
        subst ek
        have eg : (x.2.2.1 ++ [(kV t n x.1, kV t n (kE t n x.1), kS t n x.1)])[x.2.2.1.length] = (kV t n x.1, kV t n (kE t n x.1), kS t n x.1) := by
          rw [List.getElem_append_right (Nat.le_refl _)]
          simp
        rw [eg]
        refine ⟨?_, ?_, fun q => ?_⟩
        · rw [if_neg (by omega), if_neg (by omega), if_neg (by omega), if_pos ⟨rfl, rfl⟩]
        · rw [if_neg (by omega), if_pos ⟨rfl, rfl⟩]
        · rw [if_neg (by omega), if_neg (by omega), if_pos ⟨rfl, rfl⟩]
          exact hr2 q
    · rw [fz _ _ (by omega)]; exact a4
    · rw [fz _ _ (by omega)]; exact a5 q
    · rw [fz _ _ (by omega)]; exact a6
  · rw [if_neg d]
    refine yl_b (pr_num0 hz.1 d) fun r2 y hy => ?_
    rw [pr_isBad (mF_n hy.1), pu_b, if_pos rfl]
    exact yl_ok ⟨hy.1, fr_trans hz.2.2 hy.2⟩
theorem pr_has28 {G : tc_G} (hG : gm G) (h7 : gm7 G) {t : Nat → Nat} {n p : Nat} {S : mp} {H : List (Nat × Nat × Nat)} {u0 : tc_S} (hp : p ≤ n) (hH : H.length < 57) (hHk : ∀ h ∈ H, h.1 ≤ 9999) (hk : kK t n p = 2) : ∀ (m j f : Nat) (u : tc_S) (W : Nat × Nat), j + m = H.length → m < f → W.1 ≤ 4 → mSr u t n (p, S, H, W) → fr fGd u0 u → y2 (lo_X12_readsHas_28 G f 71 (nI (kS t n p)) 1 (nI j) u) (fun _ w => mO w t n (if kK t n (kE t n p) = 2 then .inr (kE t n (kE t n p), S, H ++ [(kV t n p, kV t n (kE t n p), kS t n p)], nrg 0 999 (kV t n (kE t n p)) (kS t n (kE t n p)) (nrg 0 999 (kV t n p) (kS t n p) (ndk (kV t n p) (kS t n p) (H.drop j) W))) else .inl (kS t n (kE t n p))) ∧ fr fGd u0 w) := by
  have hv := kV_le hk
  intro m
  induction m with
  | zero =>
    intro j f u W hj hf hW4 h hr
    obtain ⟨f, rfl⟩ : ∃ k, f = k + 1 := ⟨f - 1, by omega⟩
    have e28 : u.1 71 28 = nI H.length := h.2.2.2.1.1
    have e0 : ndk (kV t n p) (kS t n p) (H.drop j) W = W := by
      unfold ndk
      rw [List.drop_eq_nil_of_le (by omega), if_neg]
      rintro ⟨h, q, -⟩
      cases q
    rw [lo_X12_readsHas_28, e28, pu_le (by omega) (by omega), if_pos (by omega), e0]
    unfold bl_X12_readsHas_82
    rw [if_neg i_n1, h.2.1.2.2.2.1 hk, lN_i]
    exact yl_m (pr_has95 hG h7 (x := (p, S, H, W)) h hp hW4 hH hk) fun r q => ⟨q.1, fr_trans hr q.2⟩
  | succ m ih =>
    intro j f u W hj hf hW4 h hr
    obtain ⟨f, rfl⟩ : ∃ k, f = k + 1 := ⟨f - 1, by omega⟩
    have hjl : j < H.length := by omega
    have hjk := hHk _ (List.getElem_mem hjl)
    have e28 : u.1 71 28 = nI H.length := h.2.2.2.1.1
    have e89 : u.1 89 j = nI (H[j]).1 := (h.2.2.2.1.2 j hjl).1
    have h29 : u.2 71 29 = lN (kV t n p) := h.2.1.2.2.2.1 hk
    rw [lo_X12_readsHas_28, e28, pu_le (by omega) (by omega), if_neg (by omega), if_neg i_n1, h7.1.2.1]
    refine yl_ld 60 h7.2.2.1 (by omega) (by omega) ?_
    rw [e89, h29, nI_l (by omega)]
    unfold bl_X12_readsHas_72 bl_X12_readsHas_76
    have l1 : lg_cmp (lN (H[j]).1) (lN (kV t n p)) = 0 ↔ (H[j]).1 = kV t n p := by
      rw [lg_cmp_eq, lN_eq (by omega) (by omega)]
    have l2 : lg_cmp (lN (kV t n p)) 999 ≤ 0 ↔ kV t n p ≤ 999 := by
      rw [lg_cmp_le, show (999 : Int64) = lN 999 from rfl, lN_le (by omega) (by omega)]
    have hd : ∀ X, ndk (kV t n p) (kS t n p) (H.drop j) X = if (H[j]).1 = kV t n p then ndk (kV t n p) (kS t n p) (H.drop (j + 1)) (nte (if 999 < kV t n p then 2 else 3) (kS t n p) X) else ndk (kV t n p) (kS t n p) (H.drop (j + 1)) X := by
      intro X
      rw [List.drop_eq_getElem_cons hjl]
      unfold ndk
      exact ndx (by split <;> omega)
    rw [hd W]
    by_cases c : (H[j]).1 = kV t n p
    · rw [if_pos c, if_pos (l1.mpr c)]
      have go : ∀ k, k = (if 999 < kV t n p then 2 else 3) → y2 (tc_b (fn_X12_alsoWrong G 71 (nI k) (nI (kS t n p)) u) fun x17 u18 => tc_let (nI j + 1) fun x16 => lo_X12_readsHas_28 G f 71 (nI (kS t n p)) 1 x16 u18) (fun _ w => mO w t n (if kK t n (kE t n p) = 2 then .inr (kE t n (kE t n p), S, H ++ [(kV t n p, kV t n (kE t n p), kS t n p)], nrg 0 999 (kV t n (kE t n p)) (kS t n (kE t n p)) (nrg 0 999 (kV t n p) (kS t n p) (ndk (kV t n p) (kS t n p) (H.drop (j + 1)) (nte (if 999 < kV t n p then 2 else 3) (kS t n p) W)))) else .inl (kS t n (kE t n p))) ∧ fr fGd u0 w) := by
        intro k hk2
        have k14 : 1 ≤ k ∧ k ≤ 4 := by rw [hk2]; split <;> omega
        refine yl_b (pr_also (k := k) k14 hW4 h.2.2) fun _ w hw => yl_let ?_
        rw [nI_1, ← hk2]
        refine yl_m (ih (j + 1) f w (nte k (kS t n p) W) (by omega) (by omega) (nte_le k14.2 hW4) ⟨mB_fr h.1 hw.2.1 (by omega) (fun k => by omega), ?_, hw.1⟩ (fr_trans hr (fr_mono hw.2.1 fun o k q => by unfold fGd; omega))) fun r q => q
        exact mT_fr h.2.1 hw.2.1 hw.2.2 (fun k q1 q2 => by omega)
      by_cases d : kV t n p ≤ 999
      · rw [if_pos (l2.mpr d)]
        exact go 3 (by rw [if_neg (by omega)])
      · rw [if_neg (fun q => d (l2.mp q))]
        exact go 2 (by rw [if_pos (by omega)])
    · rw [if_neg c, if_neg (fun q => c (l1.mp q))]
      refine yl_let ?_
      rw [nI_1]
      exact ih (j + 1) f u W (by omega) (by omega) hW4 h hr
theorem pr_readsHas {G : tc_G} (hG : gm G) (h7 : gm7 G) {t : Nat → Nat} {n : Nat} {u : tc_S} {x : pxs} (h : mSr u t n x) (hp : x.1 ≤ n) (hw4 : x.2.2.2.1 ≤ 4) (hH : x.2.2.1.length < 57) (hHk : ∀ h ∈ x.2.2.1, h.1 ≤ 9999) : y2 (fn_X12_readsHas G 71 u) (fun _ z => mO z t n (bHas t n x) ∧ fr fGd u z) := by
  have hfu := tc_fu_big
  have hkl := kK_le t n x.1
  unfold fn_X12_readsHas bHas
  refine yl_let ?_
  rw [pr_isGood h.2.2.2.2.2.2, pu_b, if_neg i_n1, h.2.1.1, h.2.1.2.1, show (2 : Int32) = nI 2 from rfl, pu_eq (by omega) (by omega)]
  by_cases c : kK t n x.1 = 2
  · rw [if_pos c, if_pos c]
    unfold bl_X12_readsHas_25
    have z := pr_has28 hG h7 (u0 := u) (S := x.2.1) (H := x.2.2.1) hp hH hHk c x.2.2.1.length 0 tc_fu u x.2.2.2 (by omega) (by omega) hw4 h fr_refl
    rw [List.drop_zero, ndk_eq] at z
    exact z
  · rw [if_neg c, if_neg c]
    unfold bl_X12_readsHas_24 bl_X12_readsHas_25
    have e : lo_X12_readsHas_28 G tc_fu 71 (nI (kS t n x.1)) 0 0 u = bl_X12_readsHas_82 G 71 (nI (kS t n x.1)) 0 u := by
      obtain ⟨f, hf⟩ : ∃ f, tc_fu = f + 1 := ⟨4095, rfl⟩
      rw [hf, lo_X12_readsHas_28, if_pos rfl]
      split <;> rfl
    rw [e]
    unfold bl_X12_readsHas_82
    rw [if_pos rfl]
    unfold bl_X12_readsHas_95
    refine yl_b (pr_num0 h c) fun r z hz => ?_
    rw [pr_numB (mF_n hz.1), pu_b, pr_isBad (mF_n hz.1), pu_b, if_pos rfl]
    exact yl_ok hz
theorem pr_readsLine {G : tc_G} (hG : gm G) (h7 : gm7 G) {t : Nat → Nat} {n : Nat} {u : tc_S} {x : pxs} (h : mSr u t n x) (hI : xI n x) (hn : n ≤ 400) : y2 (fn_X12_readsLine G 71 u) (fun _ w => mO w t n (ln1 t n x) ∧ fr fGd u w) := by
  have h4 := h.2.2.2.2.2.2
  have hp := hI.1
  have hw4 := hI.2.2.1
  have hkl := kK_le t n x.1
  have N0 : (kK t n x.1 = 1 → kW t n x.1 ≠ [98, 117, 99, 107, 101, 116, 115]) → fn_X12_hasWord G 71 1077983065 u = some (0, u) := fun q => pr_noWord (w := 0) (W := [98, 117, 99, 107, 101, 116, 115]) (by decide) (by omega) (by decide +kernel) h4 hp h.2.1 q
  have Y0 : kK t n x.1 = 1 → kW t n x.1 = [98, 117, 99, 107, 101, 116, 115] → y2 (fn_X12_hasWord G 71 1077983065 u) (fun r w => r = 1 ∧ mT w t n (kE t n x.1) ∧ fr fU2 u w) := fun k q => pr_isWord hG (w := 0) (W := [98, 117, 99, 107, 101, 116, 115]) (by decide) (by omega) (by decide +kernel) h4 hp h.1 h.2.1 k q
  have N1 : (kK t n x.1 = 1 → kW t n x.1 ≠ [115, 108, 111, 116, 115]) → fn_X12_hasWord G 71 10345069 u = some (0, u) := fun q => pr_noWord (w := 0) (W := [115, 108, 111, 116, 115]) (by decide) (by omega) (by decide +kernel) h4 hp h.2.1 q
  have Y1 : kK t n x.1 = 1 → kW t n x.1 = [115, 108, 111, 116, 115] → y2 (fn_X12_hasWord G 71 10345069 u) (fun r w => r = 1 ∧ mT w t n (kE t n x.1) ∧ fr fU2 u w) := fun k q => pr_isWord hG (w := 0) (W := [115, 108, 111, 116, 115]) (by decide) (by omega) (by decide +kernel) h4 hp h.1 h.2.1 k q
  have N2 : (kK t n x.1 = 1 → kW t n x.1 ≠ [115, 116, 97, 115, 104]) → fn_X12_hasWord G 71 10492289 u = some (0, u) := fun q => pr_noWord (w := 0) (W := [115, 116, 97, 115, 104]) (by decide) (by omega) (by decide +kernel) h4 hp h.2.1 q
  have Y2 : kK t n x.1 = 1 → kW t n x.1 = [115, 116, 97, 115, 104] → y2 (fn_X12_hasWord G 71 10492289 u) (fun r w => r = 1 ∧ mT w t n (kE t n x.1) ∧ fr fU2 u w) := fun k q => pr_isWord hG (w := 0) (W := [115, 116, 97, 115, 104]) (by decide) (by omega) (by decide +kernel) h4 hp h.1 h.2.1 k q
  have N3 : (kK t n x.1 = 1 → kW t n x.1 ≠ [100, 101, 112, 116, 104]) → fn_X12_hasWord G 71 2236391 u = some (0, u) := fun q => pr_noWord (w := 0) (W := [100, 101, 112, 116, 104]) (by decide) (by omega) (by decide +kernel) h4 hp h.2.1 q
  have Y3 : kK t n x.1 = 1 → kW t n x.1 = [100, 101, 112, 116, 104] → y2 (fn_X12_hasWord G 71 2236391 u) (fun r w => r = 1 ∧ mT w t n (kE t n x.1) ∧ fr fU2 u w) := fun k q => pr_isWord hG (w := 0) (W := [100, 101, 112, 116, 104]) (by decide) (by omega) (by decide +kernel) h4 hp h.1 h.2.1 k q
  have N4 : (kK t n x.1 = 1 → kW t n x.1 ≠ [116, 114, 105, 101, 115]) → fn_X12_hasWord G 71 10989829 u = some (0, u) := fun q => pr_noWord (w := 0) (W := [116, 114, 105, 101, 115]) (by decide) (by omega) (by decide +kernel) h4 hp h.2.1 q
  have Y4 : kK t n x.1 = 1 → kW t n x.1 = [116, 114, 105, 101, 115] → y2 (fn_X12_hasWord G 71 10989829 u) (fun r w => r = 1 ∧ mT w t n (kE t n x.1) ∧ fr fU2 u w) := fun k q => pr_isWord hG (w := 0) (W := [116, 114, 105, 101, 115]) (by decide) (by omega) (by decide +kernel) h4 hp h.1 h.2.1 k q
  have N5 : (kK t n x.1 = 1 → kW t n x.1 ≠ [115, 101, 101, 100]) → fn_X12_hasWord G 71 377761 u = some (0, u) := fun q => pr_noWord (w := 0) (W := [115, 101, 101, 100]) (by decide) (by omega) (by decide +kernel) h4 hp h.2.1 q
  have Y5 : kK t n x.1 = 1 → kW t n x.1 = [115, 101, 101, 100] → y2 (fn_X12_hasWord G 71 377761 u) (fun r w => r = 1 ∧ mT w t n (kE t n x.1) ∧ fr fU2 u w) := fun k q => pr_isWord hG (w := 0) (W := [115, 101, 101, 100]) (by decide) (by omega) (by decide +kernel) h4 hp h.1 h.2.1 k q
  have N6 : (kK t n x.1 = 1 → kW t n x.1 ≠ [107, 105, 99, 107]) → fn_X12_hasWord G 71 223166 u = some (0, u) := fun q => pr_noWord (w := 0) (W := [107, 105, 99, 107]) (by decide) (by omega) (by decide +kernel) h4 hp h.2.1 q
  have Y6 : kK t n x.1 = 1 → kW t n x.1 = [107, 105, 99, 107] → y2 (fn_X12_hasWord G 71 223166 u) (fun r w => r = 1 ∧ mT w t n (kE t n x.1) ∧ fr fU2 u w) := fun k q => pr_isWord hG (w := 0) (W := [107, 105, 99, 107]) (by decide) (by omega) (by decide +kernel) h4 hp h.1 h.2.1 k q
  have N7 : (kK t n x.1 = 1 → kW t n x.1 ≠ [102, 117, 108, 108]) → fn_X12_hasWord G 71 133743 u = some (0, u) := fun q => pr_noWord (w := 0) (W := [102, 117, 108, 108]) (by decide) (by omega) (by decide +kernel) h4 hp h.2.1 q
  have Y7 : kK t n x.1 = 1 → kW t n x.1 = [102, 117, 108, 108] → y2 (fn_X12_hasWord G 71 133743 u) (fun r w => r = 1 ∧ mT w t n (kE t n x.1) ∧ fr fU2 u w) := fun k q => pr_isWord hG (w := 0) (W := [102, 117, 108, 108]) (by decide) (by omega) (by decide +kernel) h4 hp h.1 h.2.1 k q
  have N8 : (kK t n x.1 = 1 → kW t n x.1 ≠ [111, 110, 101]) → fn_X12_hasWord G 71 11318 u = some (0, u) := fun q => pr_noWord (w := 0) (W := [111, 110, 101]) (by decide) (by omega) (by decide +kernel) h4 hp h.2.1 q
  have Y8 : kK t n x.1 = 1 → kW t n x.1 = [111, 110, 101] → y2 (fn_X12_hasWord G 71 11318 u) (fun r w => r = 1 ∧ mT w t n (kE t n x.1) ∧ fr fU2 u w) := fun k q => pr_isWord hG (w := 0) (W := [111, 110, 101]) (by decide) (by omega) (by decide +kernel) h4 hp h.1 h.2.1 k q
  have N9 : (kK t n x.1 = 1 → kW t n x.1 ≠ [116, 119, 111]) → fn_X12_hasWord G 71 15216 u = some (0, u) := fun q => pr_noWord (w := 0) (W := [116, 119, 111]) (by decide) (by omega) (by decide +kernel) h4 hp h.2.1 q
  have Y9 : kK t n x.1 = 1 → kW t n x.1 = [116, 119, 111] → y2 (fn_X12_hasWord G 71 15216 u) (fun r w => r = 1 ∧ mT w t n (kE t n x.1) ∧ fr fU2 u w) := fun k q => pr_isWord hG (w := 0) (W := [116, 119, 111]) (by decide) (by omega) (by decide +kernel) h4 hp h.1 h.2.1 k q
  have N10 : (kK t n x.1 = 1 → kW t n x.1 ≠ [104, 97, 115]) → fn_X12_hasWord G 71 5878 u = some (0, u) := fun q => pr_noWord (w := 0) (W := [104, 97, 115]) (by decide) (by omega) (by decide +kernel) h4 hp h.2.1 q
  have Y10 : kK t n x.1 = 1 → kW t n x.1 = [104, 97, 115] → y2 (fn_X12_hasWord G 71 5878 u) (fun r w => r = 1 ∧ mT w t n (kE t n x.1) ∧ fr fU2 u w) := fun k q => pr_isWord hG (w := 0) (W := [104, 97, 115]) (by decide) (by omega) (by decide +kernel) h4 hp h.1 h.2.1 k q
  unfold fn_X12_readsLine bl_X12_readsLine_83 bl_X12_readsLine_88 ln1
  have fin : ∀ (i : Nat) (w : tc_S), kK t n x.1 = 1 → wix (wds 0) 0 (kW t n x.1) = some i → mO w t n (bdy t n i (kE t n x.1, x.2)) → fr fGd u w → y2 (bl_X12_readsLine_202 G 71 w) (fun _ w => mO w t n (ln2 t n x (some i)) ∧ fr fGd u w) := by
    intro i w k hx hm hf
    obtain ⟨p1, p2, p3, p4⟩ := ln_pre hI k hx
    exact pr_202 hG hm (fun z hz => (bdy_I (x := (kE t n x.1, x.2)) p1 p2 p4 hI.2.2.1 hI.2.2.2.1 hI.2.2.2.2 hz).2.1) hf
  have none_ : y2 (tc_b (fn_X12_fails G 71 u) fun _ u34 => bl_X12_readsLine_202 G 71 u34) (fun _ w => mO w t n (.inl (kS t n x.1)) ∧ fr fGd u w) := by
    refine yl_b (pr_fails h4 h.2.1.1) fun _ w hw => ?_
    exact pr_202 hG (o := .inl (kS t n x.1)) hw.1 (fun z hz => by cases hz) hw.2
  by_cases k : kK t n x.1 = 1
  · rw [if_pos k]
    cases hx : wix (wds 0) 0 (kW t n x.1) with
    | none =>
      have no := wix_no hx
      rw [pr_setsN (N0 (fun _ => no _ (by decide))), pu_b, if_pos rfl]
      rw [pr_setsN (N1 (fun _ => no _ (by decide))), pu_b, if_pos rfl]
      rw [pr_setsN (N2 (fun _ => no _ (by decide))), pu_b, if_pos rfl]
      rw [pr_setsN (N3 (fun _ => no _ (by decide))), pu_b, if_pos rfl]
      rw [pr_setsN (N4 (fun _ => no _ (by decide))), pu_b, if_pos rfl]
      rw [pr_setsN (N5 (fun _ => no _ (by decide))), pu_b, if_pos rfl]
      rw [if_pos rfl]
      rw [N6 (fun _ => no _ (by decide)), pu_b, if_pos rfl]
      rw [N7 (fun _ => no _ (by decide)), pu_b, if_pos rfl]
      rw [N8 (fun _ => no _ (by decide)), pu_b, if_pos rfl]
      rw [N9 (fun _ => no _ (by decide)), pu_b, if_pos rfl]
      rw [N10 (fun _ => no _ (by decide)), pu_b, if_pos rfl]
      exact none_
    | some i =>
      have lt := (wix_lt hx).2
      have l11 : (wds 0).length = 11 := by decide
      obtain ⟨s1, s2⟩ := wix_sp hx
      rw [Nat.sub_zero] at s1 s2
      obtain ⟨p1, p2, p3, p4⟩ := ln_pre hI k hx
      have st : ∀ w, mT w t n (kE t n x.1) → fr fU2 u w → mSr w t n (kE t n x.1, x.2) := fun w q1 q2 => ⟨mB_U h.1 q2, q1, mG_U h.2.2 q2⟩
      have cs : i = 0 ∨ i = 1 ∨ i = 2 ∨ i = 3 ∨ i = 4 ∨ i = 5 ∨ i = 6 ∨ i = 7 ∨ i = 8 ∨ i = 9 ∨ i = 10 := by omega
      rcases cs with e | e | e | e | e | e | e | e | e | e | e
      · subst e
        refine yl_b (pr_setsY hG h7 (c := 0) (lo := 1) (hi := 16) (w := 0) (W := [98, 117, 99, 107, 101, 116, 115]) (by decide) (by omega) (by decide +kernel) h hp hw4 (by omega) (by omega) (by omega) k (Option.some.inj s1).symm) fun r w hw => ?_
        rw [hw.1]
        refine yl_n i_n1 (yl_n i_n1 (fin 0 w k hx hw.2.1 hw.2.2))
      · subst e
        rw [pr_setsN (N0 (fun _ q => s2 0 (by omega) (by rw [q]; rfl))), pu_b, if_pos rfl]
        refine yl_b (pr_setsY hG h7 (c := 1) (lo := 1) (hi := 4) (w := 0) (W := [115, 108, 111, 116, 115]) (by decide) (by omega) (by decide +kernel) h hp hw4 (by omega) (by omega) (by omega) k (Option.some.inj s1).symm) fun r w hw => ?_
        rw [hw.1]
        refine yl_n i_n1 (yl_n i_n1 (fin 1 w k hx hw.2.1 hw.2.2))
      · subst e
        rw [pr_setsN (N0 (fun _ q => s2 0 (by omega) (by rw [q]; rfl))), pu_b, if_pos rfl]
        rw [pr_setsN (N1 (fun _ q => s2 1 (by omega) (by rw [q]; rfl))), pu_b, if_pos rfl]
        refine yl_b (pr_setsY hG h7 (c := 2) (lo := 0) (hi := 4) (w := 0) (W := [115, 116, 97, 115, 104]) (by decide) (by omega) (by decide +kernel) h hp hw4 (by omega) (by omega) (by omega) k (Option.some.inj s1).symm) fun r w hw => ?_
        rw [hw.1]
        refine yl_n i_n1 (yl_n i_n1 (fin 2 w k hx hw.2.1 hw.2.2))
      · subst e
        rw [pr_setsN (N0 (fun _ q => s2 0 (by omega) (by rw [q]; rfl))), pu_b, if_pos rfl]
        rw [pr_setsN (N1 (fun _ q => s2 1 (by omega) (by rw [q]; rfl))), pu_b, if_pos rfl]
        rw [pr_setsN (N2 (fun _ q => s2 2 (by omega) (by rw [q]; rfl))), pu_b, if_pos rfl]
        refine yl_b (pr_setsY hG h7 (c := 3) (lo := 0) (hi := 16) (w := 0) (W := [100, 101, 112, 116, 104]) (by decide) (by omega) (by decide +kernel) h hp hw4 (by omega) (by omega) (by omega) k (Option.some.inj s1).symm) fun r w hw => ?_
        rw [hw.1]
        refine yl_n i_n1 (yl_n i_n1 (fin 3 w k hx hw.2.1 hw.2.2))
      · subst e
        rw [pr_setsN (N0 (fun _ q => s2 0 (by omega) (by rw [q]; rfl))), pu_b, if_pos rfl]
        rw [pr_setsN (N1 (fun _ q => s2 1 (by omega) (by rw [q]; rfl))), pu_b, if_pos rfl]
        rw [pr_setsN (N2 (fun _ q => s2 2 (by omega) (by rw [q]; rfl))), pu_b, if_pos rfl]
        rw [pr_setsN (N3 (fun _ q => s2 3 (by omega) (by rw [q]; rfl))), pu_b, if_pos rfl]
        refine yl_b (pr_setsY hG h7 (c := 4) (lo := 0) (hi := 4) (w := 0) (W := [116, 114, 105, 101, 115]) (by decide) (by omega) (by decide +kernel) h hp hw4 (by omega) (by omega) (by omega) k (Option.some.inj s1).symm) fun r w hw => ?_
        rw [hw.1]
        refine yl_n i_n1 (yl_n i_n1 (fin 4 w k hx hw.2.1 hw.2.2))
      · subst e
        rw [pr_setsN (N0 (fun _ q => s2 0 (by omega) (by rw [q]; rfl))), pu_b, if_pos rfl]
        rw [pr_setsN (N1 (fun _ q => s2 1 (by omega) (by rw [q]; rfl))), pu_b, if_pos rfl]
        rw [pr_setsN (N2 (fun _ q => s2 2 (by omega) (by rw [q]; rfl))), pu_b, if_pos rfl]
        rw [pr_setsN (N3 (fun _ q => s2 3 (by omega) (by rw [q]; rfl))), pu_b, if_pos rfl]
        rw [pr_setsN (N4 (fun _ q => s2 4 (by omega) (by rw [q]; rfl))), pu_b, if_pos rfl]
        refine yl_b (pr_setsY hG h7 (c := 11) (lo := 0) (hi := 9999) (w := 0) (W := [115, 101, 101, 100]) (by decide) (by omega) (by decide +kernel) h hp hw4 (by omega) (by omega) (by omega) k (Option.some.inj s1).symm) fun r w hw => ?_
        rw [hw.1]
        refine yl_n i_n1 (yl_n i_n1 (fin 5 w k hx hw.2.1 hw.2.2))
      · subst e
        rw [pr_setsN (N0 (fun _ q => s2 0 (by omega) (by rw [q]; rfl))), pu_b, if_pos rfl]
        rw [pr_setsN (N1 (fun _ q => s2 1 (by omega) (by rw [q]; rfl))), pu_b, if_pos rfl]
        rw [pr_setsN (N2 (fun _ q => s2 2 (by omega) (by rw [q]; rfl))), pu_b, if_pos rfl]
        rw [pr_setsN (N3 (fun _ q => s2 3 (by omega) (by rw [q]; rfl))), pu_b, if_pos rfl]
        rw [pr_setsN (N4 (fun _ q => s2 4 (by omega) (by rw [q]; rfl))), pu_b, if_pos rfl]
        rw [pr_setsN (N5 (fun _ q => s2 5 (by omega) (by rw [q]; rfl))), pu_b, if_pos rfl]
        rw [if_pos rfl]
        refine yl_b (Y6 k (Option.some.inj s1).symm) fun r w hw => ?_
        rw [hw.1]
        refine yl_n i_n1 ?_
        refine yl_b (pr_kick hG (st w hw.2.1 hw.2.2) p2) fun r2 z hz => ?_
        rw [h7.1.1]
        exact yl_sd (j := 5) 12 h7.2.1 (by omega) (by omega) (fin 6 _ k hx (pr_chset hz.1) (fr_w (fr_trans (fU2_G hw.2.2) hz.2) (by unfold fGd; omega)))
      · subst e
        rw [pr_setsN (N0 (fun _ q => s2 0 (by omega) (by rw [q]; rfl))), pu_b, if_pos rfl]
        rw [pr_setsN (N1 (fun _ q => s2 1 (by omega) (by rw [q]; rfl))), pu_b, if_pos rfl]
        rw [pr_setsN (N2 (fun _ q => s2 2 (by omega) (by rw [q]; rfl))), pu_b, if_pos rfl]
        rw [pr_setsN (N3 (fun _ q => s2 3 (by omega) (by rw [q]; rfl))), pu_b, if_pos rfl]
        rw [pr_setsN (N4 (fun _ q => s2 4 (by omega) (by rw [q]; rfl))), pu_b, if_pos rfl]
        rw [pr_setsN (N5 (fun _ q => s2 5 (by omega) (by rw [q]; rfl))), pu_b, if_pos rfl]
        rw [if_pos rfl]
        rw [N6 (fun _ q => s2 6 (by omega) (by rw [q]; rfl)), pu_b, if_pos rfl]
        refine yl_b (Y7 k (Option.some.inj s1).symm) fun r w hw => ?_
        rw [hw.1]
        refine yl_n i_n1 ?_
        refine yl_b (pr_full hG (st w hw.2.1 hw.2.2) p2) fun r2 z hz => ?_
        rw [h7.1.1]
        exact yl_sd (j := 6) 12 h7.2.1 (by omega) (by omega) (fin 7 _ k hx (pr_chset hz.1) (fr_w (fr_trans (fU2_G hw.2.2) hz.2) (by unfold fGd; omega)))
      · subst e
        rw [pr_setsN (N0 (fun _ q => s2 0 (by omega) (by rw [q]; rfl))), pu_b, if_pos rfl]
        rw [pr_setsN (N1 (fun _ q => s2 1 (by omega) (by rw [q]; rfl))), pu_b, if_pos rfl]
        rw [pr_setsN (N2 (fun _ q => s2 2 (by omega) (by rw [q]; rfl))), pu_b, if_pos rfl]
        rw [pr_setsN (N3 (fun _ q => s2 3 (by omega) (by rw [q]; rfl))), pu_b, if_pos rfl]
        rw [pr_setsN (N4 (fun _ q => s2 4 (by omega) (by rw [q]; rfl))), pu_b, if_pos rfl]
        rw [pr_setsN (N5 (fun _ q => s2 5 (by omega) (by rw [q]; rfl))), pu_b, if_pos rfl]
        rw [if_pos rfl]
        rw [N6 (fun _ q => s2 6 (by omega) (by rw [q]; rfl)), pu_b, if_pos rfl]
        rw [N7 (fun _ q => s2 7 (by omega) (by rw [q]; rfl)), pu_b, if_pos rfl]
        refine yl_b (Y8 k (Option.some.inj s1).symm) fun r w hw => ?_
        rw [hw.1]
        refine yl_n i_n1 ?_
        refine yl_b (pr_readsHash hG h7 (w := 0) (by omega) (st w hw.2.1 hw.2.2) p2 hw4) fun r2 z hz => ?_
        exact fin 8 _ k hx hz.1 (fr_trans (fU2_G hw.2.2) hz.2)
      · subst e
        rw [pr_setsN (N0 (fun _ q => s2 0 (by omega) (by rw [q]; rfl))), pu_b, if_pos rfl]
        rw [pr_setsN (N1 (fun _ q => s2 1 (by omega) (by rw [q]; rfl))), pu_b, if_pos rfl]
        rw [pr_setsN (N2 (fun _ q => s2 2 (by omega) (by rw [q]; rfl))), pu_b, if_pos rfl]
        rw [pr_setsN (N3 (fun _ q => s2 3 (by omega) (by rw [q]; rfl))), pu_b, if_pos rfl]
        rw [pr_setsN (N4 (fun _ q => s2 4 (by omega) (by rw [q]; rfl))), pu_b, if_pos rfl]
        rw [pr_setsN (N5 (fun _ q => s2 5 (by omega) (by rw [q]; rfl))), pu_b, if_pos rfl]
        rw [if_pos rfl]
        rw [N6 (fun _ q => s2 6 (by omega) (by rw [q]; rfl)), pu_b, if_pos rfl]
        rw [N7 (fun _ q => s2 7 (by omega) (by rw [q]; rfl)), pu_b, if_pos rfl]
        rw [N8 (fun _ q => s2 8 (by omega) (by rw [q]; rfl)), pu_b, if_pos rfl]
        refine yl_b (Y9 k (Option.some.inj s1).symm) fun r w hw => ?_
        rw [hw.1]
        refine yl_n i_n1 ?_
        refine yl_b (pr_readsHash hG h7 (w := 1) (by omega) (st w hw.2.1 hw.2.2) p2 hw4) fun r2 z hz => ?_
        exact fin 9 _ k hx hz.1 (fr_trans (fU2_G hw.2.2) hz.2)
      · subst e
        rw [pr_setsN (N0 (fun _ q => s2 0 (by omega) (by rw [q]; rfl))), pu_b, if_pos rfl]
        rw [pr_setsN (N1 (fun _ q => s2 1 (by omega) (by rw [q]; rfl))), pu_b, if_pos rfl]
        rw [pr_setsN (N2 (fun _ q => s2 2 (by omega) (by rw [q]; rfl))), pu_b, if_pos rfl]
        rw [pr_setsN (N3 (fun _ q => s2 3 (by omega) (by rw [q]; rfl))), pu_b, if_pos rfl]
        rw [pr_setsN (N4 (fun _ q => s2 4 (by omega) (by rw [q]; rfl))), pu_b, if_pos rfl]
        rw [pr_setsN (N5 (fun _ q => s2 5 (by omega) (by rw [q]; rfl))), pu_b, if_pos rfl]
        rw [if_pos rfl]
        rw [N6 (fun _ q => s2 6 (by omega) (by rw [q]; rfl)), pu_b, if_pos rfl]
        rw [N7 (fun _ q => s2 7 (by omega) (by rw [q]; rfl)), pu_b, if_pos rfl]
        rw [N8 (fun _ q => s2 8 (by omega) (by rw [q]; rfl)), pu_b, if_pos rfl]
        rw [N9 (fun _ q => s2 9 (by omega) (by rw [q]; rfl)), pu_b, if_pos rfl]
        refine yl_b (Y10 k (Option.some.inj s1).symm) fun r w hw => ?_
        rw [hw.1]
        refine yl_n i_n1 ?_
        rw [if_pos rfl] at p4
        refine yl_b (pr_readsHas hG h7 (st w hw.2.1 hw.2.2) p2 hw4 (by show x.2.2.1.length < 57; omega) hI.2.2.2.1) fun r2 z hz => ?_
        exact fin 10 _ k hx hz.1 (fr_trans (fU2_G hw.2.2) hz.2)
  · rw [if_neg k]
    rw [pr_setsN (N0 (fun q => absurd q k)), pu_b, if_pos rfl]
    rw [pr_setsN (N1 (fun q => absurd q k)), pu_b, if_pos rfl]
    rw [pr_setsN (N2 (fun q => absurd q k)), pu_b, if_pos rfl]
    rw [pr_setsN (N3 (fun q => absurd q k)), pu_b, if_pos rfl]
    rw [pr_setsN (N4 (fun q => absurd q k)), pu_b, if_pos rfl]
    rw [pr_setsN (N5 (fun q => absurd q k)), pu_b, if_pos rfl]
    rw [if_pos rfl]
    rw [N6 (fun q => absurd q k), pu_b, if_pos rfl]
    rw [N7 (fun q => absurd q k), pu_b, if_pos rfl]
    rw [N8 (fun q => absurd q k), pu_b, if_pos rfl]
    rw [N9 (fun q => absurd q k), pu_b, if_pos rfl]
    rw [N10 (fun q => absurd q k), pu_b, if_pos rfl]
    exact none_
