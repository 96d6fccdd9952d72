/-! the reference: how many are in a bucket -/
theorem pm_lo_inBucket {G : tc_G} (hG : gm G) {u : tc_S} {B b : Nat} {g : mp} (hB : B + 292 ≤ 3253) (hM : isM u B g) (hg : mok g) (hb : b < 16) : ∀ (n i s f : Nat), i + n = mn g 1 → n < f → s ≤ i → lo_X12_inBucket_5 G f 71 (nI B) (nI b) (nI s) (nI i) u = some (nI (s + cf (fun p => decide (¬ g (mcell b p) = 0)) n i), u) := by
  have hs := hg.2.2.1
  intro n
  induction n with
  | zero =>
    intro i s f hi hf hsi
    obtain ⟨f, rfl⟩ : ∃ k, f = k + 1 := ⟨f - 1, by omega⟩
    rw [lo_X12_inBucket_5, hG.1.1, show nI B + 1 = nI (B + 1) from nI_1 B, isM_ld hG hM hB (by omega), hg.1 1 (by omega), pu_le (by omega) (by omega), if_pos (by omega)]
    rfl
  | succ n ih =>
    intro i s f hi hf hsi
    obtain ⟨f, rfl⟩ : ∃ k, f = k + 1 := ⟨f - 1, by omega⟩
    have hc : mcell b i < 292 := by unfold mcell; omega
    obtain ⟨q, hq1, hq2⟩ := hg.2.2.2.2.2.2.2.2.2.2.1 b i hb (by omega)
    rw [lo_X12_inBucket_5, hG.1.1, show nI B + 1 = nI (B + 1) from nI_1 B, isM_ld hG hM hB (by omega), hg.1 1 (by omega), pu_le (by omega) (by omega), if_neg (by omega), pm_cell (by omega), pu_b, pm_isEntry hG (by omega) (by rw [hM _ hc]; exact hq2) (by omega), pu_b, hM _ hc]
    unfold cf bl_X12_inBucket_38 tc_let
    by_cases h0 : g (mcell b i) = 0
    · rw [if_pos h0, if_pos rfl]
      show lo_X12_inBucket_5 G f 71 (nI B) (nI b) (nI s + 0) (nI i + 1) u = _
      rw [show nI s + 0 = nI (s + 0) from nI_add s 0, show nI i + 1 = nI (i + 1) from nI_1 i, ih (i + 1) (s + 0) f (by omega) (by omega) (by omega)]
      simp [h0]
    · rw [if_neg h0, if_neg (by decide)]
      show lo_X12_inBucket_5 G f 71 (nI B) (nI b) (nI s + 1) (nI i + 1) u = _
      rw [show nI s + 1 = nI (s + 1) from nI_1 s, show nI i + 1 = nI (i + 1) from nI_1 i, ih (i + 1) (s + 1) f (by omega) (by omega) (by omega)]
      rw [Nat.add_assoc]
      simp only [h0, not_false_eq_true, decide_true, if_true]
theorem pm_inBucket {G : tc_G} (hG : gm G) {u : tc_S} {B b : Nat} {g : mp} (hB : B + 292 ≤ 3253) (hM : isM u B g) (hg : mok g) (hb : b < 16) : fn_X12_inBucket G 71 (nI B) (nI b) u = some (nI (minb g b), u) := by
  have h := pm_lo_inBucket hG hB hM hg hb (mn g 1) 0 0 tc_fu (by omega) (by have := tc_fu_big; have := hg.2.2.1; omega) (by omega)
  rw [Nat.zero_add] at h
  exact h
