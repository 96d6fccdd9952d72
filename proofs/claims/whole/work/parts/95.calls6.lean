/-! calls: filled; entries counted -/
def afl (g : mp) (m : Int32) : Nat → Nat → Int32 → Int32
  | 0, _, c => c
  | n + 1, b, c => afl g m n (b + 1) (c + (if nI (minb g b) = m then 1 else 0))
theorem minb_le (g : mp) (b : Nat) : minb g b ≤ mn g 1 := cf_le
theorem c_filled {G : tc_G} (hA : gA G) {L : tc_L} {u : tc_S} {P : Nat} {g : mp} (x : Int32) (hu : cC u P g) (hM : isM u 0 g) : ∃ g2 P2, P2 ≤ P + 12 ∧ yl (tc_b (fn_X11_filled G 0 x u) fun r1 u1 => tc_b (fn_X12_filled G 71 x u1) fun r2 u2 => if r1 = r2 then some (L, u2) else none) (pqq L u P2 g2) := by
  have hfu := tc_fu_big
  obtain ⟨⟨o0, o1, o2, o3, o4, o5, o6, o7, o8, o9, o10⟩, ⟨a1, a2, a3⟩, ⟨a4, a5, a6, a7⟩, b1, b2, b3, b4⟩ := hA
  have hw := hu.2.1.1
  have a := hw.1.1
  have hn := a.2.1.2
  have hs := a.2.2.1.2
  have hk := mwf_ok hw
  have lc : ∀ (n b f : Nat) (c : Int32), b + n = mn g 0 → n < f → lo_X11_filled_24 G f x 2 c (nI b) u = some (afl g x n b c, u) := by
    intro n
    induction n with
    | zero =>
      intro b f c hb hf
      obtain ⟨f, rfl⟩ : ∃ k, f = k + 1 := ⟨f - 1, by omega⟩
      rw [lo_X11_filled_24, a4.1.1, mt_set hu.1 (by omega), a.1 0 (by omega), pu_le (by omega) (by omega), if_pos (by omega)]
      rfl
    | succ n ih =>
      intro b f c hb hf
      obtain ⟨f, rfl⟩ : ∃ k, f = k + 1 := ⟨f - 1, by omega⟩
      rw [lo_X11_filled_24, a4.1.1, mt_set hu.1 (by omega), a.1 0 (by omega), pu_le (by omega) (by omega), if_neg (by omega), a4.2.1.2.2.2.2.2.2, pu_ld a4.2.2.1 (show b < 32 by omega) (by omega), mt_inb hu.1 (by omega)]
      unfold bl_X11_filled_50 tc_let afl
      by_cases d : nI (minb g b) = x
      · rw [if_pos d, if_pos d]
        show lo_X11_filled_24 G f x 2 (c + 1) (nI b + 1) u = _
        rw [nI_1]
        exact ih (b + 1) f (c + 1) (by omega) (by omega)
      · rw [if_neg d, if_neg d, Int32.add_zero]
        show lo_X11_filled_24 G f x 2 c (nI b + 1) u = _
        rw [nI_1]
        exact ih (b + 1) f c (by omega) (by omega)
  have lm : ∀ (w : tc_S), isM w 0 g → ∀ (n b f : Nat) (c : Int32), b + n = mn g 0 → n < f → lo_X12_filled_15 G f 71 x c (nI b) w = some (afl g x n b c, w) := by
    intro w hM2 n
    induction n with
    | zero =>
      intro b f c hb hf
      obtain ⟨f, rfl⟩ : ∃ k, f = k + 1 := ⟨f - 1, by omega⟩
      rw [lo_X12_filled_15, b1.1.1, show (0 : Int32) = nI (0 + 0) from rfl, isM_ld b1 hM2 (by omega) (by omega), a.1 0 (by omega), pu_le (by omega) (by omega), if_pos (by omega)]
      rfl
    | succ n ih =>
      intro b f c hb hf
      obtain ⟨f, rfl⟩ : ∃ k, f = k + 1 := ⟨f - 1, by omega⟩
      rw [lo_X12_filled_15, b1.1.1, show (0 : Int32) = nI (0 + 0) from rfl, isM_ld b1 hM2 (by omega) (by omega), a.1 0 (by omega), pu_le (by omega) (by omega), if_neg (by omega), pm_inBucket b1 (B := 0) (by omega) hM2 hk (by omega), pu_b]
      unfold bl_X12_filled_41 tc_let afl
      by_cases d : nI (minb g b) = x
      · rw [if_pos d, if_pos d]
        show lo_X12_filled_15 G f 71 x (c + 1) (nI b + 1) w = _
        rw [nI_1]
        exact ih (b + 1) f (c + 1) (by omega) (by omega)
      · rw [if_neg d, if_neg d]
        show lo_X12_filled_15 G f 71 x (c + 0) (nI b + 1) w = _
        rw [nI_1]
        exact ih (b + 1) f (c + 0) (by omega) (by omega)
  rcases pm_isInB (G := G) x 0 4 (by omega) (by omega) with ⟨h1, h2⟩ | ⟨q, q1, q2, q3, q4⟩
  · refine ⟨g, P, by omega, pr_call (R := -1) hu hM hu.2.1 ?_ fun w hw2 => ?_⟩
    · unfold fn_X11_filled bl_X11_filled_17
      by_cases d : x < 0
      · exact yl_p d (yl_ok ⟨rfl, hu.1, fr_refl⟩)
      · have h5 : nI 4 < x := by
          rcases h1 with w | w
          · exact absurd w d
          · exact w
        exact yl_n d (yl_n (Int32.not_le.mpr h5) (yl_ok ⟨rfl, hu.1, fr_refl⟩))
    · unfold fn_X12_filled
      exact yl_e (h2 w) (yl_p rfl (yl_ok ⟨rfl, hw2, fr_refl⟩))
  · refine ⟨g, P, by omega, pr_call (R := afl g x (mn g 0) 0 0) hu hM hu.2.1 ?_ fun w hw2 => ?_⟩
    · unfold fn_X11_filled
      refine yl_n ?_ (yl_p ?_ ?_)
      · rw [q3]; exact nI_pos (by omega)
      · rw [q3]; exact nI_le (b := 4) q2 (by omega)
      · rw [o0, o1]
        exact ⟨_, lc (mn g 0) 0 tc_fu 0 (by omega) (by omega), rfl, hu.1, fr_refl⟩
    · unfold fn_X12_filled
      refine yl_e (q4 w) (yl_n i_n1 ?_)
      exact ⟨_, lm w hw2 (mn g 0) 0 tc_fu 0 (by omega) (by omega), rfl, hw2, fr_refl⟩
