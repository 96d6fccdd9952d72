/-! counts; the call count (all but the parts) -/
def cts (g : mp) (k : Nat) : Int32 :=
  if k = 0 then nI (mes g).length else if k ≤ 3 then g (k - 1) else if k = 4 then g 18 else if k = 5 then g 0 * g 1 + g 18 - nI (mes g).length
  else if k ≤ 13 then g (k - 3) else if k ≤ 17 then g (k - 2) else if k = 18 then (mes g).foldl mvS 0 else if k = 19 then (mes g).foldl mvM 0
  else if k = 20 then g 16 else if k = 21 then nI ((mes g).foldl (rdM g) 0) else if k = 22 then g 17 else g 11
theorem i_cases (x : Int32) : (∃ k, k ≤ 26 ∧ x = nI k) ∨ (x.toInt < 0 ∨ 26 < x.toInt) := by
  by_cases h : x.toInt < 0 ∨ 26 < x.toInt
  · exact Or.inr h
  · exact Or.inl ⟨x.toInt.toNat, by omega, ti (by omega) (by omega)⟩
theorem i_lt1 {x : Int32} (h : x.toInt < 0) : x < 1 := Int32.lt_iff_toInt_lt.mpr (by rw [show (1 : Int32).toInt = 1 from rfl]; omega)
theorem i_gt13 {x : Int32} (h : 26 < x.toInt) : ¬ x < 1 ∧ 13 < x := ⟨fun q => by have := Int32.lt_iff_toInt_lt.mp q; rw [show (1 : Int32).toInt = 1 from rfl] at this; omega, Int32.lt_iff_toInt_lt.mpr (by rw [show (13 : Int32).toInt = 13 from rfl]; omega)⟩
theorem k_cases {k : Nat} (h : k ≤ 25) : k = 0 ∨ k = 1 ∨ k = 2 ∨ k = 3 ∨ k = 4 ∨ k = 5 ∨ k = 6 ∨ k = 7 ∨ k = 8 ∨ k = 9 ∨ k = 10 ∨ k = 11 ∨ k = 12 ∨ k = 13 ∨ k = 14 ∨ k = 15 ∨ k = 16 ∨ k = 17 ∨ k = 18 ∨ k = 19 ∨ k = 20 ∨ k = 21 ∨ k = 22 ∨ k = 23 ∨ k = 24 ∨ k = 25 := by omega
theorem mt_tell {G : tc_G} {u : tc_S} {t k : Nat} {g : mp} (hT : gT G t 64) (hw : mwf g) (h : mt u t g) (hk : k ≤ 25) (h3 : k ≠ 23) (h4 : k ≠ 24) : fn_X11_tell G 0 t (nI k) u = some (cts g k, u) := by
  have hfu := tc_fu_big
  have e12 : ∀ j, 12 ≤ j → j < 18 → u.1 t (j - 1) = g j := h.1.2.2.2.1
  have e18 : u.1 t 10 = g 18 := h.1.2.2.2.2
  have e11 : u.1 (t + 2) 0 = g 11 := h.1.2.2.1
  have eS : ∀ j, j < 11 → u.1 (t + 1) j = g j := h.1.2.1
  have en := mt_entries hT hw h
  unfold fn_X11_tell fn_X11_tellOfSettings bl_X11_tell_17
  rw [hT.1.1, hT.1.2]
  rcases k_cases hk with rfl | rfl | rfl | rfl | rfl | rfl | rfl | rfl | rfl | rfl | rfl | rfl | rfl | rfl | rfl | rfl | rfl | rfl | rfl | rfl | rfl | rfl | rfl | rfl | rfl | rfl
  · rw [if_pos (by decide), if_pos (by decide), en, pu_b]; rfl
  · rw [if_neg (by decide), if_neg (by decide)]; repeat rw [if_neg (by decide)]
    rw [if_pos (by decide), eS 0 (by omega), pu_b]; rfl
  · rw [if_neg (by decide), if_neg (by decide)]; repeat rw [if_neg (by decide)]
    rw [if_pos (by decide), eS 1 (by omega), pu_b]; rfl
  · rw [if_neg (by decide), if_neg (by decide)]; repeat rw [if_neg (by decide)]
    rw [if_pos (by decide), eS 2 (by omega), pu_b]; rfl
  · rw [if_neg (by decide), if_neg (by decide)]; repeat rw [if_neg (by decide)]
    rw [if_pos (by decide), e18, pu_b]; rfl
  · rw [if_neg (by decide), if_neg (by decide)]; repeat rw [if_neg (by decide)]
    rw [if_pos (by decide), en, pu_b, eS 0 (by omega), eS 1 (by omega), e18, pu_b]
    show some (g 0 * g 1 - (nI (mes g).length - g 18), u) = some (g 0 * g 1 + g 18 - nI (mes g).length, u)
    rw [show g 0 * g 1 - (nI (mes g).length - g 18) = g 0 * g 1 + g 18 - nI (mes g).length by grind]
  · rw [if_neg (by decide), if_neg (by decide)]; repeat rw [if_neg (by decide)]
    rw [if_pos (by decide), eS 3 (by omega), pu_b]; rfl
  · rw [if_neg (by decide), if_neg (by decide)]; repeat rw [if_neg (by decide)]
    rw [if_pos (by decide), eS 4 (by omega), pu_b]; rfl
  · rw [if_neg (by decide), if_neg (by decide)]; repeat rw [if_neg (by decide)]
    rw [if_pos (by decide), eS 5 (by omega), pu_b]; rfl
  · rw [if_neg (by decide), if_neg (by decide)]; repeat rw [if_neg (by decide)]
    rw [if_pos (by decide), eS 6 (by omega), pu_b]; rfl
  · rw [if_neg (by decide), if_neg (by decide)]; repeat rw [if_neg (by decide)]
    rw [if_pos (by decide), eS 7 (by omega), pu_b]; rfl
  · rw [if_neg (by decide), if_neg (by decide)]; repeat rw [if_neg (by decide)]
    rw [if_pos (by decide), eS 8 (by omega), pu_b]; rfl
  · rw [if_neg (by decide), if_neg (by decide)]; repeat rw [if_neg (by decide)]
    rw [if_pos (by decide), eS 9 (by omega), pu_b]; rfl
  · rw [if_neg (by decide), if_neg (by decide)]; repeat rw [if_neg (by decide)]
    rw [if_pos (by decide), eS 10 (by omega), pu_b]; rfl
  · rw [if_neg (by decide), if_pos (by decide)]; repeat rw [if_neg (by decide)]
    rw [if_pos (by decide), show u.1 t 11 = g 12 from e12 12 (by omega) (by omega)]; rfl
  · rw [if_neg (by decide), if_pos (by decide)]; repeat rw [if_neg (by decide)]
    rw [if_pos (by decide), show u.1 t 12 = g 13 from e12 13 (by omega) (by omega)]; rfl
  · rw [if_neg (by decide), if_pos (by decide)]; repeat rw [if_neg (by decide)]
    rw [if_pos (by decide), show u.1 t 13 = g 14 from e12 14 (by omega) (by omega)]; rfl
  · rw [if_neg (by decide), if_pos (by decide)]; repeat rw [if_neg (by decide)]
    rw [if_pos (by decide), show u.1 t 14 = g 15 from e12 15 (by omega) (by omega)]; rfl
  · rw [if_neg (by decide), if_pos (by decide)]; repeat rw [if_neg (by decide)]
    rw [if_pos (by decide)]
    show tc_b (lo_X9_movedInAll_4 G tc_fu t 0 (nI 0) u) _ = _
    rw [mt_movedInAll hT h 68 0 tc_fu 0 (by omega) (by omega), pu_b, cl_mes hw]
    rfl
  · rw [if_neg (by decide), if_pos (by decide)]; repeat rw [if_neg (by decide)]
    rw [if_pos (by decide)]
    show tc_b (lo_X9_movedMost_4 G tc_fu t 0 (nI 0) u) _ = _
    rw [mt_movedMost hT h 68 0 tc_fu 0 (by omega) (by omega), pu_b, cl_mes hw]
    rfl
  · rw [if_neg (by decide), if_pos (by decide)]; repeat rw [if_neg (by decide)]
    rw [if_pos (by decide), show u.1 t 15 = g 16 from e12 16 (by omega) (by omega)]; rfl
  · rw [if_neg (by decide), if_pos (by decide)]; repeat rw [if_neg (by decide)]
    rw [if_pos (by decide)]
    show tc_b (lo_X9_readsMost_4 G tc_fu t (nI 0) (nI 0) u) _ = _
    rw [mt_readsMost hT hw h 68 0 tc_fu 0 (by omega) (by omega) (by omega), pu_b, cl_mes hw]
    rfl
  · rw [if_neg (by decide), if_pos (by decide)]; repeat rw [if_neg (by decide)]
    rw [if_pos (by decide), show u.1 t 16 = g 17 from e12 17 (by omega) (by omega)]; rfl
  · exact absurd rfl h3
  · exact absurd rfl h4
  · rw [if_neg (by decide), if_pos (by decide)]; repeat rw [if_neg (by decide)]
    rw [if_pos (by decide), e11]; rfl
theorem mt_tellN {G : tc_G} {u : tc_S} {t : Nat} {x : Int32} (hx : x.toInt < 0 ∨ 26 < x.toInt) : fn_X11_tell G 0 t x u = some (-1, u) := by
  unfold fn_X11_tell bl_X11_tell_17
  rcases hx with c | c
  · rw [if_pos (i_lt1 c)]
    repeat rw [if_neg (by omega)]
  · rw [if_neg (i_gt13 c).1, if_pos (i_gt13 c).2]
    repeat rw [if_neg (by omega)]
