/-! the call part -/
theorem fQ_c {u w : tc_S} (h : fr (fQ 32) u w) : fr fMc u w := fr_mono h fun o k q => by unfold fQ at q; unfold fMc; omega
/-- what is told of a part -/
def pans (g : mp) (a M : Nat) (y : Int32) : Int32 :=
  if y.toInt = 0 then nI M else if y.toInt = 1 then nI (mmn (lb g) (lb g a) (edg g)) else if y.toInt = 2 then nI (bkn (mn g 0) (lb g) (lb g a)) * g 1
  else if y.toInt = 3 then (if nI (bkn (mn g 0) (lb g) (lb g a)) ≤ nI (mmn (lb g) (lb g a) (edg g)) then (if nI (mmn (lb g) (lb g a) (edg g)) = nI (bkn (mn g 0) (lb g) (lb g a)) then 1 else 2) else 0)
  else if y.toInt = 4 then nI (bkn (mn g 0) (lb g) (lb g a)) * g 1 - nI (ein g (lb g a) (mn g 0) 0 0) else -1
theorem mt_part {G : tc_G} (hA : gA G) (hP : gP G) {u : tc_S} {P a M : Nat} {g : mp} (y : Int32) (hu : cC u P g) (ha : a < mn g 0) (ht : ∀ b, M.testBit b = true ↔ b < mn g 0 ∧ lb g b = lb g a) : y2 (fn_X11_part G 0 (nI a) y u) (fun r w => r = pans g a M y ∧ mt w 2 g ∧ fr fMc u w) := by
  obtain ⟨⟨o0, o1, o2, o3, o4, o5, o6, o7, o8, o9, o10⟩, ⟨a1, a2, a3⟩, ⟨a4, a5, a6, a7⟩, b1, b2, b3, b4⟩ := hA
  have hw := hu.2.1.1
  have aa := hw.1.1
  have hn := aa.2.1.2
  unfold fn_X11_part
  refine yl_n (nI_pos (by omega)) ?_
  rw [o0, o1, a4.1.1, mt_set hu.1 (by omega), aa.1 0 (by omega), pu_lt (by omega) (by omega), if_pos ha, o7]
  refine yl_b (mt_join hP a4 (by omega) hw hu.1) fun _ w hj => ?_
  obtain ⟨-, j1, j2, j3⟩ := hj
  have m1 : mt w 2 g := mt_fr hu.1 j3 fun o k q1 q2 => by unfold fQ; omega
  have fc1 := fQ_c j3
  have la := lb_lt hw ha
  have ja : w.1 51 a = nI (lb g a) ∧ w.1 52 a = nI (mmn (lb g) a (edg g)) ∧ w.1 53 a = nI (bkn (mn g 0) (lb g) a) := j1 a ha
  have jl : w.1 51 (lb g a) = nI (lb g (lb g a)) ∧ w.1 52 (lb g a) = nI (mmn (lb g) (lb g a) (edg g)) ∧ w.1 53 (lb g a) = nI (bkn (mn g 0) (lb g) (lb g a)) := j1 _ la
  have set1 : w.1 (2 + 1) 1 = g 1 := mt_set m1 (by omega)
  rw [hP.1.1, hP.1.2.1, hP.1.2.2]
  refine yl_ld 32 hP.2.1 (by omega) (by omega) ?_
  rw [ja.1]
  by_cases y0 : y.toInt = 0
  · rw [show pans g a M y = nI M by unfold pans; rw [if_pos y0]]
    refine yl_p y0 ?_
    have := mt_bits hP (u := w) (l := lb g) (x := lb g a) (by omega) fun b hb => by
      by_cases c : b < mn g 0
      · have := lb_lt hw c
        exact ⟨(j1 b c).1, by omega⟩
      · rw [lb_out hw (by omega)]
        exact ⟨j2 b (by omega) (by omega), by omega⟩
    rw [wd_part hw ha ht] at this
    exact yl_e this (yl_ok ⟨rfl, m1, fc1⟩)
  · refine yl_n y0 ?_
    by_cases y1 : y.toInt = 1
    · rw [show pans g a M y = nI (mmn (lb g) (lb g a) (edg g)) by unfold pans; rw [if_neg y0, if_pos y1]]
      refine yl_p y1 (yl_ld 32 hP.2.2.1 (by omega) (by omega) (yl_ok ⟨jl.2.1, m1, fc1⟩))
    · refine yl_n y1 ?_
      by_cases y2 : y.toInt = 2
      · rw [show pans g a M y = nI (bkn (mn g 0) (lb g) (lb g a)) * g 1 by unfold pans; rw [if_neg y0, if_neg y1, if_pos y2]]
        refine yl_p y2 (yl_ld 32 hP.2.2.2 (by omega) (by omega) (yl_ok ⟨?_, m1, fc1⟩))
        show w.1 53 (lb g a) * w.1 (2 + 1) 1 = _
        rw [jl.2.2, set1]
      · refine yl_n y2 ?_
        by_cases y3 : y.toInt = 3
        · rw [show pans g a M y = (if nI (bkn (mn g 0) (lb g) (lb g a)) ≤ nI (mmn (lb g) (lb g a) (edg g)) then (if nI (mmn (lb g) (lb g a) (edg g)) = nI (bkn (mn g 0) (lb g) (lb g a)) then 1 else 2) else 0) by unfold pans; rw [if_neg y0, if_neg y1, if_neg y2, if_pos y3]]
          refine yl_p y3 ?_
          have : fn_X5_kindOf G 50 (nI (lb g a)) w = some ((if nI (bkn (mn g 0) (lb g) (lb g a)) ≤ nI (mmn (lb g) (lb g a) (edg g)) then (if nI (mmn (lb g) (lb g a) (edg g)) = nI (bkn (mn g 0) (lb g) (lb g a)) then 1 else 2) else 0), w) := by
            unfold fn_X5_kindOf bl_X5_kindOf_37
            rw [hP.1.2.1, hP.1.2.2, pu_ld hP.2.2.1 (by omega) (by omega), pu_ld hP.2.2.2 (by omega) (by omega), pu_ld hP.2.2.1 (by omega) (by omega), pu_ld hP.2.2.2 (by omega) (by omega), jl.2.1, jl.2.2]
            split
            · split <;> rfl
            · rfl
          exact yl_e this (yl_ok ⟨rfl, m1, fc1⟩)
        · refine yl_n y3 ?_
          by_cases y4 : y.toInt = 4
          · rw [show pans g a M y = nI (bkn (mn g 0) (lb g) (lb g a)) * g 1 - nI (ein g (lb g a) (mn g 0) 0 0) by unfold pans; rw [if_neg y0, if_neg y1, if_neg y2, if_neg y3, if_pos y4]]
            refine yl_p y4 (yl_ld 32 hP.2.2.2 (by omega) (by omega) ?_)
            refine yl_e (mt_entriesIn hP a4 hw m1 (by omega) fun b hb => (j1 b hb).1) (yl_ok ⟨?_, m1, fc1⟩)
            show w.1 53 (lb g a) * w.1 (2 + 1) 1 - _ = _
            rw [jl.2.2, set1]
          · rw [show pans g a M y = -1 by unfold pans; rw [if_neg y0, if_neg y1, if_neg y2, if_neg y3, if_neg y4]]
            exact yl_n y4 (yl_ok ⟨rfl, m1, fc1⟩)
