/-! the reference: along a chain -/
theorem i_m1 (n : Nat) : nI n + (-1) = nI n - 1 := by rw [Int32.sub_eq_add_neg]
def chn (u : tc_S) (l : List (Nat × Nat)) : Prop := ∀ k (h : k < l.length), u.1 76 k = nI (l[k]).1 ∧ u.1 77 k = nI (l[k]).2
theorem chn_uC {u : tc_S} {nb : Nat} {a : Nat → Nat} {l : List (Nat × Nat)} : chn (uC u nb a l) l := by
  intro k h
  constructor
  · rw [tc_wr_ne (by decide), wr_same]
    unfold cbw
    rw [List.getElem?_eq_getElem h]
  · rw [wr_same]
    unfold cpw
    rw [List.getElem?_eq_getElem h]
theorem pm_lo_opens {G : tc_G} (hG : gm G) (h2 : gm2 G) {u : tc_S} {B f0 : Nat} {g : mp} {l : List (Nat × Nat)} (hB : B + 292 ≤ 3253) (hg : mwf g) (hc : chn u l) (hl : l.length ≤ 16) (hv : chv g l f0) : ∀ (n f : Nat), n ≤ l.length → n < f → lo_X12_opens_61 G f 71 (nI B) (nI l.length) (nI (B + (20 + 4 * (msh g (l.drop n) f0).2))) (nI n - 1) (uM u B (msh g (l.drop n) f0).1) = some (nI (B + (20 + 4 * (msh g l f0).2)), uM u B (upd (msh g l f0).1 17 (if nI l.length ≤ g 17 then g 17 else nI l.length))) := by
  have hn := hg.1.1.2.1.2
  have hs := hg.1.1.2.2.1.2
  have chd : ∀ (n : Nat), chv g (l.drop n) f0 := by
    intro n
    have : ∀ (n : Nat) (l : List (Nat × Nat)), chv g l f0 → chv g (l.drop n) f0 := by
      intro n
      induction n with
      | zero => intro l h; exact h
      | succ n ih =>
        intro l h
        cases l with
        | nil => exact h
        | cons q l => exact ih l h.2.2.2
    exact this n l hv
  intro n
  induction n with
  | zero =>
    intro f h1 hf
    obtain ⟨f, rfl⟩ : ∃ k, f = k + 1 := ⟨f - 1, by omega⟩
    rw [lo_X12_opens_61, show nI 0 - 1 = (-1 : Int32) from rfl, if_pos (by decide), hG.1.1, show nI B + 17 = nI (B + 17) from nI_add B 17, List.drop_zero, uM_ld hG hB (by omega), (msh_ok hg l f0 hv).2.1 17 (by omega)]
    unfold bl_X12_opens_138
    by_cases h : nI l.length ≤ g 17
    · rw [if_pos h, uM_ld hG hB (by omega), (msh_ok hg l f0 hv).2.1 17 (by omega), uM_sd hG hB (by omega), if_pos h]
    · rw [if_neg h, uM_sd hG hB (by omega), if_neg h]
  | succ n ih =>
    intro f h1 hf
    obtain ⟨f, rfl⟩ : ∃ k, f = k + 1 := ⟨f - 1, by omega⟩
    have hlt : n < l.length := by omega
    have hd : l.drop n = l[n] :: l.drop (n + 1) := List.drop_eq_getElem_cons hlt
    have c1 := hc n hlt
    have cv := chd n
    rw [hd] at cv
    obtain ⟨o1, o2, o3, o4, o5, o6, o7, o8⟩ := msh_ok hg (l.drop (n + 1)) f0 (chd (n + 1))
    have hm := chv_mem hv
    have he := hm.2 l[n] (List.getElem_mem hlt)
    have hne : 4 * (l[n]).1 + (l[n]).2 ≠ (msh g (l.drop (n + 1)) f0).2 := by
      intro e
      have := o6
      rw [← e] at this
      have hd2 := cv.2.2.1
      cases hq : l.drop (n + 1) with
      | nil =>
        rw [hq] at e
        exact he.2.2 (by rw [e]; exact hm.1.2)
      | cons r l2 =>
        rw [hq] at this hd2
        have h9 := hd2 r (List.mem_cons_self ..)
        have h8 : (4 * (l[n]).1 + (l[n]).2) / 4 = r.1 := this
        omega
    rw [lo_X12_opens_61, nI_pred, if_neg (nI_pos (by omega)), h2.2.1.1, h2.2.2.1, pu_ld h2.2.1.2 (by omega) (by omega), pu_ld h2.2.2.2 (by omega) (by omega), uM_ne (by decide), uM_ne (by decide), c1.1, c1.2, pm_cell (by omega), pu_b, mcell_ci, pm_moves hG hB uM_isM (by omega) (by omega), pu_b, uM_uM, mmove_cs hne]
    unfold tc_let
    have := ih f (by omega) (by omega)
    rw [hd] at this
    rw [i_m1]
    exact this
theorem mwalk_last {g : mp} (hg : mok g) (key : Nat) : ∀ (n b : Nat), b < mn g 0 → maway g key b = n + 1 → n + 1 < 1000 → ∀ (h : n < (mwalk g key (n + 1) b).length), moth g ((mwalk g key (n + 1) b)[n]).1 ((mwalk g key (n + 1) b)[n]).2 = some (mend g key (n + 1) b) := by
  intro n
  induction n with
  | zero =>
    intro b hb hd hn h
    obtain ⟨p, hp⟩ := lead_ex hg hb hd hn
    have hpl := (ff_lt hp).2.2
    cases hc : moth g b p with
    | none => unfold mlead at hpl; rw [hc] at hpl; cases hpl
    | some c =>
      have e1 : mwalk g key (0 + 1) b = [(b, p)] := by
        rw [mwalk, hp]
        simp [mwalk]
      have e2 : mend g key (0 + 1) b = c := by
        rw [mend, hp]
        simp [hc, mend]
      simp only [e1, e2, List.getElem_cons_zero]
      exact hc
  | succ n ih =>
    intro b hb hd hn h
    obtain ⟨p, hp⟩ := lead_ex hg hb hd hn
    have hpl := (ff_lt hp).2.2
    cases hc : moth g b p with
    | none => unfold mlead at hpl; rw [hc] at hpl; cases hpl
    | some c =>
      have hcn : maway g key c = n + 1 := by
        unfold mlead at hpl
        rw [hc] at hpl
        simp only [decide_eq_true_eq] at hpl
        omega
      have e1 : mwalk g key (n + 1 + 1) b = (b, p) :: mwalk g key (n + 1) c := by
        rw [mwalk, hp]
        simp [hc]
      have e2 : mend g key (n + 1 + 1) b = mend g key (n + 1) c := by
        rw [mend, hp]
        simp [hc]
      simp only [e1, e2, List.getElem_cons_succ]
      exact ih c (moth_lt hg hc) hcn (by omega) _
theorem mchain_last {g : mp} (hg : mwf g) {key : Nat} {l : List (Nat × Nat)} (h : mchain g key = some l) (hl : l.length - 1 < l.length) : moth g (l[l.length - 1]).1 (l[l.length - 1]).2 = some (mtg g key) := by
  have hk := mwf_ok hg
  obtain ⟨c1, c2, c3, c4, c5, c6, c7⟩ := mchain_sp hg h
  unfold mchain at h
  split at h
  · rename_i h1
    have h := (Option.some.inj h).symm
    subst h
    obtain ⟨n, hn⟩ : ∃ n, maway g key (mat g key) = n + 1 := ⟨maway g key (mat g key) - 1, by omega⟩
    have z := mwalk_last hk key n (mat g key) (mat_lt hk key) hn (by omega)
    unfold mtg
    rw [← hn] at z
    have e : (mwalk g key (maway g key (mat g key)) (mat g key)).length - 1 = n := by omega
    simp only [e]
    exact z (by omega)
  · cases h
theorem pm_opens {G : tc_G} (hG : gm G) (h2 : gm2 G) {u : tc_S} {B key : Nat} {g : mp} {l : List (Nat × Nat)} (hB : B + 292 ≤ 3253) (hM : isM u B g) (hg : mwf g) (hl : mchain g key = some l) (hc : chn u l) : fn_X12_opens G 71 (nI B) (nI l.length) u = some (nI (B + (20 + 4 * mopf g key l)), uM u B (mopn g key l)) := by
  have hk := mwf_ok hg
  have hfu := tc_fu_big
  have hn := hg.1.1.2.1.2
  have hs := hg.1.1.2.2.1.2
  obtain ⟨c1, c2, c3, c4, c5, c6, c7⟩ := mchain_sp hg hl
  have hlt : l.length - 1 < l.length := by omega
  have hm := mchain_last hg hl hlt
  have he := (chv_mem c1).2 _ (List.getElem_mem hlt)
  have c0 := hc _ hlt
  have z := pm_lo_opens hG h2 hB hg hc c3 c1 l.length tc_fu (by omega) (by omega)
  rw [List.drop_length] at z
  have z2 : lo_X12_opens_61 G tc_fu 71 (nI B) (nI l.length) (nI (B + (20 + 4 * mfin g key))) (nI l.length - 1) (uM u B g) = some (nI (B + (20 + 4 * mopf g key l)), uM u B (mopn g key l)) := z
  rw [uM_id hM] at z2
  have e : nI l.length - 1 = nI (l.length - 1) := by
    obtain ⟨n, hn⟩ : ∃ n, l.length = n + 1 := ⟨l.length - 1, by omega⟩
    rw [hn, nI_pred]
    rfl
  have hoa := pm_otherAt hG hB hM hk he.1 he.2.1 hm
  unfold fn_X12_opens
  rw [e, h2.2.1.1, h2.2.2.1, pu_ld h2.2.1.2 (by omega) (by omega), pu_ld h2.2.2.2 (by omega) (by omega), c0.1, c0.2, pm_cell (by omega), pu_b]
  have hc2 : mcell (l[l.length - 1]).1 (l[l.length - 1]).2 < 292 := by unfold mcell; omega
  rw [pm_keyOf hG (by omega), pu_b] at hoa ⊢
  rw [pu_ld h2.2.1.2 (by omega) (by omega), c0.1, hoa, pu_b, pm_emptyIn hG hB hM hk (by omega), pu_b]
  cases h5 : memp g (mtg g key) with
  | none => rw [h5] at c5; cases c5
  | some p =>
    show tc_b (fn_X12_cell G (nI B) (nI (mtg g key)) (nI p) u) _ = _
    rw [pm_cell (by omega), pu_b]
    unfold tc_let
    rw [← e]
    have e2 : B + mcell (mtg g key) p = B + (20 + 4 * mfin g key) := by
      unfold mfin
      rw [h5, mcell_ci]
      rfl
    rw [e2]
    exact z2
