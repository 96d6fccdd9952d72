/-! the call lost: an image's entries against the map's -/
def lst1 (g : mp) (c : Int32) (e : en) : Int32 := c + (match mloc g (e.1.toNatClampNeg - 1) with
  | none => 1
  | some i => if g (21 + 4 * i) = e.2.1 then 0 else 1)
theorem mt_lost {G : tc_G} (hA : gA G) {u : tc_S} {t : Nat} {g gi : mp} (hT : gT G t 64) (hw : mwf g) (h : mt u 2 g) (hi : mt u t gi) : ∀ (n i f : Nat) (c : Int32), i + n = 68 → n < f → lo_X11_lost_32 G f t 2 c (nI i) u = some ((cl gi n i).foldl (lst1 g) c, u) := by
  obtain ⟨⟨o0, o1, o2, o3, o4, o5, o6, o7, o8, o9, o10⟩, ⟨a1, a2, a3⟩, ⟨a4, a5, a6, a7⟩, b1, b2, b3, b4⟩ := hA
  have a := hw.1.1
  intro n
  induction n with
  | zero =>
    intro i f c hi2 hf
    obtain ⟨f, rfl⟩ : ∃ k, f = k + 1 := ⟨f - 1, by omega⟩
    rw [lo_X11_lost_32, (mt_room hi).2, pu_le (by omega) (by omega), if_pos (by omega)]
    rfl
  | succ n ih =>
    intro i f c hi2 hf
    obtain ⟨f, rfl⟩ : ∃ k, f = k + 1 := ⟨f - 1, by omega⟩
    have hp := hi.2.1 i (by omega)
    have hem := pl_emp hp
    rw [lo_X11_lost_32, (mt_room hi).2, pu_le (by omega) (by omega), if_neg (by omega), hT.2.1.1, pu_ld (hT.2.2.2 _ (by omega) (by omega)) (show i < 69 by omega) (by omega), cl]
    unfold bl_X11_lost_93 bl_X11_lost_94 bl_X11_lost_97 tc_let
    by_cases d : (fc gi i).1 = 0
    · rw [if_pos (hem.2.1.mpr d), if_pos d, nI_1]
      exact ih (i + 1) f c (by omega) (by omega)
    · rw [if_neg (fun q => d (hem.2.1.mp q)), if_neg d]
      rcases hp with ⟨x1, x2⟩ | ⟨q, q1, q2, q3, q4, -⟩
      · exact absurd (by rw [x1]; rfl) d
      · rw [q3, mt_locate a4 hw h (by omega), pu_b, List.singleton_append, List.foldl_cons]
        have e1 : lst1 g c (fc gi i) = c + (match mloc g q with
          | none => 1
          | some i2 => if g (21 + 4 * i2) = (fc gi i).2.1 then 0 else 1) := by
          unfold lst1
          rw [q2, nI_clamp (by omega), show q + 1 - 1 = q by omega]
        rw [e1, nI_1]
        cases hl : mloc g q with
        | none =>
          show (if (-1 : Int32) < 0 then _ else _) = _
          rw [if_pos (by decide)]
          exact ih (i + 1) f _ (by omega) (by omega)
        | some x =>
          obtain ⟨v1, v2, v3, v4, v5⟩ := mloc_vc hw (by omega) hl
          have lx := fx_lt a v1
          have hk := mt_key hw h v1 (by omega)
          show (if nI (fx g x) < 0 then _ else _) = _
          rw [if_neg (nI_pos (by omega))]
          show (tc_ld G u (tc_p G 2 4) (nI (fx g x)) fun x10 => tc_ld G u (tc_p G t 4) (nI i) fun x11 => if x10 = x11 then lo_X11_lost_32 G f t 2 (c + 0) (nI (i + 1)) u else lo_X11_lost_32 G f t 2 (c + 1) (nI (i + 1)) u) = some ((cl gi n (i + 1)).foldl (lst1 g) (c + (if g (21 + 4 * x) = (fc gi i).2.1 then 0 else 1)), u)
          rw [a4.2.1.2.1, hT.2.1.2.1, pu_ld (a4.2.2.2 _ (by omega) (by omega)) (show fx g x < 69 by omega) (by omega), pu_ld (hT.2.2.2 _ (by omega) (by omega)) (show i < 69 by omega) (by omega), hk.2.1, q4]
          show (if g (21 + 4 * x) = (fc gi i).2.1 then _ else _) = _
          by_cases k : g (21 + 4 * x) = (fc gi i).2.1
          · rw [if_pos k, if_pos k]
            exact ih (i + 1) f _ (by omega) (by omega)
          · rw [if_neg k, if_neg k]
            exact ih (i + 1) f _ (by omega) (by omega)
theorem pm_lost {G : tc_G} (hG : gm G) (h4 : gm4 G) {u : tc_S} {g : mp} {es : List en} (hM : isM u 0 g) (hw : mwf g) (hl : ls u es) (hn : es.length ≤ 68) (hk1 : ∀ e ∈ es, ∃ q, q ≤ 999 ∧ e.1 = nI (q + 1)) : ∀ (n k f : Nat) (c : Int32), k + n = es.length → n < f → lo_X12_lost_37 G f 71 c (nI k) u = some ((es.drop k).foldl (lst1 g) c, u) := by
  have hk := mwf_ok hw
  intro n
  induction n with
  | zero =>
    intro k f c hk hf
    obtain ⟨f, rfl⟩ : ∃ k, f = k + 1 := ⟨f - 1, by omega⟩
    rw [lo_X12_lost_37, hl.1, pu_le (by omega) (by omega), if_pos (by omega), List.drop_eq_nil_of_le (by omega)]
    rfl
  | succ n ih =>
    intro k f c hk2 hf
    obtain ⟨f, rfl⟩ : ∃ k, f = k + 1 := ⟨f - 1, by omega⟩
    obtain ⟨q, q1, q2⟩ := hk1 (es[k]) (List.getElem_mem (by omega))
    have w := hl.2 k (by omega)
    have e : fn_X12_lies G 71 0 (nI q) u = some (oI ((mloc g q).map fun i => 0 + (20 + 4 * i)), u) := by
      have := pm_lies hG (B := 0) (by omega) hM hk q1
      rw [mlies_loc] at this
      refine this.trans ?_
      cases mloc g q <;> rfl
    rw [lo_X12_lost_37, hl.1, pu_le (by omega) (by omega), if_neg (by omega), h4.1, show (4 : Int32) * nI k = nI (4 * k) from pk_mul 4 k, pu_ld h4.2 (by omega) (by omega), w.1, q2, nI_pred, e, pu_b, ls_drop (by omega), List.foldl_cons]
    unfold bl_X12_lost_90 bl_X12_lost_95 tc_let
    have e1 : lst1 g c es[k] = c + (match mloc g q with
      | none => 1
      | some i2 => if g (21 + 4 * i2) = es[k].2.1 then 0 else 1) := by
      unfold lst1
      rw [q2, nI_clamp (by omega), show q + 1 - 1 = q by omega]
    rw [e1, nI_1]
    cases hl2 : mloc g q with
    | none =>
      show (if (-1 : Int32) < 0 then _ else _) = _
      rw [if_pos (by decide)]
      exact ih (k + 1) f _ (by omega) (by omega)
    | some x =>
      obtain ⟨v1, v2, v3, v4, v5⟩ := mloc_vc hw q1 hl2
      show (if nI (0 + (20 + 4 * x)) < 0 then _ else _) = _
      rw [if_neg (nI_pos (by omega))]
      show (tc_ld G u (tc_p G 71 0) (nI (0 + (20 + 4 * x)) + 1) fun x9 => tc_ld G u 80 (nI (4 * k) + 1) fun x10 => if x9 = x10 then lo_X12_lost_37 G f 71 (c + 0) (nI (k + 1)) u else lo_X12_lost_37 G f 71 (c + 1) (nI (k + 1)) u) = some ((es.drop (k + 1)).foldl (lst1 g) (c + (if g (21 + 4 * x) = es[k].2.1 then 0 else 1)), u)
      rw [hG.1.1, nI_1, nI_1, show 0 + (20 + 4 * x) + 1 = 0 + (21 + 4 * x) by omega, isM_ld hG hM (by omega) (by omega), pu_ld h4.2 (by omega) (by omega), w.2.1]
      by_cases d : g (21 + 4 * x) = es[k].2.1
      · rw [if_pos d, if_pos d]
        exact ih (k + 1) f _ (by omega) (by omega)
      · rw [if_neg d, if_neg d]
        exact ih (k + 1) f _ (by omega) (by omega)
