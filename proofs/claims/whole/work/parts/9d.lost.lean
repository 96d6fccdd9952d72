/-! the call lost: an image's entries against the map's -/
def lst1 (g : mp) (c : Int32) (e : en) : Int32 := c + (match mloc g (e.1.toNatClampNeg - 1) with
  | none => 1
  | some i => if g (21 + 4 * i) = e.2.1 then 0 else 1)
theorem mt_lost {G : tc_G} (hA : gA G) {u : tc_S} {t : Nat} {g gi : mp} (hT : gT G t 64) (hw : mwf g) (h : mt u 2 g) (hi : mt u t gi) : ∀ (n i f : Nat) (c : Int32), i + n = 68 → n < f → lo_X11_lost_32 G f t 2 c (nI i) u = some ((cl gi n i).foldl (lst1 g) c, u) := by
  obtain ⟨⟨o0, o1, o2, o3, o4, o5, o6, o7, o8, o9, o10⟩, ⟨a1, a2, a3⟩, ⟨a4, a5, a6, a7⟩, b1, b2, b3, b4⟩ := hA
  have a := hw.1.1
  intro n
  induction n with
  | zero =>
    intro i f c hi2 hf
    obtain ⟨f, rfl⟩ : ∃ k, f = k + 1 := ⟨f - 1, by omega⟩
    rw [lo_X11_lost_32, (mt_room hi).2, pu_le (by omega) (by omega), if_pos (by omega)]
    rfl
  | succ n ih =>
    intro i f c hi2 hf
    obtain ⟨f, rfl⟩ : ∃ k, f = k + 1 := ⟨f - 1, by omega⟩
    have hp := hi.2.1 i (by omega)
    have hem := pl_emp hp
    rw [lo_X11_lost_32, (mt_room hi).2, pu_le (by omega) (by omega), if_neg (by omega), hT.2.1.1, pu_ld (hT.2.2.2 _ (by omega) (by omega)) (show i < 69 by omega) (by omega), cl]
    unfold bl_X11_lost_93 bl_X11_lost_94 bl_X11_lost_97 tc_let
    by_cases d : (fc gi i).1 = 0
    · rw [if_pos (hem.2.1.mpr d), if_pos d, nI_1]
      exact ih (i + 1) f c (by omega) (by omega)
    · rw [if_neg (fun q => d (hem.2.1.mp q)), if_neg d]
      rcases hp with ⟨x1, x2⟩ | ⟨q, q1, q2, q3, q4, -⟩
      · exact absurd (by rw [x1]; rfl) d
      · rw [q3, mt_locate a4 hw h (by omega), pu_b, List.singleton_append, List.foldl_cons]
        have e1 : lst1 g c (fc gi i) = c + (match mloc g q with
          | none => 1
          | some i2 => if g (21 + 4 * i2) = (fc gi i).2.1 then 0 else 1) := by
          unfold lst1
          rw [q2, nI_clamp (by omega), show q + 1 - 1 = q by omega]
        rw [e1, nI_1]
        cases hl : mloc g q with
        | none =>
          show (if (-1 : Int32) < 0 then _ else _) = _
          rw [if_pos (by decide)]
          exact ih (i + 1) f _ (by omega) (by omega)
        | some x =>
          obtain ⟨v1, v2, v3, v4, v5⟩ := mloc_vc hw (by omega) hl
          have lx := fx_lt a v1
          have hk := mt_key hw h v1 (by omega)
          show (if nI (fx g x) < 0 then _ else _) = _
          rw [if_neg (nI_pos (by omega))]
          show (tc_ld G u (tc_p G 2 4) (nI (fx g x)) fun x10 => tc_ld G u (tc_p G t 4) (nI i) fun x11 => if x10 = x11 then lo_X11_lost_32 G f t 2 (c + 0) (nI (i + 1)) u else lo_X11_lost_32 G f t 2 (c + 1) (nI (i + 1)) u) = some ((cl gi n (i + 1)).foldl (lst1 g) (c + (if g (21 + 4 * x) = (fc gi i).2.1 then 0 else 1)), u)
          rw [a4.2.1.2.1, hT.2.1.2.1, pu_ld (a4.2.2.2 _ (by omega) (by omega)) (show fx g x < 69 by omega) (by omega), pu_ld (hT.2.2.2 _ (by omega) (by omega)) (show i < 69 by omega) (by omega), hk.2.1, q4]
          show (if g (21 + 4 * x) = (fc gi i).2.1 then _ else _) = _
          by_cases k : g (21 + 4 * x) = (fc gi i).2.1
          · rw [if_pos k, if_pos k]
            exact ih (i + 1) f _ (by omega) (by omega)
          · rw [if_neg k, if_neg k]
            exact ih (i + 1) f _ (by omega) (by omega)
theorem pm_lost {G : tc_G} (hG : gm G) (h4 : gm4 G) {u : tc_S} {g : mp} {es : List en} (hM : isM u 0 g) (hw : mwf g) (hl : ls u es) (hn : es.length ≤ 68) (hk1 : ∀ e ∈ es, ∃ q, q ≤ 999 ∧ e.1 = nI (q + 1)) : ∀ (n k f : Nat) (c : Int32), k + n = es.length → n < f → lo_X12_lost_37 G f 71 c (nI k) u = some ((es.drop k).foldl (lst1 g) c, u) := by
  have hk := mwf_ok hw
  intro n
  induction n with
  | zero =>
    intro k f c hk hf
    obtain ⟨f, rfl⟩ : ∃ k, f = k + 1 := ⟨f - 1, by omega⟩
    rw [lo_X12_lost_37, hl.1, pu_le (by omega) (by omega), if_pos (by omega), List.drop_eq_nil_of_le (by omega)]
    rfl
  | succ n ih =>
    intro k f c hk2 hf
    obtain ⟨f, rfl⟩ : ∃ k, f = k + 1 := ⟨f - 1, by omega⟩
    obtain ⟨q, q1, q2⟩ := hk1 (es[k]) (List.getElem_mem (by omega))
    have w := hl.2 k (by omega)
    have e : fn_X12_lies G 71 0 (nI q) u = some (oI ((mloc g q).map fun i => 0 + (20 + 4 * i)), u) := by
      have := pm_lies hG (B := 0) (by omega) hM hk q1
      rw [mlies_loc] at this
      refine this.trans ?_
      cases mloc g q <;> rfl
    rw [lo_X12_lost_37, hl.1, pu_le (by omega) (by omega), if_neg (by omega), h4.1, show (4 : Int32) * nI k = nI (4 * k) from pk_mul 4 k, pu_ld h4.2 (by omega) (by omega), w.1, q2, nI_pred, e, pu_b, ls_drop (by omega), List.foldl_cons]
    unfold bl_X12_lost_90 bl_X12_lost_95 tc_let
    have e1 : lst1 g c es[k] = c + (match mloc g q with
      | none => 1
      | some i2 => if g (21 + 4 * i2) = es[k].2.1 then 0 else 1) := by
      unfold lst1
      rw [q2, nI_clamp (by omega), show q + 1 - 1 = q by omega]
    rw [e1, nI_1]
    cases hl2 : mloc g q with
    | none =>
      show (if (-1 : Int32) < 0 then _ else _) = _
      rw [if_pos (by decide)]
      exact ih (k + 1) f _ (by omega) (by omega)
    | some x =>
      obtain ⟨v1, v2, v3, v4, v5⟩ := mloc_vc hw q1 hl2
      show (if nI (0 + (20 + 4 * x)) < 0 then _ else _) = _
      rw [if_neg (nI_pos (by omega))]
      show (tc_ld G u (tc_p G 71 0) (nI (0 + (20 + 4 * x)) + 1) fun x9 => tc_ld G u 80 (nI (4 * k) + 1) fun x10 => if x9 = x10 then lo_X12_lost_37 G f 71 (c + 0) (nI (k + 1)) u else lo_X12_lost_37 G f 71 (c + 1) (nI (k + 1)) u) = some ((es.drop (k + 1)).foldl (lst1 g) (c + (if g (21 + 4 * x) = es[k].2.1 then 0 else 1)), u)
      rw [hG.1.1, nI_1, nI_1, show 0 + (20 + 4 * x) + 1 = 0 + (21 + 4 * x) by omega, isM_ld hG hM (by omega) (by omega), pu_ld h4.2 (by omega) (by omega), w.2.1]
      by_cases d : g (21 + 4 * x) = es[k].2.1
      · rw [if_pos d, if_pos d]
        exact ih (k + 1) f _ (by omega) (by omega)
      · rw [if_neg d, if_neg d]
        exact ih (k + 1) f _ (by omega) (by omega)
def gI (G : tc_G) : Prop := tc_p G 0 1 = 13 ∧ G.2.2.1 13 = 3 ∧ tc_p G 71 2 = 74 ∧ G.2.2.1 74 = 3
theorem in_gI : gI (tc_gl in_L4) := ⟨rfl, rfl, rfl, rfl⟩
/-- the k-th image: none on both sides, or the same map on both -/
def iM (G : tc_G) (u : tc_S) (k : Nat) : Prop := (G.2.2.2 13 k = none ∧ u.1 74 k = 0) ∨ ∃ w gi P, G.2.2.2 13 k = some w ∧ ¬ u.1 74 k = 0 ∧ 92 ≤ w ∧ tc_p G w 0 = w + 1 ∧ gT G (w + 1) 64 ∧ mre P gi ∧ mt u (w + 1) gi ∧ isM u (1168 + 695 * k) gi
theorem c_lost {G : tc_G} (hA : gA G) (hI : gI G) {L : tc_L} {u : tc_S} {P : Nat} {g : mp} (x : Int32) (hu : cC u P g) (hM : isM u 0 g) (hi : ∀ k, k < 3 → iM G u k) : ∃ g2 P2, P2 ≤ P + 12 ∧ yl (tc_b (fn_X11_lost G 0 x u) fun r1 u1 => tc_b (fn_X12_lost G 71 x u1) fun r2 u2 => if r1 = r2 then some (L, u2) else none) (pqq L u P2 g2) := by
  have hA0 := hA
  obtain ⟨⟨o0, o1, o2, o3, o4, o5, o6, o7, o8, o9, o10⟩, ⟨a1, a2, a3⟩, ⟨a4, a5, a6, a7⟩, b1, b2, b3, b4⟩ := hA
  have hfu := tc_fu_big
  have hw := hu.2.1.1
  refine ⟨g, P, by omega, ?_⟩
  have non : fn_X11_imageOf G 0 x = some none → y2 (fn_X12_lost G 71 x u) (fun r v => r = -1 ∧ v = u) → yl (tc_b (fn_X11_lost G 0 x u) fun r1 u1 => tc_b (fn_X12_lost G 71 x u1) fun r2 u2 => if r1 = r2 then some (L, u2) else none) (pqq L u P g) := by
    intro h1 h2
    have e1 : fn_X11_lost G 0 x u = some (-1, u) := by
      unfold fn_X11_lost
      rw [h1]
      rfl
    refine yl_e e1 (yl_b h2 fun r v hv => ?_)
    obtain ⟨rfl, rfl⟩ := hv
    exact yl_p rfl (yl_ok ⟨rfl, hM, hu, fr_refl⟩)
  rcases pm_isInB (G := G) x 0 2 (by omega) (by omega) with ⟨c1, c2⟩ | ⟨k, -, k2, k3, k4⟩
  · refine non ?_ ?_
    · unfold fn_X11_imageOf
      by_cases d : x < 0
      · rw [if_pos d]
      · rw [if_neg d, if_neg]
        rcases isIn_out (a := 0) (b := 2) (by omega) (by omega) c1 with z | z
        · exact absurd (Int32.lt_iff_toInt_lt.mpr (by rw [show (0 : Int32).toInt = 0 from rfl]; exact z)) d
        · intro q
          have := Int32.lt_iff_toInt_lt.mp q
          rw [show (3 : Int32).toInt = 3 from rfl] at this
          omega
    · unfold fn_X12_lost
      exact yl_e (c2 u) (yl_p rfl (yl_ok ⟨rfl, rfl⟩))
  · have io : fn_X11_imageOf G 0 x = some (G.2.2.2 13 k) := by
      unfold fn_X11_imageOf
      rw [k3, if_neg (nI_pos (by omega)), if_pos (show nI k < 3 from nI_lt (b := 3) (by omega) (by omega)), hI.1, hI.2.1, nI_clamp (by omega), if_neg (by
        rintro (z | z)
        · exact nI_pos (by omega) z
        · omega)]
    rcases hi k (by omega) with ⟨n1, n2⟩ | ⟨w, gi, Pi, s1, s2, s3, s4, s5, s6, s7, s8⟩
    · refine non (by rw [io, n1]) ?_
      unfold fn_X12_lost
      refine yl_e (k4 u) (yl_n i_n1 ?_)
      rw [k3, hI.2.2.1]
      refine yl_ld 3 hI.2.2.2 (by omega) (by omega) ?_
      rw [n2]
      exact yl_p rfl (yl_ok ⟨rfl, rfl⟩)
    · have hwi := s6.1
      have e1 : fn_X11_lost G 0 x u = some ((mes gi).foldl (lst1 g) 0, u) := by
        unfold fn_X11_lost
        rw [io, s1]
        show lo_X11_lost_32 G tc_fu (tc_p G w 0) (tc_p G (tc_p G 0 0) 0) 0 (nI 0) u = _
        rw [s4, o0, o1, mt_lost hA0 s5 hw hu.1 s7 68 0 tc_fu 0 (by omega) (by omega), cl_mes hwi]
      refine yl_e e1 ?_
      have h2 : y2 (tc_b (fn_X12_lists G 71 (1168 + 695 * nI k) u) fun x18 u19 => lo_X12_lost_37 G tc_fu 71 0 0 u19) (fun r v => r = (mes gi).foldl (lst1 g) 0 ∧ fr fL u v) := by
        rw [show (695 : Int32) * nI k = nI (695 * k) from pk_mul 695 k, show (1168 : Int32) + nI (695 * k) = nI (1168 + 695 * k) from nI_add 1168 _]
        refine yl_b (pm_lists b1 b4 (by omega) s8 hwi) fun _ z hl => ?_
        exact ⟨_, pm_lost b1 b4 (isM_L hM hl.2) hw hl.1 (mes_len hwi) (mes_key hwi) _ 0 tc_fu 0 (Nat.zero_add _) (by have := mes_len hwi; omega), rfl, hl.2⟩
      have h3 : y2 (fn_X12_lost G 71 x u) (fun r v => r = (mes gi).foldl (lst1 g) 0 ∧ fr fL u v) := by
        unfold fn_X12_lost
        refine yl_e (k4 u) (yl_n i_n1 ?_)
        rw [k3, hI.2.2.1]
        refine yl_ld 3 hI.2.2.2 (by omega) (by omega) ?_
        exact yl_n s2 h2
      refine yl_b h3 fun r v hv => ?_
      have fm : fr fMM u v := fr_mono (fL_r hv.2) fun _ _ q => Or.inr q
      exact yl_p hv.1.symm (yl_ok ⟨rfl, isM_L hM hv.2, ⟨mt_fr hu.1 hv.2 fun o k q1 q2 => by unfold fL; omega, hu.2.1, tR_c (by omega) fm hu.2.2.1, tR_c (by omega) fm hu.2.2.2.1, tR_c (by omega) fm hu.2.2.2.2⟩, fm⟩)
