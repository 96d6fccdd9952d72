/-! a put keeps what holds -/
theorem mwf_e68 {g : mp} (h : mwf g) : mwf (cs g 68 e0) := by
  obtain ⟨a, b, d, c1, c2, c3, c4⟩ := mw0_iff.mp h.1
  have z : (e0 : en).1.toNatClampNeg = 0 := rfl
  refine ⟨mw0_iff.mpr ⟨sA_wA sA_cs a, ?_, ?_, ?_, ?_, ?_, ?_⟩, wE_cs h.2 (by omega)⟩
  · unfold wB
    rw [mn_cs (by omega), mn_cs (by omega), cs_lo (by omega)]
    exact b
  · intro i hi
    rw [ck_cs, if_neg (by omega), sA_wP sA_cs]
    exact d i hi
  · rw [mn_cs (by omega), cs_lo (by omega)]; exact c1
  · intro i hi
    rw [mn_cs (by omega), gc_cs]
    split
    · exact wc1_e0
    · exact c2 i hi
  · intro i j hi hj hij
    rw [ck_cs, ck_cs, z]
    split
    · intro q; exact absurd rfl q
    · split
      · intro q; exact q
      · exact c3 i j hi hj hij
  · intro i j hi hj hij
    rw [ck_cs, ck_cs, cb_cs, cb_cs, z]
    by_cases x : i = 68
    · rw [if_pos x]; intro q; exact absurd rfl q
    · by_cases y : j = 68
      · rw [if_pos y]; intro _ q; exact absurd rfl q
      · rw [if_neg x, if_neg x, if_neg y, if_neg y]; exact c4 i j hi hj hij
/-- between calls: all holds, and nothing is in hand -/
def mre (P : Nat) (g : mp) : Prop := mwf g ∧ ck g 68 = 0 ∧ mn g 12 = P
theorem isd_wf {g0 g : mp} (h : mwf g0) (hi : isd g0 g) : mwf g ∧ ck g 68 = ck g0 68 ∧ mn g 12 = mn g0 12 := by
  obtain ⟨s, rfl⟩ := hi
  exact ⟨mwf_seed h, ck_upd (by omega), mn_upd (by omega)⟩
theorem mpt3_ok {g0 : mp} {a : Int32} {r : Bool × mp} (hg : mwf g0) (h1 : r.1 = true → mwf r.2 ∧ ck r.2 68 = 0 ∧ mn r.2 12 = mn g0 12) (h2 : r.1 = false → isd g0 r.2) : mre (mn g0 12) (mpt3 a r).2 := by
  obtain ⟨t, x⟩ := r
  cases t with
  | true => rw [mpt3]; exact h1 rfl
  | false =>
    rw [mpt3]
    have z := isd_wf hg (h2 rfl)
    refine ⟨mwf_upd (mwf_e68 z.1) (by omega) (by omega) (by omega) (by omega), ?_, ?_⟩
    · show ck (upd (cs x 68 e0) 13 (x 13 + 1)) 68 = 0
      rw [ck_upd (by omega), ck_cs, if_pos rfl]
      rfl
    · show mn (upd (cs x 68 e0) 13 (x 13 + 1)) 12 = mn g0 12
      rw [mn_upd (by omega), mn_cs (by omega)]
      exact z.2.2
theorem mptc_ok {g : mp} (hg : mwf g) (h0 : ck g 68 ≠ 0) : mre (mn g 12) (mptc g (mchain g (ck g 68 - 1))).2 := by
  cases hc : mchain g (ck g 68 - 1) with
  | none => rw [mptc]; exact mpt3_ok hg (mrh_ok hg h0 _ _ isd_refl).1 (mrh_ok hg h0 _ _ isd_refl).2
  | some l =>
    rw [mptc]
    obtain ⟨o1, o2, o3, o4, o5, o6, o7, o8⟩ := mopn_ok hg hc
    have e68 : ck (mopn g (ck g 68 - 1) l) 68 = ck g 68 := by rw [ck_gc, o7 68 (by omega)]; rfl
    refine ⟨mwf_mv o1 (by omega) (by omega) (by omega) (by rw [e68]; exact h0) (fun _ => by rw [e68]; exact mopf_wP hg hc) (Or.inl rfl) (by omega) (by omega), ck_mv, ?_⟩
    show mn (mv (mopn g (ck g 68 - 1) l) 68 _) 12 = _
    unfold mv
    rw [mn_cs (by omega), mn_cs (by omega)]
    unfold mn
    rw [o8 12 (by omega) (by omega)]
theorem mpt2_ok {g : mp} (hg : mwf g) (h0 : ck g 68 ≠ 0) : mre (mn g 12) (mpt2 g).2 := by
  unfold mpt2
  split
  · exact mptc_ok hg h0
  · split
    · exact mpt3_ok hg (mrh_ok hg h0 _ _ isd_refl).1 (mrh_ok hg h0 _ _ isd_refl).2
    · split
      · have := hg.1.1.2.1.1
        exact mpt3_ok hg (mgr_ok hg h0 _ _ _ _ this isd_refl).1 (mgr_ok hg h0 _ _ _ _ this isd_refl).2
      · exact mpt3_ok hg (fun q => by cases q) (fun _ => isd_refl)
theorem mpt1_ok {g : mp} {r : Int32 × mp} (h : mcs g r) (h0 : ck g 68 ≠ 0) : mre (mn g 12) (mpt1 r).2 := by
  obtain ⟨c1, c2, c3, c4, c5, c6⟩ := h
  have m12 : mn r.2 12 = mn g 12 := by unfold mn; rw [c2 12 (by omega) (by omega) (by omega) (by omega)]
  unfold mpt1
  split
  · rename_i e
    obtain ⟨s, hs⟩ := c4 e
    rw [← m12]
    exact mpt2_ok c1 (by rw [hs, ck_upd (by omega)]; exact h0)
  · rename_i e
    exact ⟨c1, c5 e, m12⟩
theorem put_hand {g : mp} {q : Nat} {v : Int32} {P : Nat} (h : mre P g) (hq : q ≤ 999) (hP : P + 1 < 2 ^ 30) (hl : mloc (upd g 12 (g 12 + 1)) q = none) : mwf (cs (upd g 12 (g 12 + 1)) 68 (nI (q + 1), v, upd g 12 (g 12 + 1) 12, 0)) ∧ ck (cs (upd g 12 (g 12 + 1)) 68 (nI (q + 1), v, upd g 12 (g 12 + 1) 12, 0)) 68 = q + 1 := by
  obtain ⟨hg, h0, hp⟩ := h
  obtain ⟨w1, w2⟩ := mwf_puts hg (by omega)
  have kq : (nI (q + 1)).toNatClampNeg = q + 1 := nI_clamp (by omega)
  have e12 : upd g 12 (g 12 + 1) 12 = nI (mn (upd g 12 (g 12 + 1)) 12) := w1.1.2.2.2.2.2.1.1
  have kb : (upd g 12 (g 12 + 1) 12).toNatClampNeg = mn g 12 + 1 := w2
  refine ⟨mwf_hand w1 (by show (nI (q + 1)).toNatClampNeg ≠ 0; omega) ⟨?_, ?_, ?_, ?_⟩ ?_, ?_⟩
  · show nI (q + 1) = nI (nI (q + 1)).toNatClampNeg
    rw [kq]
  · show (nI (q + 1)).toNatClampNeg ≤ 1000
    omega
  · intro e
    have e : (nI (q + 1)).toNatClampNeg = 0 := e
    omega
  · intro _
    show upd g 12 (g 12 + 1) 12 = nI (upd g 12 (g 12 + 1) 12).toNatClampNeg ∧ 1 ≤ (upd g 12 (g 12 + 1) 12).toNatClampNeg ∧ (upd g 12 (g 12 + 1) 12).toNatClampNeg ≤ mn (upd g 12 (g 12 + 1)) 12
    rw [kb, w2]
    refine ⟨?_, by omega, by omega⟩
    rw [e12, w2]
  · intro i hi hk
    show ck (upd g 12 (g 12 + 1)) i ≠ (nI (q + 1)).toNatClampNeg ∧ cb (upd g 12 (g 12 + 1)) i ≠ (upd g 12 (g 12 + 1) 12).toNatClampNeg
    rw [kq, kb, cb_upd (by omega)]
    refine ⟨mloc_none w1 hl i hi, ?_⟩
    rw [ck_upd (by omega)] at hk
    have := (hg.1.2.2.2.2.2.2.1 i (by omega) hk).2.2
    omega
  · rw [ck_cs, if_pos rfl]
    exact kq
theorem mput_ok {g : mp} {q : Nat} {v : Int32} {P : Nat} (h : mre P g) (hq : q ≤ 999) (hP : P + 1 < 2 ^ 30) : mre (P + 1) (mput g q v).2 := by
  have hh := fun hl => put_hand (v := v) h hq hP hl
  obtain ⟨hg, h0, hp⟩ := h
  obtain ⟨w1, w2⟩ := mwf_puts hg (by omega)
  unfold mput
  cases hl : mloc (upd g 12 (g 12 + 1)) q with
  | some i =>
    rw [mputf]
    have hi := mloc_sp w1 hq hl
    show mre (P + 1) (upd (upd g 12 (g 12 + 1)) (21 + 4 * i) v)
    rw [upd_val]
    refine ⟨mwf_same w1 (by omega) (by omega) rfl rfl, ?_, ?_⟩
    · rw [ck_cs, if_neg (by omega), ck_upd (by omega)]; exact h0
    · rw [mn_cs (by omega), w2, hp]
  | none =>
    rw [mputf]
    obtain ⟨a1, a2⟩ := hh hl
    have z := mpt1_ok (mcome_ok a1 (by omega)) (by omega)
    rw [mn_cs (by omega), w2, hp] at z
    exact z
