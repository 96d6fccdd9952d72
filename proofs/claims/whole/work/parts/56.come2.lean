/-! coming in: what it keeps -/
/-- no new keys -/
def kin (g h : mp) : Prop := ∀ i, i < 69 → ck h i ≠ 0 → ∃ j, j < 69 ∧ ck g j = ck h i ∧ cb g j = cb h i
theorem kin_refl {g : mp} : kin g g := fun i hi _ => ⟨i, hi, rfl, rfl⟩
theorem kin_trans {g h k : mp} (a : kin g h) (b : kin h k) : kin g k := fun i hi h0 => by
  obtain ⟨j, j1, j2, j3⟩ := b i hi h0
  obtain ⟨m, m1, m2, m3⟩ := a j j1 (by rw [j2]; exact h0)
  exact ⟨m, m1, m2.trans j2, m3.trans j3⟩
theorem kin_upd {g : mp} {k : Nat} {x : Int32} (h : k < 20) : kin g (upd g k x) := fun i hi _ => ⟨i, hi, by rw [ck_upd h], by rw [cb_upd h]⟩
theorem kin_cs {g h : mp} {i j : Nat} {e : en} (a : kin g h) (hj : j < 69) (he : (e.1.toNatClampNeg = ck g j ∧ e.2.2.1.toNatClampNeg = cb g j) ∨ e.1.toNatClampNeg = 0) : kin g (cs h i e) := by
  intro x hx
  rw [ck_cs, cb_cs]
  split
  · intro h0
    rcases he with q | q
    · exact ⟨j, hj, q.1.symm, q.2.symm⟩
    · exact absurd q h0
  · exact a x hx
theorem kin_mv {g : mp} {i j : Nat} (hi : i < 69) : kin g (mv g i j) := kin_cs (j := i) (kin_cs kin_refl hi (Or.inl ⟨rfl, rfl⟩)) hi (Or.inr rfl)
theorem kin_mvb {g : mp} {i j : Nat} (hi : i < 69) : kin g (mvb g i j) := kin_cs (j := i) (kin_cs kin_refl hi (Or.inl ⟨rfl, rfl⟩)) hi (Or.inr rfl)
theorem kin_msh {g : mp} {f : Nat} : ∀ (l : List (Nat × Nat)), (∀ r, r ∈ l → 4 * r.1 + r.2 < 69) → kin g (msh g l f).1
  | [], _ => kin_refl
  | q :: l, h => kin_trans (kin_msh l fun r hr => h r (List.mem_cons_of_mem _ hr)) (kin_mvb (h q (List.mem_cons_self ..)))
theorem kin_mopn {g : mp} (hg : mwf g) {key : Nat} {l : List (Nat × Nat)} (h : mchain g key = some l) : kin g (mopn g key l) := by
  have hn := hg.1.1.2.1.2
  have hs := hg.1.1.2.2.1.2
  have hm := chv_mem (mchain_sp hg h).1
  refine kin_trans (kin_msh l fun r hr => ?_) (kin_upd (by omega))
  have := hm.2 r hr
  omega
/-- settings and tallies, but for seed, longest, those in the stash -/
def sT (g h : mp) : Prop := ∀ k, k < 20 → k ≠ 11 → k ≠ 17 → k ≠ 18 → h k = g k
theorem sT_sA {g h : mp} (s : sT g h) : sA g h := fun k hk => s k (by omega) (by omega) (by omega) (by omega)
theorem sT_refl {g : mp} : sT g g := fun _ _ _ _ _ => rfl
theorem sT_trans {g h k : mp} (a : sT g h) (b : sT h k) : sT g k := fun j h1 h2 h3 h4 => (b j h1 h2 h3 h4).trans (a j h1 h2 h3 h4)
theorem sT_cs {g : mp} {i : Nat} {e : en} : sT g (cs g i e) := fun _ hk _ _ _ => cs_lo (by omega)
theorem sT_upd {g : mp} {k : Nat} {x : Int32} (h : k = 11 ∨ k = 17 ∨ k = 18 ∨ 20 ≤ k) : sT g (upd g k x) := fun j h1 h2 h3 h4 => upd_ne (by omega)
theorem mwf_stash {g : mp} (h : mwf g) (h0 : ck g 68 ≠ 0) (h1 : mn g 18 < mn g 2) : mwf (upd (mv g 68 (64 + mn g 18)) 18 (g 18 + 1)) := by
  have a := h.1.1
  have b := h.1.2.1
  have h2 := a.2.2.2.1
  have z := mw0_mv (i := 68) (j := 64 + mn g 18) (e := gc g 68) h.1 (by omega) (by omega) (by omega) h0 (fun q => absurd q (by omega)) (Or.inl rfl)
  have e18 : mn (upd (mv g 68 (64 + mn g 18)) 18 (g 18 + 1)) 18 = mn g 18 + 1 := by
    show (upd (mv g 68 (64 + mn g 18)) 18 (g 18 + 1) 18).toNatClampNeg = _
    rw [upd_eq, b.1, nI_1, nI_clamp (by omega)]
  have s : sA g (upd (mv g 68 (64 + mn g 18)) 18 (g 18 + 1)) := sA_trans (sA_trans sA_cs sA_cs) (sA_upd (by omega))
  obtain ⟨z1, z2, z3, z4, z5, z6⟩ := z
  refine ⟨⟨sA_wA s a, ?_, ?_, ?_, ?_, ?_⟩, ?_⟩
  · refine ⟨?_, ?_⟩
    · rw [e18, upd_eq, b.1, nI_1]
    · rw [e18, sA_mn s (by omega)]; omega
  · intro i hi
    rw [ck_upd (by omega), gc_upd (by omega), upd_ne (by omega)]
    exact z3 i hi
  · intro i hi
    rw [ck_upd (by omega), sA_wP (sA_upd (by omega))]
    exact z4 i hi
  · intro i j hi hj
    rw [ck_upd (by omega), ck_upd (by omega)]
    exact z5 i j hi hj
  · unfold wG
    rw [mn_upd (by omega), upd_ne (by omega)]
    refine ⟨z6.1, fun i hi => ?_, fun i j hi hj => ?_⟩
    · rw [ck_upd (by omega), cb_upd (by omega), upd_ne (by omega)]
      exact z6.2.1 i hi
    · rw [ck_upd (by omega), cb_upd (by omega), ck_upd (by omega), cb_upd (by omega)]
      exact z6.2.2 i j hi hj
  · intro j hj
    rw [e18, ck_upd (by omega)]
    unfold mv
    rw [ck_cs, if_neg (by omega), ck_cs]
    have := h.2 j hj
    split
    · rename_i e
      constructor
      · intro _; omega
      · intro _; exact h0
    · rw [this]
      omega
theorem sT_mwst {g : mp} {b : Nat} : sT g (mwst g b) := by
  unfold mwst
  exact sT_trans (sT_trans (sT_upd (by omega)) sT_cs) sT_cs
theorem kin_sw {g h : mp} {i : Nat} (a : kin g h) (hi : i < 69) : kin g (cs (cs h i (gc g 68)) 68 (bump (gc g i))) := kin_cs (j := i) (kin_cs (j := 68) a (by omega) (Or.inl ⟨rfl, rfl⟩)) hi (Or.inl ⟨rfl, rfl⟩)
theorem kin_mwst {g : mp} {b : Nat} (h : mwv g b) : kin g (mwst g b) := by
  have a := h.1.1.1
  have hn := a.2.1.2
  have hs := a.2.2.1.2
  have hb := h.2.1
  obtain ⟨p, p1, p2, p3⟩ := mwst_pick a
  unfold mwst
  rw [p3]
  exact kin_sw (kin_upd (by omega)) (by omega)
theorem ck_mv {g : mp} {i j : Nat} : ck (mv g i j) i = 0 := by
  unfold mv
  rw [ck_cs, if_pos rfl]
  rfl
theorem mwl1_s {k : mp → Nat → Bool × mp} {g : mp} {b p : Nat} (h : memp (mwst g b) (mwb (mwst g b) b) = some p) : mwl1 k g b = (true, mv (mwst g b) 68 (4 * mwb (mwst g b) b + p)) := by
  unfold mwl1
  rw [h, mwl2]
theorem mwl1_n {k : mp → Nat → Bool × mp} {g : mp} {b : Nat} (h : memp (mwst g b) (mwb (mwst g b) b) = none) : mwl1 k g b = k (mwst g b) (mwb (mwst g b) b) := by
  unfold mwl1
  rw [h, mwl2]
theorem mwl_ok (n : Nat) : ∀ (g : mp) (b : Nat), mwv g b → sT g (mwl n g b).2 ∧ ((mwl n g b).1 = true → mwf (mwl n g b).2 ∧ kin g (mwl n g b).2 ∧ ck (mwl n g b).2 68 = 0) := by
  induction n with
  | zero =>
    intro g b h
    rw [mwl_0]
    exact ⟨sT_refl, fun q => by cases q⟩
  | succ n ih =>
    intro g b h
    rw [mwl_s]
    cases hm : memp (mwst g b) (mwb (mwst g b) b) with
    | some q =>
      rw [mwl1_s hm]
      exact ⟨sT_trans sT_mwst (sT_trans sT_cs sT_cs), fun _ => ⟨mwst_end h hm, kin_trans (kin_mwst h) (kin_mv (by omega)), ck_mv⟩⟩
    | none =>
      rw [mwl1_n hm]
      obtain ⟨i1, i2⟩ := ih _ _ (mwst_next h hm)
      exact ⟨sT_trans sT_mwst i1, fun q => ⟨(i2 q).1, kin_trans (kin_mwst h) (i2 q).2.1, (i2 q).2.2⟩⟩
theorem mfr_none {g : mp} {q : Nat} (h : mfr g q = none) : memp g (mhash g 0 q) = none ∧ memp g (mhash g 1 q) = none := by
  unfold mfr at h
  cases h0 : memp g (mhash g 0 q) with
  | some p => rw [h0] at h; cases h
  | none =>
    rw [h0] at h
    cases h1 : memp g (mhash g 1 q) with
    | some p => rw [h1] at h; cases h
    | none => exact ⟨rfl, rfl⟩
theorem mwv_start {g : mp} (h : mwf g) (h0 : ck g 68 ≠ 0) (hf : mfr g (ck g 68 - 1) = none) : mwv g (mhash g 0 (ck g 68 - 1)) := ⟨h, wA_hash h.1.1 0 _, (mfr_none hf).1, h0, Or.inl rfl⟩
/-- what coming in keeps -/
def mcs (g : mp) (r : Int32 × mp) : Prop := mwf r.2 ∧ sT g r.2 ∧ kin g r.2 ∧ (r.1 = 0 → ∃ s, r.2 = upd g 11 s) ∧ (r.1 ≠ 0 → ck r.2 68 = 0) ∧ ∃ n, n ≤ 3 ∧ r.1 = nI n
theorem upd_self {g : mp} {k : Nat} : upd g k (g k) = g := by
  funext j
  unfold upd
  split
  · rename_i h; rw [h]
  · rfl
theorem i_n1 : ¬ (1 : Int32) = 0 := by decide
theorem i_n2 : ¬ (2 : Int32) = 0 := by decide
theorem i_n3 : ¬ (3 : Int32) = 0 := by decide
theorem mstash_ok {g : mp} (h : mwf g) (h0 : ck g 68 ≠ 0) : mcs g (mstash g) := by
  unfold mstash
  split
  · exact ⟨h, sT_refl, kin_refl, fun _ => ⟨g 11, upd_self.symm⟩, fun q => absurd rfl q, 0, by omega, rfl⟩
  · rename_i hne
    have b := h.1.2.1
    have h1 : mn g 18 < mn g 2 := by
      rcases Nat.lt_or_eq_of_le b.2 with q | q
      · exact q
      · exact absurd (by rw [b.1, q]; exact (h.1.1.1 2 (by omega)).symm) hne
    have hm := h.1.1.2.2.2.1
    refine ⟨mwf_stash h h0 h1, sT_trans (sT_trans sT_cs sT_cs) (sT_upd (by omega)), kin_trans (kin_mv (by omega)) (kin_upd (by omega)), fun q => absurd q i_n3, fun _ => ?_, 3, by omega, rfl⟩
    show ck (upd (mv g 68 (64 + mn g 18)) 18 (g 18 + 1)) 68 = 0
    rw [ck_upd (by omega)]
    unfold mv
    rw [ck_cs, if_pos rfl]
    rfl
theorem mcs_trans {g : mp} {s : Int32} {r : Int32 × mp} (h : mcs (upd g 11 s) r) : mcs g r := by
  obtain ⟨a, b, c, d, e, f⟩ := h
  refine ⟨a, sT_trans (sT_upd (by omega)) b, kin_trans (kin_upd (by omega)) c, fun q => ?_, e, f⟩
  obtain ⟨s2, h2⟩ := d q
  refine ⟨s2, ?_⟩
  rw [h2]
  funext k
  unfold upd
  split <;> rfl
theorem mcome_ok {g : mp} (h : mwf g) (h0 : ck g 68 ≠ 0) : mcs g (mcome g) := by
  have a := h.1.1
  have hn := a.2.1.2
  have hs := a.2.2.1.2
  have z68 : ∀ (x : mp) (i : Nat), ck (mv x 68 i) 68 = 0 := by
    intro x i
    unfold mv
    rw [ck_cs, if_pos rfl]
    rfl
  unfold mcome
  cases hf : mfr g (ck g 68 - 1) with
  | some i =>
    obtain ⟨f1, f2, f3⟩ := mfr_sp a h.1.2.2.1 hf
    rw [mcf]
    exact ⟨mwf_mv h (by omega) (by omega) (by omega) h0 (fun _ => f3) (Or.inl rfl) (by omega) (by omega), sT_trans sT_cs sT_cs, kin_mv (by omega), fun q => absurd q i_n1, fun _ => z68 _ _, 1, by omega, rfl⟩
  | none =>
    rw [mcf]
    split
    · cases hc : mchain g (ck g 68 - 1) with
      | none => rw [mcc]; exact mstash_ok h h0
      | some l =>
        rw [mcc]
        split
        · obtain ⟨o1, o2, o3, o4, o5, o6, o7, o8⟩ := mopn_ok h hc
          have e68 : ck (mopn g (ck g 68 - 1) l) 68 = ck g 68 := by rw [ck_gc, o7 68 (by omega)]; rfl
          exact ⟨mwf_mv o1 (by omega) (by omega) (by omega) (by rw [e68]; exact h0) (fun _ => by rw [e68]; exact mopf_wP h hc) (Or.inl rfl) (by omega) (by omega), sT_trans (fun k h1 h2 h3 h4 => o8 k h1 h3) (sT_trans sT_cs sT_cs), kin_trans (kin_mopn h hc) (kin_mv (by omega)), fun q => absurd q i_n2, fun _ => z68 _ _, 2, by omega, rfl⟩
        · exact mstash_ok h h0
    · split
      · have w := mwl_ok (mn g 3) g _ (mwv_start h h0 hf)
        unfold mwk
        cases hw : mwl (mn g 3) g (mhash g 0 (ck g 68 - 1)) with
        | mk t x =>
          rw [hw] at w
          cases t with
          | true =>
            obtain ⟨w2, w3, w4⟩ := w.2 rfl
            rw [mwk2, mcw]
            exact ⟨w2, w.1, w3, fun q => absurd q i_n2, fun _ => w4, 2, by omega, rfl⟩
          | false =>
            rw [mwk2, mcw]
            exact mcs_trans (mstash_ok (mwf_seed h) (by rw [ck_upd (by omega)]; exact h0))
      · exact mstash_ok h h0
