/-! arranged: the reference moves along, counts -/
def fB (o _ : Nat) : Prop := 84 ≤ o ∧ o ≤ 86
def wR (g : mp) (es : List en) (u : tc_S) (E k : Nat) (A : List Nat) (F : Nat → Nat) (at1 L : Nat) (F2 : Nat → Nat) : Prop :=
  ls u es ∧ byS u g ∧ (∀ e, e < E → (kq es e ∈ A ∧ u.1 84 e = nI (F2 (kq es e))) ∨ (kq es e ∉ A ∧ u.1 84 e = -1)) ∧ u.1 84 E = nI (F2 k) ∧ (∀ b, b < mn g 0 → u.1 85 b = nI (lcb F b A)) ∧ (∀ b, b < mn g 0 → u.1 86 b = nI (afr g es E A F b) ∧ afr g es E A F b ≤ 1000) ∧ (∀ b, lcb F2 b (k :: A) = lcb F b A + (if at1 = b then 1 else 0)) ∧ (∀ q ∈ k :: A, F2 q = mhash g 0 q ∨ F2 q = mhash g 1 q) ∧ (∀ q ∈ A, afr g es E A F (F q) ≤ afr g es E A F at1 → F2 q = F q) ∧ (∀ q ∈ A, F q = at1 → kq es L ≠ q) ∧ at1 < mn g 0 ∧ L ≤ E
theorem pr_184 {G : tc_G} (h4 : gm4 G) (h6 : gm6 G) {u : tc_S} {g : mp} {es : List en} {E k at1 L m d0 : Nat} {A : List Nat} {F F2 : Nat → Nat} {v2 v3 : Int32} {K28 : Nat → Int32 → Int32 → Int32 → Int32 → tc_S → Option (Int32 × tc_S)} {K : Nat → Int32 → Int32 → Int32 → Int32 → Int32 → Int32 → tc_S → Option (Int32 × tc_S)} {Q : Int32 × tc_S → Prop} (hS : wS g) (hes : esK es) (hE : E < es.length) (h : wR g es u E k A F at1 L F2) (hm : afr g es E A F at1 = m + 1) (hd0 : d0 < E ∧ d0 ≠ L ∧ kq es d0 ∈ A ∧ F2 (kq es d0) = at1 ∧ afr g es E A F (coth g (kq es d0) at1) = m)
    (hK : ∀ d, d < E → d ≠ L → kq es d ∈ A → F2 (kq es d) = at1 → afr g es E A F (coth g (kq es d) at1) = m → yl (K 71 (nI (mn g 0)) v2 v3 (nI E) (nI (coth g (kq es d) at1)) (nI d) (tc_w u 84 d (nI (coth g (kq es d) at1)))) Q) : ∀ (n d f : Nat), d + n = d0 → n < f → yl (lo_X12_overBy_184 G K28 K f 71 (nI (mn g 0)) v2 v3 (nI E) (nI at1) (nI L) (nI d) u) Q := by
  have hn := hS.2.1
  have hl69 := hes.2.2
  obtain ⟨r1, r2, r3, r4, r5, r6, r7, r8, r9, r10, r11, r12⟩ := h
  intro n
  induction n with
  | zero =>
    intro d f hd hf
    obtain ⟨f, rfl⟩ : ∃ k, f = k + 1 := ⟨f - 1, by omega⟩
    have e : d = d0 := by omega
    subst e
    obtain ⟨c1, c2, c3, c4, c5⟩ := hd0
    obtain ⟨k1, k2⟩ := hes.1 d (by omega)
    have hcl : coth g (kq es d) at1 < mn g 0 := F_lt hS coth_in
    have e84 : u.1 84 d = nI at1 := by
      rcases r3 d c1 with ⟨_, z⟩ | ⟨z, _⟩
      · rw [z, c4]
      · exact absurd c3 z
    have l80 : u.1 80 (4 * d) = nI (kq es d + 1) := by rw [(r1.2 d (by omega)).1, k1]
    rw [lo_X12_overBy_184, pu_eq (by omega) (by omega), if_neg c2, pu_le (by omega) (by omega), if_neg (by omega), h6.1.1, h6.1.2.2.1, h4.1]
    refine yl_ld 72 h6.2.1 (by omega) (by omega) ?_
    rw [e84]
    refine yl_p rfl ?_
    rw [show (4 : Int32) * nI d = nI (4 * d) from pk_mul 4 d]
    refine yl_ld 288 h4.2 (by omega) (by omega) ?_
    rw [l80, nI_pred]
    refine yl_e (pr_otherBy h6 hS r2 k2 (by omega)) ?_
    refine yl_ld 32 h6.2.2.2.1 (by omega) (by omega) (yl_ld 32 h6.2.2.2.1 (by omega) (by omega) ?_)
    rw [(r6 _ hcl).1, (r6 _ r11).1, c5, hm, nI_pred]
    refine yl_p rfl ?_
    refine yl_ld 288 h4.2 (by omega) (by omega) ?_
    rw [l80, nI_pred]
    refine yl_e (pr_otherBy h6 hS r2 k2 (by omega)) ?_
    exact yl_sd 72 h6.2.1 (by omega) (by omega) (hK d c1 c2 c3 c4 c5)
  | succ n ih =>
    intro d f hd hf
    obtain ⟨f, rfl⟩ : ∃ k, f = k + 1 := ⟨f - 1, by omega⟩
    have hdE : d < E := by omega
    obtain ⟨k1, k2⟩ := hes.1 d (by omega)
    have hcl : coth g (kq es d) at1 < mn g 0 := F_lt hS coth_in
    have l80 : u.1 80 (4 * d) = nI (kq es d + 1) := by rw [(r1.2 d (by omega)).1, k1]
    have skip : yl (bl_X12_overBy_245 G K28 K (lo_X12_overBy_184 G K28 K f) 71 (nI (mn g 0)) v2 v3 (nI E) (nI at1) (nI L) (nI d) u) Q := by
      unfold bl_X12_overBy_245
      refine yl_let ?_
      rw [nI_1]
      exact ih (d + 1) f (by omega) (by omega)
    rw [lo_X12_overBy_184, pu_eq (by omega) (by omega)]
    by_cases c2 : d = L
    · exact yl_p c2 skip
    · refine yl_n c2 ?_
      rw [pu_le (by omega) (by omega)]
      refine yl_n (by omega) ?_
      rw [h6.1.1, h6.1.2.2.1, h4.1]
      refine yl_ld 72 h6.2.1 (by omega) (by omega) ?_
      rcases r3 d hdE with ⟨c3, z⟩ | ⟨c3, z⟩
      · have hFl : F2 (kq es d) < mn g 0 := F_lt hS (r8 _ (List.mem_cons_of_mem _ c3))
        rw [z, pu_eq (by omega) (by omega)]
        by_cases c4 : F2 (kq es d) = at1
        · refine yl_p c4 ?_
          rw [show (4 : Int32) * nI d = nI (4 * d) from pk_mul 4 d]
          refine yl_ld 288 h4.2 (by omega) (by omega) ?_
          rw [l80, nI_pred]
          refine yl_e (pr_otherBy h6 hS r2 k2 (by omega)) ?_
          refine yl_ld 32 h6.2.2.2.1 (by omega) (by omega) (yl_ld 32 h6.2.2.2.1 (by omega) (by omega) ?_)
          have b1 := r6 _ hcl
          have b2 := r6 _ r11
          rw [b1.1, b2.1, hm, nI_pred, pu_eq (by omega) (by omega)]
          by_cases c5 : afr g es E A F (coth g (kq es d) at1) = m
          · refine yl_p c5 ?_
            refine yl_ld 288 h4.2 (by omega) (by omega) ?_
            rw [l80, nI_pred]
            refine yl_e (pr_otherBy h6 hS r2 k2 (by omega)) ?_
            exact yl_sd 72 h6.2.1 (by omega) (by omega) (hK d hdE c2 c3 c4 c5)
          · exact yl_n c5 skip
        · exact yl_n c4 skip
      · rw [z]
        refine yl_n (fun q => ?_) skip
        have : ¬ nI at1 < 0 := nI_pos (by omega)
        rw [← q] at this
        exact this (by decide)
theorem pr_171 {G : tc_G} (h4 : gm4 G) (h6 : gm6 G) {u0 : tc_S} {g : mp} {es : List en} {E k : Nat} {A : List Nat} {F : Nat → Nat} {v3 : Int32} {K28 : Nat → Int32 → Int32 → Int32 → Int32 → tc_S → Option (Int32 × tc_S)} {Q : Int32 × tc_S → Prop} (hS : wS g) (hes : esK es) (hE : E < es.length) (hk : kq es E = k) (hkA : k ∉ A) (hnd : A.Nodup) (hAF : ∀ q ∈ A, (F q = mhash g 0 q ∨ F q = mhash g 1 q) ∧ ∃ e, e < E ∧ kq es e = q) (hcap : ∀ b, b < mn g 0 → lcb F b A ≤ mn g 1)
    (hK : ∀ w F2, aR g es w (E + 1) (k :: A) F2 → fr fB u0 w → yl (K28 71 (nI (mn g 0)) (nI (mn g 1)) v3 (nI (E + 1)) w) Q) : ∀ (m f at1 L : Nat) (F2 : Nat → Nat) (u : tc_S), afr g es E A F at1 = m → m < 1000 → m < f → wR g es u E k A F at1 L F2 → fr fB u0 u → yl (lo_X12_overBy_171 G K28 f 71 (nI (mn g 0)) (nI (mn g 1)) v3 (nI E) (nI at1) (nI L) u) Q := by
  have hfu := tc_fu_big
  have hn := hS.2.1
  have hs := hS.2.2.1
  have hl69 := hes.2.2
  have hlt := eds_lt (es := es) (E := E) hS (fun q hq => (hAF q hq).1)
  intro m
  induction m with
  | zero =>
    intro f at1 L F2 u hm hm2 hf h hr
    obtain ⟨f, rfl⟩ : ∃ k, f = k + 1 := ⟨f - 1, by omega⟩
    obtain ⟨r1, r2, r3, r4, r5, r6, r7, r8, r9, r10, r11, r12⟩ := h
    have op : lcb F at1 A < mn g 1 := by
      have p := (rf_S hlt (op := aop g A F) at1 r11).2 (by unfold afr at hm; omega)
      have hm' : rf (mn g 0) (aop g A F) (eds g es A F E 0) at1 = 0 := hm
      rw [hm'] at p
      exact of_decide_eq_true p.2
    have capk := hcap at1 r11
    rw [lo_X12_overBy_171, h6.1.2.2.1, h6.1.2.1]
    refine yl_ld 32 h6.2.2.2.1 (by omega) (by omega) ?_
    rw [(r6 _ r11).1, hm]
    refine yl_p (by decide) ?_
    refine yl_ld 32 h6.2.2.1 (by omega) (by omega) ?_
    rw [r5 _ r11, nI_1]
    refine yl_sd 32 h6.2.2.1 (by omega) (by omega) ?_
    unfold bl_X12_overBy_298
    refine yl_let ?_
    rw [nI_1]
    refine hK _ F2 ⟨⟨by rw [w_get, if_neg (by omega)]; exact r1.1, fun j hj => ?_⟩, fun j hj => by rw [w_get, if_neg (by omega)]; exact r2 j hj, fun e he => ?_, fun b hb => ?_, fun q hq => ⟨r8 q hq, ?_⟩, List.nodup_cons.mpr ⟨hkA, hnd⟩⟩ (fr_w hr ⟨by omega, by omega⟩)
    · simp only [w_get, show ¬ (80 = 85) by omega, false_and, if_false]
      exact r1.2 j hj
    · rw [w_get, if_neg (by omega)]
      by_cases d : e = E
      · rw [d, hk]
        exact Or.inl ⟨List.mem_cons_self .., r4⟩
      · rcases r3 e (by omega) with ⟨z1, z2⟩ | ⟨z1, z2⟩
        · exact Or.inl ⟨List.mem_cons_of_mem _ z1, z2⟩
        · refine Or.inr ⟨fun z => ?_, z2⟩
          rcases List.mem_cons.mp z with y | y
          · exact hes.2.1 e E (by omega) hE (by rw [y, hk])
          · exact z1 y
    · rw [r7 b, w_get]
      by_cases d : at1 = b
      · rw [if_pos ⟨rfl, d.symm⟩, if_pos d, ← d]
        exact ⟨rfl, by omega⟩
      · rw [if_neg (fun z => d z.2.symm), if_neg d, Nat.add_zero]
        exact ⟨r5 b hb, hcap b hb⟩
    · rcases List.mem_cons.mp hq with y | y
      · exact ⟨E, by omega, by rw [y]; exact hk⟩
      · obtain ⟨e, e1, e2⟩ := (hAF q y).2
        exact ⟨e, by omega, e2⟩
  | succ m ih =>
    intro f at1 L F2 u hm hm2 hf h hr
    obtain ⟨f, rfl⟩ : ∃ k, f = k + 1 := ⟨f - 1, by omega⟩
    have hw := h
    obtain ⟨r1, r2, r3, r4, r5, r6, r7, r8, r9, r10, r11, r12⟩ := h
    obtain ⟨c, c1, c2⟩ := rf_step hlt r11 hm hm2
    obtain ⟨d0, -, d1, d2, d3⟩ := (eds_mem E 0).mp c1
    have d4 : at1 = F (kq es d0) := congrArg Prod.fst d3
    have d5 : c = coth g (kq es d0) (F (kq es d0)) := congrArg Prod.snd d3
    have dF : F2 (kq es d0) = at1 := by rw [r9 _ d2 (by rw [← d4]; exact Nat.le_refl _), d4]
    have dL : d0 ≠ L := fun z => r10 _ d2 d4.symm (by rw [z])
    rw [lo_X12_overBy_171, h6.1.2.2.1]
    refine yl_ld 32 h6.2.2.2.1 (by omega) (by omega) ?_
    rw [(r6 _ r11).1, hm]
    refine yl_n (nI_nle (by omega) (by omega)) ?_
    refine pr_184 h4 h6 hS hes hE hw hm ⟨by omega, dL, d2, dF, by rw [d4, ← d5]; exact c2⟩ (fun d x1 x2 x3 x4 x5 => ?_) d0 0 tc_fu (by omega) (by omega)
    have hcl : coth g (kq es d) at1 < mn g 0 := F_lt hS coth_in
    have hkd : kq es d ≠ k := fun z => hkA (by rw [← z]; exact x3)
    refine ih f (coth g (kq es d) at1) d (pset F2 (kq es d) (coth g (kq es d) at1)) _ x5 (by omega) (by omega) ⟨⟨by rw [w_get, if_neg (by omega)]; exact r1.1, fun j hj => ?_⟩, fun j hj => by rw [w_get, if_neg (by omega)]; exact r2 j hj, fun e he => ?_, ?_, fun b hb => by rw [w_get, if_neg (by omega)]; exact r5 b hb, fun b hb => by rw [w_get, if_neg (by omega)]; exact r6 b hb, fun b => ?_, fun q hq => ?_, fun q hq hle => ?_, fun q hq hF => ?_, hcl, by omega⟩ (fr_w hr ⟨by omega, by omega⟩)
    · simp only [w_get, show ¬ (80 = 84) by omega, false_and, if_false]
      exact r1.2 j hj
    · rw [w_get]
      by_cases y : e = d
      · rw [if_pos ⟨rfl, y⟩, y, pset_eq]
        exact Or.inl ⟨x3, rfl⟩
      · rw [if_neg (fun z => y z.2)]
        have hne : ¬ kq es e = kq es d := by
          rcases Nat.lt_or_gt_of_ne y with z | z
          · exact hes.2.1 e d z (by omega)
          · exact (hes.2.1 d e z (by omega)).symm
        rw [pset_ne hne]
        exact r3 e he
    · rw [w_get, if_neg (by omega), pset_ne (fun z => hkd z.symm)]
      exact r4
    · have := lcb_pset (F := F2) (q := kq es d) (c := coth g (kq es d) at1) (b := b) (k :: A) (List.nodup_cons.mpr ⟨hkA, hnd⟩) (List.mem_cons_of_mem _ x3)
      rw [r7 b, x4] at this
      omega
    · by_cases y : q = kq es d
      · rw [y, pset_eq]; exact coth_in
      · rw [pset_ne y]; exact r8 q hq
    · have hq' := r9 q hq (by omega)
      by_cases y : q = kq es d
      · exfalso
        rw [y, x4] at hq'
        rw [y, ← hq', hm] at hle
        omega
      · rw [pset_ne y]; exact hq'
    · intro y
      have hq' := r9 q hq (by rw [hF]; omega)
      rw [← y, x4] at hq'
      rw [← y] at hF
      rw [← hq'] at hF
      rw [← hF] at x5
      omega
theorem pr_28 {G : tc_G} (h4 : gm4 G) (h6 : gm6 G) {u0 : tc_S} {g : mp} {es : List en} (hS : wS g) (hes : esK es) : ∀ (n E f c : Nat) (A : List Nat) (F : Nat → Nat) (u : tc_S), E + n = es.length → n < f → aR g es u E A F → fr fB u0 u → y2 (lo_X12_overBy_28 G f 71 (nI (mn g 0)) (nI (mn g 1)) (nI c) (nI E) u) (fun r w => r = nI (c + ovg g ((es.drop E).map ky) A) ∧ fr fB u0 w) := by
  have hfu := tc_fu_big
  have hn := hS.2.1
  have hl69 := hes.2.2
  intro n
  induction n with
  | zero =>
    intro E f c A F u hE hf h hr
    obtain ⟨f, rfl⟩ : ∃ k, f = k + 1 := ⟨f - 1, by omega⟩
    rw [lo_X12_overBy_28, h.1.1, pu_le (by omega) (by omega), if_pos (by omega), List.drop_eq_nil_of_le (by omega)]
    exact yl_ok ⟨rfl, hr⟩
  | succ n ih =>
    intro E f c A F u hE hf h hr
    obtain ⟨f, rfl⟩ : ∃ k, f = k + 1 := ⟨f - 1, by omega⟩
    have hEl : E < es.length := by omega
    obtain ⟨k1, k2⟩ := hes.1 E hEl
    have l80 : u.1 80 (4 * E) = nI (kq es E + 1) := by rw [(h.1.2 E hEl).1, k1]
    have hkA : kq es E ∉ A := fun z => by
      obtain ⟨e, e1, e2⟩ := (h.2.2.2.2.1 _ z).2
      exact hes.2.1 e E e1 hEl e2
    have hkE : ky es[E] = kq es E := by unfold kq; rw [List.getElem?_eq_getElem hEl]; rfl
    have l0 := wS_hash hS 0 (kq es E)
    have l1 := wS_hash hS 1 (kq es E)
    rw [lo_X12_overBy_28, h.1.1, pu_le (by omega) (by omega), if_neg (by omega), h4.1, h6.1.2.2.1, show (4 : Int32) * nI E = nI (4 * E) from pk_mul 4 E, List.drop_eq_getElem_cons hEl, List.map_cons, hkE]
    refine yl_ld 288 h4.2 (by omega) (by omega) ?_
    rw [l80, nI_pred]
    refine yl_let ?_
    refine yl_b (pr_far h4 h6 hS hes (by omega) h) fun _ w hw => ?_
    obtain ⟨w1, w2⟩ := hw
    have wb : byS w g := fun j hj => by rw [w2 _ _ (by omega)]; exact h.2.1 j hj
    have e0 : fn_X12_hashBy G 71 (nI (kq es E)) 0 (nI (mn g 0)) w = some (nI (mhash g 0 (kq es E)), w) := pr_hashBy h6 hS wb (w := 0) (by omega) k2
    have e1 : fn_X12_hashBy G 71 (nI (kq es E)) 1 (nI (mn g 0)) w = some (nI (mhash g 1 (kq es E)), w) := pr_hashBy h6 hS wb (w := 1) (by omega) k2
    refine yl_e e0 (yl_e e1 ?_)
    refine yl_ld 32 h6.2.2.2.1 (by omega) (by omega) (yl_ld 32 h6.2.2.2.1 (by omega) (by omega) ?_)
    have a0 := w1 _ l0
    have a1 := w1 _ l1
    rw [a0.1, a1.1, pu_le (by omega) (by omega)]
    have frw : fr fB u0 w := fr_trans hr (fr_mono w2 fun o k q => by unfold fB; omega)
    have lsw : ls w es := ls_fr h.1 w2 (fun k => by omega) (by omega)
    have main : ∀ b, (b = mhash g 0 (kq es E) ∨ b = mhash g 1 (kq es E)) → afr g es E A F b ≤ afr g es E A F (mhash g 0 (kq es E)) → afr g es E A F b ≤ afr g es E A F (mhash g 1 (kq es E)) → y2 (bl_X12_overBy_102 G (lo_X12_overBy_28 G f) 71 (nI (mn g 0)) (nI (mn g 1)) (nI c) (nI E) (nI b) w) (fun r w => r = nI (c + ovg g (kq es E :: (es.drop (E + 1)).map ky) A) ∧ fr fB u0 w) := by
      intro b hb hb0 hb1
      have hbl := F_lt hS hb
      have ab := w1 _ hbl
      have e86 : ∀ x : Int32, (tc_w w 84 E x).1 86 b = nI (afr g es E A F b) := fun x => by rw [w_get, if_neg (by omega)]; exact ab.1
      unfold bl_X12_overBy_102 bl_X12_overBy_129 bl_X12_overBy_149
      rw [h6.1.2.2.1, h6.1.1]
      refine yl_ld 32 h6.2.2.2.1 (by omega) (by omega) ?_
      rw [ab.1, show (1000 : Int32) = nI 1000 from rfl, pu_lt (by omega) (by omega)]
      by_cases c1 : afr g es E A F b < 1000
      · refine yl_p c1 (yl_sd 72 h6.2.1 (by omega) (by omega) ?_)
        refine yl_ld 32 h6.2.2.2.1 (by omega) (by omega) ?_
        rw [e86, pu_lt (by omega) (by omega)]
        refine yl_p c1 (yl_let ?_)
        rw [show nI c + 0 = nI c from Int32.add_zero _]
        refine yl_ld 32 h6.2.2.2.1 (by omega) (by omega) ?_
        rw [e86, pu_lt (by omega) (by omega)]
        refine yl_p c1 ?_
        have hmb : afr g es E A F b ≤ 999 := by omega
        refine pr_171 h4 h6 (u0 := u0) hS hes hEl rfl hkA h.2.2.2.2.2 h.2.2.2.2.1 (fun b2 hb2 => (h.2.2.2.1 b2 hb2).2) (fun w2 F3 x1 x2 => ?_) (afr g es E A F b) tc_fu b E (pset F (kq es E) b) _ rfl c1 (by omega) ⟨⟨by rw [w_get, if_neg (by omega)]; exact lsw.1, fun j hj => ?_⟩, fun j hj => by rw [w_get, if_neg (by omega)]; exact wb j hj, fun e he => ?_, ?_, fun b2 hb2 => ?_, fun b2 hb2 => by rw [w_get, if_neg (by omega)]; exact w1 b2 hb2, fun b2 => ?_, fun q hq => ?_, fun q hq _ => ?_, fun q hq _ z => ?_, hbl, Nat.le_refl _⟩ (fr_w frw ⟨by omega, by omega⟩)
        · have ar : arr (mhash g 0) (mhash g 1) (mn g 1) (kq es E :: A) := by
            refine ⟨F3, fun q hq => (x1.2.2.2.2.1 q hq).1, fun b2 => ?_⟩
            by_cases y : b2 < mn g 0
            · exact (x1.2.2.2.1 b2 y).2
            · have : lcb F3 b2 (kq es E :: A) = 0 := by
                unfold lcb
                rw [List.countP_eq_zero]
                intro q hq
                rw [decide_eq_true_iff]
                intro z
                have := F_lt hS (x1.2.2.2.2.1 q hq).1
                omega
              omega
          rw [show ovg g (kq es E :: (es.drop (E + 1)).map ky) A = ovg g ((es.drop (E + 1)).map ky) (kq es E :: A) from ov_y ar]
          exact ih (E + 1) f c (kq es E :: A) F3 w2 (by omega) (by omega) x1 x2
        · simp only [w_get, show ¬ (80 = 84) by omega, false_and, if_false]
          exact lsw.2 j hj
        · rw [w_get, if_neg (by omega), w2 _ _ (by omega)]
          have : ¬ kq es e = kq es E := hes.2.1 e E he hEl
          rw [pset_ne this]
          exact h.2.2.1 e he
        · rw [w_get, if_pos ⟨rfl, rfl⟩, pset_eq]
        · rw [w_get, if_neg (by omega), w2 _ _ (by omega)]
          exact (h.2.2.2.1 b2 hb2).1
        · have no : ∀ B : List Nat, kq es E ∉ B → lcb (pset F (kq es E) b) b2 B = lcb F b2 B := by
            intro B
            induction B with
            | nil => intro _; rfl
            | cons x B ihB =>
              intro hx
              rw [lcb_cons, lcb_cons, ihB (fun z => hx (List.mem_cons_of_mem _ z)), pset_ne (fun z => hx (by rw [z]; exact List.mem_cons_self ..))]
          rw [lcb_cons, no A hkA, pset_eq]
        · rcases List.mem_cons.mp hq with y | y
          · rw [y, pset_eq]; exact hb
          · rw [pset_ne (fun z => hkA (by rw [← z]; exact y))]
            exact (h.2.2.2.2.1 q y).1
        · rw [pset_ne (fun z => hkA (by rw [← z]; exact hq))]
        · exact hkA (by rw [z]; exact hq)
      · refine yl_n c1 (yl_sd 72 h6.2.1 (by omega) (by omega) ?_)
        refine yl_ld 32 h6.2.2.2.1 (by omega) (by omega) ?_
        rw [e86, pu_lt (by omega) (by omega)]
        refine yl_n c1 (yl_let ?_)
        refine yl_ld 32 h6.2.2.2.1 (by omega) (by omega) ?_
        rw [e86, pu_lt (by omega) (by omega), nI_1]
        refine yl_n c1 ?_
        unfold bl_X12_overBy_298
        refine yl_let ?_
        rw [nI_1]
        have ar := aR_no (k := kq es E) hS h (by omega) (by omega)
        rw [show ovg g (kq es E :: (es.drop (E + 1)).map ky) A = 1 + ovg g ((es.drop (E + 1)).map ky) A from ov_n ar, ← Nat.add_assoc]
        refine ih (E + 1) f (c + 1) A F _ (by omega) (by omega) ⟨⟨by rw [w_get, if_neg (by omega)]; exact lsw.1, fun j hj => ?_⟩, fun j hj => by rw [w_get, if_neg (by omega)]; exact wb j hj, fun e he => ?_, fun b2 hb2 => ?_, fun q hq => ⟨(h.2.2.2.2.1 q hq).1, ?_⟩, h.2.2.2.2.2⟩ (fr_w frw ⟨by omega, by omega⟩)
        · simp only [w_get, show ¬ (80 = 84) by omega, false_and, if_false]
          exact lsw.2 j hj
        · rw [w_get]
          by_cases y : e = E
          · rw [if_pos ⟨rfl, y⟩, y]
            exact Or.inr ⟨hkA, rfl⟩
          · rw [if_neg (fun z => y z.2), w2 _ _ (by omega)]
            exact h.2.2.1 e (by omega)
        · rw [w_get, if_neg (by omega), w2 _ _ (by omega)]
          exact h.2.2.2.1 b2 hb2
        · obtain ⟨e, q1, q2⟩ := (h.2.2.2.2.1 q hq).2
          exact ⟨e, by omega, q2⟩
    by_cases c0 : afr g es E A F (mhash g 0 (kq es E)) ≤ afr g es E A F (mhash g 1 (kq es E))
    · exact yl_p c0 (main _ (Or.inl rfl) (Nat.le_refl _) c0)
    · exact yl_n c0 (main _ (Or.inr rfl) (by omega) (Nat.le_refl _))
theorem pr_overBy {G : tc_G} (h4 : gm4 G) (h6 : gm6 G) {u : tc_S} {g : mp} {es : List en} (hS : wS g) (hes : esK es) (hl : ls u es) (hb : byS u g) : y2 (fn_X12_overBy G 71 (nI (mn g 0)) (nI (mn g 1)) u) (fun r w => r = nI (ovg g (es.map ky) []) ∧ fr fB u w) := by
  have hfu := tc_fu_big
  have hn := hS.2.1
  have hl69 := hes.2.2
  have lo : ∀ (n k f : Nat) (w : tc_S), k + n = mn g 0 → n < f → (∀ b, b < k → w.1 85 b = 0) → fr fB u w → y2 (lo_X12_overBy_5 G f 71 (nI (mn g 0)) (nI (mn g 1)) 0 (nI k) w) (fun r w => r = nI (ovg g (es.map ky) []) ∧ fr fB u w) := by
    intro n
    induction n with
    | zero =>
      intro k f w hk hf hc hr
      obtain ⟨f, rfl⟩ : ∃ k, f = k + 1 := ⟨f - 1, by omega⟩
      rw [lo_X12_overBy_5, pu_le (by omega) (by omega), if_pos (by omega)]
      have z := pr_28 h4 h6 (u0 := u) hS hes es.length 0 tc_fu 0 [] (fun _ => 0) w (by omega) (by omega) ⟨ls_fr hl hr (fun k => by unfold fB; omega) (by unfold fB; omega), fun j hj => by rw [hr _ _ (by unfold fB; omega)]; exact hb j hj, fun e he => by omega, fun b hb2 => ⟨by rw [hc b (by omega)]; rfl, Nat.zero_le _⟩, fun q hq => (by cases hq), List.nodup_nil⟩ hr
      rw [List.drop_zero, Nat.zero_add] at z
      exact z
    | succ n ih =>
      intro k f w hk hf hc hr
      obtain ⟨f, rfl⟩ : ∃ k, f = k + 1 := ⟨f - 1, by omega⟩
      rw [lo_X12_overBy_5, pu_le (by omega) (by omega), if_neg (by omega), h6.1.2.1]
      refine yl_sd 32 h6.2.2.1 (by omega) (by omega) (yl_let ?_)
      rw [nI_1]
      refine ih (k + 1) f _ (by omega) (by omega) (fun b hb2 => ?_) (fr_w hr ⟨by omega, by omega⟩)
      rw [w_get]
      by_cases d : b = k
      · rw [if_pos ⟨rfl, d⟩]
      · rw [if_neg (fun z => d z.2)]; exact hc b (by omega)
  unfold fn_X12_overBy
  exact lo (mn g 0) 0 tc_fu u (by omega) (by omega) (fun b hb2 => by omega) fr_refl
