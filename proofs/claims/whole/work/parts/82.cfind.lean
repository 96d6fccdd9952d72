/-! the class: where a key is -/
theorem mt_place {u : tc_S} {t i : Nat} {g : mp} (hg : mwf g) (h : mt u t g) (hi : vc g i) : (u.1 (t + 4) (fx g i) < 0 ↔ ck g i = 0) ∧ ∀ q, q ≤ 999 → (u.1 (t + 4) (fx g i) = nI q ↔ ck g i = q + 1) := by
  have a := hg.1.1
  have hi69 : i < 69 := by have := hi.1; omega
  by_cases h0 : ck g i = 0
  · have li := fx_lt a hi
    have q := h.2.1 (fx g i) (by omega)
    rw [fc_x a hi] at q
    have e := (gc_e0 hg hi69).mp h0
    have em := pl_emp q
    have e1 : u.1 (t + 4) (fx g i) = -1 := em.1.mp e
    rw [e1]
    refine ⟨⟨fun _ => h0, fun _ => by decide⟩, fun x hx => ⟨fun w => ?_, fun w => by omega⟩⟩
    exact absurd (show nI x < 0 by rw [← w]; decide) (nI_pos (by omega))
  · have k := (mt_key hg h hi h0).1
    have hc := (hg.1.2.2.1 i hi69).2.1
    rw [k]
    refine ⟨⟨fun w => absurd w (nI_pos (by omega)), fun w => absurd w h0⟩, fun x hx => ?_⟩
    rw [nI_eq (by omega) (by omega)]
    omega
theorem pc_indexIn {G : tc_G} {u : tc_S} {t b q : Nat} {g : mp} (hT : gT G t 64) (hg : mwf g) (h : mt u t g) (hb : b < mn g 0) (hq : q ≤ 999) : fn_X9_indexIn G t (nI b) (nI q) u = some (oI ((mlo1 g (nI (q + 1)) b).map (fx g)), u) := by
  have hfu := tc_fu_big
  have a := hg.1.1
  have hn := a.2.1.2
  have hs := a.2.2.1
  have hx2 : (b + 1) * mn g 1 ≤ mn g 0 * mn g 1 := Nat.mul_le_mul_right _ (by omega)
  rw [Nat.add_mul, Nat.one_mul] at hx2
  have h64 := nbns a
  have es : u.1 (t + 1) 1 = nI (mn g 1) := by rw [mt_set h (by omega)]; exact a.1 1 (by omega)
  have lo : ∀ (n p f : Nat), p + n = mn g 1 → n < f → lo_X9_indexIn_9 G f t (nI q) (nI (b * mn g 1)) (nI (b * mn g 1 + p)) u = some (oI (((ff (fun p => decide (g (mcell b p) = nI (q + 1))) n p).map (fun p => 4 * b + p)).map (fx g)), u) := by
    intro n
    induction n with
    | zero =>
      intro p f hp hf
      obtain ⟨f, rfl⟩ : ∃ k, f = k + 1 := ⟨f - 1, by omega⟩
      rw [lo_X9_indexIn_9, hT.1.1, es, nI_add, pu_le (by omega) (by omega), if_pos (by omega)]
      rfl
    | succ n ih =>
      intro p f hp hf
      obtain ⟨f, rfl⟩ : ∃ k, f = k + 1 := ⟨f - 1, by omega⟩
      rw [lo_X9_indexIn_9, hT.1.1, es, nI_add, pu_le (by omega) (by omega), if_neg (by omega), hT.2.1.1, pu_ld (hT.2.2.2 _ (by omega) (by omega)) (show b * mn g 1 + p < 64 + 5 by omega) (by omega)]
      have hv : vc g (4 * b + p) := ⟨by omega, fun _ => ⟨by omega, by omega⟩⟩
      have hp2 := (mt_place hg h hv).2 q hq
      rw [fx_b (by omega) (by omega)] at hp2
      have hc := hg.1.2.2.1 (4 * b + p) (by omega)
      have e : g (mcell b p) = nI (q + 1) ↔ ck g (4 * b + p) = q + 1 := by
        rw [mcell_ci, hc.1, nI_eq (by omega) (by omega)]
      unfold ff
      by_cases c : ck g (4 * b + p) = q + 1
      · rw [if_pos (hp2.mpr c), if_pos (by simpa using e.mpr c)]
        show some (nI (b * mn g 1 + p), u) = some (nI (fx g (4 * b + p)), u)
        rw [fx_b (by omega) (by omega)]
      · rw [if_neg (fun w => c (hp2.mp w)), if_neg (by simpa using fun w => c (e.mp w))]
        unfold tc_let
        rw [nI_1, show b * mn g 1 + p + 1 = b * mn g 1 + (p + 1) by omega]
        exact ih (p + 1) f (by omega) (by omega)
  unfold fn_X9_indexIn fn_X9_startOf
  rw [hT.1.1, es, pk_mul, pu_b]
  exact lo (mn g 1) 0 tc_fu (by omega) (by omega)
theorem mt_locate {G : tc_G} {u : tc_S} {t q : Nat} {g : mp} (hT : gT G t 64) (hg : mwf g) (h : mt u t g) (hq : q ≤ 999) : fn_X9_locate G t (nI q) u = some (oI ((mloc g q).map (fx g)), u) := by
  have hfu := tc_fu_big
  have a := hg.1.1
  have hst : mn g 18 ≤ 4 := Nat.le_trans hg.1.2.1.2 a.2.2.2.1
  have hS := wA_wS a
  have e18 : u.1 t 10 = nI (mn g 18) := by rw [h.1.2.2.2.2]; exact hg.1.2.1.1
  have e64 := (mt_room h).1
  have done : ∀ (i x : Nat) (f : Nat), i ≤ 68 → lo_X9_locate_37 G (f + 1) t (nI q) (nI i) (nI x) u = some (nI i, u) := by
    intro i x f hi
    rw [lo_X9_locate_37, if_pos (nI_pos' (by omega))]
    rfl
  have lo : ∀ (n j f : Nat), j + n = mn g 18 → n + 1 < f → lo_X9_locate_37 G f t (nI q) (-1) (nI (64 + j)) u = some (oI (((ff (fun j => decide (g (msc j) = nI (q + 1))) n j).map (fun j => 64 + j)).map (fx g)), u) := by
    intro n
    induction n with
    | zero =>
      intro j f hj hf
      obtain ⟨f, rfl⟩ : ∃ k, f = k + 1 := ⟨f - 1, by omega⟩
      rw [lo_X9_locate_37, if_neg (by decide), e64, e18, nI_add, pu_le (by omega) (by omega), if_pos (by omega)]
      rfl
    | succ n ih =>
      intro j f hj hf
      obtain ⟨f, rfl⟩ : ∃ k, f = k + 2 := ⟨f - 2, by omega⟩
      rw [lo_X9_locate_37, if_neg (by decide), e64, e18, nI_add, pu_le (by omega) (by omega), if_neg (by omega), hT.2.1.1, pu_ld (hT.2.2.2 _ (by omega) (by omega)) (show 64 + j < 64 + 5 by omega) (by omega)]
      have hv : vc g (64 + j) := ⟨by omega, fun w => absurd w (by omega)⟩
      have hp2 := (mt_place hg h hv).2 q hq
      have efx : fx g (64 + j) = 64 + j := by unfold fx; rw [if_neg (by omega)]
      rw [efx] at hp2
      have hc := hg.1.2.2.1 (64 + j) (by omega)
      have e : g (msc j) = nI (q + 1) ↔ ck g (64 + j) = q + 1 := by
        rw [msc_ci, hc.1, nI_eq (by omega) (by omega)]
      unfold ff bl_X9_locate_66 tc_let
      rw [nI_1, show 64 + j + 1 = 64 + (j + 1) by omega]
      by_cases c : ck g (64 + j) = q + 1
      · rw [if_pos (hp2.mpr c), if_pos (by simpa using e.mpr c)]
        show lo_X9_locate_37 G (f + 1) t (nI q) (nI (64 + j)) (nI (64 + (j + 1))) u = _
        rw [done (64 + j) _ _ (by omega)]
        show some (nI (64 + j), u) = some (nI (fx g (64 + j)), u)
        rw [efx]
      · rw [if_neg (fun w => c (hp2.mp w)), if_neg (by simpa using fun w => c (e.mp w))]
        exact ih (j + 1) (f + 1) (by omega) (by omega)
  have fin : bl_X9_locate_32 G t (nI q) (-1) u = some (oI ((mlo2 g (nI (q + 1))).map (fx g)), u) := by
    unfold bl_X9_locate_32 tc_let
    rw [e64]
    exact lo (mn g 18) 0 tc_fu (by omega) (by omega)
  have fin2 : ∀ i, i ≤ 68 → bl_X9_locate_32 G t (nI q) (nI i) u = some (nI i, u) := by
    intro i hi
    unfold bl_X9_locate_32 tc_let
    rw [e64]
    obtain ⟨f, hf⟩ : ∃ k, tc_fu = k + 1 := ⟨tc_fu - 1, by omega⟩
    rw [hf]
    exact done i 64 f hi
  have lx : ∀ b i, b < mn g 0 → mlo1 g (nI (q + 1)) b = some i → fx g i ≤ 68 := by
    intro b i hb hm
    obtain ⟨m1, m2, m3, m4⟩ := mlo1_sp a (by omega) hb hm
    exact (fx_lt a ⟨by omega, fun _ => ⟨by omega, m4⟩⟩).1
  unfold fn_X9_locate mloc
  rw [hT.1.1, pc_firstOf hS h.1.2.1 hq, pu_b, pc_indexIn hT hg h (wA_hash a 0 q) hq, pu_b]
  cases h1 : mlo1 g (nI (q + 1)) (mhash g 0 q) with
  | some i =>
    show (if 0 ≤ nI (fx g i) then bl_X9_locate_32 G t (nI q) (nI (fx g i)) u else _) = some (nI (fx g i), u)
    have := lx _ i (wA_hash a 0 q) h1
    rw [if_pos (nI_pos' (by omega)), fin2 _ this]
  | none =>
    show (if 0 ≤ (-1 : Int32) then _ else _) = _
    rw [if_neg (by decide), pc_secondOf hS h.1.2.1 hq, pu_b, pc_indexIn hT hg h (wA_hash a 1 q) hq, pu_b]
    cases h2 : mlo1 g (nI (q + 1)) (mhash g 1 q) with
    | some i =>
      show bl_X9_locate_32 G t (nI q) (nI (fx g i)) u = some (nI (fx g i), u)
      rw [fin2 _ (lx _ i (wA_hash a 1 q) h2)]
    | none => exact fin
