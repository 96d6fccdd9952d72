/-! what holds of what was read; the class reads -/
def xI (n : Nat) (x : pxs) : Prop := x.1 ≤ n ∧ 7 * x.2.2.1.length ≤ x.1 ∧ x.2.2.2.1 ≤ 4 ∧ (∀ h ∈ x.2.2.1, h.1 ≤ 9999) ∧ (x.2.2.2.1 = 0 → wA x.2.1 ∧ ∀ h ∈ x.2.2.1, h.1 ≤ 999)
def okc (c v : Nat) : Prop := v < 2 ^ 31 ∧ (c = 0 → 1 ≤ v ∧ v ≤ 16) ∧ (c = 1 → 1 ≤ v ∧ v ≤ 4) ∧ (c = 2 → v ≤ 4) ∧ (c = 3 → v ≤ 16) ∧ (c = 4 → v ≤ 4) ∧ (c = 5 → v ≤ 2) ∧ (c = 6 → v ≤ 3) ∧ (7 ≤ c → c < 11 → v ≤ 1008)
theorem mn_set {S : mp} {c v : Nat} (hv : v < 2 ^ 31) (k : Nat) : mn (upd S c (nI v)) k = if k = c then v else mn S k := by
  by_cases e : k = c
  · rw [if_pos e, e]; unfold mn; rw [upd_eq, nI_clamp hv]
  · rw [if_neg e, mn_upd e]
theorem wA_set {S : mp} {c v : Nat} (a : wA S) (h : okc c v) : wA (upd S c (nI v)) := by
  obtain ⟨a1, a2, a3, a4, a5, a6, a7, a8, a9⟩ := a
  obtain ⟨h0, h1, h2, h3, h4, h5, h6, h7, h8⟩ := h
  refine ⟨fun k hk => ?_, ?_, ?_, ?_, ?_, ?_, ?_, ?_, fun k k1 k2 => ?_⟩
  · rw [mn_set h0]
    by_cases e : k = c
    · rw [if_pos e, e, upd_eq]
    · rw [if_neg e, upd_ne e]; exact a1 k hk
  · rw [mn_set h0]; split
    · exact h1 (by omega)
    · exact a2
  · rw [mn_set h0]; split
    · exact h2 (by omega)
    · exact a3
  · rw [mn_set h0]; split
    · exact h3 (by omega)
    · exact a4
  · rw [mn_set h0]; split
    · exact h4 (by omega)
    · exact a5
  · rw [mn_set h0]; split
    · exact h5 (by omega)
    · exact a6
  · rw [mn_set h0]; split
    · exact h6 (by omega)
    · exact a7
  · rw [mn_set h0]; split
    · exact h7 (by omega)
    · exact a8
  · rw [mn_set h0]; split
    · exact h8 (by omega) (by omega)
    · exact a9 k k1 k2
theorem nrg_0 {lo hi v s : Nat} {W : Nat × Nat} (h : (nrg lo hi v s W).1 = 0) : W.1 = 0 ∧ lo ≤ v ∧ v ≤ hi := by
  unfold nrg nte at h
  by_cases c : v < lo ∨ hi < v
  · rw [if_pos c] at h
    by_cases d : W.1 = 0
    · rw [if_pos d] at h; exact absurd h (by show ¬ 2 = 0; omega)
    · rw [if_neg d] at h; exact absurd h d
  · rw [if_neg c] at h
    exact ⟨h, by omega, by omega⟩
theorem nhs_0 {v s : Nat} {H : List (Nat × Nat × Nat)} {W : Nat × Nat} (h : (nhs v s H W).1 = 0) : W.1 = 0 ∧ v ≤ 999 := by
  rw [← nhs_eq] at h
  have h2 : (nrg 0 999 v s W).1 = 0 := by
    unfold ndp nte at h
    split at h
    · split at h
      · exact absurd h (by show ¬ 3 = 0; omega)
      · exact h
    · exact h
  have := nrg_0 h2
  exact ⟨this.1, this.2.2⟩
/-- between two numbers there is a blank -/
theorem kE_gap {t : Nat → Nat} {n p : Nat} (hp : p ≤ n) (h : kK t n p = 2) (h2 : kK t n (kE t n p) = 2) : kE t n p + 1 ≤ kS t n (kE t n p) := by
  have k1 := kK2 h
  have k2 := kK2 h2
  have he := kE_le (t := t) hp
  have hs := kS_le (t := t) (n := n) (p := kE t n p) he.2
  rcases Nat.lt_or_ge (kE t n p) (kS t n (kE t n p)) with q | q
  · omega
  · exfalso
    have e : kS t n (kE t n p) = kE t n p := by omega
    have k3 := k2.2.1
    rw [e, k1.2.2] at k3
    refine xs_out (Q := xD) (t := t) (m := n - kS t n p) (p := kS t n p) ?_ k3
    have := k2.1
    rw [e] at this
    rw [← k1.2.2]
    omega
theorem bdy_I {t : Nat → Nat} {n i : Nat} {x z : pxs} (hi : i < 11) (h1 : x.1 ≤ n) (h2 : 7 * x.2.2.1.length + (if i = 10 then 3 else 0) ≤ x.1) (h3 : x.2.2.2.1 ≤ 4) (h4 : ∀ h ∈ x.2.2.1, h.1 ≤ 9999) (h5 : x.2.2.2.1 = 0 → wA x.2.1 ∧ ∀ h ∈ x.2.2.1, h.1 ≤ 999) (hb : bdy t n i x = .inr z) : x.1 ≤ z.1 ∧ z.1 ≤ n ∧ 7 * z.2.2.1.length ≤ z.1 + 1 ∧ z.2.2.2.1 ≤ 4 ∧ (∀ h ∈ z.2.2.1, h.1 ≤ 9999) ∧ (z.2.2.2.1 = 0 → wA z.2.1 ∧ ∀ h ∈ z.2.2.1, h.1 ≤ 999) := by
  have s1 := kS_le (t := t) h1
  have e1 := kE_le (t := t) h1
  have s2 := kS_le (t := t) e1.2
  have e2 := kE_le (t := t) e1.2
  unfold bdy at hb
  by_cases c5 : i ≤ 5
  · rw [if_pos c5] at hb
    unfold bSet at hb
    by_cases c : kK t n x.1 = 2
    · rw [if_pos c] at hb
      have hb := Sum.inr.inj hb
      subst hb
      rw [if_neg (by omega)] at h2
      refine ⟨by show x.1 ≤ kE t n x.1; omega, e1.2, by show 7 * x.2.2.1.length ≤ kE t n x.1 + 1; omega, nrg_le h3, h4, fun q => ?_⟩
      obtain ⟨q1, q2, q3⟩ := nrg_0 q
      obtain ⟨w1, w2⟩ := h5 q1
      refine ⟨wA_set w1 ?_, w2⟩
      have hv := kV_le c
      have hi6 : i = 0 ∨ i = 1 ∨ i = 2 ∨ i = 3 ∨ i = 4 ∨ i = 5 := by omega
      unfold okc
      rcases hi6 with e | e | e | e | e | e <;> subst e
      · have r1 : 1 ≤ kV t n x.1 := q2
        have r2 : kV t n x.1 ≤ 16 := q3
        rw [if_neg (by omega)]; omega
      · have r1 : 1 ≤ kV t n x.1 := q2
        have r2 : kV t n x.1 ≤ 4 := q3
        rw [if_neg (by omega)]; omega
      · have r2 : kV t n x.1 ≤ 4 := q3
        rw [if_neg (by omega)]; omega
      · have r2 : kV t n x.1 ≤ 16 := q3
        rw [if_neg (by omega)]; omega
      · have r2 : kV t n x.1 ≤ 4 := q3
        rw [if_neg (by omega)]; omega
      · rw [if_pos rfl]; omega
    · rw [if_neg c] at hb; cases hb
  · rw [if_neg c5] at hb
    by_cases c7 : i ≤ 7
    · rw [if_pos c7] at hb
      unfold bCho at hb
      by_cases c : kK t n x.1 = 1
      · rw [if_pos c] at hb
        cases hx : wix (wds (i - 5)) 0 (kW t n x.1) with
        | none => rw [hx] at hb; cases hb
        | some j =>
          rw [hx] at hb
          have hb := Sum.inr.inj hb
          subst hb
          rw [if_neg (by omega)] at h2
          refine ⟨by show x.1 ≤ kE t n x.1; omega, e1.2, by show 7 * x.2.2.1.length ≤ kE t n x.1 + 1; omega, h3, h4, fun q => ?_⟩
          obtain ⟨w1, w2⟩ := h5 q
          refine ⟨wA_set w1 ?_, w2⟩
          have z := wix_lt hx
          have hi2 : i = 6 ∨ i = 7 := by omega
          unfold okc
          rcases hi2 with e | e <;> subst e
          · have : (wds (6 - 5)).length = 3 := by decide
            omega
          · have : (wds (7 - 5)).length = 4 := by decide
            omega
      · rw [if_neg c] at hb; cases hb
    · rw [if_neg c7] at hb
      by_cases c9 : i ≤ 9
      · rw [if_pos c9] at hb
        unfold bHsh at hb
        by_cases c : kK t n x.1 = 2
        · rw [if_pos c] at hb
          by_cases d : kK t n (kE t n x.1) = 2
          · rw [if_pos d] at hb
            have hb := Sum.inr.inj hb
            subst hb
            rw [if_neg (by omega)] at h2
            refine ⟨by show x.1 ≤ kE t n (kE t n x.1); omega, e2.2, by show 7 * x.2.2.1.length ≤ kE t n (kE t n x.1) + 1; omega, nrg_le (nrg_le h3), h4, fun q => ?_⟩
            obtain ⟨q1, q2, q3⟩ := nrg_0 q
            obtain ⟨r1, r2, r3⟩ := nrg_0 q1
            obtain ⟨w1, w2⟩ := h5 r1
            have hi2 : i = 8 ∨ i = 9 := by omega
            refine ⟨wA_set (wA_set w1 ?_) ?_, w2⟩
            · unfold okc
              rcases hi2 with e | e <;> subst e
              · rw [if_pos rfl]; omega
              · rw [if_neg (by omega)]; omega
            · unfold okc
              rcases hi2 with e | e <;> subst e
              · rw [if_pos rfl]; omega
              · rw [if_neg (by omega)]; omega
          · rw [if_neg d] at hb; cases hb
        · rw [if_neg c] at hb; cases hb
      · rw [if_neg c9] at hb
        unfold bHas at hb
        by_cases c : kK t n x.1 = 2
        · rw [if_pos c] at hb
          by_cases d : kK t n (kE t n x.1) = 2
          · rw [if_pos d] at hb
            have hb := Sum.inr.inj hb
            subst hb
            rw [if_pos (by omega)] at h2
            have g1 := kE_lt (t := t) h1 (by omega) (by omega)
            have g2 := kE_gap h1 c d
            have g3 := kE_lt (t := t) e1.2 (by omega) (by omega)
            have hl : (x.2.2.1 ++ [(kV t n x.1, kV t n (kE t n x.1), kS t n x.1)]).length = x.2.2.1.length + 1 := by rw [List.length_append]; rfl
            refine ⟨by show x.1 ≤ kE t n (kE t n x.1); omega, e2.2, by show 7 * (x.2.2.1 ++ [(kV t n x.1, kV t n (kE t n x.1), kS t n x.1)]).length ≤ kE t n (kE t n x.1) + 1; omega, nrg_le (nhs_le h3), fun h hh => ?_, fun q => ?_⟩
            · rcases List.mem_append.mp hh with w | w
              · exact h4 h w
              · rw [List.mem_singleton] at w
                rw [w]
                exact kV_le c
            · obtain ⟨q1, q2, q3⟩ := nrg_0 q
              obtain ⟨r1, r2⟩ := nhs_0 q1
              obtain ⟨w1, w2⟩ := h5 r1
              refine ⟨w1, fun h hh => ?_⟩
              rcases List.mem_append.mp hh with w | w
              · exact w2 h w
              · rw [List.mem_singleton] at w
                rw [w]
                exact r2
          · rw [if_neg d] at hb; cases hb
        · rw [if_neg c] at hb; cases hb
theorem kW_10 {b : List Nat} (h : wix (wds 0) 0 b = some 10) : b.length = 3 := by
  have : b = [104, 97, 115] := by
    have e : wds 0 = [[98, 117, 99, 107, 101, 116, 115], [115, 108, 111, 116, 115], [115, 116, 97, 115, 104], [100, 101, 112, 116, 104], [116, 114, 105, 101, 115], [115, 101, 101, 100], [107, 105, 99, 107], [102, 117, 108, 108], [111, 110, 101], [116, 119, 111], [104, 97, 115]] := rfl
    rw [e] at h
    by_cases c : b = [104, 97, 115]
    · exact c
    · exfalso
      simp only [wix, if_neg c] at h
      repeat' split at h
      all_goals first | (have := Option.some.inj h; omega) | cases h
  rw [this]
  rfl
/-- the line's word: where it leads -/
theorem ln_pre {t : Nat → Nat} {n i : Nat} {x : pxs} (h : xI n x) (hk : kK t n x.1 = 1) (hx : wix (wds 0) 0 (kW t n x.1) = some i) : i < 11 ∧ kE t n x.1 ≤ n ∧ x.1 + 1 ≤ kE t n x.1 ∧ 7 * x.2.2.1.length + (if i = 10 then 3 else 0) ≤ kE t n x.1 := by
  have z := wix_lt hx
  have l11 : (wds 0).length = 11 := by decide
  have s1 := kS_le (t := t) h.1
  have e1 := kE_le (t := t) h.1
  have g1 := kE_lt (t := t) h.1 (by omega) (by omega)
  have h2 := h.2.1
  refine ⟨by omega, e1.2, by omega, ?_⟩
  by_cases c : i = 10
  · rw [if_pos c]
    rw [c] at hx
    have := kW_10 hx
    rw [kW_len] at this
    omega
  · rw [if_neg c]; omega
theorem ln1_I {t : Nat → Nat} {n : Nat} {x y : pxs} (h : xI n x) (hy : ln1 t n x = .inr y) : xI n y ∧ x.1 < y.1 := by
  unfold ln1 at hy
  by_cases c : kK t n x.1 = 1
  · rw [if_pos c] at hy
    cases hx : wix (wds 0) 0 (kW t n x.1) with
    | none => rw [hx] at hy; cases hy
    | some i =>
      rw [hx] at hy
      have hy : bEnd t n (bdy t n i (kE t n x.1, x.2)) = .inr y := hy
      obtain ⟨p1, p2, p3, p4⟩ := ln_pre h c hx
      cases hb : bdy t n i (kE t n x.1, x.2) with
      | inl s => rw [hb] at hy; cases hy
      | inr z =>
        rw [hb] at hy
        have hy : (if kK t n z.1 = 3 then (.inr (kE t n z.1, z.2) : Sum Nat pxs) else .inl (kS t n z.1)) = .inr y := hy
        obtain ⟨b1, b2, b3, b4, b5, b6⟩ := bdy_I (x := (kE t n x.1, x.2)) p1 p2 p4 h.2.2.1 h.2.2.2.1 h.2.2.2.2 hb
        by_cases d : kK t n z.1 = 3
        · rw [if_pos d] at hy
          have hy := Sum.inr.inj hy
          subst hy
          have g := kE_lt (t := t) b2 (by omega) (by omega)
          have s := kS_le (t := t) b2
          have e := kE_le (t := t) b2
          have b1 : kE t n x.1 ≤ z.1 := b1
          refine ⟨⟨e.2, ?_, b4, b5, b6⟩, ?_⟩
          · show 7 * z.2.2.1.length ≤ kE t n z.1; omega
          · show x.1 < kE t n z.1; omega
        · rw [if_neg d] at hy; cases hy
  · rw [if_neg c] at hy; cases hy
theorem mt_readLine {G : tc_G} (hW : gW G) {t : Nat → Nat} {n : Nat} {u : tc_S} {x : pxs} (h : cS u t n x) (hI : xI n x) (hn : n ≤ 400) : y2 (fn_X6_readLine G 65 u) (fun r w => r = oBx (ln1 t n x) ∧ cO w t n (ln1 t n x) ∧ fr fRd u w) := by
  have hkl := kK_le t n x.1
  have stop : y2 (tc_b (fn_X6_stop G 65 u) fun x32 u33 => tc_zo x32 <| some (x32, u33)) (fun r w => r = 0 ∧ cF w (kS t n x.1) ∧ fr fRd u w) := by
    refine yl_b (mt_stop h.2.1.1) fun r w hw => ?_
    rw [hw.1]
    exact yl_z0 (yl_ok ⟨rfl, hw.2⟩)
  unfold fn_X6_readLine ln1
  rw [h.2.1.2.1, show (1 : Int32) = nI 1 from rfl, pu_eq (by omega) (by omega)]
  unfold bl_X6_readLine_18
  by_cases c : kK t n x.1 = 1
  · rw [if_pos c, if_pos c]
    refine yl_e (mt_wordOf hW (by omega) hI.1 h.1 h.2.1 c) ?_
    cases hx : wix (wds 0) 0 (kW t n x.1) with
    | none => exact yl_n (show ¬ (0 : Int32) ≤ -1 by decide) stop
    | some i =>
      obtain ⟨p1, p2, p3, p4⟩ := ln_pre hI c hx
      refine yl_p (show 0 ≤ nI i from nI_pos' (by omega)) ?_
      refine yl_b (mt_stepS hW p2 (h.2.1.2.2.1 (by omega)) h.1 h.2.2) fun _ v hv => ?_
      obtain ⟨v1, -, v3⟩ := hv
      show y2 _ (fun r w => r = oBx (bEnd t n (bdy t n i (kE t n x.1, x.2))) ∧ cO w t n (bEnd t n (bdy t n i (kE t n x.1, x.2))) ∧ fr fRd u w)
      have bI : ∀ z, bdy t n i (kE t n x.1, x.2) = .inr z → z.1 ≤ n := fun z hz => (bdy_I (x := (kE t n x.1, x.2)) p1 p2 p4 hI.2.2.1 hI.2.2.2.1 hI.2.2.2.2 hz).2.1
      have fin : ∀ {o : Option (Int32 × tc_S)}, y2 o (fun r w => r = oBx (bdy t n i (kE t n x.1, x.2)) ∧ cO w t n (bdy t n i (kE t n x.1, x.2)) ∧ fr fRd v w) → y2 (tc_b o fun x20 u21 => bl_X6_readLine_81 G 65 x20 u21) (fun r w => r = oBx (bEnd t n (bdy t n i (kE t n x.1, x.2))) ∧ cO w t n (bEnd t n (bdy t n i (kE t n x.1, x.2))) ∧ fr fRd u w) := by
        intro o ho
        refine yl_b ho fun r w hw => ?_
        rw [hw.1]
        exact mt_81 hW hw.2.1 bI (fr_trans v3 hw.2.2)
      rw [show oI (some i) = nI i from rfl, show (5 : Int32) = nI 5 from rfl, show (7 : Int32) = nI 7 from rfl, show (9 : Int32) = nI 9 from rfl, pu_lt (by omega) (by omega), pu_lt (by omega) (by omega), pu_lt (by omega) (by omega)]
      unfold bdy at fin ⊢
      by_cases c5 : i ≤ 5
      · rw [if_neg (show ¬ 5 < i by omega)]
        rw [if_pos c5] at fin ⊢
        exact fin (mt_setting hW v1 p2 hI.2.2.1 c5)
      · rw [if_pos (show 5 < i by omega)]
        rw [if_neg c5] at fin ⊢
        by_cases c7 : i ≤ 7
        · rw [if_neg (show ¬ 7 < i by omega)]
          rw [if_pos c7] at fin ⊢
          exact fin (mt_choice hW v1 p2 (by omega))
        · rw [if_pos (show 7 < i by omega)]
          rw [if_neg c7] at fin ⊢
          by_cases c9 : i ≤ 9
          · rw [if_neg (show ¬ 9 < i by omega)]
            rw [if_pos c9] at fin ⊢
            exact fin (mt_readHash hW v1 p2 hI.2.2.1 (by omega))
          · rw [if_pos (show 9 < i by omega)]
            rw [if_neg c9] at fin ⊢
            have i10 : i = 10 := by omega
            rw [if_pos i10] at p4
            exact fin (mt_readHas hW v1 p2 hI.2.2.1 (by show x.2.2.1.length < 57; omega) hI.2.2.2.1)
  · rw [if_neg c, if_neg c]
    exact yl_n (show ¬ (0 : Int32) ≤ -1 by decide) stop
/-- all lines -/
def pl2 (f : pxs → Sum Nat pxs) : Sum Nat pxs → Sum Nat pxs
  | .inl s => .inl s
  | .inr y => f y
def plo (t : Nat → Nat) (n : Nat) : Nat → pxs → Sum Nat pxs
  | 0, x => .inr x
  | m + 1, x => if kK t n x.1 = 0 then .inr x else pl2 (plo t n m) (ln1 t n x)
theorem plo_I {t : Nat → Nat} {n : Nat} : ∀ {m : Nat} {x y : pxs}, xI n x → plo t n m x = .inr y → xI n y := by
  intro m
  induction m with
  | zero => intro x y h hy; rw [plo] at hy; rw [← Sum.inr.inj hy]; exact h
  | succ m ih =>
    intro x y h hy
    rw [plo] at hy
    by_cases c : kK t n x.1 = 0
    · rw [if_pos c] at hy; rw [← Sum.inr.inj hy]; exact h
    · rw [if_neg c] at hy
      cases hl : ln1 t n x with
      | inl s => rw [hl] at hy; cases hy
      | inr z =>
        rw [hl] at hy
        exact ih (ln1_I h hl).1 hy
def rdB : Sum Nat pxs → Int32
  | .inl _ => 0
  | .inr x => if x.2.2.2.1 = 0 then 1 else 0
theorem mt_78 {G : tc_G} {t : Nat → Nat} {n : Nat} {u u0 : tc_S} {o : Sum Nat pxs} (h : cO u t n o) (h4 : ∀ x, o = .inr x → x.2.2.2.1 ≤ 4) (hr : fr fRd u0 u) : y2 (bl_X6_read_78 G 65 u) (fun r w => r = rdB o ∧ cO w t n o ∧ fr fRd u0 w) := by
  unfold bl_X6_read_78 bl_X6_read_90
  cases o with
  | inl s =>
    rw [if_neg (by rw [h.1]; decide)]
    exact yl_z0 (yl_ok ⟨rfl, h, hr⟩)
  | inr x =>
    have h : cS u t n x := h
    have h4 := h4 x rfl
    rw [h.2.2.2.2.1, show (0 : Int32) = nI 0 from rfl, pu_eq (by omega) (by omega)]
    show y2 _ (fun r w => r = (if x.2.2.2.1 = 0 then 1 else 0) ∧ cO w t n (.inr x) ∧ fr fRd u0 w)
    by_cases c : x.2.2.2.1 = 0
    · rw [if_pos c, if_pos c]; exact yl_z1 (yl_ok ⟨rfl, h, hr⟩)
    · rw [if_neg c, if_neg c]; exact yl_z0 (yl_ok ⟨rfl, h, hr⟩)
theorem mt_read48 {G : tc_G} (hW : gW G) {t : Nat → Nat} {n : Nat} {u0 : tc_S} (hn : n ≤ 400) : ∀ (m l f : Nat) (x : pxs) (u : tc_S), xI n x → n < x.1 + m → l ≤ x.1 → m < f → cS u t n x → fr fRd u0 u → y2 (lo_X6_read_48 G f 65 1 (nI l) u) (fun r w => r = rdB (plo t n m x) ∧ cO w t n (plo t n m x) ∧ fr fRd u0 w) := by
  intro m
  induction m with
  | zero => intro l f x u hI hm; have := hI.1; omega
  | succ m ih =>
    intro l f x u hI hm hl hf h hr
    obtain ⟨f, rfl⟩ : ∃ k, f = k + 1 := ⟨f - 1, by omega⟩
    have hx := hI.1
    have hkl := kK_le t n x.1
    rw [lo_X6_read_48, h.1.2.2.1, pu_lt (by omega) (by omega), if_neg (by omega), if_neg i_n1, h.2.1.2.1, show (0 : Int32) = nI 0 from rfl, pu_eq (by omega) (by omega), plo]
    by_cases c : kK t n x.1 = 0
    · rw [if_pos c, if_pos c]
      exact mt_78 (o := .inr x) h (fun y hy => by rw [← Sum.inr.inj hy]; exact hI.2.2.1) hr
    · rw [if_neg c, if_neg c]
      refine yl_b (mt_readLine hW h hI hn) fun r w hw => yl_let ?_
      rw [nI_1]
      cases hl1 : ln1 t n x with
      | inl s =>
        rw [hl1] at hw
        rw [show r = 0 from hw.1]
        obtain ⟨f, rfl⟩ : ∃ k, f = k + 1 := ⟨f - 1, by omega⟩
        have z := mt_78 (G := G) (t := t) (n := n) (o := .inl s) hw.2.1 (fun y hy => by cases hy) (fr_trans hr hw.2.2)
        rw [lo_X6_read_48]
        exact yl_if (fun _ => z) (fun _ => yl_p rfl z)
      | inr y =>
        rw [hl1] at hw
        rw [show r = 1 from hw.1]
        have yI := ln1_I hI hl1
        exact ih (l + 1) f y w yI.1 (by omega) (by omega) (by omega) hw.2.1 (fr_trans hr hw.2.2)
/-- the settings at first -/
def mS0 : mp := fun k => [4, 2, 2, 6, 2, 2, 0, 3, 1, 5, 2, 0].getD k 0
def xS0 : pxs := (0, mS0, [], 0, 0)
theorem wA_S0 : wA mS0 := by
  refine ⟨by decide, by decide, by decide, by decide, by decide, by decide, by decide, by decide, fun k k1 k2 => (show ∀ k, k < 11 → mn mS0 k ≤ 1008 by decide) k k2⟩
theorem xI_0 {n : Nat} : xI n xS0 := ⟨Nat.zero_le _, Nat.le_refl _, Nat.zero_le _, fun h q => (by cases q), fun _ => ⟨wA_S0, fun h q => (by cases q)⟩⟩
theorem mt_read {G : tc_G} (hW : gW G) {t : Nat → Nat} {n : Nat} {u : tc_S} (hn : n ≤ 400) (ht : ∀ k, t k < 256) (h12 : ∀ k, k < 400 → u.1 12 k = sb (t k)) : y2 (fn_X6_read G 65 (nI n) u) (fun r w => r = rdB (plo t n (n + 1) xS0) ∧ cO w t n (plo t n (n + 1) xS0) ∧ fr fRd u w) := by
  have hfu := tc_fu_big
  have ln : tc_ln G 12 = nI 400 := by unfold tc_ln; rw [hW.2.2.2.2.2]; rfl
  unfold fn_X6_read
  rw [hW.1, ln, pu_lt (by omega) (by omega), if_neg (by omega), hW.2.1]
  refine yl_let (yl_let (yl_let (yl_let ?_)))
  unfold fn_X8_begin fn_X8_takeHashes
  rw [hW.2.2.1]
  refine yl_b (P := fun _ w => w.1 65 8 = nI n ∧ cG w mS0 [] (0, 0) ∧ fr fRd u w) ?_ fun _ w hw => ?_
  · refine yl_let (yl_let (yl_let (yl_let (yl_let (yl_let (yl_let ?_))))))
    refine yl_b (P := fun _ w => w.1 65 8 = nI n ∧ ((∀ k, k < 11 → w.1 66 k = mS0 k) ∧ w.1 65 0 = 0 ∧ w.1 65 1 = -1 ∧ w.1 65 6 = 0) ∧ fr fRd u w) ?_ fun _ v hv => ?_
    · refine yl_let (yl_let (yl_let (yl_let (yl_ok ⟨rfl, ⟨fun k hk => ?_, rfl, rfl, rfl⟩, ?_⟩))))
      · have k11 : k = 0 ∨ k = 1 ∨ k = 2 ∨ k = 3 ∨ k = 4 ∨ k = 5 ∨ k = 6 ∨ k = 7 ∨ k = 8 ∨ k = 9 ∨ k = 10 := by omega
        rcases k11 with e | e | e | e | e | e | e | e | e | e | e <;> subst e <;> rfl
      · repeat (refine fr_w ?_ (by unfold fRd; omega))
        exact fr_refl
    · obtain ⟨v1, ⟨v2, v3, v4, v5⟩, v6⟩ := hv
      refine yl_let (yl_ok ⟨?_, ⟨⟨fun k hk => ?_, ?_⟩, ⟨?_, fun j hj => absurd hj (Nat.not_lt_zero _)⟩, ?_, ?_⟩, fr_w v6 ⟨by omega, by omega⟩⟩)
      · rw [w_get, if_neg (by omega)]; exact v1
      · rw [w_get, if_neg (by omega)]; exact v2 k hk
      · rw [w_get, if_pos ⟨rfl, rfl⟩]; rfl
      · rw [w_get, if_neg (by omega)]; exact v5
      · rw [w_get, if_neg (by omega)]; exact v3
      · rw [w_get, if_neg (by omega)]; exact v4
  · obtain ⟨w1, w2, w3⟩ := hw
    refine yl_let ?_
    have f1 : fr (fun o k => o = 65 ∧ k = 9) w (tc_w w 65 9 0) := fr_w fr_refl ⟨rfl, rfl⟩
    have B : cB (tc_w w 65 9 0) t n := ⟨hn, ht, by rw [f1 _ _ (by omega)]; exact w1, fun k hk => by rw [f1 _ _ (by omega), w3 _ _ (by unfold fRd; omega)]; exact h12 k hk⟩
    have Gg := cG_fr w2 f1 (fun k => by omega) (fun k => by omega) (fun o k q1 q2 => by omega) (by omega)
    refine yl_b (mt_stepS hW (p := 0) (Nat.zero_le _) (by rw [w_get, if_pos ⟨rfl, rfl⟩]; rfl) B Gg) fun _ v hv => ?_
    exact mt_read48 hW (u0 := u) hn (n + 1) 0 tc_fu xS0 v xI_0 (by show n < 0 + (n + 1); omega) (Nat.zero_le _) (by omega) hv.1 (fr_trans (fr_trans w3 (fr_mono f1 fun o k q => by unfold fRd; omega)) hv.2.2)
