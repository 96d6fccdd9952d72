/-! the class's search: outer loop, start -/
theorem pc_seek25 {G : tc_G} (hK : gK G) {u0 : tc_S} {t r : Nat} {g : mp} {c : Nat → en} (hT : gT G t r) (hr : r ≤ 200) (hS : wS g) (hns : mn g 0 * mn g 1 ≤ r) (htt : t + 10 ≤ 24 ∨ 30 ≤ t) (htb : tb u0 t r g c) : ∀ (n h f : Nat) (Q : List Nat) (pr : Nat → ch) (u : tc_S), h + n = mn g 0 + 1 → n < f → bqs u (mn g 0) (mn g 1) Q pr → bQ (mn g 0) Q → fr fK u0 u → yl (lo_X1_seek_25 G f 24 t (nI (mn g 1)) (nI h) u) (bP u0 (mn g 1) (bout (mn g 1) (cE c g) (cop c g) n h Q pr)) := by
  have hfu := tc_fu_big
  have hnb := hS.2.1.2
  have h9 := hS.2.2.1.2
  intro n
  induction n with
  | zero =>
    intro h f Q pr u hh hf hq hQ hfr
    obtain ⟨f, rfl⟩ : ∃ k, f = k + 1 := ⟨f - 1, by omega⟩
    have hQl := bQ_len hQ
    rw [lo_X1_seek_25, hq.1, pu_le (by omega) (by omega), if_pos (by omega), bout]
    unfold bl_X1_seek_206
    exact yl_z0 (yl_ok ⟨rfl, hfr⟩)
  | succ n ih =>
    intro h f Q pr u hh hf hq hQ hfr
    obtain ⟨f, rfl⟩ : ∃ k, f = k + 1 := ⟨f - 1, by omega⟩
    have hQl := bQ_len hQ
    rw [lo_X1_seek_25, hq.1, pu_le (by omega) (by omega), bout]
    by_cases hl : Q.length ≤ h
    · rw [if_pos hl, List.getElem?_eq_none hl]
      unfold bl_X1_seek_206
      exact yl_z0 (yl_ok ⟨rfl, hfr⟩)
    · have hlt : h < Q.length := by omega
      have hb : Q[h]? = some Q[h] := List.getElem?_eq_getElem hlt
      rw [if_neg hl, hb, show (32 : Int32) = nI 32 from rfl, pu_le (by omega) (by omega), if_neg (by omega), hK.2.1.1]
      refine yl_ld 32 hK.2.1.2 (by omega) (by omega) ?_
      rw [(hq.2.2.1 h _ hb).1]
      refine yl_let ?_
      rw [pk_mul]
      have z := pc_seek61 hK (h := h) (b := Q[h]) hT hr hS hns htt htb (lo_X1_seek_25 G f) (bout (mn g 1) (cE c g) (cop c g) n (h + 1)) (fun Q2 pr2 u2 a1 a2 a3 => ih (h + 1) f Q2 pr2 u2 (by omega) (by omega) a1 a2 a3) (mn g 1) 0 tc_fu Q pr u (by omega) (by omega) hq hQ hb hfr
      exact z
theorem pc_begin3 {G : tc_G} (hK : gK G) {nb f s : Nat} {Q : Int32 × tc_S → Prop} (hnb : nb ≤ 32) : ∀ (n i fu : Nat) (u : tc_S), i + n = nb → n < fu → (∀ b, b < i → u.1 29 b = 0) → (∀ w, (∀ b, b < nb → w.1 29 b = 0) → fr (fun o _ => o = 29) u w → yl (bl_X1_begin_30 G 24 (nI f) (nI s) w) Q) → yl (lo_X1_begin_3 G fu 24 (nI nb) (nI f) (nI s) (nI i) u) Q := by
  intro n
  induction n with
  | zero =>
    intro i fu u hi hf h0 hQ
    obtain ⟨fu, rfl⟩ : ∃ k, fu = k + 1 := ⟨fu - 1, by omega⟩
    rw [lo_X1_begin_3, pu_le (by omega) (by omega), if_pos (by omega)]
    exact hQ u (fun b hb => h0 b (by omega)) fr_refl
  | succ n ih =>
    intro i fu u hi hf h0 hQ
    obtain ⟨fu, rfl⟩ : ∃ k, fu = k + 1 := ⟨fu - 1, by omega⟩
    rw [lo_X1_begin_3, pu_le (by omega) (by omega), if_neg (by omega), show (32 : Int32) = nI 32 from rfl, pu_le (by omega) (by omega), if_neg (by omega), hK.2.2.2.2.1]
    refine yl_z0 (yl_sd 32 hK.2.2.2.2.2 (by omega) (by omega) (yl_let ?_))
    rw [nI_1]
    refine ih (i + 1) fu _ (by omega) (by omega) (fun b hb => ?_) (fun w a1 a2 => hQ w a1 (fr_trans (fr_w fr_refl rfl) a2))
    rw [w_get]
    by_cases e : b = i
    · rw [if_pos ⟨rfl, e⟩]
    · rw [if_neg (by omega)]; exact h0 b (by omega)
theorem pc_begin {G : tc_G} (hK : gK G) {u : tc_S} {nb ns f s : Nat} (hnb : nb ≤ 32) (hf : f < nb) (hs : s < nb) : y2 (fn_X1_begin G 24 (nI nb) (nI f) (nI s) u) (fun _ w => bqs w nb ns (bq0 f s) (fun _ => []) ∧ fr fK u w) := by
  have hfu := tc_fu_big
  unfold fn_X1_begin
  refine pc_begin3 hK hnb nb 0 tc_fu u (by omega) (by omega) (fun b hb => absurd hb (Nat.not_lt_zero b)) fun w hw hfr => ?_
  unfold bl_X1_begin_30 bl_X1_begin_97
  refine yl_let (yl_let ?_)
  rw [hK.2.1.1, hK.2.2.2.2.1, hK.2.2.2.1.1]
  refine yl_sd (j := 0) 32 hK.2.1.2 (by omega) (by omega) (yl_let (yl_z1 ?_))
  refine yl_sd 32 hK.2.2.2.2.2 (by omega) (by omega) ?_
  refine yl_sd 32 hK.2.2.2.1.2 (by omega) (by omega) ?_
  have g1 : ∀ o k, (tc_w (tc_w (tc_w (tc_w (tc_w (tc_w w 24 1 0) 24 2 (-1)) 26 0 (nI f)) 24 7 1) 29 f 1) 28 f (-1)).1 o k = if o = 28 ∧ k = f then -1 else if o = 29 ∧ k = f then 1 else if o = 24 ∧ k = 7 then 1 else if o = 26 ∧ k = 0 then nI f else if o = 24 ∧ k = 2 then -1 else if o = 24 ∧ k = 1 then 0 else w.1 o k := fun o k => by simp only [w_get]
  have f0 : fr fK u w := fr_mono hfr fun o k q => ⟨by omega, by omega⟩
  have f1 : fr fK u (tc_w (tc_w (tc_w (tc_w (tc_w (tc_w w 24 1 0) 24 2 (-1)) 26 0 (nI f)) 24 7 1) 29 f 1) 28 f (-1)) := fr_w (fr_w (fr_w (fr_w (fr_w (fr_w f0 ⟨by omega, by omega⟩) ⟨by omega, by omega⟩) ⟨by omega, by omega⟩) ⟨by omega, by omega⟩) ⟨by omega, by omega⟩) ⟨by omega, by omega⟩
  generalize tc_w (tc_w (tc_w (tc_w (tc_w (tc_w w 24 1 0) 24 2 (-1)) 26 0 (nI f)) 24 7 1) 29 f 1) 28 f (-1) = x at g1 f1 ⊢
  rw [pu_eq (by omega) (by omega)]
  by_cases e : s = f
  · rw [if_pos e]
    have eq : bq0 f s = [f] := by unfold bq0; rw [if_pos e]
    rw [eq]
    refine yl_ok ⟨⟨?_, ?_, fun k y hy => ?_, fun b hb => ?_, fun y hy => ?_⟩, f1⟩
    · show x.1 24 7 = nI 1
      rw [g1, if_neg (by omega), if_neg (by omega), if_pos ⟨rfl, rfl⟩]
      rfl
    · show x.1 24 1 = 0
      rw [g1, if_neg (by omega), if_neg (by omega), if_neg (by omega), if_neg (by omega), if_neg (by omega), if_pos ⟨rfl, rfl⟩]
    · cases k with
      | zero =>
        have : f = y := Option.some.inj hy
        refine ⟨?_, Nat.le_refl _⟩
        show x.1 26 0 = nI y
        rw [g1, if_neg (by omega), if_neg (by omega), if_neg (by omega), if_pos ⟨rfl, rfl⟩, this]
      | succ k => cases hy
    · show x.1 29 b = _
      rw [g1, if_neg (by omega)]
      by_cases q : b = f
      · rw [if_pos ⟨rfl, q⟩, if_pos (by rw [q]; simp)]
      · rw [if_neg (by omega), if_neg (by omega), if_neg (by omega), if_neg (by omega), if_neg (by omega), if_neg (by simp [q])]
        exact hw b hb
    · have : y = f := by simpa using hy
      refine ⟨hy, ?_⟩
      show x.1 28 y = -1
      rw [g1, if_pos ⟨rfl, this⟩]
  · rw [if_neg e]
    refine yl_sd (j := 1) 32 hK.2.1.2 (by omega) (by omega) (yl_let (yl_z1 ?_))
    refine yl_sd 32 hK.2.2.2.2.2 (by omega) (by omega) ?_
    refine yl_sd 32 hK.2.2.2.1.2 (by omega) (by omega) ?_
    have g2 : ∀ o k, (tc_w (tc_w (tc_w (tc_w x 26 1 (nI s)) 24 7 2) 29 s 1) 28 s (-1)).1 o k = if o = 28 ∧ k = s then -1 else if o = 29 ∧ k = s then 1 else if o = 24 ∧ k = 7 then 2 else if o = 26 ∧ k = 1 then nI s else x.1 o k := fun o k => by simp only [w_get]
    have f2 : fr fK u (tc_w (tc_w (tc_w (tc_w x 26 1 (nI s)) 24 7 2) 29 s 1) 28 s (-1)) := fr_w (fr_w (fr_w (fr_w f1 ⟨by omega, by omega⟩) ⟨by omega, by omega⟩) ⟨by omega, by omega⟩) ⟨by omega, by omega⟩
    generalize tc_w (tc_w (tc_w (tc_w x 26 1 (nI s)) 24 7 2) 29 s 1) 28 s (-1) = z at g2 f2 ⊢
    have eq : bq0 f s = [f, s] := by unfold bq0; rw [if_neg e]
    rw [eq]
    refine yl_ok ⟨⟨?_, ?_, fun k y hy => ?_, fun b hb => ?_, fun y hy => ?_⟩, f2⟩
    · show z.1 24 7 = nI 2
      rw [g2, if_neg (by omega), if_neg (by omega), if_pos ⟨rfl, rfl⟩]
      rfl
    · show z.1 24 1 = 0
      rw [g2, if_neg (by omega), if_neg (by omega), if_neg (by omega), if_neg (by omega), g1, if_neg (by omega), if_neg (by omega), if_neg (by omega), if_neg (by omega), if_neg (by omega), if_pos ⟨rfl, rfl⟩]
    · cases k with
      | zero =>
        have : f = y := Option.some.inj hy
        refine ⟨?_, Nat.le_refl _⟩
        show z.1 26 0 = nI y
        rw [g2, if_neg (by omega), if_neg (by omega), if_neg (by omega), if_neg (by omega), g1, if_neg (by omega), if_neg (by omega), if_neg (by omega), if_pos ⟨rfl, rfl⟩, this]
      | succ k =>
        cases k with
        | zero =>
          have : s = y := Option.some.inj hy
          refine ⟨?_, Nat.zero_le _⟩
          show z.1 26 1 = nI y
          rw [g2, if_neg (by omega), if_neg (by omega), if_neg (by omega), if_pos ⟨rfl, rfl⟩, this]
        | succ k => cases hy
    · show z.1 29 b = _
      rw [g2, if_neg (by omega)]
      by_cases q : b = s
      · rw [if_pos ⟨rfl, q⟩, if_pos (by rw [q]; simp)]
      · rw [if_neg (by omega), if_neg (by omega), if_neg (by omega), g1, if_neg (by omega)]
        by_cases q2 : b = f
        · rw [if_pos ⟨rfl, q2⟩, if_pos (by rw [q2]; simp)]
        · rw [if_neg (by omega), if_neg (by omega), if_neg (by omega), if_neg (by omega), if_neg (by omega), if_neg (by simp [q, q2])]
          exact hw b hb
    · have hy2 : y = f ∨ y = s := by simpa using hy
      refine ⟨hy, ?_⟩
      show z.1 28 y = -1
      rw [g2]
      by_cases q : y = s
      · rw [if_pos ⟨rfl, q⟩]
      · rw [if_neg (by omega), if_neg (by omega), if_neg (by omega), if_neg (by omega), g1, if_pos (by omega)]
theorem pc_seek {G : tc_G} (hK : gK G) {u : tc_S} {t r f s : Nat} {g : mp} {c : Nat → en} (hT : gT G t r) (hr : r ≤ 200) (hS : wS g) (hns : mn g 0 * mn g 1 ≤ r) (htt : t + 10 ≤ 24 ∨ 30 ≤ t) (htb : tb u t r g c) (hf : f < mn g 0) (hs : s < mn g 0) : yl (fn_X1_seek G 24 t (nI f) (nI s) u) (bP u (mn g 1) (bfs (mn g 0) (mn g 1) (cE c g) (cop c g) f s)) := by
  have hfu := tc_fu_big
  have hnb := hS.2.1.2
  unfold fn_X1_seek
  rw [hT.1.1, htb.1.2.1 0 (by omega), hS.1 0 (by omega)]
  refine yl_b (pc_begin hK (ns := mn g 1) hnb hf hs) fun _ w hw => ?_
  refine yl_let ?_
  have e1 : w.1 (t + 1) 1 = nI (mn g 1) := by
    rw [hw.2 _ _ (by unfold fK; omega), htb.1.2.1 1 (by omega)]
    exact hS.1 1 (by omega)
  rw [e1]
  exact pc_seek25 hK hT hr hS hns htt htb (mn g 0 + 1) 0 tc_fu _ _ w (by omega) (by omega) hw.1 (bq0_Q hf hs) hw.2
theorem pc_seekFor {G : tc_G} (hK : gK G) (hM : tc_p G 30 0 = 24) {u : tc_S} {t r i q : Nat} {g : mp} {c : Nat → en} (hT : gT G t r) (hr : r ≤ 200) (hS : wS g) (hns : mn g 0 * mn g 1 ≤ r) (htt : t + 10 ≤ 24 ∨ 30 ≤ t) (htb : tb u t r g c) (hi : i ≤ r + 4) (he : (c i).1 = nI (q + 1)) (hq : q ≤ 999) : yl (fn_X4_seekFor G 30 t (nI i) u) (bP u (mn g 1) (bfs (mn g 0) (mn g 1) (cE c g) (cop c g) (mhash g 0 q) (mhash g 1 q))) := by
  have hT2 := hT
  obtain ⟨⟨p0, p11⟩, ⟨p3, p4, p5, p6, p7, p8, p9⟩, l3, ll⟩ := hT
  obtain ⟨e4, e5, e6, e7, e8, e9⟩ := pl_ent (htb.2.1 i hi) he hq
  unfold fn_X4_seekFor
  rw [p7, p8, hM]
  refine yl_ld (r + 5) (ll _ (by omega) (by omega)) (by omega) (by omega) ?_
  refine yl_ld (r + 5) (ll _ (by omega) (by omega)) (by omega) (by omega) ?_
  rw [e8, e9]
  obtain ⟨⟨x, w⟩, h1, h2⟩ := pc_seek hK hT2 hr hS hns htt htb (wS_hash hS 0 q) (wS_hash hS 1 q)
  refine yl_e h1 ?_
  cases hb : bfs (mn g 0) (mn g 1) (cE c g) (cop c g) (mhash g 0 q) (mhash g 1 q) with
  | none =>
    rw [hb] at h2
    have h3 : x = 0 := h2.1
    subst h3
    exact yl_z0 (yl_ok h2)
  | some o =>
    rw [hb] at h2
    have h3 : x = 1 := h2.1
    subst h3
    exact yl_z1 (yl_ok h2)
