/-! text: the reference, the call -/
def fT2 (o k : Nat) : Prop := (o = 72 ∧ 292 ≤ k ∧ k < 1168) ∨ (75 ≤ o ∧ o ≤ 91) ∨ (o = 71 ∧ 4 ≤ k)
theorem fGd_2 {u w : tc_S} (h : fr fGd u w) : fr fT2 u w := fr_mono h fun o k q => by unfold fGd at q; unfold fT2; omega
theorem pr_begins2 {G : tc_G} (hG : gm G) {u0 : tc_S} : ∀ (m k f : Nat) (u : tc_S), k + m = 292 → m < f → (∀ i, i < k → u.1 72 (292 + i) = 0) → fr (fun o k => o = 72 ∧ 292 ≤ k ∧ k < 584) u0 u → y2 (lo_X12_begins_2 G f 71 292 (nI k) u) (fun _ w => isM w 292 (mbg mS0) ∧ fr (fun o k => o = 72 ∧ 292 ≤ k ∧ k < 584) u0 w) := by
  intro m
  induction m with
  | zero =>
    intro k f u hk hf hz hr
    obtain ⟨f, rfl⟩ : ∃ k, f = k + 1 := ⟨f - 1, by omega⟩
    rw [lo_X12_begins_2, show (nI k) = nI 292 from by rw [show k = 292 by omega], if_pos (by decide), hG.1.1]
    rw [show (292 : Int32) + 0 = nI 292 from by decide, show (292 : Int32) + 1 = nI 293 from by decide, show (292 : Int32) + 2 = nI 294 from by decide, show (292 : Int32) + 3 = nI 295 from by decide, show (292 : Int32) + 4 = nI 296 from by decide, show (292 : Int32) + 5 = nI 297 from by decide, show (292 : Int32) + 7 = nI 299 from by decide, show nI 299 + 1 = nI 300 from by decide, show nI 299 + 2 = nI 301 from by decide, show nI 299 + 3 = nI 302 from by decide]
    refine yl_sd 3253 hG.1.2 (by omega) (by omega) (yl_sd 3253 hG.1.2 (by omega) (by omega) (yl_sd 3253 hG.1.2 (by omega) (by omega) (yl_sd 3253 hG.1.2 (by omega) (by omega) (yl_sd 3253 hG.1.2 (by omega) (by omega) (yl_sd 3253 hG.1.2 (by omega) (by omega) (yl_sd 3253 hG.1.2 (by omega) (by omega) (yl_sd 3253 hG.1.2 (by omega) (by omega) (yl_sd 3253 hG.1.2 (by omega) (by omega) (yl_sd 3253 hG.1.2 (by omega) (by omega) (yl_ok ⟨fun j hj => ?_, ?_⟩))))))))))
    · by_cases c : j < 11
      · have k11 : j = 0 ∨ j = 1 ∨ j = 2 ∨ j = 3 ∨ j = 4 ∨ j = 5 ∨ j = 6 ∨ j = 7 ∨ j = 8 ∨ j = 9 ∨ j = 10 := by omega
        rcases k11 with e | e | e | e | e | e | e | e | e | e | e <;> subst e
        · rfl
        · rfl
        · rfl
        · rfl
        · rfl
        · rfl
        · exact hz 6 (by omega)
        · rfl
        · rfl
        · rfl
        · rfl
      · simp only [w_get]
        repeat rw [if_neg (by omega)]
        rw [hz j (by omega)]
        by_cases d : j = 11
        · rw [d]; rfl
        · rw [mbg_hi (by omega)]
    · repeat (refine fr_w ?_ ⟨rfl, by omega, by omega⟩)
      exact hr
  | succ m ih =>
    intro k f u hk hf hz hr
    obtain ⟨f, rfl⟩ : ∃ k, f = k + 1 := ⟨f - 1, by omega⟩
    rw [lo_X12_begins_2, if_neg (show ¬ (292 : Int32) ≤ nI k from nI_ge (b := 292) (by omega) (by omega)), hG.1.1, show (292 : Int32) + nI k = nI (292 + k) from nI_add 292 k]
    refine yl_sd 3253 hG.1.2 (by omega) (by omega) (yl_let ?_)
    rw [nI_1]
    refine ih (k + 1) f _ (by omega) (by omega) (fun i hi => ?_) (fr_w hr ⟨rfl, by omega, by omega⟩)
    rw [w_get]
    by_cases c : i = k
    · rw [if_pos ⟨rfl, by omega⟩]
    · rw [if_neg (by omega)]; exact hz i (by omega)
theorem pr_begins {G : tc_G} (hG : gm G) {u : tc_S} : y2 (fn_X12_begins G 71 292 u) (fun _ w => isM w 292 (mbg mS0) ∧ fr (fun o k => o = 72 ∧ 292 ≤ k ∧ k < 584) u w) := by
  have hfu := tc_fu_big
  unfold fn_X12_begins
  exact pr_begins2 hG (u0 := u) 292 0 tc_fu u (by omega) (by omega) (fun i hi => by omega) fr_refl
theorem pr_47 {G : tc_G} (hG : gm G) (h7 : gm7 G) {u0 : tc_S} {Q : Int32 × tc_S → Prop} (hK : ∀ w, (∀ k, k < 12 → w.1 88 k = mS0 k) → fr (fun o _ => o = 88) u0 w → yl (tc_b (fn_X12_takes G 71 w) fun _ u42 => lo_X12_text_79 G tc_fu 71 u42) Q) : ∀ (m k f : Nat) (u : tc_S), k + m = 12 → m < f → isM u 292 (mbg mS0) → (∀ i, i < k → u.1 88 i = mS0 i) → fr (fun o _ => o = 88) u0 u → yl (lo_X12_text_47 G f 71 (nI k) u) Q := by
  intro m
  induction m with
  | zero =>
    intro k f u hk hf hM hz hr
    obtain ⟨f, rfl⟩ : ∃ k, f = k + 1 := ⟨f - 1, by omega⟩
    rw [lo_X12_text_47, show (12 : Int32) = nI 12 from rfl, pu_le (by omega) (by omega), if_pos (by omega)]
    exact hK u (fun i hi => hz i (by omega)) hr
  | succ m ih =>
    intro k f u hk hf hM hz hr
    obtain ⟨f, rfl⟩ : ∃ k, f = k + 1 := ⟨f - 1, by omega⟩
    rw [lo_X12_text_47, show (12 : Int32) = nI 12 from rfl, pu_le (by omega) (by omega), if_neg (by omega), hG.1.1, h7.1.1, show (292 : Int32) + nI k = nI (292 + k) from nI_add 292 k, isM_ld hG hM (by omega) (by omega)]
    refine yl_sd 12 h7.2.1 (by omega) (by omega) (yl_let ?_)
    rw [nI_1]
    refine ih (k + 1) f _ (by omega) (by omega) (fun j hj => by rw [w_get, if_neg (by omega)]; exact hM j hj) (fun i hi => ?_) (fr_w hr rfl)
    rw [w_get]
    by_cases c : i = k
    · rw [if_pos ⟨rfl, c⟩, c, mbg_lo (by omega)]
    · rw [if_neg (fun z => c z.2)]; exact hz i (by omega)
theorem pr_79 {G : tc_G} (hG : gm G) (h7 : gm7 G) {t : Nat → Nat} {n : Nat} {u0 : tc_S} {Q : Int32 × tc_S → Prop} (hn : n ≤ 400) : ∀ (m f : Nat) (x : pxs) (u : tc_S), xI n x → n < x.1 + m → m < f → mSr u t n x → fr fGd u0 u → (∀ w, mO w t n (plo t n m x) → fr fGd u0 w → yl (bl_X12_text_100 G 71 w) Q) → yl (lo_X12_text_79 G f 71 u) Q := by
  intro m
  induction m with
  | zero => intro f x u hI hm; have := hI.1; omega
  | succ m ih =>
    intro f x u hI hm hf h hr hK
    obtain ⟨f, rfl⟩ : ∃ k, f = k + 1 := ⟨f - 1, by omega⟩
    have hkl := kK_le t n x.1
    rw [lo_X12_text_79, pr_isGood h.2.2.2.2.2.2, pu_b, if_neg i_n1, h.2.1.2.1, show (0 : Int32) = nI 0 from rfl, pu_eq (by omega) (by omega)]
    rw [plo] at hK
    by_cases c : kK t n x.1 = 0
    · rw [if_pos c]
      rw [if_pos c] at hK
      exact hK u h hr
    · rw [if_neg c]
      rw [if_neg c] at hK
      refine yl_b (pr_readsLine hG h7 h hI hn) fun _ w hw => ?_
      cases hl : ln1 t n x with
      | inl s =>
        rw [hl] at hw hK
        have hw1 : mF w s := hw.1
        obtain ⟨f, rfl⟩ : ∃ k, f = k + 1 := ⟨f - 1, by omega⟩
        rw [lo_X12_text_79, pr_isBad (mF_n hw1), pu_b, if_pos rfl]
        exact hK w hw1 (fr_trans hr hw.2)
      | inr y =>
        rw [hl] at hw hK
        have yI := ln1_I hI hl
        exact ih f y w yI.1 (by omega) (by omega) hw.1 (fr_trans hr hw.2) hK
def hM2 (u : tc_S) (H : List (Nat × Nat × Nat)) : Prop := u.1 71 28 = nI H.length ∧ ∀ j (h : j < H.length), u.1 89 j = nI (H[j]).1 ∧ u.1 91 j = nI (H[j]).2.2 ∧ u.1 90 j = nI (H[j]).2.1
def mE2 (w : tc_S) (o : Sum Nat mp) : Prop := match o with
  | .inl s => w.1 71 26 = 4 ∧ w.1 71 27 = nI s
  | .inr g => isM w 292 g ∧ w.1 71 26 = 0
theorem pr_141 {G : tc_G} (hG : gm G) (h2 : gm2 G) (h3 : gm3 G) (h4 : gm4 G) (h7 : gm7 G) {u0 : tc_S} {H : List (Nat × Nat × Nat)} {Q : Int32 × tc_S → Prop} (hH : ∀ h ∈ H, h.1 ≤ 999) (hl : H.length ≤ 57) : ∀ (m j f P : Nat) (g : mp) (u : tc_S), j + m = H.length → m < f → P = j → mre P g → isM u 292 g → hM2 u H → u.1 71 26 = 0 → fr fT2 u0 u → (∀ w, mE2 w (pe (H.drop j) g) → fr fT2 u0 w → yl (bl_X12_text_196 G 71 w) Q) → yl (lo_X12_text_141 G f 71 (nI j) u) Q := by
  intro m
  induction m with
  | zero =>
    intro j f P g u hj hf hP hg hM hL2 h26 hr hK
    obtain ⟨f, rfl⟩ : ∃ k, f = k + 1 := ⟨f - 1, by omega⟩
    rw [lo_X12_text_141, hL2.1, pu_le (by omega) (by omega), if_pos (by omega)]
    rw [List.drop_eq_nil_of_le (by omega)] at hK
    exact hK u ⟨hM, h26⟩ hr
  | succ m ih =>
    intro j f P g u hj hf hP hg hM hL2 h26 hr hK
    obtain ⟨f, rfl⟩ : ∃ k, f = k + 1 := ⟨f - 1, by omega⟩
    have hjl : j < H.length := by omega
    have hjk := hH _ (List.getElem_mem hjl)
    obtain ⟨e1, e2, e3⟩ := hL2.2 j hjl
    rw [lo_X12_text_141, hL2.1, pu_le (by omega) (by omega), if_neg (by omega), h26, if_pos rfl, h7.1.2.1, h7.1.2.2.1, h7.1.2.2.2]
    refine yl_ld 60 h7.2.2.1 (by omega) (by omega) (yl_ld 60 h7.2.2.2.1 (by omega) (by omega) ?_)
    rw [e1, e3]
    rw [List.drop_eq_getElem_cons hjl, pe] at hK
    have pp : y2 (fn_X12_puts G 71 292 (nI (H[j]).1) (nI (H[j]).2.1) u) (fun r w => r = (mput g (H[j]).1 (nI (H[j]).2.1)).1 ∧ isM w 292 (mput g (H[j]).1 (nI (H[j]).2.1)).2 ∧ fr (fP 292) u w) := pm_puts hG h2 h3 h4 (B := 292) (by omega) hM hg (by omega) hjk
    refine yl_b pp fun r w hw => ?_
    obtain ⟨w1, w2, w3⟩ := hw
    have nf : ∀ o k, (o = 71 ∧ k ≠ 12) ∨ (81 ≤ o ∧ o ≤ 91) → w.1 o k = u.1 o k := fun o k q => w3 _ _ (by unfold fP; omega)
    have f1 : fr fT2 u0 w := fr_trans hr (fr_mono w3 fun o k q => by unfold fP at q; unfold fT2; omega)
    have hL3 : hM2 w H := ⟨by rw [nf _ _ (by omega)]; exact hL2.1, fun i hi => by rw [nf _ _ (by omega), nf _ _ (by omega), nf _ _ (by omega)]; exact hL2.2 i hi⟩
    rw [w1]
    unfold bl_X12_text_190
    by_cases c : (mput g (H[j]).1 (nI (H[j]).2.1)).1 = -1
    · rw [if_pos c]
      rw [if_pos c] at hK
      refine yl_ld 60 h7.2.2.2.2 (by omega) (by omega) ?_
      rw [nf 91 j (by omega), e2]
      unfold fn_X12_alsoWrong
      rw [nf 71 26 (by omega), h26, if_pos (by decide)]
      refine yl_b (P := fun _ v => v.1 71 26 = 4 ∧ v.1 71 27 = nI (H[j]).2.2 ∧ hM2 v H ∧ fr fT2 u0 v) (yl_let (yl_let (yl_ok ⟨?_, ?_, ⟨?_, fun i hi => ?_⟩, fr_w (fr_w f1 (by unfold fT2; omega)) (by unfold fT2; omega)⟩))) fun _ v hv => yl_let ?_
      · rw [w_get, if_neg (by omega), w_get, if_pos ⟨rfl, rfl⟩]
      · rw [w_get, if_pos ⟨rfl, rfl⟩]
      · rw [w_get, if_neg (by omega), w_get, if_neg (by omega)]; exact hL3.1
      · simp only [w_get, show ¬ (89 = 71) by omega, show ¬ (90 = 71) by omega, show ¬ (91 = 71) by omega, false_and, if_false]
        exact hL3.2 i hi
      · obtain ⟨v1, v2, v3, v4⟩ := hv
        obtain ⟨f, rfl⟩ : ∃ k, f = k + 1 := ⟨f - 1, by omega⟩
        rw [nI_1, lo_X12_text_141]
        have z := hK v ⟨v1, v2⟩ v4
        refine yl_if (fun _ => z) (fun _ => ?_)
        rw [v1]
        exact yl_n (by decide) z
    · rw [if_neg c]
      rw [if_neg c] at hK
      refine yl_let ?_
      rw [nI_1]
      exact ih (j + 1) f (P + 1) _ w (by omega) (by omega) (by omega) (mput_ok hg hjk (by omega)) w2 hL3 (by rw [nf _ _ (by omega)]; exact h26) f1 hK
theorem pr_196b {G : tc_G} {u : tc_S} {k s : Nat} (hk : 1 ≤ k ∧ k ≤ 4) (h26 : u.1 71 26 = nI k) (h27 : u.1 71 27 = nI s) : y2 (bl_X12_text_196 G 71 u) (fun r w => r = -1 ∧ w.1 71 4 = nI k ∧ w.1 71 5 = nI s ∧ fr (fun o k => o = 71 ∧ (k = 4 ∨ k = 5)) u w) := by
  have n0 : ¬ nI k ≤ 0 := nI_nle (by omega) (by omega)
  unfold bl_X12_text_196 bl_X12_text_220
  refine yl_let ?_
  rw [h26]
  have e26 : (tc_w u 71 4 (nI k)).1 71 26 = nI k := by rw [w_get, if_neg (by omega)]; exact h26
  have e27 : (tc_w u 71 4 (nI k)).1 71 27 = nI s := by rw [w_get, if_neg (by omega)]; exact h27
  rw [e26, e27]
  refine yl_n n0 (yl_let ?_)
  rw [show (tc_w (tc_w u 71 4 (nI k)) 71 5 (nI s)).1 71 26 = nI k from by rw [w_get, if_neg (by omega)]; exact e26]
  refine yl_n n0 (yl_ok ⟨rfl, ?_, ?_, fr_w (fr_w fr_refl ⟨rfl, by omega⟩) ⟨rfl, by omega⟩⟩)
  · rw [w_get, if_neg (by omega), w_get, if_pos ⟨rfl, rfl⟩]
  · rw [w_get, if_pos ⟨rfl, rfl⟩]
def fT3 (o k : Nat) : Prop := (o = 72 ∧ k < 1168) ∨ (75 ≤ o ∧ o ≤ 91) ∨ (o = 71 ∧ 4 ≤ k)
theorem pr_196g {G : tc_G} (hG : gm G) (h4 : gm4 G) {u : tc_S} {g : mp} (h26 : u.1 71 26 = 0) (hM : isM u 292 g) (hw : mwf g) : y2 (bl_X12_text_196 G 71 u) (fun r w => r = nI (mes g).length ∧ isM w 0 g ∧ w.1 71 4 = 0 ∧ w.1 71 5 = -1 ∧ fr fT3 u w) := by
  unfold bl_X12_text_196 bl_X12_text_220
  refine yl_let ?_
  rw [h26]
  have e26 : (tc_w u 71 4 0).1 71 26 = 0 := by rw [w_get, if_neg (by omega)]; exact h26
  rw [e26]
  refine yl_p (by decide) (yl_let ?_)
  rw [show (tc_w (tc_w u 71 4 0) 71 5 (-1)).1 71 26 = 0 from by rw [w_get, if_neg (by omega)]; exact e26]
  refine yl_p (by decide) ?_
  have m1 : isM (tc_w (tc_w u 71 4 0) 71 5 (-1)) 292 g := fun k hk => by rw [w_get, if_neg (by omega), w_get, if_neg (by omega)]; exact hM k hk
  have c1 : fn_X12_copies G 71 292 0 (tc_w (tc_w u 71 4 0) 71 5 (-1)) = some (0, uM (tc_w (tc_w u 71 4 0) 71 5 (-1)) 0 g) := pm_copies hG (F := 292) (T := 0) (by omega) (by omega) (by omega) m1
  refine yl_e c1 ?_
  have f1 : fr fT3 u (uM (tc_w (tc_w u 71 4 0) 71 5 (-1)) 0 g) := fr_uM (fr_w (fr_w fr_refl (by unfold fT3; omega)) (by unfold fT3; omega)) fun k q1 q2 => by unfold fT3; omega
  have f72 : fr (fun o _ => o = 72) (tc_w (tc_w u 71 4 0) 71 5 (-1)) (uM (tc_w (tc_w u 71 4 0) 71 5 (-1)) 0 g) := fr_uM fr_refl fun k q1 q2 => rfl
  have i1 : isM (uM (tc_w (tc_w u 71 4 0) 71 5 (-1)) 0 g) 0 g := uM_isM
  have e4 : (uM (tc_w (tc_w u 71 4 0) 71 5 (-1)) 0 g).1 71 4 = 0 := by rw [f72 _ _ (by omega), w_get, if_neg (by omega), w_get, if_pos ⟨rfl, rfl⟩]
  have e5 : (uM (tc_w (tc_w u 71 4 0) 71 5 (-1)) 0 g).1 71 5 = -1 := by rw [f72 _ _ (by omega), w_get, if_pos ⟨rfl, rfl⟩]
  generalize uM (tc_w (tc_w u 71 4 0) 71 5 (-1)) 0 g = v at f1 i1 e4 e5 ⊢
  have en : y2 (fn_X12_entries G 71 0 v) (fun r w => r = nI (mes g).length ∧ fr fL v w) := pm_entries hG h4 (B := 0) (by omega) i1 hw
  refine yl_b en fun r w hw2 => ?_
  refine yl_ok ⟨hw2.1, isM_L i1 hw2.2, ?_, ?_, fr_trans f1 (fr_mono hw2.2 fun o k q => by unfold fL at q; unfold fT3; omega)⟩
  · rw [hw2.2 _ _ (by unfold fL; omega)]; exact e4
  · rw [hw2.2 _ _ (by unfold fL; omega)]; exact e5
theorem pr_111 {G : tc_G} (hG : gm G) (h7 : gm7 G) {u0 : tc_S} {S : mp} {Q : Int32 × tc_S → Prop} (hK : ∀ w, isM w 292 (mbg S) → fr (fun o k => o = 72 ∧ 292 ≤ k ∧ k < 584) u0 w → yl (lo_X12_text_141 G tc_fu 71 0 w) Q) : ∀ (m k f : Nat) (u : tc_S), k + m = 12 → m < f → (∀ i, i < 12 → u.1 88 i = S i) → (∀ i, i < k → u.1 72 (292 + i) = S i) → (∀ i, 12 ≤ i → i < 292 → u.1 72 (292 + i) = 0) → fr (fun o k => o = 72 ∧ 292 ≤ k ∧ k < 584) u0 u → yl (lo_X12_text_111 G f 71 (nI k) u) Q := by
  intro m
  induction m with
  | zero =>
    intro k f u hk hf hS hz h0 hr
    obtain ⟨f, rfl⟩ : ∃ k, f = k + 1 := ⟨f - 1, by omega⟩
    rw [lo_X12_text_111, show (12 : Int32) = nI 12 from rfl, pu_le (by omega) (by omega), if_pos (by omega)]
    refine hK u (fun i hi => ?_) hr
    by_cases c : i < 12
    · rw [mbg_lo c]; exact hz i (by omega)
    · rw [mbg_hi (by omega)]; exact h0 i (by omega) hi
  | succ m ih =>
    intro k f u hk hf hS hz h0 hr
    obtain ⟨f, rfl⟩ : ∃ k, f = k + 1 := ⟨f - 1, by omega⟩
    rw [lo_X12_text_111, show (12 : Int32) = nI 12 from rfl, pu_le (by omega) (by omega), if_neg (by omega), hG.1.1, h7.1.1, show (292 : Int32) + nI k = nI (292 + k) from nI_add 292 k]
    refine yl_ld 12 h7.2.1 (by omega) (by omega) (yl_sd 3253 hG.1.2 (by omega) (by omega) (yl_let ?_))
    rw [nI_1, hS k (by omega)]
    refine ih (k + 1) f _ (by omega) (by omega) (fun i hi => by rw [w_get, if_neg (by omega)]; exact hS i hi) (fun i hi => ?_) (fun i h1 h2 => by rw [w_get, if_neg (by omega)]; exact h0 i h1 h2) (fr_w hr ⟨rfl, by omega, by omega⟩)
    rw [w_get]
    by_cases c : i = k
    · rw [if_pos ⟨rfl, by omega⟩, c]
    · rw [if_neg (by omega)]; exact hz i (by omega)
theorem pr_111b {G : tc_G} (hG : gm G) (h7 : gm7 G) {u0 : tc_S} {Q : Int32 × tc_S → Prop} (hK : ∀ w, fr (fun o k => o = 72 ∧ 292 ≤ k ∧ k < 584) u0 w → yl (lo_X12_text_141 G tc_fu 71 0 w) Q) : ∀ (m k f : Nat) (u : tc_S), k + m = 12 → m < f → fr (fun o k => o = 72 ∧ 292 ≤ k ∧ k < 584) u0 u → yl (lo_X12_text_111 G f 71 (nI k) u) Q := by
  intro m
  induction m with
  | zero =>
    intro k f u hk hf hr
    obtain ⟨f, rfl⟩ : ∃ k, f = k + 1 := ⟨f - 1, by omega⟩
    rw [lo_X12_text_111, show (12 : Int32) = nI 12 from rfl, pu_le (by omega) (by omega), if_pos (by omega)]
    exact hK u hr
  | succ m ih =>
    intro k f u hk hf hr
    obtain ⟨f, rfl⟩ : ∃ k, f = k + 1 := ⟨f - 1, by omega⟩
    rw [lo_X12_text_111, show (12 : Int32) = nI 12 from rfl, pu_le (by omega) (by omega), if_neg (by omega), hG.1.1, h7.1.1, show (292 : Int32) + nI k = nI (292 + k) from nI_add 292 k]
    refine yl_ld 12 h7.2.1 (by omega) (by omega) (yl_sd 3253 hG.1.2 (by omega) (by omega) (yl_let ?_))
    rw [nI_1]
    exact ih (k + 1) f _ (by omega) (by omega) (fr_w hr ⟨rfl, by omega, by omega⟩)
theorem fT2_3 {u w : tc_S} (h : fr fT2 u w) : fr fT3 u w := fr_mono h fun o k q => by unfold fT2 at q; unfold fT3; omega
theorem pr_100 {G : tc_G} (hG : gm G) (h2 : gm2 G) (h3 : gm3 G) (h4 : gm4 G) (h7 : gm7 G) {t : Nat → Nat} {n : Nat} {u u0 : tc_S} {g : mp} {o : Sum Nat pxs} (hn : n ≤ 400) (ho : mO u t n o) (hI : ∀ x, o = .inr x → xI n x) (hz : ∀ i, 12 ≤ i → i < 292 → u.1 72 (292 + i) = 0) (hM : isM u 0 g) (hr : fr fT2 u0 u) : y2 (bl_X12_text_100 G 71 u) (fun r w => r = txA (txo o) ∧ isM w 0 (txM g (txo o)) ∧ w.1 71 4 = (txF (txo o)).1 ∧ w.1 71 5 = (txF (txo o)).2 ∧ fr fT3 u0 w) := by
  have hfu := tc_fu_big
  have is0 : ∀ {w : tc_S}, fr fT2 u w → isM w 0 g := fun h => isM_fr hM h fun k hk => by unfold fT2; omega
  unfold bl_X12_text_100
  cases o with
  | inl s =>
    have ho : mF u s := ho
    rw [pr_isBad (mF_n ho), pu_b, if_pos rfl]
    exact yl_ok ⟨rfl, hM, ho.1, ho.2, fT2_3 hr⟩
  | inr x =>
    have ho : mSr u t n x := ho
    have xI0 := hI x rfl
    obtain ⟨hB, hT, a1, ⟨a2, a3⟩, a4, a5, a6⟩ := ho
    have hw4 := xI0.2.2.1
    rw [pr_isGood a6, pu_b, if_neg i_n1, show txo (.inr x) = if x.2.2.2.1 = 0 then txe (pe x.2.2.1 (mbg x.2.1)) else .inl x.2.2.2 from rfl]
    have f21 : ∀ {w : tc_S}, fr (fun o k => o = 72 ∧ 292 ≤ k ∧ k < 584) u w → fr fT2 u w := fun h => fr_mono h fun o k q => by unfold fT2; omega
    by_cases c : x.2.2.2.1 = 0
    · rw [if_pos c]
      obtain ⟨q1, q2⟩ := xI0.2.2.2.2 c
      have len57 : x.2.2.1.length ≤ 57 := by have := xI0.1; have := xI0.2.1; omega
      refine pr_111 hG h7 (u0 := u) (S := x.2.1) (fun w w1 w2 => ?_) 12 0 tc_fu u (by omega) (by omega) (a1 c) (fun i hi => by omega) hz fr_refl
      have nf : ∀ o k, o ≠ 72 → w.1 o k = u.1 o k := fun o k q => w2 _ _ (by omega)
      have e26 : w.1 71 26 = 0 := by rw [nf _ _ (by omega), a4, c]; rfl
      refine pr_141 hG h2 h3 h4 h7 (u0 := u) q2 len57 x.2.2.1.length 0 tc_fu 0 (mbg x.2.1) w (by omega) (by omega) rfl (mre_mbg q1) w1 ⟨by rw [nf _ _ (by omega)]; exact a2, fun i hi => ?_⟩ e26 (f21 w2) (fun v v1 v2 => ?_)
      · rw [nf _ _ (by omega), nf _ _ (by omega), nf _ _ (by omega)]
        have := a3 i hi
        exact ⟨this.1, this.2.1, this.2.2 c⟩
      · rw [List.drop_zero] at v1
        cases hp : pe x.2.2.1 (mbg x.2.1) with
        | inl s =>
          rw [hp] at v1
          refine yl_m (pr_196b (G := G) (k := 4) (s := s) (by omega) v1.1 v1.2) fun r hr2 => ⟨hr2.1, ?_, hr2.2.1, hr2.2.2.1, ?_⟩
          · exact isM_fr (is0 v2) hr2.2.2.2 fun k hk => by omega
          · exact fT2_3 (fr_trans hr (fr_trans v2 (fr_mono hr2.2.2.2 fun o k q => by unfold fT2; omega)))
        | inr g2 =>
          rw [hp] at v1
          have hg2 := pe_ok x.2.2.1 (mbg x.2.1) g2 0 q2 (mre_mbg q1) (by omega) hp
          refine yl_m (pr_196g hG h4 v1.2 v1.1 hg2.1) fun r hr2 => ⟨hr2.1, hr2.2.1, hr2.2.2.1, hr2.2.2.2.1, ?_⟩
          exact fr_trans (fT2_3 (fr_trans hr v2)) hr2.2.2.2.2
    · rw [if_neg c]
      refine pr_111b hG h7 (u0 := u) (fun w w2 => ?_) 12 0 tc_fu u (by omega) (by omega) fr_refl
      have nf : ∀ o k, o ≠ 72 → w.1 o k = u.1 o k := fun o k q => w2 _ _ (by omega)
      have e26 : w.1 71 26 = nI x.2.2.2.1 := by rw [nf _ _ (by omega)]; exact a4
      have e27 : w.1 71 27 = nI x.2.2.2.2 := by rw [nf _ _ (by omega)]; exact a5 c
      have fin : y2 (bl_X12_text_196 G 71 w) (fun r w => r = txA (.inl x.2.2.2) ∧ isM w 0 (txM g (.inl x.2.2.2)) ∧ w.1 71 4 = (txF (.inl x.2.2.2)).1 ∧ w.1 71 5 = (txF (.inl x.2.2.2)).2 ∧ fr fT3 u0 w) := by
        refine yl_m (pr_196b (G := G) (k := x.2.2.2.1) (s := x.2.2.2.2) (by omega) e26 e27) fun r hr2 => ⟨hr2.1, ?_, hr2.2.1, hr2.2.2.1, ?_⟩
        · exact isM_fr (is0 (f21 w2)) hr2.2.2.2 fun k hk => by omega
        · exact fT2_3 (fr_trans hr (fr_trans (f21 w2) (fr_mono hr2.2.2.2 fun o k q => by unfold fT2; omega)))
      obtain ⟨f, hf⟩ : ∃ f, tc_fu = f + 1 := ⟨4095, rfl⟩
      rw [hf, lo_X12_text_141]
      refine yl_if (fun _ => fin) (fun _ => ?_)
      rw [e26]
      exact yl_n (nI_ne0 (by omega) (by omega)) fin
theorem pr_text {G : tc_G} (hG : gm G) (h2 : gm2 G) (h3 : gm3 G) (h4 : gm4 G) (h7 : gm7 G) {t : Nat → Nat} {n : Nat} {u : tc_S} {g : mp} (hn : n ≤ 400) (ht : ∀ k, t k < 256) (h73 : ∀ k, k < 400 → u.1 73 k = nI (t k)) (h3n : u.1 71 3 = nI n) (hM : isM u 0 g) : y2 (fn_X12_text G 71 u) (fun r w => r = txA (txo (plo t n (n + 1) xS0)) ∧ isM w 0 (txM g (txo (plo t n (n + 1) xS0))) ∧ w.1 71 3 = 0 ∧ w.1 71 4 = (txF (txo (plo t n (n + 1) xS0))).1 ∧ w.1 71 5 = (txF (txo (plo t n (n + 1) xS0))).2 ∧ fr (fun o k => fT3 o k ∨ (o = 71 ∧ k = 3)) u w) := by
  have hfu := tc_fu_big
  unfold fn_X12_text
  refine yl_let (yl_let (yl_let (yl_let (yl_let (yl_let (yl_let ?_))))))
  rw [h3n]
  have gg : ∀ o k, (tc_w (tc_w (tc_w (tc_w (tc_w (tc_w (tc_w u 71 22 (nI n)) 71 3 0) 71 4 0) 71 5 (-1)) 71 26 0) 71 28 0) 71 23 0).1 o k = if o = 71 ∧ k = 23 then 0 else if o = 71 ∧ k = 28 then 0 else if o = 71 ∧ k = 26 then 0 else if o = 71 ∧ k = 5 then -1 else if o = 71 ∧ k = 4 then 0 else if o = 71 ∧ k = 3 then 0 else if o = 71 ∧ k = 22 then nI n else u.1 o k := fun o k => rfl
  generalize tc_w (tc_w (tc_w (tc_w (tc_w (tc_w (tc_w u 71 22 (nI n)) 71 3 0) 71 4 0) 71 5 (-1)) 71 26 0) 71 28 0) 71 23 0 = v at gg ⊢
  have v23 : v.1 71 23 = 0 := by rw [gg, if_pos ⟨rfl, rfl⟩]
  have v28 : v.1 71 28 = 0 := by rw [gg, if_neg (by omega), if_pos ⟨rfl, rfl⟩]
  have v26 : v.1 71 26 = 0 := by rw [gg, if_neg (by omega), if_neg (by omega), if_pos ⟨rfl, rfl⟩]
  have v4 : v.1 71 4 = 0 := by rw [gg, if_neg (by omega), if_neg (by omega), if_neg (by omega), if_neg (by omega), if_pos ⟨rfl, rfl⟩]
  have v3 : v.1 71 3 = 0 := by rw [gg, if_neg (by omega), if_neg (by omega), if_neg (by omega), if_neg (by omega), if_neg (by omega), if_pos ⟨rfl, rfl⟩]
  have v22 : v.1 71 22 = nI n := by rw [gg, if_neg (by omega), if_neg (by omega), if_neg (by omega), if_neg (by omega), if_neg (by omega), if_neg (by omega), if_pos ⟨rfl, rfl⟩]
  have fv : fr (fun o k => o = 71 ∧ 3 ≤ k) u v := fun o k q => by rw [gg, if_neg (by omega), if_neg (by omega), if_neg (by omega), if_neg (by omega), if_neg (by omega), if_neg (by omega), if_neg (by omega)]
  refine yl_b (pr_begins hG) fun _ w hw => ?_
  have nw : ∀ o k, o ≠ 72 → w.1 o k = v.1 o k := fun o k q => hw.2 _ _ (by omega)
  refine pr_47 hG h7 (u0 := w) (fun x x1 x2 => ?_) 12 0 tc_fu w (by omega) (by omega) hw.1 (fun i hi => by omega) fr_refl
  have nx : ∀ o k, o ≠ 72 → o ≠ 88 → x.1 o k = v.1 o k := fun o k q1 q2 => by rw [x2 _ _ (by omega), nw _ _ q1]
  have B : mB x t n := ⟨hn, ht, by rw [nx _ _ (by omega) (by omega)]; exact v22, fun k hk => by rw [nx _ _ (by omega) (by omega), fv _ _ (by omega)]; exact h73 k hk⟩
  have Gg : mG x mS0 [] (0, 0) := ⟨fun _ => x1, ⟨by rw [nx _ _ (by omega) (by omega)]; exact v28, fun j hj => absurd hj (Nat.not_lt_zero _)⟩, by rw [nx _ _ (by omega) (by omega)]; exact v26, fun q => absurd rfl q, by rw [nx _ _ (by omega) (by omega)]; exact v4⟩
  refine yl_b (pr_takesS hG (p := 0) (Nat.zero_le _) (by rw [nx _ _ (by omega) (by omega)]; exact v23) B Gg) fun _ y hy => ?_
  refine pr_79 hG h7 (u0 := x) hn (n + 1) tc_fu xS0 y xI_0 (by show n < 0 + (n + 1); omega) (by omega) hy.1 hy.2 (fun z z1 z2 => ?_)
  have f2 : fr fT2 v z := fr_trans (fr_mono hw.2 fun o k q => by unfold fT2; omega) (fr_trans (fr_mono x2 fun o k q => by unfold fT2; omega) (fGd_2 z2))
  have Mz : isM z 0 g := isM_fr (isM_fr hM fv fun k hk => by omega) f2 fun k hk => by unfold fT2; omega
  have zz : ∀ i, 12 ≤ i → i < 292 → z.1 72 (292 + i) = 0 := fun i h1 h2 => by
    rw [z2 _ _ (by unfold fGd; omega), x2 _ _ (by omega), hw.1 i h2, mbg_hi h1]
  refine yl_m (pr_100 hG h2 h3 h4 h7 (u0 := v) hn z1 (fun q hq => plo_I xI_0 hq) zz Mz f2) fun r hr => ⟨hr.1, hr.2.1, ?_, hr.2.2.1, hr.2.2.2.1, fr_trans (fr_mono fv fun o k q => ?_) (fr_mono hr.2.2.2.2 fun o k q => Or.inl q)⟩
  · rw [hr.2.2.2.2 _ _ (by unfold fT3; omega)]; exact v3
  · unfold fT3; omega
/-- the call text -/
theorem txM_ok {n P : Nat} {g : mp} {o : Sum Nat pxs} (hn : n ≤ 400) (hI : ∀ x, o = .inr x → xI n x) (hg : mre P g) : ∃ P2, P2 ≤ P + 60 ∧ mre P2 (txM g (txo o)) := by
  cases o with
  | inl s => exact ⟨P, by omega, hg⟩
  | inr x =>
    have xI0 := hI x rfl
    rw [show txo (.inr x) = if x.2.2.2.1 = 0 then txe (pe x.2.2.1 (mbg x.2.1)) else .inl x.2.2.2 from rfl]
    by_cases c : x.2.2.2.1 = 0
    · rw [if_pos c]
      obtain ⟨q1, q2⟩ := xI0.2.2.2.2 c
      have len57 : x.2.2.1.length ≤ 57 := by have := xI0.1; have := xI0.2.1; omega
      cases hp : pe x.2.2.1 (mbg x.2.1) with
      | inl s => exact ⟨P, by omega, hg⟩
      | inr g2 => exact ⟨0 + x.2.2.1.length, by omega, pe_ok x.2.2.1 (mbg x.2.1) g2 0 q2 (mre_mbg q1) (by omega) hp⟩
    · rw [if_neg c]
      exact ⟨P, by omega, hg⟩
theorem c_text {G : tc_G} (hA : gA G) (hW : gW G) (h7 : gm7 G) {L : tc_L} {u : tc_S} {P n : Nat} {g : mp} {t : Nat → Nat} (hu : cC u P g) (hM : isM u 0 g) (ht : tw u t n) : ∃ g2 P2 t2 n2, P2 ≤ P + 60 ∧ yl (tc_b (fn_X11_text G 0 u) fun r1 u1 => tc_b (fn_X12_text G 71 u1) fun r2 u2 => if r1 = r2 then some (L, u2) else none) (pq2 L u P2 g2 t2 n2) := by
  obtain ⟨t1, t2, t3, t4, t5, t6, t7⟩ := id ht
  obtain ⟨P2, p1, p2⟩ := txM_ok (o := plo t n (n + 1) xS0) t1 (fun x hx => plo_I xI_0 hx) hu.2.1
  refine ⟨txM g (txo (plo t n (n + 1) xS0)), P2, t, 0, p1, ?_⟩
  obtain ⟨-, -, -, b1, b2, b3, b4⟩ := id hA
  refine yl_b (mt_text hA hW hu t1 t2 (fun k hk => (t3 k hk).2) t4) fun r1 u1 h1 => ?_
  obtain ⟨c1, c2, c3, c4, c5, c6⟩ := h1
  have M1 : isM u1 0 g := isM_fr hM c6 fun k hk => by unfold fMc; omega
  refine yl_b (pr_text b1 b2 b3 b4 h7 t1 t2 (fun k hk => by rw [c6 _ _ (by unfold fMc; omega)]; exact (t3 k hk).1) (by rw [c6 _ _ (by unfold fMc; omega)]; exact t5) M1) fun r2 u2 h2 => ?_
  obtain ⟨d1, d2, d3, d4, d5, d6⟩ := h2
  rw [c1, d1]
  have ff : fr fMX u u2 := fr_trans (fr_mono c6 fun o k q => q.elim (fun z => Or.inl (Or.inl z)) (fun z => Or.inr (Or.inl z))) (fr_mono d6 fun o k q => by unfold fT3 at q; unfold fMX fMM fMr; omega)
  have tr : ∀ {s r : Nat}, (s = 14 ∨ s = 39 ∨ s = 55) → tR u s r → tR u2 s r := fun hs q => ⟨by rw [d6 _ _ (by unfold fT3; omega), c6 _ _ (by unfold fMc; omega)]; exact q.1, by rw [d6 _ _ (by unfold fT3; omega), c6 _ _ (by unfold fMc; omega)]; exact q.2⟩
  refine yl_p rfl (yl_ok ⟨rfl, d2, ⟨mt_fr c2 d6 fun o k q1 q2 => by unfold fT3; omega, p2, tr (by omega) hu.2.2.1, tr (by omega) hu.2.2.2.1, tr (by omega) hu.2.2.2.2⟩, ⟨by omega, t2, fun k hk => ?_, ?_, ?_, ?_, ?_⟩, ff⟩)
  · dsimp only
    rw [d6 _ _ (by unfold fT3; omega), c6 _ _ (by unfold fMc; omega), d6 _ _ (by unfold fT3; omega), c6 _ _ (by unfold fMc; omega)]
    exact t3 k hk
  · dsimp only; rw [d6 _ _ (by unfold fT3; omega)]; exact c3
  · exact d3
  · dsimp only; rw [d6 _ _ (by unfold fT3; omega), c4, d4]
  · dsimp only; rw [d6 _ _ (by unfold fT3; omega), c5, d5]
