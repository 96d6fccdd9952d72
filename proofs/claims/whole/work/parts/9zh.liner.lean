/-! lines: the reference -/
def gm7 (G : tc_G) : Prop := (tc_p G 71 30 = 88 ∧ tc_p G 71 31 = 89 ∧ tc_p G 71 32 = 90 ∧ tc_p G 71 33 = 91) ∧ G.2.2.1 88 = 12 ∧ G.2.2.1 89 = 60 ∧ G.2.2.1 90 = 60 ∧ G.2.2.1 91 = 60
theorem in_gm7 : gm7 (tc_gl in_L4) := ⟨⟨rfl, rfl, rfl, rfl⟩, rfl, rfl, rfl, rfl⟩
def mG (u : tc_S) (S : mp) (H : List (Nat × Nat × Nat)) (W : Nat × Nat) : Prop := (W.1 = 0 → ∀ k, k < 12 → u.1 88 k = S k) ∧ (u.1 71 28 = nI H.length ∧ ∀ j (h : j < H.length), u.1 89 j = nI (H[j]).1 ∧ u.1 91 j = nI (H[j]).2.2 ∧ (W.1 = 0 → u.1 90 j = nI (H[j]).2.1)) ∧ u.1 71 26 = nI W.1 ∧ (W.1 ≠ 0 → u.1 71 27 = nI W.2) ∧ u.1 71 4 = 0
def mSr (u : tc_S) (t : Nat → Nat) (n : Nat) (x : pxs) : Prop := mB u t n ∧ mT u t n x.1 ∧ mG u x.2.1 x.2.2.1 x.2.2.2
def mF (u : tc_S) (s : Nat) : Prop := u.1 71 4 = 1 ∧ u.1 71 5 = nI s
def mO (u : tc_S) (t : Nat → Nat) (n : Nat) : Sum Nat pxs → Prop
  | .inl s => mF u s
  | .inr x => mSr u t n x
def fGd (o k : Nat) : Prop := (88 ≤ o ∧ o ≤ 91) ∨ (o = 71 ∧ (k = 4 ∨ k = 5 ∨ (23 ≤ k ∧ k ≤ 28)))
theorem mG_fr {P : Nat → Nat → Prop} {u w : tc_S} {S : mp} {H : List (Nat × Nat × Nat)} {W : Nat × Nat} (h : mG u S H W) (hf : fr P u w) (h1 : ∀ o k, 88 ≤ o → o ≤ 91 → ¬ P o k) (h2 : ¬ P 71 28 ∧ ¬ P 71 26 ∧ ¬ P 71 27 ∧ ¬ P 71 4) : mG w S H W := by
  obtain ⟨a1, ⟨a2, a3⟩, a4, a5, a6⟩ := h
  refine ⟨fun q k hk => by rw [hf _ _ (h1 88 k (by omega) (by omega))]; exact a1 q k hk, ⟨by rw [hf _ _ h2.1]; exact a2, fun j hj => ?_⟩, by rw [hf _ _ h2.2.1]; exact a4, fun q => by rw [hf _ _ h2.2.2.1]; exact a5 q, by rw [hf _ _ h2.2.2.2]; exact a6⟩
  rw [hf _ _ (h1 89 j (by omega) (by omega)), hf _ _ (h1 90 j (by omega) (by omega)), hf _ _ (h1 91 j (by omega) (by omega))]
  exact a3 j hj
theorem fU2_G {u w : tc_S} (h : fr fU2 u w) : fr fGd u w := fr_mono h fun o k q => by unfold fU2 at q; unfold fGd; omega
theorem mG_U {u w : tc_S} {S : mp} {H : List (Nat × Nat × Nat)} {W : Nat × Nat} (h : mG u S H W) (hf : fr fU2 u w) : mG w S H W := mG_fr h hf (fun o k q1 q2 => by unfold fU2; omega) (by unfold fU2; omega)
theorem mB_U {u w : tc_S} {t : Nat → Nat} {n : Nat} (h : mB u t n) (hf : fr fU2 u w) : mB w t n := mB_fr h hf (by unfold fU2; omega) (fun k => by unfold fU2; omega)
theorem pr_takesS {G : tc_G} (hG : gm G) {t : Nat → Nat} {n p : Nat} {u : tc_S} {S : mp} {H : List (Nat × Nat × Nat)} {W : Nat × Nat} (hp : p ≤ n) (h9 : u.1 71 23 = nI p) (hB : mB u t n) (hg : mG u S H W) : y2 (fn_X12_takes G 71 u) (fun _ w => mSr w t n (p, S, H, W) ∧ fr fGd u w) :=
  yl_m (pr_takes hG hp h9 hB) fun r hr => ⟨⟨mB_U hB hr.2, hr.1, mG_U hg hr.2⟩, fU2_G hr.2⟩
theorem pr_fails {G : tc_G} {u : tc_S} {s : Nat} (h4 : u.1 71 4 = 0) (h : u.1 71 25 = nI s) : y2 (fn_X12_fails G 71 u) (fun _ w => mF w s ∧ fr fGd u w) := by
  unfold fn_X12_fails
  rw [h4]
  refine yl_p (by decide) (yl_let (yl_let (yl_ok ⟨⟨?_, ?_⟩, fr_w (fr_w fr_refl (by unfold fGd; omega)) (by unfold fGd; omega)⟩)))
  · rw [w_get, if_neg (by omega), w_get, if_pos ⟨rfl, rfl⟩]
  · rw [w_get, if_pos ⟨rfl, rfl⟩, w_get, if_neg (by omega)]; exact h
theorem mF_n {u : tc_S} {s : Nat} (h : mF u s) : ¬ u.1 71 4 = 0 := by rw [h.1]; decide
theorem pr_also {G : tc_G} {u : tc_S} {k s : Nat} {S : mp} {H : List (Nat × Nat × Nat)} {W : Nat × Nat} (hk : 1 ≤ k ∧ k ≤ 4) (hW1 : W.1 ≤ 4) (hg : mG u S H W) : y2 (fn_X12_alsoWrong G 71 (nI k) (nI s) u) (fun _ w => mG w S H (nte k s W) ∧ fr (fun o k => o = 71 ∧ (k = 26 ∨ k = 27)) u w ∧ w.2 = u.2) := by
  obtain ⟨a1, ⟨a2, a3⟩, a4, a5, a6⟩ := id hg
  unfold fn_X12_alsoWrong nte
  rw [a4, show (0 : Int32) = nI 0 from rfl, pu_le (by omega) (by omega)]
  by_cases c : W.1 = 0
  · rw [if_pos (show W.1 ≤ 0 by omega), if_pos c]
    have n0 : ¬ (k, s).1 = 0 := by show ¬ k = 0; omega
    refine yl_let (yl_let (yl_ok ⟨⟨fun q => absurd q n0, ⟨?_, fun j hj => ⟨?_, ?_, fun q => absurd q n0⟩⟩, ?_, fun _ => ?_, ?_⟩, fr_w (fr_w fr_refl ⟨rfl, by omega⟩) ⟨rfl, by omega⟩, rfl⟩))
    · rw [w_get, if_neg (by omega), w_get, if_neg (by omega)]; exact a2
    · rw [w_get, if_neg (by omega), w_get, if_neg (by omega)]; exact (a3 j hj).1
    · rw [w_get, if_neg (by omega), w_get, if_neg (by omega)]; exact (a3 j hj).2.1
    · rw [w_get, if_neg (by omega), w_get, if_pos ⟨rfl, rfl⟩]
    · rw [w_get, if_pos ⟨rfl, rfl⟩]
    · rw [w_get, if_neg (by omega), w_get, if_neg (by omega)]; exact a6
  · rw [if_neg (show ¬ W.1 ≤ 0 by omega), if_neg c]
    exact yl_ok ⟨hg, fr_refl, rfl⟩
theorem pr_numB {G : tc_G} {u : tc_S} {lo hi : Int32} (h : ¬ u.1 71 4 = 0) : fn_X12_numeral G 71 lo hi u = some (lo, u) := by
  unfold fn_X12_numeral bl_X12_numeral_19
  rw [pr_isBad h, pu_b, if_pos rfl, pr_isBad h, pu_b, if_pos rfl]
theorem pr_num0 {G : tc_G} {t : Nat → Nat} {n : Nat} {u : tc_S} {x : pxs} {lo hi : Int32} (h : mSr u t n x) (hk : ¬ kK t n x.1 = 2) : y2 (fn_X12_numeral G 71 lo hi u) (fun _ w => mF w (kS t n x.1) ∧ fr fGd u w) := by
  have := kK_le t n x.1
  unfold fn_X12_numeral
  rw [pr_isGood h.2.2.2.2.2.2, pu_b, if_neg i_n1, h.2.1.2.1, show (2 : Int32) = nI 2 from rfl, pu_eq (by omega) (by omega), if_neg hk]
  refine yl_b (pr_fails h.2.2.2.2.2.2 h.2.1.1) fun _ w hw => ?_
  unfold bl_X12_numeral_19
  rw [pr_isBad (mF_n hw.1), pu_b, if_pos rfl]
  exact yl_ok hw
theorem mT_fr {P : Nat → Nat → Prop} {u w : tc_S} {t : Nat → Nat} {n p : Nat} (h : mT u t n p) (hf : fr P u w) (h2 : w.2 = u.2) (h1 : ∀ k, 23 ≤ k → k ≤ 25 → ¬ P 71 k) : mT w t n p := ⟨by rw [hf _ _ (h1 25 (by omega) (by omega))]; exact h.1, by rw [hf _ _ (h1 24 (by omega) (by omega))]; exact h.2.1, fun q => by rw [hf _ _ (h1 23 (by omega) (by omega))]; exact h.2.2.1 q, fun q => by rw [h2]; exact h.2.2.2.1 q, fun q => by rw [h2]; exact h.2.2.2.2 q⟩
theorem pr_num {G : tc_G} (hG : gm G) {t : Nat → Nat} {n lo hi : Nat} {u : tc_S} {x : pxs} (h : mSr u t n x) (hp : x.1 ≤ n) (hw4 : x.2.2.2.1 ≤ 4) (hlo : lo ≤ 10000) (hhi : hi ≤ 10000) (hk : kK t n x.1 = 2) : y2 (fn_X12_numeral G 71 (nI lo) (nI hi) u) (fun r w => mSr w t n (kE t n x.1, x.2.1, x.2.2.1, nrg lo hi (kV t n x.1) (kS t n x.1) x.2.2.2) ∧ ((nrg lo hi (kV t n x.1) (kS t n x.1) x.2.2.2).1 = 0 → r = nI (kV t n x.1)) ∧ fr fGd u w) := by
  have he := kE_le (t := t) hp
  have hv := kV_le hk
  obtain ⟨hB, hT, hg⟩ := id h
  have h4 := hg.2.2.2.2
  have h29 := hT.2.2.2.1 hk
  unfold fn_X12_numeral
  rw [pr_isGood h4, pu_b, if_neg i_n1, hT.2.1, hk, if_pos (show nI 2 = 2 from rfl)]
  unfold bl_X12_numeral_19
  rw [pr_isGood h4, pu_b, if_neg i_n1]
  have fin : ∀ (w : tc_S) (W : Nat × Nat) (r : Int32), mB w t n → mG w x.2.1 x.2.2.1 W → w.1 71 23 = nI (kE t n x.1) → (W.1 = 0 → r = nI (kV t n x.1)) → fr fGd u w → y2 (bl_X12_numeral_82 G 71 r w) (fun r w => mSr w t n (kE t n x.1, x.2.1, x.2.2.1, W) ∧ (W.1 = 0 → r = nI (kV t n x.1)) ∧ fr fGd u w) := by
    intro w W r B2 G2 g23 hr fw
    unfold bl_X12_numeral_82
    refine yl_b (pr_takesS hG he.2 g23 B2 G2) fun _ z hz => ?_
    exact yl_ok ⟨hz.1, hr, fr_trans fw hz.2⟩
  have bad : y2 (bl_X12_numeral_52 G 71 (nI lo) u) (fun r w => mSr w t n (kE t n x.1, x.2.1, x.2.2.1, nte 2 (kS t n x.1) x.2.2.2) ∧ ((nte 2 (kS t n x.1) x.2.2.2).1 = 0 → r = nI (kV t n x.1)) ∧ fr fGd u w) := by
    unfold bl_X12_numeral_52 bl_X12_numeral_53 bl_X12_numeral_67
    rw [if_pos rfl, if_pos rfl, hT.1]
    refine yl_b (pr_also (k := 2) (by omega) hw4 hg) fun _ w hw => ?_
    refine fin w _ _ (mB_fr hB hw.2.1 (by omega) (fun k => by omega)) hw.1 (by rw [hw.2.1 _ _ (by omega)]; exact hT.2.2.1 (by omega)) (fun q => ?_) (fr_mono hw.2.1 fun o k q => by unfold fGd; omega)
    exfalso
    unfold nte at q
    split at q
    · exact absurd q (by show ¬ 2 = 0; omega)
    · rename_i z; exact z q
  have l1 : (lg_cmp (u.2 71 29) (nI lo).toInt64 < 0) ↔ kV t n x.1 < lo := by
    rw [lg_cmp_lt, h29, nI_l (by omega), lN_lt (by omega) (by omega)]
  have l2 : (0 < lg_cmp (u.2 71 29) (nI hi).toInt64) ↔ hi < kV t n x.1 := by
    rw [lg_cmp_gt, h29, nI_l (by omega), lN_lt (by omega) (by omega)]
  unfold nrg
  by_cases c1 : kV t n x.1 < lo
  · rw [if_pos (l1.mpr c1), if_pos (show kV t n x.1 < lo ∨ hi < kV t n x.1 from Or.inl c1)]
    exact bad
  · rw [if_neg (fun q => c1 (l1.mp q))]
    by_cases c2 : hi < kV t n x.1
    · rw [if_pos (l2.mpr c2), if_pos (show kV t n x.1 < lo ∨ hi < kV t n x.1 from Or.inr c2)]
      exact bad
    · rw [if_neg (fun q => c2 (l2.mp q)), if_neg (show ¬ (kV t n x.1 < lo ∨ hi < kV t n x.1) by omega)]
      unfold bl_X12_numeral_53 bl_X12_numeral_67
      rw [if_neg i_n1, if_neg i_n1, h29, lN_i]
      exact fin u _ _ hB hg (hT.2.2.1 (by omega)) (fun _ => rfl) fr_refl
theorem mSr_set {t : Nat → Nat} {n k : Nat} {u : tc_S} {x : pxs} {v v2 : Int32} (h : mSr u t n x) (hv : x.2.2.2.1 = 0 → v = v2) : mSr (tc_w u 88 k v) t n (x.1, upd x.2.1 k v2, x.2.2) := by
  have f1 : fr (fun o j => o = 88 ∧ j = k) u (tc_w u 88 k v) := fr_w fr_refl ⟨rfl, rfl⟩
  obtain ⟨hB, hT, a1, ⟨a2, a3⟩, a4, a5, a6⟩ := h
  refine ⟨mB_fr hB f1 (by omega) (fun k => by omega), mT_fr hT f1 rfl (fun k q1 q2 => by omega), fun q j hj => ?_, ⟨?_, fun j hj => ?_⟩, ?_, fun q => ?_, ?_⟩
  · rw [w_get]
    by_cases c : j = k
    · rw [if_pos ⟨rfl, c⟩, c, hv q]; exact upd_eq.symm
    · rw [if_neg (fun z => c z.2)]
      exact (a1 q j hj).trans (upd_ne c).symm
  · rw [f1 _ _ (by omega)]; exact a2
  · rw [f1 _ _ (by omega), f1 _ _ (by omega), f1 _ _ (by omega)]; exact a3 j hj
  · rw [f1 _ _ (by omega)]; exact a4
  · rw [f1 _ _ (by omega)]; exact a5 q
  · rw [f1 _ _ (by omega)]; exact a6
theorem mF_w {u : tc_S} {s o k : Nat} {v : Int32} (h : mF u s) (ho : o ≠ 71) : mF (tc_w u o k v) s := ⟨by rw [w_get, if_neg (fun z => ho z.1.symm)]; exact h.1, by rw [w_get, if_neg (fun z => ho z.1.symm)]; exact h.2⟩
theorem pr_setsN {G : tc_G} {u : tc_S} {code : Int64} {a b c : Int32} (h : fn_X12_hasWord G 71 code u = some (0, u)) : fn_X12_setsNumber G 71 code a b c u = some (0, u) := by
  unfold fn_X12_setsNumber
  rw [h, pu_b, if_pos rfl]
  rfl
theorem pr_setsY {G : tc_G} (hG : gm G) (h7 : gm7 G) {t : Nat → Nat} {n c lo hi w : Nat} {W : List Nat} {code : Int64} {u : tc_S} {x : pxs} (hW : W ∈ wds w) (hw : w < 3) (hc : code = lN (vl W)) (h : mSr u t n x) (hp : x.1 ≤ n) (hw4 : x.2.2.2.1 ≤ 4) (hlo : lo ≤ 10000) (hhi : hi ≤ 10000) (hc12 : c < 12) (hk : kK t n x.1 = 1) (hy : kW t n x.1 = W) : y2 (fn_X12_setsNumber G 71 code (nI c) (nI lo) (nI hi) u) (fun r w => r = 1 ∧ mO w t n (bSet t n c lo hi (kE t n x.1, x.2)) ∧ fr fGd u w) := by
  have he := kE_le (t := t) hp
  unfold fn_X12_setsNumber bSet
  refine yl_b (pr_isWord hG hW hw hc h.2.2.2.2.2.2 hp h.1 h.2.1 hk hy) fun r v hv => ?_
  obtain ⟨v1, v2, v3⟩ := hv
  rw [v1]
  refine yl_n i_n1 ?_
  have hS : mSr v t n (kE t n x.1, x.2) := ⟨mB_U h.1 v3, v2, mG_U h.2.2 v3⟩
  rw [h7.1.1]
  show y2 _ (fun r w => r = 1 ∧ mO w t n (if kK t n (kE t n x.1) = 2 then _ else _) ∧ fr fGd u w)
  by_cases c2 : kK t n (kE t n x.1) = 2
  · rw [if_pos c2]
    refine yl_b (pr_num hG hS he.2 hw4 hlo hhi c2) fun r z hz => ?_
    refine yl_sd 12 h7.2.1 hc12 (by omega) (yl_z1 (yl_ok ⟨rfl, mSr_set hz.1 hz.2.1, fr_w (fr_trans (fU2_G v3) hz.2.2) (by unfold fGd; omega)⟩))
  · rw [if_neg c2]
    refine yl_b (pr_num0 hS c2) fun r z hz => ?_
    exact yl_sd 12 h7.2.1 hc12 (by omega) (yl_z1 (yl_ok ⟨rfl, mF_w hz.1 (by omega), fr_w (fr_trans (fU2_G v3) hz.2) (by unfold fGd; omega)⟩))
theorem pr_202 {G : tc_G} (hG : gm G) {t : Nat → Nat} {n : Nat} {u u0 : tc_S} {o : Sum Nat pxs} (h : mO u t n o) (hp : ∀ x, o = .inr x → x.1 ≤ n) (hr : fr fGd u0 u) : y2 (bl_X12_readsLine_202 G 71 u) (fun _ w => mO w t n (bEnd t n o) ∧ fr fGd u0 w) := by
  unfold bl_X12_readsLine_202 bl_X12_readsLine_229
  cases o with
  | inl s =>
    rw [pr_isBad (mF_n h), pu_b, if_pos rfl]
    exact yl_ok ⟨h, hr⟩
  | inr x =>
    have h : mSr u t n x := h
    have hp := hp x rfl
    have hkl := kK_le t n x.1
    have he := kE_le (t := t) hp
    rw [pr_isGood h.2.2.2.2.2.2, pu_b, if_neg i_n1, h.2.1.2.1, show (3 : Int32) = nI 3 from rfl, pu_eq (by omega) (by omega)]
    rw [show bEnd t n (.inr x) = if kK t n x.1 = 3 then .inr (kE t n x.1, x.2) else .inl (kS t n x.1) from rfl]
    by_cases c : kK t n x.1 = 3
    · rw [if_pos c, if_pos c]
      refine yl_b (pr_takesS hG he.2 (h.2.1.2.2.1 (by omega)) h.1 h.2.2) fun _ w hw => ?_
      exact yl_ok ⟨hw.1, fr_trans hr hw.2⟩
    · rw [if_neg c, if_neg c]
      refine yl_b (pr_fails h.2.2.2.2.2.2 h.2.1.1) fun _ w hw => ?_
      exact yl_ok ⟨hw.1, fr_trans hr hw.2⟩
theorem wix_sp {b : List Nat} {j : Nat} : ∀ {ws : List (List Nat)} {i : Nat}, wix ws i b = some j → ws[j - i]? = some b ∧ ∀ k, k < j - i → ws[k]? ≠ some b := by
  intro ws
  induction ws with
  | nil => intro i h; cases h
  | cons W ws ih =>
    intro i h
    have z := wix_lt h
    rw [wix] at h
    by_cases c : b = W
    · rw [if_pos c] at h
      have := Option.some.inj h
      rw [show j - i = 0 by omega, c]
      exact ⟨rfl, fun k hk => by omega⟩
    · rw [if_neg c] at h
      have y := wix_lt h
      obtain ⟨i1, i2⟩ := ih h
      rw [show j - i = j - (i + 1) + 1 by omega]
      refine ⟨i1, fun k hk => ?_⟩
      cases k with
      | zero => intro q; exact c (Option.some.inj q).symm
      | succ k => exact i2 k (by omega)
theorem wix_no {b : List Nat} : ∀ {ws : List (List Nat)} {i : Nat}, wix ws i b = none → ∀ W ∈ ws, b ≠ W := by
  intro ws
  induction ws with
  | nil => intro i _ W h; cases h
  | cons W ws ih =>
    intro i h V hV
    rw [wix] at h
    by_cases c : b = W
    · rw [if_pos c] at h; cases h
    · rw [if_neg c] at h
      rcases List.mem_cons.mp hV with q | q
      · rw [q]; exact c
      · exact ih h V q
