/-! tokens: the reference -/
def wv (t : Nat → Nat) (q : Nat) : Nat → Nat
  | 0 => 0
  | m + 1 => if m < 9 then 27 * wv t q m + (t (q + m) - 96) else wv t q m
def mB (u : tc_S) (t : Nat → Nat) (n : Nat) : Prop := n ≤ 400 ∧ (∀ k, t k < 256) ∧ u.1 71 22 = nI n ∧ ∀ k, k < 400 → u.1 73 k = nI (t k)
theorem mB_fr {P : Nat → Nat → Prop} {u w : tc_S} {t : Nat → Nat} {n : Nat} (h : mB u t n) (hf : fr P u w) (h1 : ¬ P 71 22) (h2 : ∀ k, ¬ P 73 k) : mB w t n := ⟨h.1, h.2.1, by rw [hf _ _ h1]; exact h.2.2.1, fun k hk => by rw [hf _ _ (h2 k)]; exact h.2.2.2 k hk⟩
def mT (u : tc_S) (t : Nat → Nat) (n p : Nat) : Prop := u.1 71 25 = nI (kS t n p) ∧ u.1 71 24 = nI (kK t n p) ∧ (kK t n p ≠ 4 → u.1 71 23 = nI (kE t n p)) ∧ (kK t n p = 2 → u.2 71 29 = lN (kV t n p)) ∧ (kK t n p = 1 → u.2 71 29 = lN (wv t (kS t n p) (kE t n p - kS t n p)))
def fU2 (o k : Nat) : Prop := o = 71 ∧ 23 ≤ k ∧ k ≤ 25
theorem pr_byteAt {G : tc_G} (hG : gm G) {u : tc_S} {t : Nat → Nat} {n p : Nat} (hB : mB u t n) (hp : p ≤ 1000) : fn_X12_byteAt G 71 (nI p) u = some (if p < n then nI (t p) else -1, u) := by
  obtain ⟨b1, b2, b3, b4⟩ := hB
  unfold fn_X12_byteAt bl_X12_byteAt_18
  rw [b3, pu_le (by omega) (by omega)]
  by_cases c : n ≤ p
  · rw [if_pos c, if_neg (by omega)]
  · rw [if_neg c, if_pos (by omega), hG.2.1, pu_ld hG.2.2 (by omega) (by omega), b4 _ (by omega)]
theorem pr_isLetter {G : tc_G} {u : tc_S} {b : Nat} (hb : b < 256) : fn_X12_isLetter G (nI b) u = some (if xL b = true then 1 else 0, u) := by
  unfold fn_X12_isLetter bl_X12_isLetter_16 bl_X12_isLetter_17
  rw [show (97 : Int32) = nI 97 from rfl, show (122 : Int32) = nI 122 from rfl, pu_lt (by omega) (by omega), pu_lt (by omega) (by omega)]
  by_cases c1 : b < 97
  · rw [if_pos c1, if_neg (by unfold xL; rw [decide_eq_true_iff]; omega)]; rfl
  · rw [if_neg c1]
    by_cases c2 : 122 < b
    · rw [if_pos c2, if_neg (by unfold xL; rw [decide_eq_true_iff]; omega)]; rfl
    · rw [if_neg c2, if_pos (by unfold xL; rw [decide_eq_true_iff]; omega)]; rfl
theorem pr_isDigit {G : tc_G} {u : tc_S} {b : Nat} (hb : b < 256) : fn_X12_isDigit G (nI b) u = some (if xD b = true then 1 else 0, u) := by
  unfold fn_X12_isDigit bl_X12_isDigit_16 bl_X12_isDigit_17
  rw [show (48 : Int32) = nI 48 from rfl, show (57 : Int32) = nI 57 from rfl, pu_lt (by omega) (by omega), pu_lt (by omega) (by omega)]
  by_cases c1 : b < 48
  · rw [if_pos c1, if_neg (by unfold xD; rw [decide_eq_true_iff]; omega)]; rfl
  · rw [if_neg c1]
    by_cases c2 : 57 < b
    · rw [if_pos c2, if_neg (by unfold xD; rw [decide_eq_true_iff]; omega)]; rfl
    · rw [if_neg c2, if_pos (by unfold xD; rw [decide_eq_true_iff]; omega)]; rfl
theorem pr_isLetterN {G : tc_G} {u : tc_S} : fn_X12_isLetter G (-1) u = some (0, u) := by
  unfold fn_X12_isLetter bl_X12_isLetter_16 bl_X12_isLetter_17
  rw [if_pos (by decide)]; rfl
theorem pr_isDigitN {G : tc_G} {u : tc_S} : fn_X12_isDigit G (-1) u = some (0, u) := by
  unfold fn_X12_isDigit bl_X12_isDigit_16 bl_X12_isDigit_17
  rw [if_pos (by decide)]; rfl
theorem pr_dig260 {G : tc_G} {u : tc_S} {q e : Nat} (h9 : u.1 71 23 = nI e) (h11 : u.1 71 25 = nI q) (hq : q ≤ e) (he : e ≤ 400) : y2 (if ((u.1 71 23) - (u.1 71 25)) ≤ 4 then (bl_X12_takes_260 G 71 2 u) else (bl_X12_takes_260 G 71 4 u)) (fun _ w => w.1 71 23 = nI e ∧ w.1 71 24 = nI (if e - q ≤ 4 then 2 else 4) ∧ w.2 71 29 = u.2 71 29 ∧ fr (fun o k => o = 71 ∧ (k = 23 ∨ k = 24)) u w) := by
  unfold bl_X12_takes_260 bl_X12_takes_291
  rw [h9, h11, pk_sub hq, show (4 : Int32) = nI 4 from rfl, pu_le (by omega) (by omega)]
  by_cases c : e - q ≤ 4
  · rw [if_pos c, if_pos c]
    exact yl_let (yl_ok ⟨by rw [w_get, if_neg (by omega)]; exact h9, by rw [w_get, if_pos ⟨rfl, rfl⟩]; rfl, rfl, fr_w fr_refl ⟨rfl, by omega⟩⟩)
  · rw [if_neg c, if_neg c]
    exact yl_let (yl_ok ⟨by rw [w_get, if_neg (by omega)]; exact h9, by rw [w_get, if_pos ⟨rfl, rfl⟩], rfl, fr_w fr_refl ⟨rfl, by omega⟩⟩)
theorem wl_get (u : tc_S) (i k : Nat) (x : Int64) : (tc_wl u i k x).2 i k = x := by
  show (if i = i ∧ k = k then x else u.2 i k) = x
  rw [if_pos ⟨rfl, rfl⟩]
theorem pr_dig {G : tc_G} (hG : gm G) {t : Nat → Nat} {n q : Nat} : ∀ (m j f : Nat) (u : tc_S), q + j + m = n → m < f → (∀ i, i < j → t (q + i) ≤ 57) → u.1 71 23 = nI (q + j) → u.1 71 25 = nI q → u.2 71 29 = lN (dv t q j) → mB u t n → y2 (lo_X12_takes_168 G f 71 u) (fun _ w => w.1 71 23 = nI (xs xD t m (q + j)) ∧ w.1 71 24 = nI (if xs xD t m (q + j) - q ≤ 4 then 2 else 4) ∧ w.2 71 29 = lN (dv t q (xs xD t m (q + j) - q)) ∧ fr (fun o k => o = 71 ∧ (k = 23 ∨ k = 24)) u w) := by
  intro m
  induction m with
  | zero =>
    intro j f u hj hf hd h9 h11 h29 hB
    obtain ⟨f, rfl⟩ : ∃ k, f = k + 1 := ⟨f - 1, by omega⟩
    have := hB.1
    rw [lo_X12_takes_168, h9, pr_byteAt hG hB (by omega), pu_b, if_neg (by omega), pr_isDigitN, pu_b, if_pos rfl, show xs xD t 0 (q + j) = q + j from rfl]
    have z := pr_dig260 (G := G) h9 h11 (by omega) (by omega)
    rw [h29] at z
    rw [show q + j - q = j by omega] at z ⊢
    exact z
  | succ m ih =>
    intro j f u hj hf hd h9 h11 h29 hB
    obtain ⟨f, rfl⟩ : ∃ k, f = k + 1 := ⟨f - 1, by omega⟩
    obtain ⟨b1, b2, b3, b4⟩ := id hB
    have hb := b2 (q + j)
    rw [lo_X12_takes_168, h9, pr_byteAt hG hB (by omega), pu_b, if_pos (by omega), pr_isDigit hb, pu_b]
    unfold xs
    by_cases c : xD (t (q + j)) = true
    · have cd : 48 ≤ t (q + j) ∧ t (q + j) ≤ 57 := of_decide_eq_true c
      rw [if_pos c, if_pos c, h9, h11, h29]
      refine yl_n i_n1 ?_
      rw [pk_sub (by omega), show q + j - q = j by omega, show (4 : Int32) = nI 4 from rfl, pu_le (by omega) (by omega)]
      have go : ∀ v : Int64, v = lN (dv t q (j + 1)) → y2 (bl_X12_takes_225 G (lo_X12_takes_168 G f) 71 71 v u) (fun _ w => w.1 71 23 = nI (xs xD t m (q + j + 1)) ∧ w.1 71 24 = nI (if xs xD t m (q + j + 1) - q ≤ 4 then 2 else 4) ∧ w.2 71 29 = lN (dv t q (xs xD t m (q + j + 1) - q)) ∧ fr (fun o k => o = 71 ∧ (k = 23 ∨ k = 24)) u w) := by
        intro v hv
        unfold bl_X12_takes_225
        refine yl_let (yl_let ?_)
        rw [show (tc_wl u 71 29 v).1 71 23 = nI (q + j) from h9, nI_1]
        have f1 : fr (fun o k => o = 71 ∧ (k = 23 ∨ k = 24)) u (tc_w (tc_wl u 71 29 v) 71 23 (nI (q + j + 1))) := fr_w (fun _ _ _ => rfl) ⟨rfl, by omega⟩
        refine yl_m (ih (j + 1) f _ (by omega) (by omega) (fun i hi => ?_) ?_ ?_ ?_ (mB_fr hB f1 (by omega) (fun k => by omega))) fun r hr => ⟨hr.1, hr.2.1, hr.2.2.1, fr_trans f1 hr.2.2.2⟩
        · by_cases z : i = j
          · rw [z]; exact cd.2
          · exact hd i (by omega)
        · rw [w_get, if_pos ⟨rfl, rfl⟩]; rfl
        · rw [w_get, if_neg (by omega)]; exact h11
        · show (tc_wl u 71 29 v).2 71 29 = _
          rw [wl_get, hv]
      by_cases c4 : 4 ≤ j
      · refine yl_p c4 (go _ ?_)
        rw [dv, if_neg (by omega)]
      · refine yl_n c4 ?_
        rw [pr_byteAt hG hB (by omega), pu_b, if_pos (by omega)]
        refine go _ ?_
        rw [dv, if_pos (by omega), nI_l (by omega), show (10 : Int64) * lN (dv t q j) = lN (10 * dv t q j) from lN_mul 10 _, lN_add, show lN (10 * dv t q j + t (q + j)) - 48 = lN (10 * dv t q j + t (q + j) - 48) from lN_sub (b := 48) (by omega)]
        congr 1
        omega
    · rw [if_neg c, if_neg c]
      refine yl_p rfl ?_
      have z := pr_dig260 (G := G) h9 h11 (by omega) (by omega)
      rw [h29] at z
      rw [show q + j - q = j by omega] at z ⊢
      exact z
theorem pr_let {G : tc_G} (hG : gm G) {t : Nat → Nat} {n q : Nat} : ∀ (m j f : Nat) (u : tc_S), q + j + m = n → m < f → u.1 71 23 = nI (q + j) → u.1 71 25 = nI q → u.2 71 29 = lN (wv t q j) → mB u t n → y2 (lo_X12_takes_85 G f 71 u) (fun _ w => w.1 71 23 = nI (xs xL t m (q + j)) ∧ w.2 71 29 = lN (wv t q (xs xL t m (q + j) - q)) ∧ fr (fun o k => o = 71 ∧ k = 23) u w) := by
  intro m
  induction m with
  | zero =>
    intro j f u hj hf h9 h11 h29 hB
    obtain ⟨f, rfl⟩ : ∃ k, f = k + 1 := ⟨f - 1, by omega⟩
    have := hB.1
    rw [lo_X12_takes_85, h9, pr_byteAt hG hB (by omega), pu_b, if_neg (by omega), pr_isLetterN, pu_b, if_pos rfl, show xs xL t 0 (q + j) = q + j from rfl]
    unfold bl_X12_takes_291
    exact yl_ok ⟨h9, by rw [show q + j - q = j by omega]; exact h29, fr_refl⟩
  | succ m ih =>
    intro j f u hj hf h9 h11 h29 hB
    obtain ⟨f, rfl⟩ : ∃ k, f = k + 1 := ⟨f - 1, by omega⟩
    obtain ⟨b1, b2, b3, b4⟩ := id hB
    have hb := b2 (q + j)
    rw [lo_X12_takes_85, h9, pr_byteAt hG hB (by omega), pu_b, if_pos (by omega), pr_isLetter hb, pu_b]
    unfold xs
    by_cases c : xL (t (q + j)) = true
    · have cd : 97 ≤ t (q + j) ∧ t (q + j) ≤ 122 := of_decide_eq_true c
      rw [if_pos c, if_pos c, h9, h11, h29]
      refine yl_n i_n1 ?_
      rw [pk_sub (by omega), show q + j - q = j by omega, show (9 : Int32) = nI 9 from rfl, pu_le (by omega) (by omega)]
      have go : ∀ v : Int64, v = lN (wv t q (j + 1)) → y2 (bl_X12_takes_145 G (lo_X12_takes_85 G f) 71 71 v u) (fun _ w => w.1 71 23 = nI (xs xL t m (q + j + 1)) ∧ w.2 71 29 = lN (wv t q (xs xL t m (q + j + 1) - q)) ∧ fr (fun o k => o = 71 ∧ k = 23) u w) := by
        intro v hv
        unfold bl_X12_takes_145
        refine yl_let (yl_let ?_)
        rw [show (tc_wl u 71 29 v).1 71 23 = nI (q + j) from h9, nI_1]
        have f1 : fr (fun o k => o = 71 ∧ k = 23) u (tc_w (tc_wl u 71 29 v) 71 23 (nI (q + j + 1))) := fr_w (fun _ _ _ => rfl) ⟨rfl, by omega⟩
        refine yl_m (ih (j + 1) f _ (by omega) (by omega) ?_ ?_ ?_ (mB_fr hB f1 (by omega) (fun k => by omega))) fun r hr => ⟨hr.1, hr.2.1, fr_trans f1 hr.2.2⟩
        · rw [w_get, if_pos ⟨rfl, rfl⟩]; rfl
        · rw [w_get, if_neg (by omega)]; exact h11
        · show (tc_wl u 71 29 v).2 71 29 = _
          rw [wl_get, hv]
      by_cases c4 : 9 ≤ j
      · refine yl_p c4 (go _ ?_)
        rw [wv, if_neg (by omega)]
      · refine yl_n c4 ?_
        rw [pr_byteAt hG hB (by omega), pu_b, if_pos (by omega)]
        refine go _ ?_
        rw [wv, if_pos (by omega), nI_l (by omega), show (27 : Int64) * lN (wv t q j) = lN (27 * wv t q j) from lN_mul 27 _, lN_add, show lN (27 * wv t q j + t (q + j)) - 97 = lN (27 * wv t q j + t (q + j) - 97) from lN_sub (b := 97) (by omega), lN_1]
        congr 1
        omega
    · rw [if_neg c, if_neg c]
      unfold bl_X12_takes_291
      exact yl_p rfl (yl_ok ⟨h9, by rw [show q + j - q = j by omega]; exact h29, fr_refl⟩)
theorem pr_takesIn {G : tc_G} (hG : gm G) {t : Nat → Nat} {n p f : Nat} {u0 u : tc_S} (hp : p ≤ n) (h9 : u.1 71 23 = nI (kS t n p)) (hB : mB u t n) (hr : fr fU2 u0 u) (hq : kS t n p < n → ¬ xB (t (kS t n p)) = true) : y2 (lo_X12_takes_0 G (f + 1) 71 u) (fun _ w => mT w t n p ∧ fr fU2 u0 w) := by
  have hfu := tc_fu_big
  obtain ⟨b1, b2, b3, b4⟩ := id hB
  have hk := kS_le (t := t) hp
  have hb := b2 (kS t n p)
  rw [lo_X12_takes_0, h9, pr_byteAt hG hB (by omega), pu_b]
  have n32 : ¬ (if kS t n p < n then nI (t (kS t n p)) else -1) = 32 := by
    by_cases c : kS t n p < n
    · rw [if_pos c]
      intro z
      have := (nI_eq (b := 32) (by omega) (by omega)).mp z
      exact hq c (decide_eq_true (Or.inl this))
    · rw [if_neg c]; decide
  have n10 : ¬ (if kS t n p < n then nI (t (kS t n p)) else -1) = 10 := by
    by_cases c : kS t n p < n
    · rw [if_pos c]
      intro z
      have := (nI_eq (b := 10) (by omega) (by omega)).mp z
      exact hq c (decide_eq_true (Or.inr this))
    · rw [if_neg c]; decide
  rw [if_neg n32, h9, pr_byteAt hG hB (by omega), pu_b, if_neg n10]
  refine yl_let ?_
  rw [h9]
  have f1 : fr fU2 u0 (tc_w u 71 25 (nI (kS t n p))) := fr_w hr ⟨rfl, by omega, by omega⟩
  have B1 : mB (tc_w u 71 25 (nI (kS t n p))) t n := mB_fr (P := fun o k => o = 71 ∧ k = 25) hB (fr_w fr_refl ⟨rfl, rfl⟩) (by omega) (fun k => by omega)
  have g9 : (tc_w u 71 25 (nI (kS t n p))).1 71 23 = nI (kS t n p) := by rw [w_get, if_neg (by omega)]; exact h9
  have g11 : (tc_w u 71 25 (nI (kS t n p))).1 71 25 = nI (kS t n p) := by rw [w_get, if_pos ⟨rfl, rfl⟩]
  rw [g9, pr_byteAt hG B1 (by omega), pu_b]
  refine yl_let ?_
  have f2 : fr fU2 u0 (tc_wl (tc_w u 71 25 (nI (kS t n p))) 71 29 0) := f1
  have B2 : mB (tc_wl (tc_w u 71 25 (nI (kS t n p))) 71 29 0) t n := B1
  have h29 : (tc_wl (tc_w u 71 25 (nI (kS t n p))) 71 29 0).2 71 29 = lN 0 := wl_get _ _ _ _
  have g9 : (tc_wl (tc_w u 71 25 (nI (kS t n p))) 71 29 0).1 71 23 = nI (kS t n p) := g9
  have g11 : (tc_wl (tc_w u 71 25 (nI (kS t n p))) 71 29 0).1 71 25 = nI (kS t n p) := g11
  clear f1 B1
  generalize tc_wl (tc_w u 71 25 (nI (kS t n p))) 71 29 0 = v at f2 B2 h29 g9 g11 ⊢
  by_cases c0 : n ≤ kS t n p
  · rw [if_neg (show ¬ kS t n p < n by omega), if_neg (by decide)]
    unfold bl_X12_takes_291
    refine yl_let (yl_ok ⟨?_, fr_w f2 ⟨rfl, by omega, by omega⟩⟩)
    have e0 : kK t n p = 0 := by unfold kK; rw [if_pos c0]
    have e1 : kE t n p = kS t n p := by unfold kE; rw [if_pos c0]
    exact ⟨by rw [w_get, if_neg (by omega)]; exact g11, by rw [w_get, if_pos ⟨rfl, rfl⟩, e0]; rfl, fun _ => by rw [w_get, if_neg (by omega), e1]; exact g9, fun z => by omega, fun z => by omega⟩
  · rw [if_pos (show kS t n p < n by omega), if_pos (nI_pos' (by omega)), pr_isLetter hb, pu_b]
    by_cases c3 : xL (t (kS t n p)) = true
    · have cd : 97 ≤ t (kS t n p) ∧ t (kS t n p) ≤ 122 := of_decide_eq_true c3
      have c1 : ¬ t (kS t n p) = 59 := by omega
      have c2 : ¬ xD (t (kS t n p)) = true := by unfold xD; rw [decide_eq_true_iff]; omega
      have e0 : kK t n p = 1 := by unfold kK; rw [if_neg c0, if_neg c1, if_neg c2, if_pos c3]
      have e1 : kE t n p = xs xL t (n - kS t n p) (kS t n p) := by unfold kE; rw [if_neg c0, if_neg c1, if_neg c2]
      rw [if_pos c3]
      refine yl_n i_n1 (yl_let ?_)
      have f3 : fr (fun o k => o = 71 ∧ k = 24) v (tc_w v 71 24 1) := fr_w fr_refl ⟨rfl, rfl⟩
      refine yl_m (pr_let hG (t := t) (n := n) (q := kS t n p) (n - kS t n p) 0 tc_fu (tc_w v 71 24 1) (by omega) (by omega) (by rw [w_get, if_neg (by omega)]; exact g9) (by rw [w_get, if_neg (by omega)]; exact g11) h29 (mB_fr B2 f3 (by omega) (fun k => by omega))) fun r hw => ⟨?_, fr_trans (fr_w f2 ⟨rfl, by omega, by omega⟩) (fr_mono hw.2.2 fun o k q => by unfold fU2; omega)⟩
      obtain ⟨w1, w2, w3⟩ := hw
      rw [Nat.add_zero] at w1 w2
      exact ⟨by rw [w3 _ _ (by omega), w_get, if_neg (by omega)]; exact g11, by rw [w3 _ _ (by omega), w_get, if_pos ⟨rfl, rfl⟩, e0]; rfl, fun _ => by rw [w1, e1], fun z => by omega, fun _ => by rw [w2, e1]⟩
    · rw [if_neg c3]
      refine yl_p rfl ?_
      rw [pr_isDigit hb, pu_b]
      by_cases c2 : xD (t (kS t n p)) = true
      · have cd : 48 ≤ t (kS t n p) ∧ t (kS t n p) ≤ 57 := of_decide_eq_true c2
        have c1 : ¬ t (kS t n p) = 59 := by omega
        have e0 : kK t n p = if xs xD t (n - kS t n p) (kS t n p) - kS t n p ≤ 4 then 2 else 4 := by unfold kK; rw [if_neg c0, if_neg c1, if_pos c2]
        have e1 : kE t n p = xs xD t (n - kS t n p) (kS t n p) := by unfold kE; rw [if_neg c0, if_neg c1, if_pos c2]
        rw [if_pos c2]
        refine yl_n i_n1 ?_
        refine yl_m (pr_dig hG (t := t) (n := n) (q := kS t n p) (n - kS t n p) 0 tc_fu v (by omega) (by omega) (fun i hi => by omega) g9 g11 h29 B2) fun r hw => ⟨?_, fr_trans f2 (fr_mono hw.2.2.2 fun o k q => by unfold fU2; omega)⟩
        obtain ⟨w1, w2, w3, w4⟩ := hw
        rw [Nat.add_zero] at w1 w2 w3
        refine ⟨by rw [w4 _ _ (by omega)]; exact g11, by rw [w2, e0], fun _ => by rw [w1, e1], fun _ => by rw [w3, ← e1]; rfl, fun z => ?_⟩
        rw [e0] at z
        split at z <;> omega
      · rw [if_neg c2]
        refine yl_p rfl (yl_let ?_)
        rw [g9, nI_1]
        have f3 : fr fU2 u0 (tc_w v 71 23 (nI (kS t n p + 1))) := fr_w f2 ⟨rfl, by omega, by omega⟩
        have g23 : (tc_w v 71 23 (nI (kS t n p + 1))).1 71 23 = nI (kS t n p + 1) := by rw [w_get, if_pos ⟨rfl, rfl⟩]
        have g25 : (tc_w v 71 23 (nI (kS t n p + 1))).1 71 25 = nI (kS t n p) := by rw [w_get, if_neg (by omega)]; exact g11
        generalize tc_w v 71 23 (nI (kS t n p + 1)) = x at f3 g23 g25 ⊢
        unfold bl_X12_takes_288 bl_X12_takes_291
        rw [show (59 : Int32) = nI 59 from rfl, pu_eq (by omega) (by omega)]
        by_cases c1 : t (kS t n p) = 59
        · have e0 : kK t n p = 3 := by unfold kK; rw [if_neg c0, if_pos c1]
          have e1 : kE t n p = kS t n p + 1 := by unfold kE; rw [if_neg c0, if_pos c1]
          refine yl_p c1 (yl_let (yl_ok ⟨⟨by rw [w_get, if_neg (by omega)]; exact g25, by rw [w_get, if_pos ⟨rfl, rfl⟩, e0]; rfl, fun _ => by rw [w_get, if_neg (by omega), e1]; exact g23, fun z => by omega, fun z => by omega⟩, fr_w f3 ⟨rfl, by omega, by omega⟩⟩))
        · have e0 : kK t n p = 4 := by unfold kK; rw [if_neg c0, if_neg c1, if_neg c2, if_neg c3]
          refine yl_n c1 (yl_let (yl_ok ⟨⟨by rw [w_get, if_neg (by omega)]; exact g25, by rw [w_get, if_pos ⟨rfl, rfl⟩, e0]; rfl, fun z => absurd e0 z, fun z => by omega, fun z => by omega⟩, fr_w f3 ⟨rfl, by omega, by omega⟩⟩))
theorem pr_takes0 {G : tc_G} (hG : gm G) {t : Nat → Nat} {n p0 : Nat} {u0 : tc_S} (hp0 : p0 ≤ n) : ∀ (m p f : Nat) (u : tc_S), p + m = n → m < f → p0 ≤ p → kS t n p0 = xs xB t m p → u.1 71 23 = nI p → mB u t n → fr fU2 u0 u → y2 (lo_X12_takes_0 G f 71 u) (fun _ w => mT w t n p0 ∧ fr fU2 u0 w) := by
  intro m
  induction m with
  | zero =>
    intro p f u hp hf hp1 hx h9 hB hr
    obtain ⟨f, rfl⟩ : ∃ k, f = k + 1 := ⟨f - 1, by omega⟩
    rw [xs] at hx
    exact pr_takesIn hG hp0 (by rw [hx]; exact h9) hB hr (fun z => by omega)
  | succ m ih =>
    intro p f u hp hf hp1 hx h9 hB hr
    obtain ⟨f, rfl⟩ : ∃ k, f = k + 1 := ⟨f - 1, by omega⟩
    obtain ⟨b1, b2, b3, b4⟩ := id hB
    have hb := b2 p
    rw [xs] at hx
    by_cases c : xB (t p) = true
    · rw [if_pos c] at hx
      have go : y2 (bl_X12_takes_26 G (lo_X12_takes_0 G f) 71 u) (fun _ w => mT w t n p0 ∧ fr fU2 u0 w) := by
        unfold bl_X12_takes_26
        refine yl_let ?_
        rw [h9, nI_1]
        exact ih (p + 1) f _ (by omega) (by omega) (by omega) hx (by rw [w_get, if_pos ⟨rfl, rfl⟩]) (mB_fr (P := fun o k => o = 71 ∧ k = 23) hB (fr_w fr_refl ⟨rfl, rfl⟩) (by omega) (fun k => by omega)) (fr_w hr ⟨rfl, by omega, by omega⟩)
      rw [lo_X12_takes_0, h9, pr_byteAt hG hB (by omega), pu_b, if_pos (show p < n by omega)]
      by_cases c1 : nI (t p) = 32
      · exact yl_p c1 go
      · refine yl_n c1 ?_
        rw [h9, pr_byteAt hG hB (by omega), pu_b, if_pos (show p < n by omega)]
        refine yl_p ?_ go
        rcases of_decide_eq_true c with z | z
        · exact absurd (by rw [z]; rfl) c1
        · rw [z]; rfl
    · rw [if_neg c] at hx
      exact pr_takesIn hG hp0 (by rw [hx]; exact h9) hB hr (fun _ => by rw [hx]; exact c)
theorem pr_takes {G : tc_G} (hG : gm G) {t : Nat → Nat} {n p : Nat} {u : tc_S} (hp : p ≤ n) (h9 : u.1 71 23 = nI p) (hB : mB u t n) : y2 (fn_X12_takes G 71 u) (fun _ w => mT w t n p ∧ fr fU2 u w) := by
  have hfu := tc_fu_big
  have := hB.1
  unfold fn_X12_takes
  exact pr_takes0 hG (u0 := u) hp (n - p) p tc_fu u (by omega) (by omega) (Nat.le_refl _) rfl h9 hB fr_refl
