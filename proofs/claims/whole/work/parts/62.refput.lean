/-! the reference: lists, all come, hashes drawn anew, growing, a put -/
def gm4 (G : tc_G) : Prop := tc_p G 71 11 = 80 ∧ G.2.2.1 80 = 288
def ls (u : tc_S) (es : List en) : Prop := u.1 71 12 = nI es.length ∧ ∀ k (h : k < es.length), u.1 80 (4 * k) = (es[k]).1 ∧ u.1 80 (4 * k + 1) = (es[k]).2.1 ∧ u.1 80 (4 * k + 2) = (es[k]).2.2.1 ∧ u.1 80 (4 * k + 3) = (es[k]).2.2.2
def fL (o k : Nat) : Prop := o = 80 ∨ (o = 71 ∧ k = 12)
theorem ls_push {u w : tc_S} {es : List en} {e : en} (h : ls u es) (h1 : w.1 71 12 = nI (es.length + 1)) (h2 : ∀ k, k < 4 * es.length → w.1 80 k = u.1 80 k) (a0 : w.1 80 (4 * es.length) = e.1) (a1 : w.1 80 (4 * es.length + 1) = e.2.1) (a2 : w.1 80 (4 * es.length + 2) = e.2.2.1) (a3 : w.1 80 (4 * es.length + 3) = e.2.2.2) : ls w (es ++ [e]) := by
  refine ⟨by rw [h1, List.length_append]; rfl, fun k hk => ?_⟩
  rw [List.length_append, List.length_singleton] at hk
  by_cases c : k < es.length
  · rw [List.getElem_append_left c]
    have := h.2 k c
    rw [h2 _ (by omega), h2 _ (by omega), h2 _ (by omega), h2 _ (by omega)]
    exact this
  · obtain rfl : k = es.length := by omega
    rw [List.getElem_append_right (Nat.le_refl _)]
    simp only [Nat.sub_self, List.getElem_cons_zero]
    exact ⟨a0, a1, a2, a3⟩
theorem isM_L {u w : tc_S} {B : Nat} {g : mp} (h : isM u B g) (hf : fr fL u w) : isM w B g := isM_fr h hf fun k _ => by unfold fL; omega
theorem pm_adds4 {G : tc_G} (hG : gm G) (h4 : gm4 G) {u : tc_S} {y n k f : Nat} (hy : y + 4 ≤ 3253) (hn : n < 72) (hl : u.1 71 12 = nI n) (hk : k < 4) : lo_X12_adds_11 G (f + 1) 71 (nI y) (nI k) u = lo_X12_adds_11 G f 71 (nI y) (nI (k + 1)) (tc_w u 80 (4 * n + k) (u.1 72 (y + k))) := by
  rw [lo_X12_adds_11, if_neg (show ¬ (4 : Int32) ≤ nI k from fun q => by
    rw [show (4 : Int32) = nI 4 from rfl, nI_leI (by omega) (by omega)] at q
    omega), hG.1.1, nI_add, pu_ld hG.1.2 (by omega) (by omega), h4.1, hl, show (4 : Int32) * nI n = nI (4 * n) from pk_mul 4 n, nI_add, pu_sd h4.2 (by omega) (by omega)]
  unfold tc_let
  rw [nI_1]
theorem pm_adds {G : tc_G} (hG : gm G) (h4 : gm4 G) {u : tc_S} {B i : Nat} {g : mp} {es : List en} (hB : B + 292 ≤ 3253) (hM : isM u B g) (hi : i < 68) (hc : g (20 + 4 * i) = nI (ck g i) ∧ ck g i ≤ 1000) (hl : ls u es) (hn : es.length < 72) : y2 (fn_X12_adds G 71 (nI (B + (20 + 4 * i))) u) (fun _ w => ls w (es ++ (if ck g i = 0 then [] else [gc g i])) ∧ fr fL u w) := by
  have hfu := tc_fu_big
  unfold fn_X12_adds
  have e1 : u.1 72 (B + (20 + 4 * i)) = nI (ck g i) := by rw [hM _ (by omega)]; exact hc.1
  refine yl_e (pm_isEntry hG (by omega) e1 (by omega)) ?_
  rw [e1]
  by_cases h0 : ck g i = 0
  · rw [h0, if_pos (show nI 0 = 0 from rfl), if_pos rfl, if_pos rfl, List.append_nil]
    exact yl_ok ⟨hl, fr_refl⟩
  · rw [if_neg (nI_ne0 (by omega) (by omega)), if_neg i_n1, if_neg h0]
    obtain ⟨f, hf⟩ : ∃ k, tc_fu = k + 1 + 1 + 1 + 1 + 1 := ⟨tc_fu - 5, by omega⟩
    have hl1 := hl.1
    have n1 : ∀ (w : tc_S) (j : Nat) (x : Int32), (tc_w w 80 j x).1 71 12 = w.1 71 12 := fun w j x => by rw [w_get, if_neg (by omega)]
    have n2 : ∀ (w : tc_S) (j k : Nat) (x : Int32), (tc_w w 80 j x).1 72 k = w.1 72 k := fun w j k x => by rw [w_get, if_neg (by omega)]
    rw [hf, show (0 : Int32) = nI 0 from rfl, pm_adds4 hG h4 (by omega) hn hl1 (by omega), pm_adds4 hG h4 (by omega) hn (by rw [n1]; exact hl1) (by omega), pm_adds4 hG h4 (by omega) hn (by rw [n1, n1]; exact hl1) (by omega), pm_adds4 hG h4 (by omega) hn (by rw [n1, n1, n1]; exact hl1) (by omega), lo_X12_adds_11, if_pos (by decide)]
    refine yl_let (yl_ok ⟨?_, ?_⟩)
    · simp only [n1, n2]
      have g0 : u.1 72 (B + (20 + 4 * i) + 0) = (gc g i).1 := hM _ (by omega)
      have g1 : u.1 72 (B + (20 + 4 * i) + 1) = (gc g i).2.1 := by rw [show B + (20 + 4 * i) + 1 = B + (21 + 4 * i) by omega]; exact hM _ (by omega)
      have g2 : u.1 72 (B + (20 + 4 * i) + 2) = (gc g i).2.2.1 := by rw [show B + (20 + 4 * i) + 2 = B + (22 + 4 * i) by omega]; exact hM _ (by omega)
      have g3 : u.1 72 (B + (20 + 4 * i) + 3) = (gc g i).2.2.2 := by rw [show B + (20 + 4 * i) + 3 = B + (23 + 4 * i) by omega]; exact hM _ (by omega)
      rw [show (0 + 1 : Nat) = 1 from rfl, show (1 + 1 : Nat) = 2 from rfl, show (2 + 1 : Nat) = 3 from rfl, g0, g1, g2, g3, hl1, nI_1]
      refine ls_push hl ?_ ?_ ?_ ?_ ?_ ?_
      · rw [w_get, if_pos ⟨rfl, rfl⟩]
      · intro k hk
        simp only [w_get]
        rw [if_neg (by omega), if_neg (by omega), if_neg (by omega), if_neg (by omega), if_neg (by omega)]
      · simp only [w_get]
        rw [if_neg (by omega), if_neg (by omega), if_neg (by omega), if_neg (by omega), if_pos (by simp)]
      · simp only [w_get]
        rw [if_neg (by omega), if_neg (by omega), if_neg (by omega), if_pos (by simp)]
      · simp only [w_get]
        rw [if_neg (by omega), if_neg (by omega), if_pos (by simp)]
      · simp only [w_get]
        rw [if_neg (by omega), if_pos (by simp)]
    · exact fr_w (fr_w (fr_w (fr_w (fr_w fr_refl (Or.inl rfl)) (Or.inl rfl)) (Or.inl rfl)) (Or.inl rfl)) (Or.inr ⟨rfl, rfl⟩)
theorem sl_len (g : mp) : ∀ n j, (sl g n j).length ≤ n
  | 0, _ => Nat.le_refl _
  | n + 1, j => by
    rw [sl, List.length_append]
    have := sl_len g n (j + 1)
    split
    · simp only [List.length_nil]; omega
    · simp only [List.length_singleton]; omega
theorem il_len (g : mp) (b : Nat) : ∀ n j, (il g b n j).length ≤ n
  | 0, _ => Nat.le_refl _
  | n + 1, j => by
    rw [il, List.length_append]
    have := il_len g b n (j + 1)
    split
    · simp only [List.length_nil]; omega
    · simp only [List.length_singleton]; omega
theorem map_if {g : mp} {i : Nat} : (if ck g i = 0 then [] else [gc g i]) = (if ck g i = 0 then [] else [i]).map (gc g) := by
  split <;> rfl
theorem pm_lists57 {G : tc_G} (hG : gm G) (h4 : gm4 G) {B : Nat} {g : mp} (hB : B + 292 ≤ 3253) (hg : mwf g) : ∀ (n j f : Nat) (u : tc_S) (es : List en), isM u B g → ls u es → j + n = mn g 18 → n < f → es.length + n ≤ 72 → y2 (lo_X12_lists_57 G f 71 (nI B) (nI j) u) (fun _ w => ls w (es ++ (sl g n j).map (gc g)) ∧ fr fL u w) := by
  have hst : mn g 18 ≤ 4 := Nat.le_trans hg.1.2.1.2 hg.1.1.2.2.2.1
  have c := hg.1.2.2.1
  intro n
  induction n with
  | zero =>
    intro j f u es hM hl hj hf hn
    obtain ⟨f, rfl⟩ : ∃ k, f = k + 1 := ⟨f - 1, by omega⟩
    rw [lo_X12_lists_57, hG.1.1, show nI B + 18 = nI (B + 18) from nI_add B 18, isM_ld hG hM hB (by omega), hg.1.2.1.1, pu_le (by omega) (by omega), if_pos (by omega)]
    refine yl_ok ⟨?_, fr_refl⟩
    rw [sl, List.map_nil, List.append_nil]
    exact hl
  | succ n ih =>
    intro j f u es hM hl hj hf hn
    obtain ⟨f, rfl⟩ : ∃ k, f = k + 1 := ⟨f - 1, by omega⟩
    rw [lo_X12_lists_57, hG.1.1, show nI B + 18 = nI (B + 18) from nI_add B 18, isM_ld hG hM hB (by omega), hg.1.2.1.1, pu_le (by omega) (by omega), if_neg (by omega)]
    refine yl_e pm_cellS ?_
    rw [msc_ci]
    refine yl_b (pm_adds hG h4 hB hM (by omega) ⟨(c _ (by omega)).1, (c _ (by omega)).2.1⟩ hl (by omega)) fun r w hw => ?_
    refine yl_let ?_
    rw [nI_1]
    refine yl_m (ih (j + 1) f w _ (isM_L hM hw.2) hw.1 (by omega) (by omega) ?_) fun r hx => ⟨?_, fr_trans hw.2 hx.2⟩
    · rw [List.length_append]
      split
      · simp only [List.length_nil]; omega
      · simp only [List.length_singleton]; omega
    · have := hx.1
      rw [map_if, List.append_assoc, ← List.map_append] at this
      rw [sl]
      exact this
theorem pm_lists21 {G : tc_G} (hG : gm G) (h4 : gm4 G) {B b : Nat} {g : mp} {Q : Int32 × tc_S → Prop} (hB : B + 292 ≤ 3253) (hg : mwf g) (hb : b < mn g 0) (K : Nat → Int32 → Int32 → tc_S → Option (Int32 × tc_S)) : ∀ (n p f : Nat) (u : tc_S) (es : List en), isM u B g → ls u es → p + n = mn g 1 → n < f → es.length + n ≤ 72 → (∀ w, ls w (es ++ (il g b n p).map (gc g)) → fr fL u w → yl (K 71 (nI B) (nI (b + 1)) w) Q) → yl (lo_X12_lists_21 G K f 71 (nI B) (nI b) (nI p) u) Q := by
  have a := hg.1.1
  have hnb := a.2.1.2
  have hs := a.2.2.1.2
  have c := hg.1.2.2.1
  intro n
  induction n with
  | zero =>
    intro p f u es hM hl hj hf hn hK
    obtain ⟨f, rfl⟩ : ∃ k, f = k + 1 := ⟨f - 1, by omega⟩
    rw [lo_X12_lists_21, hG.1.1, show nI B + 1 = nI (B + 1) from nI_add B 1, isM_ld hG hM hB (by omega), a.1 1 (by omega), pu_le (by omega) (by omega), if_pos (by omega)]
    refine yl_let ?_
    rw [nI_1]
    refine hK u ?_ fr_refl
    rw [il, List.map_nil, List.append_nil]
    exact hl
  | succ n ih =>
    intro p f u es hM hl hj hf hn hK
    obtain ⟨f, rfl⟩ : ∃ k, f = k + 1 := ⟨f - 1, by omega⟩
    rw [lo_X12_lists_21, hG.1.1, show nI B + 1 = nI (B + 1) from nI_add B 1, isM_ld hG hM hB (by omega), a.1 1 (by omega), pu_le (by omega) (by omega), if_neg (by omega)]
    refine yl_e (pm_cell (by omega)) ?_
    rw [mcell_ci]
    refine yl_b (pm_adds hG h4 hB hM (by omega) ⟨(c _ (by omega)).1, (c _ (by omega)).2.1⟩ hl (by omega)) fun r w hw => ?_
    refine yl_let ?_
    rw [nI_1]
    refine ih (p + 1) f w _ (isM_L hM hw.2) hw.1 (by omega) (by omega) ?_ ?_
    · rw [List.length_append]
      split
      · simp only [List.length_nil]; omega
      · simp only [List.length_singleton]; omega
    · intro x hx hf2
      refine hK x ?_ (fr_trans hw.2 hf2)
      rw [map_if, List.append_assoc, ← List.map_append] at hx
      rw [il]
      exact hx
theorem pm_lists7 {G : tc_G} (hG : gm G) (h4 : gm4 G) {B : Nat} {g : mp} (hB : B + 292 ≤ 3253) (hg : mwf g) : ∀ (n b f : Nat) (u : tc_S) (es : List en), isM u B g → ls u es → b + n = mn g 0 → n < f → es.length + 4 * n ≤ 64 → y2 (lo_X12_lists_7 G f 71 (nI B) (nI b) u) (fun _ w => ls w (es ++ (ol g n b ++ sl g (mn g 18) 0).map (gc g)) ∧ fr fL u w) := by
  have a := hg.1.1
  have hnb := a.2.1.2
  have hs := a.2.2.1.2
  have hfu := tc_fu_big
  have hst : mn g 18 ≤ 4 := Nat.le_trans hg.1.2.1.2 hg.1.1.2.2.2.1
  intro n
  induction n with
  | zero =>
    intro b f u es hM hl hj hf hn
    obtain ⟨f, rfl⟩ : ∃ k, f = k + 1 := ⟨f - 1, by omega⟩
    rw [lo_X12_lists_7, hG.1.1, show nI B + 0 = nI (B + 0) from nI_add B 0, isM_ld hG hM hB (by omega), a.1 0 (by omega), pu_le (by omega) (by omega), if_pos (by omega), show (0 : Int32) = nI 0 from rfl, ol, List.nil_append]
    exact pm_lists57 hG h4 hB hg (mn g 18) 0 tc_fu u es hM hl (by omega) (by omega) (by omega)
  | succ n ih =>
    intro b f u es hM hl hj hf hn
    obtain ⟨f, rfl⟩ : ∃ k, f = k + 1 := ⟨f - 1, by omega⟩
    rw [lo_X12_lists_7, hG.1.1, show nI B + 0 = nI (B + 0) from nI_add B 0, isM_ld hG hM hB (by omega), a.1 0 (by omega), pu_le (by omega) (by omega), if_neg (by omega), show (0 : Int32) = nI 0 from rfl]
    refine pm_lists21 hG h4 hB hg (by omega) _ (mn g 1) 0 tc_fu u es hM hl (by omega) (by omega) (by omega) ?_
    intro w hw hf2
    have hlen := il_len g b (mn g 1) 0
    refine yl_m (ih (b + 1) f w _ (isM_L hM hf2) hw (by omega) (by omega) ?_) fun r hx => ⟨?_, fr_trans hf2 hx.2⟩
    · rw [List.length_append, List.length_map]
      omega
    · have := hx.1
      rw [List.append_assoc, ← List.map_append, ← List.append_assoc] at this
      rw [ol]
      exact this
theorem pm_lists {G : tc_G} (hG : gm G) (h4 : gm4 G) {u : tc_S} {B : Nat} {g : mp} (hB : B + 292 ≤ 3253) (hM : isM u B g) (hg : mwf g) : y2 (fn_X12_lists G 71 (nI B) u) (fun _ w => ls w (mes g) ∧ fr fL u w) := by
  have hfu := tc_fu_big
  have hnb := hg.1.1.2.1.2
  unfold fn_X12_lists
  refine yl_let ?_
  have f1 : fr fL u (tc_w u 71 12 0) := fr_w fr_refl (Or.inr ⟨rfl, rfl⟩)
  have z := pm_lists7 hG h4 hB hg (mn g 0) 0 tc_fu (tc_w u 71 12 0) [] (isM_L hM f1) ⟨by rw [w_get, if_pos ⟨rfl, rfl⟩]; rfl, fun k hk => absurd hk (Nat.not_lt_zero k)⟩ (by omega) (by omega) (by simp only [List.length_nil]; omega)
  exact yl_m z fun r hx => ⟨hx.1, fr_trans f1 hx.2⟩
theorem mes_len {g : mp} (h : mwf g) : (mes g).length ≤ 68 := by
  unfold mes
  rw [List.length_map]
  have hp := mcl_pw h
  have hm := fun x => (mcl_mem h (x := x)).mp
  have : ∀ (l : List Nat) (b n : Nat), l.Pairwise (· < ·) → (∀ x, x ∈ l → b ≤ x ∧ x < b + n) → l.length ≤ n := by
    intro l
    induction l with
    | nil => intro b n _ _; exact Nat.zero_le _
    | cons y l ih =>
      intro b n hp hx
      have hy := hx y (List.mem_cons_self ..)
      have hp := List.pairwise_cons.mp hp
      have := ih (y + 1) (b + n - (y + 1)) hp.2 fun x hxl => ⟨hp.1 x hxl, by have := hx x (List.mem_cons_of_mem _ hxl); have := hp.1 x hxl; omega⟩
      rw [List.length_cons]
      omega
  exact this (mcl g) 0 68 hp fun x hx => ⟨by omega, by have := hm x hx; omega⟩
