/-! arranged: the reference -/
def gm6 (G : tc_G) : Prop := (tc_p G 71 18 = 84 ∧ tc_p G 71 19 = 85 ∧ tc_p G 71 20 = 86 ∧ tc_p G 71 21 = 87) ∧ G.2.2.1 84 = 72 ∧ G.2.2.1 85 = 32 ∧ G.2.2.1 86 = 32 ∧ G.2.2.1 87 = 4
theorem in_gm6 : gm6 (tc_gl in_L4) := ⟨⟨rfl, rfl, rfl, rfl⟩, rfl, rfl, rfl, rfl⟩
def kq (es : List en) (k : Nat) : Nat := ky (es[k]?.getD e0)
def esK (es : List en) : Prop := (∀ k (h : k < es.length), (es[k]).1 = nI (kq es k + 1) ∧ kq es k ≤ 999) ∧ (∀ j k, j < k → k < es.length → kq es j ≠ kq es k) ∧ es.length ≤ 69
def byS (u : tc_S) (g : mp) : Prop := ∀ k, k < 4 → u.1 87 k = g (7 + k)
theorem pr_hashBy {G : tc_G} (h6 : gm6 G) {u : tc_S} {g : mp} {q w : Nat} (hS : wS g) (hb : byS u g) (hw : w < 2) (hq : q ≤ 999) : fn_X12_hashBy G 71 (nI q) (nI w) (nI (mn g 0)) u = some (nI (mhash g w q), u) := by
  have h1 := hS.2.2.2 (7 + 2 * w) (by omega) (by omega)
  have h2 := hS.2.2.2 (8 + 2 * w) (by omega) (by omega)
  have hm : mn g (7 + 2 * w) * q ≤ 1008 * 999 := Nat.mul_le_mul h1 hq
  have hn := hS.2.1
  unfold fn_X12_hashBy
  rw [h6.1.2.2.2, show (2 : Int32) * nI w = nI (2 * w) from pk_mul 2 w, show nI (2 * w) + 1 = nI (2 * w + 1) from nI_1 _, pu_ld h6.2.2.2.2 (by omega) (by omega), pu_ld h6.2.2.2.2 (by omega) (by omega), hb _ (by omega), hb _ (by omega), hS.1 _ (by omega), hS.1 _ (by omega), pu_nz hn.1 (by omega), pk_mul, nI_add, show (1009 : Int32) = nI 1009 from rfl, show 7 + (2 * w + 1) = 8 + 2 * w by omega, pu_mod (by omega) (by omega) (by omega), pu_mod (by omega) hn.1 (by omega)]
  rfl
theorem pr_otherBy {G : tc_G} (h6 : gm6 G) {u : tc_S} {g : mp} {q b : Nat} (hS : wS g) (hb : byS u g) (hq : q ≤ 999) (hbl : b < 2 ^ 31) : fn_X12_otherBy G 71 (nI q) (nI b) (nI (mn g 0)) u = some (nI (coth g q b), u) := by
  have hn := hS.2.1
  have l0 := wS_hash hS 0 q
  have e0 : fn_X12_hashBy G 71 (nI q) 0 (nI (mn g 0)) u = some (nI (mhash g 0 q), u) := pr_hashBy h6 hS hb (w := 0) (by omega) hq
  have e1 : fn_X12_hashBy G 71 (nI q) 1 (nI (mn g 0)) u = some (nI (mhash g 1 q), u) := pr_hashBy h6 hS hb (w := 1) (by omega) hq
  unfold fn_X12_otherBy bl_X12_otherBy_27 coth
  rw [e0, pu_b, pu_eq (by omega) hbl, e1, pu_b]
  split <;> rfl
/-- the edges of those that are laid -/
def eds (g : mp) (es : List en) (A : List Nat) (F : Nat → Nat) : Nat → Nat → List (Nat × Nat)
  | 0, _ => []
  | n + 1, k => (if kq es k ∈ A then [(F (kq es k), coth g (kq es k) (F (kq es k)))] else []) ++ eds g es A F n (k + 1)
theorem eds_mem {g : mp} {es : List en} {A : List Nat} {F : Nat → Nat} {p : Nat × Nat} : ∀ (n k : Nat), p ∈ eds g es A F n k ↔ ∃ e, k ≤ e ∧ e < k + n ∧ kq es e ∈ A ∧ p = (F (kq es e), coth g (kq es e) (F (kq es e))) := by
  intro n
  induction n with
  | zero => intro k; exact ⟨fun h => (by cases h), fun ⟨e, h1, h2, _⟩ => (by omega)⟩
  | succ n ih =>
    intro k
    rw [eds, List.mem_append, ih]
    constructor
    · rintro (h | ⟨e, h1, h2, h3⟩)
      · by_cases c : kq es k ∈ A
        · rw [if_pos c, List.mem_singleton] at h
          exact ⟨k, by omega, by omega, c, h⟩
        · rw [if_neg c] at h; cases h
      · exact ⟨e, by omega, by omega, h3⟩
    · rintro ⟨e, h1, h2, h3, h4⟩
      by_cases c : e = k
      · left
        rw [c] at h3 h4
        rw [if_pos h3, List.mem_singleton]
        exact h4
      · exact Or.inr ⟨e, by omega, by omega, h3, h4⟩
/-- what is laid so far: A of the first E, each in the bucket that F tells -/
def aR (g : mp) (es : List en) (u : tc_S) (E : Nat) (A : List Nat) (F : Nat → Nat) : Prop :=
  ls u es ∧ byS u g ∧ (∀ e, e < E → (kq es e ∈ A ∧ u.1 84 e = nI (F (kq es e))) ∨ (kq es e ∉ A ∧ u.1 84 e = -1)) ∧ (∀ b, b < mn g 0 → u.1 85 b = nI (lcb F b A) ∧ lcb F b A ≤ mn g 1) ∧ (∀ q ∈ A, (F q = mhash g 0 q ∨ F q = mhash g 1 q) ∧ ∃ e, e < E ∧ kq es e = q) ∧ A.Nodup
def aop (g : mp) (A : List Nat) (F : Nat → Nat) (b : Nat) : Bool := decide (lcb F b A < mn g 1)
def afr (g : mp) (es : List en) (E : Nat) (A : List Nat) (F : Nat → Nat) : Nat → Nat := rf (mn g 0) (aop g A F) (eds g es A F E 0)
theorem coth_in {g : mp} {q b : Nat} : coth g q b = mhash g 0 q ∨ coth g q b = mhash g 1 q := by
  unfold coth
  split
  · exact Or.inr rfl
  · exact Or.inl rfl
theorem F_lt {g : mp} (hS : wS g) {q x : Nat} (h : x = mhash g 0 q ∨ x = mhash g 1 q) : x < mn g 0 := by
  rcases h with z | z
  · rw [z]; exact wS_hash hS 0 q
  · rw [z]; exact wS_hash hS 1 q
theorem eds_lt {g : mp} {es : List en} {A : List Nat} {F : Nat → Nat} {E : Nat} (hS : wS g) (hA : ∀ q ∈ A, F q = mhash g 0 q ∨ F q = mhash g 1 q) : ∀ p ∈ eds g es A F E 0, p.1 < mn g 0 ∧ p.2 < mn g 0 := by
  intro p hp
  obtain ⟨e, -, -, h3, h4⟩ := (eds_mem E 0).mp hp
  rw [h4]
  exact ⟨F_lt hS (hA _ h3), F_lt hS coth_in⟩
theorem pr_far52 {G : tc_G} (h4 : gm4 G) (h6 : gm6 G) {u0 : tc_S} {g : mp} {es : List en} {A : List Nat} {F : Nat → Nat} {E : Nat} {v4 : Int32} {K : Nat → Int32 → Int32 → Int32 → tc_S → Option (Int32 × tc_S)} {Q : Int32 × tc_S → Prop} (hS : wS g) (hes : esK es) (hE : E ≤ es.length) (h0 : aR g es u0 E A F) : ∀ (n k f : Nat) (a : Nat → Nat) (u : tc_S), k + n = E → n < f → (∀ b, b < mn g 0 → u.1 86 b = nI (a b) ∧ a b ≤ 1000) → fr (fun o _ => o = 86) u0 u → (∀ w, (∀ b, b < mn g 0 → w.1 86 b = nI (rr (eds g es A F n k) a b) ∧ rr (eds g es A F n k) a b ≤ 1000) → fr (fun o _ => o = 86) u0 w → yl (K 71 (nI E) (nI (mn g 0)) (v4 + 1) w) Q) → yl (lo_X12_laysFar_52 G K f 71 (nI E) (nI (mn g 0)) v4 (nI k) u) Q := by
  have hn := hS.2.1
  have hl69 := hes.2.2
  intro n
  induction n with
  | zero =>
    intro k f a u hk hf ha hr hK
    obtain ⟨f, rfl⟩ : ∃ k, f = k + 1 := ⟨f - 1, by omega⟩
    rw [lo_X12_laysFar_52, pu_le (by omega) (by omega), if_pos (by omega)]
    exact yl_let (hK u ha hr)
  | succ n ih =>
    intro k f a u hk hf ha hr hK
    obtain ⟨f, rfl⟩ : ∃ k, f = k + 1 := ⟨f - 1, by omega⟩
    have hb : byS u g := fun j hj => by rw [hr _ _ (by omega)]; exact h0.2.1 j hj
    have hkl : k < es.length := by omega
    obtain ⟨k1, k2⟩ := hes.1 k hkl
    have l80 : u.1 80 (4 * k) = nI (kq es k + 1) := by
      rw [hr _ _ (by omega), (h0.1.2 k hkl).1, k1]
    rw [lo_X12_laysFar_52, pu_le (by omega) (by omega), if_neg (by omega), h6.1.1, h6.1.2.2.1, h4.1]
    refine yl_ld 72 h6.2.1 (by omega) (by omega) ?_
    rw [hr _ _ (by omega)]
    rw [eds] at hK
    unfold bl_X12_laysFar_139 bl_X12_laysFar_140
    rcases h0.2.2.1 k (by omega) with ⟨c1, c2⟩ | ⟨c1, c2⟩
    · rw [if_pos c1, List.singleton_append] at hK
      have hF := (h0.2.2.2.2.1 _ c1).1
      have hFl := F_lt hS hF
      have hcl : coth g (kq es k) (F (kq es k)) < mn g 0 := F_lt hS coth_in
      rw [c2]
      refine yl_p (nI_pos' (by omega)) ?_
      rw [show (4 : Int32) * nI k = nI (4 * k) from pk_mul 4 k]
      refine yl_ld 288 h4.2 (by omega) (by omega) ?_
      rw [l80, nI_pred]
      refine yl_e (pr_otherBy h6 hS hb k2 (by omega)) ?_
      refine yl_ld 32 h6.2.2.2.1 (by omega) (by omega) (yl_ld 32 h6.2.2.2.1 (by omega) (by omega) ?_)
      have a1 := ha _ hFl
      have a2 := ha _ hcl
      rw [a1.1, a2.1, nI_1, pu_le (by omega) (by omega)]
      have nx : ∀ x, x = (if a (F (kq es k)) ≤ a (coth g (kq es k) (F (kq es k))) + 1 then a (F (kq es k)) else a (coth g (kq es k) (F (kq es k))) + 1) → yl (tc_let (nI k + 1) fun x1 => lo_X12_laysFar_52 G K f 71 (nI E) (nI (mn g 0)) v4 x1 (tc_w u 86 (F (kq es k)) (nI x))) Q := by
        intro x hx
        refine yl_let ?_
        rw [nI_1]
        refine ih (k + 1) f (rs1 a (F (kq es k), coth g (kq es k) (F (kq es k)))) _ (by omega) (by omega) (fun b hb2 => ?_) (fr_w hr rfl) hK
        have hd := rs1_dn a (F (kq es k), coth g (kq es k) (F (kq es k))) b
        refine ⟨?_, by have := (ha b hb2).2; omega⟩
        rw [w_get]
        unfold rs1
        by_cases d : b = F (kq es k)
        · rw [if_pos ⟨rfl, d⟩, if_pos d, hx]
        · rw [if_neg (fun z => d z.2), if_neg d]
          exact (ha b hb2).1
      by_cases c : a (F (kq es k)) ≤ a (coth g (kq es k) (F (kq es k))) + 1
      · refine yl_p c (yl_ld 32 h6.2.2.2.1 (by omega) (by omega) ?_)
        rw [a1.1]
        exact yl_sd 32 h6.2.2.2.1 (by omega) (by omega) (nx _ (by rw [if_pos c]))
      · refine yl_n c (yl_ld 32 h6.2.2.2.1 (by omega) (by omega) ?_)
        rw [a2.1, nI_1]
        exact yl_sd 32 h6.2.2.2.1 (by omega) (by omega) (nx _ (by rw [if_neg c]))
    · rw [if_neg c1, List.nil_append] at hK
      rw [c2]
      refine yl_n (by decide) (yl_let ?_)
      rw [nI_1]
      exact ih (k + 1) f a u (by omega) (by omega) ha hr hK
theorem pr_far43 {G : tc_G} (h4 : gm4 G) (h6 : gm6 G) {u0 : tc_S} {g : mp} {es : List en} {A : List Nat} {F : Nat → Nat} {E : Nat} (hS : wS g) (hes : esK es) (hE : E ≤ es.length) (h0 : aR g es u0 E A F) : ∀ (n t f : Nat) (a : Nat → Nat) (u : tc_S), t + n = mn g 0 → n < f → (∀ b, b < mn g 0 → u.1 86 b = nI (a b) ∧ a b ≤ 1000) → fr (fun o _ => o = 86) u0 u → y2 (lo_X12_laysFar_43 G f 71 (nI E) (nI (mn g 0)) (nI t) u) (fun _ w => (∀ b, b < mn g 0 → w.1 86 b = nI (rn (eds g es A F E 0) n a b) ∧ rn (eds g es A F E 0) n a b ≤ 1000) ∧ fr (fun o _ => o = 86) u0 w) := by
  have hfu := tc_fu_big
  have hn := hS.2.1
  have hl69 := hes.2.2
  intro n
  induction n with
  | zero =>
    intro t f a u ht hf ha hr
    obtain ⟨f, rfl⟩ : ∃ k, f = k + 1 := ⟨f - 1, by omega⟩
    rw [lo_X12_laysFar_43, pu_le (by omega) (by omega), if_pos (by omega)]
    exact yl_ok ⟨ha, hr⟩
  | succ n ih =>
    intro t f a u ht hf ha hr
    obtain ⟨f, rfl⟩ : ∃ k, f = k + 1 := ⟨f - 1, by omega⟩
    rw [lo_X12_laysFar_43, pu_le (by omega) (by omega), if_neg (by omega)]
    refine pr_far52 h4 h6 hS hes hE h0 E 0 tc_fu a u (by omega) (by omega) ha hr fun w hw hfr => ?_
    rw [nI_1]
    exact ih (t + 1) f _ w (by omega) (by omega) hw hfr
theorem pr_far {G : tc_G} (h4 : gm4 G) (h6 : gm6 G) {u : tc_S} {g : mp} {es : List en} {A : List Nat} {F : Nat → Nat} {E : Nat} (hS : wS g) (hes : esK es) (hE : E ≤ es.length) (h0 : aR g es u E A F) : y2 (fn_X12_laysFar G 71 (nI E) (nI (mn g 0)) (nI (mn g 1)) u) (fun _ w => (∀ b, b < mn g 0 → w.1 86 b = nI (afr g es E A F b) ∧ afr g es E A F b ≤ 1000) ∧ fr (fun o _ => o = 86) u w) := by
  have hfu := tc_fu_big
  have hn := hS.2.1
  have hs := hS.2.2.1
  have lo : ∀ (n k f : Nat) (w : tc_S), k + n = mn g 0 → n < f → (∀ b, b < k → w.1 86 b = nI (if aop g A F b = true then 0 else 1000)) → fr (fun o _ => o = 86) u w → y2 (lo_X12_laysFar_3 G f 71 (nI E) (nI (mn g 0)) (nI (mn g 1)) (nI k) w) (fun _ w => (∀ b, b < mn g 0 → w.1 86 b = nI (afr g es E A F b) ∧ afr g es E A F b ≤ 1000) ∧ fr (fun o _ => o = 86) u w) := by
    intro n
    induction n with
    | zero =>
      intro k f w hk hf hb hr
      obtain ⟨f, rfl⟩ : ∃ k, f = k + 1 := ⟨f - 1, by omega⟩
      rw [lo_X12_laysFar_3, pu_le (by omega) (by omega), if_pos (by omega)]
      exact pr_far43 h4 h6 hS hes hE h0 (mn g 0) 0 tc_fu (fun b => if aop g A F b = true then 0 else 1000) w (by omega) (by omega) (fun b hb2 => ⟨hb b (by omega), by split <;> omega⟩) hr
    | succ n ih =>
      intro k f w hk hf hb hr
      obtain ⟨f, rfl⟩ : ∃ k, f = k + 1 := ⟨f - 1, by omega⟩
      have hc := h0.2.2.2.1 k (by omega)
      rw [lo_X12_laysFar_3, pu_le (by omega) (by omega), if_neg (by omega), h6.1.2.1, h6.1.2.2.1]
      refine yl_ld 32 h6.2.2.1 (by omega) (by omega) ?_
      rw [hr _ _ (by omega), hc.1, pu_le (by omega) (by omega)]
      unfold bl_X12_laysFar_33
      have nx : ∀ x : Int32, x = nI (if aop g A F k = true then 0 else 1000) → yl (tc_sd G w 86 (nI k) x fun u17 => tc_let (nI k + 1) fun x18 => lo_X12_laysFar_3 G f 71 (nI E) (nI (mn g 0)) (nI (mn g 1)) x18 u17) (fun r => (∀ b, b < mn g 0 → r.2.1 86 b = nI (afr g es E A F b) ∧ afr g es E A F b ≤ 1000) ∧ fr (fun o _ => o = 86) u r.2) := by
        intro x hx
        refine yl_sd 32 h6.2.2.2.1 (by omega) (by omega) (yl_let ?_)
        rw [nI_1]
        refine ih (k + 1) f _ (by omega) (by omega) (fun b hb2 => ?_) (fr_w hr rfl)
        rw [w_get]
        by_cases d : b = k
        · rw [if_pos ⟨rfl, d⟩, d, hx]
        · rw [if_neg (fun z => d z.2)]; exact hb b (by omega)
      by_cases c : mn g 1 ≤ lcb F k A
      · refine yl_p c (nx 1000 ?_)
        rw [if_neg (by unfold aop; rw [decide_eq_false (by omega)]; decide)]
        rfl
      · refine yl_n c (nx 0 ?_)
        rw [if_pos (by unfold aop; rw [decide_eq_true (by omega)])]
        rfl
  unfold fn_X12_laysFar
  exact lo (mn g 0) 0 tc_fu u (by omega) (by omega) (fun b hb => by omega) fr_refl
/-- nothing leads to room: it can't be -/
theorem aR_no {g : mp} {es : List en} {u : tc_S} {E k : Nat} {A : List Nat} {F : Nat → Nat} (hS : wS g) (h : aR g es u E A F) (h0 : 1000 ≤ afr g es E A F (mhash g 0 k)) (h1 : 1000 ≤ afr g es E A F (mhash g 1 k)) : ¬ arr (mhash g 0) (mhash g 1) (mn g 1) (k :: A) := by
  have hn := hS.2.1
  have hlt := eds_lt (es := es) (E := E) hS (fun q hq => (h.2.2.2.2.1 q hq).1)
  refine arr_no (nb := mn g 0) (F := F) (R := fun b => decide (b < mn g 0 ∧ 1000 ≤ afr g es E A F b)) (fun b hb => (of_decide_eq_true hb).1) (fun b hb => ?_) (fun q hq hb => ?_) ⟨decide_eq_true ⟨wS_hash hS 0 k, h0⟩, decide_eq_true ⟨wS_hash hS 1 k, h1⟩⟩
  · have hb := of_decide_eq_true hb
    have no := rf_no (by omega) hb.2 0
    refine Classical.byContradiction fun z => no ⟨hb.1, decide_eq_true (by omega)⟩
  · have hb := of_decide_eq_true hb
    obtain ⟨f1, e, e1, e2⟩ := h.2.2.2.2.1 q hq
    have hc : 1000 ≤ afr g es E A F (coth g q (F q)) := by
      refine Classical.byContradiction fun z => ?_
      have hcl : coth g q (F q) < mn g 0 := F_lt hS coth_in
      have p := (rf_S hlt (op := aop g A F) _ hcl).2 (by unfold afr at z; omega)
      refine rf_no (by omega) hb.2 (rf (mn g 0) (aop g A F) (eds g es A F E 0) (coth g q (F q)) + 1) ⟨hb.1, coth g q (F q), ?_, p⟩
      exact (eds_mem E 0).mpr ⟨e, by omega, by omega, by rw [e2]; exact hq, by rw [e2]⟩
    have hcl : coth g q (F q) < mn g 0 := F_lt hS coth_in
    by_cases d : mhash g 0 q = F q
    · have e3 : coth g q (F q) = mhash g 1 q := by unfold coth; rw [if_pos d]
      rw [e3] at hc hcl
      exact ⟨decide_eq_true (by rw [d]; exact hb), decide_eq_true ⟨hcl, hc⟩⟩
    · have d1 : mhash g 1 q = F q := by
        rcases f1 with z | z
        · exact absurd z.symm d
        · exact z.symm
      have e3 : coth g q (F q) = mhash g 0 q := by unfold coth; rw [if_neg d]
      rw [e3] at hc hcl
      exact ⟨decide_eq_true ⟨hcl, hc⟩, decide_eq_true (by rw [d1]; exact hb)⟩
