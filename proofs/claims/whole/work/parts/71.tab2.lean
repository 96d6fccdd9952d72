/-! the class: the hand is emptied; open buckets, empty places; moving -/
theorem tb_set1 {u w : tc_S} {t r i : Nat} {g : mp} {c : Nat → en} (h : tb u t r g c) (hi : r ≤ i) (hi2 : i ≤ r + 4) (hns : mn g 0 * mn g 1 ≤ r) (f1 : fr (fun o k => t + 4 ≤ o ∧ o < t + 10 ∧ k = i) u w) {e : en} (hp : pl w t g i e) : tb w t r g (cset c i e) ∧ fr (fT t) u w := by
  refine ⟨⟨tS_fr h.1 f1 (by omega) (by omega) (by omega), ?_, ?_⟩, fr_mono f1 fun o k hp => ⟨by omega, by omega, by omega⟩⟩
  · intro j hj
    unfold cset
    by_cases e : j = i
    · rw [if_pos e, e]; exact hp
    · rw [if_neg e]
      have := h.2.1 j hj
      unfold pl at this ⊢
      rw [f1 _ _ (by omega), f1 _ _ (by omega), f1 _ _ (by omega), f1 _ _ (by omega), f1 _ _ (by omega), f1 _ _ (by omega)]
      exact this
  · intro x hx
    rw [f1 _ _ (by omega), h.2.2 x hx]
    have z := cnt_set (c := c) (i := i) (e := e) (a := x * mn g 1) (n := mn g 1)
    have hx2 : (x + 1) * mn g 1 ≤ mn g 0 * mn g 1 := Nat.mul_le_mul_right _ (by omega)
    rw [Nat.add_mul, Nat.one_mul] at hx2
    rw [if_neg (by omega), if_neg (by omega)] at z
    rw [show cnt (cset c i e) (x * mn g 1) (mn g 1) = cnt c (x * mn g 1) (mn g 1) by omega]
theorem pc_emptyHand {G : tc_G} {u : tc_S} {t r : Nat} {g : mp} {c : Nat → en} (hT : gT G t r) (hr : r ≤ 200) (h : tb u t r g c) (hns : mn g 0 * mn g 1 ≤ r) : y2 (fn_X9_emptyHand G t u) (fun _ w => tb w t r g (cset c (r + 4) e0) ∧ fr (fT t) u w) := by
  obtain ⟨⟨p0, p11⟩, ⟨p3, p4, p5, p6, p7, p8, p9⟩, l3, ll⟩ := hT
  unfold fn_X9_emptyHand
  rw [p3, show u.1 t 2 = nI (r + 4) from h.1.1.2]
  refine yl_sd (r + 5) (ll _ (by omega) (by omega)) (by omega) (by omega) (yl_ok ?_)
  refine tb_set1 h (by omega) (by omega) hns (fr_w fr_refl ⟨by omega, by omega, rfl⟩) (Or.inl ⟨rfl, ?_⟩)
  rw [w_get, if_pos ⟨rfl, rfl⟩]
/-- which of a key's buckets has an empty place -/
def opb (c : Nat → en) (g : mp) (q : Nat) : Option Nat := if cnt c (mhash g 0 q * mn g 1) (mn g 1) < mn g 1 then some (mhash g 0 q) else if cnt c (mhash g 1 q * mn g 1) (mn g 1) < mn g 1 then some (mhash g 1 q) else none
theorem pl_ent {u : tc_S} {t i q : Nat} {g : mp} {e : en} (h : pl u t g i e) (he : e.1 = nI (q + 1)) (hq : q ≤ 999) : u.1 (t + 4) i = nI q ∧ u.1 (t + 5) i = e.2.1 ∧ u.1 (t + 6) i = e.2.2.1 ∧ u.1 (t + 7) i = e.2.2.2 ∧ u.1 (t + 8) i = nI (mhash g 0 q) ∧ u.1 (t + 9) i = nI (mhash g 1 q) := by
  rcases h with ⟨h1, h2⟩ | ⟨p, p1, p2, p3⟩
  · rw [h1] at he
    exact absurd he.symm (nI_ne0 (by omega) (by omega))
  · rw [he, nI_eq (by omega) (by omega)] at p2
    obtain rfl : p = q := by omega
    exact p3
theorem pl_emp {u : tc_S} {t i : Nat} {g : mp} {e : en} (h : pl u t g i e) : (e.1 = 0 ↔ u.1 (t + 4) i = -1) ∧ (u.1 (t + 4) i < 0 ↔ e.1 = 0) ∧ (e.1 = 0 → e = e0) := by
  rcases h with ⟨h1, h2⟩ | ⟨p, p1, p2, p3, p4⟩
  · rw [h1, h2]
    refine ⟨⟨fun _ => rfl, fun _ => rfl⟩, ⟨fun _ => rfl, fun _ => by decide⟩, fun _ => rfl⟩
  · rw [p2, p3]
    have a : ¬ nI (p + 1) = 0 := nI_ne0 (by omega) (by omega)
    have b : ¬ nI p < 0 := nI_pos (by omega)
    refine ⟨⟨fun q => absurd q a, fun q => ?_⟩, ⟨fun q => absurd q b, fun q => absurd q a⟩, fun q => absurd q a⟩
    exact absurd (show nI p < 0 by rw [q]; decide) b
theorem pc_open {G : tc_G} {u : tc_S} {t r i q : Nat} {g : mp} {c : Nat → en} (hT : gT G t r) (hr : r ≤ 200) (hS : wS g) (h : tb u t r g c) (hi : i ≤ r + 4) (he : (c i).1 = nI (q + 1)) (hq : q ≤ 999) : fn_X9_openBucketFor G t (nI i) u = some (oI (opb c g q), u) := by
  obtain ⟨⟨p0, p11⟩, ⟨p3, p4, p5, p6, p7, p8, p9⟩, l3, ll⟩ := hT
  obtain ⟨e4, e5, e6, e7, e8, e9⟩ := pl_ent (h.2.1 i hi) he hq
  have h0 := wS_hash hS 0 q
  have h1 := wS_hash hS 1 q
  have hnb := hS.2.1.2
  have hns := hS.2.2.1
  have c0 := @cnt_le c (mhash g 0 q * mn g 1) (mn g 1)
  have c1 := @cnt_le c (mhash g 1 q * mn g 1) (mn g 1)
  have es : u.1 (t + 1) 1 = nI (mn g 1) := by rw [h.1.2.1 1 (by omega)]; exact hS.1 1 (by omega)
  unfold fn_X9_openBucketFor bl_X9_openBucketFor_59 opb
  rw [p7, p8, p9, p0, es, pu_ld (ll _ (by omega) (by omega)) (show i < r + 5 by omega) (by omega), e8, pu_ld l3 (by omega) (by omega), h.2.2 _ h0, pu_le (by omega) (by omega)]
  by_cases x : cnt c (mhash g 0 q * mn g 1) (mn g 1) < mn g 1
  · rw [if_pos x, if_neg (by omega), pu_ld (ll _ (by omega) (by omega)) (show i < r + 5 by omega) (by omega), e8]
    rfl
  · rw [if_neg x, if_pos (by omega), pu_ld (ll _ (by omega) (by omega)) (show i < r + 5 by omega) (by omega), e9, pu_ld l3 (by omega) (by omega), h.2.2 _ h1, pu_le (by omega) (by omega)]
    by_cases y : cnt c (mhash g 1 q * mn g 1) (mn g 1) < mn g 1
    · rw [if_pos y, if_neg (by omega), pu_ld (ll _ (by omega) (by omega)) (show i < r + 5 by omega) (by omega), e9]
      rfl
    · rw [if_neg y, if_pos (by omega)]
      rfl
/-- the least empty place of a bucket -/
def epl (c : Nat → en) (g : mp) (b : Nat) : Option Nat := ff (fun p => decide ((c (b * mn g 1 + p)).1 = 0)) (mn g 1) 0
theorem cf_full {P : Nat → Bool} : ∀ {n a : Nat}, (∀ i, a ≤ i → i < a + n → P i = true) → cf P n a = n := by
  intro n
  induction n with
  | zero => intro a _; rfl
  | succ n ih =>
    intro a h
    rw [cf, h a (by omega) (by omega), ih fun i h1 h2 => h i (by omega) (by omega), if_pos rfl]
    omega
theorem ff_some {P : Nat → Bool} {x : Nat} (hx : P x = true) : ∀ {n i : Nat}, i ≤ x → x < i + n → ∃ y, ff P n i = some y := by
  intro n
  induction n with
  | zero => intro i h1 h2; omega
  | succ n ih =>
    intro i h1 h2
    unfold ff
    by_cases h : P i = true
    · exact ⟨i, by rw [if_pos h]⟩
    · rw [if_neg h]
      have : i ≠ x := fun e => h (by rw [e]; exact hx)
      exact ih (by omega) (by omega)
theorem cnt_epl {c : Nat → en} {g : mp} {b : Nat} : cnt c (b * mn g 1) (mn g 1) < mn g 1 ↔ (epl c g b).isSome = true := by
  constructor
  · intro h
    cases he : epl c g b with
    | some p => rfl
    | none =>
      have : cnt c (b * mn g 1) (mn g 1) = mn g 1 := by
        unfold cnt
        refine cf_full fun i h1 h2 => ?_
        have := ff_none he (i - b * mn g 1) (by omega) (by omega)
        rw [show b * mn g 1 + (i - b * mn g 1) = i by omega] at this
        simpa using this
      omega
  · intro h
    cases he : epl c g b with
    | none => rw [he] at h; cases h
    | some p =>
      have hp := ff_lt he
      have hp2 : (c (b * mn g 1 + p)).1 = 0 := by simpa using hp.2.2
      have := @cf_le (fun i => decide (¬ (c i).1 = 0)) (mn g 1) (b * mn g 1)
      rcases Nat.lt_or_eq_of_le this with q | q
      · exact q
      · have : ∀ (n a : Nat), cf (fun i => decide (¬ (c i).1 = 0)) n a = n → ∀ i, a ≤ i → i < a + n → ¬ (c i).1 = 0 := by
          intro n
          induction n with
          | zero => intro a _ i h1 h2; omega
          | succ n ih =>
            intro a hc i h1 h2
            rw [cf] at hc
            have hl := @cf_le (fun i => decide (¬ (c i).1 = 0)) n (a + 1)
            by_cases e : i = a
            · subst e
              intro w
              simp only [w, not_true_eq_false, decide_false, Bool.false_eq_true, if_false] at hc
              omega
            · refine ih (a + 1) ?_ i (by omega) (by omega)
              split at hc <;> omega
        exact absurd hp2 (this _ _ q _ (by omega) (by omega))
theorem pc_lo_epl {G : tc_G} {u : tc_S} {t r b p : Nat} {g : mp} {c : Nat → en} (hT : gT G t r) (hr : r ≤ 200) (h : tP u t r g c) (hb : b * mn g 1 + mn g 1 ≤ r) : ∀ (n i f : Nat), i + n = mn g 1 → 1 ≤ n → n < f → ff (fun p => decide ((c (b * mn g 1 + p)).1 = 0)) n i = some p → lo_X9_emptyPlaceIn_22 G f t (nI (b * mn g 1 + i)) (nI (b * mn g 1 + mn g 1 - 1)) u = some (nI (b * mn g 1 + p), u) := by
  obtain ⟨⟨p0, p11⟩, ⟨p3, p4, p5, p6, p7, p8, p9⟩, l3, ll⟩ := hT
  intro n
  induction n with
  | zero => intro i f hi h1; omega
  | succ n ih =>
    intro i f hi h1 hf hff
    obtain ⟨f, rfl⟩ : ∃ k, f = k + 1 := ⟨f - 1, by omega⟩
    unfold ff at hff
    rw [lo_X9_emptyPlaceIn_22, pu_le (by omega) (by omega)]
    unfold bl_X9_emptyPlaceIn_42
    by_cases hl : b * mn g 1 + mn g 1 - 1 ≤ b * mn g 1 + i
    · rw [if_pos hl]
      have hn : n = 0 := by omega
      subst hn
      split at hff
      · cases hff; rfl
      · cases hff
    · rw [if_neg hl, p3, pu_ld (ll _ (by omega) (by omega)) (show b * mn g 1 + i < r + 5 by omega) (by omega)]
      have hp := pl_emp (h.1 (b * mn g 1 + i) (by omega))
      by_cases he : (c (b * mn g 1 + i)).1 = 0
      · rw [if_pos (hp.2.1.mpr he)]
        rw [if_pos (by simpa using he)] at hff
        cases hff
        rfl
      · rw [if_neg (fun q => he (hp.2.1.mp q))]
        rw [if_neg (by simpa using he)] at hff
        unfold tc_let
        rw [nI_1, show b * mn g 1 + i + 1 = b * mn g 1 + (i + 1) by omega]
        exact ih (i + 1) f (by omega) (by omega) (by omega) hff
theorem pc_epl {G : tc_G} {u : tc_S} {t r b p : Nat} {g : mp} {c : Nat → en} (hT : gT G t r) (hr : r ≤ 200) (hS : wS g) (h : tb u t r g c) (hns : mn g 0 * mn g 1 ≤ r) (hb : b < mn g 0) (he : epl c g b = some p) : fn_X9_emptyPlaceIn G t (nI b) u = some (nI (b * mn g 1 + p), u) := by
  have hfu := tc_fu_big
  have hs := hS.2.2.1
  have hx2 : (b + 1) * mn g 1 ≤ mn g 0 * mn g 1 := Nat.mul_le_mul_right _ (by omega)
  rw [Nat.add_mul, Nat.one_mul] at hx2
  have es : u.1 (t + 1) 1 = nI (mn g 1) := by rw [h.1.2.1 1 (by omega)]; exact hS.1 1 (by omega)
  unfold fn_X9_emptyPlaceIn tc_let
  rw [hT.1.1, es, pk_mul]
  show lo_X9_emptyPlaceIn_22 G tc_fu t (nI (b * mn g 1)) (nI (b * mn g 1) + nI (mn g 1) - 1) u = _
  rw [nI_add, show nI (b * mn g 1 + mn g 1) - 1 = nI (b * mn g 1 + mn g 1 - 1) from pk_sub (b := 1) (by omega)]
  exact pc_lo_epl hT hr h.2 (by omega) (mn g 1) 0 tc_fu (by omega) (by omega) (by omega) he
/-! moving -/
def mvW (u : tc_S) (t i j : Nat) : tc_S := tc_w (tc_w (tc_w (tc_w (tc_w (tc_w (tc_w u (t + 4) j (u.1 (t + 4) i)) (t + 5) j (u.1 (t + 5) i)) (t + 6) j (u.1 (t + 6) i)) (t + 7) j (u.1 (t + 7) i)) (t + 8) j (u.1 (t + 8) i)) (t + 9) j (u.1 (t + 9) i)) (t + 4) i (-1)
theorem mvW_get {u : tc_S} {t i j o k : Nat} : (mvW u t i j).1 o k = if o = t + 4 ∧ k = i then -1 else if t + 4 ≤ o ∧ o ≤ t + 9 ∧ k = j then u.1 o i else u.1 o k := by
  unfold mvW
  simp only [w_get]
  grind
/-- in a bucket -/
def inb (g : mp) (r i b : Nat) : Prop := i < r ∧ i / mn g 1 = b
theorem inb_iff {g : mp} {r i b : Nat} (h1 : 1 ≤ mn g 1) (hns : mn g 0 * mn g 1 ≤ r) (hb : b < mn g 0) : (i < r ∧ i / mn g 1 = b) ↔ (b * mn g 1 ≤ i ∧ i < b * mn g 1 + mn g 1) := by
  have hx2 : (b + 1) * mn g 1 ≤ mn g 0 * mn g 1 := Nat.mul_le_mul_right _ (by omega)
  rw [Nat.add_mul, Nat.one_mul] at hx2
  have h2 : 0 < mn g 1 := h1
  constructor
  · rintro ⟨-, rfl⟩
    constructor
    · exact Nat.div_mul_le_self i (mn g 1)
    · have h3 := Nat.lt_div_mul_add (a := i) h2
      exact h3
  · rintro ⟨h3, h4⟩
    refine ⟨by omega, ?_⟩
    rw [Nat.div_eq_of_lt_le (by omega) (by rw [Nat.add_mul, Nat.one_mul]; exact h4)]
theorem tb_mvW {u w : tc_S} {t r i j : Nat} {g : mp} {c : Nat → en} (h : tb u t r g c) (h1 : 1 ≤ mn g 1) (hns : mn g 0 * mn g 1 ≤ r) (hi : i ≤ r + 4) (hj : j ≤ r + 4) (hij : i ≠ j) (hci : ¬ (c i).1 = 0) (hcj : (c j).1 = 0) (hw : ∀ o k, o ≠ t + 3 → w.1 o k = (mvW u t i j).1 o k) (hfill : ∀ b, b < mn g 0 → w.1 (t + 3) b = (if j < r ∧ j / mn g 1 = b then (if i < r ∧ i / mn g 1 = b then u.1 (t + 3) b - 1 else u.1 (t + 3) b) + 1 else (if i < r ∧ i / mn g 1 = b then u.1 (t + 3) b - 1 else u.1 (t + 3) b))) : tb w t r g (cset (cset c j (c i)) i e0) := by
  obtain ⟨⟨⟨a1, a2⟩, b1, b2, b3, b4⟩, d1, d2⟩ := h
  refine ⟨⟨⟨?_, ?_⟩, fun k hk => ?_, ?_, fun k h1 h2 => ?_, ?_⟩, ?_, ?_⟩
  · rw [hw _ _ (by omega), mvW_get, if_neg (by omega), if_neg (by omega)]; exact a1
  · rw [hw _ _ (by omega), mvW_get, if_neg (by omega), if_neg (by omega)]; exact a2
  · rw [hw _ _ (by omega), mvW_get, if_neg (by omega), if_neg (by omega)]; exact b1 k hk
  · rw [hw _ _ (by omega), mvW_get, if_neg (by omega), if_neg (by omega)]; exact b2
  · rw [hw _ _ (by omega), mvW_get, if_neg (by omega), if_neg (by omega)]; exact b3 k h1 h2
  · rw [hw _ _ (by omega), mvW_get, if_neg (by omega), if_neg (by omega)]; exact b4
  · intro x hx
    unfold cset
    by_cases e1 : x = i
    · rw [if_pos e1]
      refine Or.inl ⟨rfl, ?_⟩
      rw [hw _ _ (by omega), mvW_get, if_pos ⟨rfl, e1⟩]
    · rw [if_neg e1]
      by_cases e2 : x = j
      · rw [if_pos e2]
        have := d1 i hi
        unfold pl at this ⊢
        rw [hw _ _ (by omega), mvW_get, if_neg (by omega), if_pos ⟨by omega, by omega, e2⟩, hw _ _ (by omega), mvW_get, if_neg (by omega), if_pos ⟨by omega, by omega, e2⟩, hw _ _ (by omega), mvW_get, if_neg (by omega), if_pos ⟨by omega, by omega, e2⟩, hw _ _ (by omega), mvW_get, if_neg (by omega), if_pos ⟨by omega, by omega, e2⟩, hw _ _ (by omega), mvW_get, if_neg (by omega), if_pos ⟨by omega, by omega, e2⟩, hw _ _ (by omega), mvW_get, if_neg (by omega), if_pos ⟨by omega, by omega, e2⟩]
        exact this
      · rw [if_neg e2]
        have := d1 x hx
        unfold pl at this ⊢
        rw [hw _ _ (by omega), mvW_get, if_neg (by omega), if_neg (by omega), hw _ _ (by omega), mvW_get, if_neg (by omega), if_neg (by omega), hw _ _ (by omega), mvW_get, if_neg (by omega), if_neg (by omega), hw _ _ (by omega), mvW_get, if_neg (by omega), if_neg (by omega), hw _ _ (by omega), mvW_get, if_neg (by omega), if_neg (by omega), hw _ _ (by omega), mvW_get, if_neg (by omega), if_neg (by omega)]
        exact this
  · intro b hb
    have z1 := cnt_set (c := c) (i := j) (e := c i) (a := b * mn g 1) (n := mn g 1)
    have z2 := cnt_set (c := cset c j (c i)) (i := i) (e := e0) (a := b * mn g 1) (n := mn g 1)
    have ei : (cset c j (c i) i) = c i := by unfold cset; rw [if_neg hij]
    have e00 : (e0 : en).1 = 0 := rfl
    rw [ei, e00] at z2
    simp only [hcj, hci, not_true_eq_false, not_false_eq_true, and_false, and_true, if_false] at z1 z2
    rw [hfill b hb, d2 b hb]
    have ii := inb_iff (i := i) h1 hns hb
    have ij := inb_iff (i := j) h1 hns hb
    generalize cnt (cset (cset c j (c i)) i e0) (b * mn g 1) (mn g 1) = A at z2 ⊢
    generalize cnt (cset c j (c i)) (b * mn g 1) (mn g 1) = B at z1 z2
    generalize cnt c (b * mn g 1) (mn g 1) = C at z1 ⊢
    by_cases q1 : i < r ∧ i / mn g 1 = b
    · rw [if_pos (ii.mp q1)] at z2
      rw [if_pos q1]
      by_cases q2 : j < r ∧ j / mn g 1 = b
      · rw [if_pos (ij.mp q2)] at z1
        rw [if_pos q2]
        obtain rfl : A = C := by omega
        rcases Nat.eq_zero_or_pos A with e | e
        · subst e; rfl
        · rw [show nI A - 1 = nI (A - 1) from pk_sub (b := 1) e, nI_1]
          congr 1
          omega
      · rw [if_neg (fun q => q2 (ij.mpr q))] at z1
        rw [if_neg q2, show nI C - 1 = nI (C - 1) from pk_sub (b := 1) (by omega)]
        congr 1
        omega
    · rw [if_neg (fun q => q1 (ii.mpr q))] at z2
      rw [if_neg q1]
      by_cases q2 : j < r ∧ j / mn g 1 = b
      · rw [if_pos (ij.mp q2)] at z1
        rw [if_pos q2, nI_1]
        congr 1
        omega
      · rw [if_neg (fun q => q2 (ij.mpr q))] at z1
        rw [if_neg q2]
        congr 1
        omega
theorem pc_move {G : tc_G} {u : tc_S} {t r i j : Nat} {g : mp} {c : Nat → en} (hT : gT G t r) (hr : r ≤ 200) (hS : wS g) (h : tb u t r g c) (hns : mn g 0 * mn g 1 ≤ r) (hi : i ≤ r + 4) (hj : j ≤ r + 4) (hij : i ≠ j) (hci : ¬ (c i).1 = 0) (hcj : (c j).1 = 0) (hib : i < r → i < mn g 0 * mn g 1) (hjb : j < r → j < mn g 0 * mn g 1) : y2 (fn_X9_move G t (nI i) (nI j) u) (fun _ w => tb w t r g (cset (cset c j (c i)) i e0) ∧ fr (fT t) u w) := by
  have hT0 := hT
  obtain ⟨⟨p0, p11⟩, ⟨p3, p4, p5, p6, p7, p8, p9⟩, l3, ll⟩ := hT
  have h1 := hS.2.2.1.1
  have h9 := hS.2.2.1.2
  have hnb := hS.2.1.2
  have es : u.1 (t + 1) 1 = nI (mn g 1) := by rw [h.1.2.1 1 (by omega)]; exact hS.1 1 (by omega)
  have er : u.1 t 1 = nI r := h.1.1.1
  have di : i < r → i / mn g 1 < mn g 0 := fun q => by
    rw [Nat.div_lt_iff_lt_mul h1]; exact hib q
  have dj : j < r → j / mn g 1 < mn g 0 := fun q => by
    rw [Nat.div_lt_iff_lt_mul h1]; exact hjb q
  unfold fn_X9_move
  rw [p3, p4, p5, p6, p7, p8, p9, p0]
  refine yl_ld (r + 5) (ll _ (by omega) (by omega)) (by omega) (by omega) ?_
  refine yl_sd (r + 5) (ll _ (by omega) (by omega)) (by omega) (by omega) ?_
  refine yl_ld (r + 5) (ll _ (by omega) (by omega)) (by omega) (by omega) ?_
  rw [tc_w_ne (by omega)]
  refine yl_sd (r + 5) (ll _ (by omega) (by omega)) (by omega) (by omega) ?_
  refine yl_ld (r + 5) (ll _ (by omega) (by omega)) (by omega) (by omega) ?_
  rw [tc_w_ne (by omega), tc_w_ne (by omega)]
  refine yl_sd (r + 5) (ll _ (by omega) (by omega)) (by omega) (by omega) ?_
  refine yl_ld (r + 5) (ll _ (by omega) (by omega)) (by omega) (by omega) ?_
  rw [tc_w_ne (by omega), tc_w_ne (by omega), tc_w_ne (by omega)]
  refine yl_sd (r + 5) (ll _ (by omega) (by omega)) (by omega) (by omega) ?_
  refine yl_ld (r + 5) (ll _ (by omega) (by omega)) (by omega) (by omega) ?_
  rw [tc_w_ne (by omega), tc_w_ne (by omega), tc_w_ne (by omega), tc_w_ne (by omega)]
  refine yl_sd (r + 5) (ll _ (by omega) (by omega)) (by omega) (by omega) ?_
  refine yl_ld (r + 5) (ll _ (by omega) (by omega)) (by omega) (by omega) ?_
  rw [tc_w_ne (by omega), tc_w_ne (by omega), tc_w_ne (by omega), tc_w_ne (by omega), tc_w_ne (by omega)]
  refine yl_sd (r + 5) (ll _ (by omega) (by omega)) (by omega) (by omega) ?_
  refine yl_sd (r + 5) (ll _ (by omega) (by omega)) (by omega) (by omega) ?_
  refine yl_let ?_
  have hW : tc_w (tc_w (tc_w (tc_w (tc_w (tc_w (tc_w u (t + 4) j (u.1 (t + 4) i)) (t + 5) j (u.1 (t + 5) i)) (t + 6) j (u.1 (t + 6) i)) (t + 7) j (u.1 (t + 7) i)) (t + 8) j (u.1 (t + 8) i)) (t + 9) j (u.1 (t + 9) i)) (t + 4) i (-1) = mvW u t i j := rfl
  rw [hW]
  have g1 : (mvW u t i j).1 (t + 1) 1 = nI (mn g 1) := by rw [mvW_get, if_neg (by omega), if_neg (by omega)]; exact es
  have g2 : (mvW u t i j).1 t 1 = nI r := by rw [mvW_get, if_neg (by omega), if_neg (by omega)]; exact er
  have g3 : ∀ b, (mvW u t i j).1 (t + 3) b = u.1 (t + 3) b := fun b => by rw [mvW_get, if_neg (by omega), if_neg (by omega)]
  have fW : fr (fT t) u (mvW u t i j) := by
    intro o k hn
    have hn2 : ¬ (t ≤ o ∧ o < t + 10 ∧ ¬ (o = t ∧ (k = 1 ∨ k = 2))) := hn
    rw [mvW_get, if_neg (by omega), if_neg (by omega)]
  rw [g1, g2]
  generalize hM : mvW u t i j = W at g1 g2 g3 fW ⊢
  refine yl_n (nI_nle h1 (by omega)) ?_
  have fin : ∀ (w : tc_S), (∀ o k, o ≠ t + 3 → w.1 o k = W.1 o k) → (∀ b, b < mn g 0 → w.1 (t + 3) b = (if i < r ∧ i / mn g 1 = b then u.1 (t + 3) b - 1 else u.1 (t + 3) b)) → y2 (bl_X9_move_111 G t (nI j) (nI (mn g 1)) w) (fun _ w => tb w t r g (cset (cset c j (c i)) i e0) ∧ fr (fT t) u w) := by
    intro w hw hf
    have fw : fr (fT t) u w := by
      intro o k hn
      by_cases e : o = t + 3
      · exact absurd ⟨by omega, by omega, by omega⟩ hn
      · rw [hw o k e]; exact fW o k hn
    unfold bl_X9_move_111 bl_X9_move_135
    rw [hw t 1 (by omega), g2, p9]
    refine yl_n (nI_nle h1 (by omega)) ?_
    rw [pu_le (by omega) (by omega)]
    by_cases hjr : r ≤ j
    · rw [if_pos hjr]
      refine yl_ok ⟨tb_mvW h h1 hns hi hj hij hci hcj (fun o k ho => by rw [hM]; exact hw o k ho) fun b hb => ?_, fw⟩
      rw [if_neg (by omega)]
      exact hf b hb
    · rw [if_neg hjr]
      refine yl_nz (nI_ne0 h1 (by omega)) ?_
      rw [pk_div (by omega) h1 (by omega)]
      have hd := dj (by omega)
      refine yl_ld 32 l3 (by omega) (by omega) ?_
      refine yl_sd 32 l3 (by omega) (by omega) (yl_ok ⟨?_, fr_w fw ⟨by omega, by omega, by omega⟩⟩)
      refine tb_mvW h h1 hns hi hj hij hci hcj (fun o k ho => by rw [hM, w_get, if_neg (by omega)]; exact hw o k ho) fun b hb => ?_
      rw [w_get]
      by_cases e : b = j / mn g 1
      · rw [if_pos ⟨rfl, e⟩, if_pos ⟨by omega, e.symm⟩, ← e, hf b hb]
      · rw [if_neg (by omega), if_neg (by omega)]
        exact hf b hb
  rw [pu_le (by omega) (by omega)]
  by_cases hir : r ≤ i
  · rw [if_pos hir]
    refine fin W (fun _ _ _ => rfl) fun b hb => ?_
    rw [if_neg (by omega)]
    exact g3 b
  · rw [if_neg hir]
    refine yl_nz (nI_ne0 h1 (by omega)) ?_
    rw [pk_div (by omega) h1 (by omega)]
    have hd := di (by omega)
    refine yl_ld 32 l3 (by omega) (by omega) ?_
    refine yl_sd 32 l3 (by omega) (by omega) ?_
    refine fin _ (fun o k ho => by rw [w_get, if_neg (by omega)]) fun b hb => ?_
    rw [w_get, g3]
    by_cases e : b = i / mn g 1
    · rw [if_pos ⟨rfl, e⟩, if_pos ⟨by omega, e.symm⟩, ← e]
    · rw [if_neg (by omega), if_neg (by omega)]
      exact g3 b
