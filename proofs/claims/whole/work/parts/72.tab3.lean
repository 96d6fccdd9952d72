/-! the class: emptying, copying, going back, draws -/
theorem pc_lo_fill {G : tc_G} {a len : Nat} {x : Int32} (hl : G.2.2.1 a = len) (hlen : len ≤ 300) : ∀ (n i f : Nat) (u : tc_S), i + n = len → n < f → (∀ k, k < i → u.1 a k = x) → y2 (lo_J7_fill_53178_5 G f a x (nI i) (nI len) u) (fun _ w => (∀ k, k < len → w.1 a k = x) ∧ fr (fun o _ => o = a) u w) := by
  intro n
  induction n with
  | zero =>
    intro i f u hi hf h
    obtain ⟨f, rfl⟩ : ∃ k, f = k + 1 := ⟨f - 1, by omega⟩
    rw [lo_J7_fill_53178_5, pu_le (by omega) (by omega), if_pos (by omega)]
    exact yl_ok ⟨fun k hk => h k (by omega), fr_refl⟩
  | succ n ih =>
    intro i f u hi hf h
    obtain ⟨f, rfl⟩ : ∃ k, f = k + 1 := ⟨f - 1, by omega⟩
    rw [lo_J7_fill_53178_5, pu_le (by omega) (by omega), if_neg (by omega)]
    refine yl_sd len hl (by omega) (by omega) (yl_let ?_)
    rw [nI_1]
    refine yl_m (ih (i + 1) f _ (by omega) (by omega) fun k hk => ?_) fun r hx => ⟨hx.1, fr_trans (fr_w fr_refl rfl) hx.2⟩
    rw [w_get]
    by_cases e : k = i
    · rw [if_pos ⟨rfl, e⟩]
    · rw [if_neg (by omega)]; exact h k (by omega)
theorem pc_fill {G : tc_G} {u : tc_S} {a len : Nat} {x : Int32} (hl : G.2.2.1 a = len) (hlen : len ≤ 300) : y2 (fn_J7_fill_53178 G a x u) (fun _ w => (∀ k, k < len → w.1 a k = x) ∧ fr (fun o _ => o = a) u w) := by
  have hfu := tc_fu_big
  unfold fn_J7_fill_53178
  refine yl_let ?_
  have z := pc_lo_fill (G := G) (a := a) (x := x) hl hlen len 0 tc_fu u (by omega) (by omega) (fun k hk => absurd hk (Nat.not_lt_zero k))
  unfold tc_ln
  rw [hl]
  exact z
theorem cnt_0 {c : Nat → en} (h : ∀ i, (c i).1 = 0) : ∀ (n a : Nat), cnt c a n = 0 := by
  intro n
  unfold cnt
  induction n with
  | zero => intro a; rfl
  | succ n ih =>
    intro a
    rw [cf, ih]
    simp [h a]
def c0 : Nat → en := fun _ => e0
theorem pc_clear {G : tc_G} {u : tc_S} {t r : Nat} {g : mp} (hT : gT G t r) (hr : r ≤ 200) (hS : wS g) (h : tS u t r g) : y2 (fn_X9_clear G t u) (fun _ w => tb w t r (upd g 18 0) c0 ∧ fr (fT t) u w) := by
  obtain ⟨⟨p0, p11⟩, ⟨p3, p4, p5, p6, p7, p8, p9⟩, l3, ll⟩ := hT
  unfold fn_X9_clear
  rw [p3, p9]
  refine yl_b (pc_fill (ll _ (by omega) (by omega)) (by omega)) fun _ w1 h1 => ?_
  refine yl_b (pc_fill l3 (by omega)) fun _ w2 h2 => ?_
  refine yl_let (yl_ok ?_)
  obtain ⟨⟨a1, a2⟩, b1, b2, b3, b4⟩ := h
  have k1 : ∀ o k, o ≠ t + 4 → o ≠ t + 3 → w2.1 o k = u.1 o k := fun o k q1 q2 => (h2.2 o k q2).trans (h1.2 o k q1)
  refine ⟨⟨⟨⟨?_, ?_⟩, fun k hk => ?_, ?_, fun k h1 h2 => ?_, ?_⟩, fun i hi => ?_, fun b hb => ?_⟩, ?_⟩
  · rw [w_get, if_neg (by omega), k1 _ _ (by omega) (by omega)]; exact a1
  · rw [w_get, if_neg (by omega), k1 _ _ (by omega) (by omega)]; exact a2
  · rw [w_get, if_neg (by omega), k1 _ _ (by omega) (by omega), upd_ne (by omega)]; exact b1 k hk
  · rw [w_get, if_neg (by omega), k1 _ _ (by omega) (by omega), upd_ne (by omega)]; exact b2
  · rw [w_get, if_neg (by omega), k1 _ _ (by omega) (by omega), upd_ne (by omega)]; exact b3 k h1 h2
  · rw [w_get, if_pos ⟨rfl, rfl⟩, upd_eq]
  · refine Or.inl ⟨rfl, ?_⟩
    rw [w_get, if_neg (by omega), h2.2 _ _ (by omega)]
    exact h1.1 i (by omega)
  · have hb2 : b < mn g 0 := by rw [mn_upd (by omega)] at hb; exact hb
    rw [w_get, if_neg (by omega), cnt_0 (fun _ => rfl)]
    exact h2.1 b (by have := hS.2.1.2; omega)
  · intro o k hn
    have hn2 : ¬ (t ≤ o ∧ o < t + 10 ∧ ¬ (o = t ∧ (k = 1 ∨ k = 2))) := hn
    rw [w_get, if_neg (by omega), k1 _ _ (by omega) (by omega)]
theorem tb_cong {u : tc_S} {t r : Nat} {g g2 : mp} {c c2 : Nat → en} (h : tb u t r g c) (hg : ∀ k, k < 19 → g2 k = g k) (hc : ∀ i, i ≤ r + 4 → c2 i = c i) (hns : mn g 0 * mn g 1 ≤ r) : tb u t r g2 c2 := by
  have m : ∀ k, k < 19 → mn g2 k = mn g k := fun k hk => by unfold mn; rw [hg k hk]
  have hh : ∀ w q, w < 2 → mhash g2 w q = mhash g w q := fun w q hw => by
    unfold mhash
    rw [m _ (by omega), m _ (by omega), m _ (by omega)]
  obtain ⟨⟨a, b1, b2, b3, b4⟩, d1, d2⟩ := h
  refine ⟨⟨a, fun k hk => ?_, ?_, fun k h1 h2 => ?_, ?_⟩, fun i hi => ?_, fun b hb => ?_⟩
  · rw [hg k (by omega)]; exact b1 k hk
  · rw [hg 11 (by omega)]; exact b2
  · rw [hg k (by omega)]; exact b3 k h1 h2
  · rw [hg 18 (by omega)]; exact b4
  · rw [hc i hi]
    have := d1 i hi
    unfold pl at this ⊢
    simp only [hh 0 _ (by omega), hh 1 _ (by omega)]
    exact this
  · rw [m 0 (by omega)] at hb
    rw [m 1 (by omega), d2 b hb]
    have hx2 : (b + 1) * mn g 1 ≤ mn g 0 * mn g 1 := Nat.mul_le_mul_right _ (by omega)
    rw [Nat.add_mul, Nat.one_mul] at hx2
    unfold cnt
    exact congrArg nI (cf_congr fun i h1 h2 => by rw [hc i (by omega)])
/-! copying -/
def cpS (u w : tc_S) (t s m : Nat) : Prop := (∀ k, k < m → w.1 (t + 1) k = u.1 (s + 1) k) ∧ ∀ o k, o ≠ t + 1 → w.1 o k = u.1 o k
theorem cpS_step {u w : tc_S} {t s m : Nat} (h : cpS u w t s m) (hd : s ≠ t) : cpS u (tc_w w (t + 1) m (w.1 (s + 1) m)) t s (m + 1) := by
  refine ⟨fun k hk => ?_, fun o k ho => ?_⟩
  · rw [w_get]
    by_cases e : k = m
    · rw [if_pos ⟨rfl, e⟩, e]
      exact h.2 _ _ (by omega)
    · rw [if_neg (by omega)]
      exact h.1 k (by omega)
  · rw [w_get, if_neg (by omega)]
    exact h.2 o k ho
theorem pc_copyS {G : tc_G} {u : tc_S} {t s : Nat} (p1 : tc_p G (t + 1) 11 = t + 2) (p2 : tc_p G (s + 1) 11 = s + 2) (hd : s + 10 ≤ t ∨ t + 10 ≤ s) : y2 (fn_X8_copyFrom G (t + 1) (s + 1) u) (fun _ w => (∀ k, k < 11 → w.1 (t + 1) k = u.1 (s + 1) k) ∧ w.1 (t + 2) 0 = u.1 (s + 2) 0 ∧ fr (fun o _ => o = t + 1 ∨ o = t + 2) u w) := by
  unfold fn_X8_copyFrom
  have z0 : cpS u u t s 0 := ⟨fun k hk => absurd hk (Nat.not_lt_zero k), fun _ _ _ => rfl⟩
  have z1 := cpS_step z0 (by omega)
  have z2 := cpS_step z1 (by omega)
  have z3 := cpS_step z2 (by omega)
  have z4 := cpS_step z3 (by omega)
  have z5 := cpS_step z4 (by omega)
  have z6 := cpS_step z5 (by omega)
  have z7 := cpS_step z6 (by omega)
  refine yl_let (yl_let (yl_let (yl_let (yl_let (yl_let (yl_let ?_))))))
  generalize tc_w (tc_w (tc_w (tc_w (tc_w (tc_w (tc_w u (t + 1) 0 (u.1 (s + 1) 0)) (t + 1) 1 _) (t + 1) 2 _) (t + 1) 3 _) (t + 1) 4 _) (t + 1) 5 _) (t + 1) 6 _ = w at z7 ⊢
  unfold fn_X8_takeHashes
  rw [p1, p2]
  refine ⟨_, rfl, ?_, ?_, ?_⟩
  · intro k hk
    have e : ∀ j, w.1 (s + 1) j = u.1 (s + 1) j := fun j => z7.2 _ _ (by omega)
    simp only [tc_let, w_get, e]
    have := z7.1 k
    rcases (show k < 7 ∨ k = 7 ∨ k = 8 ∨ k = 9 ∨ k = 10 by omega) with q | rfl | rfl | rfl | rfl
    · rw [if_neg (by omega), if_neg (by omega), if_neg (by omega), if_neg (by omega), if_neg (by omega)]
      exact this q
    · simp
    · simp
    · simp
    · simp
  · simp only [tc_let, w_get]
    simp
    exact z7.2 _ _ (by omega)
  · intro o k hn
    simp only [tc_let, w_get]
    rw [if_neg (by omega), if_neg (by omega), if_neg (by omega), if_neg (by omega), if_neg (by omega)]
    exact z7.2 _ _ (by omega)
theorem yl_cp {R : Type} {G : tc_G} {u : tc_S} {a b n la lb : Nat} {k : tc_S → Option R} {Q : R → Prop} (h1 : G.2.2.1 a = la) (h2 : G.2.2.1 b = lb) (h3 : n ≤ la) (h4 : n ≤ lb) (h5 : n < 2 ^ 31) (h : ∀ w, (∀ k, k < n → w.1 b k = u.1 a k) → (∀ o k, o ≠ b → w.1 o k = u.1 o k) → yl (k w) Q) : yl (tc_cp G u a 0 b 0 (nI n) k) Q := by
  unfold tc_cp
  have z : (0 : Int32).toNatClampNeg = 0 := rfl
  rw [z, nI_clamp h5, h1, h2, if_neg (by
    rintro (q | q | q | q | q)
    · exact absurd q (by decide)
    · exact absurd q (by decide)
    · exact nI_pos h5 q
    · omega
    · omega)]
  refine h _ (fun k hk => ?_) (fun o k ho => by rw [tc_wr_ne ho])
  rw [tc_wr_row, pk_cpy_in (by omega) (by omega), Nat.zero_add, Nat.sub_zero]
def cpR (u w : tc_S) (t s r m : Nat) : Prop := (∀ d k, 4 ≤ d → d < m → k ≤ r + 4 → w.1 (t + d) k = u.1 (s + d) k) ∧ (∀ o k, o < t + 3 ∨ t + m ≤ o → w.1 o k = u.1 o k)
theorem pc_copyFrom {G : tc_G} {u : tc_S} {t s r : Nat} {g : mp} {c : Nat → en} (hT : gT G t r) (hT2 : gT G s r) (hd : s + 10 ≤ t ∨ t + 10 ≤ s) (hr : r ≤ 200) (hS : wS g) (ht : tR u t r) (h : tb u s r g c) : y2 (fn_X9_copyFrom G t s u) (fun _ w => tb w t r g c ∧ fr (fT t) u w) := by
  obtain ⟨⟨p0, p11⟩, ⟨p3, p4, p5, p6, p7, p8, p9⟩, l3, ll⟩ := hT
  obtain ⟨⟨q0, q11⟩, ⟨q3, q4, q5, q6, q7, q8, q9⟩, m3, mm⟩ := hT2
  obtain ⟨⟨⟨a1, a2⟩, b1, b2, b3, b4⟩, d1, d2⟩ := h
  have hnb := hS.2.1.2
  unfold fn_X9_copyFrom
  rw [a1, ht.1]
  refine yl_p rfl ?_
  rw [p0, q0, p3, p4, p5, p6, p7, p8, p9, q3, q4, q5, q6, q7, q8, q9]
  refine yl_b (pc_copyS p11 q11 hd) fun _ w hw => ?_
  obtain ⟨hw1, hw2, hw3⟩ := hw
  have hs : ∀ o k, s ≤ o → o < s + 10 → w.1 o k = u.1 o k := fun o k h1 h2 => hw3 o k (by omega)
  have ht2 : ∀ x : tc_S, (x.1 t 2 = w.1 t 2) → x.1 t 2 + 1 = nI (r + 5) := fun x hx => by
    rw [hx, hw3 _ _ (by omega), ht.2, nI_1]
  rw [ht2 w rfl]
  refine yl_cp (mm _ (by omega) (by omega)) (ll _ (by omega) (by omega)) (by omega) (by omega) (by omega) fun w4 e4 f4 => ?_
  rw [ht2 w4 (f4 _ _ (by omega))]
  refine yl_cp (mm _ (by omega) (by omega)) (ll _ (by omega) (by omega)) (by omega) (by omega) (by omega) fun w5 e5 f5 => ?_
  rw [ht2 w5 (by rw [f5 _ _ (by omega), f4 _ _ (by omega)])]
  refine yl_cp (mm _ (by omega) (by omega)) (ll _ (by omega) (by omega)) (by omega) (by omega) (by omega) fun w6 e6 f6 => ?_
  rw [ht2 w6 (by rw [f6 _ _ (by omega), f5 _ _ (by omega), f4 _ _ (by omega)])]
  refine yl_cp (mm _ (by omega) (by omega)) (ll _ (by omega) (by omega)) (by omega) (by omega) (by omega) fun w7 e7 f7 => ?_
  rw [ht2 w7 (by rw [f7 _ _ (by omega), f6 _ _ (by omega), f5 _ _ (by omega), f4 _ _ (by omega)])]
  refine yl_cp (mm _ (by omega) (by omega)) (ll _ (by omega) (by omega)) (by omega) (by omega) (by omega) fun w8 e8 f8 => ?_
  rw [ht2 w8 (by rw [f8 _ _ (by omega), f7 _ _ (by omega), f6 _ _ (by omega), f5 _ _ (by omega), f4 _ _ (by omega)])]
  refine yl_cp (mm _ (by omega) (by omega)) (ll _ (by omega) (by omega)) (by omega) (by omega) (by omega) fun w9 e9 f9 => ?_
  refine yl_cp (n := 32) m3 l3 (by omega) (by omega) (by omega) fun w3 e3 f3 => ?_
  have g9 : ∀ o k, o ≠ t + 3 → o ≠ t + 4 → o ≠ t + 5 → o ≠ t + 6 → o ≠ t + 7 → o ≠ t + 8 → o ≠ t + 9 → w3.1 o k = w.1 o k := fun o k n3 n4 n5 n6 n7 n8 n9 => by
    rw [f3 _ _ n3, f9 _ _ n9, f8 _ _ n8, f7 _ _ n7, f6 _ _ n6, f5 _ _ n5, f4 _ _ n4]
  have r4 : ∀ k, k < r + 5 → w3.1 (t + 4) k = u.1 (s + 4) k := fun k hk => by
    rw [f3 _ _ (by omega), f9 _ _ (by omega), f8 _ _ (by omega), f7 _ _ (by omega), f6 _ _ (by omega), f5 _ _ (by omega), e4 k hk, hs _ _ (by omega) (by omega)]
  have r5 : ∀ k, k < r + 5 → w3.1 (t + 5) k = u.1 (s + 5) k := fun k hk => by
    rw [f3 _ _ (by omega), f9 _ _ (by omega), f8 _ _ (by omega), f7 _ _ (by omega), f6 _ _ (by omega), e5 k hk, f4 _ _ (by omega), hs _ _ (by omega) (by omega)]
  have r6 : ∀ k, k < r + 5 → w3.1 (t + 6) k = u.1 (s + 6) k := fun k hk => by
    rw [f3 _ _ (by omega), f9 _ _ (by omega), f8 _ _ (by omega), f7 _ _ (by omega), e6 k hk, f5 _ _ (by omega), f4 _ _ (by omega), hs _ _ (by omega) (by omega)]
  have r7 : ∀ k, k < r + 5 → w3.1 (t + 7) k = u.1 (s + 7) k := fun k hk => by
    rw [f3 _ _ (by omega), f9 _ _ (by omega), f8 _ _ (by omega), e7 k hk, f6 _ _ (by omega), f5 _ _ (by omega), f4 _ _ (by omega), hs _ _ (by omega) (by omega)]
  have r8 : ∀ k, k < r + 5 → w3.1 (t + 8) k = u.1 (s + 8) k := fun k hk => by
    rw [f3 _ _ (by omega), f9 _ _ (by omega), e8 k hk, f7 _ _ (by omega), f6 _ _ (by omega), f5 _ _ (by omega), f4 _ _ (by omega), hs _ _ (by omega) (by omega)]
  have r9 : ∀ k, k < r + 5 → w3.1 (t + 9) k = u.1 (s + 9) k := fun k hk => by
    rw [f3 _ _ (by omega), e9 k hk, f8 _ _ (by omega), f7 _ _ (by omega), f6 _ _ (by omega), f5 _ _ (by omega), f4 _ _ (by omega), hs _ _ (by omega) (by omega)]
  have r3 : ∀ k, k < 32 → w3.1 (t + 3) k = u.1 (s + 3) k := fun k hk => by
    rw [e3 k hk, f9 _ _ (by omega), f8 _ _ (by omega), f7 _ _ (by omega), f6 _ _ (by omega), f5 _ _ (by omega), f4 _ _ (by omega), hs _ _ (by omega) (by omega)]
  have sk : ∀ k, w3.1 s k = u.1 s k := fun k => by rw [g9 _ _ (by omega) (by omega) (by omega) (by omega) (by omega) (by omega) (by omega), hs _ _ (by omega) (by omega)]
  refine yl_let (yl_let (yl_let (yl_let (yl_let (yl_let (yl_let (yl_ok ?_)))))))
  have fin : ∀ x : tc_S, (∀ o k, o ≠ t → x.1 o k = w3.1 o k) → (∀ k, 10 ≤ k → k < 17 → x.1 t k = u.1 s k) → (∀ k, k < 10 ∨ 17 ≤ k → x.1 t k = w3.1 t k) → tb x t r g c ∧ fr (fT t) u x := by
    intro x x1 x2 x3
    refine ⟨⟨⟨⟨?_, ?_⟩, fun k hk => ?_, ?_, fun k h1 h2 => ?_, ?_⟩, fun i hi => ?_, fun b hb => ?_⟩, fun o k hn => ?_⟩
    · rw [x3 _ (by omega), g9 _ _ (by omega) (by omega) (by omega) (by omega) (by omega) (by omega) (by omega), hw3 _ _ (by omega)]; exact ht.1
    · rw [x3 _ (by omega), g9 _ _ (by omega) (by omega) (by omega) (by omega) (by omega) (by omega) (by omega), hw3 _ _ (by omega)]; exact ht.2
    · rw [x1 _ _ (by omega), g9 _ _ (by omega) (by omega) (by omega) (by omega) (by omega) (by omega) (by omega), hw1 k hk]; exact b1 k hk
    · rw [x1 _ _ (by omega), g9 _ _ (by omega) (by omega) (by omega) (by omega) (by omega) (by omega) (by omega), hw2]; exact b2
    · rw [x2 _ (by omega) (by omega)]; exact b3 k h1 h2
    · rw [x2 _ (by omega) (by omega)]; exact b4
    · have := d1 i hi
      unfold pl at this ⊢
      rw [x1 _ _ (by omega), x1 _ _ (by omega), x1 _ _ (by omega), x1 _ _ (by omega), x1 _ _ (by omega), x1 _ _ (by omega), r4 _ (by omega), r5 _ (by omega), r6 _ (by omega), r7 _ (by omega), r8 _ (by omega), r9 _ (by omega)]
      exact this
    · rw [x1 _ _ (by omega), r3 b (by omega)]; exact d2 b hb
    · have hn2 : ¬ (t ≤ o ∧ o < t + 10 ∧ ¬ (o = t ∧ (k = 1 ∨ k = 2))) := hn
      by_cases e : o = t
      · subst e
        rw [x3 _ (by omega), g9 _ _ (by omega) (by omega) (by omega) (by omega) (by omega) (by omega) (by omega), hw3 _ _ (by omega)]
      · rw [x1 _ _ e, g9 _ _ (by omega) (by omega) (by omega) (by omega) (by omega) (by omega) (by omega), hw3 _ _ (by omega)]
  refine fin _ (fun o k ho => ?_) (fun k h1 h2 => ?_) (fun k h1 => ?_)
  · simp only [w_get]
    rw [if_neg (by omega), if_neg (by omega), if_neg (by omega), if_neg (by omega), if_neg (by omega), if_neg (by omega), if_neg (by omega)]
  · have st : ¬ s = t := by omega
    simp only [w_get, sk, st, false_and, if_false, true_and]
    rcases (show k = 10 ∨ k = 11 ∨ k = 12 ∨ k = 13 ∨ k = 14 ∨ k = 15 ∨ k = 16 by omega) with rfl | rfl | rfl | rfl | rfl | rfl | rfl <;> rfl
  · simp only [w_get]
    rw [if_neg (by omega), if_neg (by omega), if_neg (by omega), if_neg (by omega), if_neg (by omega), if_neg (by omega), if_neg (by omega)]
