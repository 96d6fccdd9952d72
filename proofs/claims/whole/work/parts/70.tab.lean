/-! THE CLASS: a table at t (t itself, Settings t + 1, Draws t + 2, fill t + 3, keys t + 4, values t + 5, born t + 6, moved t + 7, firsts t + 8, seconds t + 9) of a room of r places: settings by a row g, places by a row c of entries: r + j the stash's, r + 4 the hand -/
def gT (G : tc_G) (t r : Nat) : Prop := (tc_p G t 0 = t + 1 ∧ tc_p G (t + 1) 11 = t + 2) ∧ (tc_p G t 3 = t + 4 ∧ tc_p G t 4 = t + 5 ∧ tc_p G t 5 = t + 6 ∧ tc_p G t 6 = t + 7 ∧ tc_p G t 7 = t + 8 ∧ tc_p G t 8 = t + 9 ∧ tc_p G t 9 = t + 3) ∧ G.2.2.1 (t + 3) = 32 ∧ ∀ o, t + 4 ≤ o → o < t + 10 → G.2.2.1 o = r + 5
def wS (g : mp) : Prop := (∀ k, k < 11 → g k = nI (mn g k)) ∧ (1 ≤ mn g 0 ∧ mn g 0 ≤ 32) ∧ (1 ≤ mn g 1 ∧ mn g 1 ≤ 9) ∧ ∀ k, 7 ≤ k → k < 11 → mn g k ≤ 1008
theorem wA_wS {g : mp} (a : wA g) : wS g := ⟨a.1, ⟨a.2.1.1, by have := a.2.1.2; omega⟩, ⟨a.2.2.1.1, by have := a.2.2.1.2; omega⟩, a.2.2.2.2.2.2.2.2⟩
def cnt (c : Nat → en) (a n : Nat) : Nat := cf (fun i => decide (¬ (c i).1 = 0)) n a
def pl (u : tc_S) (t : Nat) (g : mp) (i : Nat) (e : en) : Prop := (e = e0 ∧ u.1 (t + 4) i = -1) ∨ (∃ q, q < 1000 ∧ e.1 = nI (q + 1) ∧ u.1 (t + 4) i = nI q ∧ u.1 (t + 5) i = e.2.1 ∧ u.1 (t + 6) i = e.2.2.1 ∧ u.1 (t + 7) i = e.2.2.2 ∧ u.1 (t + 8) i = nI (mhash g 0 q) ∧ u.1 (t + 9) i = nI (mhash g 1 q))
def tR (u : tc_S) (t r : Nat) : Prop := u.1 t 1 = nI r ∧ u.1 t 2 = nI (r + 4)
def tS (u : tc_S) (t r : Nat) (g : mp) : Prop := tR u t r ∧ (∀ k, k < 11 → u.1 (t + 1) k = g k) ∧ u.1 (t + 2) 0 = g 11 ∧ (∀ k, 12 ≤ k → k < 18 → u.1 t (k - 1) = g k) ∧ u.1 t 10 = g 18
def tP (u : tc_S) (t r : Nat) (g : mp) (c : Nat → en) : Prop := (∀ i, i ≤ r + 4 → pl u t g i (c i)) ∧ ∀ b, b < mn g 0 → u.1 (t + 3) b = nI (cnt c (b * mn g 1) (mn g 1))
def tb (u : tc_S) (t r : Nat) (g : mp) (c : Nat → en) : Prop := tS u t r g ∧ tP u t r g c
def cset (c : Nat → en) (i : Nat) (e : en) : Nat → en := fun j => if j = i then e else c j
/-- what a table's doings may change -/
def fT (t : Nat) (o k : Nat) : Prop := t ≤ o ∧ o < t + 10 ∧ ¬ (o = t ∧ (k = 1 ∨ k = 2))
theorem cf_congr {P Q : Nat → Bool} : ∀ {n a : Nat}, (∀ i, a ≤ i → i < a + n → P i = Q i) → cf P n a = cf Q n a := by
  intro n
  induction n with
  | zero => intro a _; rfl
  | succ n ih =>
    intro a h
    rw [cf, cf, h a (by omega) (by omega), ih fun i h1 h2 => h i (by omega) (by omega)]
theorem cf_le {P : Nat → Bool} : ∀ {n a : Nat}, cf P n a ≤ n := by
  intro n
  induction n with
  | zero => intro a; exact Nat.le_refl _
  | succ n ih =>
    intro a
    rw [cf]
    have := @ih (a + 1)
    split <;> omega
theorem cf_one {P Q : Nat → Bool} {i : Nat} : ∀ {n a : Nat}, a ≤ i → i < a + n → (∀ j, j ≠ i → P j = Q j) → cf P n a + (if Q i then 1 else 0) = cf Q n a + (if P i then 1 else 0) := by
  intro n
  induction n with
  | zero => intro a h1 h2; omega
  | succ n ih =>
    intro a h1 h2 h
    rw [cf, cf]
    by_cases e : a = i
    · subst e
      rw [cf_congr (P := P) (Q := Q) fun j h3 h4 => h j (by omega)]
      omega
    · have := @ih (a + 1) (by omega) (by omega) h
      rw [h a e]
      omega
theorem cnt_set {c : Nat → en} {i : Nat} {e : en} {a n : Nat} : cnt (cset c i e) a n + (if a ≤ i ∧ i < a + n ∧ ¬ (c i).1 = 0 then 1 else 0) = cnt c a n + (if a ≤ i ∧ i < a + n ∧ ¬ e.1 = 0 then 1 else 0) := by
  unfold cnt
  by_cases h : a ≤ i ∧ i < a + n
  · have z := cf_one (P := fun j => decide (¬ (cset c i e j).1 = 0)) (Q := fun j => decide (¬ (c j).1 = 0)) h.1 h.2 (fun j hj => by
      show decide (¬ (cset c i e j).1 = 0) = decide (¬ (c j).1 = 0)
      unfold cset
      rw [if_neg hj])
    have e1 : (cset c i e i) = e := by unfold cset; rw [if_pos rfl]
    simp only [e1, decide_eq_true_eq] at z
    simp only [h.1, h.2, true_and]
    exact z
  · rw [if_neg (fun q => h ⟨q.1, q.2.1⟩), if_neg (fun q => h ⟨q.1, q.2.1⟩)]
    refine congrArg (· + 0) (cf_congr fun j h1 h2 => ?_)
    unfold cset
    rw [if_neg (by omega)]
theorem cnt_le {c : Nat → en} {a n : Nat} : cnt c a n ≤ n := cf_le
/-- hashes -/
theorem wS_hash {g : mp} (a : wS g) (w q : Nat) : mhash g w q < mn g 0 := Nat.mod_lt _ a.2.1.1
theorem pc_hash {a b q nb : Nat} (ha : a ≤ 1008) (hb : b ≤ 1008) (hq : q ≤ 999) (h0 : 1 ≤ nb) (hn : nb ≤ 32) : tc_mod (tc_mod ((nI a * nI q) + nI b) 1009) (nI nb) = nI ((a * q + b) % 1009 % nb) := by
  have hm : a * q ≤ 1008 * 999 := Nat.mul_le_mul ha hq
  rw [pk_mul, nI_add, show (1009 : Int32) = nI 1009 from rfl, pu_mod (by omega) (by omega) (by omega), pu_mod (by omega) (by omega) (by omega)]
theorem pc_firstOf {G : tc_G} {u : tc_S} {t q : Nat} {g : mp} (hS : wS g) (hs : ∀ k, k < 11 → u.1 (t + 1) k = g k) (hq : q ≤ 999) : fn_X8_firstOf G (t + 1) (nI q) u = some (nI (mhash g 0 q), u) := by
  unfold fn_X8_firstOf bl_X8_firstOf_32 tc_nz
  rw [hs 0 (by omega), hs 7 (by omega), hs 8 (by omega), hS.1 0 (by omega), hS.1 7 (by omega), hS.1 8 (by omega), if_pos (show (1 : Int32) ≤ nI (mn g 0) from nI_le hS.2.1.1 (by have := hS.2.1.2; omega)), if_neg (nI_ne0 hS.2.1.1 (by have := hS.2.1.2; omega)), pc_hash (hS.2.2.2 7 (by omega) (by omega)) (hS.2.2.2 8 (by omega) (by omega)) hq hS.2.1.1 hS.2.1.2]
  rfl
theorem pc_secondOf {G : tc_G} {u : tc_S} {t q : Nat} {g : mp} (hS : wS g) (hs : ∀ k, k < 11 → u.1 (t + 1) k = g k) (hq : q ≤ 999) : fn_X8_secondOf G (t + 1) (nI q) u = some (nI (mhash g 1 q), u) := by
  unfold fn_X8_secondOf bl_X8_secondOf_32 tc_nz
  rw [hs 0 (by omega), hs 9 (by omega), hs 10 (by omega), hS.1 0 (by omega), hS.1 9 (by omega), hS.1 10 (by omega), if_pos (show (1 : Int32) ≤ nI (mn g 0) from nI_le hS.2.1.1 (by have := hS.2.1.2; omega)), if_neg (nI_ne0 hS.2.1.1 (by have := hS.2.1.2; omega)), pc_hash (hS.2.2.2 9 (by omega) (by omega)) (hS.2.2.2 10 (by omega) (by omega)) hq hS.2.1.1 hS.2.1.2]
  rfl
theorem tS_fr {P : Nat → Nat → Prop} {u w : tc_S} {t r : Nat} {g : mp} (h : tS u t r g) (hf : fr P u w) (h0 : ∀ k, k < 17 → ¬ P t k) (h1 : ∀ k, ¬ P (t + 1) k) (h2 : ∀ k, ¬ P (t + 2) k) : tS w t r g := by
  obtain ⟨⟨a1, a2⟩, b, c, d, e⟩ := h
  refine ⟨⟨?_, ?_⟩, fun k hk => ?_, ?_, fun k h1 h2 => ?_, ?_⟩
  · rw [hf _ _ (h0 _ (by omega))]; exact a1
  · rw [hf _ _ (h0 _ (by omega))]; exact a2
  · rw [hf _ _ (h1 _)]; exact b k hk
  · rw [hf _ _ (h2 _)]; exact c
  · rw [hf _ _ (h0 _ (by omega))]; exact d k h1 h2
  · rw [hf _ _ (h0 _ (by omega))]; exact e
theorem tP_fr {P : Nat → Nat → Prop} {u w : tc_S} {t r : Nat} {g : mp} {c : Nat → en} (h : tP u t r g c) (hf : fr P u w) (h0 : ∀ o k, t + 3 ≤ o → o < t + 10 → ¬ P o k) : tP w t r g c := by
  refine ⟨fun i hi => ?_, fun b hb => ?_⟩
  · have := h.1 i hi
    unfold pl at this ⊢
    rw [hf _ _ (h0 _ _ (by omega) (by omega)), hf _ _ (h0 _ _ (by omega) (by omega)), hf _ _ (h0 _ _ (by omega) (by omega)), hf _ _ (h0 _ _ (by omega) (by omega)), hf _ _ (h0 _ _ (by omega) (by omega)), hf _ _ (h0 _ _ (by omega) (by omega))]
    exact this
  · rw [hf _ _ (h0 _ _ (by omega) (by omega))]
    exact h.2 b hb
theorem tb_fr {P : Nat → Nat → Prop} {u w : tc_S} {t r : Nat} {g : mp} {c : Nat → en} (h : tb u t r g c) (hf : fr P u w) (h0 : ∀ o k, t ≤ o → o < t + 10 → ¬ P o k) : tb w t r g c := ⟨tS_fr h.1 hf (fun k _ => h0 t k (by omega) (by omega)) (fun k => h0 _ k (by omega) (by omega)) (fun k => h0 _ k (by omega) (by omega)), tP_fr h.2 hf fun o k h1 h2 => h0 o k (by omega) h2⟩
/-- the hand takes one -/
theorem pc_takeInHand {G : tc_G} {u : tc_S} {t r q : Nat} {v b m : Int32} {g : mp} {c : Nat → en} (hT : gT G t r) (hr : r ≤ 200) (hS : wS g) (h : tb u t r g c) (hns : mn g 0 * mn g 1 ≤ r) (hq : q ≤ 999) : y2 (fn_X9_takeInHand G t (nI q) v b m u) (fun _ w => tb w t r g (cset c (r + 4) (nI (q + 1), v, b, m)) ∧ fr (fT t) u w) := by
  obtain ⟨⟨p0, p11⟩, ⟨p3, p4, p5, p6, p7, p8, p9⟩, l3, ll⟩ := hT
  have hs := h.1.2.1
  have e2 : u.1 t 2 = nI (r + 4) := h.1.1.2
  have w2 : ∀ (w : tc_S) (o k : Nat) (x : Int32), t < o → (tc_w w o k x).1 t 2 = w.1 t 2 := fun w o k x ho => by rw [w_get, if_neg (by omega)]
  have ws : ∀ (w : tc_S) (o j : Nat) (x : Int32), t + 4 ≤ o → (∀ k, k < 11 → w.1 (t + 1) k = g k) → ∀ k, k < 11 → (tc_w w o j x).1 (t + 1) k = g k := fun w o j x ho hw k hk => by rw [w_get, if_neg (by omega)]; exact hw k hk
  unfold fn_X9_takeInHand
  rw [p3, p4, p5, p6, p7, p8, p0, e2]
  refine yl_sd (r + 5) (ll _ (by omega) (by omega)) (by omega) (by omega) ?_
  rw [w2 _ _ _ _ (by omega), e2]
  refine yl_sd (r + 5) (ll _ (by omega) (by omega)) (by omega) (by omega) ?_
  rw [w2 _ _ _ _ (by omega), w2 _ _ _ _ (by omega), e2]
  refine yl_sd (r + 5) (ll _ (by omega) (by omega)) (by omega) (by omega) ?_
  rw [w2 _ _ _ _ (by omega), w2 _ _ _ _ (by omega), w2 _ _ _ _ (by omega), e2]
  refine yl_sd (r + 5) (ll _ (by omega) (by omega)) (by omega) (by omega) ?_
  have s4 := ws _ (t + 7) (r + 4) m (by omega) (ws _ (t + 6) (r + 4) b (by omega) (ws _ (t + 5) (r + 4) v (by omega) (ws u (t + 4) (r + 4) (nI q) (by omega) hs)))
  refine yl_e (pc_firstOf hS s4 hq) ?_
  rw [w2 _ _ _ _ (by omega), w2 _ _ _ _ (by omega), w2 _ _ _ _ (by omega), w2 _ _ _ _ (by omega), e2]
  refine yl_sd (r + 5) (ll _ (by omega) (by omega)) (by omega) (by omega) ?_
  refine yl_e (pc_secondOf hS (ws _ (t + 8) (r + 4) (nI (mhash g 0 q)) (by omega) s4) hq) ?_
  rw [w2 _ _ _ _ (by omega), w2 _ _ _ _ (by omega), w2 _ _ _ _ (by omega), w2 _ _ _ _ (by omega), w2 _ _ _ _ (by omega), e2]
  refine yl_sd (r + 5) (ll _ (by omega) (by omega)) (by omega) (by omega) (yl_ok ?_)
  have f1 : fr (fun o k => t + 4 ≤ o ∧ o < t + 10 ∧ k = r + 4) u (tc_w (tc_w (tc_w (tc_w (tc_w (tc_w u (t + 4) (r + 4) (nI q)) (t + 5) (r + 4) v) (t + 6) (r + 4) b) (t + 7) (r + 4) m) (t + 8) (r + 4) (nI (mhash g 0 q))) (t + 9) (r + 4) (nI (mhash g 1 q))) := fr_w (fr_w (fr_w (fr_w (fr_w (fr_w fr_refl ⟨by omega, by omega, rfl⟩) ⟨by omega, by omega, rfl⟩) ⟨by omega, by omega, rfl⟩) ⟨by omega, by omega, rfl⟩) ⟨by omega, by omega, rfl⟩) ⟨by omega, by omega, rfl⟩
  have r4 : (tc_w (tc_w (tc_w (tc_w (tc_w (tc_w u (t + 4) (r + 4) (nI q)) (t + 5) (r + 4) v) (t + 6) (r + 4) b) (t + 7) (r + 4) m) (t + 8) (r + 4) (nI (mhash g 0 q))) (t + 9) (r + 4) (nI (mhash g 1 q))).1 (t + 4) (r + 4) = nI q ∧ (tc_w (tc_w (tc_w (tc_w (tc_w (tc_w u (t + 4) (r + 4) (nI q)) (t + 5) (r + 4) v) (t + 6) (r + 4) b) (t + 7) (r + 4) m) (t + 8) (r + 4) (nI (mhash g 0 q))) (t + 9) (r + 4) (nI (mhash g 1 q))).1 (t + 5) (r + 4) = v ∧ (tc_w (tc_w (tc_w (tc_w (tc_w (tc_w u (t + 4) (r + 4) (nI q)) (t + 5) (r + 4) v) (t + 6) (r + 4) b) (t + 7) (r + 4) m) (t + 8) (r + 4) (nI (mhash g 0 q))) (t + 9) (r + 4) (nI (mhash g 1 q))).1 (t + 6) (r + 4) = b ∧ (tc_w (tc_w (tc_w (tc_w (tc_w (tc_w u (t + 4) (r + 4) (nI q)) (t + 5) (r + 4) v) (t + 6) (r + 4) b) (t + 7) (r + 4) m) (t + 8) (r + 4) (nI (mhash g 0 q))) (t + 9) (r + 4) (nI (mhash g 1 q))).1 (t + 7) (r + 4) = m ∧ (tc_w (tc_w (tc_w (tc_w (tc_w (tc_w u (t + 4) (r + 4) (nI q)) (t + 5) (r + 4) v) (t + 6) (r + 4) b) (t + 7) (r + 4) m) (t + 8) (r + 4) (nI (mhash g 0 q))) (t + 9) (r + 4) (nI (mhash g 1 q))).1 (t + 8) (r + 4) = nI (mhash g 0 q) ∧ (tc_w (tc_w (tc_w (tc_w (tc_w (tc_w u (t + 4) (r + 4) (nI q)) (t + 5) (r + 4) v) (t + 6) (r + 4) b) (t + 7) (r + 4) m) (t + 8) (r + 4) (nI (mhash g 0 q))) (t + 9) (r + 4) (nI (mhash g 1 q))).1 (t + 9) (r + 4) = nI (mhash g 1 q) := by
    simp only [w_get]
    grind
  generalize tc_w (tc_w (tc_w (tc_w (tc_w (tc_w u (t + 4) (r + 4) (nI q)) (t + 5) (r + 4) v) (t + 6) (r + 4) b) (t + 7) (r + 4) m) (t + 8) (r + 4) (nI (mhash g 0 q))) (t + 9) (r + 4) (nI (mhash g 1 q)) = w at f1 r4 ⊢
  refine ⟨⟨tS_fr h.1 f1 (by omega) (by omega) (by omega), ?_, ?_⟩, fr_mono f1 fun o k hp => ⟨by omega, by omega, by omega⟩⟩
  · intro i hi
    unfold cset
    by_cases e : i = r + 4
    · rw [if_pos e, e]
      exact Or.inr ⟨q, by omega, rfl, r4.1, r4.2.1, r4.2.2.1, r4.2.2.2.1, r4.2.2.2.2.1, r4.2.2.2.2.2⟩
    · rw [if_neg e]
      have := h.2.1 i hi
      unfold pl at this ⊢
      rw [f1 _ _ (by omega), f1 _ _ (by omega), f1 _ _ (by omega), f1 _ _ (by omega), f1 _ _ (by omega), f1 _ _ (by omega)]
      exact this
  · intro x hx
    rw [f1 _ _ (by omega), h.2.2 x hx]
    have z := cnt_set (c := c) (i := r + 4) (e := (nI (q + 1), v, b, m)) (a := x * mn g 1) (n := mn g 1)
    have hx2 : (x + 1) * mn g 1 ≤ mn g 0 * mn g 1 := Nat.mul_le_mul_right _ (by omega)
    rw [Nat.add_mul, Nat.one_mul] at hx2
    rw [if_neg (by omega), if_neg (by omega)] at z
    rw [show cnt (cset c (r + 4) (nI (q + 1), v, b, m)) (x * mn g 1) (mn g 1) = cnt c (x * mn g 1) (mn g 1) by omega]
