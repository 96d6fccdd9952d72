/-! the class: going back, draws, hashes, the hand's swap -/
theorem tS_upd {u w : tc_S} {t r k : Nat} {g : mp} {x : Int32} (h : tS u t r g) (hk : k < 19) (o j : Nat) (hoj : (k < 11 ∧ o = t + 1 ∧ j = k) ∨ (k = 11 ∧ o = t + 2 ∧ j = 0) ∨ (12 ≤ k ∧ k < 18 ∧ o = t ∧ j = k - 1) ∨ (k = 18 ∧ o = t ∧ j = 10)) (e : w = tc_w u o j x) : tS w t r (upd g k x) := by
  obtain ⟨⟨a1, a2⟩, b1, b2, b3, b4⟩ := h
  subst e
  refine ⟨⟨?_, ?_⟩, fun m hm => ?_, ?_, fun m h1 h2 => ?_, ?_⟩
  · rw [w_get, if_neg (by omega)]; exact a1
  · rw [w_get, if_neg (by omega)]; exact a2
  · rw [w_get]
    unfold upd
    by_cases q : m = k
    · rw [if_pos (by omega), if_pos q]
    · rw [if_neg (by omega), if_neg q]; exact b1 m hm
  · rw [w_get]
    unfold upd
    by_cases q : 11 = k
    · rw [if_pos (by omega), if_pos q]
    · rw [if_neg (by omega), if_neg q]; exact b2
  · rw [w_get]
    unfold upd
    by_cases q : m = k
    · rw [if_pos (by omega), if_pos q]
    · rw [if_neg (by omega), if_neg q]; exact b3 m h1 h2
  · rw [w_get]
    unfold upd
    by_cases q : 18 = k
    · rw [if_pos (by omega), if_pos q]
    · rw [if_neg (by omega), if_neg q]; exact b4
/-- a tally's change -/
theorem tb_upd {u w : tc_S} {t r k : Nat} {g : mp} {c : Nat → en} {x : Int32} (h : tb u t r g c) (hk : k < 19) (h11 : 11 ≤ k) (o j : Nat) (hoj : (k = 11 ∧ o = t + 2 ∧ j = 0) ∨ (12 ≤ k ∧ k < 18 ∧ o = t ∧ j = k - 1) ∨ (k = 18 ∧ o = t ∧ j = 10)) (e : w = tc_w u o j x) : tb w t r (upd g k x) c := by
  refine ⟨tS_upd h.1 hk o j (Or.inr hoj) e, fun i hi => ?_, fun b hb => ?_⟩
  · have := h.2.1 i hi
    unfold pl at this ⊢
    simp only [sA_hash (sA_upd h11) (show 0 < 2 by omega), sA_hash (sA_upd h11) (show 1 < 2 by omega)]
    rw [e, w_get, if_neg (by omega), w_get, if_neg (by omega), w_get, if_neg (by omega), w_get, if_neg (by omega), w_get, if_neg (by omega), w_get, if_neg (by omega)]
    exact this
  · rw [mn_upd (by omega)] at hb
    rw [mn_upd (by omega), e, w_get, if_neg (by omega)]
    exact h.2.2 b hb
theorem pc_goBack {G : tc_G} {u : tc_S} {t s r : Nat} {g g0 : mp} {c : Nat → en} (hT : gT G t r) (hT2 : gT G s r) (hd : s + 10 ≤ t ∨ t + 10 ≤ s) (hr : r ≤ 200) (hS : wS g0) (ht : tR u t r) (hseed : u.1 (t + 2) 0 = g 11) (h : tb u s r g0 c) : y2 (fn_X9_goBackTo G t s u) (fun _ w => tb w t r (mback g g0) c ∧ fr (fT t) u w) := by
  unfold fn_X9_goBackTo
  rw [hT.1.1, hT.1.2]
  refine yl_let ?_
  refine yl_b (pc_copyFrom hT hT2 hd hr hS ht h) fun _ w hw => ?_
  refine yl_let (yl_ok ⟨?_, fr_w hw.2 ⟨by omega, by omega, by omega⟩⟩)
  rw [hseed]
  exact tb_upd hw.1 (by omega) (by omega) (t + 2) 0 (Or.inl ⟨rfl, rfl, rfl⟩) rfl
theorem pc_below {G : tc_G} {u : tc_S} {o n : Nat} (h0 : 1 ≤ n) (hn : n < 2 ^ 31) : fn_X2_below G o (nI n) u = some (mpick (mseed (u.1 o 0)) (nI n), tc_w u o 0 (mseed (u.1 o 0))) := by
  unfold fn_X2_below tc_let
  show (if 1 ≤ nI n then tc_nz (nI n) (bl_X2_below_33 G (tc_mod (tc_ush ((tc_w u o 0 (u.1 o 0 * 1103515245 + 12345)).1 o 0) 16) (nI n)) (tc_w u o 0 (u.1 o 0 * 1103515245 + 12345))) else _) = _
  rw [if_pos (show (1 : Int32) ≤ nI n from nI_le h0 hn), pu_nz h0 hn, w_get, if_pos ⟨rfl, rfl⟩]
  rfl
theorem pc_draw1 {G : tc_G} {u : tc_S} {t r k n a : Nat} {g : mp} {R : Type} {K : Int32 → tc_S → Option R} {Q : R → Prop} (h0 : 1 ≤ n) (hn : n < 2 ^ 31) (hk : k < 4) (h : tS u t r g) (hK : ∀ x w, x = mpick (mseed (g 11)) (nI n) → w = tc_w u (t + 2) 0 (mseed (g 11)) → tS (tc_w w (t + 1) (7 + k) (nI a + x)) t r (mdh1 g k (nI n) (nI a)) → fr (fT t) u (tc_w w (t + 1) (7 + k) (nI a + x)) → yl (K x w) Q) : yl (tc_b (fn_X2_below G (t + 2) (nI n) u) K) Q := by
  refine yl_e (pc_below h0 hn) ?_
  rw [h.2.2.1]
  refine hK _ _ rfl rfl ?_ ?_
  · have z := tS_upd (x := mseed (g 11)) h (show 11 < 19 by omega) (t + 2) 0 (Or.inr (Or.inl ⟨rfl, rfl, rfl⟩)) rfl
    exact tS_upd (x := nI a + mpick (mseed (g 11)) (nI n)) z (show 7 + k < 19 by omega) (t + 1) (7 + k) (Or.inl ⟨by omega, rfl, rfl⟩) rfl
  · exact fr_w (fr_w fr_refl ⟨by omega, by omega, by omega⟩) ⟨by omega, by omega, by omega⟩
theorem pc_drawHashes {G : tc_G} {u : tc_S} {t r : Nat} {g : mp} (p11 : tc_p G (t + 1) 11 = t + 2) (h : tS u t r g) : y2 (fn_X8_drawHashes G (t + 1) u) (fun _ w => tS w t r (mdh g) ∧ fr (fT t) u w) := by
  have z0 : ∀ x : Int32, nI 0 + x = x := fun x => Int32.zero_add x
  unfold fn_X8_drawHashes
  rw [p11, show (1008 : Int32) = nI 1008 from rfl, show (1009 : Int32) = nI 1009 from rfl]
  refine pc_draw1 (k := 0) (a := 1) (by omega) (by omega) (by omega) h fun x w hx hw s1 f1 => yl_let ?_
  rw [show (1 : Int32) + x = nI 1 + x from rfl]
  generalize tc_w w (t + 1) 7 (nI 1 + x) = w1 at s1 f1 ⊢
  refine pc_draw1 (k := 1) (a := 0) (by omega) (by omega) (by omega) s1 fun x w hx hw s2 f2 => yl_let ?_
  rw [z0] at s2 f2
  generalize tc_w w (t + 1) 8 x = w2 at s2 f2 ⊢
  refine pc_draw1 (k := 2) (a := 1) (by omega) (by omega) (by omega) s2 fun x w hx hw s3 f3 => yl_let ?_
  rw [show (1 : Int32) + x = nI 1 + x from rfl]
  generalize tc_w w (t + 1) 9 (nI 1 + x) = w3 at s3 f3 ⊢
  refine pc_draw1 (k := 3) (a := 0) (by omega) (by omega) (by omega) s3 fun x w hx hw s4 f4 => yl_let ?_
  rw [z0] at s4 f4
  exact yl_ok ⟨s4, fr_trans f1 (fr_trans f2 (fr_trans f3 f4))⟩
def mhs (g : mp) (a b c d : Int32) : mp := upd (upd (upd (upd g 7 a) 8 b) 9 c) 10 d
theorem pc_takeHashes {G : tc_G} {u : tc_S} {t r : Nat} {g : mp} {a b c d : Int32} (h : tS u t r g) : y2 (fn_X8_takeHashes G (t + 1) a b c d u) (fun _ w => tS w t r (mhs g a b c d) ∧ fr (fT t) u w) := by
  unfold fn_X8_takeHashes
  have s1 := tS_upd (x := a) h (show 7 < 19 by omega) (t + 1) 7 (Or.inl ⟨by omega, rfl, rfl⟩) rfl
  have s2 := tS_upd (x := b) s1 (show 8 < 19 by omega) (t + 1) 8 (Or.inl ⟨by omega, rfl, rfl⟩) rfl
  have s3 := tS_upd (x := c) s2 (show 9 < 19 by omega) (t + 1) 9 (Or.inl ⟨by omega, rfl, rfl⟩) rfl
  have s4 := tS_upd (x := d) s3 (show 10 < 19 by omega) (t + 1) 10 (Or.inl ⟨by omega, rfl, rfl⟩) rfl
  exact yl_let (yl_let (yl_let (yl_let (yl_ok ⟨s4, fr_w (fr_w (fr_w (fr_w fr_refl ⟨by omega, by omega, by omega⟩) ⟨by omega, by omega, by omega⟩) ⟨by omega, by omega, by omega⟩) ⟨by omega, by omega, by omega⟩⟩))))
/-- a number of an entry changes, or two entries change places: no count changes -/
theorem tb_perm {u w : tc_S} {t r : Nat} {g : mp} {c c2 : Nat → en} (h : tb u t r g c) (hns : mn g 0 * mn g 1 ≤ r) (hw : ∀ o k, o < t + 4 ∨ t + 10 ≤ o → w.1 o k = u.1 o k) (hp : ∀ i, i ≤ r + 4 → pl w t g i (c2 i)) (hc : ∀ i, i ≤ r + 4 → ((c2 i).1 = 0 ↔ (c i).1 = 0)) : tb w t r g c2 ∧ fr (fT t) u w := by
  obtain ⟨⟨⟨a1, a2⟩, b1, b2, b3, b4⟩, d1, d2⟩ := h
  refine ⟨⟨⟨⟨?_, ?_⟩, fun k hk => ?_, ?_, fun k h1 h2 => ?_, ?_⟩, hp, fun b hb => ?_⟩, fun o k hn => ?_⟩
  · rw [hw _ _ (by omega)]; exact a1
  · rw [hw _ _ (by omega)]; exact a2
  · rw [hw _ _ (by omega)]; exact b1 k hk
  · rw [hw _ _ (by omega)]; exact b2
  · rw [hw _ _ (by omega)]; exact b3 k h1 h2
  · rw [hw _ _ (by omega)]; exact b4
  · rw [hw _ _ (by omega), d2 b hb]
    have hx2 : (b + 1) * mn g 1 ≤ mn g 0 * mn g 1 := Nat.mul_le_mul_right _ (by omega)
    rw [Nat.add_mul, Nat.one_mul] at hx2
    unfold cnt
    refine congrArg nI (cf_congr fun i h1 h2 => ?_)
    have := hc i (by omega)
    simp only [this]
  · have hn2 : ¬ (t ≤ o ∧ o < t + 10 ∧ ¬ (o = t ∧ (k = 1 ∨ k = 2))) := hn
    exact hw _ _ (by omega)
theorem tb_moved {u : tc_S} {t r i q : Nat} {g : mp} {c : Nat → en} {x : Int32} (h : tb u t r g c) (hns : mn g 0 * mn g 1 ≤ r) (hi : i ≤ r + 4) (he : (c i).1 = nI (q + 1)) (hq : q ≤ 999) : tb (tc_w u (t + 7) i x) t r g (cset c i ((c i).1, (c i).2.1, (c i).2.2.1, x)) ∧ fr (fT t) u (tc_w u (t + 7) i x) := by
  refine tb_perm h hns (fun o k ho => by rw [w_get, if_neg (by omega)]) (fun j hj => ?_) (fun j hj => ?_)
  · unfold cset
    by_cases e : j = i
    · subst e
      rw [if_pos rfl]
      obtain ⟨e4, e5, e6, e7, e8, e9⟩ := pl_ent (h.2.1 j hj) he hq
      refine Or.inr ⟨q, by omega, he, ?_, ?_, ?_, ?_, ?_, ?_⟩
      · rw [w_get, if_neg (by omega)]; exact e4
      · rw [w_get, if_neg (by omega)]; exact e5
      · rw [w_get, if_neg (by omega)]; exact e6
      · rw [w_get, if_pos ⟨rfl, rfl⟩]
      · rw [w_get, if_neg (by omega)]; exact e8
      · rw [w_get, if_neg (by omega)]; exact e9
    · rw [if_neg e]
      have := h.2.1 j hj
      unfold pl at this ⊢
      rw [w_get, if_neg (by omega), w_get, if_neg (by omega), w_get, if_neg (by omega), w_get, if_neg (by omega), w_get, if_neg (by omega), w_get, if_neg (by omega)]
      exact this
  · unfold cset
    by_cases e : j = i
    · rw [if_pos e, e]
    · rw [if_neg e]
theorem tb_val {u : tc_S} {t r i q : Nat} {g : mp} {c : Nat → en} {x : Int32} (h : tb u t r g c) (hns : mn g 0 * mn g 1 ≤ r) (hi : i ≤ r + 4) (he : (c i).1 = nI (q + 1)) (hq : q ≤ 999) : tb (tc_w u (t + 5) i x) t r g (cset c i ((c i).1, x, (c i).2.2.1, (c i).2.2.2)) ∧ fr (fT t) u (tc_w u (t + 5) i x) := by
  refine tb_perm h hns (fun o k ho => by rw [w_get, if_neg (by omega)]) (fun j hj => ?_) (fun j hj => ?_)
  · unfold cset
    by_cases e : j = i
    · subst e
      rw [if_pos rfl]
      obtain ⟨e4, e5, e6, e7, e8, e9⟩ := pl_ent (h.2.1 j hj) he hq
      refine Or.inr ⟨q, by omega, he, ?_, ?_, ?_, ?_, ?_, ?_⟩
      · rw [w_get, if_neg (by omega)]; exact e4
      · rw [w_get, if_pos ⟨rfl, rfl⟩]
      · rw [w_get, if_neg (by omega)]; exact e6
      · rw [w_get, if_neg (by omega)]; exact e7
      · rw [w_get, if_neg (by omega)]; exact e8
      · rw [w_get, if_neg (by omega)]; exact e9
    · rw [if_neg e]
      have := h.2.1 j hj
      unfold pl at this ⊢
      rw [w_get, if_neg (by omega), w_get, if_neg (by omega), w_get, if_neg (by omega), w_get, if_neg (by omega), w_get, if_neg (by omega), w_get, if_neg (by omega)]
      exact this
  · unfold cset
    by_cases e : j = i
    · rw [if_pos e, e]
    · rw [if_neg e]
def swp (c : Nat → en) (i j : Nat) : Nat → en := cset (cset c i (c j)) j (c i)
def swW (u : tc_S) (t h i : Nat) : tc_S := tc_w (tc_w (tc_w (tc_w (tc_w (tc_w (tc_w (tc_w (tc_w (tc_w (tc_w (tc_w u (t + 4) h (u.1 (t + 4) i)) (t + 5) h (u.1 (t + 5) i)) (t + 6) h (u.1 (t + 6) i)) (t + 7) h (u.1 (t + 7) i)) (t + 8) h (u.1 (t + 8) i)) (t + 9) h (u.1 (t + 9) i)) (t + 4) i (u.1 (t + 4) h)) (t + 5) i (u.1 (t + 5) h)) (t + 6) i (u.1 (t + 6) h)) (t + 7) i (u.1 (t + 7) h)) (t + 8) i (u.1 (t + 8) h)) (t + 9) i (u.1 (t + 9) h)
theorem swW_get {u : tc_S} {t h i o k : Nat} : (swW u t h i).1 o k = if t + 4 ≤ o ∧ o ≤ t + 9 ∧ k = i then u.1 o h else if t + 4 ≤ o ∧ o ≤ t + 9 ∧ k = h then u.1 o i else u.1 o k := by
  unfold swW
  simp only [w_get]
  by_cases h1 : t + 4 ≤ o ∧ o ≤ t + 9
  · rcases (show o = t + 4 ∨ o = t + 5 ∨ o = t + 6 ∨ o = t + 7 ∨ o = t + 8 ∨ o = t + 9 by omega) with rfl | rfl | rfl | rfl | rfl | rfl <;> grind
  · rw [if_neg (by omega), if_neg (by omega), if_neg (by omega), if_neg (by omega), if_neg (by omega), if_neg (by omega), if_neg (by omega), if_neg (by omega), if_neg (by omega), if_neg (by omega), if_neg (by omega), if_neg (by omega), if_neg (by omega), if_neg (by omega)]
theorem pc_swap {G : tc_G} {u : tc_S} {t r i : Nat} {g : mp} {c : Nat → en} (hT : gT G t r) (hr : r ≤ 200) (h : tb u t r g c) (hns : mn g 0 * mn g 1 ≤ r) (hi : i < r + 4) (hci : ¬ (c i).1 = 0) (hch : ¬ (c (r + 4)).1 = 0) : y2 (fn_X9_swapHand G t (nI i) u) (fun _ w => tb w t r g (swp c i (r + 4)) ∧ fr (fT t) u w) := by
  obtain ⟨⟨p0, p11⟩, ⟨p3, p4, p5, p6, p7, p8, p9⟩, l3, ll⟩ := hT
  have e2 : u.1 t 2 = nI (r + 4) := h.1.1.2
  have w2 : ∀ (w : tc_S) (o k : Nat) (x : Int32), t < o → (tc_w w o k x).1 t 2 = w.1 t 2 := fun w o k x ho => by rw [w_get, if_neg (by omega)]
  unfold fn_X9_swapHand
  rw [p3, p4, p5, p6, p7, p8, e2]
  refine yl_ld (r + 5) (ll _ (by omega) (by omega)) (by omega) (by omega) ?_
  refine yl_ld (r + 5) (ll _ (by omega) (by omega)) (by omega) (by omega) ?_
  refine yl_ld (r + 5) (ll _ (by omega) (by omega)) (by omega) (by omega) ?_
  refine yl_ld (r + 5) (ll _ (by omega) (by omega)) (by omega) (by omega) ?_
  refine yl_ld (r + 5) (ll _ (by omega) (by omega)) (by omega) (by omega) ?_
  refine yl_ld (r + 5) (ll _ (by omega) (by omega)) (by omega) (by omega) ?_
  refine yl_ld (r + 5) (ll _ (by omega) (by omega)) (by omega) (by omega) ?_
  refine yl_sd (r + 5) (ll _ (by omega) (by omega)) (by omega) (by omega) ?_
  refine yl_ld (r + 5) (ll _ (by omega) (by omega)) (by omega) (by omega) ?_
  rw [w2 _ _ _ _ (by omega), e2, tc_w_ne (by omega)]
  refine yl_sd (r + 5) (ll _ (by omega) (by omega)) (by omega) (by omega) ?_
  refine yl_ld (r + 5) (ll _ (by omega) (by omega)) (by omega) (by omega) ?_
  rw [w2 _ _ _ _ (by omega), w2 _ _ _ _ (by omega), e2, tc_w_ne (by omega), tc_w_ne (by omega)]
  refine yl_sd (r + 5) (ll _ (by omega) (by omega)) (by omega) (by omega) ?_
  refine yl_ld (r + 5) (ll _ (by omega) (by omega)) (by omega) (by omega) ?_
  rw [w2 _ _ _ _ (by omega), w2 _ _ _ _ (by omega), w2 _ _ _ _ (by omega), e2, tc_w_ne (by omega), tc_w_ne (by omega), tc_w_ne (by omega)]
  refine yl_sd (r + 5) (ll _ (by omega) (by omega)) (by omega) (by omega) ?_
  refine yl_ld (r + 5) (ll _ (by omega) (by omega)) (by omega) (by omega) ?_
  rw [w2 _ _ _ _ (by omega), w2 _ _ _ _ (by omega), w2 _ _ _ _ (by omega), w2 _ _ _ _ (by omega), e2, tc_w_ne (by omega), tc_w_ne (by omega), tc_w_ne (by omega), tc_w_ne (by omega)]
  refine yl_sd (r + 5) (ll _ (by omega) (by omega)) (by omega) (by omega) ?_
  refine yl_ld (r + 5) (ll _ (by omega) (by omega)) (by omega) (by omega) ?_
  rw [w2 _ _ _ _ (by omega), w2 _ _ _ _ (by omega), w2 _ _ _ _ (by omega), w2 _ _ _ _ (by omega), w2 _ _ _ _ (by omega), e2, tc_w_ne (by omega), tc_w_ne (by omega), tc_w_ne (by omega), tc_w_ne (by omega), tc_w_ne (by omega)]
  refine yl_sd (r + 5) (ll _ (by omega) (by omega)) (by omega) (by omega) ?_
  refine yl_sd (r + 5) (ll _ (by omega) (by omega)) (by omega) (by omega) ?_
  refine yl_sd (r + 5) (ll _ (by omega) (by omega)) (by omega) (by omega) ?_
  refine yl_sd (r + 5) (ll _ (by omega) (by omega)) (by omega) (by omega) ?_
  refine yl_sd (r + 5) (ll _ (by omega) (by omega)) (by omega) (by omega) ?_
  refine yl_sd (r + 5) (ll _ (by omega) (by omega)) (by omega) (by omega) ?_
  refine yl_sd (r + 5) (ll _ (by omega) (by omega)) (by omega) (by omega) (yl_ok ?_)
  show tb (swW u t (r + 4) i) t r g (swp c i (r + 4)) ∧ fr (fT t) u (swW u t (r + 4) i)
  refine tb_perm h hns (fun o k ho => by rw [swW_get, if_neg (by omega), if_neg (by omega)]) (fun j hj => ?_) (fun j hj => ?_)
  · unfold swp cset
    by_cases e1 : j = r + 4
    · rw [if_pos e1]
      have := h.2.1 i (by omega)
      unfold pl at this ⊢
      rw [swW_get, if_neg (by omega), if_pos ⟨by omega, by omega, e1⟩, swW_get, if_neg (by omega), if_pos ⟨by omega, by omega, e1⟩, swW_get, if_neg (by omega), if_pos ⟨by omega, by omega, e1⟩, swW_get, if_neg (by omega), if_pos ⟨by omega, by omega, e1⟩, swW_get, if_neg (by omega), if_pos ⟨by omega, by omega, e1⟩, swW_get, if_neg (by omega), if_pos ⟨by omega, by omega, e1⟩]
      exact this
    · rw [if_neg e1]
      by_cases e2 : j = i
      · rw [if_pos e2]
        have := h.2.1 (r + 4) (by omega)
        unfold pl at this ⊢
        rw [swW_get, if_pos ⟨by omega, by omega, e2⟩, swW_get, if_pos ⟨by omega, by omega, e2⟩, swW_get, if_pos ⟨by omega, by omega, e2⟩, swW_get, if_pos ⟨by omega, by omega, e2⟩, swW_get, if_pos ⟨by omega, by omega, e2⟩, swW_get, if_pos ⟨by omega, by omega, e2⟩]
        exact this
      · rw [if_neg e2]
        have := h.2.1 j hj
        unfold pl at this ⊢
        rw [swW_get, if_neg (by omega), if_neg (by omega), swW_get, if_neg (by omega), if_neg (by omega), swW_get, if_neg (by omega), if_neg (by omega), swW_get, if_neg (by omega), if_neg (by omega), swW_get, if_neg (by omega), if_neg (by omega), swW_get, if_neg (by omega), if_neg (by omega)]
        exact this
  · unfold swp cset
    by_cases e1 : j = r + 4
    · rw [if_pos e1, e1]
      exact ⟨fun q => absurd q hci, fun q => absurd q hch⟩
    · rw [if_neg e1]
      by_cases e2 : j = i
      · rw [if_pos e2, e2]
        exact ⟨fun q => absurd q hch, fun q => absurd q hci⟩
      · rw [if_neg e2]
