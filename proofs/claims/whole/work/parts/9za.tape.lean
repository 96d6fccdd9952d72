/-! the tape: feed, end, fault -/
def sb (b : Nat) : Int32 := (nI b).toInt8.toInt32
def tw (u : tc_S) (t : Nat → Nat) (n : Nat) : Prop := n ≤ 400 ∧ (∀ k, t k < 256) ∧ (∀ k, k < 400 → u.1 73 k = nI (t k) ∧ u.1 12 k = sb (t k)) ∧ u.1 1 2 = nI n ∧ u.1 71 3 = nI n ∧ u.1 1 3 = u.1 71 4 ∧ u.1 1 4 = u.1 71 5
/-- all that a call may change, images aside -/
def fMX (o k : Nat) : Prop := fMM o k ∨ (o = 1 ∧ 2 ≤ k) ∨ o = 12 ∨ o = 73 ∨ (o = 71 ∧ 3 ≤ k)
def pq2 (L : tc_L) (u : tc_S) (P : Nat) (g2 : mp) (t2 : Nat → Nat) (n2 : Nat) (q : tc_L × tc_S) : Prop := q.1 = L ∧ isM q.2 0 g2 ∧ cC q.2 P g2 ∧ tw q.2 t2 n2 ∧ fr fMX u q.2
def gY (G : tc_G) : Prop := G.2.2.1 12 = 400
theorem in_gY : gY (tc_gl in_L4) := rfl
theorem isM_X {u w : tc_S} {g : mp} (h : isM u 0 g) (hf : fr (fun o k => o = 12 ∨ (o = 1 ∧ 2 ≤ k) ∨ o = 73 ∨ (o = 71 ∧ 3 ≤ k ∧ k < 6)) u w) : isM w 0 g := isM_fr h hf fun k _ => by omega
theorem cC_X {u w : tc_S} {P : Nat} {g : mp} (h : cC u P g) (hf : fr (fun o k => o = 12 ∨ (o = 1 ∧ 2 ≤ k) ∨ o = 73 ∨ (o = 71 ∧ 3 ≤ k ∧ k < 6)) u w) : cC w P g := by
  have tr : ∀ {t r : Nat}, (t = 14 ∨ t = 39 ∨ t = 55) → tR u t r → tR w t r := fun ht q => ⟨by rw [hf _ _ (by omega)]; exact q.1, by rw [hf _ _ (by omega)]; exact q.2⟩
  exact ⟨mt_fr h.1 hf fun o k q1 q2 => by omega, h.2.1, tr (by omega) h.2.2.1, tr (by omega) h.2.2.2.1, tr (by omega) h.2.2.2.2⟩
theorem fX_X {u w : tc_S} (hf : fr (fun o k => o = 12 ∨ (o = 1 ∧ 2 ≤ k) ∨ o = 73 ∨ (o = 71 ∧ 3 ≤ k ∧ k < 6)) u w) : fr fMX u w := fr_mono hf fun o k q => by unfold fMX; omega
theorem by_ex (x : Int32) : ∃ b, b < 256 ∧ x &&& 255 = nI b ∧ x.toInt8.toInt32.toInt8.toInt32 = sb b := by
  refine ⟨x.toBitVec.toNat % 256, Nat.mod_lt _ (by omega), pk_and x 8 (by decide), ?_⟩
  unfold sb
  rw [← pk_and x (m := 255) 8 (by decide), Int32.toInt8_and, show (255 : Int32).toInt8 = -1 from by decide, Int8.and_neg_one]
  simp
def byt (v : Int32) (i : Nat) : Nat := ((v >>> (nI (24 - 8 * i) &&& 31)) &&& 255).toNatClampNeg
theorem byt_sp (v : Int32) (i : Nat) : byt v i < 256 ∧ (v >>> (nI (24 - 8 * i) &&& 31)) &&& 255 = nI (byt v i) ∧ (v >>> (nI (24 - 8 * i) &&& 31)).toInt8.toInt32.toInt8.toInt32 = sb (byt v i) := by
  obtain ⟨b, b1, b2, b3⟩ := by_ex (v >>> (nI (24 - 8 * i) &&& 31))
  have e : byt v i = b := by unfold byt; rw [b2, nI_clamp (by omega)]
  rw [e]
  exact ⟨b1, b2, b3⟩
theorem ap_1 {G : tc_G} {u : tc_S} {v sh : Int32} {m f : Nat} (h0 : ¬ sh < 0) (hm : m < 400) (hl : u.1 1 2 = nI m) (h1 : tc_p G 1 1 = 12) (hY : gY G) : lo_X10_append_3 G (f + 1) 1 v sh u = lo_X10_append_3 G f 1 v (sh + (-8)) (tc_w (tc_w u 12 m ((v >>> (sh &&& 31)).toInt8.toInt32).toInt8.toInt32) 1 2 (nI (m + 1))) := by
  have a : ¬ (400 : Int32) ≤ nI m := nI_ge (b := 400) (by omega) (by omega)
  rw [lo_X10_append_3, if_neg h0, hl, if_neg a, h1, pu_sd hY (by omega) (by omega)]
  unfold tc_let
  rw [show (tc_w u 12 m ((v >>> (sh &&& 31)).toInt8.toInt32).toInt8.toInt32).1 1 2 = nI m from by rw [w_get, if_neg (by omega)]; exact hl, nI_1]
theorem pc_append {G : tc_G} {u : tc_S} {v : Int32} {m : Nat} (hm : m + 4 ≤ 400) (hl : u.1 1 2 = nI m) (h1 : tc_p G 1 1 = 12) (hY : gY G) : y2 (fn_X10_append G 1 v u) (fun _ w => w.1 1 2 = nI (m + 4) ∧ (∀ i, i < 4 → w.1 12 (m + i) = sb (byt v i)) ∧ fr (fun o k => (o = 12 ∧ m ≤ k ∧ k < m + 4) ∨ (o = 1 ∧ k = 2)) u w) := by
  unfold fn_X10_append
  obtain ⟨f, hf⟩ : ∃ f, tc_fu = f + 5 := ⟨4091, rfl⟩
  have l2 : ∀ (w : tc_S) (x : Int32), (tc_w w 1 2 x).1 1 2 = x := fun w x => by rw [w_get, if_pos ⟨rfl, rfl⟩]
  rw [hf, ap_1 (by decide) (show m < 400 by omega) hl h1 hY, ap_1 (by decide) (show m + 1 < 400 by omega) (l2 _ _) h1 hY, ap_1 (by decide) (show m + 1 + 1 < 400 by omega) (l2 _ _) h1 hY, ap_1 (by decide) (show m + 1 + 1 + 1 < 400 by omega) (l2 _ _) h1 hY, lo_X10_append_3, if_pos (by decide)]
  unfold bl_X10_append_46
  refine yl_ok ⟨l2 _ _, fun i hi => ?_, ?_⟩
  · have b0 := (byt_sp v 0).2.2
    have b1 := (byt_sp v 1).2.2
    have b2 := (byt_sp v 2).2.2
    have b3 := (byt_sp v 3).2.2
    have hi4 : i = 0 ∨ i = 1 ∨ i = 2 ∨ i = 3 := by omega
    simp only [w_get]
    rcases hi4 with rfl | rfl | rfl | rfl
    · rw [← b0]
      repeat rw [if_neg (by omega)]
      rw [if_pos ⟨trivial, by omega⟩]
      rfl
    · rw [← b1]
      repeat rw [if_neg (by omega)]
      rw [if_pos ⟨trivial, by omega⟩]
      rfl
    · rw [← b2]
      repeat rw [if_neg (by omega)]
      rw [if_pos ⟨trivial, by omega⟩]
      rfl
    · rw [← b3]
      repeat rw [if_neg (by omega)]
      rw [if_pos ⟨trivial, by omega⟩]
      rfl
  · have s : ∀ {w : tc_S} {j : Nat} {x y : Int32}, m ≤ j → j < m + 4 → fr (fun o k => (o = 12 ∧ m ≤ k ∧ k < m + 4) ∨ (o = 1 ∧ k = 2)) u w → fr (fun o k => (o = 12 ∧ m ≤ k ∧ k < m + 4) ∨ (o = 1 ∧ k = 2)) u (tc_w (tc_w w 12 j x) 1 2 y) := fun h1 h2 h => fr_w (fr_w h (Or.inl ⟨rfl, h1, h2⟩)) (Or.inr ⟨rfl, rfl⟩)
    exact s (by omega) (by omega) (s (by omega) (by omega) (s (by omega) (by omega) (s (by omega) (by omega) fr_refl)))
def vsel (a b c d e : Int32) (i : Nat) : Int32 := if i < 4 then a else if i < 8 then b else if i < 12 then c else if i < 16 then d else e
def fbt (a b c d e : Int32) (i : Nat) : Nat := byt (vsel a b c d e i) (i % 4)
theorem mt_feed {G : tc_G} (o0 : tc_p G 0 0 = 1) (h1 : tc_p G 1 1 = 12) (hY : gY G) {u : tc_S} {n : Nat} {a b c d e : Int32} (hl : u.1 1 2 = nI n) (hn : n + 20 ≤ 400) : y2 (fn_X11_feed G 0 a b c d e u) (fun r w => r = nI (n + 20) ∧ w.1 1 2 = nI (n + 20) ∧ (∀ i, i < 20 → w.1 12 (n + i) = sb (fbt a b c d e i)) ∧ fr (fun o k => (o = 12 ∧ n ≤ k ∧ k < n + 20) ∨ (o = 1 ∧ k = 2)) u w) := by
  unfold fn_X11_feed
  rw [o0, hl, show nI n + 20 = nI (n + 20) from nI_add n 20]
  refine yl_p (nI_le (b := 400) hn (by omega)) ?_
  refine yl_b (pc_append (m := n) (by omega) hl h1 hY) fun _ w1 a1 => ?_
  refine yl_b (pc_append (m := n + 4) (by omega) a1.1 h1 hY) fun _ w2 a2 => ?_
  refine yl_b (pc_append (m := n + 4 + 4) (by omega) a2.1 h1 hY) fun _ w3 a3 => ?_
  refine yl_b (pc_append (m := n + 4 + 4 + 4) (by omega) a3.1 h1 hY) fun _ w4 a4 => ?_
  refine yl_b (pc_append (m := n + 4 + 4 + 4 + 4) (by omega) a4.1 h1 hY) fun _ w5 a5 => ?_
  have e5 : w5.1 1 2 = nI (n + 20) := a5.1
  refine yl_ok ⟨e5, e5, fun i hi => ?_, ?_⟩
  · unfold fbt vsel
    by_cases c1 : i < 4
    · rw [if_pos c1, a5.2.2 _ _ (by omega), a4.2.2 _ _ (by omega), a3.2.2 _ _ (by omega), a2.2.2 _ _ (by omega), a1.2.1 i c1, Nat.mod_eq_of_lt c1]
    · rw [if_neg c1]
      by_cases c2 : i < 8
      · have z := a2.2.1 (i - 4) (by omega)
        rw [if_pos c2, a5.2.2 _ _ (by omega), a4.2.2 _ _ (by omega), a3.2.2 _ _ (by omega), show n + i = n + 4 + (i - 4) by omega, z, show i % 4 = i - 4 by omega]
      · rw [if_neg c2]
        by_cases c3 : i < 12
        · have z := a3.2.1 (i - 8) (by omega)
          rw [if_pos c3, a5.2.2 _ _ (by omega), a4.2.2 _ _ (by omega), show n + i = n + 4 + 4 + (i - 8) by omega, z, show i % 4 = i - 8 by omega]
        · rw [if_neg c3]
          by_cases c4 : i < 16
          · have z := a4.2.1 (i - 12) (by omega)
            rw [if_pos c4, a5.2.2 _ _ (by omega), show n + i = n + 4 + 4 + 4 + (i - 12) by omega, z, show i % 4 = i - 12 by omega]
          · have z := a5.2.1 (i - 16) (by omega)
            rw [if_neg c4, show n + i = n + 4 + 4 + 4 + 4 + (i - 16) by omega, z, show i % 4 = i - 16 by omega]
  · refine fr_trans (fr_mono a1.2.2 fun o k q => by omega) (fr_trans (fr_mono a2.2.2 fun o k q => by omega) (fr_trans (fr_mono a3.2.2 fun o k q => by omega) (fr_trans (fr_mono a4.2.2 fun o k q => by omega) (fr_mono a5.2.2 fun o k q => by omega))))
theorem pr_feed18 {G : tc_G} (hG : gm G) {u0 : tc_S} {n : Nat} {a b c d e : Int32} (hn : n + 20 ≤ 400) : ∀ (m k f : Nat) (u : tc_S), k + m = 20 → m < f → u.1 71 3 = nI n → (∀ i, i < k → u.1 73 (n + i) = nI (fbt a b c d e i)) → fr (fun o k => (o = 73 ∧ n ≤ k ∧ k < n + 20) ∨ (o = 71 ∧ k = 3)) u0 u → y2 (lo_X12_feed_18 G f 71 a b c d e (nI k) u) (fun r w => r = nI (n + 20) ∧ w.1 71 3 = nI (n + 20) ∧ (∀ i, i < 20 → w.1 73 (n + i) = nI (fbt a b c d e i)) ∧ fr (fun o k => (o = 73 ∧ n ≤ k ∧ k < n + 20) ∨ (o = 71 ∧ k = 3)) u0 w) := by
  intro m
  induction m with
  | zero =>
    intro k f u hk hf hl hb hr
    obtain ⟨f, rfl⟩ : ∃ k, f = k + 1 := ⟨f - 1, by omega⟩
    rw [lo_X12_feed_18, show (20 : Int32) = nI 20 from rfl, pu_le (by omega) (by omega), if_pos (by omega)]
    refine yl_let ?_
    rw [hl, nI_add]
    refine yl_ok ⟨by rw [w_get, if_pos ⟨rfl, rfl⟩], by rw [w_get, if_pos ⟨rfl, rfl⟩], fun i hi => ?_, fr_w hr (Or.inr ⟨rfl, rfl⟩)⟩
    rw [w_get, if_neg (by omega)]
    exact hb i (by omega)
  | succ m ih =>
    intro k f u hk hf hl hb hr
    obtain ⟨f, rfl⟩ : ∃ k, f = k + 1 := ⟨f - 1, by omega⟩
    have core : y2 (bl_X12_feed_71 G (lo_X12_feed_18 G f) 71 a b c d e (nI k) (vsel a b c d e k) u) (fun r w => r = nI (n + 20) ∧ w.1 71 3 = nI (n + 20) ∧ (∀ i, i < 20 → w.1 73 (n + i) = nI (fbt a b c d e i)) ∧ fr (fun o k => (o = 73 ∧ n ≤ k ∧ k < n + 20) ∨ (o = 71 ∧ k = 3)) u0 w) := by
      unfold bl_X12_feed_71
      rw [hl, nI_add, hG.2.1]
      refine yl_sd 400 hG.2.2 (by omega) (by omega) (yl_let ?_)
      rw [nI_1]
      refine ih (k + 1) f _ (by omega) (by omega) (by rw [w_get, if_neg (by omega)]; exact hl) (fun i hi => ?_) (fr_w hr (Or.inl ⟨rfl, by omega, by omega⟩))
      rw [w_get]
      by_cases z : i = k
      · rw [if_pos ⟨rfl, by omega⟩, z]
        unfold fbt
        rw [← (byt_sp (vsel a b c d e k) (k % 4)).2.1, show nI k &&& 3 = nI (k % 4) from pk_andN (by omega) 2 (by decide), show (8 : Int32) * nI (k % 4) = nI (8 * (k % 4)) from pk_mul 8 _, show (24 : Int32) - nI (8 * (k % 4)) = nI (24 - 8 * (k % 4)) from pk_sub (a := 24) (by omega)]
      · rw [if_neg (by omega)]
        exact hb i (by omega)
    rw [lo_X12_feed_18, show (20 : Int32) = nI 20 from rfl, pu_le (by omega) (by omega), if_neg (by omega), show (4 : Int32) = nI 4 from rfl, pu_le (by omega) (by omega), show (8 : Int32) = nI 8 from rfl, pu_le (by omega) (by omega), show (12 : Int32) = nI 12 from rfl, pu_le (by omega) (by omega), show (16 : Int32) = nI 16 from rfl, pu_le (by omega) (by omega)]
    unfold vsel at core
    by_cases c1 : k < 4
    · rw [if_pos c1] at core
      exact yl_n (by omega) core
    · rw [if_neg c1] at core
      refine yl_p (by omega) ?_
      by_cases c2 : k < 8
      · rw [if_pos c2] at core
        exact yl_n (by omega) core
      · rw [if_neg c2] at core
        refine yl_p (by omega) ?_
        by_cases c3 : k < 12
        · rw [if_pos c3] at core
          exact yl_n (by omega) core
        · rw [if_neg c3] at core
          refine yl_p (by omega) ?_
          by_cases c4 : k < 16
          · rw [if_pos c4] at core
            exact yl_n (by omega) core
          · rw [if_neg c4] at core
            exact yl_p (by omega) core
theorem c_feed {G : tc_G} (hA : gA G) (hY : gY G) {L : tc_L} {u : tc_S} {P n : Nat} {g : mp} {t : Nat → Nat} (a b c d e : Int32) (hu : cC u P g) (hM : isM u 0 g) (ht : tw u t n) : ∃ g2 P2 t2 n2, P2 ≤ P + 60 ∧ yl (tc_b (fn_X11_feed G 0 a b c d e u) fun r1 u1 => tc_b (fn_X12_feed G 71 a b c d e u1) fun r2 u2 => if r1 = r2 then some (L, u2) else none) (pq2 L u P2 g2 t2 n2) := by
  have hfu := tc_fu_big
  obtain ⟨⟨o0, o1, o2, o3, o4, o5, o6, o7, o8, o9, o10⟩, -, -, b1, b2, b3, b4⟩ := hA
  obtain ⟨t1, t2, t3, t4, t5, t6, t7⟩ := id ht
  by_cases hn : n + 20 ≤ 400
  · refine ⟨g, P, fun k => if n ≤ k ∧ k < n + 20 then fbt a b c d e (k - n) else t k, n + 20, by omega, ?_⟩
    refine yl_b (mt_feed o0 o10 hY t4 hn) fun r1 u1 h1 => ?_
    have l1 : u1.1 71 3 = nI n := by rw [h1.2.2.2 _ _ (by omega)]; exact t5
    have rf : y2 (fn_X12_feed G 71 a b c d e u1) (fun r w => r = nI (n + 20) ∧ w.1 71 3 = nI (n + 20) ∧ (∀ i, i < 20 → w.1 73 (n + i) = nI (fbt a b c d e i)) ∧ fr (fun o k => (o = 73 ∧ n ≤ k ∧ k < n + 20) ∨ (o = 71 ∧ k = 3)) u1 w) := by
      unfold fn_X12_feed
      rw [l1, show nI n + 20 = nI (n + 20) from nI_add n 20]
      refine yl_p (nI_le (b := 400) hn (by omega)) ?_
      exact pr_feed18 b1 (u0 := u1) hn 20 0 tc_fu u1 (by omega) (by omega) l1 (fun i hi => by omega) fr_refl
    refine yl_b rf fun r2 u2 h2 => ?_
    rw [h1.1, h2.1]
    have fx : fr (fun o k => o = 12 ∨ (o = 1 ∧ 2 ≤ k) ∨ o = 73 ∨ (o = 71 ∧ 3 ≤ k ∧ k < 6)) u u2 := fr_trans (fr_mono h1.2.2.2 fun o k q => by omega) (fr_mono h2.2.2.2 fun o k q => by omega)
    refine yl_p rfl (yl_ok ⟨rfl, isM_X hM fx, cC_X hu fx, ⟨hn, fun k => ?_, fun k hk => ?_, by rw [h2.2.2.2 _ _ (by omega)]; exact h1.2.1, h2.2.1, ?_, ?_⟩, fX_X fx⟩)
    · dsimp only
      split
      · exact (byt_sp _ _).1
      · exact t2 k
    · dsimp only
      by_cases z : n ≤ k ∧ k < n + 20
      · rw [if_pos z]
        have e1 := h2.2.2.1 (k - n) (by omega)
        have e2 := h1.2.2.1 (k - n) (by omega)
        rw [show n + (k - n) = k by omega] at e1 e2
        exact ⟨e1, by rw [h2.2.2.2 _ _ (by omega)]; exact e2⟩
      · rw [if_neg z, h2.2.2.2 _ _ (by omega), h1.2.2.2 _ _ (by omega), h2.2.2.2 _ _ (by omega), h1.2.2.2 _ _ (by omega)]
        exact t3 k hk
    · rw [h2.2.2.2 _ _ (by omega), h1.2.2.2 _ _ (by omega), h2.2.2.2 _ _ (by omega), h1.2.2.2 _ _ (by omega)]; exact t6
    · rw [h2.2.2.2 _ _ (by omega), h1.2.2.2 _ _ (by omega), h2.2.2.2 _ _ (by omega), h1.2.2.2 _ _ (by omega)]; exact t7
  · refine ⟨g, P, t, n, by omega, ?_⟩
    have no : ¬ nI n + 20 ≤ 400 := by
      rw [show nI n + 20 = nI (n + 20) from nI_add n 20]
      exact nI_ge (a := 400) (by omega) (by omega)
    unfold fn_X11_feed fn_X12_feed
    rw [o0, t4, if_neg no, pu_b, t5, if_neg no, pu_b]
    exact yl_p rfl (yl_ok ⟨rfl, hM, hu, ht, fr_refl⟩)
theorem c_end {G : tc_G} (hA : gA G) {L : tc_L} {u : tc_S} {P n : Nat} {g : mp} {t : Nat → Nat} (x : Int32) (hu : cC u P g) (hM : isM u 0 g) (ht : tw u t n) : ∃ g2 P2 t2 n2, P2 ≤ P + 60 ∧ yl (tc_b (fn_X11_end G 0 x u) fun r1 u1 => tc_b (fn_X12_end G 71 x u1) fun r2 u2 => if r1 = r2 then some (L, u2) else none) (pq2 L u P2 g2 t2 n2) := by
  obtain ⟨⟨o0, o1, o2, o3, o4, o5, o6, o7, o8, o9, o10⟩, -, -, b1, b2, b3, b4⟩ := hA
  obtain ⟨t1, t2, t3, t4, t5, t6, t7⟩ := id ht
  rcases pm_isInB (G := G) x 0 n (by omega) (by omega) with ⟨c1, c2⟩ | ⟨q, q1, q2, q3, q4⟩
  · refine ⟨g, P, t, n, by omega, ?_⟩
    have e1 : fn_X11_end G 0 x u = some (-1, u) := by
      unfold fn_X11_end bl_X11_end_15
      rw [o0, t4]
      by_cases z : x < 0
      · rw [if_pos z]
      · rw [if_neg z, if_neg]
        intro z2
        rcases c1 with c1 | c1
        · exact z c1
        · exact Int32.not_le.mpr c1 z2
    have e2 : fn_X12_end G 71 x u = some (-1, u) := by
      unfold fn_X12_end
      rw [t5, show (0 : Int32) = nI 0 from rfl, c2 u, pu_b]
      rfl
    rw [e1, pu_b, e2, pu_b]
    exact yl_p rfl (yl_ok ⟨rfl, hM, hu, ht, fr_refl⟩)
  · subst q3
    refine ⟨g, P, t, q, by omega, ?_⟩
    have e1 : fn_X11_end G 0 (nI q) u = some (nI q, tc_w u 1 2 (nI q)) := by
      unfold fn_X11_end
      rw [o0, t4, if_neg (nI_pos (by omega)), if_pos (nI_le q2 (by omega))]
      rfl
    have e2 : fn_X12_end G 71 (nI q) (tc_w u 1 2 (nI q)) = some (nI q, tc_w (tc_w u 1 2 (nI q)) 71 3 (nI q)) := by
      unfold fn_X12_end
      rw [show (tc_w u 1 2 (nI q)).1 71 3 = nI n from by rw [w_get, if_neg (by omega)]; exact t5, show (0 : Int32) = nI 0 from rfl, q4, pu_b, if_neg (show ¬ (1 : Int32) = nI 0 from i_n1)]
      rfl
    rw [e1, pu_b, e2, pu_b]
    have fx : fr (fun o k => o = 12 ∨ (o = 1 ∧ 2 ≤ k) ∨ o = 73 ∨ (o = 71 ∧ 3 ≤ k ∧ k < 6)) u (tc_w (tc_w u 1 2 (nI q)) 71 3 (nI q)) := fr_w (fr_w fr_refl (by omega)) (by omega)
    have gg : ∀ o k, (tc_w (tc_w u 1 2 (nI q)) 71 3 (nI q)).1 o k = if o = 71 ∧ k = 3 then nI q else if o = 1 ∧ k = 2 then nI q else u.1 o k := fun o k => rfl
    refine yl_p rfl (yl_ok ⟨rfl, isM_X hM fx, cC_X hu fx, ⟨by omega, t2, fun k hk => ?_, ?_, ?_, ?_, ?_⟩, fX_X fx⟩)
    · dsimp only
      rw [gg, gg, if_neg (by omega), if_neg (by omega), if_neg (by omega), if_neg (by omega)]
      exact t3 k hk
    · dsimp only; rw [gg, if_neg (by omega), if_pos ⟨rfl, rfl⟩]
    · dsimp only; rw [gg, if_pos ⟨rfl, rfl⟩]
    · dsimp only; rw [gg, gg, if_neg (by omega), if_neg (by omega), if_neg (by omega), if_neg (by omega)]; exact t6
    · dsimp only; rw [gg, gg, if_neg (by omega), if_neg (by omega), if_neg (by omega), if_neg (by omega)]; exact t7
theorem c_fault {G : tc_G} (hA : gA G) {L : tc_L} {u : tc_S} {P n : Nat} {g : mp} {t : Nat → Nat} (x : Int32) (hu : cC u P g) (hM : isM u 0 g) (ht : tw u t n) : ∃ g2 P2 t2 n2, P2 ≤ P + 60 ∧ yl (tc_b (fn_X11_fault G 0 x u) fun r1 u1 => tc_b (fn_X12_fault G 71 x u1) fun r2 u2 => if r1 = r2 then some (L, u2) else none) (pq2 L u P2 g2 t2 n2) := by
  obtain ⟨⟨o0, o1, o2, o3, o4, o5, o6, o7, o8, o9, o10⟩, -, -, b1, b2, b3, b4⟩ := hA
  obtain ⟨t1, t2, t3, t4, t5, t6, t7⟩ := id ht
  refine ⟨g, P, t, n, by omega, ?_⟩
  unfold fn_X11_fault fn_X12_fault bl_X11_fault_28 bl_X12_fault_24
  rw [o0]
  by_cases c0 : x = 0
  · rw [if_pos c0, pu_b, if_pos c0, pu_b]
    exact yl_p t6 (yl_ok ⟨rfl, hM, hu, ht, fr_refl⟩)
  · rw [if_neg c0]
    by_cases c1 : x = 1
    · rw [if_pos c1, pu_b, if_neg c0, if_pos c1, pu_b]
      exact yl_p t7 (yl_ok ⟨rfl, hM, hu, ht, fr_refl⟩)
    · rw [if_neg c1, pu_b, if_neg c0, if_neg c1, pu_b]
      exact yl_p rfl (yl_ok ⟨rfl, hM, hu, ht, fr_refl⟩)
