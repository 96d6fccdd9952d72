/-! the reference: the walk -/
def fD (B : Nat) (o k : Nat) : Prop := (o = 72 ∧ (B ≤ k ∧ k < B + 292)) ∨ (75 ≤ o ∧ o ≤ 79)
theorem fD_C {B : Nat} {u v : tc_S} (h : fr (fD B) u v) : fr (fC B) u v := fr_mono h fun o k q => by unfold fD at q; unfold fC; omega
def gm3 (G : tc_G) : Prop := (tc_p G 71 9 = 78 ∧ G.2.2.1 78 = 4) ∧ (tc_p G 71 10 = 79 ∧ G.2.2.1 79 = 4)
def hd (u : tc_S) (e : en) : Prop := u.1 78 0 = e.1 ∧ u.1 78 1 = e.2.1 ∧ u.1 78 2 = e.2.2.1 ∧ u.1 78 3 = e.2.2.2
def sw1 (u : tc_S) (y k : Nat) : tc_S := tc_w (tc_w (tc_w u 79 k (u.1 72 (y + k))) 72 (y + k) (u.1 78 k)) 78 k (u.1 72 (y + k))
theorem pm_sw1 {G : tc_G} (hG : gm G) (h3 : gm3 G) {K : Nat → Int32 → Int32 → Int32 → tc_S → Option (Int32 × tc_S)} {u : tc_S} {v1 v6 v7 : Int32} {y k f : Nat} (hy : y + 4 ≤ 3253) (hk : k < 4) : lo_X12_walks_118 G K (f + 1) 71 v1 v6 v7 (nI y) (nI k) u = lo_X12_walks_118 G K f 71 v1 v6 v7 (nI y) (nI (k + 1)) (sw1 u y k) := by
  rw [lo_X12_walks_118, show (4 : Int32) = nI 4 from rfl, pu_le (by omega) (by omega), if_neg (by omega), hG.1.1, h3.1.1, h3.2.1, nI_add, pu_ld hG.1.2 (by omega) (by omega), pu_sd h3.2.2 hk (by omega), pu_ld h3.1.2 hk (by omega), pu_sd hG.1.2 (by omega) (by omega), pu_ld h3.2.2 hk (by omega), pu_sd h3.1.2 hk (by omega)]
  unfold tc_let sw1
  rw [nI_1]
  simp only [w_get]
  simp
theorem sw4_get {u : tc_S} {y : Nat} (o k : Nat) : (sw1 (sw1 (sw1 (sw1 u y 0) y 1) y 2) y 3).1 o k = if o = 72 ∧ y ≤ k ∧ k < y + 4 then u.1 78 (k - y) else if o = 78 ∧ k < 4 then u.1 72 (y + k) else if o = 79 ∧ k < 4 then u.1 72 (y + k) else u.1 o k := by
  unfold sw1
  simp only [w_get]
  simp
  by_cases h72 : o = 72
  · subst h72
    by_cases hk : y ≤ k ∧ k < y + 4
    · rcases (show k = y ∨ k = y + 1 ∨ k = y + 2 ∨ k = y + 3 by omega) with rfl | rfl | rfl | rfl <;> simp
    · have q0 : ¬ k = y := by omega
      have q1 : ¬ k = y + 1 := by omega
      have q2 : ¬ k = y + 2 := by omega
      have q3 : ¬ k = y + 3 := by omega
      have q4 : ¬ (y ≤ k ∧ k < y + 4) := hk
      simp [q0, q1, q2, q3, q4]
  · by_cases h78 : o = 78
    · subst h78
      by_cases hk : k < 4
      · rcases (show k = 0 ∨ k = 1 ∨ k = 2 ∨ k = 3 by omega) with rfl | rfl | rfl | rfl <;> simp
      · have q0 : ¬ k = 0 := by omega
        have q1 : ¬ k = 1 := by omega
        have q2 : ¬ k = 2 := by omega
        have q3 : ¬ k = 3 := by omega
        simp [q0, q1, q2, q3, hk]
    · by_cases h79 : o = 79
      · subst h79
        by_cases hk : k < 4
        · rcases (show k = 0 ∨ k = 1 ∨ k = 2 ∨ k = 3 by omega) with rfl | rfl | rfl | rfl <;> simp
        · have q0 : ¬ k = 0 := by omega
          have q1 : ¬ k = 1 := by omega
          have q2 : ¬ k = 2 := by omega
          have q3 : ¬ k = 3 := by omega
          simp [q0, q1, q2, q3, hk]
      · simp [h72, h78, h79]
theorem cs_k {g : mp} {i k : Nat} {e : en} : cs g i e k = if 20 + 4 * i ≤ k ∧ k < 24 + 4 * i then (if k = 20 + 4 * i then e.1 else if k = 21 + 4 * i then e.2.1 else if k = 22 + 4 * i then e.2.2.1 else e.2.2.2) else g k := by grind [cs]
theorem isM_sw4 {u : tc_S} {B i : Nat} {g : mp} {e : en} (hM : isM u B g) (hd : hd u e) : isM (sw1 (sw1 (sw1 (sw1 u (B + (20 + 4 * i)) 0) (B + (20 + 4 * i)) 1) (B + (20 + 4 * i)) 2) (B + (20 + 4 * i)) 3) B (cs g i e) := by
  intro k hk
  rw [sw4_get, cs_k]
  obtain ⟨d0, d1, d2, d3⟩ := hd
  by_cases h : 20 + 4 * i ≤ k ∧ k < 24 + 4 * i
  · rw [if_pos ⟨rfl, by omega, by omega⟩, if_pos h]
    rcases (show k = 20 + 4 * i ∨ k = 21 + 4 * i ∨ k = 22 + 4 * i ∨ k = 23 + 4 * i by omega) with rfl | rfl | rfl | rfl
    · rw [if_pos rfl, ← d0]; exact congrArg (u.1 78) (by omega)
    · rw [if_neg (by omega), if_pos rfl, ← d1]; exact congrArg (u.1 78) (by omega)
    · rw [if_neg (by omega), if_neg (by omega), if_pos rfl, ← d2]; exact congrArg (u.1 78) (by omega)
    · rw [if_neg (by omega), if_neg (by omega), if_neg (by omega), ← d3]; exact congrArg (u.1 78) (by omega)
  · rw [if_neg (by omega), if_neg (by omega), if_neg (by omega), if_neg h]
    exact hM k hk
theorem hd_sw4 {u : tc_S} {B i : Nat} {g : mp} (hM : isM u B g) (hi : i < 68) : hd (sw1 (sw1 (sw1 (sw1 u (B + (20 + 4 * i)) 0) (B + (20 + 4 * i)) 1) (B + (20 + 4 * i)) 2) (B + (20 + 4 * i)) 3) (gc g i) := by
  unfold hd gc
  simp only [sw4_get]
  simp
  have q := fun k (hk : k < 292) => hM k hk
  refine ⟨hM _ (by omega), ?_, ?_, ?_⟩
  · rw [show B + (20 + 4 * i) + 1 = B + (21 + 4 * i) by omega]; exact hM _ (by omega)
  · rw [show B + (20 + 4 * i) + 2 = B + (22 + 4 * i) by omega]; exact hM _ (by omega)
  · rw [show B + (20 + 4 * i) + 3 = B + (23 + 4 * i) by omega]; exact hM _ (by omega)
theorem fr_sw4 {u : tc_S} {B i : Nat} (hi : i < 68) : fr (fD B) u (sw1 (sw1 (sw1 (sw1 u (B + (20 + 4 * i)) 0) (B + (20 + 4 * i)) 1) (B + (20 + 4 * i)) 2) (B + (20 + 4 * i)) 3) := by
  intro o k hn
  rw [sw4_get]
  have hn2 : ¬ ((o = 72 ∧ (B ≤ k ∧ k < B + 292)) ∨ (75 ≤ o ∧ o ≤ 79)) := hn
  rw [if_neg (by omega), if_neg (by omega), if_neg (by omega)]
/-- the hand's entry is written into a cell -/
def wr1 (u : tc_S) (y k : Nat) : tc_S := tc_w u 72 (y + k) (u.1 78 k)
theorem pm_wr1 {G : tc_G} (hG : gm G) (h3 : gm3 G) {u : tc_S} {B b p k f : Nat} (hb : b < 100) (hy : B + mcell b p + 4 ≤ 3253) (hk : k < 4) : lo_X12_walks_239 G (f + 1) 71 (nI B) (nI b) (nI p) (nI k) u = lo_X12_walks_239 G f 71 (nI B) (nI b) (nI p) (nI (k + 1)) (wr1 u (B + mcell b p) k) := by
  rw [lo_X12_walks_239, show (4 : Int32) = nI 4 from rfl, pu_le (by omega) (by omega), if_neg (by omega), pm_cell hb, pu_b, hG.1.1, h3.1.1, pu_ld h3.1.2 hk (by omega), nI_add, pu_sd hG.1.2 (by omega) (by omega)]
  unfold tc_let wr1
  rw [nI_1]
theorem wr4_get {u : tc_S} {y : Nat} (o k : Nat) : (wr1 (wr1 (wr1 (wr1 u y 0) y 1) y 2) y 3).1 o k = if o = 72 ∧ y ≤ k ∧ k < y + 4 then u.1 78 (k - y) else u.1 o k := by
  unfold wr1
  simp only [w_get]
  simp
  by_cases h72 : o = 72
  · subst h72
    by_cases hk : y ≤ k ∧ k < y + 4
    · rcases (show k = y ∨ k = y + 1 ∨ k = y + 2 ∨ k = y + 3 by omega) with rfl | rfl | rfl | rfl <;> simp
    · have q0 : ¬ k = y := by omega
      have q1 : ¬ k = y + 1 := by omega
      have q2 : ¬ k = y + 2 := by omega
      have q3 : ¬ k = y + 3 := by omega
      have q4 : ¬ (y ≤ k ∧ k < y + 4) := hk
      simp [q0, q1, q2, q3, q4]
  · simp [h72]
theorem isM_wr4 {u : tc_S} {B i : Nat} {g : mp} {e : en} (hM : isM u B g) (hd : hd u e) : isM (wr1 (wr1 (wr1 (wr1 u (B + (20 + 4 * i)) 0) (B + (20 + 4 * i)) 1) (B + (20 + 4 * i)) 2) (B + (20 + 4 * i)) 3) B (cs g i e) := by
  intro k hk
  rw [wr4_get, cs_k]
  obtain ⟨d0, d1, d2, d3⟩ := hd
  by_cases h : 20 + 4 * i ≤ k ∧ k < 24 + 4 * i
  · rw [if_pos ⟨rfl, by omega, by omega⟩, if_pos h]
    rcases (show k = 20 + 4 * i ∨ k = 21 + 4 * i ∨ k = 22 + 4 * i ∨ k = 23 + 4 * i by omega) with rfl | rfl | rfl | rfl
    · rw [if_pos rfl, ← d0]; exact congrArg (u.1 78) (by omega)
    · rw [if_neg (by omega), if_pos rfl, ← d1]; exact congrArg (u.1 78) (by omega)
    · rw [if_neg (by omega), if_neg (by omega), if_pos rfl, ← d2]; exact congrArg (u.1 78) (by omega)
    · rw [if_neg (by omega), if_neg (by omega), if_neg (by omega), ← d3]; exact congrArg (u.1 78) (by omega)
  · rw [if_neg (by omega), if_neg h]
    exact hM k hk
theorem isM_lo {u : tc_S} {B : Nat} {g h : mp} (hM : isM u B g) (e : ∀ k, k < 292 → h k = g k) : isM u B h := fun k hk => (hM k hk).trans (e k hk).symm
theorem pm_lo239 {G : tc_G} (hG : gm G) (h3 : gm3 G) {u : tc_S} {B b p : Nat} {g : mp} (hB : B + 292 ≤ 3253) (hM : isM u B g) (hh : hd u (gc g 68)) (hb : b < 16) (hp : p < 4) : y2 (lo_X12_walks_239 G tc_fu 71 (nI B) (nI b) (nI p) 0 u) (fun r w => r = 1 ∧ isM w B (mv g 68 (4 * b + p)) ∧ fr (fD B) u w) := by
  have hfu := tc_fu_big
  obtain ⟨f, hf⟩ : ∃ k, tc_fu = k + 1 + 1 + 1 + 1 + 1 := ⟨tc_fu - 5, by omega⟩
  have hy : B + mcell b p + 4 ≤ 3253 := by unfold mcell; omega
  rw [hf, show (0 : Int32) = nI 0 from rfl, pm_wr1 hG h3 (by omega) hy (by omega), pm_wr1 hG h3 (by omega) hy (by omega), pm_wr1 hG h3 (by omega) hy (by omega), pm_wr1 hG h3 (by omega) hy (by omega), lo_X12_walks_239, if_pos (by decide), mcell_ci]
  refine yl_z1 (yl_ok ⟨rfl, ?_, ?_⟩)
  · refine isM_lo (isM_wr4 hM hh) fun k hk => ?_
    unfold mv
    rw [cs_k, if_neg (by omega)]
  · intro o k hn
    have hn2 : ¬ ((o = 72 ∧ (B ≤ k ∧ k < B + 292)) ∨ (75 ≤ o ∧ o ≤ 79)) := hn
    show (wr1 (wr1 (wr1 (wr1 u (B + (20 + 4 * (4 * b + p))) 0) (B + (20 + 4 * (4 * b + p))) 1) (B + (20 + 4 * (4 * b + p))) 2) (B + (20 + 4 * (4 * b + p))) 3).1 o k = u.1 o k
    rw [wr4_get, if_neg (by omega)]
theorem hd_fr {u v : tc_S} {e : en} (h : hd u e) (hv : v.1 78 = u.1 78) : hd v e := by
  unfold hd
  rw [hv]
  exact h
theorem fr_uM' {u : tc_S} {B : Nat} {g : mp} : fr (fD B) u (uM u B g) := fr_uM fr_refl fun k h1 h2 => Or.inl ⟨rfl, ⟨h1, h2⟩⟩
theorem mwst_rows {u : tc_S} {B b p : Nat} {g : mp} (hM : isM u B g) (hh : hd u (gc g 68)) (hp : (mpick (mseed (g 11)) (g 1)).toNatClampNeg = p) (hi : 4 * b + p < 68) : isM (tc_w (sw1 (sw1 (sw1 (sw1 (uM u B (upd g 11 (mseed (g 11)))) (B + (20 + 4 * (4 * b + p))) 0) (B + (20 + 4 * (4 * b + p))) 1) (B + (20 + 4 * (4 * b + p))) 2) (B + (20 + 4 * (4 * b + p))) 3) 78 3 ((sw1 (sw1 (sw1 (sw1 (uM u B (upd g 11 (mseed (g 11)))) (B + (20 + 4 * (4 * b + p))) 0) (B + (20 + 4 * (4 * b + p))) 1) (B + (20 + 4 * (4 * b + p))) 2) (B + (20 + 4 * (4 * b + p))) 3).1 78 3 + 1)) B (mwst g b) ∧ hd (tc_w (sw1 (sw1 (sw1 (sw1 (uM u B (upd g 11 (mseed (g 11)))) (B + (20 + 4 * (4 * b + p))) 0) (B + (20 + 4 * (4 * b + p))) 1) (B + (20 + 4 * (4 * b + p))) 2) (B + (20 + 4 * (4 * b + p))) 3) 78 3 ((sw1 (sw1 (sw1 (sw1 (uM u B (upd g 11 (mseed (g 11)))) (B + (20 + 4 * (4 * b + p))) 0) (B + (20 + 4 * (4 * b + p))) 1) (B + (20 + 4 * (4 * b + p))) 2) (B + (20 + 4 * (4 * b + p))) 3).1 78 3 + 1)) (gc (mwst g b) 68) ∧ fr (fD B) u (tc_w (sw1 (sw1 (sw1 (sw1 (uM u B (upd g 11 (mseed (g 11)))) (B + (20 + 4 * (4 * b + p))) 0) (B + (20 + 4 * (4 * b + p))) 1) (B + (20 + 4 * (4 * b + p))) 2) (B + (20 + 4 * (4 * b + p))) 3) 78 3 ((sw1 (sw1 (sw1 (sw1 (uM u B (upd g 11 (mseed (g 11)))) (B + (20 + 4 * (4 * b + p))) 0) (B + (20 + 4 * (4 * b + p))) 1) (B + (20 + 4 * (4 * b + p))) 2) (B + (20 + 4 * (4 * b + p))) 3).1 78 3 + 1)) := by
  have hh1 : hd (uM u B (upd g 11 (mseed (g 11)))) (gc g 68) := hd_fr hh (uM_ne (by decide))
  have m1 := isM_sw4 (i := 4 * b + p) (uM_isM (u := u) (B := B) (g := upd g 11 (mseed (g 11)))) hh1
  have m2 := hd_sw4 (i := 4 * b + p) (uM_isM (u := u) (B := B) (g := upd g 11 (mseed (g 11)))) hi
  have m3 := fr_trans (fr_uM' (u := u) (B := B) (g := upd g 11 (mseed (g 11)))) (fr_sw4 (B := B) (i := 4 * b + p) hi)
  generalize sw1 (sw1 (sw1 (sw1 (uM u B (upd g 11 (mseed (g 11)))) (B + (20 + 4 * (4 * b + p))) 0) (B + (20 + 4 * (4 * b + p))) 1) (B + (20 + 4 * (4 * b + p))) 2) (B + (20 + 4 * (4 * b + p))) 3 = w at m1 m2 m3
  refine ⟨?_, ?_, fr_w m3 (Or.inr ⟨by omega, by omega⟩)⟩
  · intro k hk
    rw [w_get, if_neg (by omega), m1 k hk]
    unfold mwst
    rw [hp, cs_k (i := 68), if_neg (by omega)]
  · unfold mwst
    rw [hp, gc_cs, if_pos rfl, ← gc_upd (g := g) (k := 11) (i := 4 * b + p) (x := mseed (g 11)) (by omega)]
    obtain ⟨d0, d1, d2, d3⟩ := m2
    refine ⟨?_, ?_, ?_, ?_⟩
    · rw [w_get, if_neg (by omega)]; exact d0
    · rw [w_get, if_neg (by omega)]; exact d1
    · rw [w_get, if_neg (by omega)]; exact d2
    · rw [w_get, if_pos ⟨rfl, rfl⟩, d3]
      rfl
theorem pm_lo81 {G : tc_G} (hG : gm G) (h3 : gm3 G) {B : Nat} {g0 : mp} (hB : B + 292 ≤ 876) : ∀ (n : Nat) (g : mp) (b t f : Nat) (u : tc_S), mwv g b → isM u B g → hd u (gc g 68) → isM u 876 g0 → t + n = mn g 3 → n < f → y2 (lo_X12_walks_81 G f 71 (nI B) (nI b) (nI t) u) (fun r w => r = (if (mwl n g b).1 then 1 else 0) ∧ isM w B (mwk2 g0 (mwl n g b)).2 ∧ fr (fD B) u w) := by
  have hfu := tc_fu_big
  intro n
  induction n with
  | zero =>
    intro g b t f u hv hM hh h0 ht hf
    have a := hv.1.1.1
    have hd3 := a.2.2.2.2.1
    obtain ⟨f, rfl⟩ : ∃ k, f = k + 1 := ⟨f - 1, by omega⟩
    rw [mwl_0, mwk2]
    rw [lo_X12_walks_81, hG.1.1, show nI B + 3 = nI (B + 3) from nI_add B 3, isM_ld hG hM (by omega) (by omega), a.1 3 (by omega), pu_le (by omega) (by omega), if_pos (by omega), show (876 : Int32) = nI 876 from rfl]
    refine yl_e (pm_comesBack hG (F := 876) (T := B) (by omega) (by omega) (by omega) h0 hM) (yl_z0 (yl_ok ⟨rfl, uM_isM, fr_uM'⟩))
  | succ n ih =>
    intro g b t f u hv hM hh h0 ht hf
    have a := hv.1.1.1
    have hn := a.2.1.2
    have hs := a.2.2.1
    have hd3 := a.2.2.2.2.1
    have hb := hv.2.1
    obtain ⟨f, rfl⟩ : ∃ k, f = k + 1 := ⟨f - 1, by omega⟩
    obtain ⟨p, p1, p2, p3⟩ := mwst_pick a
    obtain ⟨o1, o2, o3, o4, o5, o6⟩ := mwst_ok hv
    rw [mwl_s]
    rw [lo_X12_walks_81, hG.1.1, show nI B + 3 = nI (B + 3) from nI_add B 3, isM_ld hG hM (by omega) (by omega), a.1 3 (by omega), pu_le (by omega) (by omega), if_neg (by omega), show nI B + 1 = nI (B + 1) from nI_add B 1, isM_ld hG hM (by omega) (by omega)]
    refine yl_e (pm_draws hG (by omega) hM (by rw [a.1 1 (by omega)]; exact nI_ne0 (by omega) (by omega))) ?_
    rw [p2]
    refine yl_e (pm_cell (by omega)) ?_
    obtain ⟨f4, hf4⟩ : ∃ k, tc_fu = k + 1 + 1 + 1 + 1 + 1 := ⟨tc_fu - 5, by omega⟩
    rw [hf4, show (0 : Int32) = nI 0 from rfl, mcell_ci, pm_sw1 hG h3 (by omega) (by omega), pm_sw1 hG h3 (by omega) (by omega), pm_sw1 hG h3 (by omega) (by omega), pm_sw1 hG h3 (by omega) (by omega)]
    obtain ⟨m1, m2, m3⟩ := mwst_rows (b := b) hM hh p3 (by omega)
    generalize sw1 (sw1 (sw1 (sw1 (uM u B (upd g 11 (mseed (g 11)))) (B + (20 + 4 * (4 * b + p))) 0) (B + (20 + 4 * (4 * b + p))) 1) (B + (20 + 4 * (4 * b + p))) 2) (B + (20 + 4 * (4 * b + p))) 3 = w at m1 m2 m3 ⊢
    rw [lo_X12_walks_118, if_pos (by decide), h3.1.1]
    refine yl_ld (j := 3) 4 h3.1.2 (by omega) (by omega) ?_
    refine yl_sd (j := 3) 4 h3.1.2 (by omega) (by omega) ?_
    refine yl_ld (j := 0) 4 h3.1.2 (by omega) (by omega) ?_
    generalize tc_w w 78 3 (w.1 78 3 + 1) = v at m1 m2 m3 ⊢
    have hk := mwf_ok o1
    have hq := (o1.1.2.2.1 68 (by omega)).2.1
    have e0 : v.1 78 0 - 1 = nI (ck (mwst g b) 68 - 1) := by
      have q1 : v.1 78 0 = nI (ck (mwst g b) 68) := m2.1.trans (o1.1.2.2.1 68 (by omega)).1
      rw [q1, show ck (mwst g b) 68 = (ck (mwst g b) 68 - 1) + 1 by omega, nI_pred]
      rfl
    have h0' : isM v 876 g0 := isM_fr h0 m3 fun k hk => by unfold fD; omega
    rw [e0]
    refine yl_e (pm_other hG (by omega) m1 hk (by omega) (by omega)) ?_
    have l0 := mhash_lt hk 0 (ck (mwst g b) 68 - 1)
    have l1 := mhash_lt hk 1 (ck (mwst g b) 68 - 1)
    have n16 := hk.2.1.2
    have key : y2 (bl_X12_walks_217 G (lo_X12_walks_81 G f) 71 (nI B) (nI t) (nI (mwb (mwst g b) b)) v) (fun r w => r = (if (mwl1 (mwl n) g b).1 then 1 else 0) ∧ isM w B (mwk2 g0 (mwl1 (mwl n) g b)).2 ∧ fr (fD B) u w) := by
      unfold bl_X12_walks_217
      refine yl_e (pm_emptyIn hG (by omega) m1 hk (by omega)) ?_
      cases hm : memp (mwst g b) (mwb (mwst g b) b) with
      | some q =>
        have hq4 : q < 4 := by
          have := (ff_lt hm).2.1
          have := hk.2.2.1.2
          omega
        rw [mwl1_s hm, mwk2]
        refine yl_p (nI_pos' (by omega)) ?_
        refine yl_m (pm_lo239 hG h3 (b := mwb (mwst g b) b) (by omega) m1 m2 (by omega) hq4) fun r hx => ?_
        exact ⟨hx.1, hx.2.1, fr_trans m3 hx.2.2⟩
      | none =>
        rw [mwl1_n hm]
        refine yl_n (by decide) ?_
        refine yl_let ?_
        rw [nI_1]
        have e3 : mn (mwst g b) 3 = mn g 3 := sA_mn o2 (by omega)
        refine yl_m (ih (mwst g b) (mwb (mwst g b) b) (t + 1) f v (mwst_next hv hm) m1 m2 h0' (by omega) (by omega)) fun r hx => ?_
        exact ⟨hx.1, hx.2.1, fr_trans m3 hx.2.2⟩
    unfold mwb at key
    by_cases c1 : mhash (mwst g b) 0 (ck (mwst g b) 68 - 1) = mhash (mwst g b) 1 (ck (mwst g b) 68 - 1)
    · rw [if_pos c1] at key ⊢
      exact yl_n (by decide) key
    · rw [if_neg c1] at key ⊢
      by_cases c2 : b = mhash (mwst g b) 0 (ck (mwst g b) 68 - 1)
      · rw [if_pos c2] at key ⊢
        exact yl_p (nI_pos' (by omega)) key
      · rw [if_neg c2] at key ⊢
        exact yl_p (nI_pos' (by omega)) key
theorem pm_lo_walks3 {G : tc_G} (hG : gm G) {u : tc_S} {B : Nat} {v2 v3 v4 v5 : Int32} {g : mp} {Q : Int32 × tc_S → Prop} (hB : B + 292 ≤ 876) (hM : isM u B g) (h : ∀ f, yl (lo_X12_walks_3 G (f + 1) 71 (nI B) v2 v3 v4 v5 292 (uM u 876 g)) Q) : ∀ (n i f : Nat), i + n = 292 → n < f → yl (lo_X12_walks_3 G f 71 (nI B) v2 v3 v4 v5 (nI i) (tc_wr u 72 (pr 876 i g (u.1 72)))) Q := by
  intro n
  induction n with
  | zero =>
    intro i f hi hf
    obtain ⟨f, rfl⟩ : ∃ k, f = k + 1 := ⟨f - 1, by omega⟩
    obtain rfl : i = 292 := by omega
    exact h f
  | succ n ih =>
    intro i f hi hf
    obtain ⟨f, rfl⟩ : ∃ k, f = k + 1 := ⟨f - 1, by omega⟩
    rw [lo_X12_walks_3, show (292 : Int32) = nI 292 from rfl, pu_le (by omega) (by omega), if_neg (by omega), hG.1.1, show (876 : Int32) = nI 876 from rfl, nI_add, nI_add, pu_ld hG.1.2 (by omega) (by omega), pu_sd hG.1.2 (by omega) (by omega), wr_same, w_wr, wr_wr, wr_same]
    have e : pr 876 i g (u.1 72) (B + i) = g i := by
      unfold pr
      rw [if_neg (by omega), hM i (by omega)]
    rw [e, pr_step]
    unfold tc_let
    rw [nI_1]
    exact ih (i + 1) f (by omega) (by omega)
theorem pm_walks {G : tc_G} (hG : gm G) (h3 : gm3 G) {u : tc_S} {B q : Nat} {v b m : Int32} {g : mp} (hB : B + 292 ≤ 876) (hM : isM u B g) (hg : mwf g) (hq : q ≤ 999) (hh : gc g 68 = (nI (q + 1), v, b, m)) (hf : mfr g q = none) : y2 (fn_X12_walks G 71 (nI B) (nI q) v b m u) (fun r w => r = (if (mwk g).1 then 1 else 0) ∧ isM w B (mwk g).2 ∧ fr (fC B) u w) := by
  have hfu := tc_fu_big
  have ek : ck g 68 = q + 1 := by rw [ck_gc, hh]; exact nI_clamp (by omega)
  have eq : ck g 68 - 1 = q := by omega
  have z := pm_lo_walks3 hG (v2 := nI q) (v3 := v) (v4 := b) (v5 := m) (Q := fun r => (r.1 = (if (mwk g).1 then 1 else 0)) ∧ isM r.2 B (mwk g).2 ∧ fr (fC B) u r.2) hB hM ?_ 292 0 tc_fu (by omega) (by omega)
  · rw [pr_0, wr_id] at z
    exact z
  · intro f
    have f1 : fr (fC B) u (uM u 876 g) := fr_uM fr_refl fun k h1 h2 => Or.inl ⟨rfl, Or.inr ⟨h1, h2⟩⟩
    have i1 : isM (uM u 876 g) B g := fun k hk => (uM_out (by omega)).trans (hM k hk)
    have i2 : isM (uM u 876 g) 876 g := uM_isM
    rw [lo_X12_walks_3, if_pos (by decide), h3.1.1]
    generalize uM u 876 g = w at f1 i1 i2 ⊢
    refine yl_sd (j := 0) 4 h3.1.2 (by omega) (by omega) ?_
    refine yl_sd (j := 1) 4 h3.1.2 (by omega) (by omega) ?_
    refine yl_sd (j := 2) 4 h3.1.2 (by omega) (by omega) ?_
    refine yl_sd (j := 3) 4 h3.1.2 (by omega) (by omega) ?_
    have j0 : ∀ (w : tc_S) (k : Nat) (x : Int32), isM w B g → isM (tc_w w 78 k x) B g := fun w k x h j hj => by
      rw [w_get, if_neg (by omega)]; exact h j hj
    have j1 : ∀ (w : tc_S) (k : Nat) (x : Int32), isM w 876 g → isM (tc_w w 78 k x) 876 g := fun w k x h j hj => by
      rw [w_get, if_neg (by omega)]; exact h j hj
    have j2 : ∀ (w : tc_S) (k : Nat) (x : Int32), fr (fC B) u w → fr (fC B) u (tc_w w 78 k x) := fun w k x h => fr_w h (Or.inr ⟨by omega, by omega⟩)
    have i1 := j0 _ 3 m (j0 _ 2 b (j0 _ 1 v (j0 _ 0 (nI q + 1) i1)))
    have i2 := j1 _ 3 m (j1 _ 2 b (j1 _ 1 v (j1 _ 0 (nI q + 1) i2)))
    have f1 := j2 _ 3 m (j2 _ 2 b (j2 _ 1 v (j2 _ 0 (nI q + 1) f1)))
    have hh2 : hd (tc_w (tc_w (tc_w (tc_w w 78 0 (nI q + 1)) 78 1 v) 78 2 b) 78 3 m) (gc g 68) := by
      rw [hh]
      unfold hd
      simp only [w_get]
      simp [nI_1]
    generalize tc_w (tc_w (tc_w (tc_w w 78 0 (nI q + 1)) 78 1 v) 78 2 b) 78 3 m = x at i1 i2 f1 hh2 ⊢
    have hk := mwf_ok hg
    have e0 := pm_hash hG (by omega) i1 hk (w := 0) (by omega) hq
    rw [show nI 0 = (0 : Int32) from rfl] at e0
    refine yl_e e0 ?_
    have hv := mwv_start hg (by omega) (by rw [eq]; exact hf)
    have z := pm_lo81 hG h3 (g0 := g) hB (mn g 3) g (mhash g 0 (ck g 68 - 1)) 0 tc_fu x hv i1 hh2 i2 (by omega) (by have := hk.2.2.2.2.1; omega)
    rw [eq] at z
    refine yl_m z fun r hy => ?_
    unfold mwk
    rw [eq]
    refine ⟨?_, hy.2.1, fr_trans f1 (fD_C hy.2.2)⟩
    rw [hy.1]
    cases mwl (mn g 3) g (mhash g 0 q) with
    | mk t x => cases t <;> rfl
