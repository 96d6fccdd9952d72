/-! the reference: loads -/
theorem pm_below {G : tc_G} {u : tc_S} {n : Int32} (hn : ¬ n = 0) : fn_X12_below G 71 n u = some (mpick (mseed (u.1 71 13)) n, tc_w u 71 13 (mseed (u.1 71 13))) := by
  unfold fn_X12_below tc_let tc_nz
  show (if n = 0 then none else some (tc_mod (tc_ush ((tc_w u 71 13 (u.1 71 13 * 1103515245 + 12345)).1 71 13) 16) n, tc_w u 71 13 (u.1 71 13 * 1103515245 + 12345))) = _
  rw [if_neg hn, w_get, if_pos ⟨rfl, rfl⟩]
  rfl
def fW (B : Nat) (o k : Nat) : Prop := fP B o k ∨ (o = 71 ∧ k = 13)
theorem fP_W {B : Nat} {u v : tc_S} (h : fr (fP B) u v) : fr (fW B) u v := fr_mono h fun _ _ q => Or.inl q
theorem mld_ok : ∀ (n : Nat) (g : mp) (s c : Int32) (P : Nat), mre P g → P + n < 2 ^ 30 → ∃ P2, P2 ≤ P + n ∧ mre P2 (mld n g s c).2 := by
  intro n
  induction n with
  | zero => intro g s c P h hP; exact ⟨P, by omega, h⟩
  | succ n ih =>
    intro g s c P h hP
    rw [mld_s]
    obtain ⟨k, k1, k2⟩ := mpick_lt (mseed (mseed s)) (n := 1000) (by omega) (by omega)
    have e : (mpick (mseed (mseed s)) 1000).toNatClampNeg = k := by
      rw [show (1000 : Int32) = nI 1000 from rfl, k2, nI_clamp (by omega)]
    unfold mld1
    rw [e]
    split
    · obtain ⟨P2, h1, h2⟩ := ih _ (mseed (mseed s)) c P (mdrp_ok (q := k) h (by omega)).1 (by omega)
      exact ⟨P2, by omega, h2⟩
    · unfold mld2
      obtain ⟨P2, h1, h2⟩ := ih _ (mseed (mseed (mseed s))) (c + (if (mput g k (mpick (mseed (mseed (mseed s))) 1000)).1 = -1 then 1 else 0)) (P + 1) (mput_ok (q := k) (v := mpick (mseed (mseed (mseed s))) 1000) h (by omega) (by omega)) (by omega)
      exact ⟨P2, by omega, h2⟩
theorem pm_loads11 {G : tc_G} (hG : gm G) (h2 : gm2 G) (h3 : gm3 G) (h4 : gm4 G) {B N : Nat} (hB : B + 292 ≤ 584) (hN : N ≤ 12) : ∀ (n k f P : Nat) (c : Int32) (u : tc_S) (g : mp), k + n = N → n < f → mre P g → P + n < 2 ^ 30 → isM u B g → y2 (lo_X12_loads_11 G f 71 (nI B) (nI N) c (nI k) u) (fun r w => r = (mld n g (u.1 71 13) c).1 ∧ isM w B (mld n g (u.1 71 13) c).2 ∧ fr (fW B) u w) := by
  intro n
  induction n with
  | zero =>
    intro k f P c u g hk hf hg hP hM
    obtain ⟨f, rfl⟩ : ∃ k, f = k + 1 := ⟨f - 1, by omega⟩
    rw [lo_X12_loads_11, pu_le (by omega) (by omega), if_pos (by omega), mld_0]
    exact yl_ok ⟨rfl, hM, fr_refl⟩
  | succ n ih =>
    intro k f P c u g hk hf hg hP hM
    obtain ⟨f, rfl⟩ : ∃ k, f = k + 1 := ⟨f - 1, by omega⟩
    obtain ⟨d, d1, d2⟩ := mpick_lt (mseed (u.1 71 13)) (n := 4) (by omega) (by omega)
    obtain ⟨q, q1, q2⟩ := mpick_lt (mseed (mseed (u.1 71 13))) (n := 1000) (by omega) (by omega)
    have e : (mpick (mseed (mseed (u.1 71 13))) 1000).toNatClampNeg = q := by
      rw [show (1000 : Int32) = nI 1000 from rfl, q2, nI_clamp (by omega)]
    have w1 : ∀ (w : tc_S) (x : Int32), (tc_w w 71 13 x).1 71 13 = x := fun w x => by rw [w_get, if_pos ⟨rfl, rfl⟩]
    have m1 : ∀ (w : tc_S) (x : Int32), isM w B g → isM (tc_w w 71 13 x) B g := fun w x h j hj => by rw [w_get, if_neg (by omega)]; exact h j hj
    have f1 : ∀ (w : tc_S) (x : Int32), fr (fW B) u w → fr (fW B) u (tc_w w 71 13 x) := fun w x h => fr_w h (Or.inr ⟨rfl, rfl⟩)
    rw [lo_X12_loads_11, pu_le (by omega) (by omega), if_neg (by omega), mld_s]
    refine yl_e (pm_below (by decide)) ?_
    refine yl_e (pm_below (by decide)) ?_
    rw [w1]
    have q3 : mpick (mseed (mseed (u.1 71 13))) 1000 = nI q := q2
    have d3 : mpick (mseed (u.1 71 13)) 4 = nI d := d2
    unfold mld1
    rw [e, q3, d3]
    have i2 := m1 _ (mseed (mseed (u.1 71 13))) (m1 _ (mseed (u.1 71 13)) hM)
    have f2 := f1 _ (mseed (mseed (u.1 71 13))) (f1 _ (mseed (u.1 71 13)) fr_refl)
    have s2 : (tc_w (tc_w u 71 13 (mseed (u.1 71 13))) 71 13 (mseed (mseed (u.1 71 13)))).1 71 13 = mseed (mseed (u.1 71 13)) := w1 _ _
    generalize tc_w (tc_w u 71 13 (mseed (u.1 71 13))) 71 13 (mseed (mseed (u.1 71 13))) = w at i2 f2 s2 ⊢
    by_cases h0 : nI d = 0
    · rw [if_pos h0, if_pos h0]
      refine yl_b (pm_drops hG (by omega) i2 hg (by omega)) fun r x hx => ?_
      unfold bl_X12_loads_62 bl_X12_loads_81 bl_X12_loads_82
      rw [h0]
      refine yl_p (by decide) (yl_let (yl_let ?_))
      have sx : x.1 71 13 = mseed (mseed (u.1 71 13)) := (hx.2.2 71 13 (by unfold fD; omega)).trans s2
      have z := ih (k + 1) f P c x _ (by omega) (by omega) (mdrp_ok (q := q) hg (by omega)).1 (by omega) hx.2.1
      rw [sx] at z
      rw [nI_1, Int32.add_zero]
      exact yl_m z fun r hy => ⟨hy.1, hy.2.1, fr_trans f2 (fr_trans (fP_W (fD_P hx.2.2)) hy.2.2)⟩
    · rw [if_neg h0, if_neg h0]
      refine yl_e (pm_below (by decide)) ?_
      rw [s2]
      have i3 := m1 _ (mseed (mseed (mseed (u.1 71 13)))) i2
      have f3 := f1 _ (mseed (mseed (mseed (u.1 71 13)))) f2
      have s3 : (tc_w w 71 13 (mseed (mseed (mseed (u.1 71 13))))).1 71 13 = mseed (mseed (mseed (u.1 71 13))) := w1 _ _
      generalize tc_w w 71 13 (mseed (mseed (mseed (u.1 71 13)))) = y at i3 f3 s3 ⊢
      refine yl_b (pm_puts hG h2 h3 h4 (v := mpick (mseed (mseed (mseed (u.1 71 13)))) 1000) hB i3 hg (by omega) (by omega)) fun r x hx => ?_
      have sx : x.1 71 13 = mseed (mseed (mseed (u.1 71 13))) := (hx.2.2 71 13 (by unfold fP; omega)).trans s3
      have hd : ¬ nI d ≤ 0 := nI_nle (Nat.pos_of_ne_zero fun p => h0 (by rw [p]; rfl)) (by omega)
      have z := fun c => ih (k + 1) f (P + 1) c x _ (by omega) (by omega) (mput_ok (q := q) (v := mpick (mseed (mseed (mseed (u.1 71 13)))) 1000) hg (by omega) (by omega)) (by omega) hx.2.1
      rw [sx] at z
      unfold bl_X12_loads_62 bl_X12_loads_81 bl_X12_loads_82 mld2
      refine yl_n hd ?_
      rw [hx.1]
      by_cases hr : (mput g q (mpick (mseed (mseed (mseed (u.1 71 13)))) 1000)).1 = -1
      · rw [if_pos hr, if_pos hr]
        refine yl_let (yl_let ?_)
        rw [nI_1]
        exact yl_m (z _) fun r hy => ⟨hy.1, hy.2.1, fr_trans f3 (fr_trans (fP_W hx.2.2) hy.2.2)⟩
      · rw [if_neg hr, if_neg hr]
        refine yl_let (yl_let ?_)
        rw [nI_1]
        exact yl_m (z _) fun r hy => ⟨hy.1, hy.2.1, fr_trans f3 (fr_trans (fP_W hx.2.2) hy.2.2)⟩
theorem pm_loads {G : tc_G} (hG : gm G) (h2 : gm2 G) (h3 : gm3 G) (h4 : gm4 G) {u : tc_S} {B N P : Nat} {s : Int32} {g : mp} (hB : B + 292 ≤ 584) (hN : N ≤ 12) (hM : isM u B g) (hg : mre P g) (hP : P + N < 2 ^ 30) : y2 (fn_X12_loads G 71 (nI B) s (nI N) u) (fun r w => r = (mld N g s 0).1 ∧ isM w B (mld N g s 0).2 ∧ fr (fW B) u w) := by
  have hfu := tc_fu_big
  unfold fn_X12_loads
  refine yl_let ?_
  have s1 : (tc_w u 71 13 s).1 71 13 = s := by rw [w_get, if_pos ⟨rfl, rfl⟩]
  have i1 : isM (tc_w u 71 13 s) B g := fun j hj => by rw [w_get, if_neg (by omega)]; exact hM j hj
  have f1 : fr (fW B) u (tc_w u 71 13 s) := fr_w fr_refl (Or.inr ⟨rfl, rfl⟩)
  generalize tc_w u 71 13 s = w at s1 i1 f1 ⊢
  have z := pm_loads11 hG h2 h3 h4 hB hN N 0 tc_fu P 0 w g (by omega) (by omega) hg hP i1
  rw [s1] at z
  exact yl_m z fun r hx => ⟨hx.1, hx.2.1, fr_trans f1 hx.2.2⟩
