/-! loads in the class; hashes told by hand -/
theorem mrh_13 {g0 : mp} (hg : mwf g0) (h0 : ck g0 68 ≠ 0) : ∀ (n : Nat) (g : mp), isd g0 g → (mrh (mesh g0) g0 n g).2 13 = g0 13 := by
  intro n
  induction n with
  | zero =>
    intro g hi
    rw [mrh_0]
    obtain ⟨s, rfl⟩ := hi
    show upd g0 11 s 13 = g0 13
    exact upd_ne (by omega)
  | succ n ih =>
    intro g hi
    rw [mrh_s]
    obtain ⟨s, rfl⟩ := hi
    have hw := mwf_seed (x := s) hg
    have e12 : mdh (upd g0 11 s) 12 = g0 12 := by rw [mdh_k (by omega) (by omega), upd_ne (by omega)]
    have m12 : mn (mdh (upd g0 11 s)) 12 = mn g0 12 := by unfold mn; rw [e12]
    have hc := mwf_mclr (wA_mdh hw.1.1) (by rw [e12, m12]; exact hg.1.2.2.2.2.2.1)
    have z := mall_ok (mesh g0) _ hc (mesh_adm (h := mdh (upd g0 11 s)) hg h0 m12)
    cases hm : mall (mesh g0) (mclr (mdh (upd g0 11 s))) with
    | mk t x =>
      rw [hm] at z
      cases t with
      | true =>
        rw [mrh1]
        show upd x 14 (x 14 + 1) 13 = g0 13
        rw [upd_ne (by omega), show x 13 = _ from z.1 13 (by omega) (by omega) (by omega) (by omega), mclr_k (by omega) (by omega), mdh_k (by omega) (by omega), upd_ne (by omega)]
      | false =>
        rw [mrh1]
        exact ih _ isd_back
theorem mgr_13 {g0 : mp} (hg : mwf g0) (h0 : ck g0 68 ≠ 0) : ∀ (n nb t : Nat) (g : mp), 1 ≤ nb → isd g0 g → (mgr (mesh g0) g0 n nb t g).2 13 = g0 13 := by
  intro n
  induction n with
  | zero =>
    intro nb t g _ hi
    rw [mgr_0]
    obtain ⟨s, rfl⟩ := hi
    show upd g0 11 s 13 = g0 13
    exact upd_ne (by omega)
  | succ n ih =>
    intro nb t g h1 hi
    rw [mgr_s]
    split
    · obtain ⟨s, rfl⟩ := hi
      show upd g0 11 s 13 = g0 13
      exact upd_ne (by omega)
    · obtain ⟨s, rfl⟩ := hi
      have hw := mwf_seed (x := s) hg
      have e12 : upd (upd g0 11 s) 0 (nI (nb * 2)) 12 = g0 12 := by rw [upd_ne (by omega), upd_ne (by omega)]
      have m12 : mn (upd (upd g0 11 s) 0 (nI (nb * 2))) 12 = mn g0 12 := by unfold mn; rw [e12]
      have hc := mwf_mclr (wA_nb (nb := nb * 2) hw.1.1 (by omega)) (by rw [e12, m12]; exact hg.1.2.2.2.2.2.1)
      have z := mall_ok (mesh g0) _ hc (mesh_adm (h := upd (upd g0 11 s) 0 (nI (nb * 2))) hg h0 m12)
      cases hm : mall (mesh g0) (mclr (upd (upd g0 11 s) 0 (nI (nb * 2)))) with
      | mk t2 x =>
        rw [hm] at z
        cases t2 with
        | true =>
          rw [mgr1]
          show upd x 15 (x 15 + nI t) 13 = g0 13
          rw [upd_ne (by omega), show x 13 = _ from z.1 13 (by omega) (by omega) (by omega) (by omega), mclr_k (by omega) (by omega), upd_ne (by omega), upd_ne (by omega)]
        | false =>
          rw [mgr1]
          exact ih _ _ _ (by omega) isd_back
def r13 (g : mp) (r : Int32 × mp) : Prop := r.2 13 = g 13 + (if r.1 = -1 then 1 else 0)
theorem mpt3_13 {g : mp} {a : Int32} {r : Bool × mp} (h : r.2 13 = g 13) (ha : a ≠ -1) : r13 g (mpt3 a r) := by
  obtain ⟨t, x⟩ := r
  have h : x 13 = g 13 := h
  cases t with
  | true =>
    rw [mpt3]
    show x 13 = g 13 + (if a = -1 then 1 else 0)
    rw [if_neg ha, Int32.add_zero]
    exact h
  | false =>
    rw [mpt3]
    show upd (cs x 68 e0) 13 (x 13 + 1) 13 = g 13 + (if (-1 : Int32) = -1 then 1 else 0)
    rw [upd_eq, if_pos rfl, show x 13 = g 13 from h]
theorem mpt2_13 {g : mp} (hg : mwf g) (h0 : ck g 68 ≠ 0) : r13 g (mpt2 g) := by
  have i4 : (4 : Int32) ≠ -1 := by decide
  have i5 : (5 : Int32) ≠ -1 := by decide
  have i0 : (0 : Int32) ≠ -1 := by decide
  have i2 : ¬ (2 : Int32) = -1 := by decide
  unfold mpt2
  split
  · cases hc : mchain g (ck g 68 - 1) with
    | none => rw [mptc]; exact mpt3_13 (mrh_13 hg h0 _ _ isd_refl) i4
    | some l =>
      rw [mptc]
      show mv (mopn g (ck g 68 - 1) l) 68 _ 13 = g 13 + (if (2 : Int32) = -1 then 1 else 0)
      rw [if_neg i2, Int32.add_zero]
      unfold mv
      rw [cs_lo (by omega), cs_lo (by omega)]
      exact (mopn_ok hg hc).2.2.2.2.2.2.2 13 (by omega) (by omega)
  · split
    · exact mpt3_13 (mrh_13 hg h0 _ _ isd_refl) i4
    · split
      · exact mpt3_13 (mgr_13 hg h0 _ _ _ _ hg.1.1.2.1.1 isd_refl) i5
      · exact mpt3_13 rfl i0
theorem mput_13 {g : mp} {q : Nat} {v : Int32} {P : Nat} (h : mre P g) (hq : q ≤ 999) (hP : P + 1 < 2 ^ 30) : r13 g (mput g q v) := by
  have hh := fun hl => put_hand (v := v) h hq hP hl
  have i0 : ¬ (0 : Int32) = -1 := by decide
  unfold mput
  cases hl : mloc (upd g 12 (g 12 + 1)) q with
  | some i =>
    rw [mputf]
    show upd (upd g 12 (g 12 + 1)) (21 + 4 * i) v 13 = g 13 + (if (0 : Int32) = -1 then 1 else 0)
    rw [if_neg i0, Int32.add_zero, upd_ne (by omega), upd_ne (by omega)]
  | none =>
    rw [mputf]
    obtain ⟨a1, a2⟩ := hh hl
    obtain ⟨c1, c2, c3, c4, c5, n, c6, c7⟩ := mcome_ok a1 (by omega)
    have e13 : (mcome (cs (upd g 12 (g 12 + 1)) 68 (nI (q + 1), v, upd g 12 (g 12 + 1) 12, 0))).2 13 = g 13 := by
      rw [c2 13 (by omega) (by omega) (by omega) (by omega), cs_lo (by omega), upd_ne (by omega)]
    unfold mpt1
    split
    · rename_i hr
      obtain ⟨s, hs⟩ := c4 hr
      have z := mpt2_13 c1 (by rw [hs, ck_upd (by omega)]; omega)
      unfold r13 at z ⊢
      rw [e13] at z
      exact z
    · unfold r13
      rw [e13, if_neg, Int32.add_zero]
      rw [c7]
      intro w
      exact absurd (show nI n < 0 by rw [w]; decide) (nI_pos (by omega))
theorem i_ring (c b A C : Int32) : c + b + (A - (C + b)) = c + (A - C) := by grind
theorem mpick_n (x : Int32) {n : Nat} (h0 : 0 < n) (h : n < 2 ^ 31) : ∃ k, k < n ∧ (mpick x (nI n)).toNatClampNeg = k ∧ mpick x (nI n) = nI k := by
  obtain ⟨k, k1, k2⟩ := mpick_lt x h0 h
  exact ⟨k, k1, by rw [k2, nI_clamp (by omega)], k2⟩
theorem mld1_d {k : mp → Int32 → Int32 → Int32 × mp} {g : mp} {s1 s2 s3 c : Int32} {q : Nat} (h : mpick s1 (nI 4) = 0) (hq : (mpick s2 (nI 1000)).toNatClampNeg = q) : mld1 k g s1 s2 s3 c = k (mdrp g q).2 s2 c := by
  subst hq
  unfold mld1
  rw [show (4 : Int32) = nI 4 from rfl, show (1000 : Int32) = nI 1000 from rfl, if_pos h]
theorem mld1_p {k : mp → Int32 → Int32 → Int32 × mp} {g : mp} {s1 s2 s3 c : Int32} {q : Nat} (h : ¬ mpick s1 (nI 4) = 0) (hq : (mpick s2 (nI 1000)).toNatClampNeg = q) : mld1 k g s1 s2 s3 c = k (mput g q (mpick s3 (nI 1000))).2 s3 (c + (if (mput g q (mpick s3 (nI 1000))).1 = -1 then 1 else 0)) := by
  subst hq
  unfold mld1
  rw [show (4 : Int32) = nI 4 from rfl, show (1000 : Int32) = nI 1000 from rfl, if_neg h]
  rfl
theorem mld_13 : ∀ (n : Nat) (g : mp) (s c : Int32) (P : Nat), mre P g → P + n < 2 ^ 30 → (mld n g s c).1 = c + ((mld n g s c).2 13 - g 13) := by
  intro n
  induction n with
  | zero =>
    intro g s c P h hP
    rw [mld_0]
    show c = c + (g 13 - g 13)
    rw [Int32.sub_self, Int32.add_zero]
  | succ n ih =>
    intro g s c P h hP
    rw [mld_s]
    generalize mseed (mseed (mseed s)) = s3
    generalize mseed (mseed s) = s2
    generalize mseed s = s1
    obtain ⟨k, k1, k2, k3⟩ := mpick_n s2 (n := 1000) (by omega) (by omega)
    by_cases h0 : mpick s1 (nI 4) = 0
    · rw [mld1_d h0 k2]
      have d := mdrp_ok (q := k) h (by omega)
      have z1 := ih (mdrp g k).2 s2 c P d.1 (by omega)
      rw [d.2 13 (by omega) (by omega) (by omega) (by omega)] at z1
      exact z1
    · rw [mld1_p h0 k2]
      generalize mpick s3 (nI 1000) = v
      have z2 := ih (mput g k v).2 s3 (c + (if (mput g k v).1 = -1 then 1 else 0)) (P + 1) (mput_ok (q := k) (v := v) h (by omega) (by omega)) (by omega)
      have y : (mput g k v).2 13 = g 13 + (if (mput g k v).1 = -1 then 1 else 0) := mput_13 h (by omega) (by omega)
      rw [y, i_ring] at z2
      exact z2
def fO (t : Nat) (o k : Nat) : Prop := fE t o k ∨ o = 49
theorem fE_O {t : Nat} {u v : tc_S} (h : fr (fE t) u v) : fr (fO t) u v := fr_mono h fun _ _ q => Or.inl q
theorem tR_O {t : Nat} {u w : tc_S} (ht : okt t) (hf : fr (fO t) u w) (h : tR u 39 64) : tR w 39 64 := by
  refine ⟨?_, ?_⟩
  · rw [hf _ _ (by unfold fO fE fV fT; unfold okt at ht; omega)]; exact h.1
  · rw [hf _ _ (by unfold fO fE fV fT; unfold okt at ht; omega)]; exact h.2
theorem pc_belowR {G : tc_G} {u : tc_S} {o n : Nat} (h0 : 1 ≤ n) (hn : n < 2 ^ 31) : y2 (fn_X2_below G o (nI n) u) (fun r w => r = mpick (mseed (u.1 o 0)) (nI n) ∧ w.1 o 0 = mseed (u.1 o 0) ∧ fr (fun a j => a = o ∧ j = 0) u w) := ⟨_, pc_below h0 hn, rfl, by
    show (tc_w u o 0 (mseed (u.1 o 0))).1 o 0 = _
    rw [w_get, if_pos ⟨rfl, rfl⟩], fr_w fr_refl ⟨rfl, rfl⟩⟩
theorem mt_load17 {G : tc_G} (hK : gK G) (hV : gV G) (hE : gE G) {t N : Nat} {u0 : tc_S} {v4 : Int32} (hT : gT G t 64) (hB : gT G 39 64) (ht : okt t) (ht49 : t + 10 ≤ 49 ∨ 50 ≤ t) (hN : N ≤ 12) : ∀ (n k f P : Nat) (c : Int32) (g : mp) (u : tc_S), k + n = N → n < f → mre P g → P + n < 2 ^ 30 → mt u t g → tR u 39 64 → fr (fO t) u0 u → y2 (lo_X3_loadBy_17 G f 38 t (nI N) v4 (nI k) u) (fun r w => r = (mld n g (u.1 49 0) c).2 13 - v4 ∧ mt w t (mld n g (u.1 49 0) c).2 ∧ fr (fO t) u0 w) := by
  have htt : t + 10 ≤ 24 ∨ 32 ≤ t := by unfold okt at ht; omega
  intro n
  induction n with
  | zero =>
    intro k f P c g u hk hf hg hP h hb hr
    obtain ⟨f, rfl⟩ : ∃ k, f = k + 1 := ⟨f - 1, by omega⟩
    have e : u.1 t 12 = g 13 := h.1.2.2.2.1 13 (by omega) (by omega)
    rw [lo_X3_loadBy_17, pu_le (by omega) (by omega), if_pos (by omega), mld_0, e]
    exact yl_ok ⟨rfl, h, hr⟩
  | succ n ih =>
    intro k f P c g u hk hf hg hP h hb hr
    obtain ⟨f, rfl⟩ : ∃ k, f = k + 1 := ⟨f - 1, by omega⟩
    rw [lo_X3_loadBy_17, pu_le (by omega) (by omega), if_neg (by omega), hE.2.2.2, mld_s, show (4 : Int32) = nI 4 from rfl, show (1000 : Int32) = nI 1000 from rfl]
    refine yl_b (pc_belowR (n := 4) (by omega) (by omega)) fun x1 v1 hv1 => ?_
    refine yl_b (pc_belowR (n := 1000) (by omega) (by omega)) fun x2 v2 hv2 => ?_
    obtain ⟨a1, a2, a3⟩ := hv1
    obtain ⟨b1, b2, b3⟩ := hv2
    rw [a2] at b1 b2
    obtain ⟨s1, hs1⟩ : ∃ x, x = mseed (u.1 49 0) := ⟨_, rfl⟩
    obtain ⟨s2, hs2⟩ : ∃ x, x = mseed s1 := ⟨_, rfl⟩
    obtain ⟨s3, hs3⟩ : ∃ x, x = mseed s2 := ⟨_, rfl⟩
    rw [← hs1] at a1 a2 b1 b2
    rw [← hs2] at b1 b2
    rw [← hs1, ← hs2, ← hs3]
    obtain ⟨q, q1, q2, q3⟩ := mpick_n s2 (n := 1000) (by omega) (by omega)
    rw [q3] at b1
    have fb : fr (fun o j => o = 49 ∧ j = 0) u v2 := fr_trans a3 b3
    have i2 : mt v2 t g := mt_fr h fb fun o k h1 h2 => by omega
    have c2 : tR v2 39 64 := ⟨by rw [fb _ _ (by omega)]; exact hb.1, by rw [fb _ _ (by omega)]; exact hb.2⟩
    have f2 : fr (fO t) u0 v2 := fr_trans hr (fr_mono fb fun o j w => Or.inr w.1)
    unfold bl_X3_loadBy_79
    rw [a1, b1]
    by_cases h0 : mpick s1 (nI 4) = 0
    · rw [mld1_d h0 q2, if_pos h0]
      refine yl_b (mt_remove hK hV hE.1 hT htt hg i2 (by omega)) fun r x hx => ?_
      have fx1 : fr (fO t) v2 x := fE_O (fV_E hx.2.2)
      refine yl_let ?_
      have sx : x.1 49 0 = s2 := (hx.2.2 49 0 (by unfold fV fT; omega)).trans b2
      have z := ih (k + 1) f P c _ x (by omega) (by omega) (mdrp_ok (q := q) hg (by omega)).1 (by omega) hx.2.1 (tR_O ht fx1 c2) (fr_trans f2 fx1)
      rw [sx] at z
      rw [nI_1]
      exact z
    · rw [mld1_p h0 q2, if_neg h0]
      refine yl_b (pc_belowR (n := 1000) (by omega) (by omega)) fun x3 v3 hv3 => ?_
      obtain ⟨d1, d2, d3⟩ := hv3
      rw [b2, ← hs3] at d1 d2
      rw [← d1]
      have i3 : mt v3 t g := mt_fr i2 d3 fun o k h1 h2 => by omega
      have c3 : tR v3 39 64 := ⟨by rw [d3 _ _ (by omega)]; exact c2.1, by rw [d3 _ _ (by omega)]; exact c2.2⟩
      have f3 : fr (fO t) u0 v3 := fr_trans f2 (fr_mono d3 fun o j w => Or.inr w.1)
      refine yl_b (mt_enter hK hV hE (v := x3) hT hB ht hg (by omega) i3 c3 (by omega)) fun r x hx => ?_
      have fx1 : fr (fO t) v3 x := fE_O hx.2.2
      refine yl_let ?_
      have sx : x.1 49 0 = s3 := (hx.2.2 49 0 (by unfold fE fV fT; omega)).trans d2
      have z := ih (k + 1) f (P + 1) (c + (if (mput g q x3).1 = -1 then 1 else 0)) _ x (by omega) (by omega) (mput_ok (q := q) (v := x3) hg (by omega) (by omega)) (by omega) hx.2.1 (tR_O ht fx1 c3) (fr_trans f3 fx1)
      rw [sx] at z
      rw [nI_1]
      exact z
theorem mt_loadBy {G : tc_G} (hK : gK G) (hV : gV G) (hE : gE G) {t N P : Nat} {u : tc_S} {s : Int32} {g : mp} (hT : gT G t 64) (hB : gT G 39 64) (ht : okt t) (ht49 : t + 10 ≤ 49 ∨ 50 ≤ t) (hN : N ≤ 12) (hg : mre P g) (hP : P + N < 2 ^ 30) (h : mt u t g) (hb : tR u 39 64) : y2 (fn_X3_loadBy G 38 t s (nI N) u) (fun r w => r = (mld N g s 0).1 ∧ mt w t (mld N g s 0).2 ∧ fr (fO t) u w) := by
  have hfu := tc_fu_big
  unfold fn_X3_loadBy
  refine yl_let (yl_let ?_)
  have e : u.1 t 12 = g 13 := h.1.2.2.2.1 13 (by omega) (by omega)
  rw [e, hE.2.2.2]
  have s1 : (tc_w u 49 0 s).1 49 0 = s := by rw [w_get, if_pos ⟨rfl, rfl⟩]
  have m1 : mt (tc_w u 49 0 s) t g := mt_fr (P := fun o _ => o = 49) h (fr_w fr_refl rfl) fun o k h1 h2 => by omega
  have b1 : tR (tc_w u 49 0 s) 39 64 := ⟨by rw [w_get, if_neg (by omega)]; exact hb.1, by rw [w_get, if_neg (by omega)]; exact hb.2⟩
  have f1 : fr (fO t) u (tc_w u 49 0 s) := fr_w fr_refl (Or.inr rfl)
  generalize tc_w u 49 0 s = w at s1 m1 b1 f1 ⊢
  have z := mt_load17 hK hV hE (v4 := g 13) hT hB ht ht49 hN N 0 tc_fu P 0 g w (by omega) (by omega) hg hP m1 b1 f1
  rw [s1] at z
  refine yl_m z fun r hx => ⟨?_, hx.2⟩
  rw [hx.1, mld_13 N g s 0 P hg hP, Int32.zero_add]
