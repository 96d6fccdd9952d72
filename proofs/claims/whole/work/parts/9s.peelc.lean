/-! peel: the class -/
/-- the roster while it peels: os the order by keys, lf those left, out those peeled -/
def pB (g : mp) (u : tc_S) (n : Nat) (os : Nat → Nat) (lf : Nat → Bool) (out : List (Nat × Nat)) : Prop :=
  rs u n os ∧ (∀ k, k < n → u.1 34 k = (if lf (kvl 0 (fc g (os k))) = true then 0 else 1)) ∧ (∀ b, b < mn g 0 → u.1 37 b = nI (deg g lf b)) ∧ u.1 32 5 = nI out.length ∧
  (∀ j p, out[j]? = some p → (∃ i, i < 68 ∧ u.1 35 j = nI i ∧ (fc g i).1 = nI (p.1 + 1)) ∧ u.1 36 j = nI p.2) ∧ out.length + cf lf 1000 0 ≤ 68 ∧ (∀ q, lf q = true → ∃ k, k < n ∧ kvl 0 (fc g (os k)) = q)
def fY (o k : Nat) : Prop := (32 ≤ o ∧ o ≤ 37)
theorem kent {g : mp} (hw : mwf g) {j : Nat} (hj : j < 68) (hf : kfil g j) : (fc g j).1 = nI (kvl 0 (fc g j) + 1) ∧ kvl 0 (fc g j) ≤ 999 := by
  have hm : fc g j ∈ mes g := by
    rw [← cl_mes hw]
    exact (cl_mem 68 0).mpr ⟨j, by omega, by omega, hf, rfl⟩
  obtain ⟨p, p1, p2⟩ := mes_key hw _ hm
  unfold kvl
  rw [if_pos rfl, p2, nI_clamp (by omega), show p + 1 - 1 = p by omega]
  exact ⟨rfl, p1⟩
theorem if_bb {a b : Bool} {x y : Int32} (h : a = b) : (if a = true then x else y) = if b = true then x else y := by rw [h]
theorem pe_add {G : tc_G} (hR : gR G) {u : tc_S} {t i q : Nat} {g : mp} (v : Int32) (hT : gT G t 64) (ht : t + 10 ≤ 24 ∨ 38 ≤ t) (hw : mwf g) (h : mt u t g) (hi : i < 68) (he : (fc g i).1 = nI (q + 1)) (hq : q ≤ 999) : y2 (fn_X7_addDegrees G 32 t (nI i) v u) (fun _ w => (∀ b, b < mn g 0 → w.1 37 b = u.1 37 b + (if mts g b q = true then v else 0)) ∧ fr (fun o _ => o = 37) u w) := by
  have aa := hw.1.1
  have hn := aa.2.1.2
  obtain ⟨e4, e5, e6, e7, e8, e9⟩ := pl_ent (h.2.1 i (by omega)) he hq
  have l0 := wA_hash aa 0 q
  have l1 := wA_hash aa 1 q
  unfold fn_X7_addDegrees bl_X7_addDegrees_45
  rw [hT.2.1.2.2.2.2.1, hT.2.1.2.2.2.2.2.1, hR.1.2.2.2.2]
  refine yl_ld 69 (hT.2.2.2 _ (by omega) (by omega)) (by omega) (by omega) ?_
  refine yl_ld 69 (hT.2.2.2 _ (by omega) (by omega)) (by omega) (by omega) ?_
  rw [e8, e9]
  refine yl_ld 32 hR.2.2.2.2.2 (by omega) (by omega) ?_
  refine yl_sd 32 hR.2.2.2.2.2 (by omega) (by omega) ?_
  rw [pu_eq (by omega) (by omega)]
  have f1 : fr (fun o _ => o = 37) u (tc_w u 37 (mhash g 0 q) (u.1 37 (mhash g 0 q) + v)) := fr_w fr_refl rfl
  by_cases c : mhash g 1 q = mhash g 0 q
  · refine yl_p c (yl_ok ⟨fun b hb => ?_, f1⟩)
    rw [w_get]
    by_cases d : b = mhash g 0 q
    · rw [if_pos ⟨rfl, d⟩, if_pos (by unfold mts; rw [decide_eq_true d.symm]; rfl), d]
    · rw [if_neg (fun z => d z.2), if_neg, Int32.add_zero]
      unfold mts
      rw [decide_eq_false (fun z => d z.symm), c, decide_eq_false (fun z => d z.symm)]
      decide
  · refine yl_n c ?_
    refine yl_ld 32 hR.2.2.2.2.2 (by omega) (by omega) ?_
    refine yl_sd 32 hR.2.2.2.2.2 (by omega) (by omega) (yl_ok ⟨fun b hb => ?_, fr_w f1 rfl⟩)
    rw [w_get, w_get, w_get]
    by_cases d1 : b = mhash g 1 q
    · rw [if_pos ⟨rfl, d1⟩, if_neg (fun z => c z.2), if_pos (by unfold mts; rw [decide_eq_true d1.symm, Bool.or_true]), d1]
    · rw [if_neg (fun z => d1 z.2)]
      by_cases d0 : b = mhash g 0 q
      · rw [if_pos ⟨rfl, d0⟩, if_pos (by unfold mts; rw [decide_eq_true d0.symm]; rfl), d0]
      · rw [if_neg (fun z => d0 z.2), if_neg, Int32.add_zero]
        unfold mts
        rw [decide_eq_false (fun z => d0 z.symm), decide_eq_false (fun z => d1 z.symm)]
        decide
theorem pe_open {G : tc_G} (hR : gR G) {u : tc_S} {g : mp} {lf : Nat → Bool} (hw : mwf g) (hd : ∀ b, b < mn g 0 → u.1 37 b = nI (deg g lf b)) : fn_X7_leastOpen G 32 (nI (mn g 0)) (nI (mn g 1)) u = some (oI (pkb g lf), u) := by
  have hfu := tc_fu_big
  have aa := hw.1.1
  have hn := aa.2.1.2
  have hs := aa.2.2.1.2
  have lo : ∀ (n b f : Nat), b + n = mn g 0 → n < f → lo_X7_leastOpen_2 G f 32 (nI (mn g 0)) (nI (mn g 1)) (nI b) u = some (oI (ff (fun b => decide (1 ≤ deg g lf b ∧ deg g lf b ≤ mn g 1)) n b), u) := by
    intro n
    induction n with
    | zero =>
      intro b f hb hf
      obtain ⟨f, rfl⟩ : ∃ k, f = k + 1 := ⟨f - 1, by omega⟩
      rw [lo_X7_leastOpen_2, pu_le (by omega) (by omega), if_pos (by omega)]
      rfl
    | succ n ih =>
      intro b f hb hf
      obtain ⟨f, rfl⟩ : ∃ k, f = k + 1 := ⟨f - 1, by omega⟩
      have hdb : deg g lf b ≤ 1000 := cf_le
      rw [lo_X7_leastOpen_2, pu_le (by omega) (by omega), if_neg (by omega), hR.1.2.2.2.2, pu_ld hR.2.2.2.2.2 (by omega) (by omega), pu_ld hR.2.2.2.2.2 (by omega) (by omega), hd b (by omega), show (0 : Int32) = nI 0 from rfl, pu_le (by omega) (by omega), pu_lt (by omega) (by omega), ff]
      unfold bl_X7_leastOpen_28 tc_let
      rw [nI_1]
      by_cases c : 1 ≤ deg g lf b ∧ deg g lf b ≤ mn g 1
      · rw [if_neg (by omega), if_neg (by omega), if_pos (decide_eq_true c)]
        rfl
      · rw [if_neg (show ¬ decide (1 ≤ deg g lf b ∧ deg g lf b ≤ mn g 1) = true by rw [decide_eq_false c]; decide), ← ih (b + 1) f (by omega) (by omega)]
        by_cases d : deg g lf b ≤ 0
        · rw [if_pos d]
        · rw [if_neg d, if_pos (by omega)]
  exact lo (mn g 0) 0 tc_fu (by omega) (by omega)
theorem pe_bkt {G : tc_G} (hR : gR G) {u0 : tc_S} {t b n : Nat} {g : mp} {os : Nat → Nat} {lf : Nat → Bool} {out : List (Nat × Nat)} (hT : gT G t 64) (ht : t + 10 ≤ 24 ∨ 38 ≤ t) (hw : mwf g) (hs : srt (kfil g) (fun j => kvl 0 (fc g j)) 68 n os) (hb : b < mn g 0) (hlk : ∀ q, lf q = true → ∃ k, k < n ∧ kvl 0 (fc g (os k)) = q) : ∀ (m k f x : Nat) (u : tc_S), k + m = n → m < f → mt u t g → fr fY u0 u → (∀ j, j < k → kvl 0 (fc g (os j)) < x) → (∀ j, k ≤ j → j < n → x ≤ kvl 0 (fc g (os j))) → pB g u n os (lfx g lf b x) (out ++ (kl (fun q => lf q && mts g b q) x 0).map (fun q => (q, b))) → y2 (lo_X7_peelBucket_2 G f 32 t (nI b) (nI k) u) (fun _ w => mt w t g ∧ fr fY u0 w ∧ pB g w n os (lfs g lf b) (out ++ grp g lf b)) := by
  have aa := hw.1.1
  have hn := aa.2.1.2
  have h68 := srt_len hs
  have hlt : ∀ q, lf q = true → q < 1000 := fun q hq => by
    obtain ⟨k, k1, k2⟩ := hlk q hq
    have := hs.2.1 k k1
    have := (kent hw this.1 this.2).2
    omega
  intro m
  induction m with
  | zero =>
    intro k f x u hk hf h hr hx1 hx2 hp
    obtain ⟨f, rfl⟩ : ∃ k, f = k + 1 := ⟨f - 1, by omega⟩
    rw [lo_X7_peelBucket_2, hp.1.1, pu_le (by omega) (by omega), if_pos (by omega)]
    refine yl_ok ⟨h, hr, ?_⟩
    have nob : ∀ q, x ≤ q → lf q = true → False := fun q hq hl => by
      obtain ⟨j, j1, j2⟩ := hlk q hl
      have := hx1 j (by omega)
      omega
    unfold grp
    by_cases c : x ≤ 1000
    · rw [kl_up (P := fun q => lf q && mts g b q) c (fun q h1 _ => by
        cases e : lf q with
        | false => simp [e]
        | true => exact absurd e fun z => nob q h1 z), ← lfx_1000 g lf b hlt, lfx_up c fun q h1 _ hl => absurd hl fun z => nob q h1 z]
      exact hp
    · rw [← kl_up (P := fun q => lf q && mts g b q) (x := 1000) (y := x) (by omega) (fun q h1 _ => by
        cases e : lf q with
        | false => simp [e]
        | true => have := hlt q e; omega), ← lfx_1000 g lf b hlt, ← lfx_up (x := 1000) (y := x) (by omega) fun q h1 _ hl => by have := hlt q hl; omega]
      exact hp
  | succ m ih =>
    intro k f x u hk hf h hr hx1 hx2 hp
    obtain ⟨f, rfl⟩ : ∃ k, f = k + 1 := ⟨f - 1, by omega⟩
    have ho := hs.2.1 k (by omega)
    obtain ⟨he, hq⟩ := kent hw ho.1 ho.2
    obtain ⟨e4, e5, e6, e7, e8, e9⟩ := pl_ent (h.2.1 (os k) (by omega)) he hq
    have hkx := hx2 k (by omega) (by omega)
    have l0 := wA_hash aa 0 (kvl 0 (fc g (os k)))
    have l1 := wA_hash aa 1 (kvl 0 (fc g (os k)))
    -- the bound goes up to this key
    have nob : ∀ q, x ≤ q → q < kvl 0 (fc g (os k)) → lf q = true → False := fun q h1 h2 hl => by
      obtain ⟨j, j1, j2⟩ := hlk q hl
      by_cases c : j < k
      · have := hx1 j c; omega
      · by_cases d : j = k
        · rw [d] at j2; omega
        · have : kvl 0 (fc g (os k)) < kvl 0 (fc g (os j)) := hs.1 k j (by omega) j1
          omega
    rw [← kl_up (P := fun q => lf q && mts g b q) hkx (fun q h1 h2 => by
        cases e : lf q with
        | false => simp [e]
        | true => exact absurd e fun z => nob q h1 h2 z), ← lfx_up hkx fun q h1 h2 hl => absurd hl fun z => nob q h1 h2 z] at hp
    have upk : ∀ j, j < k + 1 → kvl 0 (fc g (os j)) < kvl 0 (fc g (os k)) + 1 := fun j hj => by
      by_cases d : j = k
      · rw [d]; omega
      · have : kvl 0 (fc g (os j)) < kvl 0 (fc g (os k)) := hs.1 j k (by omega) (by omega)
        omega
    have dnk : ∀ j, k + 1 ≤ j → j < n → kvl 0 (fc g (os k)) + 1 ≤ kvl 0 (fc g (os j)) := fun j h1 h2 => by
      have : kvl 0 (fc g (os k)) < kvl 0 (fc g (os j)) := hs.1 k j (by omega) h2
      omega
    obtain ⟨p1, p2, p3, p4, p5, p6, p7⟩ := hp
    have skip : (lf (kvl 0 (fc g (os k))) && mts g b (kvl 0 (fc g (os k)))) = false → y2 (bl_X7_peelBucket_107 G (lo_X7_peelBucket_2 G f) 32 t (nI b) (nI k) u) (fun _ w => mt w t g ∧ fr fY u0 w ∧ pB g w n os (lfs g lf b) (out ++ grp g lf b)) := by
      intro hf2
      unfold bl_X7_peelBucket_107
      refine yl_let ?_
      rw [nI_1]
      refine ih (k + 1) f (kvl 0 (fc g (os k)) + 1) u (by omega) (by omega) h hr upk dnk ?_
      rw [kl_up (P := fun q => lf q && mts g b q) (x := kvl 0 (fc g (os k))) (y := kvl 0 (fc g (os k)) + 1) (by omega) (fun q h1 h2 => by
        rw [show q = kvl 0 (fc g (os k)) by omega]; exact hf2), lfx_up (x := kvl 0 (fc g (os k))) (y := kvl 0 (fc g (os k)) + 1) (by omega) fun q h1 h2 hl => by
          have e : q = kvl 0 (fc g (os k)) := by omega
          rw [e] at hl ⊢
          rw [hl, Bool.true_and] at hf2
          exact hf2]
      exact ⟨p1, p2, p3, p4, p5, p6, p7⟩
    have gk := p2 k (by omega)
    have lk : lfx g lf b (kvl 0 (fc g (os k))) (kvl 0 (fc g (os k))) = lf (kvl 0 (fc g (os k))) := by
      unfold lfx
      rw [decide_eq_false (by omega), Bool.and_false]
      simp
    rw [lk] at gk
    have meet : mts g b (kvl 0 (fc g (os k))) = true → y2 (bl_X7_peelBucket_40 G (lo_X7_peelBucket_2 G f) 32 t (nI b) (nI k) (nI (os k)) u) (fun _ w => mt w t g ∧ fr fY u0 w ∧ pB g w n os (lfs g lf b) (out ++ grp g lf b)) := by
      intro hm
      unfold bl_X7_peelBucket_40 bl_X7_peelBucket_45
      refine yl_n i_n1 ?_
      rw [hR.1.2.1, hR.1.2.2.1, hR.1.2.2.2.1]
      refine yl_ld 68 hR.2.2.1 (by omega) (by omega) ?_
      rw [gk]
      by_cases c : lf (kvl 0 (fc g (os k))) = true
      · rw [if_pos c]
        refine yl_p rfl (yl_z1 ?_)
        refine yl_sd 68 hR.2.2.1 (by omega) (by omega) ?_
        have f1 : fr fY u (tc_w u 34 k 1) := fr_w fr_refl (by unfold fY; omega)
        have m1 : mt (tc_w u 34 k 1) t g := mt_fr h f1 fun o j q1 q2 => by unfold fY; omega
        refine yl_b (pe_add hR (-1) hT ht hw m1 ho.1 he hq) fun _ w hw2 => ?_
        obtain ⟨w1, w2⟩ := hw2
        have olen : (out ++ (kl (fun q => lf q && mts g b q) (kvl 0 (fc g (os k))) 0).map (fun q => (q, b))).length < 68 := by
          have := cnt_rm (lf := lfx g lf b (kvl 0 (fc g (os k)))) (x := kvl 0 (fc g (os k))) (by omega) (by rw [lk]; exact c)
          omega
        have w5 : w.1 32 5 = nI (out ++ (kl (fun q => lf q && mts g b q) (kvl 0 (fc g (os k))) 0).map (fun q => (q, b))).length := by
          rw [w2 32 5 (by omega), w_get, if_neg (by omega)]
          exact p4
        have nx : kl (fun q => lf q && mts g b q) (kvl 0 (fc g (os k)) + 1) 0 = kl (fun q => lf q && mts g b q) (kvl 0 (fc g (os k))) 0 ++ [kvl 0 (fc g (os k))] := by
          rw [kl_snoc, if_pos (by rw [c, hm]; rfl)]
        have lx := lfx_s (g := g) (lf := lf) hm
        have ih2 := ih (k + 1) f (kvl 0 (fc g (os k)) + 1)
        rw [nx, List.map_append, ← List.append_assoc, lx] at ih2
        have lfe : ∀ q, lfx g lf b (kvl 0 (fc g (os k))) q = true → lf q = true := fun q hq2 => by
          unfold lfx at hq2
          rw [Bool.and_eq_true] at hq2
          exact hq2.1
        generalize (out ++ (kl (fun q => lf q && mts g b q) (kvl 0 (fc g (os k))) 0).map (fun q => (q, b))) = O at *
        generalize hLL : lfx g lf b (kvl 0 (fc g (os k))) = LL at *
        rw [w5]
        refine yl_sd 68 hR.2.2.2.1 (by omega) (by omega) ?_
        rw [w_get, if_neg (by omega), w5]
        refine yl_sd 68 hR.2.2.2.2.1 (by omega) (by omega) (yl_let ?_)
        have f2 : fr fY u0 w := fr_trans hr (fr_trans f1 (fr_mono w2 fun o j q => by unfold fY; omega))
        have f3 : ∀ {v : tc_S} {o j : Nat} {y : Int32}, fr fY u0 v → 32 ≤ o → o ≤ 37 → fr fY u0 (tc_w v o j y) := fun hh q1 q2 => fr_w hh ⟨q1, q2⟩
        have g3 := f3 (o := 32) (j := 5) (y := (tc_w (tc_w w 35 O.length (nI (os k))) 36 O.length (nI b)).1 32 5 + 1) (f3 (o := 36) (j := O.length) (y := nI b) (f3 (o := 35) (j := O.length) (y := nI (os k)) f2 (by omega) (by omega)) (by omega) (by omega)) (by omega) (by omega)
        have m3 : mt (tc_w (tc_w (tc_w w 35 O.length (nI (os k))) 36 O.length (nI b)) 32 5 ((tc_w (tc_w w 35 O.length (nI (os k))) 36 O.length (nI b)).1 32 5 + 1)) t g := by
          have hA : fr fY w (tc_w (tc_w (tc_w w 35 O.length (nI (os k))) 36 O.length (nI b)) 32 5 ((tc_w (tc_w w 35 O.length (nI (os k))) 36 O.length (nI b)).1 32 5 + 1)) := fr_w (fr_w (fr_w fr_refl (by unfold fY; omega)) (by unfold fY; omega)) (by unfold fY; omega)
          have hB : mt w t g := mt_fr m1 w2 fun o j q1 q2 => by omega
          exact mt_fr hB hA fun o j q1 q2 => by unfold fY; omega
        unfold bl_X7_peelBucket_107
        refine yl_let ?_
        rw [nI_1]
        refine ih2 _ (by omega) (by omega) m3 g3 upk dnk ⟨⟨?_, fun j hj => ?_⟩, fun j hj => ?_, fun b2 hb2 => ?_, ?_, fun j p hj => ?_, ?_, fun q hq2 => ?_⟩
        · simp only [w_get]
          rw [if_neg (by omega), if_neg (by omega), if_neg (by omega), w2 32 1 (by omega), w_get, if_neg (by omega)]
          exact p1.1
        · simp only [w_get]
          rw [if_neg (by omega), if_neg (by omega), if_neg (by omega), w2 33 j (by omega), w_get, if_neg (by omega)]
          exact p1.2 j hj
        · simp only [w_get]
          rw [if_neg (by omega), if_neg (by omega), if_neg (by omega), w2 34 j (by omega), w_get]
          by_cases d : j = k
          · rw [if_pos ⟨rfl, d⟩, d]
            simp
          · rw [if_neg (fun z => d z.2), p2 j hj]
            have : kvl 0 (fc g (os j)) ≠ kvl 0 (fc g (os k)) := by
              rcases Nat.lt_or_gt_of_ne d with z | z
              · have : kvl 0 (fc g (os j)) < kvl 0 (fc g (os k)) := hs.1 j k z (by omega)
                omega
              · have : kvl 0 (fc g (os k)) < kvl 0 (fc g (os j)) := hs.1 k j z hj
                omega
            exact if_bb (by rw [decide_eq_true this, Bool.and_true])
        · simp only [w_get]
          rw [if_neg (by omega), if_neg (by omega), if_neg (by omega), w1 b2 hb2, w_get, if_neg (by omega), p3 b2 hb2]
          have := deg_rm (g := g) (lf := LL) (x := kvl 0 (fc g (os k))) (b := b2) (by omega) (by rw [lk]; exact c)
          rw [← this]
          by_cases d : mts g b2 (kvl 0 (fc g (os k))) = true
          · rw [if_pos d, if_pos d, i_m1, nI_pred]
          · rw [if_neg d, if_neg d, Int32.add_zero, Nat.add_zero]
        · simp only [w_get]
          rw [if_pos (by simp), if_neg (by omega), if_neg (by omega), w5, nI_1, List.length_append]
          rfl
        · simp only [w_get]
          rw [if_neg (show ¬ ((35 : Nat) = 32 ∧ j = 5) by omega), if_neg (show ¬ ((35 : Nat) = 36 ∧ j = O.length) by omega), if_neg (show ¬ ((36 : Nat) = 32 ∧ j = 5) by omega)]
          by_cases d : j < O.length
          · rw [List.getElem?_append_left d] at hj
            obtain ⟨⟨i, i1, i2, i3⟩, i4⟩ := p5 j p hj
            rw [if_neg (by omega), if_neg (by omega), if_neg (by omega), w2 35 j (by omega), w_get, if_neg (by omega), w2 36 j (by omega), w_get, if_neg (by omega)]
            exact ⟨⟨i, i1, i2, i3⟩, i4⟩
          · rw [List.getElem?_append_right (by omega)] at hj
            have d2 : j = O.length := by
              refine Classical.byContradiction fun z => ?_
              rw [show j - O.length = (j - O.length - 1) + 1 by omega] at hj
              simp at hj
            rw [d2, Nat.sub_self] at hj
            have hj2 := Option.some.inj hj
            rw [← hj2, d2, if_pos (by simp), if_pos (by simp)]
            exact ⟨⟨os k, ho.1, rfl, he⟩, rfl⟩
        · have := cnt_rm (lf := LL) (x := kvl 0 (fc g (os k))) (by omega) (by rw [lk]; exact c)
          rw [List.length_append]
          show O.length + 1 + _ ≤ 68
          omega
        · rw [Bool.and_eq_true] at hq2
          exact hlk q (lfe q hq2.1)
      · rw [if_neg c]
        refine yl_n i_n1 (skip ?_)
        rw [Bool.not_eq_true] at c
        rw [c, Bool.false_and]
    rw [lo_X7_peelBucket_2, p1.1, pu_le (by omega) (by omega), if_neg (by omega), hR.1.1]
    refine yl_ld 68 hR.2.1 (by omega) (by omega) ?_
    rw [p1.2 k (by omega), hT.2.1.2.2.2.2.1, hT.2.1.2.2.2.2.2.1]
    refine yl_ld 69 (hT.2.2.2 _ (by omega) (by omega)) (by omega) (by omega) ?_
    rw [e8, pu_eq (by omega) (by omega)]
    by_cases c0 : mhash g 0 (kvl 0 (fc g (os k))) = b
    · exact yl_p c0 (meet (by unfold mts; rw [decide_eq_true c0]; rfl))
    · refine yl_n c0 ?_
      refine yl_ld 69 (hT.2.2.2 _ (by omega) (by omega)) (by omega) (by omega) ?_
      rw [e9, pu_eq (by omega) (by omega)]
      by_cases c1 : mhash g 1 (kvl 0 (fc g (os k))) = b
      · exact yl_p c1 (meet (by unfold mts; rw [decide_eq_true c1, Bool.or_true]))
      · refine yl_n c1 ?_
        unfold bl_X7_peelBucket_45
        refine yl_p rfl (skip ?_)
        unfold mts
        rw [decide_eq_false c0, decide_eq_false c1]
        simp
