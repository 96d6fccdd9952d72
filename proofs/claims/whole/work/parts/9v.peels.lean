/-! peel: the reference, all of it; the call -/
theorem isM_Z {u w : tc_S} {g : mp} (h : isM u 0 g) (hf : fr fZ u w) : isM w 0 g := isM_fr h hf fun k _ => by unfold fZ; omega
theorem fZ_r {u w : tc_S} (h : fr fZ u w) : fr fMr u w := fr_mono h fun o k q => by unfold fZ at q; unfold fMr; omega
theorem pr_50 {G : tc_G} (hG : gm G) (h4 : gm4 G) (h5 : gm5 G) {u0 : tc_S} {g : mp} {lf : Nat → Bool} {out : List (Nat × Nat)} {b : Nat} {K : Nat → Int32 → Int32 → tc_S → Option (Int32 × tc_S)} {Q : Int32 × tc_S → Prop} (hw : mwf g) (hb : b < mn g 0) (hlk : ∀ q, lf q = true → ∃ k, k < (mes g).length ∧ mk g k = q) (hk : ∀ w, rB g w (lfs g lf b) (out ++ grp g lf b) → fr fZ u0 w → isM w 0 g → yl (tc_b (fn_X12_peelable G 71 0 w) fun x2 u3 => K 71 0 x2 u3) Q) : ∀ (m f x : Nat) (r : Int32) (u : tc_S), 1001 ≤ x + m → x ≤ 1000 → m < f → isM u 0 g → fr fZ u0 u → rB g u (lfx g lf b x) (out ++ (kl (fun q => lf q && mts g b q) x 0).map (fun q => (q, b))) → bst g (fun q => lfx g lf b x q && mts g b q) (mes g).length r → yl (lo_X12_peelsAll_50 G K f 71 0 (nI b) r u) Q := by
  have aa := hw.1.1
  have hn := aa.2.1.2
  have hln := mes_len hw
  have hlt : ∀ q, lf q = true → q < 1000 := fun q hq => by
    obtain ⟨k, k1, k2⟩ := hlk q hq
    have := (mk_key hw k1).2
    omega
  intro m
  induction m with
  | zero => intro f x r u h1 h2; omega
  | succ m ih =>
    intro f x r u h1 h2 hf hM hr hp hbs
    obtain ⟨f, rfl⟩ : ∃ k, f = k + 1 := ⟨f - 1, by omega⟩
    rw [lo_X12_peelsAll_50]
    rcases hbs with ⟨b1, b2⟩ | ⟨a, a1, a2, a3, a4⟩
    · rw [b1]
      refine yl_p (by decide) (hk u ?_ hr hM)
      have nob : ∀ q, x ≤ q → lf q = true → mts g b q = true → False := fun q hq hl hm => by
        obtain ⟨j, j1, j2⟩ := hlk q hl
        have : (lfx g lf b x (mk g j) && mts g b (mk g j)) = false := b2 j j1
        rw [j2] at this
        unfold lfx at this
        rw [hl, hm, decide_eq_false (by omega)] at this
        simp at this
      unfold grp
      rw [kl_up (P := fun q => lf q && mts g b q) h2 (fun q q1 _ => by
        show (lf q && mts g b q) = false
        cases e : lf q with
        | false => rfl
        | true =>
          cases e2 : mts g b q with
          | false => rfl
          | true => exact absurd e2 fun z => nob q q1 e z), ← lfx_1000 g lf b hlt, lfx_up h2 fun q q1 _ hl => by
          cases e2 : mts g b q with
          | false => rfl
          | true => exact absurd e2 fun z => nob q q1 hl z]
      exact hp
    · rw [a2]
      obtain ⟨k1, k2⟩ := mk_key hw a1
      have a3' : lfx g lf b x (mk g a) = true ∧ mts g b (mk g a) = true := by
        have := a3
        rw [Bool.and_eq_true] at this
        exact this
      have hm := a3'.2
      have hla : lf (mk g a) = true ∧ x ≤ mk g a := by
        have := a3'.1
        unfold lfx at this
        rw [Bool.and_eq_true] at this
        refine ⟨this.1, ?_⟩
        refine Classical.byContradiction fun z => ?_
        have := this.2
        rw [hm, decide_eq_true (by omega)] at this
        simp at this
      have nob : ∀ q, x ≤ q → q < mk g a → lf q = true → mts g b q = true → False := fun q q1 q2 hl hm2 => by
        obtain ⟨j, j1, j2⟩ := hlk q hl
        have := a4 j j1 (by
          show (lfx g lf b x (mk g j) && mts g b (mk g j)) = true
          rw [j2]
          unfold lfx
          rw [hl, hm2, decide_eq_false (by omega)]
          rfl)
        omega
      rw [← kl_up (P := fun q => lf q && mts g b q) hla.2 (fun q q1 q2 => by
        show (lf q && mts g b q) = false
        cases e : lf q with
        | false => rfl
        | true =>
          cases e2 : mts g b q with
          | false => rfl
          | true => exact absurd e2 fun z => nob q q1 q2 e z), ← lfx_up hla.2 fun q q1 q2 hl => by
          cases e2 : mts g b q with
          | false => rfl
          | true => exact absurd e2 fun z => nob q q1 q2 hl z] at hp
      obtain ⟨p1, p2, p3, p4, p5, p6⟩ := hp
      have lk : lfx g lf b (mk g a) (mk g a) = true := by
        unfold lfx
        rw [decide_eq_false (by omega), Bool.and_false, hla.1]
        rfl
      have nx : kl (fun q => lf q && mts g b q) (mk g a + 1) 0 = kl (fun q => lf q && mts g b q) (mk g a) 0 ++ [mk g a] := by
        rw [kl_snoc, if_pos (by rw [hla.1, hm]; rfl)]
      have lx := lfx_s (g := g) (lf := lf) hm
      have lfe : ∀ q, lfx g lf b (mk g a) q = true → lf q = true := fun q hq2 => by
        unfold lfx at hq2
        rw [Bool.and_eq_true] at hq2
        exact hq2.1
      have cr := cnt_rm (lf := lfx g lf b (mk g a)) (x := mk g a) (by omega) lk
      have ih2 := ih f (mk g a + 1)
      rw [nx, List.map_append, ← List.append_assoc, lx] at ih2
      generalize (out ++ (kl (fun q => lf q && mts g b q) (mk g a) 0).map (fun q => (q, b))) = O at *
      generalize lfx g lf b (mk g a) = LL at *
      refine yl_n (nI_pos (by omega)) (yl_z0 ?_)
      rw [h5.1.1, h5.1.2.1, h5.1.2.2]
      refine yl_sd 72 h5.2.2.2 (by omega) (by omega) ?_
      rw [w_get, if_neg (by omega), p3]
      refine yl_sd 72 h5.2.1 (by omega) (by omega) ?_
      rw [w_get, if_neg (by omega), w_get, if_neg (by omega), p3]
      refine yl_sd 72 h5.2.2.1 (by omega) (by omega) (yl_let ?_)
      rw [w_get, if_neg (by omega), w_get, if_neg (by omega), w_get, if_neg (by omega), p3, nI_1]
      have fz : fr fZ u (tc_w (tc_w (tc_w (tc_w u 83 a 0) 81 O.length (nI a)) 82 O.length (nI b)) 71 17 (nI (O.length + 1))) := fr_w (fr_w (fr_w (fr_w fr_refl (by unfold fZ; omega)) (by unfold fZ; omega)) (by unfold fZ; omega)) (by unfold fZ; omega)
      have hM2 := isM_Z hM fz
      have hl2 : ls (tc_w (tc_w (tc_w (tc_w u 83 a 0) 81 O.length (nI a)) 82 O.length (nI b)) 71 17 (nI (O.length + 1))) (mes g) := by
        refine ⟨?_, fun k hk2 => ?_⟩
        · rw [w_get, if_neg (by omega), w_get, if_neg (by omega), w_get, if_neg (by omega), w_get, if_neg (by omega)]; exact p1.1
        · simp only [w_get, show ¬ (80 = 71) by omega, show ¬ (80 = 82) by omega, show ¬ (80 = 81) by omega, show ¬ (80 = 83) by omega, false_and, if_false]
          exact p1.2 k hk2
      have hf2 : ∀ k, k < (mes g).length → (tc_w (tc_w (tc_w (tc_w u 83 a 0) 81 O.length (nI a)) 82 O.length (nI b)) 71 17 (nI (O.length + 1))).1 83 k = (if (LL (mk g k) && decide (mk g k ≠ mk g a)) = true then 1 else 0) := by
        intro k hk2
        rw [w_get, if_neg (by omega), w_get, if_neg (by omega), w_get, if_neg (by omega), w_get]
        by_cases d : k = a
        · rw [if_pos ⟨rfl, d⟩, d]
          simp
        · rw [if_neg (fun z => d z.2), p2 k hk2]
          have : mk g k ≠ mk g a := by
            rcases Nat.lt_or_gt_of_ne d with z | z
            · exact mk_inj hw k a z a1
            · exact (mk_inj hw a k z hk2).symm
          exact if_bb (by rw [decide_eq_true this, Bool.and_true])
      generalize hW : tc_w (tc_w (tc_w (tc_w u 83 a 0) 81 O.length (nI a)) 82 O.length (nI b)) 71 17 (nI (O.length + 1)) = W at *
      refine yl_b (pr_least hG h4 h5 (P := fun q => (LL q && decide (q ≠ mk g a)) && mts g b q) (v := nI b) hw hl2 hf2 (Or.inr ⟨hM2, b, by omega, rfl, rfl⟩)) fun r2 w2 hr2 => ?_
      obtain ⟨hr3, hr4⟩ := hr2
      subst hr3
      refine ih2 r2 w2 (by omega) (by omega) (by omega) hM2 (fr_trans hr fz) ⟨hl2, hf2, ?_, fun j p hj => ?_, ?_, fun q hq2 => ?_⟩ hr4
      · rw [← hW, w_get, if_pos ⟨rfl, rfl⟩, List.length_append]
        rfl
      · rw [← hW]
        simp only [w_get]
        rw [if_neg (show ¬ ((81 : Nat) = 71 ∧ j = 17) by omega), if_neg (show ¬ ((81 : Nat) = 82 ∧ j = O.length) by omega), if_neg (show ¬ ((82 : Nat) = 71 ∧ j = 17) by omega)]
        by_cases d : j < O.length
        · rw [List.getElem?_append_left d] at hj
          obtain ⟨⟨i, i1, i2, i3⟩, i4⟩ := p4 j p hj
          rw [if_neg (by omega), if_neg (by omega), if_neg (by omega), if_neg (by omega), if_neg (by omega)]
          exact ⟨⟨i, i1, i2, i3⟩, i4⟩
        · rw [List.getElem?_append_right (by omega)] at hj
          have d2 : j = O.length := by
            refine Classical.byContradiction fun z => ?_
            rw [show j - O.length = (j - O.length - 1) + 1 by omega] at hj
            simp at hj
          rw [d2, Nat.sub_self] at hj
          have hj2 := Option.some.inj hj
          rw [← hj2, d2, if_pos (by simp), if_pos (by simp)]
          exact ⟨⟨a, a1, rfl, rfl⟩, rfl⟩
      · rw [List.length_append]
        show O.length + 1 + _ ≤ 68
        omega
      · rw [Bool.and_eq_true] at hq2
        exact hlk q (lfe q hq2.1)
theorem pr_39 {G : tc_G} (hG : gm G) (h4 : gm4 G) (h5 : gm5 G) {u0 : tc_S} {g : mp} (hw : mwf g) : ∀ (n f : Nat) (lf : Nat → Bool) (out : List (Nat × Nat)) (u : tc_S), pms g lf ≤ n → n < f → isM u 0 g → fr fZ u0 u → rB g u lf out → y2 (lo_X12_peelsAll_39 G f 71 0 (oI (pkb g lf)) u) (fun _ w => rB g w (pls g n lf).2 (out ++ (pls g n lf).1) ∧ fr fZ u0 w) := by
  have hfu := tc_fu_big
  have hn := hw.1.1.2.1.2
  intro n
  induction n with
  | zero =>
    intro f lf out u hms hf hM hr hp
    obtain ⟨f, rfl⟩ : ∃ k, f = k + 1 := ⟨f - 1, by omega⟩
    rw [pms_0 (by omega), lo_X12_peelsAll_39, pls_0, List.append_nil]
    exact yl_p (by decide) (yl_ok ⟨hp, hr⟩)
  | succ n ih =>
    intro f lf out u hms hf hM hr hp
    obtain ⟨f, rfl⟩ : ∃ k, f = k + 1 := ⟨f - 1, by omega⟩
    rw [lo_X12_peelsAll_39, pls_s]
    cases e : pkb g lf with
    | none =>
      rw [pls1, List.append_nil]
      exact yl_p (by decide) (yl_ok ⟨hp, hr⟩)
    | some b =>
      obtain ⟨b1, b2, -⟩ := ff_lt e
      have hst := pms_step e
      refine yl_n (nI_pos (show b < 2 ^ 31 by omega)) ?_
      refine yl_b (pr_least hG h4 h5 (lf := lf) (P := fun q => lf q && mts g b q) (v := nI b) hw hp.1 hp.2.1 (Or.inr ⟨hM, b, by omega, rfl, rfl⟩)) fun r w hr2 => ?_
      obtain ⟨hr3, hr4⟩ := hr2
      subst hr3
      refine pr_50 hG h4 h5 (u0 := u0) (lf := lf) (out := out) hw (b := b) (by omega) hp.2.2.2.2.2 (fun v v1 v2 v3 => ?_) 1001 tc_fu 0 r w (by omega) (by omega) (by omega) hM hr ?_ ?_
      · refine yl_e (pr_peelable hG h4 h5 v3 hw v1) ?_
        have := ih f (lfs g lf b) (out ++ grp g lf b) v (by omega) (by omega) v3 v2 v1
        rw [List.append_assoc] at this
        rw [pls1]
        exact this
      · rw [lfx_0, kl, List.map_nil, List.append_nil]
        exact hp
      · rw [lfx_0]
        exact hr4
theorem pr_12 {G : tc_G} (hG : gm G) (h4 : gm4 G) (h5 : gm5 G) {u0 : tc_S} {g : mp} (hw : mwf g) : ∀ (n k f : Nat) (u : tc_S), k + n = (mes g).length → n < f → isM u 0 g → fr fZ u0 u → ls u (mes g) → u.1 71 17 = 0 → (∀ j, j < k → u.1 83 j = 1) → y2 (lo_X12_peelsAll_12 G f 71 0 (nI k) u) (fun _ w => rB g w (pls g (mn g 0) (lf0 g)).2 (pls g (mn g 0) (lf0 g)).1 ∧ fr fZ u0 w) := by
  have hfu := tc_fu_big
  have hn := hw.1.1.2.1.2
  have hln := mes_len hw
  intro n
  induction n with
  | zero =>
    intro k f u hk hf hM hr hl h17 hj
    obtain ⟨f, rfl⟩ : ∃ k, f = k + 1 := ⟨f - 1, by omega⟩
    have hp : rB g u (lf0 g) [] := by
      refine ⟨hl, fun j hj2 => ?_, h17, fun j p hj2 => (by simp at hj2), ?_, fun q hq => (mk_lf0 hw).mp hq⟩
      · rw [hj j (by omega), if_pos ((mk_lf0 hw).mpr ⟨j, hj2, rfl⟩)]
      · have z := cf_bij (N := 1000) (mes g).length (mk g) (lf0 g) (mk_inj hw) (fun k hk => by have := (mk_key hw hk).2; omega) (fun q _ hq => (mk_lf0 hw).mp hq)
        rw [← z]
        have : cf (fun k => lf0 g (mk g k)) (mes g).length 0 ≤ (mes g).length := cf_le
        show 0 + _ ≤ 68
        omega
    rw [lo_X12_peelsAll_12, hl.1, pu_le (by omega) (by omega), if_pos (by omega)]
    refine yl_e (pr_peelable hG h4 h5 hM hw hp) ?_
    exact pr_39 hG h4 h5 (u0 := u0) hw (mn g 0) tc_fu (lf0 g) [] u (pms_le g _) (by omega) hM hr hp
  | succ n ih =>
    intro k f u hk hf hM hr hl h17 hj
    obtain ⟨f, rfl⟩ : ∃ k, f = k + 1 := ⟨f - 1, by omega⟩
    rw [lo_X12_peelsAll_12, hl.1, pu_le (by omega) (by omega), if_neg (by omega), h5.1.2.2]
    refine yl_z1 (yl_sd 72 h5.2.2.2 (by omega) (by omega) (yl_let ?_))
    rw [nI_1]
    have fz : fr fZ u (tc_w u 83 k 1) := fr_w fr_refl (by unfold fZ; omega)
    refine ih (k + 1) f _ (by omega) (by omega) (isM_Z hM fz) (fr_trans hr fz) ⟨by rw [w_get, if_neg (by omega)]; exact hl.1, fun j hj2 => ?_⟩ (by rw [w_get, if_neg (by omega)]; exact h17) (fun j hj2 => ?_)
    · simp only [w_get, show ¬ (80 = 83) by omega, false_and, if_false]
      exact hl.2 j hj2
    · rw [w_get]
      by_cases d : j = k
      · rw [if_pos ⟨rfl, d⟩]
      · rw [if_neg (fun z => d z.2)]; exact hj j (by omega)
theorem pr_peelsAll {G : tc_G} (hG : gm G) (h4 : gm4 G) (h5 : gm5 G) {u : tc_S} {g : mp} (hM : isM u 0 g) (hw : mwf g) : y2 (fn_X12_peelsAll G 71 0 u) (fun _ w => rB g w (pls g (mn g 0) (lf0 g)).2 (pls g (mn g 0) (lf0 g)).1 ∧ fr fZ u w) := by
  have hfu := tc_fu_big
  have hln := mes_len hw
  unfold fn_X12_peelsAll
  refine yl_b (pm_lists hG h4 (B := 0) (by omega) hM hw) fun _ w hl => yl_let ?_
  have f1 : fr fZ u w := fr_mono hl.2 fun o k q => by unfold fL at q; unfold fZ; omega
  have f2 : fr fZ u (tc_w w 71 17 0) := fr_w f1 (by unfold fZ; omega)
  refine pr_12 hG h4 h5 (u0 := u) hw (mes g).length 0 tc_fu _ (by omega) (by omega) (isM_Z hM f2) f2 ⟨by rw [w_get, if_neg (by omega)]; exact hl.1.1, fun j hj2 => ?_⟩ (by rw [w_get, if_pos ⟨rfl, rfl⟩]) (fun j hj => by omega)
  simp only [w_get, show ¬ (80 = 71) by omega, false_and, if_false]
  exact hl.1.2 j hj2
/-- what is told of those that are peeled -/
def pan (out : List (Nat × Nat)) (x y : Int32) : Int32 :=
  if x = -1 then (if y = 0 then nI out.length else -2) else if x < 0 then -2 else match out[x.toNatClampNeg]? with
    | none => -2
    | some p => if y = 0 then nI p.1 else if y = 1 then nI p.2 else -2
theorem fY_c {u w : tc_S} (h : fr fY u w) : fr fMc u w := fr_mono h fun o k q => by unfold fY at q; unfold fMc; omega
theorem pls_mem {g : mp} : ∀ (n : Nat) (lf : Nat → Bool) (p : Nat × Nat), p ∈ (pls g n lf).1 → lf p.1 = true ∧ mts g p.2 p.1 = true ∧ p.2 < mn g 0 ∧ p.1 < 1000 := by
  intro n
  induction n with
  | zero => intro lf p h; rw [pls_0] at h; cases h
  | succ n ih =>
    intro lf p h
    rw [pls_s] at h
    cases e : pkb g lf with
    | none => rw [e, pls1] at h; cases h
    | some b =>
      obtain ⟨b1, b2, -⟩ := ff_lt e
      rw [e, pls1] at h
      rcases List.mem_append.mp h with h | h
      · unfold grp at h
        obtain ⟨q, q1, q2⟩ := List.mem_map.mp h
        have q1 := (kl_mem 1000 0).mp q1
        have q3 := q1.2.2
        rw [Bool.and_eq_true] at q3
        rw [← q2]
        exact ⟨q3.1, q3.2, by show b < mn g 0; omega, by show q < 1000; omega⟩
      · have := ih _ p h
        refine ⟨?_, this.2⟩
        have := this.1
        unfold lfs at this
        rw [Bool.and_eq_true] at this
        exact this.1
theorem mt_peel {G : tc_G} (hA : gA G) (hR : gR G) {u : tc_S} {P : Nat} {g : mp} (x y : Int32) (hu : cC u P g) : y2 (fn_X11_peel G 0 x y u) (fun r w => r = pan (pls g (mn g 0) (lf0 g)).1 x y ∧ mt w 2 g ∧ fr fMc u w) := by
  obtain ⟨⟨o0, o1, o2, o3, o4, o5, o6, o7, o8, o9, o10⟩, ⟨a1, a2, a3⟩, ⟨a4, a5, a6, a7⟩, b1, b2, b3, b4⟩ := hA
  have hw := hu.2.1.1
  unfold fn_X11_peel
  rw [o0, o1, o5]
  refine yl_b (mt_peelOff hR a4 (by omega) hw hu.1) fun _ w hp => ?_
  obtain ⟨n, os, s1, m1, f1, p1, p2, p3, p4, p5, p6, p7⟩ := hp
  have fc1 := fY_c f1
  have c31 : ¬ (x = -1 ∧ y = 0) → y2 (bl_X11_peel_31 G 0 x y w) (fun r v => r = pan (pls g (mn g 0) (lf0 g)).1 x y ∧ mt v 2 g ∧ fr fMc u v) := by
    intro hxy
    unfold bl_X11_peel_31 bl_X11_peel_46 bl_X11_peel_93
    by_cases c : x < 0
    · refine yl_p c (yl_ok ⟨?_, m1, fc1⟩)
      unfold pan
      by_cases d : x = -1
      · rw [if_pos d, if_neg (fun z => hxy ⟨d, z⟩)]
      · rw [if_neg d, if_pos c]
    · refine yl_n c ?_
      obtain ⟨j, hj, rfl⟩ := nI_of c
      have e : pan (pls g (mn g 0) (lf0 g)).1 (nI j) y = match (pls g (mn g 0) (lf0 g)).1[j]? with
        | none => -2
        | some p => if y = 0 then nI p.1 else if y = 1 then nI p.2 else -2 := by
        unfold pan
        rw [if_neg (fun z => c (by rw [z]; decide)), if_neg c, nI_clamp hj]
      have hme : ∀ p, p ∈ (pls g (mn g 0) (lf0 g)).1 → p.1 < 1000 := fun p hp => (pls_mem _ _ p hp).2.2.2
      generalize (pls g (mn g 0) (lf0 g)).1 = O at *
      rw [e, o0, o1, o5, p4, pu_lt hj (by omega), hR.1.2.2.1, hR.1.2.2.2.1, a4.2.1.1]
      by_cases d : j < O.length
      · refine yl_p d ?_
        rw [List.getElem?_eq_getElem d]
        obtain ⟨⟨i, i1, i2, i3⟩, i4⟩ := p5 j _ (List.getElem?_eq_getElem d)
        have kq := hme _ (List.getElem_mem d)
        obtain ⟨k4, -⟩ := pl_ent (m1.2.1 i (by omega)) i3 (by omega)
        show yl _ (fun (r : Int32 × tc_S) => r.1 = (if y = 0 then nI (O[j]).1 else if y = 1 then nI (O[j]).2 else -2) ∧ mt r.2 2 g ∧ fr fMc u r.2)
        by_cases y0 : y = 0
        · rw [if_pos y0]
          refine yl_ld 68 hR.2.2.2.1 (by omega) (by omega) ?_
          rw [i2]
          refine yl_ld 69 (a4.2.2.2 _ (by omega) (by omega)) (by omega) (by omega) (yl_ok ⟨(by show w.1 (2 + 4) i = _; rw [if_pos y0]; exact k4), m1, fc1⟩)
        · rw [if_neg y0]
          try rw [if_neg y0]
          by_cases y1 : y = 1
          · rw [if_pos y1]
            try rw [if_pos y1]
            exact yl_ld 68 hR.2.2.2.2.1 (by omega) (by omega) (yl_ok ⟨i4, m1, fc1⟩)
          · rw [if_neg y1]
            try rw [if_neg y1]
            exact yl_ok ⟨rfl, m1, fc1⟩
      · refine yl_n d (yl_ok ⟨?_, m1, fc1⟩)
        rw [List.getElem?_eq_none (by omega)]
  by_cases x1 : x = -1
  · refine yl_p x1 ?_
    by_cases y0 : y = 0
    · refine yl_p y0 (yl_ok ⟨?_, m1, fc1⟩)
      unfold pan
      rw [if_pos x1, if_pos y0]
      exact p4
    · exact yl_n y0 (c31 fun z => y0 z.2)
  · exact yl_n x1 (c31 fun z => x1 z.1)
theorem pr_peel {G : tc_G} (hG : gm G) (h4 : gm4 G) (h5 : gm5 G) {u : tc_S} {g : mp} (x y : Int32) (hM : isM u 0 g) (hw : mwf g) : y2 (fn_X12_peel G 71 x y u) (fun r w => r = pan (pls g (mn g 0) (lf0 g)).1 x y ∧ isM w 0 g ∧ fr fMr u w) := by
  have hln := mes_len hw
  unfold fn_X12_peel
  refine yl_b (pr_peelsAll hG h4 h5 hM hw) fun _ w hp => ?_
  obtain ⟨⟨p1, p2, p3, p4, p5, p6⟩, f1⟩ := hp
  have i1 := isM_Z hM f1
  have f2 := fZ_r f1
  unfold bl_X12_peel_23 bl_X12_peel_47 bl_X12_peel_78
  by_cases x1 : x = -1
  · refine yl_p x1 ?_
    by_cases y0 : y = 0
    · refine yl_p y0 (yl_ok ⟨?_, i1, f2⟩)
      unfold pan
      rw [if_pos x1, if_pos y0]
      exact p3
    · refine yl_n y0 (yl_ok ⟨?_, i1, f2⟩)
      unfold pan
      rw [if_pos x1, if_neg y0]
  · refine yl_n x1 ?_
    rw [p3]
    by_cases c : x < 0
    · have : ∀ z, fn_X12_isIn G x 0 z w = some (0, w) := fun z => by
        unfold fn_X12_isIn bl_X12_isIn_14 bl_X12_isIn_15
        rw [if_pos c]
        rfl
      refine yl_e (this _) (yl_p rfl (yl_ok ⟨?_, i1, f2⟩))
      unfold pan
      rw [if_neg x1, if_pos c]
    · obtain ⟨j, hj, rfl⟩ := nI_of c
      have e : pan (pls g (mn g 0) (lf0 g)).1 (nI j) y = match (pls g (mn g 0) (lf0 g)).1[j]? with
        | none => -2
        | some p => if y = 0 then nI p.1 else if y = 1 then nI p.2 else -2 := by
        unfold pan
        rw [if_neg x1, if_neg c, nI_clamp hj]
      generalize (pls g (mn g 0) (lf0 g)).1 = O at *
      rw [e]
      by_cases d : j < O.length
      · have : ∀ v, fn_X12_isIn G (nI j) 0 (nI O.length - 1) v = some (1, v) := fun v => by
          unfold fn_X12_isIn bl_X12_isIn_14 bl_X12_isIn_15
          rw [if_neg c, show nI O.length - 1 = nI (O.length - 1) from pk_sub (b := 1) (by omega), if_neg (nI_nlt (by omega) (by omega))]
          rfl
        refine yl_e (this _) (yl_n i_n1 ?_)
        rw [List.getElem?_eq_getElem d]
        obtain ⟨⟨i, i1', i2, i3⟩, i4⟩ := p4 j _ (List.getElem?_eq_getElem d)
        obtain ⟨k1, k2⟩ := mk_key hw i1'
        show yl _ (fun (r : Int32 × tc_S) => r.1 = (if y = 0 then nI (O[j]).1 else if y = 1 then nI (O[j]).2 else -2) ∧ isM r.2 0 g ∧ fr fMr u r.2)
        have hlen : O.length ≤ 68 := by omega
        rcases pm_isInB (G := G) y 0 1 (by omega) (by omega) with ⟨c1, c2⟩ | ⟨q, q1, q2, q3, q4⟩
        · have yo := isIn_out (a := 0) (b := 1) (by omega) (by omega) c1
          rw [if_neg (fun z => by rw [z] at yo; have : ((0 : Int32).toInt < ((0 : Nat) : Int) ∨ ((1 : Nat) : Int) < (0 : Int32).toInt) := yo; revert this; decide), if_neg (fun z => by rw [z] at yo; have : ((1 : Int32).toInt < ((0 : Nat) : Int) ∨ ((1 : Nat) : Int) < (1 : Int32).toInt) := yo; revert this; decide)]
          exact yl_e (c2 w) (yl_p rfl (yl_ok ⟨rfl, i1, f2⟩))
        · refine yl_e (q4 w) (yl_n i_n1 ?_)
          rw [h5.1.1, h5.1.2.1, h4.1]
          by_cases y0 : y = 0
          · rw [if_pos y0]
            try rw [if_pos y0]
            refine yl_ld 72 h5.2.1 (by omega) (by omega) ?_
            rw [i2, show (4 : Int32) * nI i = nI (4 * i) from pk_mul 4 i]
            refine yl_ld 288 h4.2 (by omega) (by omega) (yl_ok ⟨?_, i1, f2⟩)
            show w.1 80 (4 * i) - 1 = _
            rw [(p1.2 i i1').1, k1, nI_pred, i3]
          · rw [if_neg y0]
            have y1 : y = 1 := by
              rw [q3] at y0 ⊢
              have : q = 0 ∨ q = 1 := by omega
              rcases this with z | z
              · rw [z] at y0; exact absurd rfl y0
              · rw [z]; rfl
            rw [if_pos y1]
            try rw [if_neg y0]
            exact yl_ld 72 h5.2.2.1 (by omega) (by omega) (yl_ok ⟨i4, i1, f2⟩)
      · have : ∀ v, fn_X12_isIn G (nI j) 0 (nI O.length - 1) v = some (0, v) := fun v => by
          unfold fn_X12_isIn bl_X12_isIn_14 bl_X12_isIn_15
          rw [if_neg c, if_pos]
          · rfl
          · by_cases z : O.length = 0
            · rw [z]
              exact Int32.lt_of_lt_of_le (show nI 0 - 1 < (0 : Int32) by decide) (nI_pos' hj)
            · rw [show nI O.length - 1 = nI (O.length - 1) from pk_sub (b := 1) (by omega)]
              exact nI_lt (by omega) hj
        refine yl_e (this _) (yl_p rfl (yl_ok ⟨?_, i1, f2⟩))
        rw [List.getElem?_eq_none (by omega)]
/-- the call peel -/
theorem c_peel {G : tc_G} (hA : gA G) (hR : gR G) (h5 : gm5 G) {L : tc_L} {u : tc_S} {P : Nat} {g : mp} (x y : Int32) (hu : cC u P g) (hM : isM u 0 g) : ∃ g2 P2, P2 ≤ P + 12 ∧ yl (tc_b (fn_X11_peel G 0 x y u) fun r1 u1 => tc_b (fn_X12_peel G 71 x y u1) fun r2 u2 => if r1 = r2 then some (L, u2) else none) (pqq L u P2 g2) :=
  ⟨g, P, by omega, pr_call (R := pan (pls g (mn g 0) (lf0 g)).1 x y) hu hM hu.2.1 (mt_peel hA hR x y hu) fun _ hw2 => pr_peel hA.2.2.2.1 hA.2.2.2.2.2.2 h5 x y hw2 hu.2.1.1⟩
