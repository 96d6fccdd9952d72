/-! image, again -/
theorem yw_wc {R : Type} {L : tc_L} {o : Option R} {Q : R → Prop} (h : tc_wf L = true) (h2 : yl o Q) : yl (tc_wc L o) Q := by
  unfold tc_wc
  rw [if_pos h]; exact h2
theorem yw_kd {R : Type} {L : tc_L} {i q : Nat} {o : Option R} {Q : R → Prop} (h : tc_rf L i q = true) (h2 : yl o Q) : yl (tc_kd L i q o) Q := by
  unfold tc_kd
  rw [if_pos h]; exact h2
theorem yw_kc {R : Type} {L : tc_L} {i q : Nat} {o : Option R} {Q : R → Prop} (h : i < L.length ∧ (tc_k0 L i).1 = q) (h2 : yl o Q) : yl (tc_kc L i q o) Q := by
  unfold tc_kc
  rw [if_pos h]; exact h2
theorem yw_ks {R : Type} {L : tc_L} {i j : Nat} {o : Option R} {Q : R → Prop} (h : j < (tc_k0 L i).2.2.length) (h2 : yl o Q) : yl (tc_ks L i j o) Q := by
  unfold tc_ks
  rw [if_pos h]; exact h2
theorem x10_copy {G : tc_G} {d s td ts pd ps : Nat} {u : tc_S} {g : mp} (h1 : tc_p G d 0 = td) (h2 : tc_p G s 0 = ts) (h3 : tc_p G d 1 = pd) (h4 : tc_p G s 1 = ps) (l1 : G.2.2.1 pd = 400) (l2 : G.2.2.1 ps = 400) (hT : gT G td 64) (hT2 : gT G ts 64) (hd : ts + 10 ≤ td ∨ td + 10 ≤ ts) (hS : wS g) (ht : tR u td 64) (hm : mt u ts g) (hs1 : d < td ∨ td + 10 ≤ d) (hs2 : s < td ∨ td + 10 ≤ s) (hs3 : pd < td ∨ td + 10 ≤ pd) (hs4 : ps < td ∨ td + 10 ≤ ps) (n1 : d ≠ s) (n2 : d ≠ pd) (n3 : s ≠ pd) (n4 : ps ≠ pd) : y2 (fn_X10_copyFrom G d s u) (fun _ w => mt w td g ∧ (∀ j, j < 400 → w.1 pd j = u.1 ps j) ∧ w.1 d 2 = u.1 s 2 ∧ w.1 d 3 = u.1 s 3 ∧ w.1 d 4 = u.1 s 4 ∧ fr (fun o k => fT td o k ∨ o = pd ∨ (o = d ∧ 2 ≤ k ∧ k ≤ 4)) u w) := by
  unfold fn_X10_copyFrom
  rw [h1, h2, h3, h4]
  refine yl_b (pc_copyFrom hT hT2 hd (by omega) hS ht hm) fun _ w1 a1 => ?_
  rw [show (400 : Int32) = nI 400 from rfl]
  refine yl_cp (n := 400) l2 l1 (by omega) (by omega) (by omega) fun w2 b1 b2 => ?_
  refine yl_let (yl_let (yl_let (yl_ok ?_)))
  have gg : ∀ o k, (tc_w (tc_w (tc_w w2 d 2 (w2.1 s 2)) d 3 ((tc_w w2 d 2 (w2.1 s 2)).1 s 3)) d 4 ((tc_w (tc_w w2 d 2 (w2.1 s 2)) d 3 ((tc_w w2 d 2 (w2.1 s 2)).1 s 3)).1 s 4)).1 o k = if o = d ∧ k = 4 then w2.1 s 4 else if o = d ∧ k = 3 then w2.1 s 3 else if o = d ∧ k = 2 then w2.1 s 2 else w2.1 o k := by
    intro o k
    have e3 : (tc_w w2 d 2 (w2.1 s 2)).1 s 3 = w2.1 s 3 := by rw [w_get, if_neg (by omega)]
    have e4 : (tc_w (tc_w w2 d 2 (w2.1 s 2)) d 3 ((tc_w w2 d 2 (w2.1 s 2)).1 s 3)).1 s 4 = w2.1 s 4 := by rw [w_get, if_neg (by omega), w_get, if_neg (by omega)]
    rw [e4, e3]
    rfl
  have f1 : fr (fun o k => o = pd ∨ (o = d ∧ 2 ≤ k ∧ k ≤ 4)) w1 (tc_w (tc_w (tc_w w2 d 2 (w2.1 s 2)) d 3 ((tc_w w2 d 2 (w2.1 s 2)).1 s 3)) d 4 ((tc_w (tc_w w2 d 2 (w2.1 s 2)) d 3 ((tc_w w2 d 2 (w2.1 s 2)).1 s 3)).1 s 4)) := fun o k q => by
    rw [gg, if_neg (by omega), if_neg (by omega), if_neg (by omega)]
    exact b2 o k (by omega)
  have us : ∀ k, w2.1 s k = u.1 s k := fun k => by rw [b2 _ _ n3, a1.2 _ _ (by unfold fT; omega)]
  refine ⟨mt_fr (show mt w1 td g from a1.1) f1 fun o k q1 q2 => by omega, fun j hj => ?_, ?_, ?_, ?_, fr_trans (fr_mono a1.2 fun o k q => Or.inl q) (fr_mono f1 fun o k q => Or.inr q)⟩
  · rw [gg, if_neg (by omega), if_neg (by omega), if_neg (by omega), b1 j hj, a1.2 _ _ (by unfold fT; omega)]
  · rw [gg, if_neg (by omega), if_neg (by omega), if_pos ⟨rfl, rfl⟩, us]
  · rw [gg, if_neg (by omega), if_pos ⟨rfl, rfl⟩, us]
  · rw [gg, if_pos ⟨rfl, rfl⟩, us]
theorem cC_hi {u w : tc_S} {P : Nat} {g : mp} (h : cC u P g) (hf : fr (fun o _ => 92 ≤ o) u w) : cC w P g := by
  have tr : ∀ {t r : Nat}, (t = 14 ∨ t = 39 ∨ t = 55) → tR u t r → tR w t r := fun ht q => ⟨by rw [hf _ _ (by omega)]; exact q.1, by rw [hf _ _ (by omega)]; exact q.2⟩
  exact ⟨mt_fr h.1 hf fun o k q1 q2 => by omega, h.2.1, tr (by omega) h.2.2.1, tr (by omega) h.2.2.2.1, tr (by omega) h.2.2.2.2⟩
/-- what an image's world has of the map's -/
def cpW (u w : tc_S) (v : Nat) (g : mp) : Prop := mt w (v + 1) g ∧ (∀ j, j < 400 → w.1 (v + 11) j = u.1 12 j) ∧ w.1 v 2 = u.1 1 2 ∧ w.1 v 3 = u.1 1 3 ∧ w.1 v 4 = u.1 1 4
theorem i33 {L : tc_L} (hL : L ∈ Sall) {k v : Nat} (hk : k < 3) (hw : (tc_gl L).2.2.2 13 k = some v) {u : tc_S} {P : Nat} {g : mp} (hu : cC u P g) (hR : tR u (v + 1) 64) : yl (bl_X11_image_33 L 0 (nI k) u) (fun q => q.1 = 1 ∧ q.2.1 = L ∧ cpW u q.2.2 v g ∧ fr (fun o _ => v ≤ o ∧ o < v + 12) u q.2.2) := by
  obtain ⟨wf, r0, r71⟩ := st_wf hL
  obtain ⟨-, hI, -⟩ := st_gR L hL
  have hA := st_gA hL
  obtain ⟨⟨o0, o1, o2, o3, o4, o5, o6, o7, o8, o9, o10⟩, -, ⟨a4, a5, a6, a7⟩, -⟩ := hA
  have im := st_img L hL k hk
  rw [hw] at im
  obtain ⟨i1, i2, i3, i4, i5, i6⟩ := im
  have hY := (st_gR L hL).2.2.2.2.1
  unfold bl_X11_image_33
  refine yw_wc wf (yw_kd r0 ?_)
  rw [hI.1, hI.2.1, nI_clamp (by omega)]
  refine yl_n (by
    rintro (z | z)
    · exact nI_pos (by omega) z
    · omega) ?_
  unfold tc_gp
  rw [hw, o0]
  refine yl_b (x10_copy (d := v) (s := 1) (td := v + 1) (ts := 2) (pd := v + 11) (ps := 12) i3 o1 i4 o10 i5 hY (gT_d i6) a4 (by omega) (wA_wS hu.2.1.1.1.1) hR hu.1 (by omega) (by omega) (by omega) (by omega) (by omega) (by omega) (by omega) (by omega)) fun _ w hw2 => ?_
  exact yl_ok ⟨rfl, rfl, ⟨hw2.1, hw2.2.1, hw2.2.2.1, hw2.2.2.2.1, hw2.2.2.2.2.1⟩, fr_mono hw2.2.2.2.2.2 fun o k q => by unfold fT at q; omega⟩
theorem st_nxt {L : tc_L} (hL : L ∈ Spre) {k : Nat} (hk : k < 3) (h : (tc_gl L).2.2.2 13 k = none) : tc_sp (L ++ blk L.length) 13 k L.length ∈ Sall ∧ (tc_gl (tc_sp (L ++ blk L.length) 13 k L.length)).2.2.2 13 k = some L.length ∧ ∀ j, j < 3 → j ≠ k → (tc_gl (tc_sp (L ++ blk L.length) 13 k L.length)).2.2.2 13 j = (tc_gl L).2.2.2 13 j := by
  have z : ∀ L ∈ Spre, ∀ k, k < 3 → (((tc_gl L).2.2.2 13 k).isSome = true ∨ ((Sall.any fun X => decide (X = tc_sp (L ++ blk L.length) 13 k L.length)) = true ∧ (tc_gl (tc_sp (L ++ blk L.length) 13 k L.length)).2.2.2 13 k = some L.length ∧ ∀ j, j < 3 → (j = k ∨ (tc_gl (tc_sp (L ++ blk L.length) 13 k L.length)).2.2.2 13 j = (tc_gl L).2.2.2 13 j))) := by decide +kernel
  rcases z L hL k hk with y | ⟨y1, y2, y3⟩
  · rw [h] at y; cases y
  · obtain ⟨X, x1, x2⟩ := List.any_eq_true.mp y1
    refine ⟨?_, y2, fun j hj hjk => ?_⟩
    · rw [← of_decide_eq_true x2]; exact x1
    · rcases y3 j hj with q | q
      · exact absurd q hjk
      · exact q
theorem st_new {L : tc_L} (hL : L ∈ Spre) : (13 < (L ++ blk L.length).length ∧ (tc_k0 (L ++ blk L.length) 13).1 = 103) ∧ (L.length < (L ++ blk L.length).length ∧ (tc_k0 (L ++ blk L.length) L.length).1 = 10) ∧ (tc_k0 (L ++ blk L.length) 13).2.2.length = 3 ∧ (tc_gl (L ++ blk L.length)).2.2.1 13 = 3 := by
  have z : ∀ L ∈ Spre, (13 < (L ++ blk L.length).length ∧ (tc_k0 (L ++ blk L.length) 13).1 = 103) ∧ (L.length < (L ++ blk L.length).length ∧ (tc_k0 (L ++ blk L.length) L.length).1 = 10) ∧ (tc_k0 (L ++ blk L.length) 13).2.2.length = 3 ∧ (tc_gl (L ++ blk L.length)).2.2.1 13 = 3 := by decide +kernel
  exact z L hL
/-- what image(k) leaves as it was: the map's, the other images' -/
def fIm (L : tc_L) (k o _ : Nat) : Prop := 92 ≤ o ∧ ∀ j, j < 3 → j ≠ k → ∀ v, (tc_gl L).2.2.2 13 j = some v → ¬ (v ≤ o ∧ o < v + 12)
theorem mt_image {L : tc_L} (hL : L ∈ Sall) {k : Nat} (hk : k < 3) {u : tc_S} {P : Nat} {g : mp} (hu : cC u P g) (hR : ∀ v, (tc_gl L).2.2.2 13 k = some v → tR u (v + 1) 64) : yl (fn_X11_image L 0 (nI k) u) (fun q => q.1 = 1 ∧ q.2.1 ∈ Sall ∧ (∀ j, j < 3 → j ≠ k → (tc_gl q.2.1).2.2.2 13 j = (tc_gl L).2.2.2 13 j) ∧ (∃ v, (tc_gl q.2.1).2.2.2 13 k = some v ∧ cpW u q.2.2 v g) ∧ fr (fIm L k) u q.2.2) := by
  obtain ⟨wf, r0, r71⟩ := st_wf hL
  obtain ⟨-, hI, -⟩ := st_gR L hL
  unfold fn_X11_image
  refine yl_n (nI_pos (by omega)) (yl_p (nI_lt (b := 3) (by omega) (by omega)) ?_)
  refine yw_wc wf (yw_kd r0 ?_)
  rw [hI.1, hI.2.1, nI_clamp (by omega)]
  refine yl_n (by
    rintro (z | z)
    · exact nI_pos (by omega) z
    · omega) ?_
  cases hv : (tc_gl L).2.2.2 13 k with
  | some v =>
    refine yl_m (i33 hL hk hv hu (hR v hv)) fun q hq => ⟨hq.1, by rw [hq.2.1]; exact hL, fun j _ _ => by rw [hq.2.1], ⟨v, by rw [hq.2.1]; exact hv, hq.2.2.1⟩, fr_mono hq.2.2.2 fun o i z => ⟨?_, fun j hj hjk x hx => ?_⟩⟩
    · have im := st_img L hL k hk
      rw [hv] at im
      have := im.1
      omega
    · have := st_two hL hj hk hjk hx hv
      omega
  | none =>
    have hP := st_pre hL hk hv
    obtain ⟨n1, n2, n3, n4⟩ := st_new hP
    obtain ⟨m1, m2, m3⟩ := st_nxt hP hk hv
    have h92 := st_len hL
    refine yl_let (yl_let (yl_let ?_))
    refine x10_init hP fun w w1 w2 w3 => ?_
    refine yw_kc n1 (yw_kc n2 (yw_ks (by rw [n3]; exact hk) ?_))
    rw [n4]
    refine yl_n (by
      rintro (z | z)
      · exact nI_pos (by omega) z
      · omega) ?_
    have hw : cC w P g := cC_hi hu (fr_mono w1 fun o i q => by unfold fzN at q; omega)
    have lo : ∀ o i, o < 92 → w.1 o i = u.1 o i := fun o i q => w1 _ _ (by unfold fzN; omega)
    refine yl_m (i33 m1 hk m2 hw ⟨w2, w3⟩) fun q hq => ⟨hq.1, by rw [hq.2.1]; exact m1, fun j hj hjk => by rw [hq.2.1]; exact m3 j hj hjk, ⟨L.length, by rw [hq.2.1]; exact m2, ?_⟩, ?_⟩
    · obtain ⟨c1, c2, c3, c4, c5⟩ := hq.2.2.1
      exact ⟨c1, fun j hj => by rw [c2 j hj, lo _ _ (by omega)], by rw [c3, lo _ _ (by omega)], by rw [c4, lo _ _ (by omega)], by rw [c5, lo _ _ (by omega)]⟩
    · refine fr_trans (fr_mono w1 fun o i z => ?_) (fr_mono hq.2.2.2 fun o i z => ?_)
      · unfold fzN at z
        refine ⟨by omega, fun j hj hjk x hx => ?_⟩
        have im := st_img L hL j hj
        rw [hx] at im
        have := im.2.1
        omega
      · refine ⟨by omega, fun j hj hjk x hx => ?_⟩
        have im := st_img L hL j hj
        rw [hx] at im
        have := im.2.1
        omega
theorem pr_image29 {G : tc_G} (hG : gm G) (hI : gI G) {k B : Nat} {u0 : tc_S} (hk : k < 3) (hB : B = 1168 + 695 * k) : ∀ (m j f : Nat) (u : tc_S), j + m = 400 → m < f → (∀ i, i < j → u.1 72 (B + 292 + i) = u0.1 73 i) → fr (fun o i => o = 72 ∧ B + 292 ≤ i ∧ i < B + 692) u0 u → y2 (lo_X12_image_29 G f 71 (nI k) (nI B) (nI j) u) (fun r w => r = 1 ∧ (∀ i, i < 400 → w.1 72 (B + 292 + i) = u0.1 73 i) ∧ w.1 72 (B + 692) = u0.1 71 3 ∧ w.1 72 (B + 693) = u0.1 71 4 ∧ w.1 72 (B + 694) = u0.1 71 5 ∧ w.1 74 k = 1 ∧ fr (fun o i => (o = 72 ∧ B + 292 ≤ i ∧ i < B + 695) ∨ (o = 74 ∧ i = k)) u0 w) := by
  intro m
  induction m with
  | zero =>
    intro j f u hj hf hb hr
    obtain ⟨f, rfl⟩ : ∃ k, f = k + 1 := ⟨f - 1, by omega⟩
    have ur : ∀ i, u.1 71 i = u0.1 71 i := fun i => hr _ _ (by omega)
    rw [lo_X12_image_29, show (400 : Int32) = nI 400 from rfl, pu_le (by omega) (by omega), if_pos (by omega), hG.1.1, hI.2.2.1, show nI B + 292 = nI (B + 292) from nI_add B 292, nI_add, show nI (B + 292 + 400) + 2 = nI (B + 692 + 2) from nI_add _ 2, nI_1, ur]
    refine yl_sd 3253 hG.1.2 (by omega) (by omega) ?_
    rw [show (tc_w u 72 (B + 292 + 400) (u0.1 71 3)).1 71 4 = u0.1 71 4 from by rw [w_get, if_neg (by omega)]; exact ur 4]
    refine yl_sd 3253 hG.1.2 (by omega) (by omega) ?_
    rw [show (tc_w (tc_w u 72 (B + 292 + 400) (u0.1 71 3)) 72 (B + 292 + 400 + 1) (u0.1 71 4)).1 71 5 = u0.1 71 5 from by rw [w_get, if_neg (by omega), w_get, if_neg (by omega)]; exact ur 5]
    refine yl_sd 3253 hG.1.2 (by omega) (by omega) (yl_z1 ?_)
    refine yl_sd 3 hI.2.2.2 (by omega) (by omega) (yl_z1 (yl_ok ⟨rfl, fun i hi => ?_, ?_, ?_, ?_, ?_, ?_⟩))
    · rw [w_get, if_neg (by omega), w_get, if_neg (by omega), w_get, if_neg (by omega), w_get, if_neg (by omega)]; exact hb i (by omega)
    · rw [w_get, if_neg (by omega), w_get, if_neg (by omega), w_get, if_neg (by omega), w_get, if_pos ⟨rfl, by omega⟩]
    · rw [w_get, if_neg (by omega), w_get, if_neg (by omega), w_get, if_pos ⟨rfl, by omega⟩]
    · rw [w_get, if_neg (by omega), w_get, if_pos ⟨rfl, by omega⟩]
    · rw [w_get, if_pos ⟨rfl, rfl⟩]
    · exact fr_w (fr_w (fr_w (fr_w (fr_mono hr fun o i q => by omega) (by omega)) (by omega)) (by omega)) (by omega)
  | succ m ih =>
    intro j f u hj hf hb hr
    obtain ⟨f, rfl⟩ : ∃ k, f = k + 1 := ⟨f - 1, by omega⟩
    rw [lo_X12_image_29, show (400 : Int32) = nI 400 from rfl, pu_le (by omega) (by omega), if_neg (by omega), hG.1.1, hG.2.1, show nI B + 292 = nI (B + 292) from nI_add B 292, nI_add]
    refine yl_ld 400 hG.2.2 (by omega) (by omega) (yl_sd 3253 hG.1.2 (by omega) (by omega) (yl_let ?_))
    rw [nI_1, hr 73 j (by omega)]
    refine ih (j + 1) f _ (by omega) (by omega) (fun i hi => ?_) (fr_w hr (by omega))
    rw [w_get]
    by_cases c : i = j
    · rw [if_pos ⟨rfl, by omega⟩, c]
    · rw [if_neg (by omega)]; exact hb i (by omega)
theorem pr_image {G : tc_G} (hG : gm G) (hI : gI G) {k : Nat} {u : tc_S} {g : mp} (hk : k < 3) (hM : isM u 0 g) (hin : ∀ w, fn_X12_isIn G (nI k) 0 2 w = some (1, w)) : y2 (fn_X12_image G 71 (nI k) u) (fun r w => r = 1 ∧ isM w (1168 + 695 * k) g ∧ (∀ i, i < 400 → w.1 72 (1460 + 695 * k + i) = u.1 73 i) ∧ w.1 72 (1860 + 695 * k) = u.1 71 3 ∧ w.1 72 (1861 + 695 * k) = u.1 71 4 ∧ w.1 72 (1862 + 695 * k) = u.1 71 5 ∧ w.1 74 k = 1 ∧ fr (fun o i => (o = 72 ∧ 1168 + 695 * k ≤ i ∧ i < 1863 + 695 * k) ∨ (o = 74 ∧ i = k)) u w) := by
  have hfu := tc_fu_big
  unfold fn_X12_image
  refine yl_e (hin u) (yl_n i_n1 ?_)
  rw [show (695 : Int32) * nI k = nI (695 * k) from pk_mul 695 k, show (1168 : Int32) + nI (695 * k) = nI (1168 + 695 * k) from nI_add 1168 _]
  refine yl_let ?_
  have c1 : fn_X12_copies G 71 0 (nI (1168 + 695 * k)) u = some (0, uM u (1168 + 695 * k) g) := pm_copies hG (F := 0) (T := 1168 + 695 * k) (by omega) (by omega) (by omega) hM
  refine yl_e c1 ?_
  have f1 : fr (fun o i => o = 72 ∧ 1168 + 695 * k ≤ i ∧ i < 1460 + 695 * k) u (uM u (1168 + 695 * k) g) := fr_uM fr_refl fun i q1 q2 => ⟨rfl, q1, by omega⟩
  have m1 : isM (uM u (1168 + 695 * k) g) (1168 + 695 * k) g := uM_isM
  generalize uM u (1168 + 695 * k) g = v at f1 m1 ⊢
  refine yl_m (pr_image29 hG hI (u0 := v) hk rfl 400 0 tc_fu v (by omega) (by omega) (fun i hi => by omega) fr_refl) fun q hq => ?_
  obtain ⟨q1, q2, q3, q4, q5, q6, q7⟩ := hq
  refine ⟨q1, isM_fr m1 q7 fun i hi => by omega, fun i hi => ?_, ?_, ?_, ?_, q6, fr_trans (fr_mono f1 fun o i z => by omega) (fr_mono q7 fun o i z => by omega)⟩
  · rw [← f1 73 i (by omega), ← q2 i hi, show 1168 + 695 * k + 292 + i = 1460 + 695 * k + i by omega]
  · rw [← f1 71 3 (by omega), ← q3, show 1168 + 695 * k + 692 = 1860 + 695 * k by omega]
  · rw [← f1 71 4 (by omega), ← q4, show 1168 + 695 * k + 693 = 1861 + 695 * k by omega]
  · rw [← f1 71 5 (by omega), ← q5, show 1168 + 695 * k + 694 = 1862 + 695 * k by omega]
theorem pr_again38 {G : tc_G} (hG : gm G) {B : Nat} {u0 : tc_S} (hB : B + 695 ≤ 3253) (hB1 : 1168 ≤ B) : ∀ (m j f : Nat) (u : tc_S), j + m = 400 → m < f → (∀ i, i < j → u.1 73 i = u0.1 72 (B + 292 + i)) → fr (fun o _ => o = 73) u0 u → y2 (lo_X12_again_38 G f 71 (nI B) (nI j) u) (fun r w => r = 1 ∧ (∀ i, i < 400 → w.1 73 i = u0.1 72 (B + 292 + i)) ∧ w.1 71 3 = u0.1 72 (B + 692) ∧ w.1 71 4 = u0.1 72 (B + 693) ∧ w.1 71 5 = u0.1 72 (B + 694) ∧ fr (fun o i => o = 73 ∨ (o = 71 ∧ 3 ≤ i ∧ i ≤ 5)) u0 w) := by
  intro m
  induction m with
  | zero =>
    intro j f u hj hf hb hr
    obtain ⟨f, rfl⟩ : ∃ k, f = k + 1 := ⟨f - 1, by omega⟩
    have ur : ∀ i, u.1 72 i = u0.1 72 i := fun i => hr _ _ (by omega)
    rw [lo_X12_again_38, show (400 : Int32) = nI 400 from rfl, pu_le (by omega) (by omega), if_pos (by omega), hG.1.1, show nI B + 292 = nI (B + 292) from nI_add B 292, nI_add, show nI (B + 292 + 400) + 2 = nI (B + 692 + 2) from nI_add _ 2, nI_1]
    refine yl_ld 3253 hG.1.2 (by omega) (by omega) (yl_let ?_)
    refine yl_ld 3253 hG.1.2 (by omega) (by omega) (yl_let ?_)
    refine yl_ld 3253 hG.1.2 (by omega) (by omega) (yl_let (yl_z1 (yl_ok ⟨rfl, fun i hi => ?_, ?_, ?_, ?_, ?_⟩)))
    · rw [w_get, if_neg (by omega), w_get, if_neg (by omega), w_get, if_neg (by omega)]; exact hb i (by omega)
    · rw [w_get, if_neg (by omega), w_get, if_neg (by omega), w_get, if_pos ⟨rfl, rfl⟩]; exact ur _
    · rw [w_get, if_neg (by omega), w_get, if_pos ⟨rfl, rfl⟩, w_get, if_neg (by omega)]; exact ur _
    · rw [w_get, if_pos ⟨rfl, rfl⟩, w_get, if_neg (by omega), w_get, if_neg (by omega)]; exact ur _
    · exact fr_w (fr_w (fr_w (fr_mono hr fun o i q => Or.inl q) (by omega)) (by omega)) (by omega)
  | succ m ih =>
    intro j f u hj hf hb hr
    obtain ⟨f, rfl⟩ : ∃ k, f = k + 1 := ⟨f - 1, by omega⟩
    rw [lo_X12_again_38, show (400 : Int32) = nI 400 from rfl, pu_le (by omega) (by omega), if_neg (by omega), hG.1.1, hG.2.1, show nI B + 292 = nI (B + 292) from nI_add B 292, nI_add]
    refine yl_ld 3253 hG.1.2 (by omega) (by omega) (yl_sd 400 hG.2.2 (by omega) (by omega) (yl_let ?_))
    rw [nI_1, hr 72 _ (by omega)]
    refine ih (j + 1) f _ (by omega) (by omega) (fun i hi => ?_) (fr_w hr (by omega))
    rw [w_get]
    by_cases c : i = j
    · rw [if_pos ⟨rfl, c⟩, c]
    · rw [if_neg (by omega)]; exact hb i (by omega)
theorem pr_again {G : tc_G} (hG : gm G) (hI : gI G) {k : Nat} {u : tc_S} {g : mp} (hk : k < 3) (hM : isM u (1168 + 695 * k) g) (h74 : ¬ u.1 74 k = 0) (hin : ∀ w, fn_X12_isIn G (nI k) 0 2 w = some (1, w)) : y2 (fn_X12_again G 71 (nI k) u) (fun r w => r = 1 ∧ isM w 0 g ∧ (∀ i, i < 400 → w.1 73 i = u.1 72 (1460 + 695 * k + i)) ∧ w.1 71 3 = u.1 72 (1860 + 695 * k) ∧ w.1 71 4 = u.1 72 (1861 + 695 * k) ∧ w.1 71 5 = u.1 72 (1862 + 695 * k) ∧ fr (fun o i => (o = 72 ∧ i < 292) ∨ o = 73 ∨ (o = 71 ∧ 3 ≤ i ∧ i ≤ 5)) u w) := by
  have hfu := tc_fu_big
  unfold fn_X12_again
  refine yl_e (hin u) (yl_n i_n1 ?_)
  rw [hI.2.2.1]
  refine yl_ld 3 hI.2.2.2 (by omega) (by omega) (yl_n h74 ?_)
  rw [show (695 : Int32) * nI k = nI (695 * k) from pk_mul 695 k, show (1168 : Int32) + nI (695 * k) = nI (1168 + 695 * k) from nI_add 1168 _]
  refine yl_let ?_
  have c1 : fn_X12_copies G 71 (nI (1168 + 695 * k)) 0 u = some (0, uM u 0 g) := pm_copies hG (F := 1168 + 695 * k) (T := 0) (by omega) (by omega) (by omega) hM
  refine yl_e c1 ?_
  have f1 : fr (fun o i => o = 72 ∧ i < 292) u (uM u 0 g) := fr_uM fr_refl fun i q1 q2 => ⟨rfl, by omega⟩
  have m1 : isM (uM u 0 g) 0 g := uM_isM
  generalize uM u 0 g = v at f1 m1 ⊢
  refine yl_m (pr_again38 hG (B := 1168 + 695 * k) (u0 := v) (by omega) (by omega) 400 0 tc_fu v (by omega) (by omega) (fun i hi => by omega) fr_refl) fun q hq => ?_
  obtain ⟨q1, q2, q3, q4, q5, q7⟩ := hq
  refine ⟨q1, isM_fr m1 q7 fun i hi => by omega, fun i hi => ?_, ?_, ?_, ?_, fr_trans (fr_mono f1 fun o i z => Or.inl z) (fr_mono q7 fun o i z => Or.inr z)⟩
  · rw [q2 i hi, f1 _ _ (by omega), show 1168 + 695 * k + 292 + i = 1460 + 695 * k + i by omega]
  · rw [q3, f1 _ _ (by omega), show 1168 + 695 * k + 692 = 1860 + 695 * k by omega]
  · rw [q4, f1 _ _ (by omega), show 1168 + 695 * k + 693 = 1861 + 695 * k by omega]
  · rw [q5, f1 _ _ (by omega), show 1168 + 695 * k + 694 = 1862 + 695 * k by omega]
