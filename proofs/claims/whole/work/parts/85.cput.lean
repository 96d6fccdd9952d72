/-! the class: its entries in order; all come in anew -/
def cl (g : mp) : Nat → Nat → List en
  | 0, _ => []
  | n + 1, a => (if (fc g a).1 = 0 then [] else [fc g a]) ++ cl g n (a + 1)
theorem cl_app {g : mp} : ∀ (m n a : Nat), cl g (m + n) a = cl g m a ++ cl g n (a + m) := by
  intro m
  induction m with
  | zero => intro n a; rw [cl, Nat.zero_add]; rfl
  | succ m ih =>
    intro n a
    rw [show m + 1 + n = (m + n) + 1 by omega, cl, cl, ih, List.append_assoc, show a + 1 + m = a + (m + 1) by omega]
theorem cl_empty {g : mp} : ∀ (n a : Nat), (∀ i, a ≤ i → i < a + n → (fc g i).1 = 0) → cl g n a = [] := by
  intro n
  induction n with
  | zero => intro a _; rfl
  | succ n ih =>
    intro a h
    rw [cl, if_pos (h a (by omega) (by omega)), ih _ fun i h1 h2 => h i (by omega) (by omega)]
    rfl
theorem cl_il {g : mp} (hg : mwf g) {b : Nat} (hb : b < mn g 0) : ∀ (n p : Nat), p + n = mn g 1 → cl g n (b * mn g 1 + p) = (il g b n p).map (gc g) := by
  have a := hg.1.1
  have hn := a.2.1.2
  have hs := a.2.2.1.2
  intro n
  induction n with
  | zero => intro p _; rfl
  | succ n ih =>
    intro p hp
    rw [cl, il, List.map_append, ← ih (p + 1) (by omega), fc_b hb (by omega), ← map_if, show b * mn g 1 + p + 1 = b * mn g 1 + (p + 1) by omega]
    congr 1
    have := gc_e0 hg (i := 4 * b + p) (by omega)
    by_cases c : ck g (4 * b + p) = 0
    · rw [if_pos (this.mp c), if_pos c]
    · rw [if_neg (fun q => c (this.mpr q)), if_neg c]
theorem cl_ol {g : mp} (hg : mwf g) : ∀ (n b : Nat), b + n = mn g 0 → cl g (n * mn g 1) (b * mn g 1) = (ol g n b).map (gc g) := by
  intro n
  induction n with
  | zero => intro b _; rw [Nat.zero_mul]; rfl
  | succ n ih =>
    intro b hb
    rw [Nat.add_mul, Nat.one_mul, Nat.add_comm, cl_app, ol, List.map_append, ← ih (b + 1) (by omega)]
    have z := cl_il hg (b := b) (by omega) (mn g 1) 0 (by omega)
    rw [Nat.add_zero] at z
    rw [z, Nat.add_mul, Nat.one_mul]
theorem cl_sl {g : mp} (hg : mwf g) : ∀ (n j : Nat), j + n ≤ 4 → cl g n (64 + j) = (sl g n j).map (gc g) := by
  intro n
  induction n with
  | zero => intro j _; rfl
  | succ n ih =>
    intro j hj
    rw [cl, sl, List.map_append, ← ih (j + 1) (by omega), fc_s hg.1.1 (by omega), ← map_if, show 64 + j + 1 = 64 + (j + 1) by omega]
    congr 1
    have := gc_e0 hg (i := 64 + j) (by omega)
    by_cases c : ck g (64 + j) = 0
    · rw [if_pos (this.mp c), if_pos c]
    · rw [if_neg (fun q => c (this.mpr q)), if_neg c]
/-- the class's order is the reference's -/
theorem cl_mes {g : mp} (hg : mwf g) : cl g 68 0 = mes g := by
  have a := hg.1.1
  have h64 := nbns a
  have h4 : mn g 18 ≤ 4 := Nat.le_trans hg.1.2.1.2 a.2.2.2.1
  have e : (68 : Nat) = mn g 0 * mn g 1 + ((64 - mn g 0 * mn g 1) + (mn g 18 + (4 - mn g 18))) := by omega
  rw [e, cl_app, cl_app, cl_app, Nat.zero_add]
  have z1 := cl_ol hg (mn g 0) 0 (by omega)
  rw [Nat.zero_mul] at z1
  have z2 : cl g (64 - mn g 0 * mn g 1) (mn g 0 * mn g 1) = [] := cl_empty _ _ fun i h1 h2 => by
    unfold fc
    rw [if_neg (by omega), if_pos (by omega)]
    rfl
  have z3 := cl_sl hg (mn g 18) 0 (by omega)
  rw [Nat.add_zero] at z3
  have z4 : cl g (4 - mn g 18) (64 + mn g 18) = [] := cl_empty _ _ fun i h1 h2 => by
    rw [fc_s a (by omega), ← gc_e0 hg (by omega)]
    have := hg.2 (i - 64) (by omega)
    rw [show 64 + (i - 64) = i by omega] at this
    omega
  rw [z1, z2, show mn g 0 * mn g 1 + (64 - mn g 0 * mn g 1) = 64 by omega, z3, z4, List.append_nil, List.nil_append]
  unfold mes mcl
  rw [List.map_append]
theorem cl_mesh {g : mp} (hg : mwf g) : cl g 69 0 = mes g ++ (if ck g 68 = 0 then [] else [gc g 68]) := by
  rw [show (69 : Nat) = 68 + 1 from rfl, cl_app, cl_mes hg, Nat.zero_add, cl, cl, List.append_nil, fc_s hg.1.1 (by omega)]
  congr 1
  have := gc_e0 hg (i := 68) (by omega)
  by_cases c : ck g 68 = 0
  · rw [if_pos (this.mp c), if_pos c]
  · rw [if_neg (fun q => c (this.mpr q)), if_neg c]
def gE (G : tc_G) : Prop := tc_p G 38 0 = 30 ∧ tc_p G 38 1 = 32 ∧ tc_p G 38 2 = 39 ∧ tc_p G 38 3 = 49
def fE (t : Nat) (o k : Nat) : Prop := fV t o k ∨ fT 39 o k
theorem fV_E {t : Nat} {u v : tc_S} (h : fr (fV t) u v) : fr (fE t) u v := fr_mono h fun _ _ q => Or.inl q
theorem fT_E {t : Nat} {u v : tc_S} (h : fr (fT t) u v) : fr (fE t) u v := fV_E (fT_V h)
/-- a table that isn't the one that is kept -/
def okt (t : Nat) : Prop := t + 10 ≤ 24 ∨ 49 ≤ t
theorem mt_takeOver {G : tc_G} (hE : gE G) {u : tc_S} {t i q : Nat} {g g0 : mp} (hT : gT G t 64) (hB : gT G 39 64) (a : wA g) (h : mt u t g) (h0 : mt u 39 g0) (hi : i ≤ 68) (he : (fc g0 i).1 = nI (q + 1)) (hq : q ≤ 999) : y2 (fn_X3_takeOver G 38 t (nI i) u) (fun _ w => mt w t (cs g 68 (fc g0 i)) ∧ fr (fT t) u w) := by
  unfold fn_X3_takeOver
  rw [hE.2.2.1, hB.2.1.1, hB.2.1.2.1, hB.2.1.2.2.1, hB.2.1.2.2.2.1]
  obtain ⟨e4, e5, e6, e7, e8, e9⟩ := pl_ent (h0.2.1 i (by omega)) he hq
  refine yl_ld 69 (hB.2.2.2 _ (by omega) (by omega)) (by omega) (by omega) ?_
  refine yl_ld 69 (hB.2.2.2 _ (by omega) (by omega)) (by omega) (by omega) ?_
  refine yl_ld 69 (hB.2.2.2 _ (by omega) (by omega)) (by omega) (by omega) ?_
  refine yl_ld 69 (hB.2.2.2 _ (by omega) (by omega)) (by omega) (by omega) ?_
  rw [e4, e5, e6, e7]
  refine yl_b (mt_hand hT a h hq) fun _ w hw => ?_
  refine yl_ok ⟨?_, hw.2⟩
  rw [← he] at hw
  exact hw.1
theorem mt_lay6 {G : tc_G} (hK : gK G) (hV : gV G) (hE : gE G) {t : Nat} {g0 : mp} {u0 : tc_S} (hT : gT G t 64) (hB : gT G 39 64) (ht : okt t) (hg0 : mwf g0) : ∀ (n i f : Nat) (g : mp) (u : tc_S), i + n = 69 → n < f → mwf g → adm g (cl g0 n i) → mt u t g → mt u 39 g0 → fr (fV t) u0 u → y2 (lo_X3_layAnew_6 G f 38 t (nI i) u) (fun r w => r = (if (mall (cl g0 n i) g).1 then 1 else 0) ∧ mt w t (mall (cl g0 n i) g).2 ∧ mt w 39 g0 ∧ fr (fV t) u0 w) := by
  have htt : t + 10 ≤ 24 ∨ 32 ≤ t := by unfold okt at ht; omega
  have a0 := hg0.1.1
  intro n
  induction n with
  | zero =>
    intro i f g u hi hf hg ha h h0 hr
    obtain ⟨f, rfl⟩ : ∃ k, f = k + 1 := ⟨f - 1, by omega⟩
    rw [lo_X3_layAnew_6, hE.2.2.1, (mt_room h0).2, pu_lt (by omega) (by omega), if_pos (by omega), cl, mall_n]
    exact yl_z1 (yl_ok ⟨rfl, h, h0, hr⟩)
  | succ n ih =>
    intro i f g u hi hf hg ha h h0 hr
    obtain ⟨f, rfl⟩ : ∃ k, f = k + 1 := ⟨f - 1, by omega⟩
    rw [cl] at ha
    rw [lo_X3_layAnew_6, hE.2.2.1, (mt_room h0).2, pu_lt (by omega) (by omega), if_neg (by omega), hB.2.1.1, cl]
    refine yl_ld 69 (hB.2.2.2 _ (by omega) (by omega)) (by omega) (by omega) ?_
    have hp := h0.2.1 i (by omega)
    have hem := pl_emp hp
    unfold bl_X3_layAnew_48
    by_cases c : (fc g0 i).1 = 0
    · rw [if_pos c, List.nil_append] at ha
      rw [if_pos c, List.nil_append]
      refine yl_p (hem.2.1.mpr c) (yl_let ?_)
      rw [nI_1]
      exact ih (i + 1) f g u (by omega) (by omega) hg ha h h0 hr
    · rw [if_neg c] at ha
      have ha : adm g (fc g0 i :: cl g0 n (i + 1)) := ha
      rw [if_neg c, List.singleton_append]
      refine yl_n (fun q => c (hem.2.1.mp q)) ?_
      rcases hp with ⟨x1, x2⟩ | ⟨q, q1, q2, q3⟩
      · exact absurd (by rw [x1]; rfl) c
      · refine yl_b (mt_takeOver hE hT hB hg.1.1 h h0 (by omega) q2 (by omega)) fun _ w hw => ?_
        have w0 : mt w 39 g0 := mt_fr h0 hw.2 fun o k h1 h2 => by unfold fT; unfold okt at ht; omega
        have h68 := adm_hand hg ha
        have e68 : ck (cs g 68 (fc g0 i)) 68 ≠ 0 := by
          rw [ck_cs, if_pos rfl]
          exact (ha.1 _ (List.mem_cons_self ..)).1
        have hc := mcome_ok h68 e68
        rw [hE.1]
        refine yl_b (mt_comeIn hK hV hT htt h68 hw.1 e68) fun r v hv => ?_
        obtain ⟨v1, v2, v3⟩ := hv
        have v0 : mt v 39 g0 := mt_fr w0 v3 fun o k h1 h2 => by unfold fV fT; unfold okt at ht; omega
        have fr2 := fr_trans hr (fr_trans (fT_V hw.2) v3)
        rw [mall_c]
        unfold mall1
        rw [v1]
        by_cases hr0 : (mcome (cs g 68 (fc g0 i))).1 = 0
        · rw [if_pos hr0, if_pos hr0]
          exact yl_z0 (yl_ok ⟨rfl, v2, v0, fr2⟩)
        · rw [if_neg hr0, if_neg hr0]
          refine yl_let ?_
          rw [nI_1]
          exact ih (i + 1) f _ v (by omega) (by omega) hc.1 (adm_next ha hc hr0) v2 v0 fr2
theorem fc_c0 {g : mp} (h : ∀ i, i < 69 → gc g i = e0) (a : wA g) : ∀ i, i ≤ 68 → fc g i = e0 := by
  intro i hi
  have hn := a.2.1.2
  have hs := a.2.2.1
  unfold fc
  split
  · rename_i c
    have hd : i / mn g 1 < mn g 0 := by rw [Nat.div_lt_iff_lt_mul hs.1]; exact c
    have hm := Nat.mod_lt i hs.1
    exact h _ (by omega)
  · split
    · rfl
    · exact h i (by omega)
theorem mt_layAnew {G : tc_G} (hK : gK G) (hV : gV G) (hE : gE G) {t : Nat} {g g0 : mp} {u : tc_S} (hT : gT G t 64) (hB : gT G 39 64) (ht : okt t) (hg0 : mwf g0) (a : wA g) (h12 : g 12 = nI (mn g 12) ∧ mn g 12 < 2 ^ 30) (hs : tS u t 64 g) (h0 : mt u 39 g0) (ha : adm (mclr g) (cl g0 69 0)) : y2 (fn_X3_layAnew G 38 t u) (fun r w => r = (if (mall (cl g0 69 0) (mclr g)).1 then 1 else 0) ∧ mt w t (mall (cl g0 69 0) (mclr g)).2 ∧ mt w 39 g0 ∧ fr (fV t) u w) := by
  have hfu := tc_fu_big
  unfold fn_X3_layAnew
  refine yl_b (pc_clear hT (by omega) (wA_wS a) hs) fun _ w hw => ?_
  have m1 : mt w t (mclr g) := by
    have a2 : wA (upd g 18 0) := sA_wA (sA_upd (by omega)) a
    have a3 : wA (mclr g) := (mwf_mclr a h12).1.1
    refine tb_cong hw.1 (fun k hk => ?_) (fun i hi => ?_) (nbns a2)
    · by_cases e : k = 18
      · rw [e, mclr_18, upd_eq]
      · rw [mclr_k (by omega) e, upd_ne e]
    · rw [fc_c0 (fun i hi => gc_mclr hi) a3 i (by omega)]
      rfl
  have m0 : mt w 39 g0 := mt_fr h0 hw.2 fun o k h1 h2 => by unfold fT; unfold okt at ht; omega
  exact mt_lay6 hK hV hE hT hB ht hg0 69 0 tc_fu (mclr g) w (by omega) (by omega) (mwf_mclr a h12) ha m1 m0 (fT_V hw.2)
