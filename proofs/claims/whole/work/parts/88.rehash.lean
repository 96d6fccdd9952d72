/-! hashes told by hand -/
def mrhb (g : mp) (a b c d : Int32) : Bool × mp := mrh1 g (fun x => (false, x)) (mall (mes g) (mclr (mhs g a b c d)))
theorem mes_adm {g h : mp} (hg : mwf g) (h12 : mn h 12 = mn g 12) : adm (mclr h) (mes g) := by
  have m12 : mn (mclr h) 12 = mn g 12 := by
    rw [← h12]
    unfold mn
    rw [mclr_k (by omega) (by omega)]
  have hF := hg.1.2.2.2.2.1
  have hG := hg.1.2.2.2.2.2.2.2
  refine ⟨?_, ?_⟩
  · intro e he
    obtain ⟨i, hi, rfl⟩ := List.mem_map.mp he
    have := (mcl_mem hg).mp hi
    exact ⟨this.2, by rw [m12]; exact mwf_c1 hg (by omega), fun j hj q => absurd (ck_mclr (by omega)) q⟩
  · unfold mes
    rw [List.pairwise_map]
    refine List.Pairwise.imp_of_mem ?_ (mcl_pw hg)
    intro x y hx hy hxy
    have hx := (mcl_mem hg).mp hx
    have hy := (mcl_mem hg).mp hy
    exact ⟨hF x y (by omega) (by omega) (by omega) hx.2, hG x y (by omega) (by omega) (by omega) hx.2 hy.2⟩
theorem mhs_k {g : mp} {a b c d : Int32} {k : Nat} (h : k < 7 ∨ 11 ≤ k) : mhs g a b c d k = g k := by
  unfold mhs
  rw [upd_ne (by omega), upd_ne (by omega), upd_ne (by omega), upd_ne (by omega)]
theorem wA_mhs {g : mp} {a b c d : Nat} (w : wA g) (ha : a ≤ 1008) (hb : b ≤ 1008) (hc : c ≤ 1008) (hd : d ≤ 1008) : wA (mhs g (nI a) (nI b) (nI c) (nI d)) := by
  obtain ⟨a1, a2, a3, a4, a5, a6, a7, a8, a9⟩ := w
  have q : ∀ j, j < 7 → mn (mhs g (nI a) (nI b) (nI c) (nI d)) j = mn g j := fun j h1 => by unfold mn; rw [mhs_k (by omega)]
  have v : ∀ j, 7 ≤ j → j < 11 → ∃ x, x ≤ 1008 ∧ mhs g (nI a) (nI b) (nI c) (nI d) j = nI x := by
    intro j h1 h2
    rcases (show j = 7 ∨ j = 8 ∨ j = 9 ∨ j = 10 by omega) with rfl | rfl | rfl | rfl
    · exact ⟨a, ha, by unfold mhs; rw [upd_ne (by omega), upd_ne (by omega), upd_ne (by omega), upd_eq]⟩
    · exact ⟨b, hb, by unfold mhs; rw [upd_ne (by omega), upd_ne (by omega), upd_eq]⟩
    · exact ⟨c, hc, by unfold mhs; rw [upd_ne (by omega), upd_eq]⟩
    · exact ⟨d, hd, by unfold mhs; rw [upd_eq]⟩
  have vv : ∀ j, 7 ≤ j → j < 11 → mhs g (nI a) (nI b) (nI c) (nI d) j = nI (mn (mhs g (nI a) (nI b) (nI c) (nI d)) j) ∧ mn (mhs g (nI a) (nI b) (nI c) (nI d)) j ≤ 1008 := by
    intro j h1 h2
    obtain ⟨x, x1, x2⟩ := v j h1 h2
    have e : mn (mhs g (nI a) (nI b) (nI c) (nI d)) j = x := by
      unfold mn
      rw [x2, nI_clamp (by omega)]
    rw [e, x2]
    exact ⟨rfl, x1⟩
  refine ⟨fun j hj => ?_, ?_, ?_, ?_, ?_, ?_, ?_, ?_, fun j h1 hj => (vv j h1 hj).2⟩
  · by_cases e : j < 7
    · rw [q j e, mhs_k (by omega)]; exact a1 j hj
    · exact (vv j (by omega) hj).1
  all_goals rw [q _ (by omega)]; assumption
theorem mrhb_ok {P : Nat} {g : mp} {a b c d : Nat} (h : mre P g) (ha : a ≤ 1008) (hb : b ≤ 1008) (hc : c ≤ 1008) (hd : d ≤ 1008) : mre P (mrhb g (nI a) (nI b) (nI c) (nI d)).2 := by
  obtain ⟨hg, h0, hp⟩ := h
  have e12 : mhs g (nI a) (nI b) (nI c) (nI d) 12 = g 12 := mhs_k (by omega)
  have m12 : mn (mhs g (nI a) (nI b) (nI c) (nI d)) 12 = mn g 12 := by unfold mn; rw [e12]
  have hcl := mwf_mclr (wA_mhs hg.1.1 ha hb hc hd) (by rw [e12, m12]; exact hg.1.2.2.2.2.2.1)
  have z := mall_ok (mes g) _ hcl (mes_adm hg m12)
  unfold mrhb
  cases hm : mall (mes g) (mclr (mhs g (nI a) (nI b) (nI c) (nI d))) with
  | mk t x =>
    rw [hm] at z
    cases t with
    | true =>
      rw [mrh1]
      have z2 := z.2 (ck_mclr (by omega)) rfl
      refine ⟨mwf_upd z2.1 (by omega) (by omega) (by omega) (by omega), by rw [ck_upd (by omega)]; exact z2.2, ?_⟩
      show mn (upd x 14 (x 14 + 1)) 12 = P
      rw [mn_upd (by omega), ← hp, ← m12]
      unfold mn
      rw [show x 12 = _ from z.1 12 (by omega) (by omega) (by omega) (by omega), mclr_k (by omega) (by omega)]
    | false =>
      rw [mrh1]
      show mre P (mback x g)
      exact ⟨mwf_seed hg, by unfold mback; rw [ck_upd (by omega)]; exact h0, by unfold mback; rw [mn_upd (by omega)]; exact hp⟩
theorem mt_rehashBy {G : tc_G} (hK : gK G) (hV : gV G) (hE : gE G) {u : tc_S} {t P : Nat} {g : mp} {a b c d : Nat} (hT : gT G t 64) (hB : gT G 39 64) (ht : okt t) (hg : mre P g) (h : mt u t g) (hb2 : tR u 39 64) (ha : a ≤ 1008) (hb : b ≤ 1008) (hc : c ≤ 1008) (hd : d ≤ 1008) : y2 (fn_X3_rehashBy G 38 t (nI a) (nI b) (nI c) (nI d) u) (fun r w => r = (if (mrhb g (nI a) (nI b) (nI c) (nI d)).1 then 1 else 0) ∧ mt w t (mrhb g (nI a) (nI b) (nI c) (nI d)).2 ∧ fr (fE t) u w) := by
  have hw := hg.1
  have e12 : mhs g (nI a) (nI b) (nI c) (nI d) 12 = g 12 := mhs_k (by omega)
  have m12 : mn (mhs g (nI a) (nI b) (nI c) (nI d)) 12 = mn g 12 := by unfold mn; rw [e12]
  have ecl : cl g 69 0 = mes g := by rw [cl_mesh hw, if_pos hg.2.1, List.append_nil]
  unfold fn_X3_rehashBy mrhb
  rw [hE.2.2.1]
  refine yl_b (mt_copyB hT hB ht hw h hb2) fun _ w1 h1 => ?_
  rw [hT.1.1]
  refine yl_b (pc_takeHashes h1.1.1) fun _ w2 h2 => ?_
  have b2 : mt w2 39 g := mt_fr h1.2.1 h2.2 fun o k q1 q2 => by unfold fT; unfold okt at ht; omega
  have z := mt_layAnew hK hV hE hT hB ht hw (wA_mhs hw.1.1 ha hb hc hd) (by rw [e12, m12]; exact hw.1.2.2.2.2.2.1) h2.1 b2 (by rw [ecl]; exact mes_adm hw m12)
  rw [ecl] at z
  have f12 : fr (fE t) u w2 := fr_trans (fr_mono h1.2.2 fun _ _ q => Or.inr q) (fT_E h2.2)
  refine yl_b z fun r w3 hw3 => ?_
  obtain ⟨x1, x2, x3, x4⟩ := hw3
  have f3 := fr_trans f12 (fV_E x4)
  cases hm : mall (mes g) (mclr (mhs g (nI a) (nI b) (nI c) (nI d))) with
  | mk t2 y =>
    rw [hm] at x1 x2
    cases t2 with
    | true =>
      rw [mrh1, x1]
      refine yl_n i_n1 ?_
      have e : w3.1 t 13 = y 14 := x2.1.2.2.2.1 14 (by omega) (by omega)
      rw [e]
      exact yl_let (yl_z1 (yl_ok ⟨rfl, mt_upd x2 (by omega) (by omega) t 13 (Or.inr (Or.inl ⟨by omega, by omega, rfl, rfl⟩)) rfl, fr_w f3 (Or.inl (Or.inl ⟨by omega, by omega, by omega⟩))⟩))
    | false =>
      rw [mrh1, x1]
      refine yl_p rfl ?_
      refine yl_b (mt_back hT hB ht hw x2 x3) fun _ w4 hw4 => ?_
      exact yl_z0 (yl_ok ⟨rfl, hw4.1, fr_trans f3 (fT_E hw4.2.2)⟩)
theorem pm_rehashB {G : tc_G} (hG : gm G) (h2 : gm2 G) (h3 : gm3 G) (h4 : gm4 G) {u : tc_S} {P : Nat} {g : mp} {a b c d : Nat} (hM : isM u 0 g) (hg : mre P g) (ha : a ≤ 1008) (hb : b ≤ 1008) (hc : c ≤ 1008) (hd : d ≤ 1008) : y2 (tc_b (fn_X12_copies G 71 0 584 u) fun x19 u20 => tc_b (fn_X12_lists G 71 0 u20) fun x22 u23 => tc_sd G u23 (tc_p G 71 0) 7 (nI a) fun u25 => tc_sd G u25 (tc_p G 71 0) 8 (nI b) fun u26 => tc_sd G u26 (tc_p G 71 0) 9 (nI c) fun u27 => tc_sd G u27 (tc_p G 71 0) 10 (nI d) fun u28 => tc_b (fn_X12_empties G 71 0 u28) fun x29 u30 => tc_b (fn_X12_doAllCome G 71 0 0 u30) fun x32 u33 => if x32 = 0 then (tc_b (fn_X12_comesBack G 71 584 0 u33) fun x36 u37 => bl_X12_rehash_133 G x32 u37) else (tc_ld G u33 (tc_p G 71 0) 14 fun x39 => tc_sd G u33 (tc_p G 71 0) 14 (x39 + 1) fun u40 => bl_X12_rehash_133 G x32 u40)) (fun r w => r = (if (mrhb g (nI a) (nI b) (nI c) (nI d)).1 then 1 else 0) ∧ isM w 0 (mrhb g (nI a) (nI b) (nI c) (nI d)).2 ∧ fr (fP 0) u w) := by
  have hfu := tc_fu_big
  have hw := hg.1
  have e12 : mhs g (nI a) (nI b) (nI c) (nI d) 12 = g 12 := mhs_k (by omega)
  have m12 : mn (mhs g (nI a) (nI b) (nI c) (nI d)) 12 = mn g 12 := by unfold mn; rw [e12]
  have hcl := mwf_mclr (wA_mhs hw.1.1 ha hb hc hd) (by rw [e12, m12]; exact hw.1.2.2.2.2.2.1)
  unfold mrhb
  rw [show (0 : Int32) = nI 0 from rfl, show (584 : Int32) = nI 584 from rfl]
  refine yl_e (pm_copies hG (F := 0) (T := 584) (by omega) (by omega) (by omega) hM) ?_
  have f1 : fr (fP 0) u (uM u 584 g) := fr_uM fr_refl fun k h1 h2 => Or.inl ⟨rfl, Or.inr ⟨h1, by omega⟩⟩
  have i1 : isM (uM u 584 g) 0 g := fun k hk => (uM_out (by omega)).trans (hM k hk)
  have i2 : isM (uM u 584 g) 584 g := uM_isM
  generalize uM u 584 g = w at f1 i1 i2 ⊢
  refine yl_b (pm_lists hG h4 (B := 0) (by omega) i1 hw) fun _ x hx => ?_
  have j1 := isM_L i1 hx.2
  have j2 := isM_L i2 hx.2
  have f2 : fr (fP 0) u x := fr_trans f1 (fL_P hx.2)
  rw [hG.1.1]
  refine yl_sd (j := 0 + 7) 3253 hG.1.2 (by omega) (by omega) ?_
  refine yl_sd (j := 0 + 8) 3253 hG.1.2 (by omega) (by omega) ?_
  refine yl_sd (j := 0 + 9) 3253 hG.1.2 (by omega) (by omega) ?_
  refine yl_sd (j := 0 + 10) 3253 hG.1.2 (by omega) (by omega) ?_
  have k1 : isM (tc_w (tc_w (tc_w (tc_w x 72 (0 + 7) (nI a)) 72 (0 + 8) (nI b)) 72 (0 + 9) (nI c)) 72 (0 + 10) (nI d)) 0 (mhs g (nI a) (nI b) (nI c) (nI d)) := isM_upd (isM_upd (isM_upd (isM_upd j1 (by omega) rfl) (by omega) rfl) (by omega) rfl) (by omega) rfl
  have k2 : fr (fD 0) x (tc_w (tc_w (tc_w (tc_w x 72 (0 + 7) (nI a)) 72 (0 + 8) (nI b)) 72 (0 + 9) (nI c)) 72 (0 + 10) (nI d)) := fr_w (fr_w (fr_w (fr_w fr_refl (Or.inl ⟨rfl, by omega, by omega⟩)) (Or.inl ⟨rfl, by omega, by omega⟩)) (Or.inl ⟨rfl, by omega, by omega⟩)) (Or.inl ⟨rfl, by omega, by omega⟩)
  generalize tc_w (tc_w (tc_w (tc_w x 72 (0 + 7) (nI a)) 72 (0 + 8) (nI b)) 72 (0 + 9) (nI c)) 72 (0 + 10) (nI d) = y at k1 k2 ⊢
  refine yl_e (pm_empties hG (B := 0) (by omega) k1) ?_
  have f3 : fr (fD 0) x (uM y 0 (mempt (mhs g (nI a) (nI b) (nI c) (nI d)))) := fr_trans k2 fr_uM'
  have l1 : isM (uM y 0 (mempt (mhs g (nI a) (nI b) (nI c) (nI d)))) 0 (mclr (mhs g (nI a) (nI b) (nI c) (nI d))) := isM_mclr uM_isM
  generalize uM y 0 (mempt (mhs g (nI a) (nI b) (nI c) (nI d))) = v at f3 l1 ⊢
  have hlen := mes_len hw
  have z := pm_doAll hG h2 h3 h4 (B := 0) (by omega) (show (mes g).length ≤ 72 by omega) (mes g).length 0 tc_fu v (mclr (mhs g (nI a) (nI b) (nI c) (nI d))) (by omega) (by omega) l1 hcl (mes_adm hw m12) (ls_C hx.1 (fD_C f3))
  rw [List.drop_zero] at z
  unfold fn_X12_doAllCome
  refine yl_b z fun r w2 hx2 => ?_
  obtain ⟨x1, x2, x3⟩ := hx2
  have f4 : fr (fC 0) x w2 := fr_trans (fD_C f3) x3
  have f5 := fr_trans f2 (fC_P f4)
  unfold bl_X12_rehash_133
  cases hm : mall (mes g) (mclr (mhs g (nI a) (nI b) (nI c) (nI d))) with
  | mk t2 q =>
    rw [hm] at x1 x2
    cases t2 with
    | true =>
      rw [mrh1, x1]
      refine yl_n i_n1 ?_
      rw [show (14 : Int32) = nI (0 + 14) from rfl, isM_ld hG x2 (by omega) (by omega)]
      refine yl_sd 3253 hG.1.2 (by omega) (by omega) (yl_z1 (yl_ok ⟨rfl, isM_upd x2 (by omega) rfl, ?_⟩))
      exact fr_w f5 (Or.inl ⟨rfl, Or.inl ⟨by omega, by omega⟩⟩)
    | false =>
      rw [mrh1, x1]
      refine yl_p rfl ?_
      have hW2 : isM w2 584 g := isM_fr j2 f4 fun k hk => by unfold fC; omega
      refine yl_e (pm_comesBack hG (F := 584) (T := 0) (by omega) (by omega) (by omega) hW2 x2) ?_
      exact yl_z0 (yl_ok ⟨rfl, uM_isM, fr_trans f5 (fD_P fr_uM')⟩)
