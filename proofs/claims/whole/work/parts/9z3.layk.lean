/-! arranged: the class lays a key -/
def gX (G : tc_G) : Prop := tc_p G 54 0 = 30 ∧ tc_p G 54 1 = 55
theorem in_gX : gX (tc_gl in_L4) := ⟨rfl, rfl⟩
/-- what the trial changes -/
def fA (o k : Nat) : Prop := fT 55 o k ∨ (24 ≤ o ∧ o ≤ 29)
theorem fT_A {u w : tc_S} (h : fr (fT 55) u w) : fr fA u w := fr_mono h fun _ _ q => Or.inl q
theorem fK_A {u w : tc_S} (h : fr fK u w) : fr fA u w := fr_mono h fun o k q => Or.inr q
theorem cset_eq {c : Nat → en} {i : Nat} {e : en} : cset c i e i = e := if_pos rfl
theorem cset_ne {c : Nat → en} {i j : Nat} {e : en} (h : ¬ j = i) : cset c i e j = c j := if_neg h
def lcell (ns : Nat) (p : Nat × Nat) : Nat := p.1 * ns + p.2
theorem lcell_div {ns : Nat} {p : Nat × Nat} (h : p.2 < ns) : lcell ns p / ns = p.1 := by
  unfold lcell
  exact (div_iff (by omega)).mpr ⟨by omega, by omega⟩
theorem lcell_lt {nb ns : Nat} {p : Nat × Nat} (h1 : p.1 < nb) (h2 : p.2 < ns) : lcell ns p < nb * ns := by
  unfold lcell
  have : (p.1 + 1) * ns ≤ nb * ns := Nat.mul_le_mul_right _ h1
  rw [Nat.add_mul, Nat.one_mul] at this
  omega
theorem pc_follow35 {G : tc_G} (hK : gK G) (hM : tc_p G 30 0 = 24) (hT : gT G 55 144) {u0 : tc_S} {g : mp} {c : Nat → en} {A : List Nat} {L : ch} {e k : Nat} (hS : wS g) (hns : mn g 0 * mn g 1 ≤ 144) (h32 : L.length ≤ 32) (hc : chk u0 L e (mn g 1)) (hk : k ≤ 999) (hkA : k ∉ A) (hL : ∀ j (h : j < L.length), (L[j]).1 < mn g 0 ∧ (L[j]).2 < mn g 1 ∧ cE c g (L[j]).1 (L[j]).2 = some ((L[j + 1]?.map Prod.fst).getD e)) (hd : ∀ i j (hi : i < L.length) (hj : j < L.length), i < j → (L[i]).1 ≠ (L[j]).1) (hde : ∀ j (hj : j < L.length), (L[j]).1 ≠ e) (hb0 : ∀ h : 0 < L.length, (L[0]).1 = mhash g 0 k ∨ (L[0]).1 = mhash g 1 k) (h0 : 0 < L.length) : ∀ (n fu to : Nat) (cn : Nat → en) (pos : Nat → Nat) (u : tc_S), n ≤ L.length → n < fu → to < mn g 0 * mn g 1 → (cn to).1 = 0 → to / mn g 1 = (L[n]?.map Prod.fst).getD e → (cn 148).1 = nI (k + 1) → (∀ j (h : j < L.length), j < n → cn (lcell (mn g 1) L[j]) = c (lcell (mn g 1) L[j])) → cA g cn A pos → tb u 55 144 g cn → fr (fT 55) u0 u → y2 (lo_X4_follow_35 G fu 30 55 (nI 148) (nI to) (nI n - 1) u) (fun _ w => (∃ g2 c2 pos2, sA g g2 ∧ tb w 55 144 g2 c2 ∧ cA g2 c2 (k :: A) pos2) ∧ fr (fT 55) u0 w) := by
  have hs := hS.2.2.1
  intro n
  induction n with
  | zero =>
    intro fu to cn pos u hn hf hto hct htb hcn hsame hA hu hr
    obtain ⟨fu, rfl⟩ : ∃ k, fu = k + 1 := ⟨fu - 1, by omega⟩
    rw [lo_X4_follow_35, show nI 0 - 1 = (-1 : Int32) from rfl, if_pos (by decide)]
    refine yl_b (pc_move hT (by omega) hS hu hns (i := 148) (j := to) (by omega) (by omega) (by omega) (by rw [hcn]; exact nI_ne0 (by omega) (by omega)) hct (fun z => by omega) (fun _ => hto)) fun _ w hw => ?_
    rw [hM]
    refine yl_let (yl_ok ⟨⟨_, _, pset pos k to, sA_upd (show 11 ≤ 17 by omega), tb_upd hw.1 (show 17 < 19 by omega) (by omega) 55 16 (Or.inr (Or.inl ⟨by omega, by omega, rfl, rfl⟩)) rfl, cA_sA (sA_upd (by omega)) (cA_in hA hk hkA hto (by omega) hct ?_ hcn)⟩, fr_w (fr_trans hr hw.2) ⟨by omega, by omega, by omega⟩⟩)
    rw [htb, List.getElem?_eq_getElem h0]
    exact hb0 h0
  | succ n ih =>
    intro fu to cn pos u hn hf hto hct htb hcn hsame hA hu hr
    obtain ⟨fu, rfl⟩ : ∃ k, fu = k + 1 := ⟨fu - 1, by omega⟩
    have hlt : n < L.length := by omega
    obtain ⟨l1, l2, l3⟩ := hL n hlt
    have hfl := lcell_lt l1 l2
    have hfd := lcell_div (p := L[n]) l2
    have same := hsame n hlt (by omega)
    have hc0 : ¬ (c (lcell (mn g 1) L[n])).1.toNatClampNeg = 0 := by
      intro z
      unfold cE at l3
      rw [show (L[n]).1 * mn g 1 + (L[n]).2 = lcell (mn g 1) L[n] from rfl, if_pos z] at l3
      cases l3
    have hcn0 : ¬ (cn (lcell (mn g 1) L[n])).1 = 0 := fun z => hc0 (by rw [← same, z]; rfl)
    obtain ⟨q, q1, q2⟩ := hA.2.1 _ hfl hcn0
    have hq := hA.1 q q1
    have hcq : (c (lcell (mn g 1) L[n])).1 = nI (q + 1) := by rw [← same, ← q2]; exact hq.2.2.1
    have hto2 : to / mn g 1 = coth g q (L[n]).1 := by
      rw [htb]
      unfold cE at l3
      rw [show (L[n]).1 * mn g 1 + (L[n]).2 = lcell (mn g 1) L[n] from rfl, hcq, nI_clamp (by omega), if_neg (by omega), show q + 1 - 1 = q by omega] at l3
      split at l3
      · cases l3
      · exact (Option.some.inj l3).symm
    have htob : to / mn g 1 = mhash g 0 q ∨ to / mn g 1 = mhash g 1 q := by
      rw [hto2]
      unfold coth
      split
      · exact Or.inr rfl
      · exact Or.inl rfl
    have hne : lcell (mn g 1) L[n] ≠ to := fun z => hcn0 (by rw [z]; exact hct)
    rw [lo_X4_follow_35, nI_pred, if_neg (nI_pos (by omega)), hM, hK.1.1, hT.2.1.2.2.2.1]
    refine yl_ld 32 hK.1.2 (by omega) (by omega) ?_
    have ep : u.1 25 n = nI (lcell (mn g 1) L[n]) := by
      rw [hr _ _ (by unfold fT; omega), hc.2.2 n hlt]
      rfl
    rw [ep]
    refine yl_ld 149 (hT.2.2.2 _ (by omega) (by omega)) (by omega) (by omega) ?_
    refine yl_sd 149 (hT.2.2.2 _ (by omega) (by omega)) (by omega) (by omega) ?_
    have zb := tb_moved (x := u.1 (55 + 7) (lcell (mn g 1) L[n]) + 1) hu hns (i := lcell (mn g 1) L[n]) (q := q) (by omega) (by rw [same]; exact hcq) hq.1
    generalize tc_w u (55 + 7) (lcell (mn g 1) L[n]) (u.1 (55 + 7) (lcell (mn g 1) L[n]) + 1) = u1 at zb ⊢
    generalize u.1 (55 + 7) (lcell (mn g 1) L[n]) + 1 = x at zb
    have zm := pc_move hT (by omega) hS zb.1 hns (i := lcell (mn g 1) L[n]) (j := to) (by omega) (by omega) hne (by rw [cset_eq]; exact hcn0) (by rw [cset_ne (fun z => hne z.symm)]; exact hct) (fun _ => hfl) (fun _ => hto)
    refine yl_b zm fun _ w hw => yl_let ?_
    rw [i_m1]
    rw [cset_eq] at hw
    -- what lies there now
    have cx : ∀ i, cset (cset (cset cn (lcell (mn g 1) L[n]) ((cn (lcell (mn g 1) L[n])).1, (cn (lcell (mn g 1) L[n])).2.1, (cn (lcell (mn g 1) L[n])).2.2.1, x)) to ((cn (lcell (mn g 1) L[n])).1, (cn (lcell (mn g 1) L[n])).2.1, (cn (lcell (mn g 1) L[n])).2.2.1, x)) (lcell (mn g 1) L[n]) e0 i = cset (cset cn to ((cn (lcell (mn g 1) L[n])).1, (cn (lcell (mn g 1) L[n])).2.1, (cn (lcell (mn g 1) L[n])).2.2.1, x)) (lcell (mn g 1) L[n]) e0 i := by
      intro i
      unfold cset
      by_cases d1 : i = lcell (mn g 1) L[n]
      · rw [if_pos d1, if_pos d1]
      · rw [if_neg d1, if_neg d1, if_neg d1]
    rw [show cset (cset (cset cn (lcell (mn g 1) L[n]) ((cn (lcell (mn g 1) L[n])).1, (cn (lcell (mn g 1) L[n])).2.1, (cn (lcell (mn g 1) L[n])).2.2.1, x)) to ((cn (lcell (mn g 1) L[n])).1, (cn (lcell (mn g 1) L[n])).2.1, (cn (lcell (mn g 1) L[n])).2.2.1, x)) (lcell (mn g 1) L[n]) e0 = cset (cset cn to ((cn (lcell (mn g 1) L[n])).1, (cn (lcell (mn g 1) L[n])).2.1, (cn (lcell (mn g 1) L[n])).2.2.1, x)) (lcell (mn g 1) L[n]) e0 from funext cx] at hw
    have hA2 := cA_mv (e := ((cn (lcell (mn g 1) L[n])).1, (cn (lcell (mn g 1) L[n])).2.1, (cn (lcell (mn g 1) L[n])).2.2.1, x)) hA q1 hto hct htob (by rw [q2])
    rw [q2] at hA2
    refine ih fu (lcell (mn g 1) L[n]) _ (pset pos q to) w (by omega) (by omega) hfl ?_ ?_ ?_ (fun j hj hjn => ?_) hA2 hw.1 (fr_trans hr (fr_trans zb.2 hw.2))
    · rw [cset_eq]; rfl
    · rw [hfd, List.getElem?_eq_getElem hlt]; rfl
    · rw [cset_ne (by omega), cset_ne (by omega)]; exact hcn
    · have hj2 := hL j hj
      have n1 : lcell (mn g 1) L[j] ≠ lcell (mn g 1) L[n] := fun z => by
        have := hd j n hj hlt hjn
        rw [← lcell_div (p := L[j]) hj2.2.1, ← lcell_div (p := L[n]) l2, z] at this
        exact this rfl
      have n2 : lcell (mn g 1) L[j] ≠ to := fun z => by
        have e1 : to / mn g 1 = (L[j]).1 := by rw [← z]; exact lcell_div hj2.2.1
        rw [htb] at e1
        by_cases d : n + 1 < L.length
        · rw [List.getElem?_eq_getElem d] at e1
          exact hd j (n + 1) hj d (by omega) e1.symm
        · rw [List.getElem?_eq_none (by omega)] at e1
          exact hde j hj e1.symm
      rw [cset_ne n1, cset_ne n2]
      exact hsame j hj (by omega)
/-- a key is laid, or can't be -/
theorem pc_layKey {G : tc_G} (hK : gK G) (hM : tc_p G 30 0 = 24) (hX : gX G) (hT : gT G 55 144) {u : tc_S} {g : mp} {c : Nat → en} {A : List Nat} {pos : Nat → Nat} {k : Nat} (hS : wS g) (hns : mn g 0 * mn g 1 ≤ 144) (hu : tb u 55 144 g c) (hA : cA g c A pos) (hk : k ≤ 999) (hkA : k ∉ A) : y2 (fn_X0_layKey G 54 (nI k) u) (fun r w => ((r = 0 ∧ arr (mhash g 0) (mhash g 1) (mn g 1) (k :: A) ∧ ∃ g2 c2 pos2, sA g g2 ∧ tb w 55 144 g2 c2 ∧ cA g2 c2 (k :: A) pos2) ∨ (r = 1 ∧ ¬ arr (mhash g 0) (mhash g 1) (mn g 1) (k :: A) ∧ ∃ c2, tb w 55 144 g c2 ∧ cA g c2 A pos)) ∧ fr fA u w) := by
  have hfu := tc_fu_big
  have hs := hS.2.2.1
  have hnb := hS.2.1.2
  unfold fn_X0_layKey
  rw [hX.1, hX.2]
  refine yl_b (pc_takeInHand hT (by omega) hS hu hns hk) fun _ w1 h1 => ?_
  have hA1 : cA g (cset c 148 (nI (k + 1), 0, 0, 0)) A pos := cA_out hA (by omega)
  have t1 : tb w1 55 144 g (cset c 148 (nI (k + 1), 0, 0, 0)) := h1.1
  have hc1 : (cset c 148 (nI (k + 1), 0, 0, 0) 148).1 = nI (k + 1) := by rw [cset_eq]
  generalize cset c 148 (nI (k + 1), 0, 0, 0) = c1 at hA1 t1 hc1
  have room : ∀ {w : tc_S} {g2 : mp} {c2 : Nat → en}, tb w 55 144 g2 c2 → w.1 55 2 = nI 148 := fun h => h.1.1.2
  rw [room t1]
  refine yl_e (pc_open hT (by omega) hS t1 (i := 148) (by omega) hc1 hk) ?_
  cases ho : opb c1 g k with
  | some b =>
    have hb : (b = mhash g 0 k ∨ b = mhash g 1 k) ∧ cnt c1 (b * mn g 1) (mn g 1) < mn g 1 := by
      unfold opb at ho
      split at ho
      · rename_i z; cases ho; exact ⟨Or.inl rfl, z⟩
      · split at ho
        · rename_i z; cases ho; exact ⟨Or.inr rfl, z⟩
        · cases ho
    have hbl : b < mn g 0 := by
      rcases hb.1 with z | z
      · rw [z]; exact wS_hash hS 0 k
      · rw [z]; exact wS_hash hS 1 k
    obtain ⟨p, hp⟩ := Option.isSome_iff_exists.mp (cnt_epl.mp hb.2)
    have sp := ff_lt hp
    refine yl_n (nI_pos (show b < 2 ^ 31 by omega)) ?_
    refine yl_e (pc_epl hT (by omega) hS t1 hns hbl hp) ?_
    have hpl : p < mn g 1 := by omega
    have hj := lcell_lt (p := (b, p)) hbl hpl
    have hj : b * mn g 1 + p < mn g 0 * mn g 1 := hj
    have hjd : (b * mn g 1 + p) / mn g 1 = b := lcell_div (p := (b, p)) hpl
    have hz : (c1 (b * mn g 1 + p)).1 = 0 := of_decide_eq_true sp.2.2
    rw [room t1]
    refine yl_b (pc_move hT (by omega) hS t1 hns (i := 148) (j := b * mn g 1 + p) (by omega) (by omega) (by omega) (by rw [hc1]; exact nI_ne0 (by omega) (by omega)) hz (fun z => by omega) (fun _ => hj)) fun _ w hw => ?_
    have hA2 := cA_in hA1 hk hkA hj (H := 148) (by omega) hz (by rw [hjd]; exact hb.1) hc1
    exact yl_ok ⟨Or.inl ⟨rfl, cA_arr hs.1 hA2, g, _, _, sA_refl, hw.1, hA2⟩, fT_A (fr_trans h1.2 hw.2)⟩
  | none =>
    refine yl_p (by decide) ?_
    rw [room t1]
    have sk := pc_seekFor hK hM hT (by omega) hS hns (by omega) t1 (i := 148) (by omega) hc1 hk
    rcases bfs_cases (ns := mn g 1) (op := cop c1 g) (cE_lt (c := c1) hS) (wS_hash hS 0 k) (wS_hash hS 1 k) with ⟨z1, z2⟩ | ⟨m, b0, L, e, z1, z2, z3, z4, z5, z6⟩
    · rw [z1] at sk
      refine yl_b (P := fun r w => bP w1 (mn g 1) none (r, w)) sk fun r w hw => ?_
      have hw : r = 0 ∧ fr fK w1 w := hw
      have t2 : tb w 55 144 g c1 := tb_fr t1 hw.2 fun o k q1 q2 => by unfold fK; omega
      refine yl_p hw.1 ?_
      refine yl_b (pc_emptyHand hT (by omega) t2 hns) fun _ v hv => ?_
      exact yl_ok ⟨Or.inr ⟨rfl, cA_no hS hA1 ho z2, _, hv.1, cA_out hA1 (by omega)⟩, fr_trans (fT_A h1.2) (fr_trans (fK_A hw.2) (fT_A hv.2))⟩
    · rw [z1] at sk
      refine yl_b (P := fun r w => bP w1 (mn g 1) (some (L, e)) (r, w)) sk fun r w hw => ?_
      have hw : r = 1 ∧ w.1 24 1 = nI L.length ∧ w.1 24 2 = nI e ∧ (∀ k (h : k < L.length), w.1 25 k = nI ((L[k]).1 * mn g 1 + (L[k]).2)) ∧ fr fK w1 w := hw
      have t2 : tb w 55 144 g c1 := tb_fr t1 hw.2.2.2.2 fun o k q1 q2 => by unfold fK; omega
      have hlen := grd_len z4
      have hb0 : b0 < mn g 0 := by
        rcases z3 with z | z
        · rw [z]; exact wS_hash hS 0 k
        · rw [z]; exact wS_hash hS 1 k
      have lv := grd_lv m b0 L e z4 hb0 (cE_lt hS) z6
      have hd : ∀ i j (hi : i < L.length) (hj : j < L.length), i < j → (L[i]).1 ≠ (L[j]).1 := fun i j hi hj hij z => by
        have g1 := (lv j hj).2.2.2.2.2 (by omega)
        rw [← z] at g1
        have := (lv i hi).2.2.2.1 _ g1
        omega
      have hde : ∀ j (hj : j < L.length), (L[j]).1 ≠ e := fun j hj z => by
        have := (lv j hj).2.2.2.1 0 (by rw [z]; exact ⟨z5.1, z5.2⟩)
        omega
      have h32 : L.length ≤ 32 := by
        have := fb_holes (mn g 0) L.length (fun j => ((L[j]?.map Prod.fst).getD 0)) (fun i hi => by
          rw [List.getElem?_eq_getElem hi]
          exact (lv i hi).1) (fun i j hij hj => by
          rw [List.getElem?_eq_getElem hj, List.getElem?_eq_getElem (show i < L.length by omega)]
          exact hd i j (by omega) hj hij)
        omega
      refine yl_n (by rw [hw.1]; exact i_n1) ?_
      obtain ⟨p, hp⟩ := Option.isSome_iff_exists.mp (cnt_epl.mp (of_decide_eq_true z5.2.1))
      have sp := ff_lt hp
      have hpl : p < mn g 1 := by omega
      have hj : e * mn g 1 + p < mn g 0 * mn g 1 := lcell_lt (p := (e, p)) z5.1 hpl
      have hjd : (e * mn g 1 + p) / mn g 1 = e := lcell_div (p := (e, p)) hpl
      have hz : (c1 (e * mn g 1 + p)).1 = 0 := of_decide_eq_true sp.2.2
      have hfo : y2 (fn_X4_follow G 30 55 (nI 148) w) (fun _ v => (∃ g2 c2 pos2, sA g g2 ∧ tb v 55 144 g2 c2 ∧ cA g2 c2 (k :: A) pos2) ∧ fr (fT 55) w v) := by
        unfold fn_X4_follow
        rw [hM, hw.2.1, hw.2.2.1]
        refine yl_p (nI_le (a := 1) (by omega) (by omega)) ?_
        refine yl_e (pc_epl hT (by omega) hS t2 hns z5.1 hp) (yl_let ?_)
        rw [hw.2.1]
        exact pc_follow35 hK hM hT hS hns h32 ⟨hw.2.1, hw.2.2.1, hw.2.2.2.1⟩ hk hkA (fun j hj => ⟨(lv j hj).1, (lv j hj).2.1, (lv j hj).2.2.1⟩) hd hde (fun h => by rw [(lv 0 h).2.2.2.2.1 rfl]; exact z3) (by omega) L.length tc_fu (e * mn g 1 + p) c1 pos w (Nat.le_refl _) (by omega) hj hz (by rw [hjd, List.getElem?_eq_none (Nat.le_refl _)]; rfl) hc1 (fun j _ _ => rfl) hA1 t2 fr_refl
      rw [room t2]
      refine yl_b hfo fun _ v hv => ?_
      obtain ⟨⟨g2, c2, pos2, v1, v2, v3⟩, v4⟩ := hv
      have ar : arr (mhash g 0) (mhash g 1) (mn g 1) (k :: A) := cA_arr hs.1 (cA_sA (fun j hj => (v1 j hj).symm) v3)
      exact yl_ok ⟨Or.inl ⟨rfl, ar, g2, c2, pos2, v1, v2, v3⟩, fr_trans (fT_A h1.2) (fr_trans (fK_A hw.2.2.2.2) (fT_A v4))⟩
