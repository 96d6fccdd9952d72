/-! lines: the class (hashes, has, the line) -/
theorem cS_cong {t : Nat → Nat} {n : Nat} {u : tc_S} {x : pxs} {S : mp} (h : cS u t n x) (hS : ∀ k, k < 12 → S k = x.2.1 k) : cS u t n (x.1, S, x.2.2) := by
  obtain ⟨hB, hT, ⟨a1, a2⟩, a3, a5, a6⟩ := h
  exact ⟨hB, hT, ⟨fun k hk => (a1 k hk).trans (hS k (by omega)).symm, a2.trans (hS 11 (by omega)).symm⟩, a3, a5, a6⟩
theorem mt_hash4 {G : tc_G} {t : Nat → Nat} {n c : Nat} {u u0 : tc_S} {x : pxs} {a b c1 d : Int32} (h : cS u t n x) (hr : fr fRd u0 u) (hc : (c = 7 ∧ c1 = x.2.1 9 ∧ d = x.2.1 10 ∧ a = a) ∨ False) : y2 (tc_b (fn_X8_takeHashes G 66 a b c1 d u) fun _ u16 => bl_X6_readHash_92 G u16) (fun r w => r = 1 ∧ cS w t n (x.1, upd (upd x.2.1 7 a) 8 b, x.2.2) ∧ fr fRd u0 w) := by
  unfold fn_X8_takeHashes bl_X6_readHash_92
  have s1 := cS_set (k := 7) (v := a) h (by omega)
  have s2 := cS_set (k := 8) (v := b) s1 (by omega)
  have s3 := cS_set (k := 9) (v := c1) s2 (by omega)
  have s4 := cS_set (k := 10) (v := d) s3 (by omega)
  rcases hc with ⟨-, q1, q2, -⟩ | q
  · refine yl_b (P := fun _ w => w = tc_w (tc_w (tc_w (tc_w u 66 7 a) 66 8 b) 66 9 c1) 66 10 d) (yl_let (yl_let (yl_let (yl_let (yl_ok rfl))))) fun _ w hw => ?_
    rw [hw]
    refine yl_z1 (yl_ok ⟨rfl, cS_cong (x := (x.1, upd (upd (upd (upd x.2.1 7 a) 8 b) 9 c1) 10 d, x.2.2)) s4 fun k hk => ?_, fr_w (fr_w (fr_w (fr_w hr ⟨by omega, by omega⟩) ⟨by omega, by omega⟩) ⟨by omega, by omega⟩) ⟨by omega, by omega⟩⟩)
    show upd (upd x.2.1 7 a) 8 b k = upd (upd (upd (upd x.2.1 7 a) 8 b) 9 c1) 10 d k
    by_cases e1 : k = 10
    · rw [e1, upd_eq, upd_ne (by omega), upd_ne (by omega), q2]
    · rw [upd_ne (k := 10) e1]
      by_cases e2 : k = 9
      · rw [e2, upd_eq, upd_ne (by omega), upd_ne (by omega), q1]
      · rw [upd_ne (k := 9) e2]
  · exact q.elim
theorem mt_hash5 {G : tc_G} {t : Nat → Nat} {n : Nat} {u u0 : tc_S} {x : pxs} {a b c1 d : Int32} (h : cS u t n x) (hr : fr fRd u0 u) (hc : c1 = x.2.1 7 ∧ d = x.2.1 8) : y2 (tc_b (fn_X8_takeHashes G 66 c1 d a b u) fun _ u16 => bl_X6_readHash_92 G u16) (fun r w => r = 1 ∧ cS w t n (x.1, upd (upd x.2.1 9 a) 10 b, x.2.2) ∧ fr fRd u0 w) := by
  unfold fn_X8_takeHashes bl_X6_readHash_92
  have s1 := cS_set (k := 7) (v := c1) h (by omega)
  have s2 := cS_set (k := 8) (v := d) s1 (by omega)
  have s3 := cS_set (k := 9) (v := a) s2 (by omega)
  have s4 := cS_set (k := 10) (v := b) s3 (by omega)
  refine yl_b (P := fun _ w => w = tc_w (tc_w (tc_w (tc_w u 66 7 c1) 66 8 d) 66 9 a) 66 10 b) (yl_let (yl_let (yl_let (yl_let (yl_ok rfl))))) fun _ w hw => ?_
  rw [hw]
  refine yl_z1 (yl_ok ⟨rfl, cS_cong (x := (x.1, upd (upd (upd (upd x.2.1 7 c1) 8 d) 9 a) 10 b, x.2.2)) s4 fun k hk => ?_, fr_w (fr_w (fr_w (fr_w hr ⟨by omega, by omega⟩) ⟨by omega, by omega⟩) ⟨by omega, by omega⟩) ⟨by omega, by omega⟩⟩)
  show upd (upd x.2.1 9 a) 10 b k = upd (upd (upd (upd x.2.1 7 c1) 8 d) 9 a) 10 b k
  by_cases e1 : k = 10
  · rw [e1, upd_eq, upd_eq]
  · rw [upd_ne (k := 10) e1, upd_ne (k := 10) e1]
    by_cases e2 : k = 9
    · rw [e2, upd_eq, upd_eq]
    · rw [upd_ne (k := 9) e2, upd_ne (k := 9) e2]
      by_cases e3 : k = 8
      · rw [e3, upd_eq, hc.2]
      · rw [upd_ne (k := 8) e3]
        by_cases e4 : k = 7
        · rw [e4, upd_eq, hc.1]
        · rw [upd_ne (k := 7) e4]
theorem mt_readHash {G : tc_G} (hW : gW G) {t : Nat → Nat} {n i : Nat} {u : tc_S} {x : pxs} (h : cS u t n x) (hp : x.1 ≤ n) (hw4 : x.2.2.2.1 ≤ 4) (hi : i = 8 ∨ i = 9) : y2 (fn_X6_readHash G 65 (nI i) u) (fun r w => r = oBx (bHsh t n (if i = 8 then 7 else 9) x) ∧ cO w t n (bHsh t n (if i = 8 then 7 else 9) x) ∧ fr fRd u w) := by
  have he := kE_le (t := t) hp
  unfold fn_X6_readHash bHsh
  by_cases c : kK t n x.1 = 2
  · rw [if_pos c]
    refine yl_b (mt_num hW (lo := 1) (hi := 1008) h hp hw4 (by omega) (by omega) c) fun r w hw => ?_
    obtain ⟨w1, w2, w3, w4⟩ := hw
    rw [w1, w3]
    refine yl_n i_n1 (yl_let ?_)
    by_cases c2 : kK t n (kE t n x.1) = 2
    · rw [if_pos c2]
      refine yl_b (mt_num hW (lo := 0) (hi := 1008) w2 he.2 (nrg_le hw4) (by omega) (by omega) c2) fun r z hz => ?_
      obtain ⟨z1, z2, z3, z4⟩ := hz
      rw [z1, z3]
      refine yl_n i_n1 ?_
      rw [hW.2.1]
      rcases hi with e | e
      · subst e
        refine yl_p rfl ?_
        exact mt_hash4 (c := 7) z2 (fr_trans w4 z4) (Or.inl ⟨rfl, z2.2.2.1.1 9 (by omega), z2.2.2.1.1 10 (by omega), rfl⟩)
      · subst e
        refine yl_n (by decide) ?_
        exact mt_hash5 z2 (fr_trans w4 z4) ⟨z2.2.2.1.1 7 (by omega), z2.2.2.1.1 8 (by omega)⟩
    · rw [if_neg c2]
      refine yl_b (mt_num0 w2 c2) fun r z hz => ?_
      rw [hz.1]
      exact yl_p rfl (yl_z0 (yl_ok ⟨rfl, hz.2.1, fr_trans w4 hz.2.2⟩))
  · rw [if_neg c]
    refine yl_b (mt_num0 h c) fun r w hw => ?_
    rw [hw.1]
    exact yl_p rfl (yl_z0 (yl_ok ⟨rfl, hw.2⟩))
/-- what has adds -/
def hfn (t : Nat → Nat) (n p2 v s : Nat) (S : mp) (H : List (Nat × Nat × Nat)) (W : Nat × Nat) : Sum Nat pxs := if kK t n p2 = 2 then .inr (kE t n p2, S, H ++ [(v, kV t n p2, s)], nrg 0 999 (kV t n p2) (kS t n p2) W) else .inl (kS t n p2)
def ndp (v s : Nat) (H : List (Nat × Nat × Nat)) (W : Nat × Nat) : Nat × Nat := if (∃ h ∈ H, h.1 = v) then nte 3 s W else W
theorem nte_2 {k j s r : Nat} {W : Nat × Nat} (hk : 1 ≤ k) : nte j r (nte k s W) = nte k s W := by
  unfold nte
  by_cases c : W.1 = 0
  · rw [if_pos c, if_neg (show ¬ (k, s).1 = 0 by show ¬ k = 0; omega)]
  · rw [if_neg c, if_neg c]
theorem nhs_eq {v s : Nat} {H : List (Nat × Nat × Nat)} {W : Nat × Nat} : ndp v s H (nrg 0 999 v s W) = nhs v s H W := by
  unfold ndp nrg nhs
  by_cases c : 999 < v
  · rw [if_pos (show v < 0 ∨ 999 < v from Or.inr c), if_pos c, nte_2 (by omega)]
    split <;> rfl
  · rw [if_neg (show ¬ (v < 0 ∨ 999 < v) by omega), if_neg c]
theorem nte_le {k s : Nat} {W : Nat × Nat} (hk : k ≤ 4) (h : W.1 ≤ 4) : (nte k s W).1 ≤ 4 := by
  unfold nte
  split
  · exact hk
  · exact h
theorem mt_has25 {G : tc_G} (hW : gW G) {t : Nat → Nat} {n p2 v s : Nat} {S : mp} {H : List (Nat × Nat × Nat)} {u0 : tc_S} (hp : p2 ≤ n) (hH : H.length < 57) (hv : v ≤ 9999) (hHk : ∀ h ∈ H, h.1 ≤ 9999) : ∀ (m j f : Nat) (u : tc_S) (W : Nat × Nat), j + m = H.length → m < f → W.1 ≤ 4 → cS u t n (p2, S, H, W) → fr fRd u0 u → y2 (lo_X6_readHas_25 G f 65 (nI s) (nI v) (nI j) u) (fun r w => r = oBx (hfn t n p2 v s S H (ndp v s (H.drop j) W)) ∧ cO w t n (hfn t n p2 v s S H (ndp v s (H.drop j) W)) ∧ fr fRd u0 w) := by
  have ln : tc_ln G 68 = nI 58 := by unfold tc_ln; rw [hW.2.2.2.2.1.1]; rfl
  intro m
  induction m with
  | zero =>
    intro j f u W hj hf hW4 h hr
    obtain ⟨f, rfl⟩ : ∃ k, f = k + 1 := ⟨f - 1, by omega⟩
    have e0 : ndp v s (H.drop j) W = W := by
      unfold ndp
      rw [List.drop_eq_nil_of_le (by omega), if_neg]
      rintro ⟨h, q, -⟩
      cases q
    have e6 : u.1 65 6 = nI H.length := h.2.2.2.1.1
    rw [lo_X6_readHas_25, e6, pu_le (by omega) (by omega), if_pos (by omega), e0, hW.2.2.2.1.1, hW.2.2.2.1.2.1, hW.2.2.2.1.2.2, ln]
    unfold hfn
    by_cases c : kK t n p2 = 2
    · rw [if_pos c]
      refine yl_b (mt_num hW (lo := 0) (hi := 999) h hp hW4 (by omega) (by omega) c) fun r w hw => ?_
      obtain ⟨w1, w2, w3, w4⟩ := hw
      obtain ⟨hB, hT, ⟨a1, a2⟩, ⟨a3, a4⟩, a5, a6⟩ := w2
      have a3 : w.1 65 6 = nI H.length := a3
      rw [w1]
      refine yl_n i_n1 ?_
      rw [a3, pu_le (by omega) (by omega), if_neg (by omega)]
      refine yl_sd 58 hW.2.2.2.2.1.1 (by omega) (by omega) ?_
      rw [show (tc_w w 68 H.length (nI v)).1 65 6 = nI H.length from by rw [w_get, if_neg (by omega)]; exact a3]
      refine yl_sd 58 hW.2.2.2.2.1.2.1 (by omega) (by omega) ?_
      rw [show (tc_w w 68 H.length (nI v)).1 65 13 = nI (kV t n p2) from by rw [w_get, if_neg (by omega)]; exact w3]
      rw [show (tc_w (tc_w w 68 H.length (nI v)) 69 H.length (nI (kV t n p2))).1 65 6 = nI H.length from by rw [w_get, if_neg (by omega), w_get, if_neg (by omega)]; exact a3]
      refine yl_sd 58 hW.2.2.2.2.1.2.2 (by omega) (by omega) ?_
      rw [show (tc_w (tc_w (tc_w w 68 H.length (nI v)) 69 H.length (nI (kV t n p2))) 70 H.length (nI s)).1 65 6 = nI H.length from by rw [w_get, if_neg (by omega), w_get, if_neg (by omega), w_get, if_neg (by omega)]; exact a3, nI_1]
      refine yl_let ?_
      have gg : ∀ o k, (tc_w (tc_w (tc_w (tc_w w 68 H.length (nI v)) 69 H.length (nI (kV t n p2))) 70 H.length (nI s)) 65 6 (nI (H.length + 1))).1 o k = if o = 65 ∧ k = 6 then nI (H.length + 1) else if o = 70 ∧ k = H.length then nI s else if o = 69 ∧ k = H.length then nI (kV t n p2) else if o = 68 ∧ k = H.length then nI v else w.1 o k := fun o k => rfl
      have f1 : fr fRd u (tc_w (tc_w (tc_w (tc_w w 68 H.length (nI v)) 69 H.length (nI (kV t n p2))) 70 H.length (nI s)) 65 6 (nI (H.length + 1))) := fr_w (fr_w (fr_w (fr_w w4 ⟨by omega, by omega⟩) ⟨by omega, by omega⟩) ⟨by omega, by omega⟩) ⟨by omega, by omega⟩
      generalize tc_w (tc_w (tc_w (tc_w w 68 H.length (nI v)) 69 H.length (nI (kV t n p2))) 70 H.length (nI s)) 65 6 (nI (H.length + 1)) = y at gg f1 ⊢
      have z : ∀ o k, o < 68 → (o = 65 → k ≠ 6) → o ≠ 70 → y.1 o k = w.1 o k := fun o k q1 q2 _ => by
        rw [gg, if_neg (fun q => q2 q.1 q.2), if_neg (by omega), if_neg (by omega), if_neg (by omega)]
      have z12 : ∀ k, y.1 12 k = w.1 12 k := fun k => z 12 k (by omega) (by omega) (by omega)
      unfold bl_X6_readHas_123
      refine yl_z1 (yl_ok ⟨rfl, ⟨⟨hB.1, hB.2.1, ?_, fun k hk => ?_⟩, ⟨?_, ?_, fun q => ?_, fun q => ?_⟩, ⟨fun k hk => ?_, ?_⟩, ⟨?_, fun k hk => ?_⟩, ?_, ?_⟩, fr_trans hr f1⟩)
      · rw [z _ _ (by omega) (by omega) (by omega)]; exact hB.2.2.1
      · rw [z12]; exact hB.2.2.2 k hk
      · rw [z _ _ (by omega) (by omega) (by omega)]; exact hT.1
      · rw [z _ _ (by omega) (by omega) (by omega)]; exact hT.2.1
      · rw [z _ _ (by omega) (by omega) (by omega)]; exact hT.2.2.1 q
      · rw [z _ _ (by omega) (by omega) (by omega)]; exact hT.2.2.2 q
      · rw [z _ _ (by omega) (by omega) (by omega)]; exact a1 k hk
      · rw [z _ _ (by omega) (by omega) (by omega)]; exact a2
      · rw [gg, if_pos ⟨rfl, rfl⟩]
        show _ = nI (H ++ [(v, kV t n p2, s)]).length
        rw [List.length_append]
        rfl
      · have hk : k < (H ++ [(v, kV t n p2, s)]).length := hk
        show y.1 68 k = nI (H ++ [(v, kV t n p2, s)])[k].1 ∧ y.1 69 k = nI (H ++ [(v, kV t n p2, s)])[k].2.1 ∧ y.1 70 k = nI (H ++ [(v, kV t n p2, s)])[k].2.2
        rw [gg, gg, gg]
        by_cases q : k < H.length
        · rw [List.getElem_append_left q]
          rw [if_neg (by omega), if_neg (by omega), if_neg (by omega), if_neg (by omega), if_neg (by omega), if_neg (by omega), if_neg (by omega), if_neg (by omega), if_neg (by omega), if_neg (by omega), if_neg (by omega), if_neg (by omega)]
          exact a4 k q
        · have ek : k = H.length := by
            rw [List.length_append] at hk
            have : k < H.length + 1 := hk
            omega
          subst ek
          have eg : (H ++ [(v, kV t n p2, s)])[H.length] = (v, kV t n p2, s) := by
            rw [List.getElem_append_right (Nat.le_refl _)]
            simp
          rw [eg]
          refine ⟨?_, ?_, ?_⟩
          · rw [if_neg (by omega), if_neg (by omega), if_neg (by omega), if_pos ⟨rfl, rfl⟩]
          · rw [if_neg (by omega), if_neg (by omega), if_pos ⟨rfl, rfl⟩]
          · rw [if_neg (by omega), if_pos ⟨rfl, rfl⟩]
      · rw [z _ _ (by omega) (by omega) (by omega)]; exact a5
      · rw [z _ _ (by omega) (by omega) (by omega)]; exact a6
    · rw [if_neg c]
      refine yl_b (mt_num0 h c) fun r w hw => ?_
      rw [hw.1]
      exact yl_p rfl (yl_z0 (yl_ok ⟨rfl, hw.2.1, fr_trans hr hw.2.2⟩))
  | succ m ih =>
    intro j f u W hj hf hW4 h hr
    obtain ⟨f, rfl⟩ : ∃ k, f = k + 1 := ⟨f - 1, by omega⟩
    have hjl : j < H.length := by omega
    have hjk := hHk _ (List.getElem_mem hjl)
    have e6 : u.1 65 6 = nI H.length := h.2.2.2.1.1
    have e68 : u.1 68 j = nI (H[j]).1 := (h.2.2.2.1.2 j hjl).1
    rw [lo_X6_readHas_25, e6, pu_le (by omega) (by omega), if_neg (by omega), hW.2.2.2.1.1]
    refine yl_ld 58 hW.2.2.2.2.1.1 (by omega) (by omega) ?_
    rw [e68, pu_eq (by omega) (by omega)]
    unfold bl_X6_readHas_49
    have hd : ∀ X, ndp v s (H.drop j) X = if H[j].1 = v then ndp v s (H.drop (j + 1)) (nte 3 s X) else ndp v s (H.drop (j + 1)) X := by
      intro X
      rw [List.drop_eq_getElem_cons hjl]
      unfold ndp
      by_cases c : H[j].1 = v
      · rw [if_pos c, if_pos ⟨_, List.mem_cons_self .., c⟩]
        split
        · rw [nte_2 (by omega)]
        · rfl
      · rw [if_neg c]
        by_cases e : ∃ h ∈ H.drop (j + 1), h.1 = v
        · obtain ⟨h, h1, h2⟩ := e
          rw [if_pos ⟨h, List.mem_cons_of_mem _ h1, h2⟩, if_pos ⟨h, h1, h2⟩]
        · rw [if_neg e, if_neg]
          rintro ⟨h, h1, h2⟩
          rcases List.mem_cons.mp h1 with q | q
          · rw [q] at h2; exact c h2
          · exact e ⟨h, q, h2⟩
    rw [hd W]
    by_cases c : H[j].1 = v
    · rw [if_pos c, if_pos c]
      refine yl_b (mt_note (k := 3) (by omega) hW4 h.2.2) fun _ w hw => yl_let ?_
      rw [nI_1]
      refine ih (j + 1) f w (nte 3 s W) (by omega) (by omega) (nte_le (by omega) hW4) ⟨cB_fr h.1 hw.2 (by omega) (fun k => by omega), ?_, hw.1⟩ (fr_trans hr (fr_mono hw.2 fun o k q => by unfold fRd; omega))
      obtain ⟨t1, t2, t3, t4⟩ := h.2.1
      exact ⟨by rw [hw.2 _ _ (by omega)]; exact t1, by rw [hw.2 _ _ (by omega)]; exact t2, fun q => by rw [hw.2 _ _ (by omega)]; exact t3 q, fun q => by rw [hw.2 _ _ (by omega)]; exact t4 q⟩
    · rw [if_neg c, if_neg c]
      refine yl_let ?_
      rw [nI_1]
      exact ih (j + 1) f u W (by omega) (by omega) hW4 h hr
theorem mt_readHas {G : tc_G} (hW : gW G) {t : Nat → Nat} {n : Nat} {u : tc_S} {x : pxs} (h : cS u t n x) (hp : x.1 ≤ n) (hw4 : x.2.2.2.1 ≤ 4) (hH : x.2.2.1.length < 57) (hHk : ∀ h ∈ x.2.2.1, h.1 ≤ 9999) : y2 (fn_X6_readHas G 65 u) (fun r w => r = oBx (bHas t n x) ∧ cO w t n (bHas t n x) ∧ fr fRd u w) := by
  have hfu := tc_fu_big
  have he := kE_le (t := t) hp
  unfold fn_X6_readHas bHas
  refine yl_let ?_
  rw [h.2.1.1]
  by_cases c : kK t n x.1 = 2
  · rw [if_pos c]
    refine yl_b (mt_num hW (lo := 0) (hi := 999) h hp hw4 (by omega) (by omega) c) fun r w hw => ?_
    obtain ⟨w1, w2, w3, w4⟩ := hw
    rw [w1, w3]
    refine yl_n i_n1 (yl_let ?_)
    have z := mt_has25 hW (u0 := u) (p2 := kE t n x.1) (v := kV t n x.1) (s := kS t n x.1) (S := x.2.1) (H := x.2.2.1) he.2 hH (kV_le c) hHk x.2.2.1.length 0 tc_fu w _ (by omega) (by omega) (nrg_le hw4) w2 w4
    rw [List.drop_zero, nhs_eq] at z
    exact z
  · rw [if_neg c]
    refine yl_b (mt_num0 h c) fun r w hw => ?_
    rw [hw.1]
    exact yl_p rfl (yl_z0 (yl_ok ⟨rfl, hw.2⟩))
theorem mt_81 {G : tc_G} (hW : gW G) {t : Nat → Nat} {n : Nat} {u u0 : tc_S} {o : Sum Nat pxs} (h : cO u t n o) (hp : ∀ x, o = .inr x → x.1 ≤ n) (hr : fr fRd u0 u) : y2 (bl_X6_readLine_81 G 65 (oBx o) u) (fun r w => r = oBx (bEnd t n o) ∧ cO w t n (bEnd t n o) ∧ fr fRd u0 w) := by
  unfold bl_X6_readLine_81 bl_X6_readLine_93 bl_X6_readLine_108 bl_X6_readLine_109
  cases o with
  | inl s =>
    refine yl_p rfl (yl_p rfl (yl_z0 (yl_ok ⟨rfl, h, hr⟩)))
  | inr x =>
    have h : cS u t n x := h
    have hp := hp x rfl
    have hkl := kK_le t n x.1
    have he := kE_le (t := t) hp
    refine yl_n i_n1 ?_
    rw [h.2.1.2.1, show (3 : Int32) = nI 3 from rfl, pu_eq (by omega) (by omega)]
    rw [show bEnd t n (.inr x) = if kK t n x.1 = 3 then .inr (kE t n x.1, x.2) else .inl (kS t n x.1) from rfl]
    by_cases c : kK t n x.1 = 3
    · rw [if_pos c, if_pos c]
      refine yl_b (mt_stepS hW he.2 (h.2.1.2.2.1 (by omega)) h.1 h.2.2) fun _ w hw => ?_
      exact yl_z1 (yl_ok ⟨rfl, hw.1, fr_trans hr hw.2.2⟩)
    · rw [if_neg c, if_neg c]
      refine yl_n i_n1 ?_
      refine yl_b (mt_stop h.2.1.1) fun r w hw => ?_
      rw [hw.1]
      exact yl_p rfl (yl_z0 (yl_ok ⟨rfl, hw.2.1, fr_trans hr hw.2.2⟩))
