/-! parts: the class joins -/
theorem lbf_lt {nb : Nat} {D : List (Nat × Nat)} (h : ∀ p ∈ D, p.1 < nb ∧ p.2 < nb) {b : Nat} (hb : b < nb) : lbf D (fun b => b) b < nb :=
  (lbf_S (S := fun x => x < nb) D (fun b => b) (fun p hp => ⟨fun _ => (h p hp).2, fun _ => (h p hp).1⟩) (fun _ => Iff.rfl) b).mpr hb
def jS (u : tc_S) (nb : Nat) (D : List (Nat × Nat)) : Prop := lS u nb (lbf D (fun b => b)) (fun x => mmn (lbf D (fun b => b)) x D) (bkn nb (lbf D (fun b => b)))
theorem mt_unite {G : tc_G} (hP : gP G) {u : tc_S} {nb f s : Nat} {D : List (Nat × Nat)} (hn : nb ≤ 16) (hD : ∀ p ∈ D, p.1 < nb ∧ p.2 < nb) (hf : f < nb) (hs : s < nb) (hS : jS u nb D) : ∃ x, nI (rts nb (lbf D (fun b => b))) - x = nI (rts nb (lbf (D ++ [(f, s)]) (fun b => b))) ∧ y2 (fn_X5_unite G 50 (nI (lbf D (fun b => b) f)) (nI (lbf D (fun b => b) s)) (nI nb) u) (fun r w => r = x ∧ lS w nb (lbf (D ++ [(f, s)]) (fun b => b)) (fun y => mmn (lbf (D ++ [(f, s)]) (fun b => b)) y D) (bkn nb (lbf (D ++ [(f, s)]) (fun b => b))) ∧ fr (fQ nb) u w) := by
  have hfu := tc_fu_big
  have i1 := lbf_lt hD hf
  have i2 := lbf_lt hD hs
  have hid := lbf_idem D
  have hlt : ∀ b, b < nb → lbf D (fun b => b) b < nb := fun b hb => lbf_lt hD hb
  rw [lbf_snoc]
  unfold jS at hS
  generalize lbf D (fun b => b) = l at *
  unfold fn_X5_unite
  by_cases c : l f = l s
  · refine ⟨0, ?_, ?_⟩
    · rw [lbs_same (p := (f, s)) c, Int32.sub_zero]
    · rw [c]
      refine yl_p rfl (yl_ok ⟨rfl, ?_, fr_refl⟩)
      rw [lbs_same (p := (f, s)) c]
      exact hS
  · refine ⟨1, ?_, ?_⟩
    · rw [← rts_un (nb := nb) (l := l) (p := (f, s)) hid c i2, nI_pred]
    · refine yl_n (fun z => c ?_) ?_
      · have := congrArg Int32.toNatClampNeg z
        rwa [nI_clamp (by omega), nI_clamp (by omega)] at this
      · have q := un_10 hP (u0 := u) (k := bkn nb l) (m := fun x => mmn l x D) hn i1 i2 c hlt nb 0 tc_fu u (by omega) (by omega) (fun b hb => by
          have := hS b hb
          refine ⟨?_, this.2⟩
          show u.1 51 b = nI (if b < 0 ∧ l b = l s then l f else l b)
          rw [if_neg (by omega)]
          exact this.1) fr_refl
        refine yl_m q fun r hr => ⟨hr.1, fun b hb => ?_, hr.2.2⟩
        have w := hr.2.1 b hb
        refine ⟨w.1, ?_, ?_⟩
        · rw [w.2.1]
          exact congrArg nI (mmn_un c D).symm
        · rw [w.2.2]
          exact congrArg nI (bkn_un c).symm
theorem jo_57 {G : tc_G} (hP : gP G) {u0 : tc_S} {t : Nat} {g : mp} (hT : gT G t 64) (ht : t + 10 ≤ 51 ∨ 54 ≤ t) (hw : mwf g) (h0 : mt u0 t g) : ∀ (n i f : Nat) (D : List (Nat × Nat)) (u : tc_S), i + n = 68 → n < f → (∀ p ∈ D, p.1 < mn g 0 ∧ p.2 < mn g 0) → jS u (mn g 0) D → fr (fQ (mn g 0)) u0 u → y2 (lo_X5_join_57 G f 50 t (nI (mn g 0)) (nI (rts (mn g 0) (lbf D (fun b => b)))) (nI i) u) (fun r w => r = nI (rts (mn g 0) (lbf (D ++ (cl g n i).map (ed g)) (fun b => b))) ∧ jS w (mn g 0) (D ++ (cl g n i).map (ed g)) ∧ fr (fQ (mn g 0)) u0 w) := by
  have a := hw.1.1
  have hn := a.2.1.2
  intro n
  induction n with
  | zero =>
    intro i f D u hi hf hD hS hfr
    obtain ⟨f, rfl⟩ : ∃ k, f = k + 1 := ⟨f - 1, by omega⟩
    have h : mt u t g := mt_fr h0 hfr fun o k q1 q2 => by unfold fQ; omega
    rw [lo_X5_join_57, (mt_room h).2, pu_le (by omega) (by omega), if_pos (by omega)]
    refine yl_ok ⟨?_, ?_, hfr⟩
    · show _ = nI (rts (mn g 0) (lbf (D ++ []) (fun b => b)))
      rw [List.append_nil]
    · show jS u (mn g 0) (D ++ [])
      rw [List.append_nil]
      exact hS
  | succ n ih =>
    intro i f D u hi hf hD hS hfr
    obtain ⟨f, rfl⟩ : ∃ k, f = k + 1 := ⟨f - 1, by omega⟩
    have h : mt u t g := mt_fr h0 hfr fun o k q1 q2 => by unfold fQ; omega
    have hp := h.2.1 i (by omega)
    have hem := pl_emp hp
    rw [lo_X5_join_57, (mt_room h).2, pu_le (by omega) (by omega), if_neg (by omega), hT.2.1.1, cl]
    refine yl_ld 69 (hT.2.2.2 _ (by omega) (by omega)) (by omega) (by omega) ?_
    unfold bl_X5_join_129
    by_cases d : (fc g i).1 = 0
    · rw [if_pos d]
      refine yl_p (hem.2.1.mpr d) (yl_let ?_)
      rw [nI_1]
      exact ih (i + 1) f D u (by omega) (by omega) hD hS hfr
    · rw [if_neg d]
      refine yl_n (fun q => d (hem.2.1.mp q)) ?_
      rcases hp with ⟨x1, x2⟩ | ⟨q, q1, q2, q3, q4, q5, q6, q7, q8⟩
      · exact absurd (by rw [x1]; rfl) d
      · have l0 := wA_hash a 0 q
        have l1 := wA_hash a 1 q
        have ee : ed g (fc g i) = (mhash g 0 q, mhash g 1 q) := by
          unfold ed
          rw [q2, nI_clamp (by omega), show q + 1 - 1 = q by omega]
        have s0 := hS _ l0
        have s1 := hS _ l1
        rw [hT.2.1.2.2.2.2.1, hT.2.1.2.2.2.2.2.1, hP.1.1, hP.1.2.1]
        refine yl_ld 69 (hT.2.2.2 _ (by omega) (by omega)) (by omega) (by omega) ?_
        rw [q7]
        refine yl_ld 32 hP.2.1 (by omega) (by omega) ?_
        refine yl_ld 69 (hT.2.2.2 _ (by omega) (by omega)) (by omega) (by omega) ?_
        rw [q8]
        refine yl_ld 32 hP.2.1 (by omega) (by omega) ?_
        rw [s0.1, s1.1]
        obtain ⟨x, e1, e2⟩ := mt_unite hP hn hD l0 l1 hS
        refine yl_b e2 fun r w hr => ?_
        obtain ⟨r1, r2, r3⟩ := hr
        refine yl_let ?_
        have hD2 : ∀ p ∈ D ++ [(mhash g 0 q, mhash g 1 q)], p.1 < mn g 0 ∧ p.2 < mn g 0 := by
          intro p hp
          rcases List.mem_append.mp hp with z | z
          · exact hD p z
          · rw [List.mem_singleton.mp z]; exact ⟨l0, l1⟩
        have fr2 := fr_trans hfr r3
        have k7 : w.1 (t + 8) i = nI (mhash g 0 q) := by rw [r3 _ _ (by unfold fQ; omega)]; exact q7
        have lf := lbf_lt hD2 l0
        refine yl_ld 69 (hT.2.2.2 _ (by omega) (by omega)) (by omega) (by omega) ?_
        rw [k7]
        refine yl_ld 32 hP.2.1 (by omega) (by omega) ?_
        rw [(r2 _ l0).1]
        refine yl_ld 32 hP.2.2.1 (by omega) (by omega) ?_
        rw [(r2 _ lf).2.1, nI_1]
        refine yl_sd 32 hP.2.2.1 (by omega) (by omega) (yl_let ?_)
        rw [r1, e1, nI_1]
        have := ih (i + 1) f (D ++ [(mhash g 0 q, mhash g 1 q)]) (tc_w w 52 (lbf (D ++ [(mhash g 0 q, mhash g 1 q)]) (fun b => b) (mhash g 0 q)) (nI (mmn (lbf (D ++ [(mhash g 0 q, mhash g 1 q)]) (fun b => b)) (lbf (D ++ [(mhash g 0 q, mhash g 1 q)]) (fun b => b) (mhash g 0 q)) D + 1))) (by omega) (by omega) hD2 (fun b hb => ?_) (fr_w fr2 (by unfold fQ; omega))
        · rw [List.append_assoc] at this
          rw [List.map_append, show List.map (ed g) [fc g i] = [(mhash g 0 q, mhash g 1 q)] by rw [List.map_singleton, ee]]
          exact this
        · have rb := r2 b hb
          refine ⟨?_, ?_, ?_⟩
          · rw [w_get, if_neg (by omega)]; exact rb.1
          · show _ = nI (mmn (lbf (D ++ [(mhash g 0 q, mhash g 1 q)]) (fun b => b)) b (D ++ [(mhash g 0 q, mhash g 1 q)]))
            rw [w_get, mmn_snoc]
            by_cases c : b = lbf (D ++ [(mhash g 0 q, mhash g 1 q)]) (fun b => b) (mhash g 0 q)
            · rw [if_pos ⟨rfl, c⟩, if_pos c.symm, ← c]
            · rw [if_neg (fun z => c z.2), if_neg (fun z => c z.symm)]
              exact rb.2.1
          · rw [w_get, if_neg (by omega)]; exact rb.2.2
theorem jo_10 {G : tc_G} (hP : gP G) {u0 : tc_S} {t : Nat} {g : mp} (hT : gT G t 64) (ht : t + 10 ≤ 51 ∨ 54 ≤ t) (hw : mwf g) (h0 : mt u0 t g) : ∀ (n b f : Nat) (u : tc_S), b + n = 32 → n < f → (∀ x, x < b → u.1 51 x = nI x) → (∀ x, x < b → x < mn g 0 → u.1 51 x = nI x ∧ u.1 52 x = 0 ∧ u.1 53 x = 1) → fr (fQ 32) u0 u → y2 (lo_X5_join_10 G f 50 t (nI (mn g 0)) (nI b) u) (fun r w => r = nI (rts (mn g 0) (lb g)) ∧ jS w (mn g 0) (edg g) ∧ (∀ x, mn g 0 ≤ x → x < 32 → w.1 51 x = nI x) ∧ fr (fQ 32) u0 w) := by
  have hfu := tc_fu_big
  have a := hw.1.1
  have hn := a.2.1.2
  intro n
  induction n with
  | zero =>
    intro b f u hb hf hL hS hfr
    obtain ⟨f, rfl⟩ : ∃ k, f = k + 1 := ⟨f - 1, by omega⟩
    rw [lo_X5_join_10, show (32 : Int32) = nI 32 from rfl, pu_le (by omega) (by omega), if_pos (by omega)]
    have hr : rts (mn g 0) (lbf [] (fun b => b)) = mn g 0 := cf_full fun i _ _ => decide_eq_true rfl
    have j0 : jS u (mn g 0) [] := fun x hx => by
      have := hS x (by omega) hx
      refine ⟨this.1, this.2.1, this.2.2.trans ?_⟩
      have e : bkn (mn g 0) (lbf [] (fun b => b)) x = 1 := by
        refine cf_rank (os := fun _ => x) (n := 1) (fun a b h1 h2 => by omega) (fun k hk => hx) 1 _ (by omega) fun j hj => ?_
        constructor
        · intro e; exact ⟨0, by omega, (of_decide_eq_true e).symm⟩
        · rintro ⟨k, k1, k2⟩; exact decide_eq_true k2.symm
      rw [e]; rfl
    have q := jo_57 hP hT ht hw (mt_fr h0 hfr fun o k q1 q2 => by unfold fQ; omega) 68 0 tc_fu [] u (by omega) (by omega) (fun p hp => by cases hp) j0 fr_refl
    rw [hr, List.nil_append, cl_mes hw] at q
    refine yl_m q fun r hr => ⟨hr.1, hr.2.1, fun x x1 x2 => ?_, fr_trans hfr (fr_mono hr.2.2 fun o k z => by unfold fQ at z ⊢; omega)⟩
    rw [hr.2.2 _ _ (by unfold fQ; omega)]
    exact hL x (by omega)
  | succ n ih =>
    intro b f u hb hf hL hS hfr
    obtain ⟨f, rfl⟩ : ∃ k, f = k + 1 := ⟨f - 1, by omega⟩
    rw [lo_X5_join_10, show (32 : Int32) = nI 32 from rfl, pu_le (by omega) (by omega), if_neg (by omega), hP.1.1, hP.1.2.1, hP.1.2.2]
    refine yl_sd 32 hP.2.1 (by omega) (by omega) (yl_sd 32 hP.2.2.1 (by omega) (by omega) ?_)
    rw [pu_le (by omega) (by omega)]
    unfold bl_X5_join_45
    by_cases c : mn g 0 ≤ b
    · rw [if_pos c]
      refine yl_sd 32 hP.2.2.2 (by omega) (by omega) (yl_let ?_)
      rw [nI_1]
      refine ih (b + 1) f _ (by omega) (by omega) (fun x hx => by
        rw [w_get, if_neg (by omega), w_get, if_neg (by omega), w_get]
        by_cases d : x = b
        · rw [if_pos ⟨rfl, d⟩, d]
        · rw [if_neg (by omega)]; exact hL x (by omega)) (fun x hx hx2 => ?_) (fr_w (fr_w (fr_w hfr (by unfold fQ; omega)) (by unfold fQ; omega)) (by unfold fQ; omega))
      have := hS x (by omega) hx2
      refine ⟨?_, ?_, ?_⟩
      · rw [w_get, if_neg (by omega), w_get, if_neg (by omega), w_get, if_neg (by omega)]; exact this.1
      · rw [w_get, if_neg (by omega), w_get, if_neg (by omega), w_get, if_neg (by omega)]; exact this.2.1
      · rw [w_get, if_neg (by omega), w_get, if_neg (by omega), w_get, if_neg (by omega)]; exact this.2.2
    · rw [if_neg c]
      refine yl_sd 32 hP.2.2.2 (by omega) (by omega) (yl_let ?_)
      rw [nI_1]
      refine ih (b + 1) f _ (by omega) (by omega) (fun x hx => by
        rw [w_get, if_neg (by omega), w_get, if_neg (by omega), w_get]
        by_cases d : x = b
        · rw [if_pos ⟨rfl, d⟩, d]
        · rw [if_neg (by omega)]; exact hL x (by omega)) (fun x hx hx2 => ?_) (fr_w (fr_w (fr_w hfr (by unfold fQ; omega)) (by unfold fQ; omega)) (by unfold fQ; omega))
      by_cases d : x = b
      · refine ⟨?_, ?_, ?_⟩
        · rw [w_get, if_neg (by omega), w_get, if_neg (by omega), w_get, if_pos ⟨rfl, d⟩, d]
        · rw [w_get, if_neg (by omega), w_get, if_pos ⟨rfl, d⟩]
        · rw [w_get, if_pos ⟨rfl, d⟩]
      · have := hS x (by omega) hx2
        refine ⟨?_, ?_, ?_⟩
        · rw [w_get, if_neg (by omega), w_get, if_neg (by omega), w_get, if_neg (by omega)]; exact this.1
        · rw [w_get, if_neg (by omega), w_get, if_neg (by omega), w_get, if_neg (by omega)]; exact this.2.1
        · rw [w_get, if_neg (by omega), w_get, if_neg (by omega), w_get, if_neg (by omega)]; exact this.2.2
/-- the class joins: labels, members, buckets, and how many parts -/
theorem mt_join {G : tc_G} (hP : gP G) {u : tc_S} {t : Nat} {g : mp} (hT : gT G t 64) (ht : t + 10 ≤ 51 ∨ 54 ≤ t) (hw : mwf g) (h : mt u t g) : y2 (fn_X5_join G 50 t u) (fun r w => r = nI (rts (mn g 0) (lb g)) ∧ jS w (mn g 0) (edg g) ∧ (∀ x, mn g 0 ≤ x → x < 32 → w.1 51 x = nI x) ∧ fr (fQ 32) u w) := by
  have hfu := tc_fu_big
  unfold fn_X5_join
  refine yl_let ?_
  rw [hT.1.1, mt_set h (by omega), hw.1.1.1 0 (by omega)]
  exact jo_10 hP hT ht hw h 32 0 tc_fu u (by omega) (by omega) (fun x hx => by omega) (fun x hx => by omega) fr_refl
