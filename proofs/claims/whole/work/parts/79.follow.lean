/-! the class: open buckets, along a chain -/
theorem opb_mfr {g : mp} (a : wA g) (q : Nat) : (opb (fc g) g q = none ∧ mfr g q = none) ∨ ∃ b p, opb (fc g) g q = some b ∧ b < mn g 0 ∧ memp g b = some p ∧ mfr g q = some (4 * b + p) := by
  have l0 := wA_hash a 0 q
  have l1 := wA_hash a 1 q
  unfold opb mfr
  have e0 := @cnt_epl (fc g) g (mhash g 0 q)
  have e1 := @cnt_epl (fc g) g (mhash g 1 q)
  rw [epl_memp l0] at e0
  rw [epl_memp l1] at e1
  cases h0 : memp g (mhash g 0 q) with
  | some p =>
    rw [h0] at e0
    rw [if_pos (e0.mpr rfl)]
    exact Or.inr ⟨_, p, rfl, l0, h0, rfl⟩
  | none =>
    rw [h0] at e0
    rw [if_neg (fun w => by have := e0.mp w; cases this)]
    cases h1 : memp g (mhash g 1 q) with
    | some p =>
      rw [h1] at e1
      rw [if_pos (e1.mpr rfl)]
      exact Or.inr ⟨_, p, rfl, l1, h1, rfl⟩
    | none =>
      rw [h1] at e1
      rw [if_neg (fun w => by have := e1.mp w; cases this)]
      exact Or.inl ⟨rfl, rfl⟩
theorem mt_open {G : tc_G} {u : tc_S} {t i : Nat} {g : mp} (hT : gT G t 64) (hg : mwf g) (h : mt u t g) (hi : vc g i) (h0 : ck g i ≠ 0) : fn_X9_openBucketFor G t (nI (fx g i)) u = some (oI (opb (fc g) g (ck g i - 1)), u) := by
  have a := hg.1.1
  have c := hg.1.2.2.1 i (by have := hi.1; omega)
  refine pc_open hT (by omega) (wA_wS a) h (fx_lt a hi).1 ?_ (by omega)
  rw [fc_x a hi, show ck g i - 1 + 1 = ck g i by omega]
  exact c.1
theorem mt_epl {G : tc_G} {u : tc_S} {t b p : Nat} {g : mp} (hT : gT G t 64) (a : wA g) (h : mt u t g) (hb : b < mn g 0) (hm : memp g b = some p) : fn_X9_emptyPlaceIn G t (nI b) u = some (nI (fx g (4 * b + p)), u) := by
  have hp := (ff_lt hm).2.1
  have h4 := a.2.2.1.2
  have hn := a.2.1.2
  rw [fx_b (by omega) (by omega)]
  exact pc_epl hT (by omega) (wA_wS a) h (nbns a) hb (by rw [epl_memp hb]; exact hm)
theorem gc_e0 {g : mp} (h : mwf g) {i : Nat} (hi : i < 69) : ck g i = 0 ↔ (gc g i).1 = 0 := by
  have := h.1.2.2.1 i hi
  constructor
  · intro q
    rw [this.2.2 q]
    rfl
  · intro q
    rw [ck_gc, q]
    rfl
/-- the chain that the class has found -/
def chk (u : tc_S) (l : ch) (e ns : Nat) : Prop := u.1 24 1 = nI l.length ∧ u.1 24 2 = nI e ∧ ∀ k (h : k < l.length), u.1 25 k = nI ((l[k]).1 * ns + (l[k]).2)
theorem chk_fr {P : Nat → Nat → Prop} {u w : tc_S} {l : ch} {e ns : Nat} (h : chk u l e ns) (hf : fr P u w) (hp : ∀ o k, 24 ≤ o → o ≤ 29 → ¬ P o k) : chk w l e ns := ⟨by rw [hf _ _ (hp _ _ (by omega) (by omega))]; exact h.1, by rw [hf _ _ (hp _ _ (by omega) (by omega))]; exact h.2.1, fun k hk => by rw [hf _ _ (hp _ _ (by omega) (by omega))]; exact h.2.2 k hk⟩
theorem vc_sA {g h : mp} (s : sA g h) {x : Nat} : vc h x ↔ vc g x := by
  unfold vc
  rw [sA_mn s (by omega), sA_mn s (by omega)]
theorem fx_sA {g h : mp} (s : sA g h) {x : Nat} : fx h x = fx g x := by
  unfold fx
  rw [sA_mn s (by omega)]
theorem chv_drop {g : mp} {f : Nat} : ∀ (n : Nat) (l : ch), chv g l f → chv g (l.drop n) f := by
  intro n
  induction n with
  | zero => intro l h; exact h
  | succ n ih =>
    intro l h
    cases l with
    | nil => exact h
    | cons q l => exact ih l h.2.2.2
theorem msh_ne {g : mp} (hg : mwf g) {f n : Nat} {l : ch} (hv : chv g l f) (hlt : n < l.length) : 4 * (l[n]).1 + (l[n]).2 ≠ (msh g (l.drop (n + 1)) f).2 ∧ gc (msh g (l.drop (n + 1)) f).1 (4 * (l[n]).1 + (l[n]).2) = gc g (4 * (l[n]).1 + (l[n]).2) := by
  have hs := hg.1.1.2.2.1.2
  have hd : l.drop n = l[n] :: l.drop (n + 1) := List.drop_eq_getElem_cons hlt
  have cv := chv_drop n l hv
  rw [hd] at cv
  have hv1 := chv_drop (n + 1) l hv
  obtain ⟨o1, o2, o3, o4, o5, o6, o7, o8⟩ := msh_ok hg (l.drop (n + 1)) f hv1
  have hm := chv_mem hv
  have hm1 := chv_mem hv1
  have he := hm.2 l[n] (List.getElem_mem hlt)
  have e : gc (msh g (l.drop (n + 1)) f).1 (4 * (l[n]).1 + (l[n]).2) = gc g (4 * (l[n]).1 + (l[n]).2) := by
    refine o3 _ (fun q => ?_) (fun r hr q => ?_)
    · exact he.2.2 (by rw [q]; exact hm.1.2)
    · have h1 := cv.2.2.1 r hr
      have h2 := hm1.2 r hr
      omega
  refine ⟨fun q => ?_, e⟩
  rw [← q] at o4
  rw [ck_gc, e] at o4
  exact he.2.2 o4
theorem mt_follow35 {G : tc_G} (hK : gK G) (hM : tc_p G 30 0 = 24) {u0 : tc_S} {t i f : Nat} {g : mp} {l : ch} {e : Nat} (hT : gT G t 64) (htt : t + 10 ≤ 24 ∨ 30 ≤ t) (hg : mwf g) (hv : chv g l f) (h16 : l.length ≤ 16) (hc : chk u0 l e (mn g 1)) (hi : 64 ≤ i) (hi8 : i ≤ 68) (hci : ck g i ≠ 0) : ∀ (n fu : Nat) (u : tc_S), n ≤ l.length → n < fu → mt u t (msh g (l.drop n) f).1 → fr (fT t) u0 u → y2 (lo_X4_follow_35 G fu 30 t (nI (fx g i)) (nI (fx g (msh g (l.drop n) f).2)) (nI n - 1) u) (fun _ w => mt w t (upd (mv (msh g l f).1 i (msh g l f).2) 17 (if nI l.length ≤ g 17 then g 17 else nI l.length)) ∧ fr (fT t) u0 w) := by
  have a := hg.1.1
  have hn := a.2.1.2
  have hs := a.2.2.1.2
  have hm := chv_mem hv
  intro n
  induction n with
  | zero =>
    intro fu u hnl hf hmt hfr
    obtain ⟨fu, rfl⟩ : ∃ k, fu = k + 1 := ⟨fu - 1, by omega⟩
    obtain ⟨o1, o2, o3, o4, o5, o6, o7, o8⟩ := msh_ok hg l f hv
    have s : sA g (msh g l f).1 := fun k hk => o2 k (by omega)
    rw [List.drop_zero] at hmt
    rw [List.drop_zero, lo_X4_follow_35, show nI 0 - 1 = (-1 : Int32) from rfl, if_pos (by decide)]
    have gi : gc (msh g l f).1 i = gc g i := o3 i (by have := hm.1.1; omega) fun r hr => by have := hm.2 r hr; omega
    have hj : vc (msh g l f).1 (msh g l f).2 := (vc_sA s).mpr ⟨by omega, fun _ => ⟨o7, o8⟩⟩
    have hvi : vc (msh g l f).1 i := ⟨hi8, fun q => absurd q (by omega)⟩
    rw [← fx_sA s (x := i), ← fx_sA s (x := (msh g l f).2)]
    refine yl_b (mt_move hT o1.1.1 hmt hvi hj (by omega) ?_ ((gc_e0 o1 (by omega)).mp o4)) fun _ w hw => ?_
    · rw [gi, ← gc_e0 hg (by omega)]; exact hci
    · have fw : fr (fT t) u0 w := fr_trans hfr hw.2
      have e17 : w.1 t 16 = g 17 := by
        have h2 : w.1 t 16 = mv (msh g l f).1 i (msh g l f).2 17 := hw.1.1.2.2.2.1 17 (by omega) (by omega)
        rw [h2]
        unfold mv
        rw [cs_lo (by omega), cs_lo (by omega), o2 17 (by omega)]
      have e1 : w.1 24 1 = nI l.length := by rw [fw _ _ (by unfold fT; omega)]; exact hc.1
      rw [hM, e17, e1]
      refine yl_let (yl_ok ⟨?_, fr_w fw ⟨by omega, by omega, by omega⟩⟩)
      have ex : (if g 17 < nI l.length then nI l.length else g 17) = (if nI l.length ≤ g 17 then g 17 else nI l.length) := by
        by_cases q : nI l.length ≤ g 17
        · rw [if_pos q, if_neg (Int32.not_lt.mpr q)]
        · rw [if_neg q, if_pos (Int32.not_le.mp q)]
      rw [ex]
      have a2 : wA (mv (msh g l f).1 i (msh g l f).2) := wA_cs (wA_cs o1.1.1)
      refine cong19 (sA_wA (sA_upd (show 11 ≤ 17 by omega)) a2) (tb_upd hw.1 (show 17 < 19 by omega) (by omega) t 16 (Or.inr (Or.inl ⟨by omega, by omega, rfl, rfl⟩)) rfl) (fun _ _ => rfl) ?_
      funext x
      unfold fc
      rw [mn_upd (by omega), mn_upd (by omega), gc_upd (by omega), gc_upd (by omega)]
  | succ n ih =>
    intro fu u hnl hf hmt hfr
    obtain ⟨fu, rfl⟩ : ∃ k, fu = k + 1 := ⟨fu - 1, by omega⟩
    have hlt : n < l.length := by omega
    have hd : l.drop n = l[n] :: l.drop (n + 1) := List.drop_eq_getElem_cons hlt
    obtain ⟨o1, o2, o3, o4, o5, o6, o7, o8⟩ := msh_ok hg (l.drop (n + 1)) f (chv_drop (n + 1) l hv)
    obtain ⟨n1, n2⟩ := msh_ne hg hv hlt
    have he := hm.2 l[n] (List.getElem_mem hlt)
    have s : sA g (msh g (l.drop (n + 1)) f).1 := fun k hk => o2 k (by omega)
    have hvx : vc (msh g (l.drop (n + 1)) f).1 (4 * (l[n]).1 + (l[n]).2) := (vc_sA s).mpr ⟨by omega, fun _ => ⟨by omega, by omega⟩⟩
    have hvj : vc (msh g (l.drop (n + 1)) f).1 (msh g (l.drop (n + 1)) f).2 := (vc_sA s).mpr ⟨by omega, fun _ => ⟨o7, o8⟩⟩
    have ckx : ck (msh g (l.drop (n + 1)) f).1 (4 * (l[n]).1 + (l[n]).2) ≠ 0 := by
      rw [ck_gc, n2]; exact he.2.2
    have ef : (l[n]).1 * mn g 1 + (l[n]).2 = fx g (4 * (l[n]).1 + (l[n]).2) := by rw [fx_b (by omega) (by omega)]
    have lx := fx_lt o1.1.1 hvx
    rw [fx_sA s] at lx
    rw [lo_X4_follow_35, nI_pred, if_neg (nI_pos (by omega)), hM, hK.1.1, hT.2.1.2.2.2.1]
    refine yl_ld 32 hK.1.2 (by omega) (by omega) ?_
    have ep : u.1 25 n = nI (fx g (4 * (l[n]).1 + (l[n]).2)) := by
      rw [hfr _ _ (by unfold fT; omega), hc.2.2 n hlt, ef]
    rw [ep]
    refine yl_ld 69 (hT.2.2.2 _ (by omega) (by omega)) (by omega) (by omega) ?_
    refine yl_sd 69 (hT.2.2.2 _ (by omega) (by omega)) (by omega) (by omega) ?_
    have zb := mt_bump o1 hmt hvx ckx
    rw [fx_sA s] at zb
    generalize tc_w u (t + 7) (fx g (4 * (l[n]).1 + (l[n]).2)) (u.1 (t + 7) (fx g (4 * (l[n]).1 + (l[n]).2)) + 1) = u1 at zb ⊢
    have wb : mwf (cs (msh g (l.drop (n + 1)) f).1 (4 * (l[n]).1 + (l[n]).2) (bump (gc (msh g (l.drop (n + 1)) f).1 (4 * (l[n]).1 + (l[n]).2)))) := mwf_same o1 (by omega) ckx rfl rfl
    have zm := mt_move hT wb.1.1 zb.1 (vc_cs.mpr hvx) (vc_cs.mpr hvj) n1 (by
      rw [gc_cs, if_pos rfl]
      show ¬ (gc (msh g (l.drop (n + 1)) f).1 (4 * (l[n]).1 + (l[n]).2)).1 = 0
      rw [← gc_e0 o1 (by omega)]; exact ckx) (by
      rw [gc_cs, if_neg (fun q => n1 q.symm)]
      exact (gc_e0 o1 (by omega)).mp o4)
    rw [fx_cs, fx_cs, fx_sA s, fx_sA s, mv_bump n1] at zm
    refine yl_b zm fun _ w hw => ?_
    refine yl_let ?_
    rw [i_m1]
    have := ih fu w (by omega) (by omega)
    rw [hd] at this
    exact this hw.1 (fr_trans hfr (fr_trans zb.2 hw.2))
theorem mt_follow {G : tc_G} (hK : gK G) (hM : tc_p G 30 0 = 24) {u : tc_S} {t i p : Nat} {g : mp} {l : ch} {e : Nat} (hT : gT G t 64) (htt : t + 10 ≤ 24 ∨ 30 ≤ t) (hg : mwf g) (h : mt u t g) (he : e < mn g 0) (hm : memp g e = some p) (hv : chv g l (4 * e + p)) (h0 : 0 < l.length) (h16 : l.length ≤ 16) (hc : chk u l e (mn g 1)) (hi : 64 ≤ i) (hi8 : i ≤ 68) (hci : ck g i ≠ 0) : y2 (fn_X4_follow G 30 t (nI (fx g i)) u) (fun _ w => mt w t (upd (mv (msh g l (4 * e + p)).1 i (msh g l (4 * e + p)).2) 17 (if nI l.length ≤ g 17 then g 17 else nI l.length)) ∧ fr (fT t) u w) := by
  have hfu := tc_fu_big
  unfold fn_X4_follow
  rw [hM, hc.1, hc.2.1]
  refine yl_p (nI_le h0 (by omega)) ?_
  refine yl_e (mt_epl hT hg.1.1 h he hm) ?_
  refine yl_let ?_
  rw [hc.1]
  have z := mt_follow35 hK hM hT htt hg hv h16 hc hi hi8 hci l.length tc_fu u (Nat.le_refl _) (by omega)
  rw [List.drop_length] at z
  exact z h fr_refl
theorem mv_upd17 {g : mp} {i j : Nat} {x : Int32} : upd (mv g i j) 17 x = mv (upd g 17 x) i j := by
  funext k
  unfold mv
  rw [gc_upd (by omega)]
  unfold upd cs
  grind
/-- by the chain found: from the hand -/
theorem mt_chainIn {G : tc_G} (hK : gK G) (hM : tc_p G 30 0 = 24) {u : tc_S} {t q : Nat} {g : mp} {l : ch} (hT : gT G t 64) (htt : t + 10 ≤ 24 ∨ 30 ≤ t) (hg : mwf g) (h : mt u t g) (hl : mchain g q = some l) (hc : chk u l (mtg g q) (mn g 1)) (hci : ck g 68 ≠ 0) : y2 (fn_X4_follow G 30 t (nI 68) u) (fun _ w => mt w t (mv (mopn g q l) 68 (mopf g q l)) ∧ fr (fT t) u w) := by
  obtain ⟨c1, c2, c3, c4, c5, c6, c7⟩ := mchain_sp hg hl
  cases hp : memp g (mtg g q) with
  | none => rw [hp] at c5; cases c5
  | some p =>
    have ef : mfin g q = 4 * mtg g q + p := by unfold mfin; rw [hp]; rfl
    rw [ef] at c1
    have z := mt_follow hK hM hT htt hg h c4 hp c1 c2 c3 hc (i := 68) (by omega) (by omega) hci
    rw [show fx g 68 = 68 from by unfold fx; rw [if_neg (by omega)]] at z
    refine yl_m z fun r hx => ⟨?_, hx.2⟩
    have := hx.1
    rw [mv_upd17] at this
    unfold mopn mopf
    rw [ef]
    exact this
