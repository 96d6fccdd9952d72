/-! the class: the walk -/
def gV (G : tc_G) : Prop := tc_p G 30 0 = 24 ∧ tc_p G 30 1 = 31 ∧ G.2.2.1 31 = 16
def fV (t : Nat) (o k : Nat) : Prop := fT t o k ∨ (24 ≤ o ∧ o ≤ 31)
theorem fT_V {t : Nat} {u v : tc_S} (h : fr (fT t) u v) : fr (fV t) u v := fr_mono h fun _ _ q => Or.inl q
theorem fK_V {t : Nat} {u v : tc_S} (h : fr fK u v) : fr (fV t) u v := fr_mono h fun o k q => Or.inr ⟨q.1, by have := q.2; omega⟩
theorem vc68 {g : mp} : vc g 68 := ⟨by omega, fun q => absurd q (by omega)⟩
theorem fx68 {g : mp} : fx g 68 = 68 := by unfold fx; rw [if_neg (by omega)]
theorem mt_swap {G : tc_G} {u : tc_S} {t i : Nat} {g : mp} (hT : gT G t 64) (hg : mwf g) (h : mt u t g) (hi : vc g i) (hi8 : i < 68) (h0 : ck g i ≠ 0) (h8 : ck g 68 ≠ 0) : y2 (fn_X9_swapHand G t (nI (fx g i)) u) (fun _ w => mt w t (cs (cs g i (gc g 68)) 68 (gc g i)) ∧ fr (fT t) u w) := by
  have a := hg.1.1
  have li := fx_lt a hi
  have e8 : fc g 68 = gc g 68 := fc_s a (by omega)
  have lt : fx g i < 64 + 4 := by
    have h1 := fx_inj a hi vc68 (by omega)
    rw [fx68] at h1
    omega
  refine yl_m (pc_swap hT (by omega) h (nbns a) lt (by rw [fc_x a hi, ← gc_e0 hg (by omega)]; exact h0) (by rw [e8, ← gc_e0 hg (by omega)]; exact h8)) fun r hx => ⟨?_, hx.2⟩
  refine cong19 a hx.1 (fun k hk => by rw [cs_lo (by omega), cs_lo (by omega)]) ?_
  rw [fc_cs (wA_cs a) vc68, fc_cs a hi, fx_cs, fx68]
  unfold swp
  rw [e8, fc_x a hi]
theorem fc_upd {g : mp} {k : Nat} {x : Int32} (h : 2 ≤ k) (h2 : k < 20) : fc (upd g k x) = fc g := by
  funext i
  unfold fc
  rw [mn_upd (by omega), mn_upd (by omega), gc_upd h2, gc_upd h2]
theorem mt_upd {u w : tc_S} {t k : Nat} {g : mp} {x : Int32} (h : mt u t g) (hk : k < 19) (h11 : 11 ≤ k) (o j : Nat) (hoj : (k = 11 ∧ o = t + 2 ∧ j = 0) ∨ (12 ≤ k ∧ k < 18 ∧ o = t ∧ j = k - 1) ∨ (k = 18 ∧ o = t ∧ j = 10)) (e : w = tc_w u o j x) : mt w t (upd g k x) := by
  unfold mt
  rw [fc_upd (by omega) (by omega)]
  exact tb_upd h hk h11 o j hoj e
theorem mt_fr {P : Nat → Nat → Prop} {u w : tc_S} {t : Nat} {g : mp} (h : mt u t g) (hf : fr P u w) (h0 : ∀ o k, t ≤ o → o < t + 10 → ¬ P o k) : mt w t g := tb_fr h hf h0
/-- the walk, undone -/
def unb (e : en) : en := (e.1, e.2.1, e.2.2.1, e.2.2.2 - 1)
def mun (g : mp) (i : Nat) : mp := cs (cs g i (unb (gc g 68))) 68 (gc g i)
theorem unb_bump (e : en) : unb (bump e) = e := by
  unfold unb bump
  have : e.2.2.2 + 1 - 1 = e.2.2.2 := by
    rw [Int32.sub_eq_add_neg, Int32.add_assoc, Int32.add_right_neg, Int32.add_zero]
  rw [this]
theorem cs_self {g : mp} {i : Nat} : cs g i (gc g i) = g := by
  funext k
  unfold cs gc
  grind
theorem cs_swap {g : mp} {i j : Nat} {a b : en} (h : i ≠ j) : cs (cs g i a) j b = cs (cs g j b) i a := by
  funext k
  unfold cs
  grind
theorem upd_cs {g : mp} {i k : Nat} {a : en} {x : Int32} (h : k < 20) : upd (cs g i a) k x = cs (upd g k x) i a := by
  funext j
  unfold cs upd
  grind
theorem mun_mwst {g : mp} {b i : Nat} {s : Int32} (hi : i = 4 * b + (mpick (mseed (g 11)) (g 1)).toNatClampNeg) (h : i ≠ 68) : mun (upd (mwst g b) 11 s) i = upd g 11 s := by
  have e : upd (mwst g b) 11 s = cs (cs (upd g 11 s) i (gc g 68)) 68 (bump (gc g i)) := by
    unfold mwst
    rw [upd_cs (by omega), upd_cs (by omega), upd_upd, ← hi]
  unfold mun
  rw [e, gc_cs_eq, gc_cs_ne h, gc_cs_eq, unb_bump]
  have e1 : gc (upd g 11 s) i = gc g i := gc_upd (by omega)
  have e2 : gc (upd g 11 s) 68 = gc g 68 := gc_upd (by omega)
  rw [← e1, ← e2, cs_swap (i := 68) (j := i) (fun q => h q.symm), cs_2, cs_2, cs_self, cs_self]
/-- a walk's history: the cells, the latest first -/
def Hs (g0 : mp) : List Nat → mp → Prop
  | [], g => ∃ s, g = upd g0 11 s
  | i :: tr, g => ∃ h b, mwv h b ∧ i = 4 * b + (mpick (mseed (h 11)) (h 1)).toNatClampNeg ∧ g = mwst h b ∧ Hs g0 tr h
theorem mwst_cell {g : mp} {b : Nat} (h : mwv g b) : ∃ p, p < mn g 1 ∧ mpick (mseed (g 11)) (g 1) = nI p ∧ (mpick (mseed (g 11)) (g 1)).toNatClampNeg = p ∧ vc g (4 * b + p) ∧ 4 * b + p < 64 ∧ ck g (4 * b + p) ≠ 0 := by
  obtain ⟨p, p1, p2, p3⟩ := mwst_pick h.1.1.1
  have hn := h.1.1.1.2.1.2
  have hs := h.1.1.1.2.2.1.2
  have hb := h.2.1
  exact ⟨p, p1, p2, p3, ⟨by omega, fun _ => ⟨by omega, by omega⟩⟩, by omega, memp_ck h.1 hb h.2.2.1 p1⟩
theorem pc_undo {G : tc_G} (hV : gV G) {g0 : mp} {t : Nat} {s : Int32} (hT : gT G t 64) (htt : t + 10 ≤ 24 ∨ 32 ≤ t) : ∀ (tr : List Nat) (g : mp) (f : Nat) (u : tc_S), tr.length ≤ 16 → tr.length < f → Hs g0 tr g → mt u t (upd g 11 s) → sA g0 g → (∀ k (h : k < tr.length), u.1 31 k = nI (fx g0 (tr.reverse[k]'(by rw [List.length_reverse]; exact h)))) → y2 (lo_X4_walk_157 G f 30 t (nI tr.length - 1) u) (fun r w => r = 0 ∧ mt w t (upd g0 11 s) ∧ fr (fT t) u w) := by
  intro tr
  induction tr with
  | nil =>
    intro g f u h16 hf hs hm sg hr
    obtain ⟨f, rfl⟩ : ∃ k, f = k + 1 := ⟨f - 1, by simp only [List.length_nil] at hf; omega⟩
    obtain ⟨s2, rfl⟩ := hs
    rw [lo_X4_walk_157, show nI ([] : List Nat).length - 1 = (-1 : Int32) from rfl, if_pos (by decide)]
    refine yl_z0 (yl_ok ⟨rfl, ?_, fr_refl⟩)
    rw [upd_upd] at hm
    exact hm
  | cons i tr ih =>
    intro g f u h16 hf hs hm sg hr
    rw [List.length_cons] at h16 hf
    obtain ⟨f, rfl⟩ : ∃ k, f = k + 1 := ⟨f - 1, by omega⟩
    obtain ⟨h, b, hv, hi, hgm, hs2⟩ := hs
    obtain ⟨p, p1, p2, p3, p4, p5, p6⟩ := mwst_cell hv
    rw [p3] at hi
    obtain ⟨o1, o2, o3, o4, o5, o6⟩ := mwst_ok hv
    have sh : sA g0 h := fun k hk => by rw [← sg k hk, hgm]; exact (o2 k hk).symm
    have hpos : u.1 31 tr.length = nI (fx g0 i) := by
      rw [hr tr.length (by rw [List.length_cons]; omega)]
      simp
    have eG : mwf (upd g 11 s) := by rw [hgm]; exact mwf_seed o1
    have sG : sA g0 (upd g 11 s) := sA_trans sg (sA_upd (by omega))
    have cki : ck (upd g 11 s) i ≠ 0 := by
      rw [ck_upd (by omega), hgm]
      unfold mwst
      rw [p3, ck_cs, if_neg (by omega), ck_cs, if_pos hi]
      exact hv.2.2.2.1
    have ck8 : ck (upd g 11 s) 68 ≠ 0 := by rw [ck_upd (by omega), hgm]; exact o3
    have hvi : vc (upd g 11 s) i := (vc_sA sG).mpr ((vc_sA sh).mp (by rw [hi]; exact p4))
    have li := fx_lt eG.1.1 hvi
    rw [fx_sA sG] at li
    rw [lo_X4_walk_157, List.length_cons, nI_pred, if_neg (nI_pos (by omega)), hV.2.1, hT.2.1.2.2.2.1]
    refine yl_ld 16 hV.2.2 (by omega) (by omega) ?_
    rw [hpos, ← fx_sA sG]
    refine yl_b (mt_swap hT eG hm hvi (by omega) cki ck8) fun _ w hw => ?_
    have f31 : w.1 31 tr.length = nI (fx (upd g 11 s) i) := by rw [hw.2 _ _ (by unfold fT; omega), hpos, fx_sA sG]
    refine yl_ld 16 hV.2.2 (by omega) (by omega) ?_
    rw [f31, fx_sA sG]
    refine yl_ld 69 (hT.2.2.2 _ (by omega) (by omega)) (by omega) (by omega) ?_
    refine yl_sd 69 (hT.2.2.2 _ (by omega) (by omega)) (by omega) (by omega) ?_
    refine yl_let ?_
    have wsw : mwf (cs (cs (upd g 11 s) i (gc (upd g 11 s) 68)) 68 (gc (upd g 11 s) i)) := by
      have q : cs (cs (upd g 11 s) i (gc (upd g 11 s) 68)) 68 (gc (upd g 11 s) i) = cs (upd h 11 s) i (bump (gc h i)) := by
        have q2 := mun_mwst (g := h) (b := b) (i := i) (s := s) (by rw [p3]; exact hi) (by omega)
        rw [← hgm] at q2
        unfold mun at q2
        have e68 : gc (upd g 11 s) 68 = bump (gc h i) := by
          rw [gc_upd (by omega), hgm]
          unfold mwst
          rw [p3, gc_cs_eq, hi]
        rw [← q2, e68, ← cs_swap (by omega), cs_cs]
      rw [q]
      have hh := mwf_seed (x := s) hv.1
      have e1 : gc (upd h 11 s) i = gc h i := gc_upd (by omega)
      rw [← e1]
      exact mwf_same hh (by omega) (by rw [ck_upd (by omega), hi]; exact p6) rfl rfl
    have z := mt_unbump (i := i) (x := w.1 (t + 7) (fx g0 i) - 1) wsw hw.1 (vc_cs.mpr (vc_cs.mpr hvi)) (by rw [ck_cs, if_neg (by omega), ck_cs, if_pos rfl]; exact ck8)
    rw [fx_cs, fx_cs, fx_sA sG, gc_cs_ne (show i ≠ 68 by omega), gc_cs_eq] at z
    have e7 : w.1 (t + 7) (fx g0 i) = (gc (upd g 11 s) 68).2.2.2 := by
      have a3 := wsw.1.1
      have hvi3 : vc (cs (cs (upd g 11 s) i (gc (upd g 11 s) 68)) 68 (gc (upd g 11 s) i)) i := vc_cs.mpr (vc_cs.mpr hvi)
      have hc := wsw.1.2.2.1 i (by omega)
      have q := hw.1.2.1 (fx g0 i) (by omega)
      have ee : fc (cs (cs (upd g 11 s) i (gc (upd g 11 s) 68)) 68 (gc (upd g 11 s) i)) (fx g0 i) = gc (upd g 11 s) 68 := by
        have q2 := fc_x a3 hvi3
        rw [fx_cs, fx_cs, fx_sA sG, gc_cs_ne (show i ≠ 68 by omega), gc_cs_eq] at q2
        exact q2
      rw [ee] at q
      have hc8 := eG.1.2.2.1 68 (by omega)
      exact (pl_ent (q := ck (upd g 11 s) 68 - 1) q (by rw [show ck (upd g 11 s) 68 - 1 + 1 = ck (upd g 11 s) 68 by omega]; exact hc8.1) (by omega)).2.2.2.1
    have fin : cs (cs (cs (upd g 11 s) i (gc (upd g 11 s) 68)) 68 (gc (upd g 11 s) i)) i ((gc (upd g 11 s) 68).1, (gc (upd g 11 s) 68).2.1, (gc (upd g 11 s) 68).2.2.1, w.1 (t + 7) (fx g0 i) - 1) = upd h 11 s := by
      rw [e7]
      have q2 := mun_mwst (g := h) (b := b) (i := i) (s := s) (by rw [p3]; exact hi) (by omega)
      rw [← hgm] at q2
      rw [← q2]
      unfold mun unb
      rw [cs_swap (show i ≠ 68 by omega), cs_2, cs_swap (fun q => absurd q (by omega))]
    rw [fin] at z
    rw [i_m1]
    refine yl_m (ih h f _ (by omega) (by omega) hs2 z.1 sh fun k hk => ?_) fun r hx => ⟨hx.1, hx.2.1, fr_trans hw.2 (fr_trans z.2 hx.2.2)⟩
    rw [w_get, if_neg (by omega), hw.2 _ _ (by unfold fT; omega), hr k (by rw [List.length_cons]; omega)]
    congr 2
    simp only [List.reverse_cons]
    rw [List.getElem_append_left (by rw [List.length_reverse]; exact hk)]
