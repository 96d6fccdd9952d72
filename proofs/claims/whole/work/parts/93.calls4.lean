/-! calls: get, at; how many are read -/
def rdb (g : mp) (q : Nat) : Nat := if mhash g 0 q = mhash g 1 q then 1 else 2
def rdn (g : mp) (q : Nat) (o : Option Nat) : Nat := match o with
  | none => rdb g q + (if 0 < mn g 18 then 1 else 0)
  | some i => if i < 64 then (if i / 4 = mhash g 0 q then 1 else 2) else rdb g q + 1
theorem fx_div {g : mp} (a : wA g) {i : Nat} (h : vc g i) (hi : i < 64) : fx g i / mn g 1 = i / 4 ∧ fx g i - i / 4 * mn g 1 = i % 4 ∧ i / 4 * mn g 1 ≤ fx g i := by
  have h2 := h.2 hi
  unfold fx
  rw [if_pos hi, (dm h2.2).1]
  omega
/-- the cell of a key that is found -/
theorem mloc_vc {g : mp} (hw : mwf g) {q i : Nat} (hq : q ≤ 999) (hl : mloc g q = some i) : vc g i ∧ i < 68 ∧ ck g i = q + 1 ∧ (i < 64 → i / 4 = mhash g 0 q ∨ i / 4 = mhash g 1 q) ∧ (64 ≤ i → i - 64 < mn g 18) := by
  have hi := mloc_sp hw hq hl
  have h0 : ck g i ≠ 0 := by omega
  refine ⟨⟨by omega, fun c => ?_⟩, hi.1, hi.2, fun c => ?_, fun c => ?_⟩
  · have := hw.1.2.2.2.1 i c h0
    exact ⟨this.1, this.2.1⟩
  · have := (hw.1.2.2.2.1 i c h0).2.2
    rw [hi.2] at this
    exact this
  · exact (hw.2 (i - 64) (by omega)).mp (by rw [show 64 + (i - 64) = i by omega]; exact h0)
theorem mt_readsTill {G : tc_G} {u : tc_S} {t q : Nat} {g : mp} (hT : gT G t 64) (hw : mwf g) (h : mt u t g) (hq : q ≤ 999) {o : Option Nat} (ho : o = none ∨ ∃ i, o = some i ∧ vc g i ∧ i < 68) : fn_X9_readsTill G t (nI q) (oI (o.map (fx g))) u = some (nI (rdn g q o), u) := by
  have a := hw.1.1
  have hS := wA_wS a
  have hn := a.2.1.2
  have l0 := wA_hash a 0 q
  have l1 := wA_hash a 1 q
  have h4 : mn g 18 ≤ 4 := Nat.le_trans hw.1.2.1.2 a.2.2.2.1
  have e18 : u.1 t 10 = nI (mn g 18) := by rw [h.1.2.2.2.2]; exact hw.1.2.1.1
  have fin : bl_X9_readsTill_26 G t (oI (o.map (fx g))) (nI (mhash g 0 q)) (nI (rdb g q)) u = some (nI (rdn g q o), u) := by
    have hr : rdb g q ≤ 2 := by unfold rdb; split <;> omega
    unfold bl_X9_readsTill_26 bl_X9_readsTill_46 bl_X9_readsTill_75
    rcases ho with rfl | ⟨i, rfl, hv, hi⟩
    · show (if 0 ≤ (-1 : Int32) then _ else _) = _
      rw [if_neg (by decide), e18]
      unfold rdn
      by_cases c : 0 < mn g 18
      · rw [if_neg (nI_nle c (by omega)), nI_1]
        simp only [if_pos c]
      · rw [if_pos (show nI (mn g 18) ≤ 0 from nI_le (b := 0) (by omega) (by omega)), show nI (rdb g q) + 0 = nI (rdb g q + 0) from nI_add _ 0]
        simp only [if_neg c]
    · have lx := fx_lt a hv
      show (if 0 ≤ nI (fx g i) then (if nI (fx g i) < (u.1 t 1) then (tc_b (fn_X9_bucketOf G t (nI (fx g i)) u) fun x3 u4 => if x3 = nI (mhash g 0 q) then some (1, u4) else some (2, u4)) else some (nI (rdb g q) + 1, u)) else _) = _
      rw [if_pos (nI_pos' (by omega)), (mt_room h).1, pu_lt (by omega) (by omega)]
      unfold rdn
      by_cases c : i < 64
      · have hd := fx_div a hv c
        rw [if_pos (lx.2.2.mp c), pc_bucketOf hT a h (by omega), pu_b, hd.1, pu_eq (by have := (hv.2 c).1; omega) (by omega)]
        simp only [if_pos c]
        split <;> rfl
      · rw [if_neg (fun w => c (lx.2.2.mpr w)), nI_1]
        simp only [if_neg c]
  unfold fn_X9_readsTill
  rw [hT.1.1, pc_firstOf hS h.1.2.1 hq, pu_b, pc_secondOf hS h.1.2.1 hq, pu_b, pu_eq (by omega) (by omega)]
  unfold rdb at fin
  by_cases c : mhash g 0 q = mhash g 1 q
  · rw [if_pos c] at fin ⊢
    exact fin
  · rw [if_neg c] at fin ⊢
    exact fin
theorem pm_reads {G : tc_G} (hG : gm G) {u : tc_S} {B q : Nat} {g : mp} (hB : B + 292 ≤ 3253) (hM : isM u B g) (hw : mwf g) (hq : q ≤ 999) : fn_X12_reads G 71 (nI B) (nI q) u = some (nI (rdn g q (mloc g q)), u) := by
  have a := hw.1.1
  have hk := mwf_ok hw
  have hn := a.2.1.2
  have l0 := wA_hash a 0 q
  have l1 := wA_hash a 1 q
  have h4 : mn g 18 ≤ 4 := Nat.le_trans hw.1.2.1.2 a.2.2.2.1
  have e0 := pm_hash hG hB hM hk (w := 0) (by omega) hq
  have e1 := pm_hash hG hB hM hk (w := 1) (by omega) hq
  rw [show nI 0 = (0 : Int32) from rfl] at e0
  rw [show nI 1 = (1 : Int32) from rfl] at e1
  have hr : rdb g q ≤ 2 := by unfold rdb; split <;> omega
  have b45 : ∀ x, bl_X12_reads_45 G 71 (nI B) (nI q) x (nI (mhash g 0 q)) u = bl_X12_reads_62 G 71 (nI B) x (nI (rdb g q)) u := by
    intro x
    unfold bl_X12_reads_45 rdb
    rw [e1, pu_b, pu_eq (by omega) (by omega)]
    split <;> rfl
  have b80 : bl_X12_reads_80 G 71 (nI B) (nI (rdb g q)) u = some (nI (rdb g q + (if 0 < mn g 18 then 1 else 0)), u) := by
    unfold bl_X12_reads_80 bl_X12_reads_99
    rw [hG.1.1, show nI B + 18 = nI (B + 18) from nI_add B 18, isM_ld hG hM hB (by omega), hw.1.2.1.1]
    by_cases c : 0 < mn g 18
    · rw [if_neg (nI_nle c (by omega)), nI_1, if_pos c]
    · rw [if_pos (show nI (mn g 18) ≤ 0 from nI_le (b := 0) (by omega) (by omega)), show nI (rdb g q) + 0 = nI (rdb g q + 0) from nI_add _ 0, if_neg c]
  unfold fn_X12_reads
  rw [pm_lies hG hB hM hk hq, pu_b, e0, pu_b, mlies_loc]
  cases hl : mloc g q with
  | none =>
    show (if (-1 : Int32) < 0 then bl_X12_reads_45 G 71 (nI B) (nI q) (-1) (nI (mhash g 0 q)) u else _) = _
    rw [if_pos (by decide), b45]
    unfold bl_X12_reads_62
    rw [if_pos (by decide), b80]
    rfl
  | some i =>
    obtain ⟨v1, v2, v3, v4, v5⟩ := mloc_vc hw hq hl
    show (if nI (B + (20 + 4 * i)) < 0 then _ else (if (nI B + 276) ≤ nI (B + (20 + 4 * i)) then (bl_X12_reads_45 G 71 (nI B) (nI q) (nI (B + (20 + 4 * i))) (nI (mhash g 0 q)) u) else (if (((nI (B + (20 + 4 * i)) - nI B) - 20) / 16) = nI (mhash g 0 q) then (some (1, u)) else (bl_X12_reads_45 G 71 (nI B) (nI q) (nI (B + (20 + 4 * i))) (nI (mhash g 0 q)) u)))) = some (nI (rdn g q (some i)), u)
    rw [if_neg (nI_pos (by omega)), show nI B + 276 = nI (B + 276) from nI_add B 276, pu_le (by omega) (by omega), b45]
    unfold bl_X12_reads_62 rdn
    rw [if_neg (nI_pos (by omega)), show nI B + 276 = nI (B + 276) from nI_add B 276, pu_le (by omega) (by omega)]
    by_cases c : i < 64
    · rw [if_neg (by omega), show nI (B + (20 + 4 * i)) - nI B = nI (B + (20 + 4 * i) - B) from pk_sub (by omega), show nI (B + (20 + 4 * i) - B) - 20 = nI (B + (20 + 4 * i) - B - 20) from pk_sub (b := 20) (by omega), show nI (B + (20 + 4 * i) - B - 20) / 16 = nI ((B + (20 + 4 * i) - B - 20) / 16) from pk_div (d := 16) (by omega) (by omega) (by omega), show (B + (20 + 4 * i) - B - 20) / 16 = i / 4 by omega, pu_eq (by omega) (by omega)]
      show _ = some (nI (if i < 64 then (if i / 4 = mhash g 0 q then 1 else 2) else rdb g q + 1), u)
      rw [if_pos c]
      by_cases d : i / 4 = mhash g 0 q
      · rw [if_pos d, if_pos d]
        rfl
      · rw [if_neg d, if_neg d, if_neg (by omega)]
        have : rdb g q = 2 := by
          unfold rdb
          rw [if_neg]
          rcases v4 c with w | w
          · exact absurd w d
          · omega
        rw [this]
    · rw [if_pos (by omega), if_pos (by omega), b80]
      simp only [if_neg c]
      rw [if_pos (by have := v5 (by omega); omega)]
/-- get -/
theorem c_get {G : tc_G} (hA : gA G) {L : tc_L} {u : tc_S} {P : Nat} {g : mp} (x : Int32) (hu : cC u P g) (hM : isM u 0 g) : ∃ g2 P2, P2 ≤ P + 12 ∧ yl (tc_b (fn_X11_get G 0 x u) fun r1 u1 => tc_b (fn_X12_get G 71 x u1) fun r2 u2 => if r1 = r2 then some (L, u2) else none) (pqq L u P2 g2) := by
  obtain ⟨⟨o0, o1, o2, o3, o4, o5, o6, o7, o8, o9, o10⟩, ⟨a1, a2, a3⟩, ⟨a4, a5, a6, a7⟩, b1, b2, b3, b4⟩ := hA
  have hw := hu.2.1.1
  have a := hw.1.1
  have hk := mwf_ok hw
  rcases pc_isNum (G := G) (u := u) x with ⟨n1, n2⟩ | ⟨q, q1, q2, q3, q4⟩
  · refine ⟨g, P, by omega, pr_call (R := -1) hu hM hu.2.1 ?_ fun w hw => ?_⟩
    · unfold fn_X11_get
      exact yl_e n1 (yl_p rfl (yl_ok ⟨rfl, hu.1, fr_refl⟩))
    · unfold fn_X12_get
      exact yl_e (n2 w) (yl_p rfl (yl_ok ⟨rfl, hw, fr_refl⟩))
  · have hg2 : mre P (upd g 16 (g 16 + nI (rdn g q (mloc g q)))) := ⟨mwf_upd hw (by omega) (by omega) (by omega) (by omega), by rw [ck_upd (by omega)]; exact hu.2.1.2.1, by rw [mn_upd (by omega)]; exact hu.2.1.2.2⟩
    refine ⟨upd g 16 (g 16 + nI (rdn g q (mloc g q))), P, by omega, pr_call (R := match mloc g q with
      | some i => g (21 + 4 * i)
      | none => -1) hu hM hg2 ?_ fun v hv => ?_⟩
    · unfold fn_X11_get bl_X11_get_52
      refine yl_e q3 (yl_n i_n1 ?_)
      rw [o0, o1, q2]
      refine yl_e (mt_locate a4 hw hu.1 q1) ?_
      refine yl_e (mt_readsTill a4 hw hu.1 q1 ?_) ?_
      · cases hl : mloc g q with
        | none => exact Or.inl rfl
        | some i =>
          obtain ⟨v1, v2, -⟩ := mloc_vc hw q1 hl
          exact Or.inr ⟨i, rfl, v1, v2⟩
      · refine yl_let ?_
        have e15 : u.1 2 15 = g 16 := hu.1.1.2.2.2.1 16 (by omega) (by omega)
        rw [e15]
        have m1 : mt (tc_w u 2 15 (g 16 + nI (rdn g q (mloc g q)))) 2 (upd g 16 (g 16 + nI (rdn g q (mloc g q)))) := mt_upd hu.1 (by omega) (by omega) 2 15 (Or.inr (Or.inl ⟨by omega, by omega, rfl, rfl⟩)) rfl
        have f1 : fr fMc u (tc_w u 2 15 (g 16 + nI (rdn g q (mloc g q)))) := fr_w fr_refl (by unfold fMc; omega)
        have rows : ∀ k, (tc_w u 2 15 (g 16 + nI (rdn g q (mloc g q)))).1 7 k = u.1 7 k := fun k => by rw [w_get, if_neg (by omega)]
        generalize tc_w u 2 15 (g 16 + nI (rdn g q (mloc g q))) = w at m1 f1 rows ⊢
        cases hl : mloc g q with
        | none =>
          rw [hl] at m1
          show yl (if 0 ≤ (-1 : Int32) then _ else _) _
          exact yl_n (by decide) (yl_ok ⟨rfl, m1, f1⟩)
        | some i =>
          rw [hl] at m1
          obtain ⟨v1, v2, v3, -⟩ := mloc_vc hw q1 hl
          have lx := fx_lt a v1
          show yl (if 0 ≤ nI (fx g i) then (tc_ld G w (tc_p G 2 4) (nI (fx g i)) fun x13 => some (x13, w)) else _) _
          refine yl_p (nI_pos' (by omega)) ?_
          rw [a4.2.1.2.1]
          refine yl_ld 69 (a4.2.2.2 _ (by omega) (by omega)) (by omega) (by omega) ?_
          refine yl_ok ⟨?_, m1, f1⟩
          show w.1 7 (fx g i) = g (21 + 4 * i)
          rw [rows]
          exact (mt_key hw hu.1 v1 (by omega)).2.1
    · unfold fn_X12_get bl_X12_get_48
      refine yl_e (q4 v) (yl_n i_n1 ?_)
      rw [q2, b1.1.1, show (16 : Int32) = nI (0 + 16) from rfl, isM_ld b1 hv (by omega) (by omega)]
      refine yl_e (pm_reads b1 (B := 0) (by omega) hv hw q1) ?_
      refine yl_sd 3253 b1.1.2 (by omega) (by omega) ?_
      have m1 : isM (tc_w v 72 (0 + 16) (g 16 + nI (rdn g q (mloc g q)))) 0 (upd g 16 (g 16 + nI (rdn g q (mloc g q)))) := isM_upd hv (by omega) rfl
      have f1 : fr fMr v (tc_w v 72 (0 + 16) (g 16 + nI (rdn g q (mloc g q)))) := fr_w fr_refl (Or.inl ⟨rfl, by omega⟩)
      generalize tc_w v 72 (0 + 16) (g 16 + nI (rdn g q (mloc g q))) = w at m1 f1 ⊢
      refine yl_e (pm_lies b1 (B := 0) (by omega) m1 (mwf_ok hg2.1) q1) ?_
      rw [mlies_loc, mloc_upd (by omega) (by omega) hw]
      cases hl : mloc g q with
      | none =>
        rw [hl] at m1
        show yl (if 0 ≤ (-1 : Int32) then _ else _) _
        exact yl_n (by decide) (yl_ok ⟨rfl, m1, f1⟩)
      | some i =>
        rw [hl] at m1
        obtain ⟨v1, v2, v3, -⟩ := mloc_vc hw q1 hl
        show yl (if 0 ≤ nI (0 + (20 + 4 * i)) then (tc_ld G w 72 (nI (0 + (20 + 4 * i)) + 1) fun x14 => some (x14, w)) else _) _
        refine yl_p (nI_pos' (by omega)) ?_
        rw [nI_1, show 0 + (20 + 4 * i) + 1 = 0 + (21 + 4 * i) by omega, isM_ld b1 m1 (by omega) (by omega), upd_ne (by omega)]
        exact yl_ok ⟨rfl, m1, f1⟩
