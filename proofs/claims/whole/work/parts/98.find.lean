/-! the call find -/
theorem cf_snoc {P : Nat → Bool} : ∀ (n a : Nat), cf P (n + 1) a = cf P n a + (if P (a + n) then 1 else 0) := by
  intro n
  induction n with
  | zero => intro a; rw [cf, cf, cf, show a + 0 = a from rfl]; omega
  | succ n ih =>
    intro a
    rw [cf, ih, cf, show a + 1 + n = a + (n + 1) by omega]
    omega
def cP (g : mp) (x : Nat) : Bool := decide (¬ g (20 + 4 * x) = 0)
theorem cl_cf {g : mp} {b : Nat} (hb : b < mn g 0) : ∀ (n p : Nat), p + n ≤ mn g 1 → (cl g n (b * mn g 1 + p)).length = cf (cP g) n (4 * b + p) := by
  intro n
  induction n with
  | zero => intro p _; rfl
  | succ n ih =>
    intro p hp
    rw [cl, cf, List.length_append, show b * mn g 1 + p + 1 = b * mn g 1 + (p + 1) by omega, ih (p + 1) (by omega), fc_b hb (by omega), show 4 * b + (p + 1) = 4 * b + p + 1 by omega]
    have e : cP g (4 * b + p) = decide (¬ (gc g (4 * b + p)).1 = 0) := rfl
    rw [e]
    by_cases c : (gc g (4 * b + p)).1 = 0
    · rw [if_pos c, if_neg (by simp [c])]
      rfl
    · rw [if_neg c, if_pos (by simp [c])]
      rfl
def bk (i : Nat) : Nat := if i < 64 then i / 4 else 100
def pp (i : Nat) : Nat := if i < 64 then i % 4 else i - 64
def bs (i : Nat) : Nat := if i < 64 then 4 * (i / 4) else 64
theorem pm_bk {G : tc_G} {i : Nat} (hi : i < 68) (w : tc_S) : fn_X12_bucketOf G 71 (nI (0 + (20 + 4 * i))) w = some (nI (bk i), w) := by
  unfold fn_X12_bucketOf bl_X12_bucketOf_19 bk
  rw [show (276 : Int32) = nI 276 from rfl, pu_lt (by omega) (by omega)]
  by_cases c : i < 64
  · rw [if_pos (by omega), if_pos c, show nI (0 + (20 + 4 * i)) - 20 = nI (0 + (20 + 4 * i) - 20) from pk_sub (b := 20) (by omega), show nI (0 + (20 + 4 * i) - 20) / 16 = nI ((0 + (20 + 4 * i) - 20) / 16) from pk_div (d := 16) (by omega) (by omega) (by omega), show (0 + (20 + 4 * i) - 20) / 16 = i / 4 by omega]
  · rw [if_neg (by omega), if_neg c]
    rfl
theorem pm_pp {G : tc_G} {i : Nat} (hi : i < 68) (w : tc_S) : fn_X12_placeOf G 71 (nI (0 + (20 + 4 * i))) w = some (nI (pp i), w) := by
  unfold fn_X12_placeOf bl_X12_placeOf_25 pp
  rw [show (276 : Int32) = nI 276 from rfl, pu_lt (by omega) (by omega)]
  by_cases c : i < 64
  · rw [if_pos (by omega), if_pos c, show nI (0 + (20 + 4 * i)) - 20 = nI (0 + (20 + 4 * i) - 20) from pk_sub (b := 20) (by omega), show nI (0 + (20 + 4 * i) - 20) / 4 = nI ((0 + (20 + 4 * i) - 20) / 4) from pk_div (d := 4) (by omega) (by omega) (by omega), show (0 + (20 + 4 * i) - 20) / 4 = i by omega, show tc_mod (nI i) 4 = nI (i % 4) from pu_mod (d := 4) (by omega) (by omega) (by omega)]
  · rw [if_neg (by omega), if_neg c, show nI (0 + (20 + 4 * i)) - nI 276 = nI (0 + (20 + 4 * i) - 276) from pk_sub (b := 276) (by omega), show nI (0 + (20 + 4 * i) - 276) / 4 = nI ((0 + (20 + 4 * i) - 276) / 4) from pk_div (d := 4) (by omega) (by omega) (by omega), show (0 + (20 + 4 * i) - 276) / 4 = i - 64 by omega]
def rdx (g : mp) (q i : Nat) : Nat := (if bk i = mhash g 0 q then 0 else minb g (mhash g 0 q)) + (if i < 64 then 0 else if mhash g 1 q = mhash g 0 q then 0 else minb g (mhash g 1 q))
def rdt (g : mp) (q i : Nat) : Nat := 1 + cf (cP g) (pp i) (bs i) + rdx g q i
theorem pm_readTo {G : tc_G} (hG : gm G) {w : tc_S} {q i : Nat} {g : mp} (hM : isM w 0 g) (hw : mwf g) (hq : q ≤ 999) (hi : i < 68) : fn_X12_readTo G 71 (nI (0 + (20 + 4 * i))) (nI q) w = some (nI (rdt g q i), w) := by
  have hfu := tc_fu_big
  have a := hw.1.1
  have hk := mwf_ok hw
  have hn := a.2.1.2
  have l0 := wA_hash a 0 q
  have l1 := wA_hash a 1 q
  have e0 : fn_X12_hashOf G 71 0 (nI q) 0 w = some (nI (mhash g 0 q), w) := pm_hash hG (B := 0) (by omega) hM hk (w := 0) (by omega) hq
  have e1 : fn_X12_hashOf G 71 0 (nI q) 1 w = some (nI (mhash g 1 q), w) := pm_hash hG (B := 0) (by omega) hM hk (w := 1) (by omega) hq
  have i0 : fn_X12_inBucket G 71 0 (nI (mhash g 0 q)) w = some (nI (minb g (mhash g 0 q)), w) := pm_inBucket hG (B := 0) (by omega) hM hk (by omega)
  have i1 : fn_X12_inBucket G 71 0 (nI (mhash g 1 q)) w = some (nI (minb g (mhash g 1 q)), w) := pm_inBucket hG (B := 0) (by omega) hM hk (by omega)
  have hbk : bk i ≤ 100 ∧ (bk i = 100 ↔ ¬ i < 64) := by unfold bk; split <;> omega
  have t78 : ∀ m, bl_X12_readTo_78 G 71 (nI q) (nI m) (nI (bk i)) w = some (nI (m + (if i < 64 then 0 else if mhash g 1 q = mhash g 0 q then 0 else minb g (mhash g 1 q))), w) := by
    intro m
    unfold bl_X12_readTo_78 bl_X12_readTo_117 tc_let
    rw [show (100 : Int32) = nI 100 from rfl, pu_eq (by omega) (by omega)]
    by_cases c : i < 64
    · rw [if_neg (by omega), if_pos c]
      rfl
    · rw [if_pos (by omega), if_neg c, e1, pu_b, e0, pu_b, pu_eq (by omega) (by omega)]
      by_cases d : mhash g 1 q = mhash g 0 q
      · rw [if_pos d, if_pos d]
        rfl
      · rw [if_neg d, if_neg d, e1, pu_b, i1, pu_b, nI_add]
  have lo : ∀ (n p f m : Nat), p + n = pp i → n < f → lo_X12_readTo_12 G f 71 (nI (0 + (20 + 4 * i))) (nI q) (nI m) (nI (bk i)) (nI p) w = some (nI (m + cf (cP g) n (bs i + p) + rdx g q i), w) := by
    intro n
    induction n with
    | zero =>
      intro p f m hp hf
      obtain ⟨f, rfl⟩ : ∃ k, f = k + 1 := ⟨f - 1, by omega⟩
      have hpp : pp i < 64 := by unfold pp; split <;> omega
      rw [lo_X12_readTo_12, pm_pp hi, pu_b, pu_le (by omega) (by omega), if_pos (by omega), e0, pu_b, pu_eq (by omega) (by omega), cf]
      unfold rdx
      by_cases c : bk i = mhash g 0 q
      · rw [if_pos c, if_pos c, t78, Nat.zero_add, Nat.add_zero]
      · rw [if_neg c, if_neg c, e0, pu_b, i0, pu_b]
        rw [nI_add]
        show bl_X12_readTo_78 G 71 (nI q) (nI (m + minb g (mhash g 0 q))) (nI (bk i)) w = _
        rw [t78, Nat.add_zero, Nat.add_assoc]
    | succ n ih =>
      intro p f m hp hf
      obtain ⟨f, rfl⟩ : ∃ k, f = k + 1 := ⟨f - 1, by omega⟩
      have hpp : pp i < 64 := by unfold pp; split <;> omega
      have hcell : fn_X12_cell G 0 (nI (bk i)) (nI p) w = some (nI (20 + 4 * (bs i + p)), w) := by
        by_cases c : i < 64
        · have := pm_cell (G := G) (u := w) (B := 0) (b := bk i) (p := p) (by omega)
          rw [mcell_ci, Nat.zero_add] at this
          rw [show bs i = 4 * bk i by unfold bs bk; rw [if_pos c, if_pos c]]
          exact this
        · have := pm_cellS (G := G) (u := w) (B := 0) (p := p)
          rw [msc_ci, Nat.zero_add] at this
          rw [hbk.2.mpr c, show bs i = 64 by unfold bs; rw [if_neg c]]
          exact this
      have hx : bs i + p < 68 := by
        by_cases c : i < 64
        · unfold pp at hp; unfold bs; rw [if_pos c] at hp ⊢; omega
        · unfold pp at hp; unfold bs; rw [if_neg c] at hp ⊢; omega
      have hc := hw.1.2.2.1 (bs i + p) (by omega)
      have hz : w.1 72 (20 + 4 * (bs i + p)) = g (20 + 4 * (bs i + p)) := by
        have := hM (20 + 4 * (bs i + p)) (by omega)
        rwa [Nat.zero_add] at this
      have hE := pm_isEntry hG (u := w) (x := 20 + 4 * (bs i + p)) (q := ck g (bs i + p)) (by omega) (by rw [hz]; exact hc.1) (by omega)
      rw [lo_X12_readTo_12, pm_pp hi, pu_b, pu_le (by omega) (by omega), if_neg (by omega), hcell, pu_b, hE, pu_b, hz, cf]
      unfold bl_X12_readTo_43 tc_let
      have e : cP g (bs i + p) = decide (¬ g (20 + 4 * (bs i + p)) = 0) := rfl
      rw [e]
      by_cases c : g (20 + 4 * (bs i + p)) = 0
      · rw [if_pos c, if_pos rfl, if_neg (by simp [c])]
        show lo_X12_readTo_12 G f 71 (nI (0 + (20 + 4 * i))) (nI q) (nI m + nI 0) (nI (bk i)) (nI p + 1) w = _
        rw [nI_1, nI_add, ih (p + 1) f _ (by omega) (by omega), show bs i + (p + 1) = bs i + p + 1 by omega, Nat.zero_add, Nat.add_zero]
      · rw [if_neg c, if_neg i_n1, if_pos (by simp [c])]
        show lo_X12_readTo_12 G f 71 (nI (0 + (20 + 4 * i))) (nI q) (nI m + 1) (nI (bk i)) (nI p + 1) w = _
        rw [nI_1, nI_1, ih (p + 1) f _ (by omega) (by omega), show bs i + (p + 1) = bs i + p + 1 by omega, Nat.add_assoc m 1]
  unfold fn_X12_readTo
  rw [pm_bk hi, pu_b]
  show lo_X12_readTo_12 G tc_fu 71 (nI (0 + (20 + 4 * i))) (nI q) (nI 1) (nI (bk i)) (nI 0) w = _
  have hpp : pp i < 64 := by unfold pp; split <;> omega
  rw [lo (pp i) 0 tc_fu 1 (by omega) (by omega), Nat.add_zero]
  rfl
theorem mt_startOf {G : tc_G} {u : tc_S} {t b : Nat} {g : mp} (hT : gT G t 64) (a : wA g) (h : mt u t g) : fn_X9_startOf G t (nI b) u = some (nI (b * mn g 1), u) := by
  unfold fn_X9_startOf
  rw [hT.1.1, mt_set h (by omega), a.1 1 (by omega), pk_mul]
theorem mt_entriesTill {G : tc_G} {u : tc_S} {t q i : Nat} {g : mp} (hT : gT G t 64) (hw : mwf g) (h : mt u t g) (hq : q ≤ 999) (hv : vc g i) (hi : i < 68) (hc : ck g i = q + 1) (h1 : i < 64 → i / 4 = mhash g 0 q ∨ i / 4 = mhash g 1 q) (h2 : 64 ≤ i → i - 64 < mn g 18) : fn_X9_entriesTill G t (nI (fx g i)) u = some (nI (rdt g q i), u) := by
  have hfu := tc_fu_big
  have a := hw.1.1
  have hn := a.2.1.2
  have l0 := wA_hash a 0 q
  have l1 := wA_hash a 1 q
  have lx := fx_lt a hv
  have hk := mt_key hw h hv (by omega)
  rw [hc, show q + 1 - 1 = q by omega] at hk
  obtain ⟨-, -, -, -, k8, k9⟩ := hk
  have f0 := mt_inb h l0
  have f1 := mt_inb h l1
  have p9 := hT.2.1.2.2.2.2.2.2
  have p7 := hT.2.1.2.2.2.2.1
  have p8 := hT.2.1.2.2.2.2.2.1
  have en : i < 64 → fn_X9_entriesFrom G t (nI (i / 4 * mn g 1)) (nI (fx g i)) u = some (nI (1 + cf (cP g) (pp i) (bs i)), u) := by
    intro c
    have hv2 := hv.2 c
    unfold fn_X9_entriesFrom
    have ef : fx g i = i / 4 * mn g 1 + i % 4 := by unfold fx; rw [if_pos c]
    have := mt_entriesFrom hT h (b := fx g i) (by omega) (i % 4 + 1) (i / 4 * mn g 1) tc_fu 0 (by omega) (by omega)
    show lo_X9_entriesFrom_5 G tc_fu t (nI (fx g i)) (nI 0) (nI (i / 4 * mn g 1)) u = _
    have c2 := cl_cf hv2.1 (i % 4 + 1) 0 (by omega)
    rw [cf_snoc, show i / 4 * mn g 1 + 0 = i / 4 * mn g 1 from rfl, show 4 * (i / 4) + 0 = 4 * (i / 4) from rfl] at c2
    have e : cP g (4 * (i / 4) + i % 4) = true := by
      have c3 := hw.1.2.2.1 i (by omega)
      unfold cP
      rw [show 4 * (i / 4) + i % 4 = i by omega, c3.1, hc]
      exact decide_eq_true (nI_ne0 (by omega) (by omega))
    rw [e, if_pos rfl] at c2
    rw [this, c2]
    unfold pp bs
    rw [if_pos c, if_pos c, Nat.zero_add, Nat.add_comm]
  unfold fn_X9_entriesTill bl_X9_entriesTill_35 bl_X9_entriesTill_95
  rw [(mt_room h).1, p7, p8, p9, pu_ld (hT.2.2.2 _ (by omega) (by omega)) (show fx g i < 69 by omega) (by omega), k8, pu_le (by omega) (by omega)]
  unfold rdt rdx
  by_cases c : i < 64
  · have hd := fx_div a hv c
    have hv2 := hv.2 c
    have bki : bk i = i / 4 := by unfold bk; rw [if_pos c]
    rw [if_neg (by have := lx.2.2.mp c; omega), pc_bucketOf hT a h (by omega), pu_b, hd.1, pu_eq (by omega) (by omega), bki, if_pos c]
    by_cases d : i / 4 = mhash g 0 q
    · rw [if_pos d, if_pos d, mt_startOf hT a h, pu_b, ← d, en c, pu_b]
      rfl
    · have d1 : mhash g 1 q = i / 4 := by
        rcases h1 c with w | w
        · exact absurd w d
        · exact w.symm
      rw [if_neg d, if_neg d, pu_ld (hT.2.2.2 _ (by omega) (by omega)) (show fx g i < 69 by omega) (by omega), k9, (mt_room h).1, pu_le (by omega) (by omega), if_neg (by have := lx.2.2.mp c; omega), pu_ld hT.2.2.1 (show mhash g 0 q < 32 by omega) (by omega), f0, mt_startOf hT a h, pu_b, d1, en c, pu_b, nI_add]
      congr 3
      omega
  · have ef : fx g i = i := by unfold fx; rw [if_neg c]
    have bki : bk i = 100 := by unfold bk; rw [if_neg c]
    have hcf : cf (cP g) (pp i) (bs i) = i - 64 := by
      unfold pp bs
      rw [if_neg c, if_neg c]
      refine cf_full fun j j1 j2 => ?_
      have h4 : mn g 18 ≤ 4 := Nat.le_trans hw.1.2.1.2 a.2.2.2.1
      have h5 := h2 (by omega)
      have c3 := hw.1.2.2.1 j (by omega)
      have c4 := (hw.2 (j - 64) (by omega)).mpr (by omega)
      rw [show 64 + (j - 64) = j by omega] at c4
      unfold cP
      rw [c3.1]
      exact decide_eq_true (nI_ne0 (by omega) (by omega))
    rw [if_pos (by rw [ef]; omega), pu_ld (hT.2.2.2 _ (by omega) (by omega)) (show fx g i < 69 by omega) (by omega), k9, pu_le (by omega) (by omega), if_pos (by rw [ef]; omega), pu_eq (by omega) (by omega), hcf, if_neg c, if_neg (show ¬ bk i = mhash g 0 q by omega), ef]
    have fin : ∀ s, some (((nI s + nI i) - nI 64) + 1, u) = some (nI (1 + (i - 64) + s), u) := by
      intro s
      rw [nI_add, pk_sub (by omega), nI_1, show s + i - 64 + 1 = 1 + (i - 64) + s by omega]
    by_cases d : mhash g 0 q = mhash g 1 q
    · rw [if_pos d, if_pos d.symm, pu_ld hT.2.2.1 (show mhash g 0 q < 32 by omega) (by omega), f0, fin, Nat.add_zero]
    · rw [if_neg d, if_neg (fun z => d z.symm), pu_ld hT.2.2.1 (show mhash g 0 q < 32 by omega) (by omega), pu_ld hT.2.2.1 (show mhash g 1 q < 32 by omega) (by omega), f0, f1, nI_add, fin]
theorem c_find {G : tc_G} (hA : gA G) {L : tc_L} {u : tc_S} {P : Nat} {g : mp} (x y : Int32) (hu : cC u P g) (hM : isM u 0 g) : ∃ g2 P2, P2 ≤ P + 12 ∧ yl (tc_b (fn_X11_find G 0 x y u) fun r1 u1 => tc_b (fn_X12_find G 71 x y u1) fun r2 u2 => if r1 = r2 then some (L, u2) else none) (pqq L u P2 g2) := by
  obtain ⟨⟨o0, o1, o2, o3, o4, o5, o6, o7, o8, o9, o10⟩, ⟨a1, a2, a3⟩, ⟨a4, a5, a6, a7⟩, b1, b2, b3, b4⟩ := hA
  have hw := hu.2.1.1
  have a := hw.1.1
  have hk := mwf_ok hw
  rcases pc_isNum (G := G) (u := u) x with ⟨n1, n2⟩ | ⟨q, q1, q2, q3, q4⟩
  · refine ⟨g, P, by omega, pr_call (R := -1) hu hM hu.2.1 ?_ fun w hw => ?_⟩
    · unfold fn_X11_find bl_X11_find_24
      exact yl_e n1 (yl_p rfl (yl_n (by decide) (yl_ok ⟨rfl, hu.1, fr_refl⟩)))
    · unfold fn_X12_find bl_X12_find_17
      exact yl_e (n2 w) (yl_p rfl (yl_n (by decide) (yl_ok ⟨rfl, hw, fr_refl⟩)))
  · have cls : ∀ R : Int32, bl_X11_find_24 G (nI q) y 2 (oI ((mloc g q).map (fx g))) u = some (R, u) → y2 (fn_X11_find G 0 x y u) (fun r w => r = R ∧ mt w 2 g ∧ fr fMc u w) := by
      intro R hR
      unfold fn_X11_find
      refine yl_e q3 (yl_n i_n1 ?_)
      rw [o0, o1, q2]
      exact yl_e (mt_locate a4 hw hu.1 q1) ⟨_, hR, rfl, hu.1, fr_refl⟩
    have rfc : ∀ (R : Int32) (w : tc_S), isM w 0 g → (bl_X12_find_17 G 71 (nI q) y (oI ((mloc g q).map fun i => 0 + (20 + 4 * i))) w = some (R, w)) → y2 (fn_X12_find G 71 x y w) (fun r v => r = R ∧ isM v 0 g ∧ fr fMr w v) := by
      intro R w hw2 hR
      unfold fn_X12_find
      refine yl_e (q4 w) (yl_n i_n1 ?_)
      rw [q2]
      have e : fn_X12_lies G 71 0 (nI q) w = some (oI ((mloc g q).map fun i => 0 + (20 + 4 * i)), w) := by
        have := pm_lies b1 (B := 0) (by omega) hw2 hk q1
        rw [mlies_loc] at this
        refine this.trans ?_
        cases mloc g q <;> rfl
      exact yl_e e ⟨_, hR, rfl, hw2, fr_refl⟩
    cases hl : mloc g q with
    | none =>
      rw [hl] at cls rfc
      refine ⟨g, P, by omega, pr_call (R := -1) hu hM hu.2.1 (cls _ ?_) fun w hw2 => rfc _ w hw2 ?_⟩
      · show bl_X11_find_24 G (nI q) y 2 (-1) u = _
        unfold bl_X11_find_24
        rw [if_neg (by decide)]
      · show bl_X12_find_17 G 71 (nI q) y (-1) w = _
        unfold bl_X12_find_17
        rw [if_neg (by decide)]
    | some i =>
      rw [hl] at cls rfc
      obtain ⟨v1, v2, v3, v4, v5⟩ := mloc_vc hw q1 hl
      have lx := fx_lt a v1
      have hkey := mt_key hw hu.1 v1 (by omega)
      have hpp : pp i < 64 := by unfold pp; split <;> omega
      -- both, asked what
      have both : ∀ R : Int32, (∀ s, (s = 0 ∧ i < 64 ∨ s = 1 ∧ ¬ i < 64) → bl_X11_find_47 G (nI q) y 2 (nI (fx g i)) s u = some (R, u)) → (∀ w, isM w 0 g → bl_X12_find_17 G 71 (nI q) y (nI (0 + (20 + 4 * i))) w = some (R, w)) → ∃ g2 P2, P2 ≤ P + 12 ∧ yl (tc_b (fn_X11_find G 0 x y u) fun r1 u1 => tc_b (fn_X12_find G 71 x y u1) fun r2 u2 => if r1 = r2 then some (L, u2) else none) (pqq L u P2 g2) := by
        intro R h1 h2
        refine ⟨g, P, by omega, pr_call (R := R) hu hM hu.2.1 (cls _ ?_) fun w hw2 => rfc _ w hw2 (h2 w hw2)⟩
        show bl_X11_find_24 G (nI q) y 2 (nI (fx g i)) u = _
        unfold bl_X11_find_24
        rw [if_pos (nI_pos' (by omega)), (mt_room hu.1).1, pu_lt (by omega) (by omega)]
        by_cases c : i < 64
        · rw [if_pos (lx.2.2.mp c)]
          exact h1 0 (Or.inl ⟨rfl, c⟩)
        · rw [if_neg (fun z => c (lx.2.2.mpr z))]
          exact h1 1 (Or.inr ⟨rfl, c⟩)
      by_cases y0 : y.toInt = 0
      · refine both (nI (bk i)) (fun s hs => ?_) fun w hw2 => ?_
        · unfold bl_X11_find_47 bl_X11_find_104 bk
          rw [if_pos y0]
          rcases hs with ⟨rfl, c⟩ | ⟨rfl, c⟩
          · rw [if_pos rfl, pc_bucketOf a4 a hu.1 (by omega), pu_b, (fx_div a v1 c).1, if_pos c]
          · rw [if_neg i_n1, if_neg c]
            rfl
        · unfold bl_X12_find_17
          rw [if_pos (nI_pos' (by omega)), if_pos y0, pm_bk v2, pu_b]
      · by_cases y1 : y.toInt = 1
        · refine both (nI (pp i)) (fun s hs => ?_) fun w hw2 => ?_
          · unfold bl_X11_find_47 bl_X11_find_133 pp
            rw [if_neg y0, if_pos y1]
            rcases hs with ⟨rfl, c⟩ | ⟨rfl, c⟩
            · have hd := fx_div a v1 c
              rw [if_pos rfl, pc_bucketOf a4 a hu.1 (by omega), pu_b, hd.1, mt_startOf a4 a hu.1, pu_b, if_pos c, pk_sub hd.2.2, hd.2.1]
            · rw [if_neg i_n1, if_neg c, (mt_room hu.1).1, show fx g i = i by unfold fx; rw [if_neg c], pk_sub (by omega)]
          · unfold bl_X12_find_17
            rw [if_pos (nI_pos' (by omega)), if_neg y0, if_pos y1, pm_pp v2, pu_b]
        · by_cases y2 : y.toInt = 2
          · refine both (nI (rdn g q (some i))) (fun s hs => ?_) fun w hw2 => ?_
            · unfold bl_X11_find_47
              have := mt_readsTill a4 hw hu.1 q1 (o := some i) (Or.inr ⟨i, rfl, v1, v2⟩)
              have e : fn_X9_readsTill G 2 (nI q) (nI (fx g i)) u = some (nI (rdn g q (some i)), u) := this
              rw [if_neg y0, if_neg y1, if_pos y2, e, pu_b]
            · unfold bl_X12_find_17
              have e : fn_X12_reads G 71 0 (nI q) w = some (nI (rdn g q (mloc g q)), w) := pm_reads b1 (B := 0) (by omega) hw2 hw q1
              rw [if_pos (nI_pos' (by omega)), if_neg y0, if_neg y1, if_pos y2, e, hl, pu_b]
          · by_cases y3 : y.toInt = 3
            · refine both (g (22 + 4 * i)) (fun s hs => ?_) fun w hw2 => ?_
              · unfold bl_X11_find_47
                rw [if_neg y0, if_neg y1, if_neg y2, if_pos y3, a4.2.1.2.2.1, pu_ld (a4.2.2.2 _ (by omega) (by omega)) (show fx g i < 69 by omega) (by omega), hkey.2.2.1]
                rfl
              · unfold bl_X12_find_17
                rw [if_pos (nI_pos' (by omega)), if_neg y0, if_neg y1, if_neg y2, if_pos y3, b1.1.1, show nI (0 + (20 + 4 * i)) + 2 = nI (0 + (20 + 4 * i) + 2) from nI_add _ 2, show 0 + (20 + 4 * i) + 2 = 0 + (22 + 4 * i) by omega, isM_ld b1 hw2 (by omega) (by omega)]
            · by_cases y4 : y.toInt = 4
              · refine both (g (23 + 4 * i)) (fun s hs => ?_) fun w hw2 => ?_
                · unfold bl_X11_find_47
                  rw [if_neg y0, if_neg y1, if_neg y2, if_neg y3, if_pos y4, a4.2.1.2.2.2.1, pu_ld (a4.2.2.2 _ (by omega) (by omega)) (show fx g i < 69 by omega) (by omega), hkey.2.2.2.1]
                  rfl
                · unfold bl_X12_find_17
                  rw [if_pos (nI_pos' (by omega)), if_neg y0, if_neg y1, if_neg y2, if_neg y3, if_pos y4, b1.1.1, show nI (0 + (20 + 4 * i)) + 3 = nI (0 + (20 + 4 * i) + 3) from nI_add _ 3, show 0 + (20 + 4 * i) + 3 = 0 + (23 + 4 * i) by omega, isM_ld b1 hw2 (by omega) (by omega)]
              · by_cases y5 : y.toInt = 5
                · refine both (nI (rdt g q i)) (fun s hs => ?_) fun w hw2 => ?_
                  · unfold bl_X11_find_47
                    rw [if_neg y0, if_neg y1, if_neg y2, if_neg y3, if_neg y4, if_pos y5, mt_entriesTill a4 hw hu.1 q1 v1 v2 v3 v4 v5, pu_b]
                  · unfold bl_X12_find_17
                    rw [if_pos (nI_pos' (by omega)), if_neg y0, if_neg y1, if_neg y2, if_neg y3, if_neg y4, if_pos y5, pm_readTo b1 hw2 hw q1 v2, pu_b]
                · refine both (-1) (fun s hs => ?_) fun w hw2 => ?_
                  · unfold bl_X11_find_47
                    rw [if_neg y0, if_neg y1, if_neg y2, if_neg y3, if_neg y4, if_neg y5]
                  · unfold bl_X12_find_17
                    rw [if_pos (nI_pos' (by omega)), if_neg y0, if_neg y1, if_neg y2, if_neg y3, if_neg y4, if_neg y5]
