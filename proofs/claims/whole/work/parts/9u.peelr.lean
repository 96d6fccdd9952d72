/-! peel: the reference -/
def gm5 (G : tc_G) : Prop := (tc_p G 71 14 = 81 ∧ tc_p G 71 15 = 82 ∧ tc_p G 71 16 = 83) ∧ G.2.2.1 81 = 72 ∧ G.2.2.1 82 = 72 ∧ G.2.2.1 83 = 72
theorem in_gm5 : gm5 (tc_gl in_L4) := ⟨⟨rfl, rfl, rfl⟩, rfl, rfl, rfl⟩
def mk (g : mp) (k : Nat) : Nat := ky ((mes g)[k]?.getD e0)
theorem mk_get {g : mp} {k : Nat} (h : k < (mes g).length) : mk g k = ky (mes g)[k] := by
  unfold mk
  rw [List.getElem?_eq_getElem h]
  rfl
theorem mk_key {g : mp} (hw : mwf g) {k : Nat} (h : k < (mes g).length) : (mes g)[k].1 = nI (mk g k + 1) ∧ mk g k ≤ 999 := by
  obtain ⟨p, p1, p2⟩ := mes_key hw _ (List.getElem_mem h)
  have : mk g k = p := by
    rw [mk_get h]
    unfold ky
    rw [p2, nI_clamp (by omega)]
    omega
  rw [this]
  exact ⟨p2, p1⟩
theorem mk_inj {g : mp} (hw : mwf g) : ∀ j k, j < k → k < (mes g).length → mk g j ≠ mk g k := by
  intro j k hjk hk e
  have hp := List.pairwise_iff_getElem.mp (mes_adm (h := g) hw rfl).2 j k (by omega) hk hjk
  have a := mk_key hw (k := j) (by omega)
  have b := mk_key hw (k := k) hk
  rw [a.1, b.1, nI_clamp (by omega), nI_clamp (by omega)] at hp
  omega
theorem mk_lf0 {g : mp} (hw : mwf g) {q : Nat} : lf0 g q = true ↔ ∃ k, k < (mes g).length ∧ mk g k = q := by
  unfold lf0
  rw [List.any_eq_true]
  constructor
  · rintro ⟨e, he, hq⟩
    have hq := of_decide_eq_true hq
    obtain ⟨k, hk, rfl⟩ := List.mem_iff_getElem.mp he
    refine ⟨k, hk, ?_⟩
    have := mk_key hw hk
    rw [this.1, nI_clamp (by omega)] at hq
    omega
  · rintro ⟨k, hk, hq⟩
    refine ⟨(mes g)[k], List.getElem_mem hk, decide_eq_true ?_⟩
    have := mk_key hw hk
    rw [this.1, nI_clamp (by omega)]
    omega
def rB (g : mp) (u : tc_S) (lf : Nat → Bool) (out : List (Nat × Nat)) : Prop :=
  ls u (mes g) ∧ (∀ k, k < (mes g).length → u.1 83 k = (if lf (mk g k) = true then 1 else 0)) ∧ u.1 71 17 = nI out.length ∧
  (∀ j p, out[j]? = some p → (∃ k, k < (mes g).length ∧ u.1 81 j = nI k ∧ mk g k = p.1) ∧ u.1 82 j = nI p.2) ∧ out.length + cf lf 1000 0 ≤ 68 ∧ (∀ q, lf q = true → ∃ k, k < (mes g).length ∧ mk g k = q)
def fZ (o k : Nat) : Prop := (80 ≤ o ∧ o ≤ 83) ∨ (o = 71 ∧ (k = 12 ∨ k = 17))
theorem pr_meets {G : tc_G} (hG : gm G) (h4 : gm4 G) {u : tc_S} {g : mp} {b k : Nat} (hM : isM u 0 g) (hw : mwf g) (hl : ls u (mes g)) (hk : k < (mes g).length) (hb : b < 16) : fn_X12_meets G 71 0 (nI k) (nI b) u = some (if mts g b (mk g k) = true then 1 else 0, u) := by
  have aa := hw.1.1
  have hn := aa.2.1.2
  have hln := mes_len hw
  have l0 := wA_hash aa 0 (mk g k)
  have l1 := wA_hash aa 1 (mk g k)
  obtain ⟨m1, m2⟩ := mk_key hw hk
  have e0 : fn_X12_hashOf G 71 0 (nI (mk g k)) 0 u = some (nI (mhash g 0 (mk g k)), u) := pm_hash hG (B := 0) (by omega) hM (mwf_ok hw) (w := 0) (by omega) m2
  have e1 : fn_X12_hashOf G 71 0 (nI (mk g k)) 1 u = some (nI (mhash g 1 (mk g k)), u) := pm_hash hG (B := 0) (by omega) hM (mwf_ok hw) (w := 1) (by omega) m2
  unfold fn_X12_meets bl_X12_meets_36 bl_X12_meets_41 tc_let
  rw [h4.1, show (4 : Int32) * nI k = nI (4 * k) from pk_mul 4 k, pu_ld h4.2 (by omega) (by omega), (hl.2 k hk).1, m1, nI_pred]
  dsimp only
  rw [e0, pu_b, e1, pu_b, pu_eq (by omega) (by omega), pu_eq (by omega) (by omega)]
  unfold mts
  by_cases c0 : mhash g 0 (mk g k) = b
  · rw [if_pos c0, decide_eq_true c0]
    rfl
  · rw [if_neg c0, decide_eq_false c0, Bool.false_or]
    by_cases c1 : mhash g 1 (mk g k) = b
    · rw [if_pos c1, decide_eq_true c1]
      rfl
    · rw [if_neg c1, decide_eq_false c1]
      rfl
theorem pr_leftIn {G : tc_G} (hG : gm G) (h4 : gm4 G) (h5 : gm5 G) {u : tc_S} {g : mp} {lf : Nat → Bool} {out : List (Nat × Nat)} {b : Nat} (hM : isM u 0 g) (hw : mwf g) (hr : rB g u lf out) (hb : b < 16) : fn_X12_leftIn G 71 0 (nI b) u = some (nI (deg g lf b), u) := by
  have hfu := tc_fu_big
  have hln := mes_len hw
  have hl := hr.1
  have lo : ∀ (n k f c : Nat), k + n = (mes g).length → n < f → lo_X12_leftIn_5 G f 71 0 (nI b) (nI c) (nI k) u = some (nI (c + cf (fun k => lf (mk g k) && mts g b (mk g k)) n k), u) := by
    intro n
    induction n with
    | zero =>
      intro k f c hk hf
      obtain ⟨f, rfl⟩ : ∃ k, f = k + 1 := ⟨f - 1, by omega⟩
      rw [lo_X12_leftIn_5, hl.1, pu_le (by omega) (by omega), if_pos (by omega)]
      rfl
    | succ n ih =>
      intro k f c hk hf
      obtain ⟨f, rfl⟩ : ∃ k, f = k + 1 := ⟨f - 1, by omega⟩
      rw [lo_X12_leftIn_5, hl.1, pu_le (by omega) (by omega), if_neg (by omega), h5.1.2.2, pu_ld h5.2.2.2 (by omega) (by omega), hr.2.1 k (by omega), pr_meets hG h4 hM hw hl (by omega) hb, pu_b, cf]
      unfold bl_X12_leftIn_40 bl_X12_leftIn_41 tc_let
      rw [nI_1, nI_1, Int32.add_zero]
      by_cases c1 : lf (mk g k) = true
      · rw [if_pos c1, if_neg i_n1, c1, Bool.true_and]
        by_cases c2 : mts g b (mk g k) = true
        · rw [if_pos c2, if_neg i_n1, if_pos c2, ← Nat.add_assoc]
          exact ih (k + 1) f (c + 1) (by omega) (by omega)
        · rw [if_neg c2, if_pos rfl, if_neg c2, Nat.zero_add]
          exact ih (k + 1) f c (by omega) (by omega)
      · rw [if_neg c1, if_pos rfl, show (lf (mk g k) && mts g b (mk g k)) = false by rw [Bool.not_eq_true] at c1; rw [c1]; rfl, show (if (false : Bool) = true then 1 else 0) = 0 from rfl, Nat.zero_add]
        exact ih (k + 1) f c (by omega) (by omega)
  have z := lo (mes g).length 0 tc_fu 0 (by omega) (by omega)
  rw [Nat.zero_add] at z
  have e := cf_bij (N := 1000) (mes g).length (mk g) (fun q => lf q && mts g b q) (mk_inj hw) (fun k hk => by have := (mk_key hw hk).2; omega) (fun q _ hq => hr.2.2.2.2.2 q (by rw [Bool.and_eq_true] at hq; exact hq.1))
  unfold deg
  rw [← e]
  exact z
theorem pr_peelable {G : tc_G} (hG : gm G) (h4 : gm4 G) (h5 : gm5 G) {u : tc_S} {g : mp} {lf : Nat → Bool} {out : List (Nat × Nat)} (hM : isM u 0 g) (hw : mwf g) (hr : rB g u lf out) : fn_X12_peelable G 71 0 u = some (oI (pkb g lf), u) := by
  have hfu := tc_fu_big
  have aa := hw.1.1
  have hn := aa.2.1.2
  have hs := aa.2.2.1
  have z0 : ∀ {β : Type} (kk : Int32 → Option β), tc_ld G u 72 (0 + 0) kk = kk (g 0) := fun kk => isM_ld hG (B := 0) (k := 0) hM (by omega) (by omega)
  have z1 : ∀ {β : Type} (kk : Int32 → Option β), tc_ld G u 72 (0 + 1) kk = kk (g 1) := fun kk => isM_ld hG (B := 0) (k := 1) hM (by omega) (by omega)
  have lo : ∀ (n k f : Nat), k + n = mn g 0 → n < f → lo_X12_peelable_2 G f 71 0 (nI k) u = some (oI (ff (fun b => decide (1 ≤ deg g lf b ∧ deg g lf b ≤ mn g 1)) n k), u) := by
    intro n
    induction n with
    | zero =>
      intro k f hk hf
      obtain ⟨f, rfl⟩ : ∃ k, f = k + 1 := ⟨f - 1, by omega⟩
      rw [lo_X12_peelable_2, hG.1.1, z0, aa.1 0 (by omega), pu_le (by omega) (by omega), if_pos (by omega)]
      rfl
    | succ n ih =>
      intro k f hk hf
      obtain ⟨f, rfl⟩ : ∃ k, f = k + 1 := ⟨f - 1, by omega⟩
      have hdb : deg g lf k ≤ 1000 := cf_le
      rw [lo_X12_peelable_2, hG.1.1, z0, aa.1 0 (by omega), pu_le (by omega) (by omega), if_neg (by omega), pr_leftIn hG h4 h5 hM hw hr (by omega), pu_b, z1, aa.1 1 (by omega), ff]
      rcases pm_isInB (G := G) (nI (deg g lf k)) 1 (mn g 1) (by omega) (by omega) with ⟨c1, c2⟩ | ⟨q, q1, q2, q3, q4⟩
      · have c2 : fn_X12_isIn G (nI (deg g lf k)) 1 (nI (mn g 1)) u = some (0, u) := c2 u
        rw [c2, pu_b, if_pos rfl, if_neg]
        · unfold tc_let
          rw [nI_1]
          exact ih (k + 1) f (by omega) (by omega)
        · rw [decide_eq_true_iff]
          rintro ⟨d1, d2⟩
          rcases c1 with w | w
          · exact absurd w (nI_nlt d1 (by omega))
          · exact absurd w (nI_nlt d2 (by omega))
      · have q4 : fn_X12_isIn G (nI (deg g lf k)) 1 (nI (mn g 1)) u = some (1, u) := q4 u
        have eq : deg g lf k = q := by
          have := congrArg Int32.toNatClampNeg q3
          rwa [nI_clamp (by omega), nI_clamp (by omega)] at this
        rw [q4, pu_b, if_neg i_n1, if_pos (decide_eq_true (by omega))]
        rfl
  exact lo (mn g 0) 0 tc_fu (by omega) (by omega)
/-- the one of the least key among those that are so -/
def bst (g : mp) (P : Nat → Bool) (k : Nat) (r : Int32) : Prop := (r = -1 ∧ ∀ j, j < k → P (mk g j) = false) ∨ ∃ a, a < k ∧ r = nI a ∧ P (mk g a) = true ∧ ∀ j, j < k → P (mk g j) = true → mk g a ≤ mk g j
theorem pr_least {G : tc_G} (hG : gm G) (h4 : gm4 G) (h5 : gm5 G) {u : tc_S} {g : mp} {lf P : Nat → Bool} {v : Int32} (hw : mwf g) (hl : ls u (mes g)) (hf : ∀ k, k < (mes g).length → u.1 83 k = (if lf (mk g k) = true then 1 else 0)) (hv : (v = -1 ∧ P = lf) ∨ (isM u 0 g ∧ ∃ b, b < 16 ∧ v = nI b ∧ P = fun q => lf q && mts g b q)) : y2 (fn_X12_leastLeft G 71 0 v u) (fun r w => w = u ∧ bst g P (mes g).length r) := by
  have hfu := tc_fu_big
  have hln := mes_len hw
  have lo : ∀ (n k f : Nat) (r : Int32), k + n = (mes g).length → n < f → bst g P k r → y2 (lo_X12_leastLeft_5 G f 71 0 v r (nI k) u) (fun r w => w = u ∧ bst g P (mes g).length r) := by
    intro n
    induction n with
    | zero =>
      intro k f r hk hf2 hb
      obtain ⟨f, rfl⟩ : ∃ k, f = k + 1 := ⟨f - 1, by omega⟩
      rw [lo_X12_leastLeft_5, hl.1, pu_le (by omega) (by omega), if_pos (by omega)]
      rw [show k = (mes g).length by omega] at hb
      exact yl_ok ⟨rfl, hb⟩
    | succ n ih =>
      intro k f r hk hf2 hb
      obtain ⟨f, rfl⟩ : ∃ k, f = k + 1 := ⟨f - 1, by omega⟩
      have hkl : k < (mes g).length := by omega
      have skip : P (mk g k) = false → y2 (bl_X12_leastLeft_73 G (lo_X12_leastLeft_5 G f) 71 0 v r (nI k) u) (fun r w => w = u ∧ bst g P (mes g).length r) := by
        intro hp
        unfold bl_X12_leastLeft_73
        refine yl_let ?_
        rw [nI_1]
        refine ih (k + 1) f r (by omega) (by omega) ?_
        rcases hb with ⟨b1, b2⟩ | ⟨a, a1, a2, a3, a4⟩
        · refine Or.inl ⟨b1, fun j hj => ?_⟩
          by_cases d : j = k
          · rw [d]; exact hp
          · exact b2 j (by omega)
        · refine Or.inr ⟨a, by omega, a2, a3, fun j hj hpj => ?_⟩
          by_cases d : j = k
          · rw [d, hp] at hpj; cases hpj
          · exact a4 j (by omega) hpj
      have take : P (mk g k) = true → (∀ j, j < k → P (mk g j) = true → mk g k ≤ mk g j) → y2 (bl_X12_leastLeft_66 G (lo_X12_leastLeft_5 G f) 71 0 v (nI k) u) (fun r w => w = u ∧ bst g P (mes g).length r) := by
        intro hp hm
        unfold bl_X12_leastLeft_66 bl_X12_leastLeft_72 bl_X12_leastLeft_73
        refine yl_let ?_
        rw [nI_1]
        refine ih (k + 1) f (nI k) (by omega) (by omega) (Or.inr ⟨k, by omega, rfl, hp, fun j hj hpj => ?_⟩)
        by_cases d : j = k
        · rw [d]; exact Nat.le_refl _
        · exact hm j (by omega) hpj
      have comp : P (mk g k) = true → y2 (bl_X12_leastLeft_42 G (lo_X12_leastLeft_5 G f) 71 0 v r (nI k) u) (fun r w => w = u ∧ bst g P (mes g).length r) := by
        intro hp
        unfold bl_X12_leastLeft_42
        rcases hb with ⟨b1, b2⟩ | ⟨a, a1, a2, a3, a4⟩
        · rw [b1]
          refine yl_p (by decide) (take hp fun j hj hpj => ?_)
          rw [b2 j hj] at hpj
          cases hpj
        · rw [a2]
          obtain ⟨m1, m2⟩ := mk_key hw hkl
          obtain ⟨m3, m4⟩ := mk_key hw (k := a) (by omega)
          refine yl_n (nI_pos (by omega)) ?_
          rw [h4.1, show (4 : Int32) * nI k = nI (4 * k) from pk_mul 4 k, show (4 : Int32) * nI a = nI (4 * a) from pk_mul 4 a]
          refine yl_ld 288 h4.2 (by omega) (by omega) ?_
          refine yl_ld 288 h4.2 (by omega) (by omega) ?_
          rw [(hl.2 k hkl).1, (hl.2 a (by omega)).1, m1, m3, pu_le (by omega) (by omega)]
          by_cases d : mk g a + 1 ≤ mk g k + 1
          · refine yl_p d ?_
            unfold bl_X12_leastLeft_72 bl_X12_leastLeft_73
            refine yl_let ?_
            rw [nI_1]
            refine ih (k + 1) f (nI a) (by omega) (by omega) (Or.inr ⟨a, by omega, rfl, a3, fun j hj hpj => ?_⟩)
            by_cases d2 : j = k
            · rw [d2]; omega
            · exact a4 j (by omega) hpj
          · refine yl_n d (take hp fun j hj hpj => ?_)
            have := a4 j hj hpj
            omega
      rw [lo_X12_leastLeft_5, hl.1, pu_le (by omega) (by omega), if_neg (by omega), h5.1.2.2]
      refine yl_ld 72 h5.2.2.2 (by omega) (by omega) ?_
      rw [hf k hkl]
      by_cases c1 : lf (mk g k) = true
      · rw [if_pos c1]
        refine yl_n i_n1 ?_
        rcases hv with ⟨v1, v2⟩ | ⟨hM, b, v1, v2, v3⟩
        · refine yl_p (by rw [v1]; decide) (comp (by rw [v2]; exact c1))
        · refine yl_n (by rw [v2]; exact nI_pos (by omega)) ?_
          have hm := pr_meets hG h4 (b := b) hM hw hl hkl v1
          rw [← v2] at hm
          refine yl_e hm ?_
          by_cases c2 : mts g b (mk g k) = true
          · rw [if_pos c2]
            exact yl_n i_n1 (comp (by rw [v3]; show (lf (mk g k) && mts g b (mk g k)) = true; rw [c1, c2]; rfl))
          · rw [if_neg c2]
            refine yl_p rfl (skip ?_)
            rw [Bool.not_eq_true] at c2
            rw [v3]
            show (lf (mk g k) && mts g b (mk g k)) = false
            rw [c2, Bool.and_false]
      · rw [if_neg c1]
        refine yl_p rfl (skip ?_)
        rw [Bool.not_eq_true] at c1
        rcases hv with ⟨v1, v2⟩ | ⟨hM, b, v1, v2, v3⟩
        · rw [v2]; exact c1
        · rw [v3]
          show (lf (mk g k) && mts g b (mk g k)) = false
          rw [c1, Bool.false_and]
  unfold fn_X12_leastLeft
  exact lo (mes g).length 0 tc_fu (-1) (by omega) (by omega) (Or.inl ⟨rfl, fun j hj => by omega⟩)
