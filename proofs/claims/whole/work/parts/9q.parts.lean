/-! parts: how many there are, and those that are tangled -/
theorem cf_none {P : Nat → Bool} (h : ∀ i, P i = false) : ∀ n a, cf P n a = 0 := by
  intro n
  induction n with
  | zero => intro a; rfl
  | succ n ih => intro a; rw [cf, h a, ih]; rfl
theorem fst_cf {l : Nat → Nat} {nb : Nat} (hi : ∀ b, l (l b) = l b) (hl : ∀ b, b < nb → l b < nb) (Q : Nat → Bool) : cf (fun k => decide (∀ j, j < k → ¬ l j = l k) && Q (l k)) nb 0 = cf (fun x => decide (l x = x) && Q x) nb 0 := by
  have key : ∀ n, n ≤ nb → cf (fun k => decide (∀ j, j < k → ¬ l j = l k) && Q (l k)) n 0 = cf (fun x => decide (¬ ∀ j, j < n → ¬ l j = x) && Q x) nb 0 := by
    intro n
    induction n with
    | zero =>
      intro _
      refine Eq.trans (show _ = 0 from rfl) (Eq.symm (cf_none (fun i => ?_) nb 0))
      rw [Bool.and_eq_false_iff]
      exact Or.inl (decide_eq_false (fun q => q (fun j hj => absurd hj (Nat.not_lt_zero j))))
    | succ n ih =>
      intro hn
      rw [cf_snoc, ih (by omega), Nat.zero_add]
      by_cases c : ∀ j, j < n → ¬ l j = l n
      · have o := cf_one (P := fun x => decide (¬ ∀ j, j < n → ¬ l j = x) && Q x) (Q := fun x => decide (¬ ∀ j, j < n + 1 → ¬ l j = x) && Q x) (i := l n) (n := nb) (a := 0) (by omega) (by have := hl n (by omega); omega) (fun x hx => by
          show (decide (¬ ∀ j, j < n → ¬ l j = x) && Q x) = (decide (¬ ∀ j, j < n + 1 → ¬ l j = x) && Q x)
          congr 1
          refine decide_eq_decide.mpr (not_congr ⟨fun h j hj => ?_, fun h j hj => h j (by omega)⟩)
          by_cases e : j = n
          · rw [e]; exact fun z => hx z.symm
          · exact h j (by omega))
        have e1 : (decide (¬ ∀ j, j < n → ¬ l j = l n) && Q (l n)) = false := by
          rw [decide_eq_false (fun q => q c)]; rfl
        have e2 : (decide (¬ ∀ j, j < n + 1 → ¬ l j = l n) && Q (l n)) = Q (l n) := by
          rw [show decide (¬ ∀ j, j < n + 1 → ¬ l j = l n) = true from decide_eq_true (fun q => q n (by omega) rfl)]; rfl
        have e3 : (decide (∀ j, j < n → ¬ l j = l n) && Q (l n)) = Q (l n) := by
          rw [decide_eq_true c]; rfl
        simp only [e1, e2] at o
        simp only [e3]
        simpa using o
      · have e3 : (decide (∀ j, j < n → ¬ l j = l n) && Q (l n)) = false := by
          rw [decide_eq_false c]; rfl
        simp only [e3]
        rw [if_neg (by decide), Nat.add_zero]
        refine cf_congr fun x _ _ => ?_
        show (decide (¬ ∀ j, j < n → ¬ l j = x) && Q x) = (decide (¬ ∀ j, j < n + 1 → ¬ l j = x) && Q x)
        congr 1
        refine decide_eq_decide.mpr (not_congr ⟨fun h j hj => ?_, fun h j hj => h j (by omega)⟩)
        by_cases e : j = n
        · rw [e]
          intro z
          rw [← z] at h
          exact c h
        · exact h j (by omega)
  rw [key nb (Nat.le_refl _)]
  refine cf_congr fun x _ hx => ?_
  show (decide (¬ ∀ j, j < nb → ¬ l j = x) && Q x) = (decide (l x = x) && Q x)
  congr 1
  refine decide_eq_decide.mpr ⟨fun h => ?_, fun h q => q x (by omega) h⟩
  refine Classical.byContradiction fun c => h fun j hj z => c ?_
  rw [← z]
  exact hi j
theorem mmn_le (l : Nat → Nat) (x : Nat) : ∀ D, mmn l x D ≤ D.length := by
  intro D
  induction D with
  | nil => exact Nat.le_refl _
  | cons p D ih =>
    rw [mmn, List.length_cons]
    split <;> omega
def tngl (g : mp) (x : Nat) : Bool := decide (bkn (mn g 0) (lb g) x < mmn (lb g) x (edg g))
def tq (g : mp) (v : Int32) (x : Nat) : Bool := decide (v = 0) || tngl g x
theorem mmn_edg {g : mp} (hw : mwf g) (x : Nat) : mmn (lb g) x (edg g) ≤ 68 := by
  have h1 := mmn_le (lb g) x (edg g)
  have h2 := mes_len hw
  unfold edg at h1
  rw [List.length_map] at h1
  unfold edg
  omega
theorem bkn_le {nb : Nat} {l : Nat → Nat} {x : Nat} : bkn nb l x ≤ nb := cf_le
theorem mt_tangled {G : tc_G} (hP : gP G) {u : tc_S} {g : mp} (hw : mwf g) (hS : jS u (mn g 0) (edg g)) : fn_X5_tangled G 50 (nI (mn g 0)) u = some (nI (cf (fun x => decide (lb g x = x) && tngl g x) (mn g 0) 0), u) := by
  have hfu := tc_fu_big
  have hn := hw.1.1.2.1.2
  have lo : ∀ (n b f c : Nat), b + n = mn g 0 → n < f → lo_X5_tangled_4 G f 50 (nI (mn g 0)) (nI c) (nI b) u = some (nI (c + cf (fun x => decide (lb g x = x) && tngl g x) n b), u) := by
    intro n
    induction n with
    | zero =>
      intro b f c hb hf
      obtain ⟨f, rfl⟩ : ∃ k, f = k + 1 := ⟨f - 1, by omega⟩
      rw [lo_X5_tangled_4, pu_le (by omega) (by omega), if_pos (by omega)]
      rfl
    | succ n ih =>
      intro b f c hb hf
      obtain ⟨f, rfl⟩ : ∃ k, f = k + 1 := ⟨f - 1, by omega⟩
      have hlt := lb_lt hw (b := b) (by omega)
      have hs : u.1 51 b = nI (lb g b) ∧ u.1 52 b = nI (mmn (lb g) b (edg g)) ∧ u.1 53 b = nI (bkn (mn g 0) (lb g) b) := hS b (by omega)
      have m1 := mmn_edg hw b
      have m2 := bkn_le (nb := mn g 0) (l := lb g) (x := b)
      obtain ⟨kd, hk, hkd⟩ : ∃ kd : Int32, fn_X5_kindOf G 50 (nI b) u = some (kd, u) ∧ (kd = 2 ↔ bkn (mn g 0) (lb g) b < mmn (lb g) b (edg g)) := by
        refine ⟨if bkn (mn g 0) (lb g) b ≤ mmn (lb g) b (edg g) then (if mmn (lb g) b (edg g) = bkn (mn g 0) (lb g) b then 1 else 2) else 0, ?_, ?_⟩
        · unfold fn_X5_kindOf bl_X5_kindOf_37
          rw [hP.1.2.1, hP.1.2.2, pu_ld hP.2.2.1 (by omega) (by omega), pu_ld hP.2.2.2 (by omega) (by omega), pu_ld hP.2.2.1 (by omega) (by omega), pu_ld hP.2.2.2 (by omega) (by omega), hs.2.1, hs.2.2, pu_le (by omega) (by omega), pu_eq (by omega) (by omega)]
          split
          · split <;> rfl
          · rfl
        · by_cases d1 : bkn (mn g 0) (lb g) b ≤ mmn (lb g) b (edg g)
          · rw [if_pos d1]
            by_cases d2 : mmn (lb g) b (edg g) = bkn (mn g 0) (lb g) b
            · rw [if_pos d2]
              exact ⟨fun z => absurd z (by decide), fun z => by omega⟩
            · rw [if_neg d2]
              exact ⟨fun _ => by omega, fun _ => rfl⟩
          · rw [if_neg d1]
            exact ⟨fun z => absurd z (by decide), fun z => by omega⟩
      rw [lo_X5_tangled_4, pu_le (by omega) (by omega), if_neg (by omega), hP.1.1, pu_ld hP.2.1 (by omega) (by omega), hs.1, pu_eq (by omega) (by omega), hk]
      unfold bl_X5_tangled_33 bl_X5_tangled_34 tc_let
      rw [nI_1, cf, pu_b, nI_1, show (0 : Int32) = nI 0 from rfl, nI_add]
      by_cases c1 : lb g b = b
      · rw [if_pos c1]
        by_cases c2 : bkn (mn g 0) (lb g) b < mmn (lb g) b (edg g)
        · rw [if_pos (hkd.mpr c2)]
          refine (ih (b + 1) f (c + 1) (by omega) (by omega)).trans ?_
          rw [decide_eq_true c1, show tngl g b = true from decide_eq_true c2]
          simp only [Bool.and_self, if_true]
          rw [Nat.add_assoc]
        · rw [if_neg (fun z => c2 (hkd.mp z)), Nat.add_zero]
          refine (ih (b + 1) f c (by omega) (by omega)).trans ?_
          rw [show tngl g b = false from decide_eq_false c2, Bool.and_false, if_neg (by decide), Nat.zero_add]
      · rw [if_neg c1, Nat.add_zero]
        refine (ih (b + 1) f c (by omega) (by omega)).trans ?_
        rw [decide_eq_false c1, Bool.false_and, if_neg (by decide), Nat.zero_add]
  have := lo (mn g 0) 0 tc_fu 0 (by omega) (by omega)
  rw [Nat.zero_add] at this
  exact this
theorem pm_parts7 {G : tc_G} (hG : gm G) (h4 : gm4 G) {g : mp} (v : Int32) (hw : mwf g) : ∀ (n k f c m : Nat) (u : tc_S), k + n = mn g 0 → n < f → m < 2 ^ 16 → (∀ b, m.testBit b = true ↔ b < mn g 0 ∧ ∃ j, j < k ∧ lb g j = lb g b) → isM u 0 g → y2 (lo_X12_parts_7 G f 71 v (nI c) (nI m) (nI k) u) (fun r w => r = nI (c + cf (fun k => decide (∀ j, j < k → ¬ lb g j = lb g k) && tq g v (lb g k)) n k) ∧ fr fL u w) := by
  have aa := hw.1.1
  have hn := aa.2.1.2
  intro n
  induction n with
  | zero =>
    intro k f c m u hk hf hm ht hM
    obtain ⟨f, rfl⟩ : ∃ k, f = k + 1 := ⟨f - 1, by omega⟩
    have z0 : ∀ {β : Type} (kk : Int32 → Option β), tc_ld G u 72 0 kk = kk (g 0) := fun kk => isM_ld hG (B := 0) (k := 0) hM (by omega) (by omega)
    rw [lo_X12_parts_7, hG.1.1, z0, aa.1 0 (by omega), pu_le (by omega) (by omega), if_pos (by omega)]
    exact yl_ok ⟨rfl, fr_refl⟩
  | succ n ih =>
    intro k f c m u hk hf hm ht hM
    obtain ⟨f, rfl⟩ : ∃ k, f = k + 1 := ⟨f - 1, by omega⟩
    have z0 : ∀ {β : Type} (kk : Int32 → Option β), tc_ld G u 72 0 kk = kk (g 0) := fun kk => isM_ld hG (B := 0) (k := 0) hM (by omega) (by omega)
    rw [lo_X12_parts_7, hG.1.1, z0, aa.1 0 (by omega), pu_le (by omega) (by omega), if_neg (by omega), nI_tst hm (by omega), cf]
    unfold bl_X12_parts_63 bl_X12_parts_68 bl_X12_parts_70
    by_cases c1 : m.testBit k = true
    · rw [if_pos c1]
      refine yl_p rfl (yl_let ?_)
      obtain ⟨-, j, j1, j2⟩ := (ht k).mp c1
      rw [decide_eq_false (fun q => q j j1 j2), Bool.false_and, if_neg (by decide), Nat.zero_add, nI_1]
      refine ih (k + 1) f c m u (by omega) (by omega) hm (fun b => ?_) hM
      rw [ht b]
      refine and_congr_right fun _ => ⟨fun ⟨i, i1, i2⟩ => ⟨i, by omega, i2⟩, fun ⟨i, i1, i2⟩ => ?_⟩
      by_cases e : i = k
      · exact ⟨j, j1, by rw [j2, ← e]; exact i2⟩
      · exact ⟨i, by omega, i2⟩
    · rw [if_neg c1]
      have c2 : ∀ j, j < k → ¬ lb g j = lb g k := fun j hj z => c1 ((ht k).mpr ⟨by omega, j, hj, z⟩)
      rw [decide_eq_true c2, Bool.true_and]
      refine yl_n (by decide) ?_
      refine yl_b (pm_partOf hG h4 hM hw (by omega)) fun r w hr => ?_
      obtain ⟨⟨M, M0, M1, M2⟩, hl, hf2⟩ := hr
      have hM2 : isM w 0 g := isM_L hM hf2
      rw [M1]
      refine yl_let ?_
      rw [nI_or]
      have hm2 : m ||| M < 2 ^ 16 := Nat.or_lt_two_pow hm M0
      have ht2 : ∀ b, (m ||| M).testBit b = true ↔ b < mn g 0 ∧ ∃ j, j < k + 1 ∧ lb g j = lb g b := by
        intro b
        rw [Nat.testBit_or, Bool.or_eq_true, ht b, M2 b]
        constructor
        · rintro (⟨h1, i, i1, i2⟩ | ⟨h1, h2⟩)
          · exact ⟨h1, i, by omega, i2⟩
          · exact ⟨h1, k, by omega, h2.symm⟩
        · rintro ⟨h1, i, i1, i2⟩
          by_cases e : i = k
          · exact Or.inr ⟨h1, by rw [← i2, e]⟩
          · exact Or.inl ⟨h1, i, by omega, i2⟩
      have nx : ∀ c', y2 (lo_X12_parts_7 G f 71 v (nI c') (nI (m ||| M)) (nI (k + 1)) w) (fun r w => r = nI (c' + cf (fun k => decide (∀ j, j < k → ¬ lb g j = lb g k) && tq g v (lb g k)) n (k + 1)) ∧ fr fL u w) := fun c' =>
        yl_m (ih (k + 1) f c' (m ||| M) w (by omega) (by omega) hm2 ht2 hM2) fun r hr => ⟨hr.1, fr_trans hf2 hr.2⟩
      by_cases v0 : v = 0
      · refine yl_p v0 (yl_let (yl_let ?_))
        rw [show tq g v (lb g k) = true by unfold tq; rw [decide_eq_true v0]; rfl, nI_1, nI_1, if_pos rfl, ← Nat.add_assoc]
        exact nx (c + 1)
      · refine yl_n v0 ?_
        refine yl_e (pm_members hG h4 hM2 hw hl M0 M2) (yl_e (pm_bits hw M0 M2) ?_)
        rw [bct_bkn hn M2]
        have m1 := mmn_edg hw (lb g k)
        have m2 := bkn_le (nb := mn g 0) (l := lb g) (x := lb g k)
        rw [pu_le (by omega) (by omega)]
        by_cases d : mmn (lb g) (lb g k) (edg g) ≤ bkn (mn g 0) (lb g) (lb g k)
        · refine yl_p d (yl_let (yl_let ?_))
          rw [show tq g v (lb g k) = false by unfold tq tngl; rw [decide_eq_false v0, decide_eq_false (by omega)]; rfl, nI_1, show (0 : Int32) = nI 0 from rfl, nI_add, Nat.add_zero, if_neg (by decide), Nat.zero_add]
          exact nx c
        · refine yl_n d (yl_let (yl_let ?_))
          rw [show tq g v (lb g k) = true by unfold tq tngl; rw [decide_eq_true (p := bkn (mn g 0) (lb g) (lb g k) < mmn (lb g) (lb g k) (edg g)) (by omega), Bool.or_true], nI_1, nI_1, if_pos rfl, ← Nat.add_assoc]
          exact nx (c + 1)
/-- what is told of the parts: 23 all, 24 the tangled ones -/
def pcn (g : mp) (v : Int32) : Int32 := nI (cf (fun x => decide (lb g x = x) && tq g v x) (mn g 0) 0)
theorem pm_parts {G : tc_G} (hG : gm G) (h4 : gm4 G) {u : tc_S} {g : mp} (v : Int32) (hM : isM u 0 g) (hw : mwf g) : y2 (fn_X12_parts G 71 v u) (fun r w => r = pcn g v ∧ fr fL u w) := by
  have hfu := tc_fu_big
  have hn := hw.1.1.2.1.2
  unfold fn_X12_parts
  have := pm_parts7 hG h4 v hw (mn g 0) 0 tc_fu 0 0 u (by omega) (by omega) (by omega) (fun b => by
    rw [Nat.zero_testBit]
    exact ⟨fun h => (by cases h), fun ⟨_, j, hj, _⟩ => (by omega)⟩) hM
  refine yl_m this fun r hr => ⟨?_, hr.2⟩
  rw [hr.1, Nat.zero_add, fst_cf (lb_lb g) (fun b hb => lb_lt hw hb) (tq g v)]
  rfl
theorem pcn_0 (g : mp) : pcn g 0 = nI (rts (mn g 0) (lb g)) := by
  unfold pcn rts
  congr 1
  refine cf_congr fun x _ _ => ?_
  show (decide (lb g x = x) && tq g 0 x) = decide (lb g x = x)
  unfold tq
  rw [decide_eq_true rfl, Bool.true_or, Bool.and_true]
theorem pcn_1 (g : mp) : pcn g 1 = nI (cf (fun x => decide (lb g x = x) && tngl g x) (mn g 0) 0) := by
  unfold pcn
  congr 1
theorem mt_tell23 {G : tc_G} (hP : gP G) (h7 : tc_p G 0 7 = 50) {u : tc_S} {t : Nat} {g : mp} (hT : gT G t 64) (ht : t + 10 ≤ 51 ∨ 54 ≤ t) (hw : mwf g) (h : mt u t g) : y2 (fn_X11_tell G 0 t 23 u) (fun r w => r = pcn g 0 ∧ fr (fQ 32) u w) := by
  unfold fn_X11_tell bl_X11_tell_17
  refine yl_n (by decide) (yl_p (by decide) ?_)
  repeat refine yl_n (by decide) ?_
  refine yl_p (by decide) ?_
  rw [h7]
  exact yl_b (mt_join hP hT ht hw h) fun r w hr => yl_ok ⟨by rw [hr.1, pcn_0], hr.2.2.2⟩
theorem mt_tell24 {G : tc_G} (hP : gP G) (h7 : tc_p G 0 7 = 50) {u : tc_S} {t : Nat} {g : mp} (hT : gT G t 64) (ht : t + 10 ≤ 51 ∨ 54 ≤ t) (hw : mwf g) (h : mt u t g) : y2 (fn_X11_tell G 0 t 24 u) (fun r w => r = pcn g 1 ∧ fr (fQ 32) u w) := by
  unfold fn_X11_tell bl_X11_tell_17
  refine yl_n (by decide) (yl_p (by decide) ?_)
  repeat refine yl_n (by decide) ?_
  refine yl_p (by decide) ?_
  rw [h7]
  refine yl_b (mt_join hP hT ht hw h) fun r w hr => ?_
  have m1 : mt w t g := mt_fr h hr.2.2.2 fun o k q1 q2 => by unfold fQ; omega
  rw [hT.1.1, mt_set m1 (by omega), hw.1.1.1 0 (by omega)]
  exact yl_e (mt_tangled hP hw hr.2.1) (yl_ok ⟨by rw [pcn_1], hr.2.2.2⟩)
/-- the call count -/
theorem c_count {G : tc_G} (hA : gA G) (hP : gP G) {L : tc_L} {u : tc_S} {P : Nat} {g : mp} (x : Int32) (hu : cC u P g) (hM : isM u 0 g) (ht : u.1 1 2 = u.1 71 3) : ∃ g2 P2, P2 ≤ P + 12 ∧ yl (tc_b (fn_X11_count G 0 x u) fun r1 u1 => tc_b (fn_X12_count G 71 x u1) fun r2 u2 => if r1 = r2 then some (L, u2) else none) (pqq L u P2 g2) := by
  by_cases h3 : x = 23
  · subst h3
    obtain ⟨⟨o0, o1, o2, o3, o4, o5, o6, o7, o8, o9, o10⟩, ⟨a1, a2, a3⟩, ⟨a4, a5, a6, a7⟩, b1, b2, b3, b4⟩ := hA
    have hw := hu.2.1.1
    refine ⟨g, P, by omega, pr_call (R := pcn g 0) hu hM hu.2.1 ?_ fun w hw2 => ?_⟩
    · unfold fn_X11_count bl_X11_count_28
      refine yl_n (by decide) ?_
      rw [o0, o1]
      exact yl_b (mt_tell23 hP o7 a4 (by omega) hw hu.1) fun r w hr => yl_ok ⟨hr.1, mt_fr hu.1 hr.2 fun o k q1 q2 => by unfold fQ; omega, fQ_c hr.2⟩
    · unfold fn_X12_count bl_X12_count_47
      refine yl_p rfl ?_
      exact yl_b (pm_parts b1 b4 0 hw2 hw) fun r v hv => yl_ok ⟨hv.1, isM_L hw2 hv.2, fL_r hv.2⟩
  · by_cases h4 : x = 24
    · subst h4
      obtain ⟨⟨o0, o1, o2, o3, o4, o5, o6, o7, o8, o9, o10⟩, ⟨a1, a2, a3⟩, ⟨a4, a5, a6, a7⟩, b1, b2, b3, b4⟩ := hA
      have hw := hu.2.1.1
      refine ⟨g, P, by omega, pr_call (R := pcn g 1) hu hM hu.2.1 ?_ fun w hw2 => ?_⟩
      · unfold fn_X11_count bl_X11_count_28
        refine yl_n (by decide) ?_
        rw [o0, o1]
        exact yl_b (mt_tell24 hP o7 a4 (by omega) hw hu.1) fun r w hr => yl_ok ⟨hr.1, mt_fr hu.1 hr.2 fun o k q1 q2 => by unfold fQ; omega, fQ_c hr.2⟩
      · unfold fn_X12_count bl_X12_count_47
        refine yl_n (by decide) (yl_p rfl ?_)
        exact yl_b (pm_parts b1 b4 1 hw2 hw) fun r v hv => yl_ok ⟨hv.1, isM_L hw2 hv.2, fL_r hv.2⟩
    · exact c_count0 hA x hu hM ht h3 h4
/-- the call tried -/
theorem c_tried {G : tc_G} (hA : gA G) (hP : gP G) {L : tc_L} {u : tc_S} {P : Nat} {g : mp} (s x y : Int32) (hu : cC u P g) (hM : isM u 0 g) (hPP : P + 12 < 2 ^ 30) : ∃ g2 P2, P2 ≤ P + 12 ∧ yl (tc_b (fn_X11_tried G 0 s x y u) fun r1 u1 => tc_b (fn_X12_tried G 71 s x y u1) fun r2 u2 => if r1 = r2 then some (L, u2) else none) (pqq L u P2 g2) := by
  by_cases hy : y = 23 ∨ y = 24
  · have hA0 := hA
    obtain ⟨⟨o0, o1, o2, o3, o4, o5, o6, o7, o8, o9, o10⟩, ⟨a1, a2, a3⟩, ⟨a4, a5, a6, a7⟩, b1, b2, b3, b4⟩ := hA
    rcases pc_isLoad (G := G) (u := u) x with ⟨n1, n2⟩ | ⟨q, q1, q2, q3, q4⟩
    · refine ⟨g, P, by omega, pr_call (R := -1) hu hM hu.2.1 ?_ fun w hw => ?_⟩
      · unfold fn_X11_tried
        exact yl_e n1 (yl_p rfl (yl_ok ⟨rfl, hu.1, fr_refl⟩))
      · unfold fn_X12_tried
        exact yl_e (n2 w) (yl_p rfl (yl_ok ⟨rfl, hw, fr_refl⟩))
    · obtain ⟨P2, p1, p2⟩ := mld_ok q g s 0 P hu.2.1 (by omega)
      have fq : ∀ {w v : tc_S}, fr (fQ 32) w v → fr (fun o k => fMc o k ∧ ¬ (2 ≤ o ∧ o < 12)) w v := fun h => fr_mono h fun o k q => by unfold fQ at q; unfold fMc; omega
      refine ⟨g, P, by omega, pr_call (R := pcn (mld q g s 0).2 (if y = 23 then 0 else 1)) hu hM hu.2.1 ?_ fun w hw => ?_⟩
      · refine mt_tried hA0 hu hPP (by omega) q2 q3 fun w h1 h2 => ?_
        rcases hy with rfl | rfl
        · exact yl_m (mt_tell23 hP o7 a5 (by omega) p2.1 h1) fun r hr => ⟨hr.1, fq hr.2⟩
        · exact yl_m (mt_tell24 hP o7 a5 (by omega) p2.1 h1) fun r hr => ⟨hr.1, fq hr.2⟩
      · have cn : ∀ z, isM z 0 (mld q g s 0).2 → y2 (fn_X12_count G 71 y z) (fun r v => r = pcn (mld q g s 0).2 (if y = 23 then 0 else 1) ∧ fr fL z v) := by
          intro z hz
          unfold fn_X12_count bl_X12_count_47
          rcases hy with rfl | rfl
          · refine yl_p rfl ?_
            exact yl_b (pm_parts b1 b4 0 hz p2.1) fun r v hv => yl_ok ⟨hv.1, hv.2⟩
          · refine yl_n (by decide) (yl_p rfl ?_)
            exact yl_b (pm_parts b1 b4 1 hz p2.1) fun r v hv => yl_ok ⟨hv.1, hv.2⟩
        have bl : y2 (bl_X12_tried_62 G 71 s x y w) (fun r v => r = pcn (mld q g s 0).2 (if y = 23 then 0 else 1) ∧ isM v 0 g ∧ fr fMr w v) := by
          unfold bl_X12_tried_62
          rw [q2, show (0 : Int32) = nI 0 from rfl, show (292 : Int32) = nI 292 from rfl]
          refine yl_e (pm_copies b1 (F := 0) (T := 292) (by omega) (by omega) (by omega) hw) ?_
          have f1 : fr fMr w (uM w 292 g) := fr_uM fr_refl fun k h1 h2 => Or.inl ⟨rfl, by omega⟩
          have i0 : isM (uM w 292 g) 0 g := fun k hk => (uM_out (by omega)).trans (hw k hk)
          refine yl_b (pm_loads b1 b2 b3 b4 (B := 0) (s := s) (by omega) (by omega) i0 hu.2.1 (by omega)) fun r z hz => ?_
          have i1 : isM z 292 g := isM_fr uM_isM hz.2.2 fun k hk => by unfold fW fP; omega
          refine yl_b (cn z hz.2.1) fun r v hv => ?_
          refine yl_e (pm_copies b1 (F := 292) (T := 0) (by omega) (by omega) (by omega) (isM_L i1 hv.2)) (yl_ok ⟨hv.1, uM_isM, ?_⟩)
          refine fr_trans f1 (fr_trans (fW_r0 hz.2.2) (fr_trans (fL_r hv.2) ?_))
          exact fr_uM fr_refl fun k h1 h2 => Or.inl ⟨rfl, by omega⟩
        unfold fn_X12_tried
        refine yl_e (q4 w) (yl_n i_n1 ?_)
        rcases hy with rfl | rfl
        · have : fn_X12_isIn G 23 0 25 w = some (1, w) := rfl
          exact yl_e this (yl_n i_n1 (yl_p rfl bl))
        · have : fn_X12_isIn G 24 0 25 w = some (1, w) := rfl
          exact yl_e this (yl_n i_n1 (yl_n (by decide) (yl_p rfl bl)))
  · exact c_tried0 hA s x y hu hM hPP (fun z => hy (Or.inl z)) (fun z => hy (Or.inr z))
