/-! the call key -/
def kct (v : Int32) (m : Nat) : List en → Nat
  | [] => 0
  | e :: es => (if kvl v e < m then 1 else 0) + kct v m es
def kfd (v x : Int32) (all : List en) (es : List en) : Option en := es.find? (fun e => decide (nI (kct v (kvl v e) all) = x))
def kans (o : Option en) : Int32 := match o with
  | some e => e.1 - 1
  | none => -1
theorem kct_le (v : Int32) (m : Nat) : ∀ es : List en, kct v m es ≤ es.length
  | [] => Nat.le_refl _
  | e :: es => by
    have := kct_le v m es
    unfold kct
    rw [List.length_cons]
    split <;> omega
/-- the reference's list, sorted by ranks -/
theorem pm_key {G : tc_G} (h4 : gm4 G) {u : tc_S} {es : List en} {x v : Int32} {d : Nat} (hl : ls u es) (hn : es.length ≤ 68) (hr : ∀ e ∈ es, (if v = 0 then e.1 else e.2.2.1) = nI (kvl v e + d) ∧ kvl v e + d < 2 ^ 31) : lo_X12_key_7 G tc_fu 71 x v 0 u = some (kans (kfd v x es es), u) := by
  have hfu := tc_fu_big
  have hg : ∀ k (h : k < es.length), u.1 80 (4 * k + (if v = 0 then 0 else 2)) = nI (kvl v es[k] + d) ∧ kvl v es[k] + d < 2 ^ 31 := by
    intro k h
    have q := hr es[k] (List.getElem_mem h)
    have w := hl.2 k h
    refine ⟨?_, q.2⟩
    rw [← q.1]
    by_cases c : v = 0
    · rw [if_pos c, if_pos c]; exact w.1
    · rw [if_neg c, if_neg c]; exact w.2.2.1
  have l21 : ∀ (K : Nat → Int32 → Int32 → Int32 → tc_S → Option (Int32 × tc_S)) (k3 : Nat) (h3 : k3 < es.length) (n k f c : Nat), k + n = es.length → n < f → lo_X12_key_21 G K f 71 x v (nI k3) (nI c) (nI k) u = if nI (c + kct v (kvl v es[k3]) (es.drop k)) = x then some (es[k3].1 - 1, u) else K 71 x v (nI (k3 + 1)) u := by
    intro K k3 h3 n
    induction n with
    | zero =>
      intro k f c hk hf
      obtain ⟨f, rfl⟩ : ∃ k, f = k + 1 := ⟨f - 1, by omega⟩
      rw [lo_X12_key_21, hl.1, pu_le (by omega) (by omega), if_pos (by omega), List.drop_eq_nil_of_le (by omega), h4.1, show (4 : Int32) * nI k3 = nI (4 * k3) from pk_mul 4 k3, pu_ld h4.2 (by omega) (by omega), (hl.2 k3 h3).1]
      unfold tc_let
      rw [nI_1]
      rfl
    | succ n ih =>
      intro k f c hk hf
      obtain ⟨f, rfl⟩ : ∃ k, f = k + 1 := ⟨f - 1, by omega⟩
      have g1 := hg k (by omega)
      have g3 := hg k3 h3
      rw [lo_X12_key_21, hl.1, pu_le (by omega) (by omega), if_neg (by omega), ls_drop (by omega)]
      have body : ∀ s : Nat, (s = if v = 0 then 0 else 2) → bl_X12_key_49 G K (lo_X12_key_21 G K f) 71 x v (nI k3) (nI k) (nI c) (tc_p G 71 11) (4 * nI k) (nI s) u = if nI (c + kct v (kvl v es[k3]) (es[k] :: es.drop (k + 1))) = x then some (es[k3].1 - 1, u) else K 71 x v (nI (k3 + 1)) u := by
        intro s hs
        have b67 : bl_X12_key_67 G K (lo_X12_key_21 G K f) 71 x v (nI k3) (nI k) (nI c) (nI (kvl v es[k] + d)) 80 (4 * nI k3) (nI s) u = if nI (c + kct v (kvl v es[k3]) (es[k] :: es.drop (k + 1))) = x then some (es[k3].1 - 1, u) else K 71 x v (nI (k3 + 1)) u := by
          have s2 : s ≤ 2 := by rw [hs]; split <;> omega
          unfold bl_X12_key_67 bl_X12_key_77
          rw [show (4 : Int32) * nI k3 = nI (4 * k3) from pk_mul 4 k3, nI_add, pu_ld h4.2 (by omega) (by omega), hs, g3.1, pu_le g3.2 g1.2]
          unfold tc_let
          rw [nI_1]
          unfold kct
          by_cases c1 : kvl v es[k] < kvl v es[k3]
          · rw [if_neg (by omega), if_pos c1]
            show lo_X12_key_21 G K f 71 x v (nI k3) (nI c + 1) (nI (k + 1)) u = _
            rw [nI_1, ih (k + 1) f (c + 1) (by omega) (by omega), Nat.add_assoc]
          · rw [if_pos (by omega), if_neg c1]
            show lo_X12_key_21 G K f 71 x v (nI k3) (nI c + nI 0) (nI (k + 1)) u = _
            rw [nI_add, ih (k + 1) f (c + 0) (by omega) (by omega), Nat.add_assoc]
        have s2 : s ≤ 2 := by rw [hs]; split <;> omega
        unfold bl_X12_key_49
        rw [h4.1, show (4 : Int32) * nI k = nI (4 * k) from pk_mul 4 k, nI_add, pu_ld h4.2 (by omega) (by omega)]
        have e1 : u.1 80 (4 * k + s) = nI (kvl v es[k] + d) := by rw [hs]; exact g1.1
        rw [e1]
        by_cases c0 : v = 0
        · rw [if_pos c0]
          rw [if_pos c0] at hs
          rw [hs] at b67
          exact b67
        · rw [if_neg c0]
          rw [if_neg c0] at hs
          rw [hs] at b67
          exact b67
      by_cases c0 : v = 0
      · rw [if_pos c0]
        exact body 0 (by rw [if_pos c0])
      · rw [if_neg c0]
        exact body 2 (by rw [if_neg c0])
  have l7 : ∀ (n k f : Nat), k + n = es.length → n < f → lo_X12_key_7 G f 71 x v (nI k) u = some (kans (kfd v x es (es.drop k)), u) := by
    intro n
    induction n with
    | zero =>
      intro k f hk hf
      obtain ⟨f, rfl⟩ : ∃ k, f = k + 1 := ⟨f - 1, by omega⟩
      rw [lo_X12_key_7, hl.1, pu_le (by omega) (by omega), if_pos (by omega), List.drop_eq_nil_of_le (by omega)]
      rfl
    | succ n ih =>
      intro k f hk hf
      obtain ⟨f, rfl⟩ : ∃ k, f = k + 1 := ⟨f - 1, by omega⟩
      rw [lo_X12_key_7, hl.1, pu_le (by omega) (by omega), if_neg (by omega), ls_drop (by omega)]
      show lo_X12_key_21 G (lo_X12_key_7 G f) tc_fu 71 x v (nI k) (nI 0) (nI 0) u = _
      rw [l21 _ k (by omega) es.length 0 tc_fu 0 (by omega) (by omega), List.drop_zero, Nat.zero_add]
      unfold kfd
      by_cases c : nI (kct v (kvl v es[k]) es) = x
      · rw [if_pos c, List.find?_cons_of_pos (by exact decide_eq_true c)]
        rfl
      · rw [if_neg c, List.find?_cons_of_neg (by simpa using c)]
        exact ih (k + 1) f (by omega) (by omega)
  have := l7 es.length 0 tc_fu (by omega) (by omega)
  rw [List.drop_zero] at this
  exact this
theorem kct_cl {g : mp} (v : Int32) (m : Nat) : ∀ (n i : Nat), kct v m (cl g n i) = cf (fun j => decide (¬ (fc g j).1 = 0 ∧ kvl v (fc g j) < m)) n i := by
  intro n
  induction n with
  | zero => intro i; rfl
  | succ n ih =>
    intro i
    rw [cl, cf]
    by_cases c : (fc g i).1 = 0
    · rw [if_pos c, List.nil_append, ih, if_neg (by simp [c]), Nat.zero_add]
    · rw [if_neg c, List.singleton_append, kct, ih]
      by_cases d : kvl v (fc g i) < m
      · rw [if_pos d, if_pos (by simp [c, d])]
      · rw [if_neg d, if_neg (by simp [c, d])]
theorem cl_mem {g : mp} {e : en} : ∀ (n i : Nat), e ∈ cl g n i ↔ ∃ j, i ≤ j ∧ j < i + n ∧ kfil g j ∧ e = fc g j := by
  intro n
  induction n with
  | zero => intro i; constructor
            · intro h; cases h
            · rintro ⟨j, h1, h2, _⟩; omega
  | succ n ih =>
    intro i
    rw [cl, List.mem_append, ih]
    constructor
    · rintro (h | ⟨j, h1, h2, h3⟩)
      · by_cases c : (fc g i).1 = 0
        · rw [if_pos c] at h; cases h
        · rw [if_neg c] at h
          exact ⟨i, by omega, by omega, c, List.mem_singleton.mp h⟩
      · exact ⟨j, by omega, by omega, h3⟩
    · rintro ⟨j, h1, h2, h3, h4⟩
      by_cases c : j = i
      · subst c
        left
        rw [if_neg h3]
        exact List.mem_singleton.mpr h4
      · exact Or.inr ⟨j, by omega, by omega, h3, h4⟩
/-- the rank of the a-th is a -/
theorem srt_rank {g : mp} {v : Int32} {n a : Nat} {os : Nat → Nat} (hs : srt (kfil g) (fun j => kvl v (fc g j)) 68 n os) (ha : a < n) : kct v (kvl v (fc g (os a))) (cl g 68 0) = a := by
  rw [kct_cl]
  refine cf_rank (os := os) (n := n) (fun x y hxy hy e => ?_) (fun k hk => (hs.2.1 k hk).1) a _ (by omega) fun j hj => ?_
  · have := hs.1 x y hxy hy
    simp only [e] at this
    omega
  · rw [decide_eq_true_iff]
    constructor
    · rintro ⟨h1, h2⟩
      obtain ⟨k, k1, k2⟩ := hs.2.2 j hj h1
      refine ⟨k, ?_, k2⟩
      refine Classical.byContradiction fun c => ?_
      rcases Nat.lt_or_ge a k with l | l
      · have := hs.1 a k l k1
        simp only [k2] at this
        omega
      · have : k = a := by omega
        rw [this] at k2
        rw [k2] at h2
        omega
    · rintro ⟨k, k1, k2⟩
      have := hs.1 k a k1 ha
      simp only [k2] at this
      exact ⟨by rw [← k2]; exact (hs.2.1 k (by omega)).2, this⟩
/-- who is found by a rank -/
theorem kfd_srt {g : mp} (hw : mwf g) {v : Int32} {n : Nat} {os : Nat → Nat} (hs : srt (kfil g) (fun j => kvl v (fc g j)) 68 n os) (x : Int32) : (∃ a, a < n ∧ x = nI a ∧ kfd v x (mes g) (mes g) = some (fc g (os a))) ∨ ((∀ a, a < n → x ≠ nI a) ∧ kfd v x (mes g) (mes g) = none) := by
  have hln := srt_len hs
  rw [← cl_mes hw]
  cases hf : kfd v x (cl g 68 0) (cl g 68 0) with
  | none =>
    right
    refine ⟨fun a ha e => ?_, rfl⟩
    have := List.find?_eq_none.mp hf (fc g (os a)) ((cl_mem 68 0).mpr ⟨os a, by omega, by have := (hs.2.1 a ha).1; omega, (hs.2.1 a ha).2, rfl⟩)
    rw [srt_rank hs ha] at this
    exact this (decide_eq_true e.symm)
  | some e =>
    left
    have h1 := List.find?_some hf
    have h1 := of_decide_eq_true h1
    obtain ⟨j, j1, j2, j3, j4⟩ := (cl_mem 68 0).mp (List.mem_of_find?_eq_some hf)
    obtain ⟨a, a1, a2⟩ := hs.2.2 j (by omega) j3
    rw [j4, ← a2, srt_rank hs a1] at h1
    exact ⟨a, a1, h1.symm, by rw [j4, a2]⟩
theorem mes_raw {g : mp} (hw : mwf g) (v : Int32) : ∀ e ∈ mes g, (if v = 0 then e.1 else e.2.2.1) = nI (kvl v e + (if v = 0 then 1 else 0)) ∧ kvl v e + (if v = 0 then 1 else 0) < 2 ^ 31 := by
  rw [← cl_mes hw]
  intro e he
  obtain ⟨j, j1, j2, j3, j4⟩ := (cl_mem 68 0).mp he
  obtain ⟨x, x1, x2, x3, x4⟩ := fc_cell hw (by omega) j3
  have c0 := hw.1.2.2.1 x (by omega)
  have cx : ck g x ≠ 0 := fun q => j3 (by rw [x4]; show g (20 + 4 * x) = 0; rw [c0.1, q]; rfl)
  rw [j4, x4]
  unfold kvl
  by_cases c : v = 0
  · rw [if_pos c, if_pos c, if_pos c]
    show g (20 + 4 * x) = nI (ck g x - 1 + 1) ∧ ck g x - 1 + 1 < 2 ^ 31
    rw [show ck g x - 1 + 1 = ck g x by omega]
    exact ⟨c0.1, by omega⟩
  · rw [if_neg c, if_neg c, if_neg c]
    have hb := hw.1.2.2.2.2.2.2.1 x (by omega) cx
    have hb1 := hw.1.2.2.2.2.2.1
    exact ⟨hb.1, by show cb g x + 0 < _; omega⟩
theorem fG_c {u w : tc_S} (h : fr fG u w) : fr fMc u w := fr_mono h fun o k q => by unfold fG at q; unfold fMc; omega
theorem c_key {G : tc_G} (hA : gA G) (hR : gR G) {L : tc_L} {u : tc_S} {P : Nat} {g : mp} (x v : Int32) (hu : cC u P g) (hM : isM u 0 g) : ∃ g2 P2, P2 ≤ P + 12 ∧ yl (tc_b (fn_X11_key G 0 x v u) fun r1 u1 => tc_b (fn_X12_key G 71 x v u1) fun r2 u2 => if r1 = r2 then some (L, u2) else none) (pqq L u P2 g2) := by
  obtain ⟨⟨o0, o1, o2, o3, o4, o5, o6, o7, o8, o9, o10⟩, ⟨a1, a2, a3⟩, ⟨a4, a5, a6, a7⟩, b1, b2, b3, b4⟩ := hA
  have hw := hu.2.1.1
  refine ⟨g, P, by omega, pr_call (R := kans (kfd v x (mes g) (mes g))) hu hM hu.2.1 ?_ fun w hw2 => ?_⟩
  · unfold fn_X11_key bl_X11_key_30 bl_X11_key_54
    rw [o5, o0, o1]
    refine yl_b (mt_gather hR a4 (by omega) hw hu.1 v) fun _ w hg => ?_
    obtain ⟨n, os, g1, g2, g3⟩ := hg
    have hln := srt_len g2
    have m1 : mt w 2 g := mt_fr hu.1 g3 fun o k q1 q2 => by unfold fG; omega
    rcases kfd_srt hw g2 x with ⟨a, ha1, ha2, ha3⟩ | ⟨h1, h2⟩
    · rw [ha3, ha2]
      refine yl_n (nI_pos (by omega)) ?_
      rw [g1.1, pu_lt (by omega) (by omega), if_pos ha1, hR.1.1]
      refine yl_ld 68 hR.2.1 (by omega) (by omega) ?_
      rw [g1.2 a ha1, a4.2.1.1]
      have ho := g2.2.1 a ha1
      refine yl_ld 69 (a4.2.2.2 _ (by omega) (by omega)) (by omega) (by omega) (yl_ok ⟨?_, m1, fG_c g3⟩)
      rcases m1.2.1 (os a) (by omega) with ⟨x1, x2⟩ | ⟨q, q1, q2, q3, q4⟩
      · exact absurd (by rw [x1]; rfl) ho.2
      · show w.1 (2 + 4) (os a) = (fc g (os a)).1 - 1
        rw [q2, nI_pred]
        exact q3
    · rw [h2]
      by_cases c : x < 0
      · exact yl_p c (yl_ok ⟨rfl, m1, fG_c g3⟩)
      · refine yl_n c ?_
        by_cases d : x < w.1 32 1
        · exfalso
          have d1 := Int32.lt_iff_toInt_lt.mp d
          rw [g1.1, nI_toInt (by omega)] at d1
          have c1 : ¬ x.toInt < 0 := fun z => c (Int32.lt_iff_toInt_lt.mpr (by rw [show (0 : Int32).toInt = 0 from rfl]; exact z))
          exact h1 x.toInt.toNat (by omega) (ti (by omega) (by omega))
        · exact yl_n d (yl_ok ⟨rfl, m1, fG_c g3⟩)
  · unfold fn_X12_key
    refine yl_b (pm_lists b1 b4 (B := 0) (by omega) hw2 hw) fun _ z hl => ?_
    exact ⟨_, pm_key b4 hl.1 (mes_len hw) (mes_raw hw v), rfl, isM_L hw2 hl.2, fL_r hl.2⟩
