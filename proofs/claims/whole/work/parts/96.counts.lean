/-! counts: entries, moves, reads as folds over the entries in order -/
theorem mloc_self {g : mp} (hw : mwf g) {q x : Nat} (hq : q ≤ 999) (hx : x < 68) (h : ck g x = q + 1) : mloc g q = some x := by
  cases hl : mloc g q with
  | none => exact absurd h (mloc_none hw hl x hx)
  | some i =>
    have hi := mloc_sp hw hq hl
    by_cases c : i = x
    · rw [c]
    · exact absurd (by omega) (hw.1.2.2.2.2.1 i x (by omega) (by omega) c (by omega))
/-- the cell of a place that is filled -/
theorem fc_cell {g : mp} (hw : mwf g) {i : Nat} (hi : i < 68) (h : (fc g i).1 ≠ 0) : ∃ x, vc g x ∧ x < 68 ∧ fx g x = i ∧ fc g i = gc g x := by
  have a := hw.1.1
  have hb := a.2.1.2
  have hs := a.2.2.1.2
  by_cases c : i < mn g 0 * mn g 1
  · have h1 : 0 < mn g 1 := by
      apply Nat.pos_of_ne_zero
      intro z
      rw [z] at c
      omega
    have l2 : i % mn g 1 < mn g 1 := Nat.mod_lt _ h1
    have l1 : i / mn g 1 < mn g 0 := Nat.div_lt_of_lt_mul (by rw [Nat.mul_comm]; exact c)
    have e : i / mn g 1 * mn g 1 + i % mn g 1 = i := by rw [Nat.mul_comm]; exact Nat.div_add_mod _ _
    refine ⟨4 * (i / mn g 1) + i % mn g 1, ⟨by omega, fun _ => ⟨by omega, by omega⟩⟩, by omega, ?_, ?_⟩
    · rw [fx_b (by omega) (by omega), e]
    · unfold fc
      rw [if_pos c]
  · by_cases d : i < 64
    · unfold fc at h
      rw [if_neg c, if_pos d] at h
      exact absurd rfl h
    · refine ⟨i, ⟨by omega, fun q => absurd q d⟩, hi, ?_, fc_s a (by omega)⟩
      unfold fx
      rw [if_neg d]
/-- the class's loops -/
theorem mt_entriesFrom {G : tc_G} {u : tc_S} {t b : Nat} {g : mp} (hT : gT G t 64) (h : mt u t g) (hb : b ≤ 68) : ∀ (n i f m : Nat), i + n = b + 1 → n < f → lo_X9_entriesFrom_5 G f t (nI b) (nI m) (nI i) u = some (nI (m + (cl g n i).length), u) := by
  intro n
  induction n with
  | zero =>
    intro i f m hi hf
    obtain ⟨f, rfl⟩ : ∃ k, f = k + 1 := ⟨f - 1, by omega⟩
    rw [lo_X9_entriesFrom_5, pu_lt (by omega) (by omega), if_pos (by omega)]
    rfl
  | succ n ih =>
    intro i f m hi hf
    obtain ⟨f, rfl⟩ : ∃ k, f = k + 1 := ⟨f - 1, by omega⟩
    have hem := pl_emp (h.2.1 i (by omega))
    rw [lo_X9_entriesFrom_5, pu_lt (by omega) (by omega), if_neg (by omega), hT.2.1.1, pu_ld (hT.2.2.2 _ (by omega) (by omega)) (show i < 69 by omega) (by omega), cl]
    unfold bl_X9_entriesFrom_27 tc_let
    by_cases c : (fc g i).1 = 0
    · rw [if_pos (hem.2.1.mpr c), if_pos c]
      show lo_X9_entriesFrom_5 G f t (nI b) (nI m + nI 0) (nI i + 1) u = _
      rw [nI_1, nI_add, ih (i + 1) f _ (by omega) (by omega)]
      rfl
    · rw [if_neg (fun q => c (hem.2.1.mp q)), if_neg c]
      show lo_X9_entriesFrom_5 G f t (nI b) (nI m + 1) (nI i + 1) u = _
      rw [nI_1, nI_1, ih (i + 1) f _ (by omega) (by omega), List.length_append, show m + 1 + (cl g n (i + 1)).length = m + ([fc g i].length + (cl g n (i + 1)).length) by rw [Nat.add_assoc]; rfl]
theorem mt_entries {G : tc_G} {u : tc_S} {t : Nat} {g : mp} (hT : gT G t 64) (hw : mwf g) (h : mt u t g) : fn_X9_entries G t u = some (nI (mes g).length, u) := by
  have hfu := tc_fu_big
  unfold fn_X9_entries fn_X9_entriesFrom
  rw [(mt_room h).2, show nI 68 - 1 = nI 67 from rfl]
  have := mt_entriesFrom hT h (b := 67) (by omega) 68 0 tc_fu 0 (by omega) (by omega)
  rw [Nat.zero_add, cl_mes hw] at this
  show tc_b (lo_X9_entriesFrom_5 G tc_fu t (nI 67) (nI 0) (nI 0) u) _ = _
  rw [this]
  rfl
def mvS (c : Int32) (e : en) : Int32 := c + e.2.2.2
def mvM (c : Int32) (e : en) : Int32 := if e.2.2.2 ≤ c then c else e.2.2.2
def rdM (g : mp) (c : Nat) (e : en) : Nat := if rdn g (e.1.toNatClampNeg - 1) (mloc g (e.1.toNatClampNeg - 1)) ≤ c then c else rdn g (e.1.toNatClampNeg - 1) (mloc g (e.1.toNatClampNeg - 1))
theorem mt_movedInAll {G : tc_G} {u : tc_S} {t : Nat} {g : mp} (hT : gT G t 64) (h : mt u t g) : ∀ (n i f : Nat) (c : Int32), i + n = 68 → n < f → lo_X9_movedInAll_4 G f t c (nI i) u = some ((cl g n i).foldl mvS c, u) := by
  intro n
  induction n with
  | zero =>
    intro i f c hi hf
    obtain ⟨f, rfl⟩ : ∃ k, f = k + 1 := ⟨f - 1, by omega⟩
    rw [lo_X9_movedInAll_4, (mt_room h).2, pu_le (by omega) (by omega), if_pos (by omega)]
    rfl
  | succ n ih =>
    intro i f c hi hf
    obtain ⟨f, rfl⟩ : ∃ k, f = k + 1 := ⟨f - 1, by omega⟩
    have hp := h.2.1 i (by omega)
    have hem := pl_emp hp
    rw [lo_X9_movedInAll_4, (mt_room h).2, pu_le (by omega) (by omega), if_neg (by omega), hT.2.1.1, pu_ld (hT.2.2.2 _ (by omega) (by omega)) (show i < 69 by omega) (by omega), cl]
    unfold bl_X9_movedInAll_32 tc_let
    by_cases d : (fc g i).1 = 0
    · rw [if_pos (hem.2.1.mpr d), if_pos d, Int32.add_zero, nI_1]
      exact ih (i + 1) f c (by omega) (by omega)
    · rw [if_neg (fun q => d (hem.2.1.mp q)), if_neg d, hT.2.1.2.2.2.1, pu_ld (hT.2.2.2 _ (by omega) (by omega)) (show i < 69 by omega) (by omega), nI_1]
      rcases hp with ⟨x1, x2⟩ | ⟨q, q1, q2, q3, q4, q5, q6, q7⟩
      · exact absurd (by rw [x1]; rfl) d
      · rw [q6]
        exact ih (i + 1) f _ (by omega) (by omega)
theorem mt_movedMost {G : tc_G} {u : tc_S} {t : Nat} {g : mp} (hT : gT G t 64) (h : mt u t g) : ∀ (n i f : Nat) (c : Int32), i + n = 68 → n < f → lo_X9_movedMost_4 G f t c (nI i) u = some ((cl g n i).foldl mvM c, u) := by
  intro n
  induction n with
  | zero =>
    intro i f c hi hf
    obtain ⟨f, rfl⟩ : ∃ k, f = k + 1 := ⟨f - 1, by omega⟩
    rw [lo_X9_movedMost_4, (mt_room h).2, pu_le (by omega) (by omega), if_pos (by omega)]
    rfl
  | succ n ih =>
    intro i f c hi hf
    obtain ⟨f, rfl⟩ : ∃ k, f = k + 1 := ⟨f - 1, by omega⟩
    have hp := h.2.1 i (by omega)
    have hem := pl_emp hp
    rw [lo_X9_movedMost_4, (mt_room h).2, pu_le (by omega) (by omega), if_neg (by omega), hT.2.1.1, pu_ld (hT.2.2.2 _ (by omega) (by omega)) (show i < 69 by omega) (by omega), cl]
    unfold bl_X9_movedMost_40 bl_X9_movedMost_41 tc_let
    by_cases d : (fc g i).1 = 0
    · rw [if_pos (hem.2.1.mpr d), if_pos d, nI_1]
      exact ih (i + 1) f c (by omega) (by omega)
    · have q6 : u.1 (t + 7) i = (fc g i).2.2.2 := by
        rcases hp with ⟨x1, x2⟩ | ⟨q, q1, q2, q3, q4, q5, q6, q7⟩
        · exact absurd (by rw [x1]; rfl) d
        · exact q6
      rw [if_neg (fun q => d (hem.2.1.mp q)), if_neg d, hT.2.1.2.2.2.1, pu_ld (hT.2.2.2 _ (by omega) (by omega)) (show i < 69 by omega) (by omega), nI_1, q6]
      show _ = some ((cl g n (i + 1)).foldl mvM (mvM c (fc g i)), u)
      unfold mvM
      by_cases k : (fc g i).2.2.2 ≤ c
      · rw [if_pos k, if_pos k]
        exact ih (i + 1) f c (by omega) (by omega)
      · rw [if_neg k, if_neg k, pu_ld (hT.2.2.2 _ (by omega) (by omega)) (show i < 69 by omega) (by omega), q6]
        exact ih (i + 1) f _ (by omega) (by omega)
theorem rdn_le (g : mp) (q : Nat) (o : Option Nat) : rdn g q o ≤ 3 := by
  have hr : rdb g q ≤ 2 := by unfold rdb; split <;> omega
  unfold rdn
  cases o with
  | none => show rdb g q + (if 0 < mn g 18 then 1 else 0) ≤ 3; split <;> omega
  | some i => show (if i < 64 then (if i / 4 = mhash g 0 q then 1 else 2) else rdb g q + 1) ≤ 3; split; split; all_goals omega
theorem mt_readsMost {G : tc_G} {u : tc_S} {t : Nat} {g : mp} (hT : gT G t 64) (hw : mwf g) (h : mt u t g) : ∀ (n i f c : Nat), i + n = 68 → n < f → c ≤ 3 → lo_X9_readsMost_4 G f t (nI c) (nI i) u = some (nI ((cl g n i).foldl (rdM g) c), u) := by
  intro n
  induction n with
  | zero =>
    intro i f c hi hf hc
    obtain ⟨f, rfl⟩ : ∃ k, f = k + 1 := ⟨f - 1, by omega⟩
    rw [lo_X9_readsMost_4, (mt_room h).2, pu_le (by omega) (by omega), if_pos (by omega)]
    rfl
  | succ n ih =>
    intro i f c hi hf hc
    obtain ⟨f, rfl⟩ : ∃ k, f = k + 1 := ⟨f - 1, by omega⟩
    have hp := h.2.1 i (by omega)
    have hem := pl_emp hp
    rw [lo_X9_readsMost_4, (mt_room h).2, pu_le (by omega) (by omega), if_neg (by omega), hT.2.1.1, pu_ld (hT.2.2.2 _ (by omega) (by omega)) (show i < 69 by omega) (by omega), cl]
    by_cases d : (fc g i).1 = 0
    · rw [if_pos (hem.2.1.mpr d), if_pos d]
      unfold bl_X9_readsMost_36 bl_X9_readsMost_47 tc_let
      rw [if_pos (nI_pos' (by omega)), nI_1]
      exact ih (i + 1) f c (by omega) (by omega) hc
    · obtain ⟨x, v1, v2, v3, v4⟩ := fc_cell hw (by omega) d
      rcases hp with ⟨x1, x2⟩ | ⟨q, q1, q2, q3, q4⟩
      · exact absurd (by rw [x1]; rfl) d
      · have ek : ck g x = q + 1 := by
          show (gc g x).1.toNatClampNeg = q + 1
          rw [← v4, q2]
          exact nI_clamp (by omega)
        have el := mloc_self hw (by omega) v2 ek
        have hr := mt_readsTill hT hw h (q := q) (by omega) (o := some x) (Or.inr ⟨x, rfl, v1, v2⟩)
        have hr : fn_X9_readsTill G t (nI q) (nI (fx g x)) u = some (nI (rdn g q (some x)), u) := hr
        rw [v3] at hr
        rw [if_neg (fun q => d (hem.2.1.mp q)), if_neg d, pu_ld (hT.2.2.2 _ (by omega) (by omega)) (show i < 69 by omega) (by omega), q3, hr, pu_b]
        have hl3 := rdn_le g q (some x)
        unfold bl_X9_readsMost_36 bl_X9_readsMost_47 tc_let
        rw [pu_le (by omega) (by omega), nI_1]
        show _ = some (nI ((cl g n (i + 1)).foldl (rdM g) (rdM g c (fc g i))), u)
        have e3 : rdM g c (fc g i) = if rdn g q (some x) ≤ c then c else rdn g q (some x) := by
          unfold rdM
          rw [q2, nI_clamp (by omega), show q + 1 - 1 = q by omega, el]
        rw [e3]
        by_cases k : rdn g q (some x) ≤ c
        · rw [if_pos k, if_pos k]
          exact ih (i + 1) f c (by omega) (by omega) hc
        · rw [if_neg k, if_neg k]
          exact ih (i + 1) f _ (by omega) (by omega) hl3
/-! the reference's -/
theorem ls_drop {es : List en} {k : Nat} (h : k < es.length) : es.drop k = es[k] :: es.drop (k + 1) := (List.drop_eq_getElem_cons h)
theorem pm_moved0 {G : tc_G} (h4 : gm4 G) {u : tc_S} {es : List en} (hl : ls u es) (hn : es.length ≤ 68) : ∀ (n k f : Nat) (c : Int32), k + n = es.length → n < f → lo_X12_moved_10 G f 71 0 c (nI k) u = some ((es.drop k).foldl mvS c, u) := by
  intro n
  induction n with
  | zero =>
    intro k f c hk hf
    obtain ⟨f, rfl⟩ : ∃ k, f = k + 1 := ⟨f - 1, by omega⟩
    rw [lo_X12_moved_10, hl.1, pu_le (by omega) (by omega), if_pos (by omega), List.drop_eq_nil_of_le (by omega)]
    rfl
  | succ n ih =>
    intro k f c hk hf
    obtain ⟨f, rfl⟩ : ∃ k, f = k + 1 := ⟨f - 1, by omega⟩
    rw [lo_X12_moved_10, hl.1, pu_le (by omega) (by omega), if_neg (by omega), if_pos rfl, h4.1, show (4 : Int32) * nI k = nI (4 * k) from pk_mul 4 k, show nI (4 * k) + 3 = nI (4 * k + 3) from nI_add _ 3, pu_ld h4.2 (by omega) (by omega), (hl.2 k (by omega)).2.2.2]
    unfold bl_X12_moved_69 tc_let
    rw [nI_1, ls_drop (by omega)]
    exact ih (k + 1) f _ (by omega) (by omega)
theorem pm_moved1 {G : tc_G} (h4 : gm4 G) {u : tc_S} {es : List en} (hl : ls u es) (hn : es.length ≤ 68) : ∀ (n k f : Nat) (c : Int32), k + n = es.length → n < f → lo_X12_moved_10 G f 71 1 c (nI k) u = some ((es.drop k).foldl mvM c, u) := by
  intro n
  induction n with
  | zero =>
    intro k f c hk hf
    obtain ⟨f, rfl⟩ : ∃ k, f = k + 1 := ⟨f - 1, by omega⟩
    rw [lo_X12_moved_10, hl.1, pu_le (by omega) (by omega), if_pos (by omega), List.drop_eq_nil_of_le (by omega)]
    rfl
  | succ n ih =>
    intro k f c hk hf
    obtain ⟨f, rfl⟩ : ∃ k, f = k + 1 := ⟨f - 1, by omega⟩
    rw [lo_X12_moved_10, hl.1, pu_le (by omega) (by omega), if_neg (by omega), if_neg i_n1, h4.1, show (4 : Int32) * nI k = nI (4 * k) from pk_mul 4 k, show nI (4 * k) + 3 = nI (4 * k + 3) from nI_add _ 3, pu_ld h4.2 (by omega) (by omega), pu_ld h4.2 (by omega) (by omega), (hl.2 k (by omega)).2.2.2]
    unfold bl_X12_moved_69 tc_let
    rw [nI_1, ls_drop (by omega)]
    show _ = some ((es.drop (k + 1)).foldl mvM (mvM c es[k]), u)
    unfold mvM
    by_cases d : (es[k]).2.2.2 ≤ c
    · rw [if_pos d, if_pos d]
      exact ih (k + 1) f _ (by omega) (by omega)
    · rw [if_neg d, if_neg d]
      exact ih (k + 1) f _ (by omega) (by omega)
theorem pm_gread {G : tc_G} (hG : gm G) (h4 : gm4 G) {u : tc_S} {B : Nat} {g : mp} {es : List en} (hB : B + 292 ≤ 3253) (hM : isM u B g) (hw : mwf g) (hl : ls u es) (hn : es.length ≤ 68) (hk1 : ∀ e ∈ es, ∃ q, q ≤ 999 ∧ e.1 = nI (q + 1)) : ∀ (n k f c : Nat), k + n = es.length → n < f → c ≤ 3 → lo_X12_greatestRead_9 G f 71 (nI B) (nI c) (nI k) u = some (nI ((es.drop k).foldl (rdM g) c), u) := by
  intro n
  induction n with
  | zero =>
    intro k f c hk hf hc
    obtain ⟨f, rfl⟩ : ∃ k, f = k + 1 := ⟨f - 1, by omega⟩
    rw [lo_X12_greatestRead_9, hl.1, pu_le (by omega) (by omega), if_pos (by omega), List.drop_eq_nil_of_le (by omega)]
    rfl
  | succ n ih =>
    intro k f c hk hf hc
    obtain ⟨f, rfl⟩ : ∃ k, f = k + 1 := ⟨f - 1, by omega⟩
    obtain ⟨q, q1, q2⟩ := hk1 (es[k]) (List.getElem_mem (by omega))
    have hr := rdn_le g q (mloc g q)
    rw [lo_X12_greatestRead_9, hl.1, pu_le (by omega) (by omega), if_neg (by omega), h4.1, show (4 : Int32) * nI k = nI (4 * k) from pk_mul 4 k, pu_ld h4.2 (by omega) (by omega), (hl.2 k (by omega)).1, q2, nI_pred, pm_reads hG hB hM hw q1, pu_b, pu_le (by omega) (by omega)]
    unfold bl_X12_greatestRead_46 tc_let
    rw [nI_1, ls_drop (by omega)]
    show _ = some (nI ((es.drop (k + 1)).foldl (rdM g) (rdM g c es[k])), u)
    have e3 : rdM g c es[k] = if rdn g q (mloc g q) ≤ c then c else rdn g q (mloc g q) := by
      unfold rdM
      rw [q2, nI_clamp (by omega), show q + 1 - 1 = q by omega]
    rw [e3]
    by_cases d : rdn g q (mloc g q) ≤ c
    · rw [if_pos d, if_pos d]
      exact ih (k + 1) f _ (by omega) (by omega) hc
    · rw [if_neg d, if_neg d]
      exact ih (k + 1) f _ (by omega) (by omega) hr
theorem mes_key {g : mp} (hw : mwf g) : ∀ e ∈ mes g, ∃ q, q ≤ 999 ∧ e.1 = nI (q + 1) := by
  rw [← cl_mes hw]
  have key : ∀ n i, i + n = 68 → ∀ e ∈ cl g n i, ∃ q, q ≤ 999 ∧ e.1 = nI (q + 1) := by
    intro n
    induction n with
    | zero => intro i _ e he; cases he
    | succ n ih =>
      intro i hi e he
      rw [cl] at he
      rcases List.mem_append.mp he with h | h
      · by_cases d : (fc g i).1 = 0
        · rw [if_pos d] at h; cases h
        · rw [if_neg d] at h
          rw [List.mem_singleton.mp h]
          obtain ⟨x, v1, v2, v3, v4⟩ := fc_cell hw (by omega) d
          have c := hw.1.2.2.1 x (by omega)
          rw [v4] at d ⊢
          have d2 : ¬ (g (20 + 4 * x)) = 0 := d
          have c0 : ck g x ≠ 0 := fun z => d2 (by rw [c.1, z]; rfl)
          exact ⟨ck g x - 1, by omega, by rw [show ck g x - 1 + 1 = ck g x by omega]; exact c.1⟩
      · exact ih (i + 1) (by omega) e h
  exact key 68 0 (by omega)
