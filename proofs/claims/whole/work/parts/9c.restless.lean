/-! the call restless -/
def rst1 (o : Option en) (e : en) : Option en := match o with
  | none => some e
  | some b => if e.2.2.2 ≤ b.2.2.2 then (if e.2.2.2 = b.2.2.2 then (if b.1 ≤ e.1 then some b else some e) else some b) else some e
def bet (e e' : en) : Prop := e'.2.2.2.toInt < e.2.2.2.toInt ∨ (e'.2.2.2.toInt = e.2.2.2.toInt ∧ e.1.toInt ≤ e'.1.toInt)
theorem bet_refl (e : en) : bet e e := Or.inr ⟨rfl, Int.le_refl _⟩
theorem bet_tr {a b c : en} (h : bet a b) (k : bet b c) : bet a c := by
  unfold bet at *
  omega
theorem bet_or (a b : en) : bet a b ∨ bet b a := by
  unfold bet
  omega
theorem rst_step (b e : en) : ∃ c, rst1 (some b) e = some c ∧ (c = b ∨ c = e) ∧ bet c b ∧ bet c e := by
  unfold rst1
  show ∃ c, (if e.2.2.2 ≤ b.2.2.2 then (if e.2.2.2 = b.2.2.2 then (if b.1 ≤ e.1 then some b else some e) else some b) else some e) = some c ∧ _
  by_cases c1 : e.2.2.2 ≤ b.2.2.2
  · have d1 := Int32.le_iff_toInt_le.mp c1
    rw [if_pos c1]
    by_cases c2 : e.2.2.2 = b.2.2.2
    · rw [if_pos c2]
      by_cases c3 : b.1 ≤ e.1
      · have d3 := Int32.le_iff_toInt_le.mp c3
        rw [if_pos c3]
        exact ⟨b, rfl, Or.inl rfl, bet_refl b, Or.inr ⟨by rw [c2], d3⟩⟩
      · have d3 := Int32.lt_iff_toInt_lt.mp (Int32.not_le.mp c3)
        rw [if_neg c3]
        exact ⟨e, rfl, Or.inr rfl, Or.inr ⟨by rw [c2], by omega⟩, bet_refl e⟩
    · have d2 : e.2.2.2.toInt ≠ b.2.2.2.toInt := fun z => c2 (Int32.toInt_inj.mp z)
      rw [if_neg c2]
      exact ⟨b, rfl, Or.inl rfl, bet_refl b, Or.inl (by omega)⟩
  · have d1 := Int32.lt_iff_toInt_lt.mp (Int32.not_le.mp c1)
    rw [if_neg c1]
    exact ⟨e, rfl, Or.inr rfl, Or.inl (by omega), bet_refl e⟩
theorem rst_fold : ∀ (es : List en) (b : en), ∃ c, es.foldl rst1 (some b) = some c ∧ (c = b ∨ c ∈ es) ∧ bet c b ∧ ∀ e ∈ es, bet c e := by
  intro es
  induction es with
  | nil => intro b; exact ⟨b, rfl, Or.inl rfl, bet_refl b, fun e he => by cases he⟩
  | cons e es ih =>
    intro b
    obtain ⟨c, c1, c2, c3, c4⟩ := rst_step b e
    obtain ⟨d, d1, d2, d3, d4⟩ := ih c
    refine ⟨d, ?_, ?_, bet_tr d3 c3, fun x hx => ?_⟩
    · rw [List.foldl_cons, c1, d1]
    · rcases d2 with z | z
      · rw [z]
        rcases c2 with w | w
        · exact Or.inl w
        · exact Or.inr (by rw [w]; exact List.mem_cons_self ..)
      · exact Or.inr (List.mem_cons_of_mem _ z)
    · rcases List.mem_cons.mp hx with z | z
      · rw [z]; exact bet_tr d3 c4
      · exact d4 x z
theorem pm_restless {G : tc_G} (h4 : gm4 G) {u : tc_S} {es : List en} (hl : ls u es) (hn : es.length ≤ 68) : lo_X12_restless_9 G tc_fu 71 (-1) 0 u = some (kans (es.foldl rst1 none), u) := by
  have hfu := tc_fu_big
  have m4 : ∀ k : Nat, (4 : Int32) * nI k = nI (4 * k) := fun k => pk_mul 4 k
  have p3 : ∀ k : Nat, nI (4 * k) + 3 = nI (4 * k + 3) := fun k => nI_add _ 3
  have loop : ∀ (n k f b : Nat) (hb : b < es.length), k + n = es.length → n < f → lo_X12_restless_9 G f 71 (nI b) (nI k) u = some (kans ((es.drop k).foldl rst1 (some es[b])), u) := by
    intro n
    induction n with
    | zero =>
      intro k f b hb hk hf
      obtain ⟨f, rfl⟩ : ∃ k, f = k + 1 := ⟨f - 1, by omega⟩
      rw [lo_X12_restless_9, hl.1, pu_le (by omega) (by omega), if_pos (by omega), if_pos (nI_pos' (by omega)), h4.1, m4, pu_ld h4.2 (by omega) (by omega), (hl.2 b hb).1, List.drop_eq_nil_of_le (by omega)]
      rfl
    | succ n ih =>
      intro k f b hb hk hf
      obtain ⟨f, rfl⟩ : ∃ k, f = k + 1 := ⟨f - 1, by omega⟩
      have gk := hl.2 k (by omega)
      have gb := hl.2 b hb
      have keep := ih (k + 1) f b hb (by omega) (by omega)
      have take := ih (k + 1) f k (by omega) (by omega) (by omega)
      rw [lo_X12_restless_9, hl.1, pu_le (by omega) (by omega), if_neg (by omega), if_neg (nI_pos (by omega)), h4.1, m4, m4, p3, p3, pu_ld h4.2 (by omega) (by omega), pu_ld h4.2 (by omega) (by omega), gk.2.2.2, gb.2.2.2, ls_drop (by omega), List.foldl_cons]
      unfold bl_X12_restless_44 bl_X12_restless_49 bl_X12_restless_81 bl_X12_restless_82 bl_X12_restless_112 bl_X12_restless_116 bl_X12_restless_117 tc_let
      rw [if_neg (nI_pos (by omega)), if_neg (nI_pos (by omega)), h4.1, m4, m4, p3, p3, pu_ld h4.2 (by omega) (by omega), pu_ld h4.2 (by omega) (by omega), gk.2.2.2, gb.2.2.2, pu_ld h4.2 (by omega) (by omega), pu_ld h4.2 (by omega) (by omega), gk.1, gb.1, nI_1]
      have e1 : rst1 (some es[b]) es[k] = (if es[k].2.2.2 ≤ es[b].2.2.2 then (if es[k].2.2.2 = es[b].2.2.2 then (if es[b].1 ≤ es[k].1 then some es[b] else some es[k]) else some es[b]) else some es[k]) := rfl
      rw [e1]
      by_cases c1 : es[k].2.2.2 ≤ es[b].2.2.2
      · rw [if_pos c1, if_pos c1]
        by_cases c2 : es[k].2.2.2 = es[b].2.2.2
        · rw [if_pos c2, if_pos c2, if_pos rfl, if_neg i_n1]
          by_cases c3 : es[b].1 ≤ es[k].1
          · rw [if_pos c3, if_pos c3]
            exact keep
          · rw [if_neg c3, if_neg c3]
            exact take
        · rw [if_neg c2, if_neg c2, if_pos rfl, if_pos rfl]
          exact keep
      · have c2 : ¬ es[k].2.2.2 = es[b].2.2.2 := fun z => c1 (by rw [z]; exact Int32.le_refl _)
        rw [if_neg c1, if_neg c1, pu_ld h4.2 (by omega) (by omega), pu_ld h4.2 (by omega) (by omega), gk.2.2.2, gb.2.2.2, if_neg c2, if_neg i_n1]
        exact take
  cases es with
  | nil =>
    obtain ⟨f, hf⟩ : ∃ k, tc_fu = k + 1 := ⟨tc_fu - 1, by omega⟩
    rw [hf, lo_X12_restless_9, hl.1, if_pos (by decide), if_neg (by decide)]
    rfl
  | cons e es =>
    have hlen : (e :: es).length = es.length + 1 := rfl
    obtain ⟨f, hf⟩ : ∃ k, tc_fu = k + 1 := ⟨tc_fu - 1, by omega⟩
    rw [hf, lo_X12_restless_9, hl.1, show (0 : Int32) = nI 0 from rfl, pu_le (by omega) (by omega), if_neg (by omega), if_pos (show (-1 : Int32) < nI 0 by decide)]
    unfold bl_X12_restless_44 bl_X12_restless_49 bl_X12_restless_81 bl_X12_restless_82 bl_X12_restless_112 bl_X12_restless_117 tc_let
    rw [if_pos (by decide), if_neg i_n1, nI_1]
    exact loop es.length 1 f 0 (by omega) (by omega) (by omega)
/-- the class's -/
theorem mt_rest {G : tc_G} (hA : gA G) (hR : gR G) {u : tc_S} {g : mp} {n : Nat} {os : Nat → Nat} (hw : mwf g) (h : mt u 2 g) (g1 : rs u n os) (hs : srt (kfil g) (fun j => kvl 0 (fc g j)) 68 n os) : ∀ (m a f b : Nat), a + m = n → m < f → b < a → (∀ k, k < a → bet (fc g (os b)) (fc g (os k))) → ∃ c, c < n ∧ (∀ k, k < n → bet (fc g (os c)) (fc g (os k))) ∧ lo_X11_restless_21 G f 0 2 (nI (os b)) (nI a) u = some ((fc g (os c)).1 - 1, u) := by
  obtain ⟨⟨o0, o1, o2, o3, o4, o5, o6, o7, o8, o9, o10⟩, ⟨a1, a2, a3⟩, ⟨a4, a5, a6, a7⟩, b1, b2, b3, b4⟩ := hA
  have hln := srt_len hs
  have rows : ∀ k, k < n → u.1 6 (os k) = (fc g (os k)).1 - 1 ∧ u.1 9 (os k) = (fc g (os k)).2.2.2 ∧ (fc g (os k)).1.toInt = (kvl 0 (fc g (os k)) : Int) + 1 := by
    intro k hk
    have ho := hs.2.1 k hk
    rcases h.2.1 (os k) (by omega) with ⟨x1, x2⟩ | ⟨q, q1, q2, q3, q4, q5, q6, q7⟩
    · exact absurd (by rw [x1]; rfl) ho.2
    · refine ⟨by rw [q2, nI_pred]; exact q3, q6, ?_⟩
      unfold kvl
      rw [if_pos rfl, q2, nI_toInt (by omega), nI_clamp (by omega)]
      omega
  intro m
  induction m with
  | zero =>
    intro a f b ha hf hb hbet
    obtain ⟨f, rfl⟩ : ∃ k, f = k + 1 := ⟨f - 1, by omega⟩
    have ho := hs.2.1 b (by omega)
    refine ⟨b, by omega, fun k hk => hbet k (by omega), ?_⟩
    rw [lo_X11_restless_21, o5, g1.1, pu_le (by omega) (by omega), if_pos (by omega), if_pos (nI_pos' (by omega)), a4.2.1.1, pu_ld (a4.2.2.2 _ (by omega) (by omega)) (show os b < 69 by omega) (by omega)]
    show some (u.1 6 (os b), u) = _
    rw [(rows b (by omega)).1]
  | succ m ih =>
    intro a f b ha hf hb hbet
    obtain ⟨f, rfl⟩ : ∃ k, f = k + 1 := ⟨f - 1, by omega⟩
    have ho := hs.2.1 b (by omega)
    have hoa := hs.2.1 a (by omega)
    have ra := rows a (by omega)
    have rb := rows b (by omega)
    rw [lo_X11_restless_21, o5, g1.1, pu_le (by omega) (by omega), if_neg (by omega), hR.1.1, pu_ld hR.2.1 (by omega) (by omega), g1.2 a (by omega), if_neg (nI_pos (by omega)), a4.2.1.2.2.2.1, pu_ld (a4.2.2.2 _ (by omega) (by omega)) (show os a < 69 by omega) (by omega), pu_ld (a4.2.2.2 _ (by omega) (by omega)) (show os b < 69 by omega) (by omega)]
    unfold bl_X11_restless_63 bl_X11_restless_66 tc_let
    show ∃ c, c < n ∧ _ ∧ (if u.1 9 (os a) ≤ u.1 9 (os b) then lo_X11_restless_21 G f 0 2 (nI (os b)) (nI a + 1) u else lo_X11_restless_21 G f 0 2 (nI (os a)) (nI a + 1) u) = _
    rw [ra.2.1, rb.2.1, nI_1]
    have lt : ∀ k, k < a → kvl 0 (fc g (os k)) < kvl 0 (fc g (os a)) := fun k hk => hs.1 k a hk (by omega)
    by_cases c : (fc g (os a)).2.2.2 ≤ (fc g (os b)).2.2.2
    · have d := Int32.le_iff_toInt_le.mp c
      rw [if_pos c]
      refine ih (a + 1) f b (by omega) (by omega) (by omega) fun k hk => ?_
      by_cases e : k = a
      · rw [e]
        have := lt b hb
        have e1 := ra.2.2
        have e2 := rb.2.2
        unfold bet
        omega
      · exact hbet k (by omega)
    · have d := Int32.lt_iff_toInt_lt.mp (Int32.not_le.mp c)
      rw [if_neg c]
      refine ih (a + 1) f a (by omega) (by omega) (by omega) fun k hk => ?_
      by_cases e : k = a
      · rw [e]; exact bet_refl _
      · exact bet_tr (Or.inl d) (hbet k (by omega))
theorem c_restless {G : tc_G} (hA : gA G) (hR : gR G) {L : tc_L} {u : tc_S} {P : Nat} {g : mp} (hu : cC u P g) (hM : isM u 0 g) : ∃ g2 P2, P2 ≤ P + 12 ∧ yl (tc_b (fn_X11_restless G 0 u) fun r1 u1 => tc_b (fn_X12_restless G 71 u1) fun r2 u2 => if r1 = r2 then some (L, u2) else none) (pqq L u P2 g2) := by
  have hA0 := hA
  obtain ⟨⟨o0, o1, o2, o3, o4, o5, o6, o7, o8, o9, o10⟩, ⟨a1, a2, a3⟩, ⟨a4, a5, a6, a7⟩, b1, b2, b3, b4⟩ := hA
  have hfu := tc_fu_big
  have hw := hu.2.1.1
  refine ⟨g, P, by omega, pr_call (R := kans ((mes g).foldl rst1 none)) hu hM hu.2.1 ?_ fun w hw2 => ?_⟩
  · unfold fn_X11_restless
    rw [o5, o0, o1]
    refine yl_b (mt_gather hR a4 (by omega) hw hu.1 0) fun _ w hg => ?_
    obtain ⟨n, os, g1, g2, g3⟩ := hg
    have hln := srt_len g2
    have m1 : mt w 2 g := mt_fr hu.1 g3 fun o k q1 q2 => by unfold fG; omega
    obtain ⟨f, hf⟩ : ∃ k, tc_fu = k + 1 := ⟨tc_fu - 1, by omega⟩
    by_cases h0 : n = 0
    · have e0 : mes g = [] := by
        rw [← cl_mes hw]
        refine List.eq_nil_iff_forall_not_mem.mpr fun e he => ?_
        obtain ⟨j, j1, j2, j3, j4⟩ := (cl_mem 68 0).mp he
        obtain ⟨a, ha, _⟩ := g2.2.2 j (by omega) j3
        omega
      rw [e0]
      refine ⟨(-1, w), ?_, rfl, m1, fG_c g3⟩
      rw [hf, lo_X11_restless_21, o5, g1.1, h0, if_pos (by decide), if_neg (by decide)]
      rfl
    · have st : lo_X11_restless_21 G tc_fu 0 2 (-1) 0 w = lo_X11_restless_21 G f 0 2 (nI (os 0)) (nI 1) w := by
        rw [hf, lo_X11_restless_21, o5, g1.1, show (0 : Int32) = nI 0 from rfl, pu_le (by omega) (by omega), if_neg (by omega), hR.1.1, pu_ld hR.2.1 (by omega) (by omega), g1.2 0 (by omega), if_pos (show (-1 : Int32) < nI 0 by decide)]
        unfold bl_X11_restless_63 bl_X11_restless_66 tc_let
        rw [nI_1]
      obtain ⟨c, c1, c2, c3⟩ := mt_rest hA0 hR hw m1 g1 g2 (n - 1) 1 f 0 (by omega) (by omega) (by omega) fun k hk => by
        rw [show k = 0 by omega]; exact bet_refl _
      refine ⟨_, st.trans c3, ?_, m1, fG_c g3⟩
      have mem : ∀ k, k < n → fc g (os k) ∈ mes g := fun k hk => by
        rw [← cl_mes hw]
        exact (cl_mem 68 0).mpr ⟨os k, by omega, by have := (g2.2.1 k hk).1; omega, (g2.2.1 k hk).2, rfl⟩
      have inv : ∀ e ∈ mes g, ∃ k, k < n ∧ e = fc g (os k) := fun e he => by
        rw [← cl_mes hw] at he
        obtain ⟨j, j1, j2, j3, j4⟩ := (cl_mem 68 0).mp he
        obtain ⟨a, ha, hb⟩ := g2.2.2 j (by omega) j3
        exact ⟨a, ha, by rw [hb]; exact j4⟩
      have key : ∃ e, (mes g).foldl rst1 none = some e ∧ e ∈ mes g ∧ ∀ e' ∈ mes g, bet e e' := by
        cases he : mes g with
        | nil => have := mem c c1; rw [he] at this; cases this
        | cons b es =>
          obtain ⟨d, d1, d2, d3, d4⟩ := rst_fold es b
          refine ⟨d, d1, ?_, fun x hx => ?_⟩
          · rcases d2 with z | z
            · rw [z]; exact List.mem_cons_self ..
            · exact List.mem_cons_of_mem _ z
          · rcases List.mem_cons.mp hx with z | z
            · rw [z]; exact d3
            · exact d4 x z
      obtain ⟨e, e1, e2, e3⟩ := key
      rw [e1]
      show (fc g (os c)).1 - 1 = e.1 - 1
      obtain ⟨k, k1, k2⟩ := inv e e2
      have b1 := e3 _ (mem c c1)
      have b2 := c2 k k1
      rw [← k2] at b2
      have : (fc g (os c)).1.toInt = e.1.toInt := by
        unfold bet at b1 b2
        omega
      rw [Int32.toInt_inj.mp this]
  · unfold fn_X12_restless
    refine yl_b (pm_lists b1 b4 (B := 0) (by omega) hw2 hw) fun _ z hl => ?_
    exact ⟨_, pm_restless b4 hl.1 (mes_len hw), rfl, isM_L hw2 hl.2, fL_r hl.2⟩
