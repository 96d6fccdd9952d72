/-! words -/
def tbl (t : Nat → Nat) : Nat → Nat → List Nat
  | 0, _ => []
  | m + 1, s => t s :: tbl t m (s + 1)
theorem tbl_len (t : Nat → Nat) : ∀ m s, (tbl t m s).length = m := by
  intro m
  induction m with
  | zero => intro s; rfl
  | succ m ih => intro s; rw [tbl, List.length_cons, ih]
theorem tbl_snoc (t : Nat → Nat) : ∀ m s, tbl t (m + 1) s = tbl t m s ++ [t (s + m)] := by
  intro m
  induction m with
  | zero => intro s; rfl
  | succ m ih =>
    intro s
    rw [tbl, ih (s + 1), tbl, List.cons_append, show s + 1 + m = s + (m + 1) by omega]
theorem tbl_mem {t : Nat → Nat} {x : Nat} : ∀ {m s}, x ∈ tbl t m s → ∃ j, s ≤ j ∧ j < s + m ∧ x = t j := by
  intro m
  induction m with
  | zero => intro s h; cases h
  | succ m ih =>
    intro s h
    rw [tbl] at h
    rcases List.mem_cons.mp h with h | h
    · exact ⟨s, Nat.le_refl _, by omega, h⟩
    · obtain ⟨j, j1, j2, j3⟩ := ih h
      exact ⟨j, by omega, by omega, j3⟩
def wds (w : Nat) : List (List Nat) := if w = 0 then [[98, 117, 99, 107, 101, 116, 115], [115, 108, 111, 116, 115], [115, 116, 97, 115, 104], [100, 101, 112, 116, 104], [116, 114, 105, 101, 115], [115, 101, 101, 100], [107, 105, 99, 107], [102, 117, 108, 108], [111, 110, 101], [116, 119, 111], [104, 97, 115]] else if w = 1 then [[110, 111, 110, 101], [119, 97, 108, 107], [115, 104, 111, 114, 116, 101, 115, 116]] else [[114, 101, 102, 117, 115, 101], [114, 101, 104, 97, 115, 104], [103, 114, 111, 119], [116, 101, 115, 116]]
def txw : List (List Nat) → List Nat
  | [] => []
  | W :: ws => W ++ 32 :: txw ws
theorem tx_len : ∀ w, w < 3 → tc_tl.getD w 0 = (txw (wds w)).length := by decide +kernel
theorem tx_at : ∀ w, w < 3 → ∀ j, j < 59 → j < (txw (wds w)).length → tc_sx w (nI j) = nI ((txw (wds w)).getD j 0) ∧ (txw (wds w)).getD j 0 < 128 := by decide +kernel
theorem tx_59 : ∀ w, w < 3 → (txw (wds w)).length ≤ 59 := by decide +kernel
theorem wds_ok : ∀ w, w < 3 → ∀ W ∈ wds w, (∀ c ∈ W, 97 ≤ c ∧ c ≤ 122) ∧ W.length ≤ 8 := by decide +kernel
def wsr (c : Nat) : Option (List Nat) → Option (List Nat)
  | some (x :: l) => if x = c then some l else none
  | _ => none
def wsc (b : List Nat) : List Nat → Nat → Option (List Nat) → Option Nat
  | [], _, _ => none
  | c :: cs, wd, rm => if c = 32 then (if rm = some [] then some wd else wsc b cs (wd + 1) (some b)) else wsc b cs wd (wsr c rm)
def wix : List (List Nat) → Nat → List Nat → Option Nat
  | [], _, _ => none
  | W :: ws, i, b => if b = W then some i else wix ws (i + 1) b
theorem wsc_n {b rest : List Nat} {wd : Nat} : ∀ {W : List Nat}, (∀ c ∈ W, c ≠ 32) → wsc b (W ++ 32 :: rest) wd none = wsc b rest (wd + 1) (some b) := by
  intro W
  induction W with
  | nil =>
    intro _
    rw [List.nil_append, wsc, if_pos rfl, if_neg (by intro z; cases z)]
  | cons c W ih =>
    intro h
    rw [List.cons_append, wsc, if_neg (h c (List.mem_cons_self ..))]
    exact ih fun x hx => h x (List.mem_cons_of_mem _ hx)
theorem wsc_w {b rest : List Nat} {wd : Nat} : ∀ {W r : List Nat}, (∀ c ∈ W, c ≠ 32) → wsc b (W ++ 32 :: rest) wd (some r) = if r = W then some wd else wsc b rest (wd + 1) (some b) := by
  intro W
  induction W with
  | nil =>
    intro r _
    rw [List.nil_append, wsc, if_pos rfl]
    by_cases c : r = []
    · rw [if_pos c, if_pos (by rw [c])]
    · rw [if_neg c, if_neg (fun z => c (Option.some.inj z))]
  | cons c W ih =>
    intro r h
    have hc := h c (List.mem_cons_self ..)
    have hW : ∀ x ∈ W, x ≠ 32 := fun x hx => h x (List.mem_cons_of_mem _ hx)
    rw [List.cons_append, wsc, if_neg hc]
    cases r with
    | nil =>
      rw [if_neg (by intro z; cases z)]
      exact wsc_n hW
    | cons x l =>
      show wsc b (W ++ 32 :: rest) wd (if x = c then some l else none) = _
      by_cases e : x = c
      · rw [if_pos e, ih hW, e]
        by_cases e2 : l = W
        · rw [if_pos e2, if_pos (by rw [e2])]
        · rw [if_neg e2, if_neg (fun z => e2 (List.cons.inj z).2)]
      · rw [if_neg e, if_neg (fun z => e (List.cons.inj z).1)]
        exact wsc_n hW
theorem wsc_wix {b : List Nat} : ∀ (ws : List (List Nat)) (wd : Nat), (∀ W ∈ ws, ∀ c ∈ W, c ≠ 32) → wsc b (txw ws) wd (some b) = wix ws wd b := by
  intro ws
  induction ws with
  | nil => intro wd _; rfl
  | cons W ws ih =>
    intro wd h
    rw [txw, wsc_w (h W (List.mem_cons_self ..)), wix, ih (wd + 1) fun x hx => h x (List.mem_cons_of_mem _ hx)]
def kW (t : Nat → Nat) (n p : Nat) : List Nat := tbl t (kE t n p - kS t n p) (kS t n p)
theorem pc_word {G : tc_G} (hW : gW G) {u : tc_S} {t : Nat → Nat} {n s e w : Nat} (hw : w < 3) (hB : cB u t n) (he : e ≤ n) (h9 : u.1 65 9 = nI e) (h11 : u.1 65 11 = nI s) (hse : s ≤ e) : ∀ (m j f wd : Nat) (v3 v4 : Int32) (rm : Option (List Nat)), j + m = (txw (wds w)).length → m < f → ((rm = none ∧ v4 = 0) ∨ ∃ i, i ≤ e ∧ v4 = 1 ∧ v3 = nI i ∧ rm = some (tbl t (e - i) i)) → lo_X6_wordOf_13 G f 65 w (nI wd) v3 v4 (nI j) u = some (oI (wsc (tbl t (e - s) s) ((txw (wds w)).drop j) wd rm), u) := by
  have hl := tx_len w hw
  have h59 := tx_59 w hw
  have hn := hB.1
  have sl : tc_sl w = nI (txw (wds w)).length := by unfold tc_sl; rw [hl]; rfl
  have sc : ∀ {β : Type} {j : Nat} (k : Int32 → Option β), j < (txw (wds w)).length → tc_sc w (nI j) k = k (nI ((txw (wds w)).getD j 0)) := fun k hj => by
    unfold tc_sc
    rw [hl, if_neg (nI_in hj (by omega)), (tx_at w hw _ (by omega) hj).1]
  intro m
  induction m with
  | zero =>
    intro j f wd v3 v4 rm hj hf hr
    obtain ⟨f, rfl⟩ : ∃ k, f = k + 1 := ⟨f - 1, by omega⟩
    rw [lo_X6_wordOf_13, sl, if_pos (nI_le (by omega) (by omega)), List.drop_eq_nil_of_le (by omega)]
    rfl
  | succ m ih =>
    intro j f wd v3 v4 rm hj hf hr
    obtain ⟨f, rfl⟩ : ∃ k, f = k + 1 := ⟨f - 1, by omega⟩
    have hjl : j < (txw (wds w)).length := by omega
    have hc := (tx_at w hw j (by omega) hjl).2
    have hg : (txw (wds w)).getD j 0 = (txw (wds w))[j] := by rw [List.getD_eq_getElem?_getD, List.getElem?_eq_getElem hjl]; rfl
    rw [lo_X6_wordOf_13, sl, if_neg (nI_ge (by omega) (by omega)), sc _ hjl, List.drop_eq_getElem_cons hjl, wsc, ← hg]
    generalize hcg : (txw (wds w)).getD j 0 = c at hc ⊢
    have e32 : nI c = 32 ↔ c = 32 := nI_eq (b := 32) (by omega) (by omega)
    unfold bl_X6_wordOf_48 bl_X6_wordOf_94 bl_X6_wordOf_95 bl_X6_wordOf_100 tc_let
    rw [h9, h11, nI_1, nI_1]
    by_cases c1 : c = 32
    · rw [if_pos (e32.mpr c1), if_pos c1]
      have next := ih (j + 1) f (wd + 1) (nI s) 1 (some (tbl t (e - s) s)) (by omega) (by omega) (Or.inr ⟨s, hse, rfl, rfl, rfl⟩)
      rcases hr with ⟨r1, r2⟩ | ⟨i, r1, r2, r3, r4⟩
      · rw [if_pos r2, if_neg (by rw [r1]; intro z; cases z)]
        exact next
      · rw [if_neg (by rw [r2]; decide), r3, r4]
        by_cases c2 : i = e
        · rw [if_pos (by rw [c2]), if_pos (by rw [c2, Nat.sub_self]; rfl)]
          rfl
        · rw [if_neg (fun z => c2 ((nI_eq (by omega) (by omega)).mp z)), if_neg]
          · exact next
          · intro z
            have z2 := congrArg List.length (Option.some.inj z)
            rw [tbl_len] at z2
            simp at z2
            omega
    · rw [if_neg (fun z => c1 (e32.mp z)), if_neg c1]
      rcases hr with ⟨r1, r2⟩ | ⟨i, r1, r2, r3, r4⟩
      · rw [if_pos r2, r1]
        exact ih (j + 1) f wd (v3 + 1) 0 none (by omega) (by omega) (Or.inl ⟨rfl, rfl⟩)
      · rw [if_neg (by rw [r2]; decide), r3, r4, pu_le (by omega) (by omega), nI_1]
        by_cases c2 : e ≤ i
        · rw [if_pos c2, show e - i = 0 by omega]
          exact ih (j + 1) f wd _ 0 none (by omega) (by omega) (Or.inl ⟨rfl, rfl⟩)
        · rw [if_neg c2, hW.1, pu_ld hW.2.2.2.2.2 (show i < 400 by omega) (by omega), hB.2.2.2 _ (by omega), sc _ hjl]
          rw [hcg]
          obtain ⟨e', he'⟩ : ∃ k, e - i = k + 1 := ⟨e - i - 1, by omega⟩
          have hb := hB.2.1 i
          have eq : sb (t i) = nI c ↔ t i = c := by
            constructor
            · intro z
              by_cases d : t i < 128
              · rw [(sb_n _ hb).1 d] at z
                exact (nI_eq (by omega) (by omega)).mp z
              · have := (sb_n _ hb).2 (by omega)
                rw [z] at this
                exact absurd this (nI_pos (by omega))
            · intro z
              rw [(sb_n _ hb).1 (by omega), z]
          rw [he', tbl]
          show _ = some (oI (wsc (tbl t (e - s) s) (List.drop (j + 1) (txw (wds w))) wd (if t i = c then some (tbl t e' (i + 1)) else none)), u)
          by_cases d : t i = c
          · rw [if_pos (eq.mpr d), if_pos d]
            exact ih (j + 1) f wd (nI (i + 1)) 1 (some (tbl t e' (i + 1))) (by omega) (by omega) (Or.inr ⟨i + 1, by omega, rfl, rfl, by rw [show e - (i + 1) = e' by omega]⟩)
          · rw [if_neg (fun z => d (eq.mp z)), if_neg d]
            exact ih (j + 1) f wd (nI (i + 1)) 0 none (by omega) (by omega) (Or.inl ⟨rfl, rfl⟩)
theorem mt_wordOf {G : tc_G} (hW : gW G) {u : tc_S} {t : Nat → Nat} {n p w : Nat} (hw : w < 3) (hp : p ≤ n) (hB : cB u t n) (hT : cT u t n p) (hk : kK t n p = 1) : fn_X6_wordOf G 65 w u = some (oI (wix (wds w) 0 (kW t n p)), u) := by
  have hfu := tc_fu_big
  have h59 := tx_59 w hw
  have hs := kS_le (t := t) hp
  have he := kE_le (t := t) hp
  unfold fn_X6_wordOf tc_let
  rw [hT.1]
  have z := pc_word hW (t := t) (s := kS t n p) (e := kE t n p) (w := w) hw hB he.2 (hT.2.2.1 (by omega)) hT.1 he.1 (txw (wds w)).length 0 tc_fu 0 (nI (kS t n p)) 1 (some (kW t n p)) (by omega) (by omega) (Or.inr ⟨_, he.1, rfl, rfl, rfl⟩)
  rw [List.drop_zero] at z
  have z2 : wsc (tbl t (kE t n p - kS t n p) (kS t n p)) (txw (wds w)) 0 (some (kW t n p)) = wix (wds w) 0 (kW t n p) := wsc_wix (wds w) 0 fun W h c hc => by
    have := (wds_ok w hw W h).1 c hc
    omega
  rw [z2] at z
  exact z
/-! words by numbers -/
def rvl : List Nat → Nat
  | [] => 0
  | x :: l => 27 * rvl l + (x - 96)
def vl (l : List Nat) : Nat := rvl l.reverse
theorem rvl_inj : ∀ {l m : List Nat}, (∀ c ∈ l, 97 ≤ c ∧ c ≤ 122) → (∀ c ∈ m, 97 ≤ c ∧ c ≤ 122) → rvl l = rvl m → l = m := by
  intro l
  induction l with
  | nil =>
    intro m _ hm h
    cases m with
    | nil => rfl
    | cons y m =>
      have := hm y (List.mem_cons_self ..)
      rw [rvl, rvl] at h
      omega
  | cons x l ih =>
    intro m hl hm h
    have hx := hl x (List.mem_cons_self ..)
    cases m with
    | nil =>
      rw [rvl, rvl] at h
      omega
    | cons y m =>
      have hy := hm y (List.mem_cons_self ..)
      rw [rvl, rvl] at h
      have e1 : x = y := by omega
      have e2 : rvl l = rvl m := by omega
      rw [e1, ih (fun c hc => hl c (List.mem_cons_of_mem _ hc)) (fun c hc => hm c (List.mem_cons_of_mem _ hc)) e2]
theorem rvl_lt : ∀ {l : List Nat}, (∀ c ∈ l, c ≤ 122) → rvl l + 1 ≤ 27 ^ l.length := by
  intro l
  induction l with
  | nil => intro _; exact Nat.le_refl _
  | cons x l ih =>
    intro h
    have := ih fun c hc => h c (List.mem_cons_of_mem _ hc)
    have hx := h x (List.mem_cons_self ..)
    rw [rvl, List.length_cons, Nat.pow_succ]
    omega
theorem wv_vl (t : Nat → Nat) (q : Nat) : ∀ m, m ≤ 9 → wv t q m = vl (tbl t m q) := by
  intro m
  induction m with
  | zero => intro _; rfl
  | succ m ih =>
    intro h
    rw [wv, if_pos (by omega), ih (by omega), tbl_snoc]
    unfold vl
    rw [List.reverse_append]
    rfl
theorem wv_9 (t : Nat → Nat) (q : Nat) : ∀ m, wv t q (9 + m) = wv t q 9 := by
  intro m
  induction m with
  | zero => rfl
  | succ m ih => rw [show 9 + (m + 1) = 9 + m + 1 by omega, wv, if_neg (by omega), ih]
theorem wv_iff {t : Nat → Nat} {q m : Nat} {W : List Nat} (hl : ∀ j, q ≤ j → j < q + m → 97 ≤ t j ∧ t j ≤ 122) (hW : ∀ c ∈ W, 97 ≤ c ∧ c ≤ 122) (h8 : W.length ≤ 8) : (wv t q m = vl W ↔ tbl t m q = W) ∧ wv t q m < 2 ^ 63 ∧ vl W < 2 ^ 63 := by
  have lt : ∀ k, k ≤ m → ∀ c ∈ tbl t k q, 97 ≤ c ∧ c ≤ 122 := fun k hk c hc => by
    obtain ⟨j, j1, j2, j3⟩ := tbl_mem hc
    rw [j3]
    exact hl j j1 (by omega)
  have inj : ∀ {l n : List Nat}, (∀ c ∈ l, 97 ≤ c ∧ c ≤ 122) → (∀ c ∈ n, 97 ≤ c ∧ c ≤ 122) → vl l = vl n → l = n := fun a b h => by
    have := rvl_inj (fun c hc => a c (List.mem_reverse.mp hc)) (fun c hc => b c (List.mem_reverse.mp hc)) h
    exact List.reverse_inj.mp this
  have bd : ∀ {l : List Nat}, (∀ c ∈ l, 97 ≤ c ∧ c ≤ 122) → l.length ≤ 9 → vl l < 2 ^ 63 := fun a h => by
    have := rvl_lt fun c hc => (a c (List.mem_reverse.mp hc)).2
    rw [List.length_reverse] at this
    have p9 := Nat.pow_le_pow_right (n := 27) (by omega) h
    unfold vl
    omega
  by_cases c : m ≤ 9
  · rw [wv_vl t q m c]
    refine ⟨⟨inj (lt m (Nat.le_refl _)) hW, fun z => by rw [z]⟩, bd (lt m (Nat.le_refl _)) (by rw [tbl_len]; exact c), bd hW (by omega)⟩
  · have e := wv_9 t q (m - 9)
    rw [show 9 + (m - 9) = m by omega, wv_vl t q 9 (by omega)] at e
    rw [e]
    refine ⟨⟨fun z => ?_, fun z => ?_⟩, bd (lt 9 (by omega)) (by rw [tbl_len]; omega), bd hW (by omega)⟩
    · have := congrArg List.length (inj (lt 9 (by omega)) hW z)
      rw [tbl_len] at this
      omega
    · have := congrArg List.length z
      rw [tbl_len] at this
      omega
theorem lN_big {a b : Nat} (ha : a < 2 ^ 63) (hb : b < 2 ^ 63) (h : lN a = lN b) : a = b := by
  have h2 := congrArg (fun x : Int64 => x.toBitVec.toNat) h
  have e : ∀ n : Nat, n < 2 ^ 63 → (lN n).toBitVec.toNat = n := fun n hn => by
    rw [show (lN n).toBitVec = BitVec.ofNat 64 n from rfl, BitVec.toNat_ofNat]
    exact Nat.mod_eq_of_lt (by omega)
  rw [e a ha, e b hb] at h2
  exact h2
theorem kW_let {t : Nat → Nat} {n p : Nat} (hk : kK t n p = 1) : ∀ j, kS t n p ≤ j → j < kE t n p → 97 ≤ t j ∧ t j ≤ 122 := by
  intro j h1 h2
  have e1 : kE t n p = xs xL t (n - kS t n p) (kS t n p) := by
    unfold kK at hk
    unfold kE
    by_cases c0 : n ≤ kS t n p
    · rw [if_pos c0] at hk; omega
    · rw [if_neg c0] at hk ⊢
      by_cases c1 : t (kS t n p) = 59
      · rw [if_pos c1] at hk; omega
      · rw [if_neg c1] at hk ⊢
        by_cases c2 : xD (t (kS t n p)) = true
        · rw [if_pos c2] at hk
          split at hk <;> omega
        · rw [if_neg c2]
  rw [e1] at h2
  exact of_decide_eq_true (xs_in h1 h2)
theorem kW_len {t : Nat → Nat} {n p : Nat} : (kW t n p).length = kE t n p - kS t n p := tbl_len _ _ _
theorem pr_isGood {G : tc_G} {u : tc_S} (h : u.1 71 4 = 0) : fn_X12_isGood G 71 u = some (1, u) := by
  unfold fn_X12_isGood bl_X12_isGood_12
  rw [if_pos h]; rfl
theorem pr_isBad {G : tc_G} {u : tc_S} (h : ¬ u.1 71 4 = 0) : fn_X12_isGood G 71 u = some (0, u) := by
  unfold fn_X12_isGood bl_X12_isGood_12
  rw [if_neg h]; rfl
theorem kK_le (t : Nat → Nat) (n p : Nat) : kK t n p ≤ 4 := by
  unfold kK
  repeat' split
  all_goals omega
theorem pr_noWord {G : tc_G} {u : tc_S} {t : Nat → Nat} {n p w : Nat} {W : List Nat} {code : Int64} (hW : W ∈ wds w) (hw : w < 3) (hc : code = lN (vl W)) (h4 : u.1 71 4 = 0) (hp : p ≤ n) (hT : mT u t n p) (hno : kK t n p = 1 → kW t n p ≠ W) : fn_X12_hasWord G 71 code u = some (0, u) := by
  have fin : bl_X12_hasWord_28 G 71 u = some (0, u) := by
    unfold bl_X12_hasWord_28 bl_X12_hasWord_29 bl_X12_hasWord_38
    rw [if_pos rfl]; rfl
  have hkl := kK_le t n p
  unfold fn_X12_hasWord
  rw [pr_isGood h4, pu_b, if_neg i_n1, hT.2.1]
  by_cases c : kK t n p = 1
  · have z := wv_iff (q := kS t n p) (m := kE t n p - kS t n p) (t := t) (fun j j1 j2 => kW_let c j j1 (by have := (kE_le (t := t) hp).1; omega)) (wds_ok w hw W hW).1 (wds_ok w hw W hW).2
    have h29 : ¬ lg_cmp (u.2 71 29) code = 0 := by
      rw [lg_cmp_eq, hT.2.2.2.2 c, hc]
      intro q
      exact hno c (z.1.mp (lN_big z.2.1 z.2.2 q))
    rw [c, if_pos (show nI 1 = 1 from rfl), if_neg h29]
    exact fin
  · rw [show (1 : Int32) = nI 1 from rfl, pu_eq (by omega) (by omega), if_neg c]
    exact fin
theorem pr_isWord {G : tc_G} (hG : gm G) {u : tc_S} {t : Nat → Nat} {n p w : Nat} {W : List Nat} {code : Int64} (hW : W ∈ wds w) (hw : w < 3) (hc : code = lN (vl W)) (h4 : u.1 71 4 = 0) (hp : p ≤ n) (hB : mB u t n) (hT : mT u t n p) (hk : kK t n p = 1) (hy : kW t n p = W) : y2 (fn_X12_hasWord G 71 code u) (fun r w => r = 1 ∧ mT w t n (kE t n p) ∧ fr fU2 u w) := by
  have he := kE_le (t := t) hp
  have z := wv_iff (q := kS t n p) (m := kE t n p - kS t n p) (t := t) (fun j j1 j2 => kW_let hk j j1 (by omega)) (wds_ok w hw W hW).1 (wds_ok w hw W hW).2
  have h29 : lg_cmp (u.2 71 29) code = 0 := by
    rw [lg_cmp_eq, hT.2.2.2.2 hk, hc, z.1.mpr hy]
  unfold fn_X12_hasWord
  rw [pr_isGood h4, pu_b, if_neg i_n1, hT.2.1, hk, if_pos (show nI 1 = 1 from rfl), if_pos h29]
  unfold bl_X12_hasWord_29 bl_X12_hasWord_38
  refine yl_n i_n1 ?_
  refine yl_b (pr_takes hG he.2 (hT.2.2.1 (by omega)) hB) fun _ v hv => ?_
  exact yl_z1 (yl_ok ⟨rfl, hv.1, hv.2⟩)
