/-! tokens: plain, the class -/
def xB (b : Nat) : Bool := decide (b = 32 ∨ b = 10)
def xD (b : Nat) : Bool := decide (48 ≤ b ∧ b ≤ 57)
def xL (b : Nat) : Bool := decide (97 ≤ b ∧ b ≤ 122)
def xs (Q : Nat → Bool) (t : Nat → Nat) : Nat → Nat → Nat
  | 0, p => p
  | m + 1, p => if Q (t p) = true then xs Q t m (p + 1) else p
theorem xs_le (Q : Nat → Bool) (t : Nat → Nat) : ∀ m p, p ≤ xs Q t m p ∧ xs Q t m p ≤ p + m := by
  intro m
  induction m with
  | zero => intro p; exact ⟨Nat.le_refl _, Nat.le_refl _⟩
  | succ m ih =>
    intro p
    unfold xs
    split
    · have := ih (p + 1); omega
    · omega
theorem xs_in {Q : Nat → Bool} {t : Nat → Nat} : ∀ {m p j}, p ≤ j → j < xs Q t m p → Q (t j) = true := by
  intro m
  induction m with
  | zero => intro p j h1 h2; unfold xs at h2; omega
  | succ m ih =>
    intro p j h1 h2
    unfold xs at h2
    split at h2
    · rename_i h
      by_cases c : j = p
      · rw [c]; exact h
      · exact ih (p := p + 1) (by omega) h2
    · omega
theorem xs_out {Q : Nat → Bool} {t : Nat → Nat} : ∀ {m p}, xs Q t m p < p + m → ¬ Q (t (xs Q t m p)) = true := by
  intro m
  induction m with
  | zero => intro p h; unfold xs at h; omega
  | succ m ih =>
    intro p h
    unfold xs at h ⊢
    split
    · rename_i h1
      rw [if_pos h1] at h
      exact ih (p := p + 1) (by omega)
    · rename_i h1; exact h1
def kS (t : Nat → Nat) (n p : Nat) : Nat := xs xB t (n - p) p
def kK (t : Nat → Nat) (n p : Nat) : Nat := if n ≤ kS t n p then 0 else if t (kS t n p) = 59 then 3 else if xD (t (kS t n p)) = true then (if xs xD t (n - kS t n p) (kS t n p) - kS t n p ≤ 4 then 2 else 4) else if xL (t (kS t n p)) = true then 1 else 4
def kE (t : Nat → Nat) (n p : Nat) : Nat := if n ≤ kS t n p then kS t n p else if t (kS t n p) = 59 then kS t n p + 1 else if xD (t (kS t n p)) = true then xs xD t (n - kS t n p) (kS t n p) else xs xL t (n - kS t n p) (kS t n p)
def dv (t : Nat → Nat) (q : Nat) : Nat → Nat
  | 0 => 0
  | m + 1 => if m < 4 then 10 * dv t q m + (t (q + m) - 48) else dv t q m
def kV (t : Nat → Nat) (n p : Nat) : Nat := dv t (kS t n p) (kE t n p - kS t n p)
theorem kS_le {t : Nat → Nat} {n p : Nat} (h : p ≤ n) : p ≤ kS t n p ∧ kS t n p ≤ n := by
  have := xs_le xB t (n - p) p
  unfold kS
  omega
theorem kE_le {t : Nat → Nat} {n p : Nat} (h : p ≤ n) : kS t n p ≤ kE t n p ∧ kE t n p ≤ n := by
  have h1 := kS_le (t := t) h
  unfold kE
  have a := xs_le xD t (n - kS t n p) (kS t n p)
  have b := xs_le xL t (n - kS t n p) (kS t n p)
  split
  · omega
  · split
    · omega
    · split <;> omega
theorem xs_s {Q : Nat → Bool} {t : Nat → Nat} {m p : Nat} (h : Q (t p) = true) (hm : 0 < m) : p + 1 ≤ xs Q t m p := by
  obtain ⟨m, rfl⟩ : ∃ k, m = k + 1 := ⟨m - 1, by omega⟩
  unfold xs
  rw [if_pos h]
  exact (xs_le Q t m (p + 1)).1
/-- a token that is there goes on -/
theorem kE_lt {t : Nat → Nat} {n p : Nat} (h : p ≤ n) (h0 : kK t n p ≠ 0) (h4 : kK t n p ≠ 4) : kS t n p + 1 ≤ kE t n p := by
  have h1 := kS_le (t := t) h
  unfold kK at h0 h4
  unfold kE
  by_cases c0 : n ≤ kS t n p
  · rw [if_pos c0] at h0; exact absurd rfl h0
  · rw [if_neg c0] at h4 ⊢
    by_cases c1 : t (kS t n p) = 59
    · rw [if_pos c1]; omega
    · rw [if_neg c1] at h4 ⊢
      by_cases c2 : xD (t (kS t n p)) = true
      · rw [if_pos c2]; exact xs_s c2 (by omega)
      · rw [if_neg c2] at h4 ⊢
        by_cases c3 : xL (t (kS t n p)) = true
        · exact xs_s c3 (by omega)
        · rw [if_neg c3] at h4; exact absurd rfl h4
theorem dv_le (t : Nat → Nat) (q m : Nat) (h : ∀ j, j < m → t (q + j) ≤ 57) : dv t q m ≤ 9999 ∧ (m ≤ 4 → dv t q m + 1 ≤ 10 ^ m) := by
  induction m with
  | zero => exact ⟨Nat.zero_le _, fun _ => Nat.le_refl _⟩
  | succ m ih =>
    obtain ⟨i1, i2⟩ := ih fun j hj => h j (by omega)
    have := h m (by omega)
    unfold dv
    by_cases c : m < 4
    · rw [if_pos c]
      have i3 := i2 (by omega)
      have h4 : m = 0 ∨ m = 1 ∨ m = 2 ∨ m = 3 := by omega
      rcases h4 with h4 | h4 | h4 | h4 <;> subst h4 <;> simp at i3 this ⊢ <;> omega
    · rw [if_neg c]
      exact ⟨i1, fun _ => by omega⟩
theorem sb_q : ∀ b, b < 256 → (sb b = 10 ↔ b = 10) ∧ (sb b = 32 ↔ b = 32) ∧ (sb b = 59 ↔ b = 59) ∧ (sb b < 48 ↔ b < 48 ∨ 128 ≤ b) ∧ (57 < sb b ↔ 57 < b ∧ b < 128) ∧ (sb b < 97 ↔ b < 97 ∨ 128 ≤ b) ∧ (122 < sb b ↔ 122 < b ∧ b < 128) := by decide +kernel
theorem sb_n : ∀ b, b < 256 → (b < 128 → sb b = nI b) ∧ (128 ≤ b → sb b < 0) := by decide +kernel
def gW (G : tc_G) : Prop := tc_p G 65 7 = 12 ∧ tc_p G 65 2 = 66 ∧ tc_p G 66 11 = 67 ∧ (tc_p G 65 3 = 68 ∧ tc_p G 65 4 = 69 ∧ tc_p G 65 5 = 70) ∧ (G.2.2.1 68 = 58 ∧ G.2.2.1 69 = 58 ∧ G.2.2.1 70 = 58) ∧ G.2.2.1 12 = 400
theorem in_gW : gW (tc_gl in_L4) := ⟨rfl, rfl, rfl, ⟨rfl, rfl, rfl⟩, ⟨rfl, rfl, rfl⟩, rfl⟩
def cB (u : tc_S) (t : Nat → Nat) (n : Nat) : Prop := n ≤ 400 ∧ (∀ k, t k < 256) ∧ u.1 65 8 = nI n ∧ ∀ k, k < 400 → u.1 12 k = sb (t k)
theorem cB_fr {P : Nat → Nat → Prop} {u w : tc_S} {t : Nat → Nat} {n : Nat} (h : cB u t n) (hf : fr P u w) (h1 : ¬ P 65 8) (h2 : ∀ k, ¬ P 12 k) : cB w t n := ⟨h.1, h.2.1, by rw [hf _ _ h1]; exact h.2.2.1, fun k hk => by rw [hf _ _ (h2 k)]; exact h.2.2.2 k hk⟩
def cT (u : tc_S) (t : Nat → Nat) (n p : Nat) : Prop := u.1 65 11 = nI (kS t n p) ∧ u.1 65 10 = nI (kK t n p) ∧ (kK t n p ≠ 4 → u.1 65 9 = nI (kE t n p)) ∧ (kK t n p = 2 → u.1 65 12 = nI (kV t n p))
def fS (o k : Nat) : Prop := o = 65 ∧ 9 ≤ k ∧ k ≤ 12
theorem pc_isDigit {G : tc_G} {u : tc_S} {b : Nat} (hb : b < 256) : fn_X6_isDigit G (sb b) u = some (if xD b = true then 1 else 0, u) := by
  obtain ⟨-, -, -, q1, q2, -, -⟩ := sb_q b hb
  unfold fn_X6_isDigit bl_X6_isDigit_16 bl_X6_isDigit_17
  by_cases c1 : sb b < 48
  · have := q1.mp c1
    rw [if_pos c1, if_neg (by unfold xD; rw [decide_eq_true_iff]; omega)]
    rfl
  · have n1 : ¬ (b < 48 ∨ 128 ≤ b) := fun z => c1 (q1.mpr z)
    rw [if_neg c1]
    by_cases c2 : 57 < sb b
    · have := q2.mp c2
      rw [if_pos c2, if_neg (by unfold xD; rw [decide_eq_true_iff]; omega)]
      rfl
    · have n2 : ¬ (57 < b ∧ b < 128) := fun z => c2 (q2.mpr z)
      rw [if_neg c2, if_pos (by unfold xD; rw [decide_eq_true_iff]; omega)]
      rfl
theorem pc_dig76 {G : tc_G} {u : tc_S} {q e : Nat} {x : Int32} (h9 : u.1 65 9 = nI e) (h11 : u.1 65 11 = nI q) (hq : q ≤ e) (he : e ≤ 400) : y2 (bl_X6_stepOverDigits_76 G 65 x u) (fun _ w => w.1 65 9 = nI e ∧ w.1 65 10 = nI (if e - q ≤ 4 then 2 else 4) ∧ w.1 65 12 = x ∧ fr (fun o k => o = 65 ∧ (k = 9 ∨ k = 10 ∨ k = 12)) u w) := by
  unfold bl_X6_stepOverDigits_76 bl_X6_stepOverDigits_100
  refine yl_let ?_
  have e9 : (tc_w u 65 12 x).1 65 9 = nI e := by rw [w_get, if_neg (by omega)]; exact h9
  have e11 : (tc_w u 65 12 x).1 65 11 = nI q := by rw [w_get, if_neg (by omega)]; exact h11
  have fin : ∀ y : Int32, y = nI (if e - q ≤ 4 then 2 else 4) → y2 (tc_let (tc_w (tc_w u 65 12 x) 65 10 y) fun u1 => some (0, u1)) (fun _ w => w.1 65 9 = nI e ∧ w.1 65 10 = nI (if e - q ≤ 4 then 2 else 4) ∧ w.1 65 12 = x ∧ fr (fun o k => o = 65 ∧ (k = 9 ∨ k = 10 ∨ k = 12)) u w) := by
    intro y hy
    refine yl_let (yl_ok ⟨?_, ?_, ?_, fr_w (fr_w fr_refl ⟨rfl, by omega⟩) ⟨rfl, by omega⟩⟩)
    · rw [w_get, if_neg (by omega)]; exact e9
    · rw [w_get, if_pos ⟨rfl, rfl⟩]; exact hy
    · rw [w_get, if_neg (by omega), w_get, if_pos ⟨rfl, rfl⟩]
  rw [e9, e11, pk_sub hq, show (4 : Int32) = nI 4 from rfl, pu_lt (by omega) (by omega)]
  by_cases c : 4 < e - q
  · rw [if_pos c]
    exact fin _ (by rw [if_neg (by omega)])
  · rw [if_neg c]
    exact fin _ (by rw [if_pos (by omega)]; rfl)
theorem pc_dig {G : tc_G} (hW : gW G) {t : Nat → Nat} {n q : Nat} : ∀ (m j f : Nat) (u : tc_S), q + j + m = n → m < f → (∀ i, i < j → t (q + i) ≤ 57) → u.1 65 9 = nI (q + j) → u.1 65 11 = nI q → cB u t n → y2 (lo_X6_stepOverDigits_2 G f 65 (nI (dv t q j)) u) (fun _ w => w.1 65 9 = nI (xs xD t m (q + j)) ∧ w.1 65 10 = nI (if xs xD t m (q + j) - q ≤ 4 then 2 else 4) ∧ w.1 65 12 = nI (dv t q (xs xD t m (q + j) - q)) ∧ fr (fun o k => o = 65 ∧ (k = 9 ∨ k = 10 ∨ k = 12)) u w) := by
  intro m
  induction m with
  | zero =>
    intro j f u hj hf hd h9 h11 hB
    obtain ⟨f, rfl⟩ : ∃ k, f = k + 1 := ⟨f - 1, by omega⟩
    have := hB.1
    rw [lo_X6_stepOverDigits_2, hB.2.2.1, h9, pu_le (by omega) (by omega), if_pos (by omega)]
    have z := pc_dig76 (G := G) (x := nI (dv t q j)) h9 h11 (by omega) (by omega)
    unfold xs
    rw [show q + j - q = j by omega] at z ⊢
    exact z
  | succ m ih =>
    intro j f u hj hf hd h9 h11 hB
    obtain ⟨f, rfl⟩ : ∃ k, f = k + 1 := ⟨f - 1, by omega⟩
    obtain ⟨b1, b2, b3, b4⟩ := id hB
    have hb := b2 (q + j)
    rw [lo_X6_stepOverDigits_2, b3, h9, pu_le (by omega) (by omega), if_neg (by omega), hW.1]
    refine yl_ld 400 hW.2.2.2.2.2 (by omega) (by omega) ?_
    rw [b4 _ (by omega)]
    refine yl_e (pc_isDigit hb) ?_
    unfold xs
    by_cases c : xD (t (q + j)) = true
    · rw [if_pos c, if_pos c]
      have cd : 48 ≤ t (q + j) ∧ t (q + j) ≤ 57 := of_decide_eq_true c
      have dl := dv_le t q j hd
      refine yl_n i_n1 ?_
      rw [h9, h11, pk_sub (by omega), show q + j - q = j by omega, show (4 : Int32) = nI 4 from rfl, pu_le (by omega) (by omega)]
      have go : ∀ v : Int32, v = nI (dv t q (j + 1)) → y2 (bl_X6_stepOverDigits_62 G (lo_X6_stepOverDigits_2 G f) 65 v u) (fun _ w => w.1 65 9 = nI (xs xD t m (q + j + 1)) ∧ w.1 65 10 = nI (if xs xD t m (q + j + 1) - q ≤ 4 then 2 else 4) ∧ w.1 65 12 = nI (dv t q (xs xD t m (q + j + 1) - q)) ∧ fr (fun o k => o = 65 ∧ (k = 9 ∨ k = 10 ∨ k = 12)) u w) := by
        intro v hv
        unfold bl_X6_stepOverDigits_62
        refine yl_let ?_
        rw [h9, nI_1, hv]
        have f1 : fr (fun o k => o = 65 ∧ (k = 9 ∨ k = 10 ∨ k = 12)) u (tc_w u 65 9 (nI (q + j + 1))) := fr_w fr_refl ⟨rfl, by omega⟩
        refine yl_m (ih (j + 1) f _ (by omega) (by omega) (fun i hi => ?_) ?_ ?_ (cB_fr hB f1 (by omega) (fun k => by omega))) fun r hr => ⟨hr.1, hr.2.1, hr.2.2.1, fr_trans f1 hr.2.2.2⟩
        · by_cases z : i = j
          · rw [z]; exact cd.2
          · exact hd i (by omega)
        · rw [w_get, if_pos ⟨rfl, rfl⟩]; rfl
        · rw [w_get, if_neg (by omega)]; exact h11
      by_cases c4 : 4 ≤ j
      · refine yl_p c4 (go _ ?_)
        rw [dv, if_neg (by omega)]
      · refine yl_n c4 ?_
        refine yl_ld 400 hW.2.2.2.2.2 (by omega) (by omega) ?_
        refine go _ ?_
        rw [b4 _ (by omega), (sb_n _ hb).1 (by omega), dv, if_pos (by omega), show (10 : Int32) * nI (dv t q j) = nI (10 * dv t q j) from pk_mul 10 _, nI_add, show nI (10 * dv t q j + t (q + j)) - 48 = nI (10 * dv t q j + t (q + j) - 48) from pk_sub (b := 48) (by omega)]
        congr 1
        omega
    · rw [if_neg c, if_neg c]
      refine yl_p rfl ?_
      have z := pc_dig76 (G := G) (x := nI (dv t q j)) h9 h11 (by omega) (by omega)
      rw [show q + j - q = j by omega] at z ⊢
      exact z
theorem pc_let185 {G : tc_G} {u : tc_S} {q e : Nat} (h9 : u.1 65 9 = nI e) (h11 : u.1 65 11 = nI q) (hq : q ≤ e) (he : e ≤ 400) : y2 (bl_X6_step_185 G 65 u) (fun _ w => w.1 65 9 = nI e ∧ w.1 65 10 = nI (if e ≤ q then 4 else 1) ∧ fr (fun o k => o = 65 ∧ (k = 9 ∨ k = 10)) u w) := by
  unfold bl_X6_step_185 bl_X6_step_202 bl_X6_step_205
  rw [h9, h11, pu_le (by omega) (by omega)]
  by_cases c : e ≤ q
  · rw [if_pos c, if_pos c]
    exact yl_let (yl_ok ⟨by rw [w_get, if_neg (by omega)]; exact h9, by rw [w_get, if_pos ⟨rfl, rfl⟩]; rfl, fr_w fr_refl ⟨rfl, by omega⟩⟩)
  · rw [if_neg c, if_neg c]
    exact yl_let (yl_ok ⟨by rw [w_get, if_neg (by omega)]; exact h9, by rw [w_get, if_pos ⟨rfl, rfl⟩]; rfl, fr_w fr_refl ⟨rfl, by omega⟩⟩)
theorem pc_let {G : tc_G} (hW : gW G) {t : Nat → Nat} {n q : Nat} : ∀ (m p f : Nat) (u : tc_S), p + m = n → m < f → q ≤ p → u.1 65 9 = nI p → u.1 65 11 = nI q → cB u t n → y2 (lo_X6_step_133 G f 65 u) (fun _ w => w.1 65 9 = nI (xs xL t m p) ∧ w.1 65 10 = nI (if xs xL t m p ≤ q then 4 else 1) ∧ fr (fun o k => o = 65 ∧ (k = 9 ∨ k = 10)) u w) := by
  intro m
  induction m with
  | zero =>
    intro p f u hj hf hq h9 h11 hB
    obtain ⟨f, rfl⟩ : ∃ k, f = k + 1 := ⟨f - 1, by omega⟩
    have := hB.1
    rw [lo_X6_step_133, hB.2.2.1, h9, pu_le (by omega) (by omega), if_pos (by omega), show xs xL t 0 p = p from rfl]
    exact pc_let185 h9 h11 hq (by omega)
  | succ m ih =>
    intro p f u hj hf hq h9 h11 hB
    obtain ⟨f, rfl⟩ : ∃ k, f = k + 1 := ⟨f - 1, by omega⟩
    obtain ⟨b1, b2, b3, b4⟩ := id hB
    have hb := b2 p
    obtain ⟨-, -, -, -, -, q1, q2⟩ := sb_q _ hb
    rw [lo_X6_step_133, b3, h9, pu_le (by omega) (by omega), if_neg (by omega), hW.1]
    refine yl_ld 400 hW.2.2.2.2.2 (by omega) (by omega) ?_
    rw [b4 _ (by omega)]
    unfold xs
    have stop : ¬ xL (t p) = true → y2 (bl_X6_step_185 G 65 u) (fun _ w => w.1 65 9 = nI (if xL (t p) = true then xs xL t m (p + 1) else p) ∧ w.1 65 10 = nI (if (if xL (t p) = true then xs xL t m (p + 1) else p) ≤ q then 4 else 1) ∧ fr (fun o k => o = 65 ∧ (k = 9 ∨ k = 10)) u w) := by
      intro c
      rw [if_neg c]
      exact pc_let185 h9 h11 hq (by omega)
    by_cases c1 : sb (t p) < 97
    · have := q1.mp c1
      exact yl_p c1 (stop (by unfold xL; rw [decide_eq_true_iff]; omega))
    · have n1 : ¬ (t p < 97 ∨ 128 ≤ t p) := fun z => c1 (q1.mpr z)
      refine yl_n c1 (yl_ld 400 hW.2.2.2.2.2 (by omega) (by omega) ?_)
      rw [b4 _ (by omega)]
      by_cases c2 : 122 < sb (t p)
      · have := q2.mp c2
        exact yl_p c2 (stop (by unfold xL; rw [decide_eq_true_iff]; omega))
      · have n2 : ¬ (122 < t p ∧ t p < 128) := fun z => c2 (q2.mpr z)
        have c : xL (t p) = true := by unfold xL; rw [decide_eq_true_iff]; omega
        rw [if_pos c]
        refine yl_n c2 (yl_let ?_)
        rw [nI_1]
        have f1 : fr (fun o k => o = 65 ∧ (k = 9 ∨ k = 10)) u (tc_w u 65 9 (nI (p + 1))) := fr_w fr_refl ⟨rfl, by omega⟩
        refine yl_m (ih (p + 1) f _ (by omega) (by omega) (by omega) (by rw [w_get, if_pos ⟨rfl, rfl⟩]) (by rw [w_get, if_neg (by omega)]; exact h11) (cB_fr hB f1 (by omega) (fun k => by omega))) fun r hr => ⟨hr.1, hr.2.1, fr_trans f1 hr.2.2⟩
theorem pc_step52 {G : tc_G} (hW : gW G) {t : Nat → Nat} {n p : Nat} {u0 u : tc_S} (hp : p ≤ n) (h9 : u.1 65 9 = nI (kS t n p)) (hB : cB u t n) (hr : fr fS u0 u) : y2 (bl_X6_step_52 G 65 u) (fun _ w => cT w t n p ∧ fr fS u0 w) := by
  have hfu := tc_fu_big
  obtain ⟨b1, b2, b3, b4⟩ := id hB
  have hk := kS_le (t := t) hp
  have hb := b2 (kS t n p)
  obtain ⟨-, -, q59, -, -, -, -⟩ := sb_q _ hb
  unfold bl_X6_step_52 bl_X6_step_205
  refine yl_let ?_
  rw [h9]
  have f1 : fr fS u0 (tc_w u 65 11 (nI (kS t n p))) := fr_w hr ⟨rfl, by omega, by omega⟩
  have B1 : cB (tc_w u 65 11 (nI (kS t n p))) t n := cB_fr (P := fun o k => o = 65 ∧ k = 11) hB (fr_w fr_refl ⟨rfl, rfl⟩) (by omega) (fun k => by omega)
  have g9 : (tc_w u 65 11 (nI (kS t n p))).1 65 9 = nI (kS t n p) := by rw [w_get, if_neg (by omega)]; exact h9
  have g11 : (tc_w u 65 11 (nI (kS t n p))).1 65 11 = nI (kS t n p) := by rw [w_get, if_pos ⟨rfl, rfl⟩]
  generalize tc_w u 65 11 (nI (kS t n p)) = v at f1 B1 g9 g11 ⊢
  rw [g9, B1.2.2.1, pu_lt (by omega) (by omega)]
  by_cases c0 : n ≤ kS t n p
  · refine yl_n (by omega) (yl_let (yl_ok ⟨?_, fr_w f1 ⟨rfl, by omega, by omega⟩⟩))
    have e0 : kK t n p = 0 := by unfold kK; rw [if_pos c0]
    have e1 : kE t n p = kS t n p := by unfold kE; rw [if_pos c0]
    refine ⟨by rw [w_get, if_neg (by omega)]; exact g11, by rw [w_get, if_pos ⟨rfl, rfl⟩, e0]; rfl, fun _ => by rw [w_get, if_neg (by omega), e1]; exact g9, fun z => by omega⟩
  · refine yl_p (by omega) ?_
    rw [hW.1]
    refine yl_ld 400 hW.2.2.2.2.2 (by omega) (by omega) ?_
    rw [B1.2.2.2 _ (by omega)]
    by_cases c1 : t (kS t n p) = 59
    · refine yl_p (q59.mpr c1) (yl_let (yl_let (yl_ok ⟨?_, fr_w (fr_w f1 ⟨rfl, by omega, by omega⟩) ⟨rfl, by omega, by omega⟩⟩)))
      have e0 : kK t n p = 3 := by unfold kK; rw [if_neg c0, if_pos c1]
      have e1 : kE t n p = kS t n p + 1 := by unfold kE; rw [if_neg c0, if_pos c1]
      have e9 : (tc_w v 65 10 3).1 65 9 = nI (kS t n p) := by rw [w_get, if_neg (by omega)]; exact g9
      rw [e9, nI_1]
      refine ⟨?_, ?_, fun _ => ?_, fun z => by omega⟩
      · rw [w_get, if_neg (by omega), w_get, if_neg (by omega)]; exact g11
      · rw [w_get, if_neg (by omega), w_get, if_pos ⟨rfl, rfl⟩, e0]; rfl
      · rw [w_get, if_pos ⟨rfl, rfl⟩, e1]
    · refine yl_n (fun z => c1 (q59.mp z)) (yl_ld 400 hW.2.2.2.2.2 (by omega) (by omega) ?_)
      rw [B1.2.2.2 _ (by omega)]
      refine yl_e (pc_isDigit hb) ?_
      by_cases c2 : xD (t (kS t n p)) = true
      · rw [if_pos c2]
        refine yl_n i_n1 ?_
        unfold fn_X6_stepOverDigits
        have z := pc_dig hW (t := t) (n := n) (q := kS t n p) (n - kS t n p) 0 tc_fu v (by omega) (by omega) (fun i hi => by omega) g9 g11 B1
        refine yl_b z fun _ w hw => yl_ok ⟨?_, fr_trans f1 (fr_mono hw.2.2.2 fun o k q => by unfold fS; omega)⟩
        obtain ⟨w1, w2, w3, w4⟩ := hw
        rw [Nat.add_zero] at w1 w2 w3
        have e0 : kK t n p = if xs xD t (n - kS t n p) (kS t n p) - kS t n p ≤ 4 then 2 else 4 := by unfold kK; rw [if_neg c0, if_neg c1, if_pos c2]
        have e1 : kE t n p = xs xD t (n - kS t n p) (kS t n p) := by unfold kE; rw [if_neg c0, if_neg c1, if_pos c2]
        refine ⟨by rw [w4 _ _ (by omega)]; exact g11, by rw [w2, e0], fun _ => by rw [w1, e1], fun _ => by rw [w3, ← e1]; rfl⟩
      · rw [if_neg c2]
        refine yl_p rfl ?_
        refine yl_m (pc_let hW (t := t) (n := n) (q := kS t n p) (n - kS t n p) (kS t n p) tc_fu v (by omega) (by omega) (Nat.le_refl _) g9 g11 B1) fun r hw => ⟨?_, fr_trans f1 (fr_mono hw.2.2 fun o k q => by unfold fS; omega)⟩
        obtain ⟨w1, w2, w4⟩ := hw
        have e0 : kK t n p = if xL (t (kS t n p)) = true then 1 else 4 := by unfold kK; rw [if_neg c0, if_neg c1, if_neg c2]
        have e1 : kE t n p = xs xL t (n - kS t n p) (kS t n p) := by unfold kE; rw [if_neg c0, if_neg c1, if_neg c2]
        have e2 : (if xs xL t (n - kS t n p) (kS t n p) ≤ kS t n p then 4 else 1) = kK t n p := by
          rw [e0]
          by_cases c3 : xL (t (kS t n p)) = true
          · have := xs_s (Q := xL) (t := t) (m := n - kS t n p) c3 (by omega)
            rw [if_pos c3, if_neg (by omega)]
          · have : xs xL t (n - kS t n p) (kS t n p) = kS t n p := by
              obtain ⟨m, hm⟩ : ∃ m, n - kS t n p = m + 1 := ⟨n - kS t n p - 1, by omega⟩
              rw [hm, xs, if_neg c3]
            rw [if_neg c3, this, if_pos (Nat.le_refl _)]
        refine ⟨by rw [w4 _ _ (by omega)]; exact g11, by rw [w2, e2], fun _ => by rw [w1, e1], fun z => ?_⟩
        rw [e0] at z
        split at z <;> omega
theorem pc_step {G : tc_G} (hW : gW G) {t : Nat → Nat} {n p0 : Nat} {u0 : tc_S} (hp0 : p0 ≤ n) : ∀ (m p f : Nat) (u : tc_S), p + m = n → m < f → p0 ≤ p → kS t n p0 = xs xB t m p → u.1 65 9 = nI p → cB u t n → fr fS u0 u → y2 (lo_X6_step_0 G f 65 u) (fun _ w => cT w t n p0 ∧ fr fS u0 w) := by
  intro m
  induction m with
  | zero =>
    intro p f u hp hf hp1 hx h9 hB hr
    obtain ⟨f, rfl⟩ : ∃ k, f = k + 1 := ⟨f - 1, by omega⟩
    have := hB.1
    rw [lo_X6_step_0, hB.2.2.1, h9, pu_le (by omega) (by omega), if_pos (by omega)]
    refine pc_step52 hW hp0 ?_ hB hr
    rw [hx, xs]
    exact h9
  | succ m ih =>
    intro p f u hp hf hp1 hx h9 hB hr
    obtain ⟨f, rfl⟩ : ∃ k, f = k + 1 := ⟨f - 1, by omega⟩
    obtain ⟨b1, b2, b3, b4⟩ := id hB
    have hb := b2 p
    obtain ⟨q10, q32, -, -, -, -, -⟩ := sb_q _ hb
    rw [lo_X6_step_0, b3, h9, pu_le (by omega) (by omega), if_neg (by omega), hW.1]
    refine yl_ld 400 hW.2.2.2.2.2 (by omega) (by omega) ?_
    rw [b4 _ (by omega)]
    rw [xs] at hx
    have go : xB (t p) = true → y2 (bl_X6_step_39 G (lo_X6_step_0 G f) 65 u) (fun _ w => cT w t n p0 ∧ fr fS u0 w) := by
      intro c
      rw [if_pos c] at hx
      unfold bl_X6_step_39
      refine yl_let ?_
      rw [h9, nI_1]
      exact ih (p + 1) f _ (by omega) (by omega) (by omega) hx (by rw [w_get, if_pos ⟨rfl, rfl⟩]) (cB_fr (P := fun o k => o = 65 ∧ k = 9) hB (fr_w fr_refl ⟨rfl, rfl⟩) (by omega) (fun k => by omega)) (fr_w hr ⟨rfl, by omega, by omega⟩)
    by_cases c1 : t p = 10
    · exact yl_p (q10.mpr c1) (go (decide_eq_true (Or.inr c1)))
    · refine yl_n (fun z => c1 (q10.mp z)) (yl_ld 400 hW.2.2.2.2.2 (by omega) (by omega) ?_)
      rw [b4 _ (by omega)]
      by_cases c2 : t p = 32
      · exact yl_p (q32.mpr c2) (go (decide_eq_true (Or.inl c2)))
      · refine yl_n (fun z => c2 (q32.mp z)) ?_
        have c : ¬ xB (t p) = true := by unfold xB; rw [decide_eq_true_iff]; omega
        rw [if_neg c] at hx
        exact pc_step52 hW hp0 (by rw [hx]; exact h9) hB hr
theorem mt_step {G : tc_G} (hW : gW G) {t : Nat → Nat} {n p : Nat} {u : tc_S} (hp : p ≤ n) (h9 : u.1 65 9 = nI p) (hB : cB u t n) : y2 (fn_X6_step G 65 u) (fun _ w => cT w t n p ∧ fr fS u w) := by
  have hfu := tc_fu_big
  have := hB.1
  unfold fn_X6_step
  exact pc_step hW (u0 := u) hp (n - p) p tc_fu u (by omega) (by omega) (Nat.le_refl _) rfl h9 hB fr_refl
