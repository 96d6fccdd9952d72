/-! peel, plainly: by keys -/
def mts (g : mp) (b q : Nat) : Bool := decide (mhash g 0 q = b) || decide (mhash g 1 q = b)
def kl (P : Nat → Bool) : Nat → Nat → List Nat
  | 0, _ => []
  | n + 1, a => if P a = true then a :: kl P n (a + 1) else kl P n (a + 1)
def deg (g : mp) (lf : Nat → Bool) (b : Nat) : Nat := cf (fun q => lf q && mts g b q) 1000 0
def pkb (g : mp) (lf : Nat → Bool) : Option Nat := ff (fun b => decide (1 ≤ deg g lf b ∧ deg g lf b ≤ mn g 1)) (mn g 0) 0
def lfs (g : mp) (lf : Nat → Bool) (b : Nat) : Nat → Bool := fun q => lf q && !mts g b q
def grp (g : mp) (lf : Nat → Bool) (b : Nat) : List (Nat × Nat) := (kl (fun q => lf q && mts g b q) 1000 0).map (fun q => (q, b))
def pls1 (g : mp) (lf : Nat → Bool) (k : (Nat → Bool) → List (Nat × Nat) × (Nat → Bool)) : Option Nat → List (Nat × Nat) × (Nat → Bool)
  | none => ([], lf)
  | some b => (grp g lf b ++ (k (lfs g lf b)).1, (k (lfs g lf b)).2)
def pls (g : mp) : Nat → (Nat → Bool) → List (Nat × Nat) × (Nat → Bool)
  | 0 => fun lf => ([], lf)
  | n + 1 => fun lf => pls1 g lf (pls g n) (pkb g lf)
theorem pls_0 (g : mp) (lf : Nat → Bool) : pls g 0 lf = ([], lf) := rfl
theorem pls_s (g : mp) (n : Nat) (lf : Nat → Bool) : pls g (n + 1) lf = pls1 g lf (pls g n) (pkb g lf) := rfl
def ky (e : en) : Nat := e.1.toNatClampNeg - 1
def lf0 (g : mp) (q : Nat) : Bool := (mes g).any (fun e => decide (e.1.toNatClampNeg = q + 1))
theorem kl_app {P : Nat → Bool} : ∀ (m n a : Nat), kl P (m + n) a = kl P m a ++ kl P n (a + m) := by
  intro m
  induction m with
  | zero => intro n a; rw [kl, Nat.zero_add]; rfl
  | succ m ih =>
    intro n a
    rw [show m + 1 + n = (m + n) + 1 by omega, kl, kl, ih, show a + 1 + m = a + (m + 1) by omega]
    split <;> rfl
theorem kl_nil {P : Nat → Bool} : ∀ (n a : Nat), (∀ q, a ≤ q → q < a + n → P q = false) → kl P n a = [] := by
  intro n
  induction n with
  | zero => intro a _; rfl
  | succ n ih =>
    intro a h
    rw [kl, if_neg (by rw [h a (by omega) (by omega)]; decide), ih _ fun q h1 h2 => h q (by omega) (by omega)]
theorem kl_len {P : Nat → Bool} : ∀ (n a : Nat), (kl P n a).length = cf P n a := by
  intro n
  induction n with
  | zero => intro a; rfl
  | succ n ih =>
    intro a
    rw [kl, cf]
    split
    · rw [List.length_cons, ih]; omega
    · rw [ih]; omega
theorem kl_mem {P : Nat → Bool} {q : Nat} : ∀ (n a : Nat), q ∈ kl P n a ↔ a ≤ q ∧ q < a + n ∧ P q = true := by
  intro n
  induction n with
  | zero => intro a; exact ⟨fun h => (by cases h), fun h => (by omega)⟩
  | succ n ih =>
    intro a
    rw [kl]
    by_cases c : P a = true
    · rw [if_pos c, List.mem_cons, ih]
      constructor
      · rintro (h | h)
        · rw [h]; exact ⟨by omega, by omega, c⟩
        · exact ⟨by omega, by omega, h.2.2⟩
      · rintro ⟨h1, h2, h3⟩
        by_cases e : q = a
        · exact Or.inl e
        · exact Or.inr ⟨by omega, by omega, h3⟩
    · rw [if_neg c, ih]
      constructor
      · rintro h; exact ⟨by omega, by omega, h.2.2⟩
      · rintro ⟨h1, h2, h3⟩
        refine ⟨?_, by omega, h3⟩
        by_cases e : q = a
        · rw [e] at h3; exact absurd h3 c
        · omega
theorem kl_pw {P : Nat → Bool} : ∀ (n a : Nat), (kl P n a).Pairwise (· < ·) := by
  intro n
  induction n with
  | zero => intro a; exact List.Pairwise.nil
  | succ n ih =>
    intro a
    rw [kl]
    split
    · refine List.Pairwise.cons (fun q hq => ?_) (ih (a + 1))
      have := (kl_mem n (a + 1)).mp hq
      omega
    · exact ih (a + 1)
theorem kl_congr {P Q : Nat → Bool} : ∀ (n a : Nat), (∀ q, a ≤ q → q < a + n → P q = Q q) → kl P n a = kl Q n a := by
  intro n
  induction n with
  | zero => intro a _; rfl
  | succ n ih =>
    intro a h
    rw [kl, kl, h a (by omega) (by omega), ih _ fun q h1 h2 => h q (by omega) (by omega)]
theorem kl_up {P : Nat → Bool} {x y : Nat} (hxy : x ≤ y) (h : ∀ q, x ≤ q → q < y → P q = false) : kl P y 0 = kl P x 0 := by
  rw [show y = x + (y - x) by omega, kl_app, kl_nil (P := P) (y - x) (0 + x) fun q h1 h2 => h q (by omega) (by omega), List.append_nil]
theorem kl_snoc {P : Nat → Bool} (x : Nat) : kl P (x + 1) 0 = kl P x 0 ++ (if P x = true then [x] else []) := by
  rw [kl_app, Nat.zero_add, kl, kl]
/-- one to one -/
theorem cf_bij {N : Nat} : ∀ (n : Nat) (kq : Nat → Nat) (P : Nat → Bool), (∀ j k, j < k → k < n → kq j ≠ kq k) → (∀ k, k < n → kq k < N) → (∀ q, q < N → P q = true → ∃ k, k < n ∧ kq k = q) → cf (fun k => P (kq k)) n 0 = cf P N 0 := by
  intro n
  induction n with
  | zero =>
    intro kq P _ _ h3
    have : cf P N 0 = cf (fun _ => false) N 0 := cf_congr fun i _ hi => by
      cases e : P i with
      | false => rfl
      | true => obtain ⟨k, k1, _⟩ := h3 i (by omega) e; omega
    rw [this, cf_none (P := fun _ => false) fun _ => rfl]
    rfl
  | succ n ih =>
    intro kq P h1 h2 h3
    have q := ih kq (fun x => P x && decide (x ≠ kq n)) (fun j k hj hk => h1 j k hj (by omega)) (fun k hk => h2 k (by omega)) (fun x hx hp => by
      rw [Bool.and_eq_true] at hp
      obtain ⟨k, k1, k2⟩ := h3 x hx hp.1
      have := of_decide_eq_true hp.2
      refine ⟨k, ?_, k2⟩
      by_cases e : k = n
      · rw [e] at k2; exact absurd k2.symm this
      · omega)
    have e1 : cf (fun k => P (kq k) && decide (kq k ≠ kq n)) n 0 = cf (fun k => P (kq k)) n 0 := cf_congr fun i _ hi => by
      show (P (kq i) && decide (kq i ≠ kq n)) = P (kq i)
      rw [decide_eq_true (h1 i n (by omega) (by omega)), Bool.and_true]
    have o := cf_one (P := fun x => P x && decide (x ≠ kq n)) (Q := P) (i := kq n) (n := N) (a := 0) (by omega) (by have := h2 n (by omega); omega) fun j hj => by
      show (P j && decide (j ≠ kq n)) = P j
      rw [decide_eq_true hj, Bool.and_true]
    have pb : (P (kq n) && decide (kq n ≠ kq n)) = false := by simp
    simp only [pb] at o
    rw [cf_snoc, Nat.zero_add, ← e1]
    have q2 : cf (fun k => P (kq k) && decide (kq k ≠ kq n)) n 0 = cf (fun x => P x && decide (x ≠ kq n)) N 0 := q
    rw [q2]
    simpa using o
/-- one key goes: how many are left in a bucket -/
def lfx (g : mp) (lf : Nat → Bool) (b x : Nat) : Nat → Bool := fun q => lf q && !(mts g b q && decide (q < x))
theorem lfx_0 (g : mp) (lf : Nat → Bool) (b : Nat) : lfx g lf b 0 = lf := by
  funext q
  unfold lfx
  rw [decide_eq_false (by omega), Bool.and_false]
  simp
theorem lfx_1000 (g : mp) (lf : Nat → Bool) (b : Nat) (h : ∀ q, lf q = true → q < 1000) : lfx g lf b 1000 = lfs g lf b := by
  funext q
  unfold lfx lfs
  cases e : lf q with
  | false => rfl
  | true => rw [decide_eq_true (h q e), Bool.and_true]
theorem lfx_up {g : mp} {lf : Nat → Bool} {b x y : Nat} (hxy : x ≤ y) (h : ∀ q, x ≤ q → q < y → lf q = true → mts g b q = false) : lfx g lf b y = lfx g lf b x := by
  funext q
  unfold lfx
  cases e : lf q with
  | false => rfl
  | true =>
    cases m : mts g b q with
    | false => rfl
    | true =>
      congr 2
      refine congrArg _ (decide_eq_decide.mpr ⟨fun c => ?_, fun c => by omega⟩)
      refine Classical.byContradiction fun d => ?_
      have := h q (by omega) c e
      rw [m] at this
      cases this
theorem lfx_s {g : mp} {lf : Nat → Bool} {b x : Nat} (hm : mts g b x = true) : lfx g lf b (x + 1) = fun q => lfx g lf b x q && decide (q ≠ x) := by
  funext q
  unfold lfx
  by_cases c : q = x
  · subst c
    rw [hm, decide_eq_true (show q < q + 1 by omega)]
    simp
  · rw [decide_eq_true c, Bool.and_true]
    congr 2
    exact congrArg _ (decide_eq_decide.mpr (by omega))
theorem deg_rm {g : mp} {lf : Nat → Bool} {x b : Nat} (hx : x < 1000) (h : lf x = true) : deg g (fun q => lf q && decide (q ≠ x)) b + (if mts g b x = true then 1 else 0) = deg g lf b := by
  have o := cf_one (P := fun q => (lf q && decide (q ≠ x)) && mts g b q) (Q := fun q => lf q && mts g b q) (i := x) (n := 1000) (a := 0) (by omega) (by omega) fun j hj => by
    show ((lf j && decide (j ≠ x)) && mts g b j) = (lf j && mts g b j)
    rw [decide_eq_true hj, Bool.and_true]
  have e1 : ((lf x && decide (x ≠ x)) && mts g b x) = false := by simp
  have e2 : (lf x && mts g b x) = mts g b x := by rw [h, Bool.true_and]
  simp only [e1, e2] at o
  unfold deg
  simpa using o
theorem cnt_rm {lf : Nat → Bool} {x : Nat} (hx : x < 1000) (h : lf x = true) : cf (fun q => lf q && decide (q ≠ x)) 1000 0 + 1 = cf lf 1000 0 := by
  have o := cf_one (P := fun q => lf q && decide (q ≠ x)) (Q := lf) (i := x) (n := 1000) (a := 0) (by omega) (by omega) fun j hj => by
    show (lf j && decide (j ≠ x)) = lf j
    rw [decide_eq_true hj, Bool.and_true]
  have e1 : (lf x && decide (x ≠ x)) = false := by simp
  simp only [e1, h] at o
  simpa using o
theorem deg_mono {g : mp} {lf lf2 : Nat → Bool} (h : ∀ q, lf2 q = true → lf q = true) (b : Nat) : deg g lf2 b ≤ deg g lf b := cf_mono (fun q hq => by
  rw [Bool.and_eq_true] at hq ⊢
  exact ⟨h q hq.1, hq.2⟩) 1000 0
theorem deg_lfs (g : mp) (lf : Nat → Bool) (b : Nat) : deg g (lfs g lf b) b = 0 := cf_none (fun q => by
  show ((lf q && !mts g b q) && mts g b q) = false
  cases mts g b q <;> simp) 1000 0
/-- how many buckets have any left -/
def pms (g : mp) (lf : Nat → Bool) : Nat := cf (fun b => decide (0 < deg g lf b)) (mn g 0) 0
theorem pms_step {g : mp} {lf : Nat → Bool} {b : Nat} (h : pkb g lf = some b) : pms g (lfs g lf b) < pms g lf := by
  obtain ⟨h1, h2, h3⟩ := ff_lt h
  have h3 := of_decide_eq_true h3
  refine cf_strict (j := b) (fun i hi => ?_) ?_ ?_ (mn g 0) 0 (by omega) (by omega)
  · have := of_decide_eq_true hi
    have m := deg_mono (g := g) (lf := lf) (lf2 := lfs g lf b) (fun q hq => by unfold lfs at hq; rw [Bool.and_eq_true] at hq; exact hq.1) i
    exact decide_eq_true (by omega)
  · exact decide_eq_false (by rw [deg_lfs]; omega)
  · exact decide_eq_true (by omega)
theorem pms_0 {g : mp} {lf : Nat → Bool} (h : pms g lf = 0) : pkb g lf = none := by
  cases e : pkb g lf with
  | none => rfl
  | some b => have := pms_step e; omega
theorem pms_le (g : mp) (lf : Nat → Bool) : pms g lf ≤ mn g 0 := cf_le
/-- those that are there at first -/
theorem lf0_iff {g : mp} (hw : mwf g) (q : Nat) : lf0 g q = true ↔ ∃ j, j < 68 ∧ kfil g j ∧ kvl 0 (fc g j) = q := by
  unfold lf0
  rw [List.any_eq_true]
  constructor
  · rintro ⟨e, he, hq⟩
    have hq := of_decide_eq_true hq
    rw [← cl_mes hw] at he
    obtain ⟨j, -, j2, j3, j4⟩ := (cl_mem 68 0).mp he
    refine ⟨j, by omega, j3, ?_⟩
    unfold kvl
    rw [if_pos rfl, ← j4]
    omega
  · rintro ⟨j, j1, j2, j3⟩
    have hm : fc g j ∈ mes g := by
      rw [← cl_mes hw]
      exact (cl_mem 68 0).mpr ⟨j, by omega, by omega, j2, rfl⟩
    refine ⟨fc g j, hm, decide_eq_true ?_⟩
    obtain ⟨p, p1, p2⟩ := mes_key hw _ hm
    unfold kvl at j3
    rw [if_pos rfl, p2, nI_clamp (by omega)] at j3
    rw [p2, nI_clamp (by omega)]
    omega
theorem lf0_lt {g : mp} (hw : mwf g) {q : Nat} (h : lf0 g q = true) : q < 1000 := by
  unfold lf0 at h
  obtain ⟨e, he, hq⟩ := List.any_eq_true.mp h
  have hq := of_decide_eq_true hq
  obtain ⟨p, p1, p2⟩ := mes_key hw e he
  rw [p2, nI_clamp (by omega)] at hq
  omega
