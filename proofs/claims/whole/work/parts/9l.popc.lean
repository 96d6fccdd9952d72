/-! how many bits -/
theorem cf_shift {P : Nat → Bool} : ∀ n a, cf P n (a + 1) = cf (fun b => P (b + 1)) n a := by
  intro n
  induction n with
  | zero => intro a; rfl
  | succ n ih => intro a; rw [cf, cf, ih (a + 1)]
theorem kern_tb {m : Nat} (hm : m ≠ 0) : ∃ k, m.testBit k = true ∧ ∀ b, (m &&& (m - 1)).testBit b = (m.testBit b && decide (b ≠ k)) := by
  induction m using Nat.strongRecOn with
  | _ m ih =>
    rcases Nat.mod_two_eq_zero_or_one m with e | e
    · have hj : m / 2 ≠ 0 := by omega
      obtain ⟨k, k1, k2⟩ := ih (m / 2) (by omega) hj
      refine ⟨k + 1, by rw [Nat.testBit_succ]; exact k1, fun b => ?_⟩
      rw [Nat.testBit_and]
      cases b with
      | zero =>
        rw [Nat.testBit_zero, e]
        rfl
      | succ b =>
        have := k2 b
        rw [Nat.testBit_and] at this
        rw [Nat.testBit_succ, Nat.testBit_succ, show (m - 1) / 2 = m / 2 - 1 by omega, this]
        congr 1
        exact decide_eq_decide.mpr (by omega)
    · refine ⟨0, by rw [Nat.testBit_zero, e]; rfl, fun b => ?_⟩
      rw [Nat.testBit_and]
      cases b with
      | zero =>
        rw [Nat.testBit_zero, Nat.testBit_zero, show (m - 1) % 2 = 0 by omega]
        simp
      | succ b =>
        rw [Nat.testBit_succ, Nat.testBit_succ, show (m - 1) / 2 = m / 2 by omega]
        simp
theorem bct_kern {m : Nat} (hm : m ≠ 0) (h : m < 2 ^ 16) : bct (m &&& (m - 1)) + 1 = bct m := by
  obtain ⟨k, k1, k2⟩ := kern_tb hm
  have k16 : k < 16 := by
    refine Classical.byContradiction fun q => ?_
    have : m.testBit k = false := Nat.testBit_lt_two_pow (Nat.lt_of_lt_of_le h (Nat.pow_le_pow_right (by omega) (by omega)))
    rw [k1] at this
    cases this
  have o := cf_one (P := fun b => (m &&& (m - 1)).testBit b) (Q := fun b => m.testBit b) (i := k) (n := 16) (a := 0) (by omega) (by omega) fun j hj => by
    show (m &&& (m - 1)).testBit j = m.testBit j
    rw [k2, decide_eq_true hj, Bool.and_true]
  have e : (m &&& (m - 1)).testBit k = false := by rw [k2]; simp
  rw [e, k1] at o
  unfold bct
  simpa using o
theorem bct_0 : bct 0 = 0 := by
  unfold bct
  decide
theorem pm_bitsOf {G : tc_G} {u : tc_S} : ∀ (n m c f : Nat), bct m = n → m < 2 ^ 16 → n < f → lo_X12_bitsOf_4 G f (nI c) (nI m) u = some (nI (c + bct m), u) := by
  intro n
  induction n with
  | zero =>
    intro m c f hb hm hf
    obtain ⟨f, rfl⟩ : ∃ k, f = k + 1 := ⟨f - 1, by omega⟩
    have : m = 0 := by
      refine Classical.byContradiction fun q => ?_
      have := bct_kern q hm
      omega
    rw [this, lo_X12_bitsOf_4, if_pos (show nI 0 = 0 from rfl), bct_0, Nat.add_zero]
  | succ n ih =>
    intro m c f hb hm hf
    obtain ⟨f, rfl⟩ : ∃ k, f = k + 1 := ⟨f - 1, by omega⟩
    have h0 : m ≠ 0 := by
      intro z
      rw [z, bct_0] at hb
      omega
    have hk := bct_kern h0 hm
    rw [lo_X12_bitsOf_4, if_neg (nI_ne0 (by omega) (by omega))]
    unfold tc_let
    rw [nI_1, show nI m - 1 = nI (m - 1) from pk_sub (b := 1) (by omega), nI_and]
    have := ih (m &&& (m - 1)) (c + 1) f (by omega) (Nat.lt_of_le_of_lt Nat.and_le_left hm) (by omega)
    refine this.trans ?_
    rw [show c + 1 + bct (m &&& (m - 1)) = c + bct m by omega]
theorem pm_bits {G : tc_G} {u : tc_S} {g : mp} {a M : Nat} (hw : mwf g) (hM2 : M < 2 ^ 16) (ht : ∀ b, M.testBit b = true ↔ b < mn g 0 ∧ lb g b = lb g a) : fn_X12_bitsOf G (nI M) u = some (nI (bct M), u) := by
  have hfu := tc_fu_big
  have : bct M ≤ 16 := cf_le
  have q := pm_bitsOf (G := G) (u := u) (bct M) M 0 tc_fu rfl hM2 (by omega)
  rw [Nat.zero_add] at q
  exact q
/-- the buckets of a part, counted either way -/
theorem bct_bkn {g : mp} {a M : Nat} (hn : mn g 0 ≤ 16) (ht : ∀ b, M.testBit b = true ↔ b < mn g 0 ∧ lb g b = lb g a) : bct M = bkn (mn g 0) (lb g) (lb g a) := by
  have app : ∀ (P : Nat → Bool) (n k x : Nat), cf P (n + k) x = cf P n x + cf P k (x + n) := by
    intro P n k
    induction n with
    | zero => intro x; rw [Nat.zero_add, cf, Nat.zero_add]; rfl
    | succ n ih => intro x; rw [show n + 1 + k = (n + k) + 1 by omega, cf, cf, ih, show x + 1 + n = x + (n + 1) by omega]; omega
  have z : ∀ (P : Nat → Bool) (n x : Nat), (∀ i, x ≤ i → P i = false) → cf P n x = 0 := by
    intro P n
    induction n with
    | zero => intro x _; rfl
    | succ n ih => intro x h; rw [cf, h x (by omega), ih (x + 1) fun i hi => h i (by omega)]; rfl
  unfold bct bkn
  rw [show 16 = mn g 0 + (16 - mn g 0) by omega, app, z _ (16 - mn g 0) (0 + mn g 0) fun i hi => ?_, Nat.add_zero]
  · refine cf_congr fun i _ hi => ?_
    cases e : M.testBit i with
    | true => exact (decide_eq_true ((ht i).mp e).2).symm
    | false =>
      refine (decide_eq_false fun q => ?_).symm
      have := (ht i).mpr ⟨by omega, q⟩
      rw [e] at this
      cases this
  · show M.testBit i = false
    cases e : M.testBit i with
    | false => rfl
    | true => have := ((ht i).mp e).1; omega
