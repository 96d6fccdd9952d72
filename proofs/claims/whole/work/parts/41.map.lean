/-! THE MAP, as plain numbers: a row g of 292 numbers, laid as the reference lays them: 0 buckets, 1 slots, 2 stash, 3 depth, 4 tries, 5 kick, 6 full, 7..10 hashes, 11 seed, 12 puts, 13 refused, 14 changed, 15 doubled, 16 reads, 17 longest, 18 in the stash; from 20 on four numbers a place (key + 1, or 0; value; born; moved), four places a bucket; from 276 on the stash -/
abbrev mp : Type := Nat → Int32
def mn (g : mp) (k : Nat) : Nat := (g k).toNatClampNeg
abbrev mcell (b p : Nat) : Nat := 20 + 16 * b + 4 * p
abbrev msc (j : Nat) : Nat := 276 + 4 * j
def mhash (g : mp) (w key : Nat) : Nat := (mn g (7 + 2 * w) * key + mn g (8 + 2 * w)) % 1009 % mn g 0
/-- the settings are what they may be; what is in a place is nothing or a key -/
def mok (g : mp) : Prop := (∀ k, k < 11 → g k = nI (mn g k)) ∧ (1 ≤ mn g 0 ∧ mn g 0 ≤ 16) ∧ (1 ≤ mn g 1 ∧ mn g 1 ≤ 4) ∧ mn g 2 ≤ 4 ∧ mn g 3 ≤ 16 ∧ mn g 4 ≤ 4 ∧ mn g 5 ≤ 2 ∧ mn g 6 ≤ 3 ∧ (∀ k, 7 ≤ k → k < 11 → mn g k ≤ 1008) ∧ (g 18 = nI (mn g 18) ∧ mn g 18 ≤ mn g 2) ∧
  (∀ b p, b < 16 → p < 4 → ∃ q, q ≤ 1000 ∧ g (mcell b p) = nI q) ∧ (∀ j, j < 4 → ∃ q, q ≤ 1000 ∧ g (msc j) = nI q ∧ (j < mn g 18 ↔ 0 < q))
/-- the first number from i on, of n, that is so -/
def ff (P : Nat → Bool) : Nat → Nat → Option Nat
  | 0, _ => none
  | n + 1, i => if P i then some i else ff P n (i + 1)
def oI : Option Nat → Int32
  | some p => nI p
  | none => -1
def memp (g : mp) (b : Nat) : Option Nat := ff (fun p => decide (g (mcell b p) = 0)) (mn g 1) 0
/-- how many of n from i on are so -/
def cf (P : Nat → Bool) : Nat → Nat → Nat
  | 0, _ => 0
  | n + 1, i => (if P i then 1 else 0) + cf P n (i + 1)
def minb (g : mp) (b : Nat) : Nat := cf (fun p => decide (¬ g (mcell b p) = 0)) (mn g 1) 0
/-- the reference's region at B is g -/
def isM (u : tc_S) (B : Nat) (g : mp) : Prop := ∀ k, k < 292 → u.1 72 (B + k) = g k
theorem mhash_lt {g : mp} (h : mok g) (w key : Nat) : mhash g w key < mn g 0 := Nat.mod_lt _ h.2.1.1
theorem pm_hash {G : tc_G} (hG : gm G) {u : tc_S} {B key w : Nat} {g : mp} (hB : B + 292 ≤ 3253) (hM : isM u B g) (hg : mok g) (hw : w < 2) (hk : key ≤ 999) : fn_X12_hashOf G 71 (nI B) (nI key) (nI w) u = some (nI (mhash g w key), u) := by
  refine pm_hashOf hG hB hw ?_ ?_ ?_ (hg.2.2.2.2.2.2.2.2.1 (7 + 2 * w) (by omega) (by omega)) (hg.2.2.2.2.2.2.2.2.1 (8 + 2 * w) (by omega) (by omega)) hk hg.2.1.1 (by have := hg.2.1.2; omega)
  · rw [show B + 7 + 2 * w = B + (7 + 2 * w) by omega, hM _ (by omega)]
    exact hg.1 _ (by omega)
  · rw [show B + 7 + 2 * w + 1 = B + (8 + 2 * w) by omega, hM _ (by omega)]
    exact hg.1 _ (by omega)
  · rw [show u.1 72 B = u.1 72 (B + 0) from rfl, hM _ (by omega)]
    exact hg.1 _ (by omega)
theorem pm_cell {G : tc_G} {u : tc_S} {B b p : Nat} (hb : b < 100) : fn_X12_cell G (nI B) (nI b) (nI p) u = some (nI (B + mcell b p), u) := by
  unfold fn_X12_cell bl_X12_cell_30
  simp only [pu_lit, nI_add, pk_mul]
  rw [pu_eq (by omega) (by omega), if_neg (by omega)]
  congr 3
  unfold mcell
  omega
theorem pm_cellS {G : tc_G} {u : tc_S} {B p : Nat} : fn_X12_cell G (nI B) 100 (nI p) u = some (nI (B + msc p), u) := by
  unfold fn_X12_cell bl_X12_cell_30
  rw [if_pos rfl]
  rw [show ((4 : Int32) * nI p) = nI (4 * p) from pk_mul 4 p, show nI B + 276 = nI (B + 276) from nI_add B 276, nI_add]
  congr 3
  unfold msc
  omega
theorem pm_isEntry {G : tc_G} (hG : gm G) {u : tc_S} {x q : Nat} (hx : x < 3253) (hq : u.1 72 x = nI q) (h : q < 2 ^ 31) : fn_X12_isEntry G 71 (nI x) u = some (if u.1 72 x = 0 then 0 else 1, u) := by
  unfold fn_X12_isEntry bl_X12_isEntry_14
  rw [hG.1.1, pu_ld hG.1.2 hx (by omega), hq]
  by_cases h0 : q = 0
  · subst h0; rfl
  · rw [if_neg (nI_nle (by omega) h), if_neg (nI_ne0 (by omega) h)]
    rfl
theorem pm_keyOf {G : tc_G} (hG : gm G) {u : tc_S} {x : Nat} (hx : x < 3253) : fn_X12_keyOf G 71 (nI x) u = some (u.1 72 x - 1, u) := by
  unfold fn_X12_keyOf
  rw [hG.1.1, pu_ld hG.1.2 hx (by omega)]
theorem pm_other {G : tc_G} (hG : gm G) {u : tc_S} {B key b : Nat} {g : mp} (hB : B + 292 ≤ 3253) (hM : isM u B g) (hg : mok g) (hk : key ≤ 999) (hb : b < 2 ^ 31) : fn_X12_otherOf G 71 (nI B) (nI key) (nI b) u = some (if mhash g 0 key = mhash g 1 key then -1 else if b = mhash g 0 key then nI (mhash g 1 key) else nI (mhash g 0 key), u) := by
  unfold fn_X12_otherOf bl_X12_otherOf_42
  have l0 := mhash_lt hg 0 key
  have l1 := mhash_lt hg 1 key
  have l2 := hg.2.1.2
  have e0 := pm_hash hG hB hM hg (w := 0) (by omega) hk
  have e1 := pm_hash hG hB hM hg (w := 1) (by omega) hk
  rw [show nI 0 = (0 : Int32) from rfl] at e0
  rw [show nI 1 = (1 : Int32) from rfl] at e1
  rw [e0, pu_b, e1, pu_b, pu_eq (by omega) (by omega), pu_eq (by omega) (by omega)]
  split
  · rfl
  · split <;> rfl
theorem pm_lo_emptyIn {G : tc_G} (hG : gm G) {u : tc_S} {B b : Nat} {g : mp} (hB : B + 292 ≤ 3253) (hM : isM u B g) (hg : mok g) (hb : b < 16) : ∀ (n i f : Nat), i + n = mn g 1 → n < f → lo_X12_emptyIn_2 G f 71 (nI B) (nI b) (nI i) u = some (oI (ff (fun p => decide (g (mcell b p) = 0)) n i), u) := by
  have hs := hg.2.2.1
  intro n
  induction n with
  | zero =>
    intro i f hi hf
    obtain ⟨f, rfl⟩ : ∃ k, f = k + 1 := ⟨f - 1, by omega⟩
    rw [lo_X12_emptyIn_2, hG.1.1]
    simp only [pu_lit, nI_add]
    rw [pu_ld hG.1.2 (by omega) (by omega), hM 1 (by omega), hg.1 1 (by omega), pu_le (by omega) (by omega), if_pos (by omega)]
    rfl
  | succ n ih =>
    intro i f hi hf
    obtain ⟨f, rfl⟩ : ∃ k, f = k + 1 := ⟨f - 1, by omega⟩
    have hc : mcell b i < 292 := by unfold mcell; omega
    obtain ⟨q, hq1, hq2⟩ := hg.2.2.2.2.2.2.2.2.2.2.1 b i hb (by omega)
    rw [lo_X12_emptyIn_2, hG.1.1]
    have e1 : nI B + 1 = nI (B + 1) := nI_1 B
    rw [e1, pu_ld hG.1.2 (by omega) (by omega), hM 1 (by omega), hg.1 1 (by omega), pu_le (by omega) (by omega), if_neg (by omega), pm_cell (by omega), pu_b, pm_isEntry hG (by omega) (by rw [hM _ hc]; exact hq2) (by omega), pu_b, hM _ hc]
    unfold ff
    by_cases h0 : g (mcell b i) = 0
    · rw [if_pos h0, if_pos rfl, if_pos (by simpa using h0)]
      rfl
    · rw [if_neg h0, if_neg (by decide), if_neg (by simpa using h0)]
      unfold tc_let
      rw [nI_1]
      exact ih (i + 1) f (by omega) (by omega)
theorem tc_fu_big : 4000 < tc_fu := by decide
theorem pm_emptyIn {G : tc_G} (hG : gm G) {u : tc_S} {B b : Nat} {g : mp} (hB : B + 292 ≤ 3253) (hM : isM u B g) (hg : mok g) (hb : b < 16) : fn_X12_emptyIn G 71 (nI B) (nI b) u = some (oI (memp g b), u) := by
  unfold fn_X12_emptyIn memp
  exact pm_lo_emptyIn hG hB hM hg hb (mn g 1) 0 tc_fu (by omega) (by have := tc_fu_big; have := hg.2.2.1; omega)
