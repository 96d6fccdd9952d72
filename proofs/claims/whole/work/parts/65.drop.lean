/-! one goes out; the stash empties; a drop, settling, loads: plain functions, what they keep -/
/-- those of the stash behind a place come up -/
def mcls (g : mp) (j : Nat) : mp := fun k => if k = 18 then nI (mn g 18 - 1) else if 276 + 4 * j ≤ k ∧ k < 276 + 4 * (mn g 18 - 1) then g (k + 4) else if 276 + 4 * (mn g 18 - 1) ≤ k ∧ k < 276 + 4 * mn g 18 then 0 else g k
theorem mcls_lo {g : mp} {j k : Nat} (h : k < 20) (h2 : k ≠ 18) : mcls g j k = g k := by
  unfold mcls
  rw [if_neg h2, if_neg (by omega), if_neg (by omega)]
theorem mcls_18 {g : mp} {j : Nat} : mcls g j 18 = nI (mn g 18 - 1) := by
  unfold mcls
  rw [if_pos rfl]
theorem gc_mcls {g : mp} {j i : Nat} (h1 : 1 ≤ mn g 18) : gc (mcls g j) i = if 64 + j ≤ i ∧ i + 1 < 64 + mn g 18 then gc g (i + 1) else if i + 1 = 64 + mn g 18 then e0 else gc g i := by
  unfold gc mcls e0
  by_cases c1 : 64 + j ≤ i ∧ i + 1 < 64 + mn g 18
  · rw [if_pos c1, if_neg (by omega), if_pos (by omega), if_neg (by omega), if_pos (by omega), if_neg (by omega), if_pos (by omega), if_neg (by omega), if_pos (by omega)]
    rw [show 20 + 4 * i + 4 = 20 + 4 * (i + 1) by omega, show 21 + 4 * i + 4 = 21 + 4 * (i + 1) by omega, show 22 + 4 * i + 4 = 22 + 4 * (i + 1) by omega, show 23 + 4 * i + 4 = 23 + 4 * (i + 1) by omega]
  · rw [if_neg c1]
    by_cases c2 : i + 1 = 64 + mn g 18
    · rw [if_pos c2, if_neg (by omega), if_neg (by omega), if_pos (by omega), if_neg (by omega), if_neg (by omega), if_pos (by omega), if_neg (by omega), if_neg (by omega), if_pos (by omega), if_neg (by omega), if_neg (by omega), if_pos (by omega)]
    · rw [if_neg c2, if_neg (by omega), if_neg (by omega), if_neg (by omega), if_neg (by omega), if_neg (by omega), if_neg (by omega), if_neg (by omega), if_neg (by omega), if_neg (by omega), if_neg (by omega), if_neg (by omega), if_neg (by omega)]
/-- which cell's entry a cell has then; 69: none's -/
def cix (s j i : Nat) : Nat := if 64 + j ≤ i ∧ i + 1 < 64 + s then i + 1 else i
theorem ck_mcls {g : mp} {j i : Nat} (h1 : 1 ≤ mn g 18) : ck (mcls g j) i = if i + 1 = 64 + mn g 18 then 0 else ck g (cix (mn g 18) j i) := by
  rw [ck_gc, gc_mcls h1]
  unfold cix
  by_cases c1 : 64 + j ≤ i ∧ i + 1 < 64 + mn g 18
  · rw [if_pos c1, if_neg (by omega), if_pos c1]; rfl
  · rw [if_neg c1, if_neg c1]
    split <;> rfl
theorem cb_mcls {g : mp} {j i : Nat} (h1 : 1 ≤ mn g 18) : cb (mcls g j) i = if i + 1 = 64 + mn g 18 then 0 else cb g (cix (mn g 18) j i) := by
  rw [cb_gc, gc_mcls h1]
  unfold cix
  by_cases c1 : 64 + j ≤ i ∧ i + 1 < 64 + mn g 18
  · rw [if_pos c1, if_neg (by omega), if_pos c1]; rfl
  · rw [if_neg c1, if_neg c1]
    split <;> rfl
theorem mwf_mcls {g : mp} {j : Nat} (h : mw0 g) (hj : j < mn g 18) (hE : ∀ m, m < 4 → (ck g (64 + m) ≠ 0 ↔ m < mn g 18 ∧ m ≠ j)) : mwf (mcls g j) := by
  obtain ⟨a, b, d, c1, c2, c3, c4⟩ := mw0_iff.mp h
  have h4 : mn g 18 ≤ 4 := Nat.le_trans b.2 a.2.2.2.1
  have h1 : 1 ≤ mn g 18 := by omega
  have s : sA g (mcls g j) := fun k hk => mcls_lo (by omega) (by omega)
  have m12 : mn (mcls g j) 12 = mn g 12 := by unfold mn; rw [mcls_lo (by omega) (by omega)]
  have m18 : mn (mcls g j) 18 = mn g 18 - 1 := by
    show (mcls g j 18).toNatClampNeg = _
    rw [mcls_18, nI_clamp (by omega)]
  refine ⟨mw0_iff.mpr ⟨sA_wA s a, ?_, ?_, ?_, ?_, ?_, ?_⟩, ?_⟩
  · unfold wB
    rw [m18, mcls_18, sA_mn s (by omega)]
    exact ⟨rfl, by have := b.2; omega⟩
  · intro i hi
    rw [ck_mcls h1, sA_wP s, if_neg (by omega)]
    unfold cix
    rw [if_neg (by omega)]
    exact d i hi
  · rw [m12, mcls_lo (by omega) (by omega)]; exact c1
  · intro i hi
    rw [m12, gc_mcls h1]
    split
    · exact c2 _ (by omega)
    · split
      · exact wc1_e0
      · exact c2 i hi
  · intro x y hx hy hxy
    rw [ck_mcls h1, ck_mcls h1]
    by_cases q1 : x + 1 = 64 + mn g 18
    · rw [if_pos q1]; intro q; exact absurd rfl q
    · rw [if_neg q1]
      by_cases q2 : y + 1 = 64 + mn g 18
      · rw [if_pos q2]; exact fun q => q
      · rw [if_neg q2]
        unfold cix
        refine c3 _ _ ?_ ?_ ?_ <;> grind
  · intro x y hx hy hxy
    rw [ck_mcls h1, ck_mcls h1, cb_mcls h1, cb_mcls h1]
    by_cases q1 : x + 1 = 64 + mn g 18
    · rw [if_pos q1]; intro q; exact absurd rfl q
    · by_cases q2 : y + 1 = 64 + mn g 18
      · rw [if_pos q2]; intro _ q; exact absurd rfl q
      · rw [if_neg q1, if_neg q2, if_neg q1, if_neg q2]
        unfold cix
        refine c4 _ _ ?_ ?_ ?_ <;> grind
  · intro m hm
    rw [m18, ck_mcls h1]
    unfold cix
    by_cases q1 : 64 + m + 1 = 64 + mn g 18
    · rw [if_pos q1]
      omega
    · rw [if_neg q1]
      by_cases q2 : 64 + j ≤ 64 + m ∧ 64 + m + 1 < 64 + mn g 18
      · rw [if_pos q2, show 64 + m + 1 = 64 + (m + 1) by omega, hE (m + 1) (by omega)]
        omega
      · rw [if_neg q2, hE m hm]
        omega
theorem mcls_k {g : mp} {j : Nat} (h : mwf (mcls g j)) (h1 : 1 ≤ mn g 18) (h4 : mn g 18 ≤ 4) : ck (mcls g j) 68 = ck g 68 ∧ mn (mcls g j) 12 = mn g 12 := by
  refine ⟨?_, ?_⟩
  · rw [ck_mcls h1, if_neg (by omega)]
    unfold cix
    rw [if_neg (by omega)]
  · unfold mn
    rw [mcls_lo (by omega) (by omega)]
/-- an entry goes -/
def mout (g : mp) (i : Nat) : mp := if i < 64 then cs g i e0 else mcls g (i - 64)
def mlv2 (g : mp) (i : Nat) (o : Option (List (Nat × Nat))) : Option mp := match o with
  | some l => if l.length ≤ mn g 3 then some (mvb (mopn g (ck g i - 1) l) i (mopf g (ck g i - 1) l)) else none
  | none => none
def mlv1 (g : mp) (i : Nat) (ch : Bool) (o : Option Nat) : Option mp := match o with
  | some x => some (mvb g i x)
  | none => if ch then mlv2 g i (mchain g (ck g i - 1)) else none
/-- one in the stash comes out of it -/
def mlv (g : mp) (i : Nat) (ch : Bool) : Option mp := mlv1 g i ch (mfr g (ck g i - 1))
def mem2 (k : mp → Nat → Nat → Nat × mp) (g : mp) (stay left : Nat) (o : Option mp) : Nat × mp := match o with
  | some h => k (mcls h stay) stay (left + 1)
  | none => k g (stay + 1) left
def mem (ch : Bool) : Nat → mp → Nat → Nat → Nat × mp
  | 0 => fun g _ left => (left, g)
  | n + 1 => fun g stay left => mem2 (mem ch n) g stay left (mlv g (64 + stay) ch)
theorem mem_0 (ch : Bool) (g : mp) (stay left : Nat) : mem ch 0 g stay left = (left, g) := rfl
theorem mem_s (ch : Bool) (n : Nat) (g : mp) (stay left : Nat) : mem ch (n + 1) g stay left = mem2 (mem ch n) g stay left (mlv g (64 + stay) ch) := rfl
def mset (g : mp) : Nat × mp := mem true (mn g 18) g 0 0
def mdrp1 (g : mp) (o : Option Nat) : Int32 × mp := match o with
  | some i => (g (21 + 4 * i), (mem false (mn (mout g i) 18) (mout g i) 0 0).2)
  | none => (-1, g)
def mdrp (g : mp) (q : Nat) : Int32 × mp := mdrp1 g (mloc g q)
/-- a step of a load -/
def mld2 (k : mp → Int32 → Int32 → Int32 × mp) (s c : Int32) (r : Int32 × mp) : Int32 × mp := k r.2 s (c + (if r.1 = -1 then 1 else 0))
def mld1 (k : mp → Int32 → Int32 → Int32 × mp) (g : mp) (s1 s2 s3 c : Int32) : Int32 × mp := if mpick s1 4 = 0 then k (mdrp g (mpick s2 1000).toNatClampNeg).2 s2 c else mld2 k s3 c (mput g (mpick s2 1000).toNatClampNeg (mpick s3 1000))
def mld : Nat → mp → Int32 → Int32 → Int32 × mp
  | 0 => fun g _ c => (c, g)
  | n + 1 => fun g s c => mld1 (mld n) g (mseed s) (mseed (mseed s)) (mseed (mseed (mseed s))) c
theorem mld_0 (g : mp) (s c : Int32) : mld 0 g s c = (c, g) := rfl
theorem mld_s (n : Nat) (g : mp) (s c : Int32) : mld (n + 1) g s c = mld1 (mld n) g (mseed s) (mseed (mseed s)) (mseed (mseed (mseed s))) c := rfl
/-! what they keep -/
theorem wE_gone {g : mp} {i j : Nat} {e : en} (h : wE g) (hj : j < mn g 18) (hj4 : j < 4) (hi : i < 64 ∨ 68 ≤ i) : ∀ m, m < 4 → (ck (cs (cs g i e) (64 + j) e0) (64 + m) ≠ 0 ↔ m < mn (cs (cs g i e) (64 + j) e0) 18 ∧ m ≠ j) := by
  intro m hm
  rw [mn_cs (by omega), mn_cs (by omega), ck_cs]
  by_cases q : m = j
  · rw [if_pos (by omega)]
    constructor
    · intro x; exact absurd rfl x
    · intro x; omega
  · rw [if_neg (by omega), ck_cs, if_neg (by omega), h m hm]
    omega
theorem mlv_ok {g h : mp} {j : Nat} {ch : Bool} (hg : mwf g) (hj : j < mn g 18) (hl : mlv g (64 + j) ch = some h) : mwf (mcls h j) ∧ ck (mcls h j) 68 = ck g 68 ∧ mn (mcls h j) 12 = mn g 12 ∧ mn (mcls h j) 18 = mn g 18 - 1 ∧ mn h 18 = mn g 18 ∧ (∀ k, k < 20 → k ≠ 11 → k ≠ 17 → k ≠ 18 → mcls h j k = g k) := by
  have a := hg.1.1
  have h4 : mn g 18 ≤ 4 := Nat.le_trans hg.1.2.1.2 a.2.2.2.1
  have h0 : ck g (64 + j) ≠ 0 := (hg.2 j (by omega)).mpr hj
  have fin : ∀ (x : mp) (i : Nat), mwf x → (∀ k, k < 20 → k ≠ 11 → k ≠ 17 → x k = g k) → gc x (64 + j) = gc g (64 + j) → ck x 68 = ck g 68 → i < 64 → ck x i = 0 → wP x i (ck g (64 + j) - 1) → h = mvb x (64 + j) i → mwf (mcls h j) ∧ ck (mcls h j) 68 = ck g 68 ∧ mn (mcls h j) 12 = mn g 12 ∧ mn (mcls h j) 18 = mn g 18 - 1 ∧ mn h 18 = mn g 18 ∧ (∀ k, k < 20 → k ≠ 11 → k ≠ 17 → k ≠ 18 → mcls h j k = g k) := by
    intro x i hx hk hgc h68 hi hi0 hP e
    have x18 : mn x 18 = mn g 18 := by unfold mn; rw [hk 18 (by omega) (by omega) (by omega)]
    have x12 : mn x 12 = mn g 12 := by unfold mn; rw [hk 12 (by omega) (by omega) (by omega)]
    have e18 : mn h 18 = mn g 18 := by
      rw [e]
      unfold mvb
      rw [mn_cs (by omega), mn_cs (by omega), x18]
    have ckx : ck x (64 + j) = ck g (64 + j) := by rw [ck_gc, hgc]; rfl
    have w : mwf (mcls h j) := by
      rw [e]
      refine mwf_mcls (mw0_mv hx.1 (by omega) (by omega) (by omega) (by rw [ckx]; exact h0) (fun _ => by rw [ckx]; exact hP) (Or.inr rfl)) ?_ ?_
      · rw [← e, e18]; exact hj
      · exact wE_gone hx.2 (by omega) (by omega) (by omega)
    have k1 := mcls_k w (by omega) (by omega)
    refine ⟨w, ?_, ?_, ?_, e18, ?_⟩
    · rw [k1.1, e]
      unfold mvb
      rw [ck_cs, if_neg (by omega), ck_cs, if_neg (by omega)]
      exact h68
    · rw [k1.2, e]
      unfold mvb
      rw [mn_cs (by omega), mn_cs (by omega), x12]
    · show (mcls h j 18).toNatClampNeg = _
      rw [mcls_18, e18, nI_clamp (by omega)]
    · intro k k1 k2 k3 k4
      rw [mcls_lo k1 k4, e]
      unfold mvb
      rw [cs_lo k1, cs_lo k1, hk k k1 k2 k3]
  unfold mlv at hl
  cases hf : mfr g (ck g (64 + j) - 1) with
  | some i =>
    rw [hf, mlv1] at hl
    obtain ⟨f1, f2, f3⟩ := mfr_sp a hg.1.2.2.1 hf
    exact fin g i hg (fun _ _ _ _ => rfl) rfl rfl f1 f2 f3 (Option.some.inj hl).symm
  | none =>
    rw [hf, mlv1] at hl
    split at hl
    · cases hc : mchain g (ck g (64 + j) - 1) with
      | none => rw [hc, mlv2] at hl; cases hl
      | some l =>
        rw [hc, mlv2] at hl
        split at hl
        · obtain ⟨o1, o2, o3, o4, o5, o6, o7, o8⟩ := mopn_ok hg hc
          refine fin _ _ o1 (fun k k1 _ k3 => o8 k k1 k3) (o7 _ (by omega)) ?_ o4 o3 (mopf_wP hg hc) (Option.some.inj hl).symm
          rw [ck_gc, o7 68 (by omega)]; rfl
        · cases hl
    · cases hl
theorem mem_ok (ch : Bool) : ∀ (n : Nat) (g : mp) (stay left : Nat), mwf g → stay + n = mn g 18 → mwf (mem ch n g stay left).2 ∧ ck (mem ch n g stay left).2 68 = ck g 68 ∧ (∀ k, k < 20 → k ≠ 11 → k ≠ 17 → k ≠ 18 → (mem ch n g stay left).2 k = g k) := by
  intro n
  induction n with
  | zero =>
    intro g stay left h _
    rw [mem_0]
    exact ⟨h, rfl, fun _ _ _ _ _ => rfl⟩
  | succ n ih =>
    intro g stay left h hn
    rw [mem_s]
    cases hl : mlv g (64 + stay) ch with
    | none =>
      rw [mem2]
      exact ih g (stay + 1) left h (by omega)
    | some x =>
      rw [mem2]
      obtain ⟨l1, l2, l3, l4, l5, l6⟩ := mlv_ok h (by omega) hl
      obtain ⟨i1, i2, i3⟩ := ih (mcls x stay) stay (left + 1) l1 (by omega)
      exact ⟨i1, i2.trans l2, fun k k1 k2 k3 k4 => (i3 k k1 k2 k3 k4).trans (l6 k k1 k2 k3 k4)⟩
theorem mre_of {P : Nat} {g h : mp} (hg : mre P g) (h1 : mwf h) (h2 : ck h 68 = ck g 68) (h3 : ∀ k, k < 20 → k ≠ 11 → k ≠ 17 → k ≠ 18 → h k = g k) : mre P h := by
  refine ⟨h1, by rw [h2]; exact hg.2.1, ?_⟩
  rw [← hg.2.2]
  unfold mn
  rw [h3 12 (by omega) (by omega) (by omega) (by omega)]
theorem mset_ok {P : Nat} {g : mp} (h : mre P g) : mre P (mset g).2 := by
  obtain ⟨i1, i2, i3⟩ := mem_ok true (mn g 18) g 0 0 h.1 (by omega)
  exact mre_of h i1 i2 i3
theorem mout_ok {P : Nat} {g : mp} {i : Nat} (h : mre P g) (hi : i < 68) (h0 : ck g i ≠ 0) : mre P (mout g i) ∧ (∀ k, k < 20 → k ≠ 18 → mout g i k = g k) ∧ mn (mout g i) 18 = (if i < 64 then mn g 18 else mn g 18 - 1) := by
  obtain ⟨hg, h68, hp⟩ := h
  have a := hg.1.1
  have h4 : mn g 18 ≤ 4 := Nat.le_trans hg.1.2.1.2 a.2.2.2.1
  unfold mout
  by_cases c : i < 64
  · rw [if_pos c, if_pos c]
    obtain ⟨a, b, d, c1, c2, c3, c4⟩ := mw0_iff.mp hg.1
    have z : (e0 : en).1.toNatClampNeg = 0 := rfl
    refine ⟨⟨⟨mw0_iff.mpr ⟨sA_wA sA_cs a, ?_, ?_, ?_, ?_, ?_, ?_⟩, wE_cs hg.2 (by omega)⟩, ?_, ?_⟩, fun k k1 k2 => cs_lo k1, mn_cs (by omega)⟩
    · unfold wB
      rw [mn_cs (by omega), mn_cs (by omega), cs_lo (by omega)]
      exact b
    · intro x hx
      rw [ck_cs, sA_wP sA_cs, z]
      split
      · intro q; exact absurd rfl q
      · exact d x hx
    · rw [mn_cs (by omega), cs_lo (by omega)]; exact c1
    · intro x hx
      rw [mn_cs (by omega), gc_cs]
      split
      · exact wc1_e0
      · exact c2 x hx
    · intro x y hx hy hxy
      rw [ck_cs, ck_cs, z]
      split
      · intro q; exact absurd rfl q
      · split
        · intro q; exact q
        · exact c3 x y hx hy hxy
    · intro x y hx hy hxy
      rw [ck_cs, ck_cs, cb_cs, cb_cs, z]
      by_cases p : x = i
      · rw [if_pos p]; intro q; exact absurd rfl q
      · by_cases r : y = i
        · rw [if_pos r]; intro _ q; exact absurd rfl q
        · rw [if_neg p, if_neg p, if_neg r, if_neg r]; exact c4 x y hx hy hxy
    · rw [ck_cs, if_neg (by omega)]; exact h68
    · rw [mn_cs (by omega)]; exact hp
  · rw [if_neg c, if_neg c]
    have hj : i - 64 < mn g 18 := (hg.2 (i - 64) (by omega)).mp (by rw [show 64 + (i - 64) = i by omega]; exact h0)
    have w : mwf (mcls g (i - 64)) := by
      have e : mcls g (i - 64) = mcls (cs g i e0) (i - 64) := by
        funext k
        unfold mcls
        rw [mn_cs (by omega), cs_k, cs_k]
        grind
      rw [e]
      have z := mw0_iff.mp hg.1
      refine mwf_mcls (mw0_iff.mpr ⟨sA_wA sA_cs z.1, ?_, ?_, ?_⟩) ?_ ?_
      · unfold wB
        rw [mn_cs (by omega), mn_cs (by omega), cs_lo (by omega)]
        exact z.2.1
      · intro x hx
        rw [ck_cs, if_neg (by omega), sA_wP sA_cs]
        exact z.2.2.1 x hx
      · have z2 : (e0 : en).1.toNatClampNeg = 0 := rfl
        obtain ⟨c1, c2, c3, c4⟩ := z.2.2.2
        refine ⟨?_, ?_, ?_, ?_⟩
        · rw [mn_cs (by omega), cs_lo (by omega)]; exact c1
        · intro x hx
          rw [mn_cs (by omega), gc_cs]
          split
          · exact wc1_e0
          · exact c2 x hx
        · intro x y hx hy hxy
          rw [ck_cs, ck_cs, z2]
          split
          · intro q; exact absurd rfl q
          · split
            · intro q; exact q
            · exact c3 x y hx hy hxy
        · intro x y hx hy hxy
          rw [ck_cs, ck_cs, cb_cs, cb_cs, z2]
          by_cases p : x = i
          · rw [if_pos p]; intro q; exact absurd rfl q
          · by_cases r : y = i
            · rw [if_pos r]; intro _ q; exact absurd rfl q
            · rw [if_neg p, if_neg p, if_neg r, if_neg r]; exact c4 x y hx hy hxy
      · rw [mn_cs (by omega)]; exact hj
      · intro m hm
        rw [mn_cs (by omega), ck_cs, show (e0 : en).1.toNatClampNeg = 0 from rfl]
        have := hg.2 m hm
        split
        · omega
        · rw [this]; omega
    have k1 := mcls_k w (by omega) (by omega)
    refine ⟨⟨w, by rw [k1.1]; exact h68, by rw [k1.2]; exact hp⟩, fun k k1 k2 => mcls_lo k1 k2, ?_⟩
    show (mcls g (i - 64) 18).toNatClampNeg = _
    rw [mcls_18, nI_clamp (by omega)]
theorem mdrp_ok {P : Nat} {g : mp} {q : Nat} (h : mre P g) (hq : q ≤ 999) : mre P (mdrp g q).2 ∧ ∀ k, k < 20 → k ≠ 11 → k ≠ 17 → k ≠ 18 → (mdrp g q).2 k = g k := by
  unfold mdrp
  cases hl : mloc g q with
  | none => rw [mdrp1]; exact ⟨h, fun _ _ _ _ _ => rfl⟩
  | some i =>
    rw [mdrp1]
    have hi := mloc_sp h.1 hq hl
    obtain ⟨o1, o2, o3⟩ := mout_ok h hi.1 (by omega)
    obtain ⟨i1, i2, i3⟩ := mem_ok false (mn (mout g i) 18) (mout g i) 0 0 o1.1 (by omega)
    exact ⟨mre_of o1 i1 i2 i3, fun k k1 k2 k3 k4 => (i3 k k1 k2 k3 k4).trans (o2 k k1 k4)⟩
