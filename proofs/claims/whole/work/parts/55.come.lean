/-! draws; the walk; how one comes in -/
theorem i_nat (x : Int32) : x = nI x.toBitVec.toNat := by
  apply Int32.toBitVec.inj
  show x.toBitVec = (Int32.ofNat x.toBitVec.toNat).toBitVec
  simp
theorem ush16 (x : Int32) : ∃ k, k < 65536 ∧ tc_ush x 16 = nI k := by
  refine ⟨x.toBitVec.toNat / 65536, ?_, ?_⟩
  · have := x.toBitVec.isLt
    omega
  · unfold tc_ush
    conv => lhs; rw [i_nat x]
    exact pk_ushrN x.toBitVec.isLt 16 16 (by decide)
theorem mpick_lt (x : Int32) {n : Nat} (h0 : 0 < n) (h : n < 2 ^ 31) : ∃ k, k < n ∧ mpick x (nI n) = nI k := by
  obtain ⟨k, hk, e⟩ := ush16 x
  refine ⟨k % n, Nat.mod_lt _ h0, ?_⟩
  unfold mpick
  rw [e, pu_mod (by omega) h0 h]
def mstash (g : mp) : Int32 × mp := if g 18 = g 2 then (0, g) else (3, upd (mv g 68 (64 + mn g 18)) 18 (g 18 + 1))
/-- a step of the walk from a bucket; the bucket then -/
def mwst (g : mp) (b : Nat) : mp := cs (cs (upd g 11 (mseed (g 11))) (4 * b + (mpick (mseed (g 11)) (g 1)).toNatClampNeg) (gc g 68)) 68 (bump (gc g (4 * b + (mpick (mseed (g 11)) (g 1)).toNatClampNeg)))
def mwb (g : mp) (b : Nat) : Nat := if mhash g 0 (ck g 68 - 1) = mhash g 1 (ck g 68 - 1) then b else if b = mhash g 0 (ck g 68 - 1) then mhash g 1 (ck g 68 - 1) else mhash g 0 (ck g 68 - 1)
def mwl2 (k : mp → Nat → Bool × mp) (g : mp) (b : Nat) (o : Option Nat) : Bool × mp := match o with
  | some p => (true, mv g 68 (4 * b + p))
  | none => k g b
def mwl1 (k : mp → Nat → Bool × mp) (g : mp) (b : Nat) : Bool × mp := mwl2 k (mwst g b) (mwb (mwst g b) b) (memp (mwst g b) (mwb (mwst g b) b))
def mwl : Nat → mp → Nat → Bool × mp
  | 0 => fun g _ => (false, g)
  | n + 1 => mwl1 (mwl n)
theorem mwl_0 (g : mp) (b : Nat) : mwl 0 g b = (false, g) := rfl
theorem mwl_s (n : Nat) (g : mp) (b : Nat) : mwl (n + 1) g b = mwl1 (mwl n) g b := rfl
def mwk2 (g : mp) (r : Bool × mp) : Bool × mp := match r with
  | (true, h) => (true, h)
  | (false, h) => (false, mback h g)
def mwk (g : mp) : Bool × mp := mwk2 g (mwl (mn g 3) g (mhash g 0 (ck g 68 - 1)))
def mcw (r : Bool × mp) : Int32 × mp := match r with
  | (true, h) => (2, h)
  | (false, h) => mstash h
def mcc (g : mp) (q : Nat) (o : Option (List (Nat × Nat))) : Int32 × mp := match o with
  | some l => if l.length ≤ mn g 3 then (2, mv (mopn g q l) 68 (mopf g q l)) else mstash g
  | none => mstash g
def mcf (g : mp) (q : Nat) (o : Option Nat) : Int32 × mp := match o with
  | some i => (1, mv g 68 i)
  | none => if g 5 = 2 then mcc g q (mchain g q) else if g 5 = 1 then mcw (mwk g) else mstash g
def mcome (g : mp) : Int32 × mp := mcf g (ck g 68 - 1) (mfr g (ck g 68 - 1))
/-- what the reference's comesIn may change -/
def fC (B : Nat) (o k : Nat) : Prop := (o = 72 ∧ (B ≤ k ∧ k < B + 292 ∨ 876 ≤ k ∧ k < 1168)) ∨ (75 ≤ o ∧ o ≤ 79)
theorem fr_uM {u v : tc_S} {B : Nat} {g : mp} {P : Nat → Nat → Prop} (h : fr P u v) (hp : ∀ k, B ≤ k → k < B + 292 → P 72 k) : fr P u (uM v B g) := by
  refine fr_wr h fun k hn => ?_
  unfold reg
  rw [if_neg fun q => hn (hp k q.1 q.2)]
theorem fr_o {u v : tc_S} {a : Nat} {f : Nat → Int32} {P : Nat → Nat → Prop} (h : fr P u v) (hp : ∀ k, P a k) : fr P u (tc_wr v a f) := fr_wr h fun k hn => absurd (hp k) hn
/-- the walk: what the class and the reference need -/
def mwv (g : mp) (b : Nat) : Prop := mwf g ∧ b < mn g 0 ∧ memp g b = none ∧ ck g 68 ≠ 0 ∧ (b = mhash g 0 (ck g 68 - 1) ∨ b = mhash g 1 (ck g 68 - 1))
theorem ff_none {P : Nat → Bool} : ∀ {n i : Nat}, ff P n i = none → ∀ x, i ≤ x → x < i + n → P x = false := by
  intro n
  induction n with
  | zero => intro i _ x h1 h2; omega
  | succ n ih =>
    intro i h x h1 h2
    unfold ff at h
    split at h
    · cases h
    · rename_i hp
      by_cases e : x = i
      · subst e; simpa using hp
      · exact ih h x (by omega) (by omega)
theorem memp_full {g : mp} {b p : Nat} (h : memp g b = none) (hp : p < mn g 1) : ck g (4 * b + p) ≠ 0 ∨ ∃ x, x < 0 ∧ g (mcell b p) = x := by
  have h1 := ff_none h p (by omega) (by omega)
  have h2 : ¬ g (mcell b p) = 0 := by simpa using h1
  by_cases e : g (mcell b p) < 0
  · exact Or.inr ⟨_, e, rfl⟩
  · left
    obtain ⟨j, hj, hx⟩ := nI_of e
    intro q
    have : mn g (mcell b p) = 0 := by rw [mcell_ci]; exact q
    unfold mn at this
    rw [hx, nI_clamp hj] at this
    subst this
    exact h2 hx
theorem memp_ck {g : mp} (h : mwf g) {b p : Nat} (hb : b < mn g 0) (hm : memp g b = none) (hp : p < mn g 1) : ck g (4 * b + p) ≠ 0 := by
  have a := h.1.1
  have := a.2.1.2
  have := a.2.2.1.2
  rcases memp_full hm hp with q | ⟨x, hx, e⟩
  · exact q
  · have := (h.1.2.2.1 (4 * b + p) (by omega)).1
    rw [mcell_ci, this] at e
    have h3 := (h.1.2.2.1 (4 * b + p) (by omega)).2.1
    rw [← e] at hx
    exact absurd hx (nI_pos (by omega))
theorem mwst_pick {g : mp} (a : wA g) : ∃ p, p < mn g 1 ∧ mpick (mseed (g 11)) (g 1) = nI p ∧ (mpick (mseed (g 11)) (g 1)).toNatClampNeg = p := by
  have h1 := a.2.2.1
  obtain ⟨k, hk, e⟩ := mpick_lt (mseed (g 11)) (n := mn g 1) (by omega) (by omega)
  rw [← a.1 1 (by omega)] at e
  exact ⟨k, hk, e, by rw [e, nI_clamp (by omega)]⟩
/-- the hand's entry and that of a cell change places -/
theorem wCG_swap {g : mp} {i : Nat} (h : wCG g) (hi : i < 68) (h0 : ck g i ≠ 0) (h1 : ck g 68 ≠ 0) : wCG (cs (cs g i (gc g 68)) 68 (bump (gc g i))) := by
  obtain ⟨a, b, c, d⟩ := h
  have m12 : mn (cs (cs g i (gc g 68)) 68 (bump (gc g i))) 12 = mn g 12 := by rw [mn_cs (by omega), mn_cs (by omega)]
  have e1 : ∀ x, x < 69 → ck (cs (cs g i (gc g 68)) 68 (bump (gc g i))) x = ck g (if x = 68 then i else if x = i then 68 else x) := by
    intro x hx
    rw [ck_cs, ck_cs]
    split
    · rfl
    · split <;> rfl
  have e2 : ∀ x, x < 69 → cb (cs (cs g i (gc g 68)) 68 (bump (gc g i))) x = cb g (if x = 68 then i else if x = i then 68 else x) := by
    intro x hx
    rw [cb_cs, cb_cs]
    split
    · rfl
    · split <;> rfl
  refine ⟨?_, ?_, ?_, ?_⟩
  · rw [m12, cs_lo (by omega), cs_lo (by omega)]; exact a
  · intro k hk
    rw [m12, gc_cs, gc_cs]
    split
    · exact wc1_bump (b i (by omega)) h0
    · split
      · exact b 68 (by omega)
      · exact b k hk
  · intro x y hx hy hxy
    rw [e1 x hx, e1 y hy]
    exact c _ _ (by grind) (by grind) (by grind)
  · intro x y hx hy hxy
    rw [e1 x hx, e1 y hy, e2 x hx, e2 y hy]
    exact d _ _ (by grind) (by grind) (by grind)
theorem mwf_seed {g : mp} {x : Int32} (h : mwf g) : mwf (upd g 11 x) := mwf_upd h (by omega) (by omega) (by omega) (by omega)
theorem mwst_ok {g : mp} {b : Nat} (h : mwv g b) : mwf (mwst g b) ∧ sA g (mwst g b) ∧ ck (mwst g b) 68 ≠ 0 ∧ mwb (mwst g b) b < mn g 0 ∧ (b = mhash g 0 (ck (mwst g b) 68 - 1) ∨ b = mhash g 1 (ck (mwst g b) 68 - 1)) ∧ (mwb (mwst g b) b = mhash g 0 (ck (mwst g b) 68 - 1) ∨ mwb (mwst g b) b = mhash g 1 (ck (mwst g b) 68 - 1)) := by
  obtain ⟨hg, hb, hm, hk, hp⟩ := h
  have a := hg.1.1
  have hn := a.2.1.2
  have hs := a.2.2.1.2
  obtain ⟨p, p1, p2, p3⟩ := mwst_pick a
  have h0 := memp_ck hg hb hm p1
  have s : sA g (mwst g b) := sA_trans (sA_trans (sA_upd (by omega)) sA_cs) sA_cs
  have e68 : ck (mwst g b) 68 = ck g (4 * b + p) := by
    unfold mwst
    rw [ck_cs, if_pos rfl, p3]
    rfl
  have hD := hg.1.2.2.2.1 (4 * b + p) (by omega) h0
  have hpl : b = mhash g 0 (ck (mwst g b) 68 - 1) ∨ b = mhash g 1 (ck (mwst g b) 68 - 1) := by
    rw [e68]
    have := hD.2.2
    rwa [show (4 * b + p) / 4 = b by omega] at this
  refine ⟨?_, s, ?_, ?_, hpl, ?_⟩
  · have hg1 := mwf_seed (x := mseed (g 11)) hg
    have q68 : gc (upd g 11 (mseed (g 11))) 68 = gc g 68 := gc_upd (by omega)
    have qi : gc (upd g 11 (mseed (g 11))) (4 * b + p) = gc g (4 * b + p) := gc_upd (by omega)
    have z := mw0_iff.mp hg1.1
    unfold mwst
    rw [p3, ← q68, ← qi]
    refine ⟨mw0_iff.mpr ⟨sA_wA (sA_trans sA_cs sA_cs) z.1, ?_, ?_, ?_⟩, wE_cs (wE_cs hg1.2 (by omega)) (by omega)⟩
    · unfold wB
      rw [mn_cs (by omega), mn_cs (by omega), mn_cs (by omega), mn_cs (by omega), cs_lo (by omega), cs_lo (by omega)]
      exact z.2.1
    · intro k hk2
      rw [ck_cs, if_neg (by omega), ck_cs, sA_wP (sA_trans sA_cs sA_cs), sA_wP (sA_upd (by omega))]
      split
      · rename_i e
        subst e
        intro _
        rw [q68]
        exact ⟨by omega, by omega, by rw [show (4 * b + p) / 4 = b by omega]; exact hp⟩
      · intro q
        rw [ck_upd (by omega)] at q ⊢
        exact hg.1.2.2.2.1 k hk2 q
    · exact wCG_swap z.2.2.2 (by omega) (by rw [ck_upd (by omega)]; exact h0) (by rw [ck_upd (by omega)]; exact hk)
  · rw [e68]; exact h0
  · unfold mwb
    rw [sA_hash s (by omega), sA_hash s (by omega)]
    have l0 := wA_hash a 0 (ck (mwst g b) 68 - 1)
    have l1 := wA_hash a 1 (ck (mwst g b) 68 - 1)
    split
    · exact hb
    · split
      · exact l1
      · exact l0
  · unfold mwb
    rw [sA_hash s (by omega), sA_hash s (by omega)]
    split
    · exact hpl
    · split
      · exact Or.inr rfl
      · exact Or.inl rfl
theorem mwst_next {g : mp} {b : Nat} (h : mwv g b) (hm : memp (mwst g b) (mwb (mwst g b) b) = none) : mwv (mwst g b) (mwb (mwst g b) b) := by
  obtain ⟨o1, o2, o3, o4, o5, o6⟩ := mwst_ok h
  refine ⟨o1, ?_, hm, o3, ?_⟩
  · rw [sA_mn o2 (by omega)]; exact o4
  · rw [sA_hash o2 (by omega), sA_hash o2 (by omega)]; exact o6
theorem mwst_end {g : mp} {b p : Nat} (h : mwv g b) (hm : memp (mwst g b) (mwb (mwst g b) b) = some p) : mwf (mv (mwst g b) 68 (4 * mwb (mwst g b) b + p)) := by
  obtain ⟨o1, o2, o3, o4, o5, o6⟩ := mwst_ok h
  have hn := o1.1.1.2.1.2
  have hs := o1.1.1.2.2.1.2
  obtain ⟨p1, p2, p3, p4, p5⟩ := memp_sp o1.1.1 o1.1.2.2.1 (by rw [sA_mn o2 (by omega)]; exact o4) hm
  unfold mv
  refine mwf_mv o1 (by omega) (by omega) (by omega) o3 ?_ (Or.inl rfl) (by omega) (by omega)
  intro _
  rw [sA_wP o2]
  refine ⟨by rw [p4]; exact o4, by rw [p5, ← sA_mn o2 (by omega)]; exact p1, by rw [p4]; exact o6⟩
