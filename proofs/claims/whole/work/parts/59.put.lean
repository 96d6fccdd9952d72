/-! lists of entries; all come in; hashes drawn anew, growing; a put: plain functions -/
def il (g : mp) (b : Nat) : Nat → Nat → List Nat
  | 0, _ => []
  | n + 1, p => (if ck g (4 * b + p) = 0 then [] else [4 * b + p]) ++ il g b n (p + 1)
def ol (g : mp) : Nat → Nat → List Nat
  | 0, _ => []
  | n + 1, b => il g b (mn g 1) 0 ++ ol g n (b + 1)
def sl (g : mp) : Nat → Nat → List Nat
  | 0, _ => []
  | n + 1, j => (if ck g (64 + j) = 0 then [] else [64 + j]) ++ sl g n (j + 1)
/-- the cells of all entries, in their order -/
def mcl (g : mp) : List Nat := ol g (mn g 0) 0 ++ sl g (mn g 18) 0
def mes (g : mp) : List en := (mcl g).map (gc g)
def mall1 (k : mp → Bool × mp) (r : Int32 × mp) : Bool × mp := if r.1 = 0 then (false, r.2) else k r.2
def mall : List en → mp → Bool × mp
  | [] => fun g => (true, g)
  | e :: es => fun g => mall1 (mall es) (mcome (cs g 68 e))
theorem mall_n (g : mp) : mall [] g = (true, g) := rfl
theorem mall_c (e : en) (es : List en) (g : mp) : mall (e :: es) g = mall1 (mall es) (mcome (cs g 68 e)) := rfl
def mclr (g : mp) : mp := cs (mempt g) 68 e0
def mdh1 (g : mp) (k : Nat) (n a : Int32) : mp := upd (upd g 11 (mseed (g 11))) (7 + k) (a + mpick (mseed (g 11)) n)
def mdh (g : mp) : mp := mdh1 (mdh1 (mdh1 (mdh1 g 0 1008 1) 1 1009 0) 2 1008 1) 3 1009 0
def mrh1 (g0 : mp) (k : mp → Bool × mp) (r : Bool × mp) : Bool × mp := match r with
  | (true, h) => (true, upd h 14 (h 14 + 1))
  | (false, h) => k (mback h g0)
def mrh (es : List en) (g0 : mp) : Nat → mp → Bool × mp
  | 0 => fun g => (false, g)
  | n + 1 => fun g => mrh1 g0 (mrh es g0 n) (mall es (mclr (mdh g)))
theorem mrh_0 (es : List en) (g0 g : mp) : mrh es g0 0 g = (false, g) := rfl
theorem mrh_s (es : List en) (g0 g : mp) (n : Nat) : mrh es g0 (n + 1) g = mrh1 g0 (mrh es g0 n) (mall es (mclr (mdh g))) := rfl
def mgr1 (g0 : mp) (t : Nat) (k : mp → Bool × mp) (r : Bool × mp) : Bool × mp := match r with
  | (true, h) => (true, upd h 15 (h 15 + nI t))
  | (false, h) => k (mback h g0)
def mgr (es : List en) (g0 : mp) : Nat → Nat → Nat → mp → Bool × mp
  | 0 => fun _ _ g => (false, g)
  | n + 1 => fun nb t g => if 8 < nb then (false, g) else mgr1 g0 t (mgr es g0 n (nb * 2) (t + 1)) (mall es (mclr (upd g 0 (nI (nb * 2)))))
theorem mgr_0 (es : List en) (g0 g : mp) (nb t : Nat) : mgr es g0 0 nb t g = (false, g) := rfl
theorem mgr_s (es : List en) (g0 g : mp) (n nb t : Nat) : mgr es g0 (n + 1) nb t g = if 8 < nb then (false, g) else mgr1 g0 t (mgr es g0 n (nb * 2) (t + 1)) (mall es (mclr (upd g 0 (nI (nb * 2))))) := rfl
def mpt3 (a : Int32) (r : Bool × mp) : Int32 × mp := match r with
  | (true, h) => (a, h)
  | (false, h) => (-1, upd (cs h 68 e0) 13 (h 13 + 1))
/-- the entries, then the one in hand -/
def mesh (g : mp) : List en := mes g ++ [gc g 68]
def mptc (g : mp) (o : Option (List (Nat × Nat))) : Int32 × mp := match o with
  | some l => (2, mv (mopn g (ck g 68 - 1) l) 68 (mopf g (ck g 68 - 1) l))
  | none => mpt3 4 (mrh (mesh g) g (mn g 4) g)
def mpt2 (g : mp) : Int32 × mp := if g 6 = 3 then mptc g (mchain g (ck g 68 - 1)) else if g 6 = 1 then mpt3 4 (mrh (mesh g) g (mn g 4) g) else if g 6 = 2 then mpt3 5 (mgr (mesh g) g 5 (mn g 0) 1 g) else mpt3 0 (false, g)
def mpt1 (r : Int32 × mp) : Int32 × mp := if r.1 = 0 then mpt2 r.2 else r
def mlo1 (g : mp) (x : Int32) (b : Nat) : Option Nat := (ff (fun p => decide (g (mcell b p) = x)) (mn g 1) 0).map (fun p => 4 * b + p)
def mlo2 (g : mp) (x : Int32) : Option Nat := (ff (fun j => decide (g (msc j) = x)) (mn g 18) 0).map (fun j => 64 + j)
/-- the cell in which the entry of a key is -/
def mloc (g : mp) (q : Nat) : Option Nat := ((mlo1 g (nI (q + 1)) (mhash g 0 q)).or (mlo1 g (nI (q + 1)) (mhash g 1 q))).or (mlo2 g (nI (q + 1)))
def mputf (g : mp) (q : Nat) (v : Int32) (o : Option Nat) : Int32 × mp := match o with
  | some i => (0, upd g (21 + 4 * i) v)
  | none => mpt1 (mcome (cs g 68 (nI (q + 1), v, g 12, 0)))
def mput (g : mp) (q : Nat) (v : Int32) : Int32 × mp := mputf (upd g 12 (g 12 + 1)) q v (mloc (upd g 12 (g 12 + 1)) q)
theorem mlies_loc (g : mp) (q : Nat) : mlies g q = (mloc g q).map (fun i => 20 + 4 * i) := by
  unfold mlies mloc mfind mfinds mlo1 mlo2
  cases ff (fun p => decide (g (mcell (mhash g 0 q) p) = nI (q + 1))) (mn g 1) 0 with
  | some p => simp [mcell_ci]
  | none =>
    cases ff (fun p => decide (g (mcell (mhash g 1 q) p) = nI (q + 1))) (mn g 1) 0 with
    | some p => simp [mcell_ci]
    | none =>
      cases ff (fun j => decide (g (msc j) = nI (q + 1))) (mn g 18) 0 with
      | some j => simp [msc_ci]
      | none => rfl
/-! what they keep -/
theorem mwf_hand {g : mp} {e : en} (h : mwf g) (h0 : e.1.toNatClampNeg ≠ 0) (h1 : wc1 (mn g 12) e) (h2 : ∀ i, i < 68 → ck g i ≠ 0 → ck g i ≠ e.1.toNatClampNeg ∧ cb g i ≠ e.2.2.1.toNatClampNeg) : mwf (cs g 68 e) := by
  obtain ⟨a, b, d, c⟩ := mw0_iff.mp h.1
  refine ⟨mw0_iff.mpr ⟨sA_wA sA_cs a, ?_, ?_, ?_⟩, wE_cs h.2 (by omega)⟩
  · unfold wB
    rw [mn_cs (by omega), mn_cs (by omega), cs_lo (by omega)]
    exact b
  · intro i hi
    rw [ck_cs, if_neg (by omega), sA_wP sA_cs]
    exact d i hi
  · obtain ⟨c1, c2, c3, c4⟩ := c
    refine ⟨?_, ?_, ?_, ?_⟩
    · rw [mn_cs (by omega), cs_lo (by omega)]; exact c1
    · intro i hi
      rw [mn_cs (by omega), gc_cs]
      split
      · exact h1
      · exact c2 i hi
    · intro i j hi hj hij
      rw [ck_cs, ck_cs]
      have q1 := c3 i j hi hj hij
      by_cases x : i = 68
      · rw [if_pos x, if_neg (by omega)]
        intro _ e1
        have := h2 j (by omega)
        rw [← e1] at this
        exact (this h0).1 rfl
      · rw [if_neg x]
        by_cases y : j = 68
        · rw [if_pos y]
          intro q
          exact (h2 i (by omega) q).1
        · rw [if_neg y]; exact q1
    · intro i j hi hj hij
      rw [ck_cs, ck_cs, cb_cs, cb_cs]
      have q1 := c4 i j hi hj hij
      by_cases x : i = 68
      · rw [if_pos x, if_pos x, if_neg (by omega), if_neg (by omega)]
        intro _ q e1
        exact (h2 j (by omega) q).2 e1.symm
      · rw [if_neg x, if_neg x]
        by_cases y : j = 68
        · rw [if_pos y, if_pos y]
          intro q _
          exact (h2 i (by omega) q).2
        · rw [if_neg y, if_neg y]; exact q1
theorem gc_mclr {g : mp} {i : Nat} (h : i < 69) : gc (mclr g) i = e0 := by
  unfold mclr
  rw [gc_cs]
  split
  · rfl
  · unfold mempt
    rw [gc_upd (by omega)]
    unfold gc mzero e0
    rw [if_pos (by omega), if_pos (by omega), if_pos (by omega), if_pos (by omega)]
theorem ck_mclr {g : mp} {i : Nat} (h : i < 69) : ck (mclr g) i = 0 := by rw [ck_gc, gc_mclr h]; rfl
theorem mclr_k {g : mp} {k : Nat} (h : k < 20) (h2 : k ≠ 18) : mclr g k = g k := by
  unfold mclr mempt
  rw [cs_lo h, upd_ne h2]
  unfold mzero
  rw [if_neg (by omega)]
theorem mclr_18 {g : mp} : mclr g 18 = 0 := by
  unfold mclr mempt
  rw [cs_lo (by omega), upd_eq]
theorem mwf_mclr {g : mp} (a : wA g) (b : g 12 = nI (mn g 12) ∧ mn g 12 < 2 ^ 30) : mwf (mclr g) := by
  have m12 : mn (mclr g) 12 = mn g 12 := by unfold mn; rw [mclr_k (by omega) (by omega)]
  have m18 : mn (mclr g) 18 = 0 := by unfold mn; rw [mclr_18]; rfl
  have s : sA g (mclr g) := fun k hk => mclr_k (by omega) (by omega)
  refine ⟨mw0_iff.mpr ⟨sA_wA s a, ?_, ?_, ?_⟩, ?_⟩
  · unfold wB
    rw [m18, mclr_18]
    exact ⟨rfl, by omega⟩
  · intro i hi q
    exact absurd (ck_mclr (by omega)) q
  · refine ⟨?_, ?_, ?_, ?_⟩
    · rw [m12, mclr_k (by omega) (by omega)]; exact b
    · intro i hi
      rw [gc_mclr hi]; exact wc1_e0
    · intro i j hi hj hij q
      exact absurd (ck_mclr hi) q
    · intro i j hi hj hij q
      exact absurd (ck_mclr hi) q
  · intro j hj
    rw [m18, ck_mclr (by omega)]
    omega
/-- a list of entries that may come -/
def adm (g : mp) (es : List en) : Prop := (∀ e, e ∈ es → e.1.toNatClampNeg ≠ 0 ∧ wc1 (mn g 12) e ∧ ∀ i, i < 68 → ck g i ≠ 0 → ck g i ≠ e.1.toNatClampNeg ∧ cb g i ≠ e.2.2.1.toNatClampNeg) ∧ es.Pairwise (fun e f => e.1.toNatClampNeg ≠ f.1.toNatClampNeg ∧ e.2.2.1.toNatClampNeg ≠ f.2.2.1.toNatClampNeg)
theorem adm_hand {g : mp} {e : en} {es : List en} (h : mwf g) (ha : adm g (e :: es)) : mwf (cs g 68 e) := by
  have := ha.1 e (List.mem_cons_self ..)
  exact mwf_hand h this.1 this.2.1 this.2.2
theorem adm_next {g : mp} {e : en} {es : List en} {r : Int32 × mp} (ha : adm g (e :: es)) (hc : mcs (cs g 68 e) r) (h0 : r.1 ≠ 0) : adm r.2 es := by
  obtain ⟨c1, c2, c3, c4, c5, c6⟩ := hc
  have m12 : mn r.2 12 = mn g 12 := by
    unfold mn
    rw [c2 12 (by omega) (by omega) (by omega) (by omega), cs_lo (by omega)]
  have hp := List.pairwise_cons.mp ha.2
  refine ⟨fun f hf => ?_, hp.2⟩
  have q := ha.1 f (List.mem_cons_of_mem _ hf)
  refine ⟨q.1, by rw [m12]; exact q.2.1, fun i hi hk => ?_⟩
  obtain ⟨j, j1, j2, j3⟩ := c3 i (by omega) hk
  rw [← j2, ← j3, ck_cs, cb_cs]
  by_cases x : j = 68
  · rw [if_pos x, if_pos x]
    exact hp.1 f hf
  · rw [if_neg x, if_neg x]
    refine q.2.2 j (by omega) ?_
    rw [← j2, ck_cs, if_neg x] at hk
    exact hk
theorem mall_ok : ∀ (es : List en) (g : mp), mwf g → adm g es → sT g (mall es g).2 ∧ (ck g 68 = 0 → (mall es g).1 = true → mwf (mall es g).2 ∧ ck (mall es g).2 68 = 0) := by
  intro es
  induction es with
  | nil => intro g h _; exact ⟨sT_refl, fun h0 _ => ⟨h, h0⟩⟩
  | cons e es ih =>
    intro g h ha
    have h1 := adm_hand h ha
    have e68 : ck (cs g 68 e) 68 ≠ 0 := by
      rw [ck_cs, if_pos rfl]
      exact (ha.1 e (List.mem_cons_self ..)).1
    have hc := mcome_ok h1 e68
    rw [mall_c]
    unfold mall1
    split
    · exact ⟨sT_trans sT_cs hc.2.1, fun _ q => by cases q⟩
    · rename_i h0
      obtain ⟨i1, i2⟩ := ih (mcome (cs g 68 e)).2 hc.1 (adm_next ha hc h0)
      exact ⟨sT_trans (sT_trans sT_cs hc.2.1) i1, fun _ q => i2 (hc.2.2.2.2.1 h0) q⟩
