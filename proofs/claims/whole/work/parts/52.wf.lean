/-! what holds of a map between calls -/
def ck (g : mp) (i : Nat) : Nat := mn g (20 + 4 * i)
def cb (g : mp) (i : Nat) : Nat := mn g (22 + 4 * i)
def wA (g : mp) : Prop := (∀ k, k < 11 → g k = nI (mn g k)) ∧ (1 ≤ mn g 0 ∧ mn g 0 ≤ 16) ∧ (1 ≤ mn g 1 ∧ mn g 1 ≤ 4) ∧ mn g 2 ≤ 4 ∧ mn g 3 ≤ 16 ∧ mn g 4 ≤ 4 ∧ mn g 5 ≤ 2 ∧ mn g 6 ≤ 3 ∧ (∀ k, 7 ≤ k → k < 11 → mn g k ≤ 1008)
def wB (g : mp) : Prop := g 18 = nI (mn g 18) ∧ mn g 18 ≤ mn g 2
def wC (g : mp) : Prop := ∀ i, i < 69 → g (20 + 4 * i) = nI (ck g i) ∧ ck g i ≤ 1000 ∧ (ck g i = 0 → gc g i = e0)
/-- a cell is one of a key's -/
def wP (g : mp) (i q : Nat) : Prop := i / 4 < mn g 0 ∧ i % 4 < mn g 1 ∧ (i / 4 = mhash g 0 q ∨ i / 4 = mhash g 1 q)
def wD (g : mp) : Prop := ∀ i, i < 64 → ck g i ≠ 0 → wP g i (ck g i - 1)
def wE (g : mp) : Prop := ∀ j, j < 4 → (ck g (64 + j) ≠ 0 ↔ j < mn g 18)
def wF (g : mp) : Prop := ∀ i j, i < 69 → j < 69 → i ≠ j → ck g i ≠ 0 → ck g i ≠ ck g j
def wG (g : mp) : Prop := (g 12 = nI (mn g 12) ∧ mn g 12 < 2 ^ 30) ∧ (∀ i, i < 69 → ck g i ≠ 0 → g (22 + 4 * i) = nI (cb g i) ∧ 1 ≤ cb g i ∧ cb g i ≤ mn g 12) ∧ ∀ i j, i < 69 → j < 69 → i ≠ j → ck g i ≠ 0 → ck g j ≠ 0 → cb g i ≠ cb g j
/-- all but the stash's order -/
def mw0 (g : mp) : Prop := wA g ∧ wB g ∧ wC g ∧ wD g ∧ wF g ∧ wG g
def mwf (g : mp) : Prop := mw0 g ∧ wE g
theorem mcell_ci (b p : Nat) : mcell b p = 20 + 4 * (4 * b + p) := by unfold mcell; omega
theorem msc_ci (j : Nat) : msc j = 20 + 4 * (64 + j) := by unfold msc; omega
theorem mwf_ok {g : mp} (h : mwf g) : mok g := by
  obtain ⟨⟨⟨a1, a2, a3, a4, a5, a6, a7, a8, a9⟩, b, c, d, f, gg⟩, e⟩ := h
  refine ⟨a1, a2, a3, a4, a5, a6, a7, a8, a9, b, ?_, ?_⟩
  · intro x p hx hp
    have := c (4 * x + p) (by omega)
    exact ⟨_, this.2.1, by rw [mcell_ci]; exact this.1⟩
  · intro j hj
    have := c (64 + j) (by omega)
    refine ⟨_, this.2.1, by rw [msc_ci]; exact this.1, ?_⟩
    rw [← e j hj]
    omega
/-- the settings alone -/
def sA (g h : mp) : Prop := ∀ k, k < 11 → h k = g k
theorem sA_mn {g h : mp} (s : sA g h) {k : Nat} (hk : k < 11) : mn h k = mn g k := by unfold mn; rw [s k hk]
theorem sA_wA {g h : mp} (s : sA g h) (a : wA g) : wA h := by
  obtain ⟨a1, a2, a3, a4, a5, a6, a7, a8, a9⟩ := a
  refine ⟨fun k hk => ?_, ?_, ?_, ?_, ?_, ?_, ?_, ?_, fun k h1 hk => ?_⟩
  · rw [s k hk, sA_mn s hk]; exact a1 k hk
  all_goals first | (rw [sA_mn s (by omega)]; assumption) | skip
  rw [sA_mn s hk]; exact a9 k h1 hk
theorem sA_hash {g h : mp} (s : sA g h) {w q : Nat} (hw : w < 2) : mhash h w q = mhash g w q := by
  unfold mhash
  rw [sA_mn s (by omega), sA_mn s (by omega), sA_mn s (by omega)]
theorem sA_wP {g h : mp} (s : sA g h) {i q : Nat} : wP h i q ↔ wP g i q := by
  unfold wP
  rw [sA_hash s (by omega), sA_hash s (by omega), sA_mn s (by omega), sA_mn s (by omega)]
theorem sA_refl {g : mp} : sA g g := fun _ _ => rfl
theorem sA_trans {g h k : mp} (a : sA g h) (b : sA h k) : sA g k := fun j hj => (b j hj).trans (a j hj)
theorem sA_cs {g : mp} {i : Nat} {e : en} : sA g (cs g i e) := fun _ hk => cs_lo (by omega)
theorem sA_upd {g : mp} {k : Nat} {x : Int32} (h : 11 ≤ k) : sA g (upd g k x) := fun j hj => by
  unfold upd
  rw [if_neg (by omega)]
theorem ck_gc {g : mp} {i : Nat} : ck g i = (gc g i).1.toNatClampNeg := rfl
theorem cb_gc {g : mp} {i : Nat} : cb g i = (gc g i).2.2.1.toNatClampNeg := rfl
theorem ck_cs (g : mp) (i : Nat) (e : en) (j : Nat) : ck (cs g i e) j = if j = i then e.1.toNatClampNeg else ck g j := by
  rw [ck_gc, gc_cs]
  split <;> rfl
theorem cb_cs (g : mp) (i : Nat) (e : en) (j : Nat) : cb (cs g i e) j = if j = i then e.2.2.1.toNatClampNeg else cb g j := by
  rw [cb_gc, gc_cs]
  split <;> rfl
/-- cells by cells: what wC and wG say of one -/
def wc1 (P : Nat) (e : en) : Prop := e.1 = nI e.1.toNatClampNeg ∧ e.1.toNatClampNeg ≤ 1000 ∧ (e.1.toNatClampNeg = 0 → e = e0) ∧ (e.1.toNatClampNeg ≠ 0 → e.2.2.1 = nI e.2.2.1.toNatClampNeg ∧ 1 ≤ e.2.2.1.toNatClampNeg ∧ e.2.2.1.toNatClampNeg ≤ P)
theorem wc1_e0 {P : Nat} : wc1 P e0 := ⟨rfl, Nat.zero_le _, fun _ => rfl, fun h => absurd rfl h⟩
theorem wc1_bump {P : Nat} {e : en} (h : wc1 P e) (hn : e.1.toNatClampNeg ≠ 0) : wc1 P (bump e) := ⟨h.1, h.2.1, fun q => absurd q hn, h.2.2.2⟩
def wCG (g : mp) : Prop := (g 12 = nI (mn g 12) ∧ mn g 12 < 2 ^ 30) ∧ (∀ i, i < 69 → wc1 (mn g 12) (gc g i)) ∧ (∀ i j, i < 69 → j < 69 → i ≠ j → ck g i ≠ 0 → ck g i ≠ ck g j) ∧ ∀ i j, i < 69 → j < 69 → i ≠ j → ck g i ≠ 0 → ck g j ≠ 0 → cb g i ≠ cb g j
theorem wCG_iff {g : mp} : wCG g ↔ wC g ∧ wF g ∧ wG g := by
  constructor
  · rintro ⟨a, b, c, d⟩
    exact ⟨fun i hi => ⟨(b i hi).1, (b i hi).2.1, (b i hi).2.2.1⟩, c, a, fun i hi hk => (b i hi).2.2.2 hk, d⟩
  · rintro ⟨a, b, c, d, e⟩
    exact ⟨c, fun i hi => ⟨(a i hi).1, (a i hi).2.1, (a i hi).2.2, fun hk => d i hi hk⟩, b, e⟩
theorem mw0_iff {g : mp} : mw0 g ↔ wA g ∧ wB g ∧ wD g ∧ wCG g := by
  unfold mw0
  rw [wCG_iff]
  constructor
  · rintro ⟨a, b, c, d, e, f⟩; exact ⟨a, b, d, c, e, f⟩
  · rintro ⟨a, b, d, c, e, f⟩; exact ⟨a, b, c, d, e, f⟩
/-- one goes from a cell to an empty one -/
theorem wCG_mv {g : mp} {i j : Nat} {e : en} (h : wCG g) (hi : i < 69) (hj : j < 69) (hij : i ≠ j) (h0 : ck g i ≠ 0) (he : e = gc g i ∨ e = bump (gc g i)) : wCG (cs (cs g j e) i e0) := by
  obtain ⟨a, b, c, d⟩ := h
  have e1 : e.1.toNatClampNeg = ck g i := by rcases he with rfl | rfl <;> rfl
  have e2 : e.2.2.1.toNatClampNeg = cb g i := by rcases he with rfl | rfl <;> rfl
  have e3 : wc1 (mn g 12) e := by
    rcases he with rfl | rfl
    · exact b i hi
    · exact wc1_bump (b i hi) h0
  have m12 : mn (cs (cs g j e) i e0) 12 = mn g 12 := by rw [mn_cs (by omega), mn_cs (by omega)]
  have z : (e0 : en).1.toNatClampNeg = 0 := rfl
  refine ⟨?_, ?_, ?_, ?_⟩
  · rw [m12, cs_lo (by omega), cs_lo (by omega)]; exact a
  · intro k hk
    rw [m12, gc_cs, gc_cs]
    split
    · exact wc1_e0
    · split
      · exact e3
      · exact b k hk
  · intro x y hx hy hxy
    rw [ck_cs, ck_cs, ck_cs, ck_cs, e1, z]
    have c1 := c x y hx hy hxy
    have c2 := c i y hi hy
    have c3 := c x i hx hi
    split
    · intro q; exact absurd rfl q
    · split
      · intro _
        split
        · omega
        · split
          · omega
          · exact c2 (by omega) h0
      · intro q
        split
        · exact q
        · split
          · exact c3 (by omega) q
          · exact c1 q
  · intro x y hx hy hxy
    rw [ck_cs, ck_cs, ck_cs, ck_cs, cb_cs, cb_cs, cb_cs, cb_cs, e1, e2, z]
    have c1 := d x y hx hy hxy
    have c2 := d i y hi hy
    have c3 := d x i hx hi
    by_cases x1 : x = i
    · rw [if_pos x1]; intro q; exact absurd rfl q
    · rw [if_neg x1, if_neg x1]
      by_cases y1 : y = i
      · rw [if_pos y1]; intro _ q; exact absurd rfl q
      · rw [if_neg y1, if_neg y1]
        by_cases x2 : x = j
        · rw [if_pos x2, if_pos x2, if_neg (by omega), if_neg (by omega)]
          intro _ q
          exact c2 (by omega) h0 q
        · rw [if_neg x2, if_neg x2]
          by_cases y2 : y = j
          · rw [if_pos y2, if_pos y2]
            intro q _
            exact c3 (by omega) q h0
          · rw [if_neg y2, if_neg y2]
            exact c1
theorem wD_mv {g : mp} {i j : Nat} {e : en} (h : wD g) (hij : i ≠ j) (hp : j < 64 → wP g j (ck g i - 1)) (he : e.1.toNatClampNeg = ck g i) : wD (cs (cs g j e) i e0) := by
  intro k hk
  rw [ck_cs, ck_cs, he, show (e0 : en).1.toNatClampNeg = 0 from rfl, sA_wP (sA_trans sA_cs sA_cs)]
  by_cases x1 : k = i
  · rw [if_pos x1]; intro q; exact absurd rfl q
  · rw [if_neg x1]
    by_cases x2 : k = j
    · rw [if_pos x2]; intro _; subst x2; exact hp hk
    · rw [if_neg x2]; exact h k hk
theorem mw0_mv {g : mp} {i j : Nat} {e : en} (h : mw0 g) (hi : i < 69) (hj : j < 69) (hij : i ≠ j) (h0 : ck g i ≠ 0) (hp : j < 64 → wP g j (ck g i - 1)) (he : e = gc g i ∨ e = bump (gc g i)) : mw0 (cs (cs g j e) i e0) := by
  rw [mw0_iff] at h ⊢
  obtain ⟨a, b, d, c⟩ := h
  refine ⟨sA_wA (sA_trans sA_cs sA_cs) a, ?_, ?_, wCG_mv c hi hj hij h0 he⟩
  · unfold wB
    rw [mn_cs (by omega), mn_cs (by omega), mn_cs (by omega), mn_cs (by omega), cs_lo (by omega), cs_lo (by omega)]
    exact b
  · exact wD_mv d hij hp (by rcases he with rfl | rfl <;> rfl)
theorem wE_cs {g : mp} {i : Nat} {e : en} (h : wE g) (hi : i < 64 ∨ 68 ≤ i) : wE (cs g i e) := by
  intro j hj
  rw [ck_cs, if_neg (by omega), mn_cs (by omega)]
  exact h j hj
theorem mwf_mv {g : mp} {i j : Nat} {e : en} (h : mwf g) (hi : i < 69) (hj : j < 69) (hij : i ≠ j) (h0 : ck g i ≠ 0) (hp : j < 64 → wP g j (ck g i - 1)) (he : e = gc g i ∨ e = bump (gc g i)) (h2 : i < 64 ∨ 68 ≤ i) (h3 : j < 64 ∨ 68 ≤ j) : mwf (cs (cs g j e) i e0) := ⟨mw0_mv h.1 hi hj hij h0 hp he, wE_cs (wE_cs h.2 h3) h2⟩
/-- a place of a key that is found empty -/
def mfr (g : mp) (q : Nat) : Option Nat := match memp g (mhash g 0 q) with
  | some p => some (4 * mhash g 0 q + p)
  | none => (memp g (mhash g 1 q)).map (fun p => 4 * mhash g 1 q + p)
theorem mfree_fr (g : mp) (q : Nat) : mfree g q = (mfr g q).map (fun i => 20 + 4 * i) := by
  unfold mfree mfr
  cases memp g (mhash g 0 q) with
  | some p => simp only [Option.map_some, mcell_ci]
  | none =>
    cases memp g (mhash g 1 q) with
    | some p => simp only [Option.map_some, mcell_ci]
    | none => rfl
theorem wA_hash {g : mp} (a : wA g) (w q : Nat) : mhash g w q < mn g 0 := Nat.mod_lt _ a.2.1.1
theorem memp_sp {g : mp} (a : wA g) (c : wC g) {b p : Nat} (hb : b < mn g 0) (h : memp g b = some p) : p < mn g 1 ∧ 4 * b + p < 64 ∧ ck g (4 * b + p) = 0 ∧ (4 * b + p) / 4 = b ∧ (4 * b + p) % 4 = p := by
  have h1 := ff_lt h
  have := a.2.1.2
  have := a.2.2.1.2
  have hp : p < mn g 1 := by omega
  refine ⟨hp, by omega, ?_, by omega, by omega⟩
  have h2 : g (mcell b p) = 0 := by simpa using h1.2.2
  rw [mcell_ci] at h2
  show (g (20 + 4 * (4 * b + p))).toNatClampNeg = 0
  rw [h2]
  rfl
theorem mfr_sp {g : mp} (a : wA g) (c : wC g) {q i : Nat} (h : mfr g q = some i) : i < 64 ∧ ck g i = 0 ∧ wP g i q := by
  unfold mfr at h
  cases h0 : memp g (mhash g 0 q) with
  | some p =>
    rw [h0] at h
    have h := Option.some.inj h
    obtain ⟨h1, h2, h3, h4, h5⟩ := memp_sp a c (wA_hash a 0 q) h0
    subst h
    exact ⟨h2, h3, by rw [h4]; exact wA_hash a 0 q, by rw [h5]; exact h1, Or.inl h4⟩
  | none =>
    rw [h0] at h
    cases h6 : memp g (mhash g 1 q) with
    | some p =>
      rw [h6] at h
      have h := Option.some.inj h
      obtain ⟨h1, h2, h3, h4, h5⟩ := memp_sp a c (wA_hash a 1 q) h6
      subst h
      exact ⟨h2, h3, by rw [h4]; exact wA_hash a 1 q, by rw [h5]; exact h1, Or.inr h4⟩
    | none => rw [h6] at h; cases h
/-! along a chain -/
def msh (g : mp) : List (Nat × Nat) → Nat → mp × Nat
  | [], f => (g, f)
  | q :: l, f => (mvb (msh g l f).1 (4 * q.1 + q.2) (msh g l f).2, 4 * q.1 + q.2)
def hdb : List (Nat × Nat) → Nat → Nat
  | [], f => f / 4
  | r :: _, _ => r.1
/-- a chain that ends in an empty cell f -/
def chv (g : mp) : List (Nat × Nat) → Nat → Prop
  | [], f => f < 64 ∧ f / 4 < mn g 0 ∧ f % 4 < mn g 1 ∧ ck g f = 0
  | q :: l, f => (q.1 < mn g 0 ∧ q.2 < mn g 1) ∧ moth g q.1 q.2 = some (hdb l f) ∧ (∀ r, r ∈ l → q.1 ≠ r.1) ∧ chv g l f
theorem moth_sp {g : mp} {b p c : Nat} (h : moth g b p = some c) : ck g (4 * b + p) ≠ 0 ∧ (c = mhash g 0 (ck g (4 * b + p) - 1) ∨ c = mhash g 1 (ck g (4 * b + p) - 1)) := by
  unfold moth at h
  rw [show mn g (mcell b p) = ck g (4 * b + p) from by rw [mcell_ci]; rfl] at h
  split at h
  · cases h
  · rename_i h0
    refine ⟨h0, ?_⟩
    split at h
    · cases h
    · split at h
      · cases h; exact Or.inr rfl
      · cases h; exact Or.inl rfl
theorem msh_ok {g : mp} (hg : mwf g) : ∀ (l : List (Nat × Nat)) (f : Nat), chv g l f → mwf (msh g l f).1 ∧ (∀ k, k < 20 → (msh g l f).1 k = g k) ∧ (∀ x, x ≠ f → (∀ r, r ∈ l → x ≠ 4 * r.1 + r.2) → gc (msh g l f).1 x = gc g x) ∧ ck (msh g l f).1 (msh g l f).2 = 0 ∧ (msh g l f).2 < 64 ∧ (msh g l f).2 / 4 = hdb l f ∧ (msh g l f).2 / 4 < mn g 0 ∧ (msh g l f).2 % 4 < mn g 1 := by
  have a := hg.1.1
  have hn := a.2.1.2
  have hs := a.2.2.1.2
  intro l
  induction l with
  | nil =>
    intro f h
    exact ⟨hg, fun _ _ => rfl, fun _ _ _ => rfl, h.2.2.2, h.1, rfl, h.2.1, h.2.2.1⟩
  | cons q l ih =>
    intro f h
    obtain ⟨⟨hq1, hq2⟩, hm, hd, hv⟩ := h
    obtain ⟨i1, i2, i3, i4, i5, i6, i7, i8⟩ := ih f hv
    have hx : gc (msh g l f).1 (4 * q.1 + q.2) = gc g (4 * q.1 + q.2) := by
      refine i3 _ ?_ ?_
      · intro e
        have h1 := moth_sp hm
        cases l with
        | nil => exact h1.1 (by rw [e]; exact hv.2.2.2)
        | cons r l =>
          have : ∀ (l : List (Nat × Nat)), chv g l f → ck g f = 0 := by
            intro l
            induction l with
            | nil => intro h; exact h.2.2.2
            | cons r l ih => intro h; exact ih h.2.2.2
          exact h1.1 (by rw [e]; exact this _ hv)
      · intro r hr e
        have := hd r hr
        have hr2 : ∀ (l : List (Nat × Nat)), chv g l f → ∀ r, r ∈ l → r.2 < mn g 1 := by
          intro l
          induction l with
          | nil => intro _ r hr; cases hr
          | cons s l ih =>
            intro h r hr
            rcases List.mem_cons.mp hr with rfl | hr
            · exact h.1.2
            · exact ih h.2.2.2 r hr
        have := hr2 _ hv r hr
        omega
    have hk : ck (msh g l f).1 (4 * q.1 + q.2) = ck g (4 * q.1 + q.2) := by rw [ck_gc, hx]; rfl
    have s : sA g (msh g l f).1 := fun k hk => i2 k (by omega)
    obtain ⟨m1, m2⟩ := moth_sp hm
    have hne : 4 * q.1 + q.2 ≠ (msh g l f).2 := by
      intro e
      rw [← e, hk] at i4
      exact m1 i4
    show mwf (mvb (msh g l f).1 (4 * q.1 + q.2) (msh g l f).2) ∧ (∀ k, k < 20 → mvb (msh g l f).1 (4 * q.1 + q.2) (msh g l f).2 k = g k) ∧ (∀ x, x ≠ f → (∀ r, r ∈ q :: l → x ≠ 4 * r.1 + r.2) → gc (mvb (msh g l f).1 (4 * q.1 + q.2) (msh g l f).2) x = gc g x) ∧ ck (mvb (msh g l f).1 (4 * q.1 + q.2) (msh g l f).2) (4 * q.1 + q.2) = 0 ∧ 4 * q.1 + q.2 < 64 ∧ (4 * q.1 + q.2) / 4 = q.1 ∧ (4 * q.1 + q.2) / 4 < mn g 0 ∧ (4 * q.1 + q.2) % 4 < mn g 1
    unfold mvb
    refine ⟨?_, ?_, ?_, ?_, by omega, by omega, by omega, by omega⟩
    · refine mwf_mv i1 (by omega) (by omega) hne (by rw [hk]; exact m1) ?_ (Or.inr rfl) (by omega) (by omega)
      intro _
      rw [sA_wP s, hk]
      refine ⟨i7, i8, ?_⟩
      rw [i6]
      exact m2
    · intro k hk
      rw [cs_lo hk, cs_lo hk, i2 k hk]
    · intro x hxf hxr
      rw [gc_cs, if_neg (hxr q (List.mem_cons_self ..)), gc_cs, if_neg ?_]
      · exact i3 x hxf fun r hr => hxr r (List.mem_cons_of_mem _ hr)
      · intro e
        cases l with
        | nil => exact hxf e
        | cons r l => exact hxr r (by simp) e
    · rw [ck_cs, if_pos rfl]
      rfl
