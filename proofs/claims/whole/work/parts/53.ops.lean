/-! the map's own doings, as plain functions: chains -/
def mend (g : mp) (key : Nat) : Nat → Nat → Nat
  | 0, b => b
  | n + 1, b => match ff (mlead g key b) (mn g 1) 0 with
    | none => b
    | some p => mend g key n ((moth g b p).getD 0)
/-- the bucket in which a key's chain ends, the cell there -/
def mtg (g : mp) (key : Nat) : Nat := mend g key (maway g key (mat g key)) (mat g key)
def mfin (g : mp) (key : Nat) : Nat := 4 * mtg g key + (memp g (mtg g key)).getD 0
theorem mwalk_chv {g : mp} (hg : mwf g) (key : Nat) : ∀ (n b : Nat), b < mn g 0 → maway g key b = n → n < 1000 → chv g (mwalk g key n b) (4 * mend g key n b + (memp g (mend g key n b)).getD 0) ∧ (∀ r, r ∈ mwalk g key n b → maway g key r.1 ≤ n) ∧ hdb (mwalk g key n b) (4 * mend g key n b + (memp g (mend g key n b)).getD 0) = b ∧ mend g key n b < mn g 0 ∧ (memp g (mend g key n b)).isSome = true ∧ mful g key (mend g key n b) = false := by
  have hk := mwf_ok hg
  intro n
  induction n with
  | zero =>
    intro b hb hd hn
    have h := (maway_path hk hb (key := key) (by omega)).1
    rw [hd] at h
    have h2 : memp g b ≠ none := by
      intro e
      have := h.2
      simp [mful, e] at this
    show chv g [] (4 * b + (memp g b).getD 0) ∧ (∀ r, r ∈ ([] : List (Nat × Nat)) → maway g key r.1 ≤ 0) ∧ (4 * b + (memp g b).getD 0) / 4 = b ∧ b < mn g 0 ∧ (memp g b).isSome = true ∧ mful g key b = false
    cases h3 : memp g b with
    | none => exact absurd h3 h2
    | some p =>
      obtain ⟨p1, p2, p3, p4, p5⟩ := memp_sp hg.1.1 hg.1.2.2.1 hb h3
      show (4 * b + p < 64 ∧ (4 * b + p) / 4 < mn g 0 ∧ (4 * b + p) % 4 < mn g 1 ∧ ck g (4 * b + p) = 0) ∧ _ ∧ (4 * b + p) / 4 = b ∧ _ ∧ true = true ∧ _
      exact ⟨⟨p2, by omega, by omega, p3⟩, fun r hr => absurd hr (by simp), p4, hb, rfl, h.2⟩
  | succ n ih =>
    intro b hb hd hn
    obtain ⟨p, hp⟩ := lead_ex hk hb hd hn
    have hpl := ff_lt hp
    cases hc : moth g b p with
    | none => have := hpl.2.2; unfold mlead at this; rw [hc] at this; cases this
    | some c =>
      have hcn : maway g key c = n := by
        have := hpl.2.2
        unfold mlead at this
        rw [hc] at this
        simp only [decide_eq_true_eq] at this
        omega
      obtain ⟨i1, i2, i3, i4, i5, i6⟩ := ih c (moth_lt hk hc) hcn (by omega)
      have e1 : mwalk g key (n + 1) b = (b, p) :: mwalk g key n c := by
        rw [mwalk, hp]
        simp [hc]
      have e2 : mend g key (n + 1) b = mend g key n c := by
        rw [mend, hp]
        simp [hc]
      rw [e1, e2]
      refine ⟨⟨⟨hb, by omega⟩, ?_, ?_, i1⟩, ?_, rfl, i4, i5, i6⟩
      · rw [i3]; exact hc
      · intro r hr e
        have := i2 r hr
        rw [← e] at this
        show False
        have hd2 : maway g key (b, p).1 = n + 1 := hd
        omega
      · intro r hr
        rcases List.mem_cons.mp hr with rfl | hr
        · exact Nat.le_of_eq hd
        · have := i2 r hr; omega
theorem mchain_sp {g : mp} (hg : mwf g) {key : Nat} {l : List (Nat × Nat)} (h : mchain g key = some l) : chv g l (mfin g key) ∧ 0 < l.length ∧ l.length ≤ 16 ∧ mtg g key < mn g 0 ∧ (memp g (mtg g key)).isSome = true ∧ (∃ p l2, l = (mat g key, p) :: l2) ∧ l.length = maway g key (mat g key) := by
  have hk := mwf_ok hg
  have hn := hk.2.1.2
  unfold mchain at h
  split at h
  · rename_i h1
    have h := (Option.some.inj h).symm
    subst h
    have lm := mat_lt hk key
    obtain ⟨i1, i2, i3, i4, i5, i6⟩ := mwalk_chv hg key _ _ lm rfl h1
    have hp := maway_path hk lm h1
    have hl := mwalk_len hk _ _ lm rfl h1
    have h0 : 0 < maway g key (mat g key) := by
      rcases Nat.eq_zero_or_pos (maway g key (mat g key)) with e | e
      · have := hp.1
        rw [e] at this
        have h3 := this.2
        unfold mful mat at h3
        split at h3 <;> simp at h3
      · exact e
    refine ⟨i1, by omega, by omega, i4, i5, ?_, hl⟩
    cases hw : mwalk g key (maway g key (mat g key)) (mat g key) with
    | nil => rw [hw] at hl; simp at hl; omega
    | cons r l2 =>
      rw [hw] at i3
      obtain ⟨r1, r2⟩ := r
      have i3 : r1 = mat g key := i3
      exact ⟨r2, l2, by rw [← i3]⟩
  · cases h
/-- along the chain: what comes out, and the cell that is free then -/
def mopn (g : mp) (key : Nat) (l : List (Nat × Nat)) : mp := upd (msh g l (mfin g key)).1 17 (if nI l.length ≤ g 17 then g 17 else nI l.length)
def mopf (g : mp) (key : Nat) (l : List (Nat × Nat)) : Nat := (msh g l (mfin g key)).2
theorem gc_upd {g : mp} {k i : Nat} {x : Int32} (h : k < 20) : gc (upd g k x) i = gc g i := by
  unfold gc upd
  rw [if_neg (by omega), if_neg (by omega), if_neg (by omega), if_neg (by omega)]
theorem ck_upd {g : mp} {k i : Nat} {x : Int32} (h : k < 20) : ck (upd g k x) i = ck g i := by rw [ck_gc, gc_upd h]; rfl
theorem cb_upd {g : mp} {k i : Nat} {x : Int32} (h : k < 20) : cb (upd g k x) i = cb g i := by rw [cb_gc, gc_upd h]; rfl
theorem upd_ne {g : mp} {k j : Nat} {x : Int32} (h : j ≠ k) : upd g k x j = g j := by unfold upd; rw [if_neg h]
theorem upd_eq {g : mp} {k : Nat} {x : Int32} : upd g k x k = x := by unfold upd; rw [if_pos rfl]
theorem mn_upd {g : mp} {k j : Nat} {x : Int32} (h : j ≠ k) : mn (upd g k x) j = mn g j := by unfold mn; rw [upd_ne h]
/-- a tally's change -/
theorem mwf_upd {g : mp} {k : Nat} {x : Int32} (h : mwf g) (h1 : 11 ≤ k) (h2 : k ≠ 12) (h3 : k ≠ 18) (h4 : k < 20) : mwf (upd g k x) := by
  obtain ⟨⟨a, b, c, d, f, gg⟩, e⟩ := h
  refine ⟨⟨sA_wA (sA_upd h1) a, ?_, ?_, ?_, ?_, ?_⟩, ?_⟩
  · unfold wB
    rw [mn_upd (by omega), mn_upd (by omega), upd_ne (by omega)]
    exact b
  · intro i hi
    rw [ck_upd h4, gc_upd h4, upd_ne (by omega)]
    exact c i hi
  · intro i hi
    rw [ck_upd h4, sA_wP (sA_upd h1)]
    exact d i hi
  · intro i j hi hj
    rw [ck_upd h4, ck_upd h4]
    exact f i j hi hj
  · unfold wG
    rw [mn_upd (by omega), upd_ne (by omega)]
    refine ⟨gg.1, fun i hi => ?_, fun i j hi hj => ?_⟩
    · rw [ck_upd h4, cb_upd h4, upd_ne (by omega)]
      exact gg.2.1 i hi
    · rw [ck_upd h4, cb_upd h4, ck_upd h4, cb_upd h4]
      exact gg.2.2 i j hi hj
  · intro j hj
    rw [ck_upd h4, mn_upd (by omega)]
    exact e j hj
theorem chv_mem {g : mp} {f : Nat} : ∀ {l : List (Nat × Nat)}, chv g l f → (f < 64 ∧ ck g f = 0) ∧ ∀ r, r ∈ l → r.1 < mn g 0 ∧ r.2 < mn g 1 ∧ ck g (4 * r.1 + r.2) ≠ 0
  | [], h => ⟨⟨h.1, h.2.2.2⟩, fun r hr => by cases hr⟩
  | q :: l, h => ⟨(chv_mem h.2.2.2).1, fun r hr => by
    rcases List.mem_cons.mp hr with rfl | hr
    · exact ⟨h.1.1, h.1.2, (moth_sp h.2.1).1⟩
    · exact (chv_mem h.2.2.2).2 r hr⟩
theorem mopn_ok {g : mp} (hg : mwf g) {key : Nat} {l : List (Nat × Nat)} (h : mchain g key = some l) : mwf (mopn g key l) ∧ sA g (mopn g key l) ∧ ck (mopn g key l) (mopf g key l) = 0 ∧ mopf g key l < 64 ∧ mopf g key l / 4 = mat g key ∧ mopf g key l % 4 < mn g 1 ∧ (∀ x, 64 ≤ x → gc (mopn g key l) x = gc g x) ∧ (∀ k, k < 20 → k ≠ 17 → mopn g key l k = g k) := by
  obtain ⟨c1, c2, c3, c4, c5, ⟨p, l2, c6⟩, c7⟩ := mchain_sp hg h
  obtain ⟨i1, i2, i3, i4, i5, i6, i7, i8⟩ := msh_ok hg l (mfin g key) c1
  have hn := hg.1.1.2.1.2
  have hs := hg.1.1.2.2.1.2
  unfold mopn mopf
  refine ⟨mwf_upd i1 (by omega) (by omega) (by omega) (by omega), fun k hk => ?_, ?_, i5, ?_, i8, ?_, ?_⟩
  · rw [upd_ne (by omega), i2 k (by omega)]
  · rw [ck_upd (by omega)]; exact i4
  · rw [i6, c6]; rfl
  · intro x hx
    rw [gc_upd (by omega)]
    have hm := chv_mem c1
    refine i3 x (by have := hm.1.1; omega) fun r hr => ?_
    have := hm.2 r hr
    omega
  · intro k hk h17
    rw [upd_ne h17, i2 k hk]
theorem mat_or (g : mp) (key : Nat) : mat g key = mhash g 0 key ∨ mat g key = mhash g 1 key := by
  unfold mat
  split
  · exact Or.inr rfl
  · exact Or.inl rfl
theorem mopf_wP {g : mp} (hg : mwf g) {key : Nat} {l : List (Nat × Nat)} (h : mchain g key = some l) : wP (mopn g key l) (mopf g key l) key := by
  obtain ⟨o1, o2, o3, o4, o5, o6, o7, o8⟩ := mopn_ok hg h
  rw [sA_wP o2]
  refine ⟨?_, o6, ?_⟩
  · rw [o5]; exact mat_lt (mwf_ok hg) key
  · rw [o5]; exact mat_or g key
