/-! the list of entries: what is in it; what a put keeps -/
theorem il_mem {g : mp} {b x : Nat} : ∀ {n p : Nat}, x ∈ il g b n p ↔ ∃ j, p ≤ j ∧ j < p + n ∧ x = 4 * b + j ∧ ck g x ≠ 0 := by
  intro n
  induction n with
  | zero =>
    intro p
    constructor
    · intro h; cases h
    · rintro ⟨j, h1, h2, -⟩; omega
  | succ n ih =>
    intro p
    rw [il, List.mem_append, ih]
    constructor
    · rintro (h | ⟨j, h1, h2, h3, h4⟩)
      · split at h
        · cases h
        · rename_i h0
          rw [List.mem_singleton] at h
          subst h
          exact ⟨p, by omega, by omega, rfl, h0⟩
      · exact ⟨j, by omega, by omega, h3, h4⟩
    · rintro ⟨j, h1, h2, h3, h4⟩
      by_cases e : j = p
      · subst e
        left
        subst h3
        rw [if_neg h4]
        exact List.mem_singleton.mpr rfl
      · exact Or.inr ⟨j, by omega, by omega, h3, h4⟩
theorem il_pw {g : mp} {b : Nat} : ∀ {n p : Nat}, (il g b n p).Pairwise (· < ·) := by
  intro n
  induction n with
  | zero => intro p; exact List.Pairwise.nil
  | succ n ih =>
    intro p
    rw [il, List.pairwise_append]
    refine ⟨?_, ih, ?_⟩
    · split
      · exact List.Pairwise.nil
      · exact List.pairwise_singleton _ _
    · intro x hx y hy
      obtain ⟨j, h1, h2, h3, h4⟩ := il_mem.mp hy
      split at hx
      · cases hx
      · rw [List.mem_singleton] at hx
        omega
theorem ol_mem {g : mp} {x : Nat} : ∀ {n b : Nat}, x ∈ ol g n b ↔ ∃ c p, b ≤ c ∧ c < b + n ∧ p < mn g 1 ∧ x = 4 * c + p ∧ ck g x ≠ 0 := by
  intro n
  induction n with
  | zero =>
    intro b
    constructor
    · intro h; cases h
    · rintro ⟨c, p, h1, h2, -⟩; omega
  | succ n ih =>
    intro b
    rw [ol, List.mem_append, ih, il_mem]
    constructor
    · rintro (⟨j, h1, h2, h3, h4⟩ | ⟨c, p, h1, h2, h3, h4⟩)
      · exact ⟨b, j, by omega, by omega, by omega, h3, h4⟩
      · exact ⟨c, p, by omega, by omega, h3, h4⟩
    · rintro ⟨c, p, h1, h2, h3, h4, h5⟩
      by_cases e : c = b
      · subst e
        exact Or.inl ⟨p, by omega, by omega, h4, h5⟩
      · exact Or.inr ⟨c, p, by omega, by omega, h3, h4, h5⟩
theorem ol_pw {g : mp} (hs : mn g 1 ≤ 4) : ∀ {n b : Nat}, (ol g n b).Pairwise (· < ·) := by
  intro n
  induction n with
  | zero => intro b; exact List.Pairwise.nil
  | succ n ih =>
    intro b
    rw [ol, List.pairwise_append]
    refine ⟨il_pw, ih, ?_⟩
    intro x hx y hy
    obtain ⟨j, h1, h2, h3, h4⟩ := il_mem.mp hx
    obtain ⟨c, p, k1, k2, k3, k4, k5⟩ := ol_mem.mp hy
    omega
theorem sl_mem {g : mp} {x : Nat} : ∀ {n j : Nat}, x ∈ sl g n j ↔ ∃ k, j ≤ k ∧ k < j + n ∧ x = 64 + k ∧ ck g x ≠ 0 := by
  intro n
  induction n with
  | zero =>
    intro p
    constructor
    · intro h; cases h
    · rintro ⟨j, h1, h2, -⟩; omega
  | succ n ih =>
    intro p
    rw [sl, List.mem_append, ih]
    constructor
    · rintro (h | ⟨j, h1, h2, h3, h4⟩)
      · split at h
        · cases h
        · rename_i h0
          rw [List.mem_singleton] at h
          subst h
          exact ⟨p, by omega, by omega, rfl, h0⟩
      · exact ⟨j, by omega, by omega, h3, h4⟩
    · rintro ⟨j, h1, h2, h3, h4⟩
      by_cases e : j = p
      · subst e
        left
        subst h3
        rw [if_neg h4]
        exact List.mem_singleton.mpr rfl
      · exact Or.inr ⟨j, by omega, by omega, h3, h4⟩
theorem sl_pw {g : mp} : ∀ {n p : Nat}, (sl g n p).Pairwise (· < ·) := by
  intro n
  induction n with
  | zero => intro p; exact List.Pairwise.nil
  | succ n ih =>
    intro p
    rw [sl, List.pairwise_append]
    refine ⟨?_, ih, ?_⟩
    · split
      · exact List.Pairwise.nil
      · exact List.pairwise_singleton _ _
    · intro x hx y hy
      obtain ⟨j, h1, h2, h3, h4⟩ := sl_mem.mp hy
      split at hx
      · cases hx
      · rw [List.mem_singleton] at hx
        omega
theorem mcl_mem {g : mp} (h : mwf g) {x : Nat} : x ∈ mcl g ↔ x < 68 ∧ ck g x ≠ 0 := by
  have a := h.1.1
  have hn := a.2.1.2
  have hs := a.2.2.1.2
  have h4 := a.2.2.2.1
  have hst := h.1.2.1.2
  unfold mcl
  rw [List.mem_append, ol_mem, sl_mem]
  constructor
  · rintro (⟨c, p, h1, h2, h3, h5, h6⟩ | ⟨k, h1, h2, h3, h5⟩)
    · exact ⟨by omega, h6⟩
    · exact ⟨by omega, h5⟩
  · rintro ⟨hx, h0⟩
    by_cases e : x < 64
    · have := h.1.2.2.2.1 x e h0
      exact Or.inl ⟨x / 4, x % 4, by omega, by have := this.1; omega, this.2.1, by omega, h0⟩
    · have := (h.2 (x - 64) (by omega)).mp (by rw [show 64 + (x - 64) = x by omega]; exact h0)
      exact Or.inr ⟨x - 64, by omega, by omega, by omega, h0⟩
theorem mcl_pw {g : mp} (h : mwf g) : (mcl g).Pairwise (· < ·) := by
  have a := h.1.1
  have hn := a.2.1.2
  have hs := a.2.2.1.2
  unfold mcl
  rw [List.pairwise_append]
  refine ⟨ol_pw hs, sl_pw, ?_⟩
  intro x hx y hy
  obtain ⟨c, p, h1, h2, h3, h5, h6⟩ := ol_mem.mp hx
  obtain ⟨k, k1, k2, k3, k5⟩ := sl_mem.mp hy
  omega
theorem mwf_c1 {g : mp} (h : mwf g) {i : Nat} (hi : i < 69) : wc1 (mn g 12) (gc g i) := (mw0_iff.mp h.1).2.2.2.2.1 i hi
theorem mesh_adm {g h : mp} (hg : mwf g) (h0 : ck g 68 ≠ 0) (h12 : mn h 12 = mn g 12) : adm (mclr h) (mesh g) := by
  have m12 : mn (mclr h) 12 = mn g 12 := by
    rw [← h12]
    unfold mn
    rw [mclr_k (by omega) (by omega)]
  have hF := hg.1.2.2.2.2.1
  have hG := hg.1.2.2.2.2.2.2.2
  refine ⟨?_, ?_⟩
  · intro e he
    have : ∃ i, i < 69 ∧ ck g i ≠ 0 ∧ e = gc g i := by
      unfold mesh mes at he
      rcases List.mem_append.mp he with q | q
      · obtain ⟨i, hi, rfl⟩ := List.mem_map.mp q
        have := (mcl_mem hg).mp hi
        exact ⟨i, by omega, this.2, rfl⟩
      · rw [List.mem_singleton] at q
        exact ⟨68, by omega, h0, q⟩
    obtain ⟨i, hi, hk, rfl⟩ := this
    refine ⟨hk, by rw [m12]; exact mwf_c1 hg hi, fun j hj q => absurd (ck_mclr (by omega)) q⟩
  · unfold mesh mes
    rw [List.pairwise_append]
    refine ⟨?_, List.pairwise_singleton _ _, ?_⟩
    · rw [List.pairwise_map]
      refine List.Pairwise.imp_of_mem ?_ (mcl_pw hg)
      intro x y hx hy hxy
      have hx := (mcl_mem hg).mp hx
      have hy := (mcl_mem hg).mp hy
      exact ⟨hF x y (by omega) (by omega) (by omega) hx.2, hG x y (by omega) (by omega) (by omega) hx.2 hy.2⟩
    · intro e he f hf
      obtain ⟨x, hx, rfl⟩ := List.mem_map.mp he
      rw [List.mem_singleton] at hf
      subst hf
      have hx := (mcl_mem hg).mp hx
      exact ⟨hF x 68 (by omega) (by omega) (by omega) hx.2, hG x 68 (by omega) (by omega) (by omega) hx.2 h0⟩
theorem upd_upd {g : mp} {k : Nat} {x y : Int32} : upd (upd g k x) k y = upd g k y := by
  funext j
  unfold upd
  split <;> rfl
/-- drawn hashes are hashes -/
theorem mdh1_v {g : mp} {k n a j : Nat} (h0 : 0 < n) (hn : n ≤ 1009) (ha : a ≤ 1) (hj : j = 7 + k) (hna : n + a ≤ 1009) : mdh1 g k (nI n) (nI a) j = nI (mn (mdh1 g k (nI n) (nI a)) j) ∧ mn (mdh1 g k (nI n) (nI a)) j ≤ 1008 := by
  obtain ⟨p, p1, p2⟩ := mpick_lt (mseed (g 11)) h0 (show n < 2 ^ 31 by omega)
  have e : mdh1 g k (nI n) (nI a) j = nI (a + p) := by
    unfold mdh1
    rw [hj, upd_eq, p2, nI_add]
  have e2 : mn (mdh1 g k (nI n) (nI a)) j = a + p := by
    unfold mn
    rw [e, nI_clamp (by omega)]
  rw [e, e2]
  exact ⟨rfl, by omega⟩
theorem mdh1_k {g : mp} {k j : Nat} {n a : Int32} (h1 : j ≠ 11) (h2 : j ≠ 7 + k) : mdh1 g k n a j = g j := by
  unfold mdh1
  rw [upd_ne h2, upd_ne h1]
theorem wA_mdh1 {g : mp} {k n a : Nat} (w : wA g) (h0 : 0 < n) (hn : n ≤ 1009) (ha : a ≤ 1) (hk : k < 4) (hna : n + a ≤ 1009) : wA (mdh1 g k (nI n) (nI a)) := by
  obtain ⟨a1, a2, a3, a4, a5, a6, a7, a8, a9⟩ := w
  have q : ∀ j, j < 11 → j ≠ 7 + k → mn (mdh1 g k (nI n) (nI a)) j = mn g j := fun j h1 h2 => by
    unfold mn
    rw [mdh1_k (by omega) h2]
  have v := mdh1_v (g := g) (k := k) (j := 7 + k) h0 hn ha rfl hna
  refine ⟨fun j hj => ?_, ?_, ?_, ?_, ?_, ?_, ?_, ?_, fun j h1 hj => ?_⟩
  · by_cases e : j = 7 + k
    · rw [e]; exact v.1
    · rw [q j hj e, mdh1_k (by omega) e]; exact a1 j hj
  all_goals first | (rw [q _ (by omega) (by omega)]; assumption) | skip
  by_cases e : j = 7 + k
  · rw [e]; exact v.2
  · rw [q j hj e]; exact a9 j h1 hj
theorem wA_mdh {g : mp} (w : wA g) : wA (mdh g) := by
  have z1 := wA_mdh1 (k := 0) (n := 1008) (a := 1) w (by omega) (by omega) (by omega) (by omega) (by omega)
  have z2 := wA_mdh1 (k := 1) (n := 1009) (a := 0) z1 (by omega) (by omega) (by omega) (by omega) (by omega)
  have z3 := wA_mdh1 (k := 2) (n := 1008) (a := 1) z2 (by omega) (by omega) (by omega) (by omega) (by omega)
  exact wA_mdh1 (k := 3) (n := 1009) (a := 0) z3 (by omega) (by omega) (by omega) (by omega) (by omega)
theorem mdh_k {g : mp} {j : Nat} (h : j ≠ 11) (h2 : j < 7 ∨ 11 < j) : mdh g j = g j := by
  unfold mdh
  rw [mdh1_k h (by omega), mdh1_k h (by omega), mdh1_k h (by omega), mdh1_k h (by omega)]
/-- the map with another seed -/
def isd (g0 g : mp) : Prop := ∃ s, g = upd g0 11 s
theorem isd_back {g0 h : mp} : isd g0 (mback h g0) := ⟨h 11, rfl⟩
theorem isd_refl {g0 : mp} : isd g0 g0 := ⟨g0 11, upd_self.symm⟩
theorem mrh_ok {g0 : mp} (hg : mwf g0) (h0 : ck g0 68 ≠ 0) : ∀ (n : Nat) (g : mp), isd g0 g → ((mrh (mesh g0) g0 n g).1 = true → mwf (mrh (mesh g0) g0 n g).2 ∧ ck (mrh (mesh g0) g0 n g).2 68 = 0 ∧ mn (mrh (mesh g0) g0 n g).2 12 = mn g0 12) ∧ ((mrh (mesh g0) g0 n g).1 = false → isd g0 (mrh (mesh g0) g0 n g).2) := by
  intro n
  induction n with
  | zero =>
    intro g hi
    rw [mrh_0]
    exact ⟨fun q => (by cases q), fun _ => hi⟩
  | succ n ih =>
    intro g hi
    rw [mrh_s]
    obtain ⟨s, rfl⟩ := hi
    have hw := mwf_seed (x := s) hg
    have w := wA_mdh hw.1.1
    have e12 : mdh (upd g0 11 s) 12 = g0 12 := by rw [mdh_k (by omega) (by omega), upd_ne (by omega)]
    have m12 : mn (mdh (upd g0 11 s)) 12 = mn g0 12 := by unfold mn; rw [e12]
    have hc := mwf_mclr w (by rw [e12, m12]; exact hg.1.2.2.2.2.2.1)
    have ha := mesh_adm (h := mdh (upd g0 11 s)) hg h0 m12
    have z := mall_ok (mesh g0) _ hc ha
    cases hm : mall (mesh g0) (mclr (mdh (upd g0 11 s))) with
    | mk t x =>
      rw [hm] at z
      cases t with
      | true =>
        rw [mrh1]
        have z2 := z.2 (ck_mclr (by omega)) rfl
        refine ⟨fun _ => ⟨mwf_upd z2.1 (by omega) (by omega) (by omega) (by omega), by rw [ck_upd (by omega)]; exact z2.2, ?_⟩, fun q => by cases q⟩
        rw [mn_upd (by omega), ← m12]
        unfold mn
        rw [show x 12 = _ from z.1 12 (by omega) (by omega) (by omega) (by omega), mclr_k (by omega) (by omega)]
      | false =>
        rw [mrh1]
        exact ih _ isd_back
theorem wA_nb {g : mp} {nb : Nat} (w : wA g) (h : 1 ≤ nb ∧ nb ≤ 16) : wA (upd g 0 (nI nb)) := by
  obtain ⟨a1, a2, a3, a4, a5, a6, a7, a8, a9⟩ := w
  have q : ∀ j, j ≠ 0 → mn (upd g 0 (nI nb)) j = mn g j := fun j h1 => mn_upd h1
  have q0 : mn (upd g 0 (nI nb)) 0 = nb := by
    unfold mn
    rw [upd_eq, nI_clamp (by omega)]
  refine ⟨fun j hj => ?_, by rw [q0]; exact h, ?_, ?_, ?_, ?_, ?_, ?_, fun j h1 hj => ?_⟩
  · by_cases e : j = 0
    · rw [e, q0, upd_eq]
    · rw [q j e, upd_ne e]; exact a1 j hj
  all_goals first | (rw [q _ (by omega)]; assumption) | skip
  rw [q _ (by omega)]; exact a9 j h1 hj
theorem mgr_ok {g0 : mp} (hg : mwf g0) (h0 : ck g0 68 ≠ 0) : ∀ (n nb t : Nat) (g : mp), 1 ≤ nb → isd g0 g → ((mgr (mesh g0) g0 n nb t g).1 = true → mwf (mgr (mesh g0) g0 n nb t g).2 ∧ ck (mgr (mesh g0) g0 n nb t g).2 68 = 0 ∧ mn (mgr (mesh g0) g0 n nb t g).2 12 = mn g0 12) ∧ ((mgr (mesh g0) g0 n nb t g).1 = false → isd g0 (mgr (mesh g0) g0 n nb t g).2) := by
  intro n
  induction n with
  | zero =>
    intro nb t g _ hi
    rw [mgr_0]
    exact ⟨fun q => (by cases q), fun _ => hi⟩
  | succ n ih =>
    intro nb t g h1 hi
    rw [mgr_s]
    split
    · exact ⟨fun q => (by cases q), fun _ => hi⟩
    · obtain ⟨s, rfl⟩ := hi
      have hw := mwf_seed (x := s) hg
      have w := wA_nb (nb := nb * 2) hw.1.1 (by omega)
      have e12 : upd (upd g0 11 s) 0 (nI (nb * 2)) 12 = g0 12 := by rw [upd_ne (by omega), upd_ne (by omega)]
      have m12 : mn (upd (upd g0 11 s) 0 (nI (nb * 2))) 12 = mn g0 12 := by unfold mn; rw [e12]
      have hc := mwf_mclr w (by rw [e12, m12]; exact hg.1.2.2.2.2.2.1)
      have ha := mesh_adm (h := upd (upd g0 11 s) 0 (nI (nb * 2))) hg h0 m12
      have z := mall_ok (mesh g0) _ hc ha
      cases hm : mall (mesh g0) (mclr (upd (upd g0 11 s) 0 (nI (nb * 2)))) with
      | mk t2 x =>
        rw [hm] at z
        cases t2 with
        | true =>
          rw [mgr1]
          have z2 := z.2 (ck_mclr (by omega)) rfl
          refine ⟨fun _ => ⟨mwf_upd z2.1 (by omega) (by omega) (by omega) (by omega), by rw [ck_upd (by omega)]; exact z2.2, ?_⟩, fun q => by cases q⟩
          rw [mn_upd (by omega), ← m12]
          unfold mn
          rw [show x 12 = _ from z.1 12 (by omega) (by omega) (by omega) (by omega), mclr_k (by omega) (by omega)]
        | false =>
          rw [mgr1]
          exact ih _ _ _ (by omega) isd_back
/-- where a key is found -/
theorem mlo1_sp {g : mp} (a : wA g) {x b i : Nat} (hx : x < 2 ^ 31) (hb : b < mn g 0) (h : mlo1 g (nI x) b = some i) : i < 64 ∧ ck g i = x ∧ i / 4 = b ∧ i % 4 < mn g 1 := by
  have hn := a.2.1.2
  have hs := a.2.2.1.2
  unfold mlo1 at h
  cases hf : ff (fun p => decide (g (mcell b p) = nI x)) (mn g 1) 0 with
  | none => rw [hf] at h; cases h
  | some p =>
    rw [hf] at h
    have h : 4 * b + p = i := Option.some.inj h
    have h1 := ff_lt hf
    have h2 : g (mcell b p) = nI x := by simpa using h1.2.2
    subst h
    refine ⟨by omega, ?_, by omega, by omega⟩
    unfold ck mn
    rw [mcell_ci] at h2
    rw [h2, nI_clamp hx]
theorem mlo2_sp {g : mp} (hst : mn g 18 ≤ 4) {x i : Nat} (hx : x < 2 ^ 31) (h : mlo2 g (nI x) = some i) : 64 ≤ i ∧ i < 64 + mn g 18 ∧ ck g i = x := by
  unfold mlo2 at h
  cases hf : ff (fun j => decide (g (msc j) = nI x)) (mn g 18) 0 with
  | none => rw [hf] at h; cases h
  | some j =>
    rw [hf] at h
    have h : 64 + j = i := Option.some.inj h
    have h1 := ff_lt hf
    have h2 : g (msc j) = nI x := by simpa using h1.2.2
    subst h
    refine ⟨by omega, by omega, ?_⟩
    unfold ck mn
    rw [msc_ci] at h2
    rw [h2, nI_clamp hx]
theorem mloc_sp {g : mp} (h : mwf g) {q i : Nat} (hq : q ≤ 999) (hl : mloc g q = some i) : i < 68 ∧ ck g i = q + 1 := by
  have a := h.1.1
  have hst : mn g 18 ≤ 4 := Nat.le_trans h.1.2.1.2 a.2.2.2.1
  unfold mloc at hl
  cases h1 : mlo1 g (nI (q + 1)) (mhash g 0 q) with
  | some j =>
    rw [h1] at hl
    have hl : some j = some i := hl
    cases hl
    have := mlo1_sp a (by omega) (wA_hash a 0 q) h1
    exact ⟨by omega, this.2.1⟩
  | none =>
    rw [h1] at hl
    cases h2 : mlo1 g (nI (q + 1)) (mhash g 1 q) with
    | some j =>
      rw [h2] at hl
      have hl : some j = some i := hl
      cases hl
      have := mlo1_sp a (by omega) (wA_hash a 1 q) h2
      exact ⟨by omega, this.2.1⟩
    | none =>
      rw [h2] at hl
      have hl : mlo2 g (nI (q + 1)) = some i := hl
      have := mlo2_sp hst (by omega) hl
      exact ⟨by omega, this.2.2⟩
theorem mlo1_none {g : mp} (c : wC g) {x b p : Nat} (hb : b < 16) (hp : p < mn g 1) (hp4 : p < 4) (h : mlo1 g (nI x) b = none) : ck g (4 * b + p) ≠ x := by
  unfold mlo1 at h
  cases hf : ff (fun p => decide (g (mcell b p) = nI x)) (mn g 1) 0 with
  | some p => rw [hf] at h; cases h
  | none =>
    have := ff_none hf p (by omega) (by omega)
    simp only [decide_eq_false_iff_not] at this
    intro e
    apply this
    rw [mcell_ci, (c (4 * b + p) (by omega)).1, e]
theorem mlo2_none {g : mp} (c : wC g) {x j : Nat} (hj : j < mn g 18) (hj4 : j < 4) (h : mlo2 g (nI x) = none) : ck g (64 + j) ≠ x := by
  unfold mlo2 at h
  cases hf : ff (fun j => decide (g (msc j) = nI x)) (mn g 18) 0 with
  | some p => rw [hf] at h; cases h
  | none =>
    have := ff_none hf j (by omega) (by omega)
    simp only [decide_eq_false_iff_not] at this
    intro e
    apply this
    rw [msc_ci, (c (64 + j) (by omega)).1, e]
theorem mloc_none {g : mp} (h : mwf g) {q : Nat} (hl : mloc g q = none) : ∀ i, i < 68 → ck g i ≠ q + 1 := by
  have a := h.1.1
  have hn := a.2.1.2
  have hs := a.2.2.1.2
  have c := h.1.2.2.1
  unfold mloc at hl
  cases h1 : mlo1 g (nI (q + 1)) (mhash g 0 q) with
  | some j => rw [h1] at hl; cases hl
  | none =>
    rw [h1] at hl
    cases h2 : mlo1 g (nI (q + 1)) (mhash g 1 q) with
    | some j => rw [h2] at hl; cases hl
    | none =>
      rw [h2] at hl
      have hl : mlo2 g (nI (q + 1)) = none := hl
      intro i hi e
      by_cases hi6 : i < 64
      · have hD := h.1.2.2.2.1 i hi6 (by omega)
        rw [e, show q + 1 - 1 = q by omega] at hD
        have hd := hD.2.1
        have hlt := hD.1
        rcases hD.2.2 with w | w
        · exact mlo1_none c (b := mhash g 0 q) (p := i % 4) (by omega) hd (by omega) h1 (by rw [show 4 * mhash g 0 q + i % 4 = i by omega]; exact e)
        · exact mlo1_none c (b := mhash g 1 q) (p := i % 4) (by omega) hd (by omega) h2 (by rw [show 4 * mhash g 1 q + i % 4 = i by omega]; exact e)
      · have hE := (h.2 (i - 64) (by omega)).mp (by rw [show 64 + (i - 64) = i by omega]; omega)
        exact mlo2_none c (j := i - 64) hE (by omega) hl (by rw [show 64 + (i - 64) = i by omega]; exact e)
/-- a cell's other numbers change -/
theorem mwf_same {g : mp} {i : Nat} {e : en} (h : mwf g) (hi : i < 69) (h0 : ck g i ≠ 0) (e1 : e.1 = (gc g i).1) (e2 : e.2.2.1 = (gc g i).2.2.1) : mwf (cs g i e) := by
  obtain ⟨a, b, d, c⟩ := mw0_iff.mp h.1
  have k1 : ∀ j, ck (cs g i e) j = ck g j := by
    intro j
    rw [ck_cs]
    split
    · rename_i q; rw [q, e1]; rfl
    · rfl
  have k2 : ∀ j, cb (cs g i e) j = cb g j := by
    intro j
    rw [cb_cs]
    split
    · rename_i q; rw [q, e2]; rfl
    · rfl
  obtain ⟨c1, c2, c3, c4⟩ := c
  refine ⟨mw0_iff.mpr ⟨sA_wA sA_cs a, ?_, ?_, ?_, ?_, ?_, ?_⟩, ?_⟩
  · unfold wB
    rw [mn_cs (by omega), mn_cs (by omega), cs_lo (by omega)]
    exact b
  · intro j hj
    rw [k1, sA_wP sA_cs]
    exact d j hj
  · rw [mn_cs (by omega), cs_lo (by omega)]; exact c1
  · intro j hj
    rw [mn_cs (by omega), gc_cs]
    split
    · have q := c2 i hi
      unfold wc1
      rw [e1, e2]
      exact ⟨q.1, q.2.1, fun w => absurd w h0, q.2.2.2⟩
    · exact c2 j hj
  · intro x y hx hy hxy
    rw [k1, k1]; exact c3 x y hx hy hxy
  · intro x y hx hy hxy
    rw [k1, k1, k2, k2]; exact c4 x y hx hy hxy
  · intro j hj
    rw [k1, mn_cs (by omega)]
    exact h.2 j hj
theorem upd_val {g : mp} {i : Nat} {v : Int32} : upd g (21 + 4 * i) v = cs g i ((gc g i).1, v, (gc g i).2.2) := by
  funext k
  unfold upd cs gc
  grind
theorem mwf_puts {g : mp} (h : mwf g) (hp : mn g 12 + 1 < 2 ^ 30) : mwf (upd g 12 (g 12 + 1)) ∧ mn (upd g 12 (g 12 + 1)) 12 = mn g 12 + 1 := by
  obtain ⟨⟨a, b, c, d, f, gg⟩, e⟩ := h
  have e12 : upd g 12 (g 12 + 1) 12 = nI (mn g 12 + 1) := by rw [upd_eq, gg.1.1, nI_1]
  have m12 : mn (upd g 12 (g 12 + 1)) 12 = mn g 12 + 1 := by
    show (upd g 12 (g 12 + 1) 12).toNatClampNeg = _
    rw [e12, nI_clamp (by omega)]
  refine ⟨⟨⟨sA_wA (sA_upd (by omega)) a, ?_, ?_, ?_, ?_, ?_⟩, ?_⟩, m12⟩
  · unfold wB
    rw [mn_upd (by omega), mn_upd (by omega), upd_ne (by omega)]
    exact b
  · intro i hi
    rw [ck_upd (by omega), gc_upd (by omega), upd_ne (by omega)]
    exact c i hi
  · intro i hi
    rw [ck_upd (by omega), sA_wP (sA_upd (by omega))]
    exact d i hi
  · intro i j hi hj
    rw [ck_upd (by omega), ck_upd (by omega)]
    exact f i j hi hj
  · unfold wG
    rw [m12, e12]
    refine ⟨⟨rfl, hp⟩, fun i hi h0 => ?_, fun i j hi hj => ?_⟩
    · rw [ck_upd (by omega)] at h0
      rw [cb_upd (by omega), upd_ne (by omega)]
      have := gg.2.1 i hi h0
      exact ⟨this.1, this.2.1, by omega⟩
    · rw [ck_upd (by omega), cb_upd (by omega), ck_upd (by omega), cb_upd (by omega)]
      exact gg.2.2 i j hi hj
  · intro j hj
    rw [ck_upd (by omega), mn_upd (by omega)]
    exact e j hj
