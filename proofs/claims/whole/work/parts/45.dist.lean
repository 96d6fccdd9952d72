theorem fb_holes : ∀ (m n : Nat) (f : Nat → Nat), (∀ i, i < n → f i < m) → (∀ i j, i < j → j < n → f i ≠ f j) → n ≤ m := by
  intro m
  induction m with
  | zero =>
    intro n f h1 _
    rcases Nat.eq_zero_or_pos n with h | h
    · omega
    · exact absurd (h1 0 h) (Nat.not_lt_zero _)
  | succ m ih =>
    intro n f h1 h2
    by_cases hx : ∃ i, i < n ∧ f i = m
    · obtain ⟨a, ha, hfa⟩ := hx
      have hg := ih (n - 1) (fun i => if i < a then f i else f (i + 1)) (by
        intro i hi
        by_cases q : i < a
        · simp only [if_pos q]
          have b1 := h1 i (by omega)
          have b2 := h2 i a q ha
          omega
        · simp only [if_neg q]
          have b1 := h1 (i + 1) (by omega)
          have b2 := h2 a (i + 1) (by omega) (by omega)
          omega) (by
        intro i j hij hj
        by_cases q : i < a
        · by_cases r : j < a
          · simp only [if_pos q, if_pos r]
            exact h2 i j hij (by omega)
          · simp only [if_pos q, if_neg r]
            exact h2 i (j + 1) (by omega) (by omega)
        · have r : ¬ j < a := by omega
          simp only [if_neg q, if_neg r]
          exact h2 (i + 1) (j + 1) (by omega) (by omega))
      omega
    · have hg := ih n f (fun i hi => by
        have b1 := h1 i hi
        have b2 : f i ≠ m := fun e => hx ⟨i, hi, e⟩
        omega) h2
      omega
/-- two of them in one place -/
theorem uA_next {β : Type} {G : tc_G} (h2 : gm2 G) {u : tc_S} {i : Nat} {a : Nat → Nat} {q : tc_S → Option β} (hn : i < 16) : tc_sd G (uA u i a) 75 (nI i) (nI (a i)) q = q (uA u (i + 1) a) := by
  rw [pu_sd h2.1.2 hn (by omega), w_wr, wr_same, wr_wr]
  congr 2
  funext j
  unfold upd aw
  by_cases h : j = i
  · subst h; simp
  · by_cases h3 : j < i
    · simp [h, h3, Nat.lt_succ_of_lt h3]
    · have h4 : ¬ j < i + 1 := by omega
      simp [h, h3, h4]
theorem uA_0 {u : tc_S} {a : Nat → Nat} : uA u 0 a = u := by
  unfold uA
  rw [show aw 0 a (u.1 75) = u.1 75 from by funext k; simp [aw], wr_id]
theorem oI_m1 {o : Option Nat} (h : ∀ p, o = some p → p < 2 ^ 31) : (oI o = -1) = (o = none) := by
  cases o with
  | none => simp [oI]
  | some p =>
    have hp := h p rfl
    simp only [oI, reduceCtorEq, eq_iff_iff, iff_false]
    intro q
    have := congrArg Int32.toInt q
    rw [nI_toInt hp] at this
    have h2 : (-1 : Int32).toInt = -1 := rfl
    omega
theorem pm_lo12 {G : tc_G} (hG : gm G) (h2 : gm2 G) {u : tc_S} {B key : Nat} {g : mp} (hB : B + 292 ≤ 3253) (hM : isM u B g) (hg : mok g) (hk : key ≤ 999) : ∀ (n i f : Nat), i + n = mn g 0 → n < f → lo_X12_laysAway_12 G f 71 (nI B) (nI key) (nI (mn g 0)) (nI i) (uA u i (ra0 g key)) = some (0, uA u (mn g 0) (maway g key)) := by
  have hn := hg.2.1.2
  have hs := hg.2.2.1
  have hfu := tc_fu_big
  have l0 := mhash_lt hg 0 key
  have l1 := mhash_lt hg 1 key
  intro n
  induction n with
  | zero =>
    intro i f hi hf
    obtain ⟨f, rfl⟩ : ∃ k, f = k + 1 := ⟨f - 1, by omega⟩
    obtain rfl : i = mn g 0 := by omega
    rw [lo_X12_laysAway_12, pu_le (by omega) (by omega), if_pos (by omega), show (0 : Int32) = nI 0 from rfl]
    exact pm_lo88 hG h2 hB hM hg (mn g 0) 0 tc_fu _ (by omega) (by omega) (fun k => by unfold ra0; split <;> omega)
  | succ n ih =>
    intro i f hi hf
    obtain ⟨f, rfl⟩ : ∃ k, f = k + 1 := ⟨f - 1, by omega⟩
    have hM2 : isM (uA u i (ra0 g key)) B g := isM_uA hM
    have e0 := pm_hash hG hB hM2 hg (w := 0) (by omega) hk
    have e1 := pm_hash hG hB hM2 hg (w := 1) (by omega) hk
    rw [show nI 0 = (0 : Int32) from rfl] at e0
    rw [show nI 1 = (1 : Int32) from rfl] at e1
    have nxt : tc_let (nI i + 1) (fun x => lo_X12_laysAway_12 G f 71 (nI B) (nI key) (nI (mn g 0)) x (uA u (i + 1) (ra0 g key))) = some (0, uA u (mn g 0) (maway g key)) := by
      unfold tc_let
      rw [nI_1]
      exact ih (i + 1) f (by omega) (by omega)
    have hful : mful g key i = true → bl_X12_laysAway_53 G (lo_X12_laysAway_12 G f) 71 (nI B) (nI key) (nI (mn g 0)) (nI i) (uA u i (ra0 g key)) = some (0, uA u (mn g 0) (maway g key)) := by
      intro hm
      unfold bl_X12_laysAway_53 bl_X12_laysAway_58 bl_X12_laysAway_78
      have e : ra0 g key i = 1000 := by unfold ra0; rw [if_pos hm]
      rw [if_neg (by decide), h2.1.1, show (1000 : Int32) = nI (ra0 g key i) from by rw [e]; rfl, uA_next h2 (by omega)]
      exact nxt
    rw [lo_X12_laysAway_12, pu_le (by omega) (by omega), if_neg (by omega), e0, pu_b, pu_eq (by omega) (by omega)]
    by_cases c0 : i = mhash g 0 key
    · rw [if_pos c0]
      exact hful (by simp [mful, c0])
    · rw [if_neg c0, e1, pu_b, pu_eq (by omega) (by omega)]
      by_cases c1 : i = mhash g 1 key
      · rw [if_pos c1]
        exact hful (by simp [mful, c1])
      · rw [if_neg c1, pm_emptyIn hG hB hM2 hg (by omega), pu_b]
        cases hm : memp g i with
        | none =>
          rw [if_pos (show oI none = -1 from rfl)]
          exact hful (by simp [mful, hm])
        | some p =>
          have hp : p < 4 := by have := (ff_lt hm).2.1; omega
          rw [if_neg (by
            intro q
            have := congrArg Int32.toInt q
            simp only [oI] at this
            rw [nI_toInt (by omega)] at this
            have h2 : (-1 : Int32).toInt = -1 := rfl
            omega)]
          unfold bl_X12_laysAway_58 bl_X12_laysAway_78
          have e : ra0 g key i = 0 := by unfold ra0; rw [if_neg (by simp [mful, c0, c1, hm])]
          rw [if_pos rfl, h2.1.1]
          have z := uA_next (β := Int32 × tc_S) h2 (u := u) (i := i) (a := ra0 g key) (q := fun u27 => tc_let (nI i + 1) fun x28 => lo_X12_laysAway_12 G f 71 (nI B) (nI key) (nI (mn g 0)) x28 u27) (by omega)
          rw [e] at z
          exact z.trans nxt
theorem pm_laysAway {G : tc_G} (hG : gm G) (h2 : gm2 G) {u : tc_S} {B key : Nat} {g : mp} (hB : B + 292 ≤ 3253) (hM : isM u B g) (hg : mok g) (hk : key ≤ 999) : fn_X12_laysAway G 71 (nI B) (nI key) u = some (0, uA u (mn g 0) (maway g key)) := by
  have hn := hg.2.1.2
  have hfu := tc_fu_big
  have h := pm_lo12 hG h2 hB hM hg hk (mn g 0) 0 tc_fu (by omega) (by omega)
  rw [uA_0] at h
  unfold fn_X12_laysAway
  rw [hG.1.1, show nI B + 0 = nI (B + 0) from nI_add B 0, isM_ld hG hM hB (by omega), hg.1 0 (by omega)]
  exact h
/-! distances -/
def mpath (g : mp) (key : Nat) : Nat → Nat → Prop
  | 0, b => b < mn g 0 ∧ mful g key b = false
  | n + 1, b => b < mn g 0 ∧ ∃ p c, p < mn g 1 ∧ moth g b p = some c ∧ mpath g key n c
theorem mpath_lt {g : mp} {key : Nat} : ∀ {n b : Nat}, mpath g key n b → b < mn g 0
  | 0, _, h => h.1
  | _ + 1, _, h => h.1
def mS (g : mp) (key : Nat) (a : Nat → Nat) : Prop := ∀ b, b < mn g 0 → a b ≤ 1000 ∧ (a b < 1000 → mpath g key (a b) b)
theorem rst_val {g : mp} {b p : Nat} {a : Nat → Nat} (k : Nat) : rst g b p a k = a k ∨ ∃ c, moth g b p = some c ∧ k = b ∧ a c + 1 < a b ∧ rst g b p a k = a c + 1 := by
  unfold rst
  cases h : moth g b p with
  | none => exact Or.inl rfl
  | some c =>
    show (if a c + 1 < a b then fun k => if k = b then a c + 1 else a k else a) k = a k ∨ _
    by_cases h1 : a c + 1 < a b
    · by_cases hk : k = b
      · refine Or.inr ⟨c, rfl, hk, h1, ?_⟩
        simp [h1, hk]
      · left; simp [h1, hk]
    · left; simp [h1]
theorem rst_down {g : mp} {b p : Nat} {a : Nat → Nat} (k : Nat) : rst g b p a k ≤ a k := by
  rcases rst_val (g := g) (b := b) (p := p) (a := a) k with h | ⟨c, -, rfl, h1, h2⟩ <;> omega
theorem rst_S {g : mp} (hg : mok g) {key b p : Nat} {a : Nat → Nat} (hb : b < mn g 0) (hp : p < mn g 1) (h : mS g key a) : mS g key (rst g b p a) := by
  intro k hk
  rcases rst_val (g := g) (b := b) (p := p) (a := a) k with e | ⟨c, hc, rfl, h1, e⟩
  · rw [e]; exact h k hk
  · rw [e]
    have h2 := h k hk
    have h3 := h c (moth_lt hg hc)
    exact ⟨by omega, fun _ => ⟨hk, p, c, hp, hc, h3.2 (by omega)⟩⟩
theorem rx1_down {g : mp} {b : Nat} : ∀ (n p : Nat) (a : Nat → Nat) (k : Nat), rx1 g b n p a k ≤ a k
  | 0, _, _, _ => Nat.le_refl _
  | n + 1, p, _, k => Nat.le_trans (rx1_down n (p + 1) _ k) (rst_down k)
theorem rx2_down {g : mp} : ∀ (n b : Nat) (a : Nat → Nat) (k : Nat), rx2 g n b a k ≤ a k
  | 0, _, _, _ => Nat.le_refl _
  | n + 1, b, _, k => Nat.le_trans (rx2_down n (b + 1) _ k) (rx1_down _ _ _ k)
theorem rx1_S {g : mp} (hg : mok g) {key b : Nat} (hb : b < mn g 0) : ∀ (n p : Nat) (a : Nat → Nat), p + n = mn g 1 → mS g key a → mS g key (rx1 g b n p a)
  | 0, _, _, _, h => h
  | n + 1, p, _, hp, h => rx1_S hg hb n (p + 1) _ (by omega) (rst_S hg hb (by omega) h)
theorem rx2_S {g : mp} (hg : mok g) {key : Nat} : ∀ (n b : Nat) (a : Nat → Nat), b + n = mn g 0 → mS g key a → mS g key (rx2 g n b a)
  | 0, _, _, _, h => h
  | n + 1, b, _, hb, h => rx2_S hg n (b + 1) _ (by omega) (rx1_S hg (by omega) (mn g 1) 0 _ (by omega) h)
theorem rx3_S {g : mp} (hg : mok g) {key : Nat} : ∀ (n : Nat) (a : Nat → Nat), mS g key a → mS g key (rx3 g n a)
  | 0, _, h => h
  | n + 1, _, h => rx3_S hg n _ (rx2_S hg (mn g 0) 0 _ (by omega) h)
/-- a place's relaxation does its work, and what comes later keeps it -/
theorem rst_does {g : mp} {b p c : Nat} {a : Nat → Nat} (hc : moth g b p = some c) : rst g b p a b ≤ a c + 1 := by
  unfold rst
  rw [hc]
  show (if a c + 1 < a b then fun k => if k = b then a c + 1 else a k else a) b ≤ a c + 1
  by_cases h1 : a c + 1 < a b
  · simp [h1]
  · simp [h1]; omega
theorem rx1_does {g : mp} {b q c : Nat} (hc : moth g b q = some c) {N : Nat} : ∀ (n p : Nat) (a : Nat → Nat), p ≤ q → q < p + n → a c ≤ N → rx1 g b n p a b ≤ N + 1
  | 0, p, _, h1, h2, _ => by omega
  | n + 1, p, a, h1, h2, h3 => by
    by_cases e : p = q
    · subst e
      exact Nat.le_trans (rx1_down n (p + 1) _ b) (Nat.le_trans (rst_does hc) (by omega))
    · exact rx1_does hc n (p + 1) _ (by omega) (by omega) (Nat.le_trans (rst_down c) h3)
theorem rx2_does {g : mp} {b q c : Nat} (hc : moth g b q = some c) (hq : q < mn g 1) {N : Nat} : ∀ (n i : Nat) (a : Nat → Nat), i ≤ b → b < i + n → a c ≤ N → rx2 g n i a b ≤ N + 1
  | 0, i, _, h1, h2, _ => by omega
  | n + 1, i, a, h1, h2, h3 => by
    by_cases e : i = b
    · subst e
      exact Nat.le_trans (rx2_down n (i + 1) _ i) (rx1_does hc (mn g 1) 0 a (by omega) (by omega) h3)
    · exact rx2_does hc hq n (i + 1) _ (by omega) (by omega) (Nat.le_trans (rx1_down _ _ _ c) h3)
def mC (g : mp) (key t : Nat) (a : Nat → Nat) : Prop := ∀ n b, n ≤ t → mpath g key n b → a b ≤ n
theorem rx2_C {g : mp} {key t : Nat} {a : Nat → Nat} (h : mC g key t a) : mC g key (t + 1) (rx2 g (mn g 0) 0 a) := by
  intro n b hn hp
  cases n with
  | zero => exact Nat.le_trans (rx2_down _ _ _ b) (h 0 b (by omega) hp)
  | succ n =>
    obtain ⟨hb, q, c, hq, hc, hp⟩ := hp
    exact rx2_does hc hq (mn g 0) 0 a (by omega) (by omega) (h n c (by omega) hp)
theorem rx3_C {g : mp} {key : Nat} : ∀ (n t : Nat) (a : Nat → Nat), mC g key t a → mC g key (t + n) (rx3 g n a)
  | 0, _, _, h => h
  | n + 1, t, _, h => by
    have := rx3_C n (t + 1) _ (rx2_C h)
    rwa [show t + 1 + n = t + (n + 1) by omega] at this
theorem ra0_S {g : mp} {key : Nat} : mS g key (ra0 g key) := by
  intro b hb
  unfold ra0
  split
  · exact ⟨Nat.le_refl _, fun h => absurd h (by omega)⟩
  · rename_i h
    exact ⟨by omega, fun _ => ⟨hb, by simpa using h⟩⟩
theorem ra0_C {g : mp} {key : Nat} : mC g key 0 (ra0 g key) := by
  intro n b hn hp
  obtain rfl : n = 0 := by omega
  unfold ra0
  rw [if_neg (by rw [hp.2]; decide)]
  omega
theorem maway_S {g : mp} (hg : mok g) (key : Nat) : mS g key (maway g key) := rx3_S hg _ _ ra0_S
theorem maway_C {g : mp} (key : Nat) : mC g key (mn g 0) (maway g key) := by
  have := rx3_C (g := g) (key := key) (mn g 0) 0 _ ra0_C
  rwa [Nat.zero_add] at this
/-- the least length of a path is below the number of buckets -/
theorem mpath_short {g : mp} {key : Nat} : ∀ {d b : Nat}, mpath g key d b → (∀ n, n < d → ¬ mpath g key n b) → ∀ i, i ≤ d → ∃ c, c < mn g 0 ∧ mpath g key i c ∧ ∀ n, n < i → ¬ mpath g key n c := by
  intro d
  induction d with
  | zero =>
    intro b h hm i hi
    obtain rfl : i = 0 := by omega
    exact ⟨b, h.1, h, hm⟩
  | succ d ih =>
    intro b h hm i hi
    by_cases e : i = d + 1
    · subst e; exact ⟨b, mpath_lt h, h, hm⟩
    · obtain ⟨hb, q, c, hq, hc, hp⟩ := h
      exact ih hp (fun n hn hpn => hm (n + 1) (by omega) ⟨hb, q, c, hq, hc, hpn⟩) i (by omega)
theorem mpath_bound {g : mp} {key d b : Nat} (h : mpath g key d b) (hm : ∀ n, n < d → ¬ mpath g key n b) : d < mn g 0 := by
  have hs := mpath_short h hm
  have hc : ∀ i, ∃ c, i ≤ d → c < mn g 0 ∧ mpath g key i c ∧ ∀ n, n < i → ¬ mpath g key n c := by
    intro i
    by_cases hi : i ≤ d
    · obtain ⟨c, h1⟩ := hs i hi
      exact ⟨c, fun _ => h1⟩
    · exact ⟨0, fun q => absurd q hi⟩
  obtain ⟨f, hf⟩ := Classical.axiomOfChoice hc
  have := fb_holes (mn g 0) (d + 1) f (fun i hi => (hf i (by omega)).1) (fun i j hij hj e => by
    have h1 := hf i (by omega)
    have h2 := hf j (by omega)
    exact h2.2.2 i hij (by rw [← e]; exact h1.2.1))
  omega
theorem least_path {g : mp} {key n b : Nat} (h : mpath g key n b) : ∃ d, mpath g key d b ∧ ∀ k, k < d → ¬ mpath g key k b := pk_least (fun n => mpath g key n b) ⟨n, h⟩
/-- maway is the distance -/
theorem maway_dist {g : mp} (hg : mok g) {key d b : Nat} (h : mpath g key d b) (hm : ∀ n, n < d → ¬ mpath g key n b) : maway g key b = d := by
  have hb := mpath_bound h hm
  have h1 := maway_C (g := g) key d b (by omega) h
  have hn := hg.2.1.2
  have h2 := (maway_S hg key b (mpath_lt h)).2 (by omega)
  have h3 : ¬ maway g key b < d := fun q => hm _ q h2
  omega
theorem maway_far {g : mp} (hg : mok g) {key b : Nat} (hb : b < mn g 0) (h : ∀ n, ¬ mpath g key n b) : maway g key b = 1000 := by
  have h1 := maway_S hg key b hb
  have h2 : ¬ maway g key b < 1000 := fun q => h _ (h1.2 q)
  omega
theorem maway_path {g : mp} (hg : mok g) {key b : Nat} (hb : b < mn g 0) (h : maway g key b < 1000) : mpath g key (maway g key b) b ∧ (∀ n, n < maway g key b → ¬ mpath g key n b) ∧ maway g key b < mn g 0 := by
  have h1 := (maway_S hg key b hb).2 h
  obtain ⟨d, h2, h3⟩ := least_path h1
  have e := maway_dist hg h2 h3
  rw [e]
  exact ⟨h2, h3, mpath_bound h2 h3⟩
