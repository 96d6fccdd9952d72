/-! the reference: how far each bucket is from an empty place -/
def gm2 (G : tc_G) : Prop := (tc_p G 71 6 = 75 ∧ G.2.2.1 75 = 16) ∧ (tc_p G 71 7 = 76 ∧ G.2.2.1 76 = 16) ∧ (tc_p G 71 8 = 77 ∧ G.2.2.1 77 = 16)
/-- the other bucket of what is in a place -/
def moth (g : mp) (b p : Nat) : Option Nat := if mn g (mcell b p) = 0 then none else if mhash g 0 (mn g (mcell b p) - 1) = mhash g 1 (mn g (mcell b p) - 1) then none else if b = mhash g 0 (mn g (mcell b p) - 1) then some (mhash g 1 (mn g (mcell b p) - 1)) else some (mhash g 0 (mn g (mcell b p) - 1))
def mful (g : mp) (key b : Nat) : Bool := decide (b = mhash g 0 key) || decide (b = mhash g 1 key) || (memp g b).isNone
def rst (g : mp) (b p : Nat) (a : Nat → Nat) : Nat → Nat := match moth g b p with
  | none => a
  | some c => if a c + 1 < a b then fun k => if k = b then a c + 1 else a k else a
def rx1 (g : mp) (b : Nat) : Nat → Nat → (Nat → Nat) → Nat → Nat
  | 0, _, a => a
  | n + 1, p, a => rx1 g b n (p + 1) (rst g b p a)
def rx2 (g : mp) : Nat → Nat → (Nat → Nat) → Nat → Nat
  | 0, _, a => a
  | n + 1, b, a => rx2 g n (b + 1) (rx1 g b (mn g 1) 0 a)
def rx3 (g : mp) : Nat → (Nat → Nat) → Nat → Nat
  | 0, a => a
  | n + 1, a => rx3 g n (rx2 g (mn g 0) 0 a)
def ra0 (g : mp) (key : Nat) : Nat → Nat := fun b => if mful g key b then 1000 else 0
def maway (g : mp) (key : Nat) : Nat → Nat := rx3 g (mn g 0) (ra0 g key)
theorem moth_lt {g : mp} (hg : mok g) {b p c : Nat} (h : moth g b p = some c) : c < mn g 0 := by
  unfold moth at h
  split at h
  · cases h
  · split at h
    · cases h
    · split at h
      · cases h; exact mhash_lt hg _ _
      · cases h; exact mhash_lt hg _ _
def aw (nb : Nat) (a : Nat → Nat) (old : Nat → Int32) : Nat → Int32 := fun k => if k < nb then nI (a k) else old k
abbrev uA (u : tc_S) (nb : Nat) (a : Nat → Nat) : tc_S := tc_wr u 75 (aw nb a (u.1 75))
theorem isM_uA {u : tc_S} {nb B : Nat} {a : Nat → Nat} {g : mp} (h : isM u B g) : isM (uA u nb a) B g := fun k hk => by
  rw [tc_wr_ne (by decide)]
  exact h k hk
theorem uA_ld {β : Type} {G : tc_G} (h2 : gm2 G) {u : tc_S} {nb k : Nat} {a : Nat → Nat} {q : Int32 → Option β} (hn : nb ≤ 16) (hk : k < nb) : tc_ld G (uA u nb a) 75 (nI k) q = q (nI (a k)) := by
  rw [pu_ld h2.1.2 (by omega) (by omega), wr_same]
  unfold aw
  rw [if_pos hk]
theorem uA_sd {β : Type} {G : tc_G} (h2 : gm2 G) {u : tc_S} {nb k x : Nat} {a : Nat → Nat} {q : tc_S → Option β} (hn : nb ≤ 16) (hk : k < nb) : tc_sd G (uA u nb a) 75 (nI k) (nI x) q = q (uA u nb (fun j => if j = k then x else a j)) := by
  rw [pu_sd h2.1.2 (by omega) (by omega), w_wr, wr_same, wr_wr]
  congr 2
  funext j
  unfold upd aw
  by_cases h : j = k
  · subst h; simp [hk]
  · simp [h]
theorem rst_le {g : mp} {b p : Nat} {a : Nat → Nat} (h : ∀ k, a k ≤ 1000) : ∀ k, rst g b p a k ≤ 1000 := by
  intro k
  unfold rst
  cases moth g b p with
  | none => exact h k
  | some c =>
    have hb := h b
    show (if a c + 1 < a b then fun k => if k = b then a c + 1 else a k else a) k ≤ 1000
    by_cases h1 : a c + 1 < a b
    · rw [if_pos h1]
      show (if k = b then a c + 1 else a k) ≤ 1000
      by_cases hk : k = b
      · rw [if_pos hk]; omega
      · rw [if_neg hk]; exact h k
    · rw [if_neg h1]; exact h k
theorem rx1_le {g : mp} {b : Nat} : ∀ (n p : Nat) (a : Nat → Nat), (∀ k, a k ≤ 1000) → ∀ k, rx1 g b n p a k ≤ 1000
  | 0, _, _, h => h
  | n + 1, p, _, h => rx1_le n (p + 1) _ (rst_le h)
theorem rx2_le {g : mp} : ∀ (n b : Nat) (a : Nat → Nat), (∀ k, a k ≤ 1000) → ∀ k, rx2 g n b a k ≤ 1000
  | 0, _, _, h => h
  | n + 1, b, _, h => rx2_le n (b + 1) _ (rx1_le _ _ _ h)
/-- one place's relaxation -/
theorem pm_rst {G : tc_G} (hG : gm G) (h2 : gm2 G) {u : tc_S} {B b p : Nat} {t : Int32} {g : mp} (hB : B + 292 ≤ 3253) (hM : isM u B g) (hg : mok g) (hb : b < mn g 0) (hp : p < mn g 1) {a : Nat → Nat} (ha : ∀ k, a k ≤ 1000) (K88 : Nat → Int32 → Int32 → Int32 → tc_S → Option (Int32 × tc_S)) (K97 : Nat → Int32 → Int32 → Int32 → Int32 → tc_S → Option (Int32 × tc_S)) (f : Nat) : lo_X12_laysAway_106 G K88 K97 (f + 1) 71 (nI B) (nI (mn g 0)) t (nI b) (nI p) (uA u (mn g 0) a) = lo_X12_laysAway_106 G K88 K97 f 71 (nI B) (nI (mn g 0)) t (nI b) (nI (p + 1)) (uA u (mn g 0) (rst g b p a)) := by
  have hn := hg.2.1.2
  have hs := hg.2.2.1
  have hM2 : isM (uA u (mn g 0) a) B g := isM_uA hM
  have hc : mcell b p < 292 := by unfold mcell; omega
  obtain ⟨q, hq1, hq2⟩ := hg.2.2.2.2.2.2.2.2.2.2.1 b p (by omega) (by omega)
  have hq3 : mn g (mcell b p) = q := by unfold mn; rw [hq2, nI_clamp (by omega)]
  rw [lo_X12_laysAway_106, hG.1.1, show nI B + 1 = nI (B + 1) from nI_1 B, isM_ld hG hM2 hB (by omega), hg.1 1 (by omega), pu_le (by omega) (by omega), if_neg (by omega), pm_cell (by omega), pu_b, pm_isEntry hG (by omega) (by rw [hM2 _ hc]; exact hq2) (by omega), pu_b, hM2 _ hc, hq2]
  by_cases h0 : q = 0
  · subst h0
    rw [if_pos (show nI 0 = 0 from rfl), if_pos rfl]
    unfold bl_X12_laysAway_155 bl_X12_laysAway_197
    rw [if_pos (by decide)]
    unfold tc_let rst moth
    rw [if_pos hq3, nI_1]
  · rw [if_neg (nI_ne0 (by omega) (by omega)), if_neg (by decide), pm_keyOf hG (by omega), pu_b, hM2 _ hc, hq2, show nI q - 1 = nI (q - 1) from by rw [show q = (q - 1) + 1 by omega, nI_pred]; rfl, pm_other hG hB hM2 hg (by omega) (by omega), pu_b]
    have l0 := mhash_lt hg 0 (q - 1)
    have l1 := mhash_lt hg 1 (q - 1)
    have key : ∀ c, c < mn g 0 → moth g b p = some c → bl_X12_laysAway_155 G K88 K97 (lo_X12_laysAway_106 G K88 K97 f) 71 (nI B) (nI (mn g 0)) t (nI b) (nI p) (nI c) (uA u (mn g 0) a) = lo_X12_laysAway_106 G K88 K97 f 71 (nI B) (nI (mn g 0)) t (nI b) (nI (p + 1)) (uA u (mn g 0) (rst g b p a)) := by
      intro c hc2 hm
      have ac := ha c
      have ab := ha b
      unfold bl_X12_laysAway_155 bl_X12_laysAway_197 rst
      rw [hm, if_neg (nI_pos (by omega)), h2.1.1, uA_ld h2 hn hc2, uA_ld h2 hn hb, show nI (a c) + 1 = nI (a c + 1) from nI_1 _, pu_le (by omega) (by omega)]
      by_cases hl : a b ≤ a c + 1
      · rw [if_pos hl]
        simp only
        rw [if_neg (by omega)]
        unfold tc_let
        rw [nI_1]
      · rw [if_neg hl, uA_ld h2 hn hc2, show nI (a c) + 1 = nI (a c + 1) from nI_1 _, uA_sd h2 hn hb]
        simp only
        rw [if_pos (by omega)]
        unfold tc_let
        rw [nI_1]
    by_cases h1 : mhash g 0 (q - 1) = mhash g 1 (q - 1)
    · rw [if_pos h1]
      unfold bl_X12_laysAway_155 bl_X12_laysAway_197
      rw [if_pos (by decide)]
      unfold tc_let rst moth
      rw [hq3, if_neg h0, if_pos h1, nI_1]
    · rw [if_neg h1]
      by_cases h3 : b = mhash g 0 (q - 1)
      · rw [if_pos h3]
        exact key _ l1 (by unfold moth; rw [hq3, if_neg h0, if_neg h1, if_pos h3])
      · rw [if_neg h3]
        exact key _ l0 (by unfold moth; rw [hq3, if_neg h0, if_neg h1, if_neg h3])
theorem pm_lo106 {G : tc_G} (hG : gm G) (h2 : gm2 G) {u : tc_S} {B b : Nat} {t : Int32} {g : mp} (hB : B + 292 ≤ 3253) (hM : isM u B g) (hg : mok g) (hb : b < mn g 0) (K88 : Nat → Int32 → Int32 → Int32 → tc_S → Option (Int32 × tc_S)) (K97 : Nat → Int32 → Int32 → Int32 → Int32 → tc_S → Option (Int32 × tc_S)) : ∀ (n p f : Nat) (a : Nat → Nat), p + n = mn g 1 → n < f → (∀ k, a k ≤ 1000) → lo_X12_laysAway_106 G K88 K97 f 71 (nI B) (nI (mn g 0)) t (nI b) (nI p) (uA u (mn g 0) a) = K97 71 (nI B) (nI (mn g 0)) t (nI (b + 1)) (uA u (mn g 0) (rx1 g b n p a)) := by
  have hs := hg.2.2.1
  intro n
  induction n with
  | zero =>
    intro p f a hp hf ha
    obtain ⟨f, rfl⟩ : ∃ k, f = k + 1 := ⟨f - 1, by omega⟩
    have hM2 : isM (uA u (mn g 0) a) B g := isM_uA hM
    rw [lo_X12_laysAway_106, hG.1.1, show nI B + 1 = nI (B + 1) from nI_1 B, isM_ld hG hM2 hB (by omega), hg.1 1 (by omega), pu_le (by omega) (by omega), if_pos (by omega)]
    unfold tc_let
    rw [nI_1]
    rfl
  | succ n ih =>
    intro p f a hp hf ha
    obtain ⟨f, rfl⟩ : ∃ k, f = k + 1 := ⟨f - 1, by omega⟩
    rw [pm_rst hG h2 hB hM hg hb (by omega) ha, ih (p + 1) f _ (by omega) (by omega) (rst_le ha)]
    rfl
theorem pm_lo97 {G : tc_G} (hG : gm G) (h2 : gm2 G) {u : tc_S} {B : Nat} {t : Int32} {g : mp} (hB : B + 292 ≤ 3253) (hM : isM u B g) (hg : mok g) (K88 : Nat → Int32 → Int32 → Int32 → tc_S → Option (Int32 × tc_S)) : ∀ (n b f : Nat) (a : Nat → Nat), b + n = mn g 0 → n < f → (∀ k, a k ≤ 1000) → lo_X12_laysAway_97 G K88 f 71 (nI B) (nI (mn g 0)) t (nI b) (uA u (mn g 0) a) = K88 71 (nI B) (nI (mn g 0)) (t + 1) (uA u (mn g 0) (rx2 g n b a)) := by
  have hn := hg.2.1.2
  have hs := hg.2.2.1
  have hfu := tc_fu_big
  intro n
  induction n with
  | zero =>
    intro b f a hp hf ha
    obtain ⟨f, rfl⟩ : ∃ k, f = k + 1 := ⟨f - 1, by omega⟩
    rw [lo_X12_laysAway_97, pu_le (by omega) (by omega), if_pos (by omega)]
    rfl
  | succ n ih =>
    intro b f a hp hf ha
    obtain ⟨f, rfl⟩ : ∃ k, f = k + 1 := ⟨f - 1, by omega⟩
    rw [lo_X12_laysAway_97, pu_le (by omega) (by omega), if_neg (by omega), show (0 : Int32) = nI 0 from rfl, pm_lo106 hG h2 hB hM hg (by omega) K88 _ (mn g 1) 0 tc_fu a (by omega) (by omega) ha, ih (b + 1) f _ (by omega) (by omega) (rx1_le _ _ _ ha)]
    rfl
theorem pm_lo88 {G : tc_G} (hG : gm G) (h2 : gm2 G) {u : tc_S} {B : Nat} {g : mp} (hB : B + 292 ≤ 3253) (hM : isM u B g) (hg : mok g) : ∀ (n t f : Nat) (a : Nat → Nat), t + n = mn g 0 → n < f → (∀ k, a k ≤ 1000) → lo_X12_laysAway_88 G f 71 (nI B) (nI (mn g 0)) (nI t) (uA u (mn g 0) a) = some (0, uA u (mn g 0) (rx3 g n a)) := by
  have hn := hg.2.1.2
  have hfu := tc_fu_big
  intro n
  induction n with
  | zero =>
    intro t f a hp hf ha
    obtain ⟨f, rfl⟩ : ∃ k, f = k + 1 := ⟨f - 1, by omega⟩
    rw [lo_X12_laysAway_88, pu_le (by omega) (by omega), if_pos (by omega)]
    rfl
  | succ n ih =>
    intro t f a hp hf ha
    obtain ⟨f, rfl⟩ : ∃ k, f = k + 1 := ⟨f - 1, by omega⟩
    rw [lo_X12_laysAway_88, pu_le (by omega) (by omega), if_neg (by omega), show (0 : Int32) = nI 0 from rfl, pm_lo97 hG h2 hB hM hg _ (mn g 0) 0 tc_fu a (by omega) (by omega) ha, nI_1, ih (t + 1) f _ (by omega) (by omega) (rx2_le _ _ _ ha)]
    rfl
