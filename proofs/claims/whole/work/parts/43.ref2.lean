/-! the reference: moving, copying, drawing, emptying, beginning -/
def mmv (g : mp) (x y k : Nat) : mp := upd (upd g (y + k) (g (x + k))) (x + k) 0
def mmv4 (g : mp) (x y : Nat) : mp := mmv (mmv (mmv (mmv g x y 0) x y 1) x y 2) x y 3
def mmove (g : mp) (x y : Nat) : mp := upd (mmv4 g x y) (y + 3) (mmv4 g x y (y + 3) + 1)
theorem pm_lo_moves {G : tc_G} (hG : gm G) {u : tc_S} {B x y k f : Nat} {g : mp} (hB : B + 292 ≤ 3253) (hx : x + 4 ≤ 292) (hy : y + 4 ≤ 292) (hk : k < 4) : lo_X12_moves_2 G (f + 1) 71 (nI (B + x)) (nI (B + y)) (nI k) (uM u B g) = lo_X12_moves_2 G f 71 (nI (B + x)) (nI (B + y)) (nI (k + 1)) (uM u B (mmv g x y k)) := by
  rw [lo_X12_moves_2, show (4 : Int32) = nI 4 from rfl, pu_le (by omega) (by omega), if_neg (by omega), hG.1.1, nI_add, nI_add, show B + x + k = B + (x + k) by omega, show B + y + k = B + (y + k) by omega, uM_ld hG hB (by omega), uM_sd hG hB (by omega), uM_sd hG hB (by omega)]
  unfold tc_let
  rw [nI_1]
  rfl
theorem pm_moves {G : tc_G} (hG : gm G) {u : tc_S} {B x y : Nat} {g : mp} (hB : B + 292 ≤ 3253) (hM : isM u B g) (hx : x + 4 ≤ 292) (hy : y + 4 ≤ 292) : fn_X12_moves G 71 (nI (B + x)) (nI (B + y)) u = some (0, uM u B (mmove g x y)) := by
  have hfu := tc_fu_big
  obtain ⟨f, hf⟩ : ∃ k, tc_fu = k + 1 + 1 + 1 + 1 + 1 := ⟨tc_fu - 5, by omega⟩
  unfold fn_X12_moves
  rw [hf, show (0 : Int32) = nI 0 from rfl]
  conv => lhs; rw [← uM_id hM]
  rw [pm_lo_moves hG hB hx hy (by omega), pm_lo_moves hG hB hx hy (by omega), pm_lo_moves hG hB hx hy (by omega), pm_lo_moves hG hB hx hy (by omega), lo_X12_moves_2, if_pos (by decide), hG.1.1, show nI (B + y) + 3 = nI (B + (y + 3)) from nI_add (B + y) 3, uM_ld hG hB (by omega), uM_sd hG hB (by omega)]
  rfl
def pr (B n : Nat) (g : mp) (A : Nat → Int32) : Nat → Int32 := fun k => if B ≤ k ∧ k < B + n then g (k - B) else A k
theorem pr_step {B n : Nat} {g : mp} {A : Nat → Int32} : upd (pr B n g A) (B + n) (g n) = pr B (n + 1) g A := by
  funext k
  unfold upd pr
  by_cases h : k = B + n
  · subst h
    rw [if_pos rfl, if_pos ⟨by omega, by omega⟩, show B + n - B = n by omega]
  · rw [if_neg h]
    by_cases h2 : B ≤ k ∧ k < B + n
    · rw [if_pos h2, if_pos ⟨h2.1, by omega⟩]
    · rw [if_neg h2, if_neg (by omega)]
theorem pr_0 {B : Nat} {g : mp} {A : Nat → Int32} : pr B 0 g A = A := by
  funext k
  unfold pr
  rw [if_neg (by omega)]
theorem pm_lo_copies {G : tc_G} (hG : gm G) {u : tc_S} {F T : Nat} {g : mp} (hF : F + 292 ≤ 3253) (hT : T + 292 ≤ 3253) (hd : F + 292 ≤ T ∨ T + 292 ≤ F) (hM : isM u F g) : ∀ (n i f : Nat), i + n = 292 → n < f → lo_X12_copies_2 G f 71 (nI F) (nI T) (nI i) (tc_wr u 72 (pr T i g (u.1 72))) = some (0, uM u T g) := by
  intro n
  induction n with
  | zero =>
    intro i f hi hf
    obtain ⟨f, rfl⟩ : ∃ k, f = k + 1 := ⟨f - 1, by omega⟩
    obtain rfl : i = 292 := by omega
    rw [lo_X12_copies_2, if_pos (by decide)]
    rfl
  | succ n ih =>
    intro i f hi hf
    obtain ⟨f, rfl⟩ : ∃ k, f = k + 1 := ⟨f - 1, by omega⟩
    rw [lo_X12_copies_2, show (292 : Int32) = nI 292 from rfl, pu_le (by omega) (by omega), if_neg (by omega), hG.1.1, nI_add, nI_add, pu_ld hG.1.2 (by omega) (by omega), pu_sd hG.1.2 (by omega) (by omega), wr_same, w_wr, wr_wr, wr_same]
    have e : pr T i g (u.1 72) (F + i) = g i := by
      unfold pr
      rw [if_neg (by omega), hM i (by omega)]
    rw [e, pr_step]
    unfold tc_let
    rw [nI_1]
    exact ih (i + 1) f (by omega) (by omega)
theorem pm_copies {G : tc_G} (hG : gm G) {u : tc_S} {F T : Nat} {g : mp} (hF : F + 292 ≤ 3253) (hT : T + 292 ≤ 3253) (hd : F + 292 ≤ T ∨ T + 292 ≤ F) (hM : isM u F g) : fn_X12_copies G 71 (nI F) (nI T) u = some (0, uM u T g) := by
  have h := pm_lo_copies hG hF hT hd hM 292 0 tc_fu (by omega) (by have := tc_fu_big; omega)
  rw [pr_0, wr_id] at h
  exact h
def mback (g g0 : mp) : mp := upd g0 11 (g 11)
theorem pm_comesBack {G : tc_G} (hG : gm G) {u : tc_S} {F T : Nat} {g g0 : mp} (hF : F + 292 ≤ 3253) (hT : T + 292 ≤ 3253) (hd : F + 292 ≤ T ∨ T + 292 ≤ F) (hM0 : isM u F g0) (hM : isM u T g) : fn_X12_comesBack G 71 (nI F) (nI T) u = some (0, uM u T (mback g g0)) := by
  unfold fn_X12_comesBack
  rw [hG.1.1, show nI T + 11 = nI (T + 11) from nI_add T 11, isM_ld hG hM hT (by omega), pm_copies hG hF hT hd hM0, pu_b, uM_sd hG hT (by omega)]
  rfl
def mseed (x : Int32) : Int32 := x * 1103515245 + 12345
def mpick (x : Int32) (n : Int32) : Int32 := tc_mod (tc_ush x 16) n
theorem pm_draws {G : tc_G} (hG : gm G) {u : tc_S} {B : Nat} {g : mp} {n : Int32} (hB : B + 292 ≤ 3253) (hM : isM u B g) (hn : ¬ n = 0) : fn_X12_draws G 71 (nI B) n u = some (mpick (mseed (g 11)) n, uM u B (upd g 11 (mseed (g 11)))) := by
  unfold fn_X12_draws
  rw [hG.1.1, show nI B + 11 = nI (B + 11) from nI_add B 11]
  conv => lhs; rw [← uM_id hM]
  rw [uM_ld hG hB (by omega), uM_sd hG hB (by omega), uM_ld hG hB (by omega)]
  unfold tc_nz
  rw [if_neg hn, show upd g 11 (g 11 * 1103515245 + 12345) 11 = mseed (g 11) from by simp [upd, mseed]]
  rfl
def mzero (g : mp) (lo hi : Nat) : mp := fun k => if lo ≤ k ∧ k < hi then 0 else g k
theorem mzero_step {g : mp} {lo i : Nat} (h : lo ≤ i) : upd (mzero g lo i) i 0 = mzero g lo (i + 1) := by
  funext k
  unfold upd mzero
  by_cases hk : k = i
  · subst hk; rw [if_pos rfl, if_pos ⟨h, by omega⟩]
  · rw [if_neg hk]
    by_cases h2 : lo ≤ k ∧ k < i
    · rw [if_pos h2, if_pos ⟨h2.1, by omega⟩]
    · rw [if_neg h2, if_neg (by omega)]
theorem mzero_0 {g : mp} {lo : Nat} : mzero g lo lo = g := by
  funext k
  unfold mzero
  rw [if_neg (by omega)]
def mempt (g : mp) : mp := upd (mzero g 20 292) 18 0
theorem pm_lo_empties {G : tc_G} (hG : gm G) {u : tc_S} {B : Nat} {g : mp} (hB : B + 292 ≤ 3253) : ∀ (n i f : Nat), i + n = 292 → 20 ≤ i → n < f → lo_X12_empties_3 G f 71 (nI B) (nI i) (uM u B (mzero g 20 i)) = some (0, uM u B (mempt g)) := by
  intro n
  induction n with
  | zero =>
    intro i f hi h20 hf
    obtain ⟨f, rfl⟩ : ∃ k, f = k + 1 := ⟨f - 1, by omega⟩
    obtain rfl : i = 292 := by omega
    rw [lo_X12_empties_3, if_pos (by decide), hG.1.1, show nI B + 18 = nI (B + 18) from nI_add B 18, uM_sd hG hB (by omega)]
    rfl
  | succ n ih =>
    intro i f hi h20 hf
    obtain ⟨f, rfl⟩ : ∃ k, f = k + 1 := ⟨f - 1, by omega⟩
    rw [lo_X12_empties_3, show (292 : Int32) = nI 292 from rfl, pu_le (by omega) (by omega), if_neg (by omega), hG.1.1, nI_add, uM_sd hG hB (by omega), mzero_step h20]
    unfold tc_let
    rw [nI_1]
    exact ih (i + 1) f (by omega) (by omega) (by omega)
theorem pm_empties {G : tc_G} (hG : gm G) {u : tc_S} {B : Nat} {g : mp} (hB : B + 292 ≤ 3253) (hM : isM u B g) : fn_X12_empties G 71 (nI B) u = some (0, uM u B (mempt g)) := by
  have h := pm_lo_empties (u := u) (g := g) hG hB 272 20 tc_fu (by omega) (by omega) (by have := tc_fu_big; omega)
  rw [mzero_0, uM_id hM] at h
  exact h
def minit : mp := fun k => match k with
  | 0 => 4
  | 1 => 2
  | 2 => 2
  | 3 => 6
  | 4 => 2
  | 5 => 2
  | 7 => 3
  | 8 => 1
  | 9 => 5
  | 10 => 2
  | _ => 0
theorem uM_cong {u : tc_S} {B : Nat} {g g2 : mp} (h : ∀ k, k < 292 → g k = g2 k) : uM u B g = uM u B g2 := by
  unfold uM
  congr 1
  funext k
  unfold reg
  split
  · exact h _ (by omega)
  · rfl
theorem pm_lo_begins {G : tc_G} (hG : gm G) {u : tc_S} {B : Nat} {g : mp} (hB : B + 292 ≤ 3253) : ∀ (n i f : Nat), i + n = 292 → n < f → lo_X12_begins_2 G f 71 (nI B) (nI i) (uM u B (mzero g 0 i)) = some (0, uM u B minit) := by
  intro n
  induction n with
  | zero =>
    intro i f hi hf
    obtain ⟨f, rfl⟩ : ∃ k, f = k + 1 := ⟨f - 1, by omega⟩
    obtain rfl : i = 292 := by omega
    rw [lo_X12_begins_2, if_pos (by decide), hG.1.1]
    simp only [show (nI B + 0) = nI (B + 0) from nI_add B 0, show (nI B + 1) = nI (B + 1) from nI_add B 1, show (nI B + 2) = nI (B + 2) from nI_add B 2, show (nI B + 3) = nI (B + 3) from nI_add B 3, show (nI B + 4) = nI (B + 4) from nI_add B 4, show (nI B + 5) = nI (B + 5) from nI_add B 5, show (nI B + 7) = nI (B + 7) from nI_add B 7, show (nI (B + 7) + 1) = nI (B + 8) from nI_add (B + 7) 1, show (nI (B + 7) + 2) = nI (B + 9) from nI_add (B + 7) 2, show (nI (B + 7) + 3) = nI (B + 10) from nI_add (B + 7) 3]
    rw [uM_sd hG hB (by omega), uM_sd hG hB (by omega), uM_sd hG hB (by omega), uM_sd hG hB (by omega), uM_sd hG hB (by omega), uM_sd hG hB (by omega), uM_sd hG hB (by omega), uM_sd hG hB (by omega), uM_sd hG hB (by omega), uM_sd hG hB (by omega)]
    congr 2
    refine uM_cong fun k hk => ?_
    unfold upd mzero
    by_cases h11 : k < 11
    · rcases (show k = 0 ∨ k = 1 ∨ k = 2 ∨ k = 3 ∨ k = 4 ∨ k = 5 ∨ k = 6 ∨ k = 7 ∨ k = 8 ∨ k = 9 ∨ k = 10 by omega) with rfl | rfl | rfl | rfl | rfl | rfl | rfl | rfl | rfl | rfl | rfl <;> rfl
    · obtain ⟨j, rfl⟩ : ∃ j, k = j + 11 := ⟨k - 11, by omega⟩
      rw [if_neg (by omega), if_neg (by omega), if_neg (by omega), if_neg (by omega), if_neg (by omega), if_neg (by omega), if_neg (by omega), if_neg (by omega), if_neg (by omega), if_neg (by omega), if_pos ⟨by omega, by omega⟩]
      rfl
  | succ n ih =>
    intro i f hi hf
    obtain ⟨f, rfl⟩ : ∃ k, f = k + 1 := ⟨f - 1, by omega⟩
    rw [lo_X12_begins_2, show (292 : Int32) = nI 292 from rfl, pu_le (by omega) (by omega), if_neg (by omega), hG.1.1, nI_add, uM_sd hG hB (by omega), mzero_step (by omega)]
    unfold tc_let
    rw [nI_1]
    exact ih (i + 1) f (by omega) (by omega)
theorem isM_self {u : tc_S} {B : Nat} : isM u B (fun k => u.1 72 (B + k)) := fun _ _ => rfl
theorem pm_begins {G : tc_G} (hG : gm G) {u : tc_S} {B : Nat} (hB : B + 292 ≤ 3253) : fn_X12_begins G 71 (nI B) u = some (0, uM u B minit) := by
  have h := pm_lo_begins (u := u) (g := fun k => u.1 72 (B + k)) hG hB 292 0 tc_fu (by omega) (by have := tc_fu_big; omega)
  rw [mzero_0, uM_id isM_self] at h
  exact h
