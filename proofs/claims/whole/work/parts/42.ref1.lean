/-! the reference: where a key lies, free places, laying, copying -/
theorem wr_same (u : tc_S) (i : Nat) (f : Nat → Int32) : (tc_wr u i f).1 i = f := tc_wr_row u i f
theorem wr_wr (u : tc_S) (i : Nat) (f g : Nat → Int32) : tc_wr (tc_wr u i f) i g = tc_wr u i g := by
  unfold tc_wr
  congr 1
  funext a
  by_cases h : a = i <;> simp [h]
theorem wr_id (u : tc_S) (i : Nat) : tc_wr u i (u.1 i) = u := by
  unfold tc_wr
  refine Prod.ext ?_ rfl
  funext a
  by_cases h : a = i
  · subst h; simp
  · simp [h]
theorem w_wr (u : tc_S) (i k : Nat) (x : Int32) : tc_w u i k x = tc_wr u i (upd (u.1 i) k x) := by
  unfold tc_w tc_wr
  congr 1
  funext a b
  by_cases h : a = i
  · subst h; simp [upd]
  · simp [h]
/-- the region at B holds g, all else is as in A -/
def reg (B : Nat) (g : mp) (A : Nat → Int32) : Nat → Int32 := fun k => if B ≤ k ∧ k < B + 292 then g (k - B) else A k
theorem reg_in {B k : Nat} {g : mp} {A : Nat → Int32} (h : k < 292) : reg B g A (B + k) = g k := by
  unfold reg
  rw [if_pos ⟨by omega, by omega⟩]
  congr 1
  omega
theorem reg_out {B k : Nat} {g : mp} {A : Nat → Int32} (h : k < B ∨ B + 292 ≤ k) : reg B g A k = A k := by
  unfold reg
  rw [if_neg (by omega)]
theorem reg_id {u : tc_S} {B : Nat} {g : mp} (h : isM u B g) : reg B g (u.1 72) = u.1 72 := by
  funext k
  unfold reg
  split
  · rename_i h1
    rw [← h (k - B) (by omega), show B + (k - B) = k by omega]
  · rfl
theorem reg_upd {B k : Nat} {g : mp} {A : Nat → Int32} {x : Int32} (h : k < 292) : upd (reg B g A) (B + k) x = reg B (upd g k x) A := by
  funext j
  unfold upd reg
  by_cases hj : j = B + k
  · subst hj
    rw [if_pos rfl, if_pos ⟨by omega, by omega⟩]
    show x = if B + k - B = k then x else _
    rw [if_pos (by omega)]
  · rw [if_neg hj]
    split
    · show _ = if j - B = k then x else _
      rw [if_neg (by omega)]
    · rfl
theorem reg_reg {B : Nat} {g g2 : mp} {A : Nat → Int32} : reg B g2 (reg B g A) = reg B g2 A := by
  funext k
  unfold reg
  split <;> simp_all
theorem isM_reg {u : tc_S} {B : Nat} {g : mp} {A : Nat → Int32} : isM (tc_wr u 72 (reg B g A)) B g := fun k hk => by
  rw [wr_same, reg_in hk]
/-- the store with the region at B holding g -/
abbrev uM (u : tc_S) (B : Nat) (g : mp) : tc_S := tc_wr u 72 (reg B g (u.1 72))
theorem uM_id {u : tc_S} {B : Nat} {g : mp} (h : isM u B g) : uM u B g = u := by
  unfold uM
  rw [reg_id h, wr_id]
theorem uM_uM {u : tc_S} {B : Nat} {g g2 : mp} : uM (uM u B g) B g2 = uM u B g2 := by
  unfold uM
  rw [wr_wr, wr_same, reg_reg]
theorem uM_isM {u : tc_S} {B : Nat} {g : mp} : isM (uM u B g) B g := isM_reg
theorem uM_ne {u : tc_S} {B : Nat} {g : mp} {o : Nat} (h : o ≠ 72) : (uM u B g).1 o = u.1 o := tc_wr_ne h
theorem uM_out {u : tc_S} {B : Nat} {g : mp} {k : Nat} (h : k < B ∨ B + 292 ≤ k) : (uM u B g).1 72 k = u.1 72 k := by
  unfold uM
  rw [wr_same, reg_out h]
/-- one store into the region -/
theorem uM_sd {β : Type} {G : tc_G} (hG : gm G) {u : tc_S} {B k : Nat} {g : mp} {x : Int32} {q : tc_S → Option β} (hB : B + 292 ≤ 3253) (hk : k < 292) : tc_sd G (uM u B g) 72 (nI (B + k)) x q = q (uM u B (upd g k x)) := by
  rw [pu_sd hG.1.2 (by omega) (by omega), w_wr]
  unfold uM
  rw [wr_wr, wr_same, reg_upd hk]
theorem uM_ld {β : Type} {G : tc_G} (hG : gm G) {u : tc_S} {B k : Nat} {g : mp} {q : Int32 → Option β} (hB : B + 292 ≤ 3253) (hk : k < 292) : tc_ld G (uM u B g) 72 (nI (B + k)) q = q (g k) := by
  rw [pu_ld hG.1.2 (by omega) (by omega), uM_isM k hk]
theorem isM_ld {β : Type} {G : tc_G} (hG : gm G) {u : tc_S} {B k : Nat} {g : mp} {q : Int32 → Option β} (hM : isM u B g) (hB : B + 292 ≤ 3253) (hk : k < 292) : tc_ld G u 72 (nI (B + k)) q = q (g k) := by
  rw [pu_ld hG.1.2 (by omega) (by omega), hM k hk]
def mlay (g : mp) (x : Nat) (key value born moved : Int32) : mp := upd (upd (upd (upd g x (key + 1)) (x + 1) value) (x + 2) born) (x + 3) moved
theorem pm_lays {G : tc_G} (hG : gm G) {u : tc_S} {B x : Nat} {g : mp} {k v b m : Int32} (hB : B + 292 ≤ 3253) (hM : isM u B g) (hx : x + 4 ≤ 292) : fn_X12_lays G 71 (nI (B + x)) k v b m u = some (0, uM u B (mlay g x k v b m)) := by
  unfold fn_X12_lays
  rw [hG.1.1, ← uM_id hM, uM_sd hG hB (by omega), show nI (B + x) + 1 = nI (B + (x + 1)) from nI_add (B + x) 1, uM_sd hG hB (by omega), show nI (B + x) + 2 = nI (B + (x + 2)) from nI_add (B + x) 2, uM_sd hG hB (by omega), show nI (B + x) + 3 = nI (B + (x + 3)) from nI_add (B + x) 3, uM_sd hG hB (by omega)]
  rw [uM_id hM]
  rfl
def oIB (B : Nat) : Option Nat → Int32
  | some x => nI (B + x)
  | none => -1
def mfind (g : mp) (x : Int32) (b : Nat) : Option Nat := (ff (fun p => decide (g (mcell b p) = x)) (mn g 1) 0).map (mcell b)
def mfinds (g : mp) (x : Int32) : Option Nat := (ff (fun j => decide (g (msc j) = x)) (mn g 18) 0).map msc
def mlies (g : mp) (key : Nat) : Option Nat := match mfind g (nI (key + 1)) (mhash g 0 key) with
  | some x => some x
  | none => match mfind g (nI (key + 1)) (mhash g 1 key) with
    | some x => some x
    | none => mfinds g (nI (key + 1))
theorem pm_lo_lies74 {G : tc_G} (hG : gm G) {u : tc_S} {B key : Nat} {g : mp} (hB : B + 292 ≤ 3253) (hM : isM u B g) (hg : mok g) : ∀ (n i f : Nat), i + n = mn g 18 → n < f → lo_X12_lies_74 G f 71 (nI B) (nI key) (nI i) u = some (oIB B ((ff (fun j => decide (g (msc j) = nI (key + 1))) n i).map msc), u) := by
  have hs : mn g 18 ≤ 4 := Nat.le_trans hg.2.2.2.2.2.2.2.2.2.1.2 hg.2.2.2.1
  intro n
  induction n with
  | zero =>
    intro i f hi hf
    obtain ⟨f, rfl⟩ : ∃ k, f = k + 1 := ⟨f - 1, by omega⟩
    rw [lo_X12_lies_74, hG.1.1, show nI B + 18 = nI (B + 18) from nI_add B 18, isM_ld hG hM hB (by omega), hg.2.2.2.2.2.2.2.2.2.1.1, pu_le (by omega) (by omega), if_pos (by omega)]
    rfl
  | succ n ih =>
    intro i f hi hf
    obtain ⟨f, rfl⟩ : ∃ k, f = k + 1 := ⟨f - 1, by omega⟩
    have hc : msc i < 292 := by unfold msc; omega
    rw [lo_X12_lies_74, hG.1.1, show nI B + 18 = nI (B + 18) from nI_add B 18, isM_ld hG hM hB (by omega), hg.2.2.2.2.2.2.2.2.2.1.1, pu_le (by omega) (by omega), if_neg (by omega), pm_cellS, pu_b, isM_ld hG hM hB hc, nI_1]
    unfold ff
    by_cases h0 : g (msc i) = nI (key + 1)
    · rw [if_pos h0, if_pos (by simpa using h0), pm_cellS, pu_b]
      rfl
    · rw [if_neg h0, if_neg (by simpa using h0)]
      unfold tc_let
      rw [nI_1]
      exact ih (i + 1) f (by omega) (by omega)
theorem pm_lo_lies19 {G : tc_G} (hG : gm G) {u : tc_S} {B key b : Nat} {w : Int32} {g : mp} (hB : B + 292 ≤ 3253) (hM : isM u B g) (hg : mok g) (hb : b < 16) (K : Nat → Int32 → Int32 → Int32 → tc_S → Option (Int32 × tc_S)) : ∀ (n i f : Nat), i + n = mn g 1 → n < f → lo_X12_lies_19 G K f 71 (nI B) (nI key) w (nI b) (nI i) u = match (ff (fun p => decide (g (mcell b p) = nI (key + 1))) n i).map (mcell b) with
    | some x => some (nI (B + x), u)
    | none => K 71 (nI B) (nI key) (w + 1) u := by
  have hs := hg.2.2.1
  intro n
  induction n with
  | zero =>
    intro i f hi hf
    obtain ⟨f, rfl⟩ : ∃ k, f = k + 1 := ⟨f - 1, by omega⟩
    rw [lo_X12_lies_19, hG.1.1, nI_1, isM_ld hG hM hB (by omega), hg.1 1 (by omega), pu_le (by omega) (by omega), if_pos (by omega)]
    rfl
  | succ n ih =>
    intro i f hi hf
    obtain ⟨f, rfl⟩ : ∃ k, f = k + 1 := ⟨f - 1, by omega⟩
    have hc : mcell b i < 292 := by unfold mcell; omega
    rw [lo_X12_lies_19, hG.1.1, show nI B + 1 = nI (B + 1) from nI_1 B, isM_ld hG hM hB (by omega), hg.1 1 (by omega), pu_le (by omega) (by omega), if_neg (by omega), pm_cell (by omega), pu_b, isM_ld hG hM hB hc, show nI key + 1 = nI (key + 1) from nI_1 key]
    unfold ff
    by_cases h0 : g (mcell b i) = nI (key + 1)
    · rw [if_pos h0, if_pos (by simpa using h0), pm_cell (by omega), pu_b]
      rfl
    · rw [if_neg h0, if_neg (by simpa using h0)]
      unfold tc_let
      rw [nI_1]
      exact ih (i + 1) f (by omega) (by omega)
theorem pm_lies {G : tc_G} (hG : gm G) {u : tc_S} {B key : Nat} {g : mp} (hB : B + 292 ≤ 3253) (hM : isM u B g) (hg : mok g) (hk : key ≤ 999) : fn_X12_lies G 71 (nI B) (nI key) u = some (oIB B (mlies g key), u) := by
  have hs := hg.2.2.1
  have hfu := tc_fu_big
  have l0 := mhash_lt hg 0 key
  have l1 := mhash_lt hg 1 key
  have l2 := hg.2.1.2
  have h18 : mn g 18 ≤ 4 := Nat.le_trans hg.2.2.2.2.2.2.2.2.2.1.2 hg.2.2.2.1
  have e0 := pm_hash hG hB hM hg (w := 0) (by omega) hk
  have e1 := pm_hash hG hB hM hg (w := 1) (by omega) hk
  rw [show nI 0 = (0 : Int32) from rfl] at e0
  rw [show nI 1 = (1 : Int32) from rfl] at e1
  obtain ⟨f, hf⟩ : ∃ k, tc_fu = k + 3 := ⟨tc_fu - 3, by omega⟩
  unfold fn_X12_lies mlies mfind mfinds
  rw [hf, lo_X12_lies_2, if_neg (by decide), e0, pu_b]
  have z := fun K w b hb => pm_lo_lies19 (key := key) hG hB hM hg (w := w) (b := b) hb K (mn g 1) 0 tc_fu (by omega) (by omega)
  rw [show nI 0 = (0 : Int32) from rfl] at z
  rw [z _ _ _ (by omega)]
  cases ff (fun p => decide (g (mcell (mhash g 0 key) p) = nI (key + 1))) (mn g 1) 0 with
  | some p => rfl
  | none =>
    show lo_X12_lies_2 G (f + 2) 71 (nI B) (nI key) (0 + 1) u = _
    rw [lo_X12_lies_2, if_neg (by decide), show (0 : Int32) + 1 = 1 from rfl, e1, pu_b, z _ _ _ (by omega)]
    cases ff (fun p => decide (g (mcell (mhash g 1 key) p) = nI (key + 1))) (mn g 1) 0 with
    | some p => rfl
    | none =>
      show lo_X12_lies_2 G (f + 1) 71 (nI B) (nI key) (1 + 1) u = _
      rw [lo_X12_lies_2, if_pos (by decide)]
      exact pm_lo_lies74 hG hB hM hg (mn g 18) 0 tc_fu (by omega) (by omega)
def mfree (g : mp) (key : Nat) : Option Nat := match memp g (mhash g 0 key) with
  | some p => some (mcell (mhash g 0 key) p)
  | none => (memp g (mhash g 1 key)).map (mcell (mhash g 1 key))
theorem ff_lt {P : Nat → Bool} : ∀ {n i x : Nat}, ff P n i = some x → i ≤ x ∧ x < i + n ∧ P x = true := by
  intro n
  induction n with
  | zero => intro i x h; cases h
  | succ n ih =>
    intro i x h
    unfold ff at h
    split at h
    · cases h; rename_i hp; exact ⟨Nat.le_refl _, by omega, hp⟩
    · obtain ⟨h1, h2, h3⟩ := ih h
      exact ⟨by omega, by omega, h3⟩
theorem pm_freeFor {G : tc_G} (hG : gm G) {u : tc_S} {B key : Nat} {g : mp} (hB : B + 292 ≤ 3253) (hM : isM u B g) (hg : mok g) (hk : key ≤ 999) : fn_X12_freeFor G 71 (nI B) (nI key) u = some (oIB B (mfree g key), u) := by
  have hs := hg.2.2.1
  have hfu := tc_fu_big
  have l0 := mhash_lt hg 0 key
  have l1 := mhash_lt hg 1 key
  have l2 := hg.2.1.2
  have e0 := pm_hash hG hB hM hg (w := 0) (by omega) hk
  have e1 := pm_hash hG hB hM hg (w := 1) (by omega) hk
  rw [show nI 0 = (0 : Int32) from rfl] at e0
  rw [show nI 1 = (1 : Int32) from rfl] at e1
  obtain ⟨f, hf⟩ : ∃ k, tc_fu = k + 3 := ⟨tc_fu - 3, by omega⟩
  unfold fn_X12_freeFor mfree
  rw [hf, lo_X12_freeFor_2, if_neg (by decide), e0, pu_b, pm_emptyIn hG hB hM hg (by omega), pu_b]
  cases h1 : memp g (mhash g 0 key) with
  | some p =>
    have hp : p < 4 := by have := (ff_lt h1).2.1; omega
    show (if nI p < 0 then _ else _) = _
    rw [if_neg (nI_pos (by omega)), pm_emptyIn hG hB hM hg (by omega), pu_b, h1]
    show tc_b (fn_X12_cell G (nI B) (nI (mhash g 0 key)) (nI p) u) _ = _
    rw [pm_cell (by omega), pu_b]
    rfl
  | none =>
    show (if (-1 : Int32) < 0 then _ else _) = _
    rw [if_pos (by decide)]
    show lo_X12_freeFor_2 G (f + 2) 71 (nI B) (nI key) (0 + 1) u = _
    rw [lo_X12_freeFor_2, if_neg (by decide), show (0 : Int32) + 1 = 1 from rfl, e1, pu_b, pm_emptyIn hG hB hM hg (by omega), pu_b]
    cases h2 : memp g (mhash g 1 key) with
    | some p =>
      have hp : p < 4 := by have := (ff_lt h2).2.1; omega
      show (if nI p < 0 then _ else _) = _
      rw [if_neg (nI_pos (by omega)), pm_emptyIn hG hB hM hg (by omega), pu_b, h2]
      show tc_b (fn_X12_cell G (nI B) (nI (mhash g 1 key)) (nI p) u) _ = _
      rw [pm_cell (by omega), pu_b]
      rfl
    | none =>
      show (if (-1 : Int32) < 0 then _ else _) = _
      rw [if_pos (by decide)]
      show lo_X12_freeFor_2 G (f + 1) 71 (nI B) (nI key) (1 + 1) u = _
      rw [lo_X12_freeFor_2, if_pos (by decide)]
      rfl
