/-! parts: the class's bits -/
def wd (l : Nat → Nat) (x : Nat) : Nat → Nat → Nat → Nat
  | 0, _, m => m
  | n + 1, b, m => wd l x n (b + 1) (m ||| (if l b = x then 2 ^ b else 0))
theorem wd_tb (l : Nat → Nat) (x c : Nat) : ∀ n b m, (wd l x n b m).testBit c = true ↔ m.testBit c = true ∨ (b ≤ c ∧ c < b + n ∧ l c = x) := by
  intro n
  induction n with
  | zero => intro b m; show m.testBit c = true ↔ _; constructor
            · exact Or.inl
            · rintro (h | h)
              · exact h
              · omega
  | succ n ih =>
    intro b m
    rw [wd, ih, Nat.testBit_or, Bool.or_eq_true]
    by_cases d : l b = x
    · rw [if_pos d, Nat.testBit_two_pow, decide_eq_true_iff]
      constructor
      · rintro ((h | h) | h)
        · exact Or.inl h
        · exact Or.inr ⟨by omega, by omega, by rw [← h]; exact d⟩
        · exact Or.inr ⟨by omega, by omega, h.2.2⟩
      · rintro (h | h)
        · exact Or.inl (Or.inl h)
        · by_cases e : b = c
          · exact Or.inl (Or.inr e)
          · exact Or.inr ⟨by omega, by omega, h.2.2⟩
    · rw [if_neg d, Nat.zero_testBit]
      constructor
      · rintro ((h | h) | h)
        · exact Or.inl h
        · cases h
        · exact Or.inr ⟨by omega, by omega, h.2.2⟩
      · rintro (h | h)
        · exact Or.inl (Or.inl h)
        · refine Or.inr ⟨?_, by omega, h.2.2⟩
          by_cases e : b = c
          · rw [e] at d; exact absurd h.2.2 d
          · omega
theorem mt_bits {G : tc_G} (hP : gP G) {u : tc_S} {l : Nat → Nat} {x : Nat} (hx : x < 32) (hl : ∀ b, b < 16 → u.1 51 b = nI (l b) ∧ l b < 32) : fn_X5_bits G 50 (nI x) u = some (nI (wd l x 16 0 0), u) := by
  have hfu := tc_fu_big
  have lo : ∀ (n b f m : Nat), b + n = 16 → n < f → lo_X5_bits_4 G f 50 (nI x) (nI m) (nI b) u = some (nI (wd l x n b m), u) := by
    intro n
    induction n with
    | zero =>
      intro b f m hb hf
      obtain ⟨f, rfl⟩ : ∃ k, f = k + 1 := ⟨f - 1, by omega⟩
      rw [lo_X5_bits_4, show (16 : Int32) = nI 16 from rfl, pu_le (by omega) (by omega), if_pos (by omega)]
      rfl
    | succ n ih =>
      intro b f m hb hf
      obtain ⟨f, rfl⟩ : ∃ k, f = k + 1 := ⟨f - 1, by omega⟩
      have h1 := hl b (by omega)
      rw [lo_X5_bits_4, show (16 : Int32) = nI 16 from rfl, pu_le (by omega) (by omega), if_neg (by omega), hP.1.1, pu_ld hP.2.1 (by omega) (by omega), h1.1, pu_eq (by omega) (by omega), nI_bit (by omega), wd]
      unfold bl_X5_bits_28 tc_let
      rw [nI_1, nI_or, show (0 : Int32) = nI 0 from rfl, nI_or]
      by_cases d : l b = x
      · rw [if_pos d, if_pos d]
        exact ih (b + 1) f _ (by omega) (by omega)
      · rw [if_neg d, if_neg d]
        exact ih (b + 1) f _ (by omega) (by omega)
  exact lo 16 0 tc_fu 0 (by omega) (by omega)
theorem lb_out {g : mp} (hw : mwf g) {b : Nat} (hb : mn g 0 ≤ b) : lb g b = b :=
  (lb_S (g := g) (S := fun x => x = b) (fun p hp => by
    have := edg_lt hw p hp
    show p.1 = b ↔ p.2 = b
    omega) b).mpr rfl
theorem lb_lt {g : mp} (hw : mwf g) {b : Nat} (hb : b < mn g 0) : lb g b < mn g 0 := lbf_lt (edg_lt hw) hb
theorem wd_part {g : mp} (hw : mwf g) {a M : Nat} (ha : a < mn g 0) (ht : ∀ b, M.testBit b = true ↔ b < mn g 0 ∧ lb g b = lb g a) : wd (lb g) (lb g a) 16 0 0 = M := by
  have hn := hw.1.1.2.1.2
  have la := lb_lt hw ha
  apply Nat.eq_of_testBit_eq
  intro c
  apply Bool.eq_iff_iff.mpr
  rw [wd_tb, ht, Nat.zero_testBit]
  constructor
  · rintro (h | ⟨_, _, h⟩)
    · cases h
    · refine ⟨?_, h⟩
      refine Classical.byContradiction fun q => ?_
      have := lb_out hw (b := c) (by omega)
      omega
  · rintro ⟨h1, h2⟩
    exact Or.inr ⟨by omega, by omega, h2⟩
