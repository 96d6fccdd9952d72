/-! parts: entries within a part -/
def ein (g : mp) (x : Nat) : Nat → Nat → Nat → Nat
  | 0, _, c => c
  | n + 1, b, c => ein g x n (b + 1) (c + (if lb g b = x then minb g b else 0))
theorem mt_entriesIn {G : tc_G} (hP : gP G) {u : tc_S} {t x : Nat} {g : mp} (hT : gT G t 64) (hw : mwf g) (h : mt u t g) (hx : x < 32) (hl : ∀ b, b < mn g 0 → u.1 51 b = nI (lb g b)) : fn_X5_entriesIn G 50 t (nI x) u = some (nI (ein g x (mn g 0) 0 0), u) := by
  have hfu := tc_fu_big
  have a := hw.1.1
  have hn := a.2.1.2
  have lo : ∀ (n b f c : Nat), b + n = mn g 0 → n < f → lo_X5_entriesIn_5 G f 50 t (nI x) (nI c) (nI b) u = some (nI (ein g x n b c), u) := by
    intro n
    induction n with
    | zero =>
      intro b f c hb hf
      obtain ⟨f, rfl⟩ : ∃ k, f = k + 1 := ⟨f - 1, by omega⟩
      rw [lo_X5_entriesIn_5, hT.1.1, mt_set h (by omega), a.1 0 (by omega), pu_le (by omega) (by omega), if_pos (by omega)]
      rfl
    | succ n ih =>
      intro b f c hb hf
      obtain ⟨f, rfl⟩ : ∃ k, f = k + 1 := ⟨f - 1, by omega⟩
      have lt := lb_lt hw (b := b) (by omega)
      rw [lo_X5_entriesIn_5, hT.1.1, mt_set h (by omega), a.1 0 (by omega), pu_le (by omega) (by omega), if_neg (by omega), hP.1.1, pu_ld hP.2.1 (by omega) (by omega), hl b (by omega), pu_eq (by omega) (by omega), hT.2.1.2.2.2.2.2.2, pu_ld hT.2.2.1 (show b < 32 by omega) (by omega), mt_inb h (by omega), ein]
      unfold bl_X5_entriesIn_40 tc_let
      rw [nI_1, nI_add, show (0 : Int32) = nI 0 from rfl, nI_add]
      by_cases d : lb g b = x
      · rw [if_pos d, if_pos d]
        exact ih (b + 1) f _ (by omega) (by omega)
      · rw [if_neg d, if_neg d]
        exact ih (b + 1) f _ (by omega) (by omega)
  exact lo (mn g 0) 0 tc_fu 0 (by omega) (by omega)
theorem pm_part110 {G : tc_G} (hG : gm G) {u : tc_S} {a M k5 : Nat} {g : mp} (hM : isM u 0 g) (hw : mwf g) (hM2 : M < 2 ^ 16) (ht : ∀ b, M.testBit b = true ↔ b < mn g 0 ∧ lb g b = lb g a) : ∀ (n b f c : Nat), b + n = mn g 0 → n < f → lo_X12_part_110 G f 71 (nI M) (nI k5) (nI c) (nI b) u = some (nI k5 * g 1 - nI (ein g (lb g a) n b c), u) := by
  have aa := hw.1.1
  have hn := aa.2.1.2
  have hk := mwf_ok hw
  have z0 : ∀ {β : Type} (kk : Int32 → Option β), tc_ld G u 72 0 kk = kk (g 0) := fun kk => isM_ld hG (B := 0) (k := 0) hM (by omega) (by omega)
  have z1 : ∀ {β : Type} (kk : Int32 → Option β), tc_ld G u 72 1 kk = kk (g 1) := fun kk => isM_ld hG (B := 0) (k := 1) hM (by omega) (by omega)
  intro n
  induction n with
  | zero =>
    intro b f c hb hf
    obtain ⟨f, rfl⟩ : ∃ k, f = k + 1 := ⟨f - 1, by omega⟩
    rw [lo_X12_part_110, hG.1.1, z0, aa.1 0 (by omega), pu_le (by omega) (by omega), if_pos (by omega), z1]
    rfl
  | succ n ih =>
    intro b f c hb hf
    obtain ⟨f, rfl⟩ : ∃ k, f = k + 1 := ⟨f - 1, by omega⟩
    have ib : fn_X12_inBucket G 71 0 (nI b) u = some (nI (minb g b), u) := pm_inBucket hG (B := 0) (by omega) hM hk (by omega)
    rw [lo_X12_part_110, hG.1.1, z0, aa.1 0 (by omega), pu_le (by omega) (by omega), if_neg (by omega), ib, pu_b, nI_tst hM2 (by omega), ein]
    unfold tc_let
    rw [pk_mul, nI_add, nI_1]
    have e : (if M.testBit b = true then 1 else 0) * minb g b = (if lb g b = lb g a then minb g b else 0) := by
      by_cases d : lb g b = lb g a
      · rw [if_pos d, if_pos ((ht b).mpr ⟨by omega, d⟩), Nat.one_mul]
      · rw [if_neg d, if_neg (fun z => d ((ht b).mp z).2), Nat.zero_mul]
    rw [e]
    exact ih (b + 1) f _ (by omega) (by omega)
