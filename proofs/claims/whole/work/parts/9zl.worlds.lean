/-! which objects there are: by the images made so far -/
def blk (w : Nat) : tc_L := [(10, 0, [some (w + 1), some (w + 11), none, none, none]), (9, 0, [some (w + 2), none, none, some (w + 5), some (w + 6), some (w + 7), some (w + 8), some (w + 9), some (w + 10), some (w + 4), none, none, none, none, none, none, none]), (8, 0, [none, none, none, none, none, none, none, none, none, none, none, some (w + 3)]), (2, 0, [none]), (100, 32, []), (100, 69, []), (100, 69, []), (100, 69, []), (100, 69, []), (100, 69, []), (100, 69, []), (101, 400, [])]
def stL (a b c : Option Nat) (l : tc_L) : tc_L := in_L4.set 13 (103, 3, [a, b, c]) ++ l
def bk0 : tc_L := []
def bk1 : tc_L := blk 92
def bk2 : tc_L := blk 92 ++ blk 104
def bk3 : tc_L := blk 92 ++ (blk 104 ++ blk 116)
def Spre : List tc_L := [stL none none none bk0, stL (some 92) none none bk1, stL none (some 92) none bk1, stL none none (some 92) bk1, stL (some 92) (some 104) none bk2, stL (some 92) none (some 104) bk2, stL (some 104) (some 92) none bk2, stL none (some 92) (some 104) bk2, stL (some 104) none (some 92) bk2, stL none (some 104) (some 92) bk2]
def Sful : List tc_L := [stL (some 92) (some 104) (some 116) bk3, stL (some 92) (some 116) (some 104) bk3, stL (some 104) (some 92) (some 116) bk3, stL (some 116) (some 92) (some 104) bk3, stL (some 104) (some 116) (some 92) bk3, stL (some 116) (some 104) (some 92) bk3]
def Sall : List tc_L := Spre ++ Sful
theorem sdA {P : tc_L → Prop} {L : tc_L} (hL : L ∈ Sall) (h : ∀ L ∈ Sall, P L) : P L := h L hL
theorem sdP {P : tc_L → Prop} {L : tc_L} (hL : L ∈ Spre) (h : ∀ L ∈ Spre, P L) : P L := h L hL
theorem st_0 : in_L4 ∈ Sall := by decide +kernel
theorem st_pre {L : tc_L} {k : Nat} (hL : L ∈ Sall) (hk : k < 3) (h : (tc_gl L).2.2.2 13 k = none) : L ∈ Spre := by
  have z : ∀ L ∈ Sful, ∀ k, k < 3 → ((tc_gl L).2.2.2 13 k).isSome = true := by decide +kernel
  rcases List.mem_append.mp hL with y | y
  · exact y
  · have z := z L y k hk
    rw [h] at z; cases z
theorem st_wf {L : tc_L} (hL : L ∈ Sall) : tc_wf L = true ∧ tc_rf L 0 11 = true ∧ tc_rf L 71 12 = true := by
  have z : ∀ L ∈ Sall, tc_wf L = true ∧ tc_rf L 0 11 = true ∧ tc_rf L 71 12 = true := by decide +kernel
  exact z L hL
def gTd (G : tc_G) (t r : Nat) : Prop := (tc_p G t 0 = t + 1 ∧ tc_p G (t + 1) 11 = t + 2) ∧ (tc_p G t 3 = t + 4 ∧ tc_p G t 4 = t + 5 ∧ tc_p G t 5 = t + 6 ∧ tc_p G t 6 = t + 7 ∧ tc_p G t 7 = t + 8 ∧ tc_p G t 8 = t + 9 ∧ tc_p G t 9 = t + 3) ∧ G.2.2.1 (t + 3) = 32 ∧ ∀ i, i < 6 → G.2.2.1 (t + 4 + i) = r + 5
theorem gT_d {G : tc_G} {t r : Nat} (h : gTd G t r) : gT G t r := ⟨h.1, h.2.1, h.2.2.1, fun o h1 h2 => by
  have := h.2.2.2 (o - (t + 4)) (by omega)
  rwa [show t + 4 + (o - (t + 4)) = o by omega] at this⟩
theorem st_gO : ∀ L ∈ Sall, gO (tc_gl L) := by unfold gO; decide +kernel
theorem st_gK : ∀ L ∈ Sall, gK (tc_gl L) ∧ gV (tc_gl L) ∧ gE (tc_gl L) := by unfold gK gV gE; decide +kernel
theorem st_gT : ∀ L ∈ Sall, gTd (tc_gl L) 2 64 ∧ gTd (tc_gl L) 14 64 ∧ gTd (tc_gl L) 39 64 ∧ gTd (tc_gl L) 55 144 := by unfold gTd; decide +kernel
theorem st_gm : ∀ L ∈ Sall, gm (tc_gl L) ∧ gm2 (tc_gl L) ∧ gm3 (tc_gl L) ∧ gm4 (tc_gl L) := by unfold gm gm2 gm3 gm4; decide +kernel
theorem st_g5 : ∀ L ∈ Sall, gm5 (tc_gl L) ∧ gm6 (tc_gl L) ∧ gm7 (tc_gl L) := by unfold gm5 gm6 gm7; decide +kernel
theorem st_gR : ∀ L ∈ Sall, gR (tc_gl L) ∧ gI (tc_gl L) ∧ gP (tc_gl L) ∧ gX (tc_gl L) ∧ gY (tc_gl L) ∧ gW (tc_gl L) := by unfold gR gI gP gX gY gW; decide +kernel
theorem st_gA {L : tc_L} (hL : L ∈ Sall) : gA (tc_gl L) := by
  obtain ⟨t1, t2, t3, t4⟩ := st_gT L hL
  exact ⟨st_gO L hL, st_gK L hL, ⟨gT_d t1, gT_d t2, gT_d t3, gT_d t4⟩, st_gm L hL⟩
/-- an image's world lies beyond, whole; two lie apart -/
def iPd (L : tc_L) (w : Nat) : Prop := 92 ≤ w ∧ w + 12 ≤ L.length ∧ tc_p (tc_gl L) w 0 = w + 1 ∧ tc_p (tc_gl L) w 1 = w + 11 ∧ (tc_gl L).2.2.1 (w + 11) = 400 ∧ gTd (tc_gl L) (w + 1) 64
theorem st_img : ∀ L ∈ Sall, ∀ k, k < 3 → (match (tc_gl L).2.2.2 13 k with | some w => iPd L w | none => True) := by
  intro L hL k hk
  have z : ∀ L ∈ Sall, ∀ k, k < 3 → (if ((tc_gl L).2.2.2 13 k).isSome = true then 92 ≤ tc_p (tc_gl L) 13 k ∧ tc_p (tc_gl L) 13 k + 12 ≤ L.length ∧ tc_p (tc_gl L) (tc_p (tc_gl L) 13 k) 0 = tc_p (tc_gl L) 13 k + 1 ∧ tc_p (tc_gl L) (tc_p (tc_gl L) 13 k) 1 = tc_p (tc_gl L) 13 k + 11 ∧ (tc_gl L).2.2.1 (tc_p (tc_gl L) 13 k + 11) = 400 else True) := by decide +kernel
  have y : ∀ L ∈ Sall, ∀ k, k < 3 → (if ((tc_gl L).2.2.2 13 k).isSome = true then gTd (tc_gl L) (tc_p (tc_gl L) 13 k + 1) 64 else True) := by unfold gTd; decide +kernel
  have z := z L hL k hk
  have y := y L hL k hk
  cases h : (tc_gl L).2.2.2 13 k with
  | none => trivial
  | some w =>
    have e : tc_p (tc_gl L) 13 k = w := by unfold tc_p; rw [h]; rfl
    rw [h, if_pos (show (some w).isSome = true from rfl), e] at z y
    exact ⟨z.1, z.2.1, z.2.2.1, z.2.2.2.1, z.2.2.2.2, y⟩
theorem st_two {L : tc_L} (hL : L ∈ Sall) {j k w v : Nat} (hj : j < 3) (hk : k < 3) (hjk : j ≠ k) (hw : (tc_gl L).2.2.2 13 j = some w) (hv : (tc_gl L).2.2.2 13 k = some v) : w + 12 ≤ v ∨ v + 12 ≤ w := by
  have z : ∀ L ∈ Sall, ∀ j, j < 3 → ∀ k, k < 3 → (j = k ∨ ((tc_gl L).2.2.2 13 j).isSome = false ∨ ((tc_gl L).2.2.2 13 k).isSome = false ∨ tc_p (tc_gl L) 13 j + 12 ≤ tc_p (tc_gl L) 13 k ∨ tc_p (tc_gl L) 13 k + 12 ≤ tc_p (tc_gl L) 13 j) := by decide +kernel
  rcases z L hL j hj k hk with z | z | z | z
  · exact absurd z hjk
  · rw [hw] at z; cases z
  · rw [hv] at z; cases z
  · unfold tc_p at z
    rw [hw, hv] at z
    exact z
theorem st_len {L : tc_L} (hL : L ∈ Sall) : 92 ≤ L.length := by
  have z : ∀ L ∈ Sall, 92 ≤ L.length := by decide +kernel
  exact z L hL
