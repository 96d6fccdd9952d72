/-! plain rows over the words of the functions -/
theorem pu_lit (n : Nat) : (OfNat.ofNat n : Int32) = nI n := rfl
theorem pu_ld {β : Type} {G : tc_G} {u : tc_S} {a j len : Nat} {k : Int32 → Option β} (hl : G.2.2.1 a = len) (h : j < len) (hlen : len < 2 ^ 31) : tc_ld G u a (nI j) k = k (u.1 a j) := by
  unfold tc_ld
  rw [if_neg (by rw [hl]; exact vp_in_nI h hlen), nI_clamp (by omega)]
theorem pu_sd {β : Type} {G : tc_G} {u : tc_S} {a j len : Nat} {x : Int32} {k : tc_S → Option β} (hl : G.2.2.1 a = len) (h : j < len) (hlen : len < 2 ^ 31) : tc_sd G u a (nI j) x k = k (tc_w u a j x) := by
  unfold tc_sd
  rw [if_neg (by rw [hl]; exact vp_in_nI h hlen), nI_clamp (by omega)]
theorem pu_mod {a d : Nat} (ha : a < 2 ^ 31) (h0 : 0 < d) (hd : d < 2 ^ 31) : tc_mod (nI a) (nI d) = nI (a % d) := pk_rem ha h0 hd
theorem pu_nz {β : Type} {d : Nat} {o : Option β} (h0 : 0 < d) (hd : d < 2 ^ 31) : tc_nz (nI d) o = o := by
  unfold tc_nz
  rw [if_neg (nI_ne0 h0 hd)]
theorem pu_le {α : Type} {a b : Nat} {x y : α} (ha : a < 2 ^ 31) (hb : b < 2 ^ 31) : (if nI a ≤ nI b then x else y) = if a ≤ b then x else y := by
  by_cases h : a ≤ b
  · rw [if_pos h, if_pos ((nI_leI ha hb).mpr h)]
  · rw [if_neg h, if_neg fun q => h ((nI_leI ha hb).mp q)]
theorem pu_lt {α : Type} {a b : Nat} {x y : α} (ha : a < 2 ^ 31) (hb : b < 2 ^ 31) : (if nI a < nI b then x else y) = if a < b then x else y := by
  by_cases h : a < b
  · rw [if_pos h, if_pos ((nI_ltI ha hb).mpr h)]
  · rw [if_neg h, if_neg fun q => h ((nI_ltI ha hb).mp q)]
theorem pu_eq {α : Type} {a b : Nat} {x y : α} (ha : a < 2 ^ 31) (hb : b < 2 ^ 31) : (if nI a = nI b then x else y) = if a = b then x else y := by
  by_cases h : a = b
  · rw [if_pos h, if_pos ((nI_eq ha hb).mpr h)]
  · rw [if_neg h, if_neg fun q => h ((nI_eq ha hb).mp q)]
theorem pu_b {β : Type} {r : Int32} {u : tc_S} {k : Int32 → tc_S → Option β} : tc_b (some (r, u)) k = k r u := rfl
/-- what the reference's object holds, by its numbers -/
def gm (G : tc_G) : Prop := (tc_p G 71 0 = 72 ∧ G.2.2.1 72 = 3253) ∧ (tc_p G 71 1 = 73 ∧ G.2.2.1 73 = 400)
theorem pm_hashOf {G : tc_G} (hG : gm G) {u : tc_S} {B key w nb a b : Nat} (hB : B + 292 ≤ 3253) (hw : w < 2) (h1 : u.1 72 (B + 7 + 2 * w) = nI a) (h2 : u.1 72 (B + 7 + 2 * w + 1) = nI b) (h3 : u.1 72 B = nI nb) (ha : a ≤ 1008) (hb : b ≤ 1008) (hk : key ≤ 999) (h0 : 0 < nb) (hnb : nb ≤ 32) : fn_X12_hashOf G 71 (nI B) (nI key) (nI w) u = some (nI ((a * key + b) % 1009 % nb), u) := by
  have hm : a * key ≤ 1008 * 999 := Nat.mul_le_mul ha hk
  unfold fn_X12_hashOf
  simp only [pu_lit, nI_add, pk_mul, hG.1.1, Nat.add_zero]
  rw [pu_ld hG.1.2 (by omega) (by omega), pu_ld hG.1.2 (by omega) (by omega), pu_ld hG.1.2 (by omega) (by omega), h1, h2, h3, pu_nz h0 (by omega), pk_mul, nI_add, pu_mod (by omega) (by omega) (by omega), pu_mod (by omega) h0 (by omega)]
