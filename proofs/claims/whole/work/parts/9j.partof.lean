/-! parts: the reference's partOf -/
theorem cf_mono {P Q : Nat → Bool} (h : ∀ i, P i = true → Q i = true) : ∀ n a, cf P n a ≤ cf Q n a := by
  intro n
  induction n with
  | zero => intro a; exact Nat.le_refl _
  | succ n ih =>
    intro a
    have := ih (a + 1)
    rw [cf, cf]
    by_cases c : P a = true
    · rw [if_pos c, if_pos (h a c)]; omega
    · rw [if_neg c]; split <;> omega
theorem cf_strict {P Q : Nat → Bool} (h : ∀ i, P i = true → Q i = true) {j : Nat} (h1 : P j = false) (h2 : Q j = true) : ∀ n a, a ≤ j → j < a + n → cf P n a < cf Q n a := by
  intro n
  induction n with
  | zero => intro a h3 h4; omega
  | succ n ih =>
    intro a h3 h4
    rw [cf, cf]
    by_cases c : a = j
    · subst c
      have := cf_mono h n (a + 1)
      rw [h1, h2]
      simp
      omega
    · have := ih (a + 1) (by omega) (by omega)
      by_cases d : P a = true
      · rw [if_pos d, if_pos (h a d)]; omega
      · rw [if_neg d]; split <;> omega
theorem pw_lt {p : Nat × Nat} (h : p.1 < 16 ∧ p.2 < 16) : pw p < 2 ^ 16 := Nat.or_lt_two_pow (Nat.pow_lt_pow_right (by omega) h.1) (Nat.pow_lt_pow_right (by omega) h.2)
theorem pst_lt {m : Nat} {p : Nat × Nat} (hm : m < 2 ^ 16) (h : p.1 < 16 ∧ p.2 < 16) : pst m p < 2 ^ 16 := by
  unfold pst
  refine Nat.or_lt_two_pow hm ?_
  split
  · omega
  · exact pw_lt h
theorem rnd_lt : ∀ (E : List (Nat × Nat)) (m : Nat), (∀ p ∈ E, p.1 < 16 ∧ p.2 < 16) → m < 2 ^ 16 → rnd E m < 2 ^ 16 := by
  intro E
  induction E with
  | nil => intro m _ h; exact h
  | cons p E ih => intro m hE h; exact ih (pst m p) (fun q hq => hE q (List.mem_cons_of_mem _ hq)) (pst_lt h (hE p (List.mem_cons_self ..)))
theorem pm_po21 {G : tc_G} (hG : gm G) (h4 : gm4 G) {u : tc_S} {g : mp} {es : List en} {v3 : Int32} (K : Nat → Int32 → Int32 → tc_S → Option (Int32 × tc_S)) (hM : isM u 0 g) (hw : mwf g) (hl : ls u es) (hn : es.length ≤ 68) (hk1 : ∀ e ∈ es, ∃ q, q ≤ 999 ∧ e.1 = nI (q + 1)) : ∀ (n k f m : Nat), k + n = es.length → n < f → m < 2 ^ 16 → lo_X12_partOf_21 G K f 71 (nI m) v3 (nI k) u = K 71 (nI (rnd ((es.drop k).map (ed g)) m)) v3 u := by
  have hk := mwf_ok hw
  have a := hw.1.1
  have hnb := a.2.1.2
  intro n
  induction n with
  | zero =>
    intro k f m hk2 hf hm
    obtain ⟨f, rfl⟩ : ∃ k, f = k + 1 := ⟨f - 1, by omega⟩
    rw [lo_X12_partOf_21, hl.1, pu_le (by omega) (by omega), if_pos (by omega), List.drop_eq_nil_of_le (by omega)]
    rfl
  | succ n ih =>
    intro k f m hk2 hf hm
    obtain ⟨f, rfl⟩ : ∃ k, f = k + 1 := ⟨f - 1, by omega⟩
    obtain ⟨q, q1, q2⟩ := hk1 (es[k]) (List.getElem_mem (by omega))
    have l0 := wA_hash a 0 q
    have l1 := wA_hash a 1 q
    have e0 : fn_X12_hashOf G 71 0 (nI q) 0 u = some (nI (mhash g 0 q), u) := pm_hash hG (B := 0) (by omega) hM hk (w := 0) (by omega) q1
    have e1 : fn_X12_hashOf G 71 0 (nI q) 1 u = some (nI (mhash g 1 q), u) := pm_hash hG (B := 0) (by omega) hM hk (w := 1) (by omega) q1
    have ee : ed g es[k] = (mhash g 0 q, mhash g 1 q) := by
      unfold ed
      rw [q2, nI_clamp (by omega), show q + 1 - 1 = q by omega]
    rw [lo_X12_partOf_21, hl.1, pu_le (by omega) (by omega), if_neg (by omega), h4.1, show (4 : Int32) * nI k = nI (4 * k) from pk_mul 4 k, pu_ld h4.2 (by omega) (by omega), (hl.2 k (by omega)).1, q2, nI_pred, e0, pu_b, pu_ld h4.2 (by omega) (by omega), (hl.2 k (by omega)).1, q2, nI_pred, e1, pu_b, ls_drop (by omega), List.map_cons, ee]
    have hb : ((1 : Int32) <<< (nI (mhash g 0 q) &&& 31)) ||| ((1 : Int32) <<< (nI (mhash g 1 q) &&& 31)) = nI (pw (mhash g 0 q, mhash g 1 q)) := by
      rw [nI_bit (by omega), nI_bit (by omega), nI_or]
      rfl
    have hpw : pw (mhash g 0 q, mhash g 1 q) < 2 ^ 16 := pw_lt ⟨by show mhash g 0 q < 16; omega, by show mhash g 1 q < 16; omega⟩
    have hlt : pst m (mhash g 0 q, mhash g 1 q) < 2 ^ 16 := pst_lt hm ⟨by show mhash g 0 q < 16; omega, by show mhash g 1 q < 16; omega⟩
    have hand : m &&& pw (mhash g 0 q, mhash g 1 q) < 2 ^ 16 := Nat.and_lt_two_pow _ hpw
    show tc_let (((1 : Int32) <<< (nI (mhash g 0 q) &&& 31)) ||| ((1 : Int32) <<< (nI (mhash g 1 q) &&& 31))) _ = K 71 (nI (rnd ((es.drop (k + 1)).map (ed g)) (pst m (mhash g 0 q, mhash g 1 q)))) v3 u
    rw [hb]
    unfold tc_let
    show (if (nI m &&& nI (pw (mhash g 0 q, mhash g 1 q))) = 0 then bl_X12_partOf_85 G K (lo_X12_partOf_21 G K f) 71 v3 (nI k) (nI m) 0 u else bl_X12_partOf_85 G K (lo_X12_partOf_21 G K f) 71 v3 (nI k) (nI m) (nI (pw (mhash g 0 q, mhash g 1 q))) u) = _
    unfold bl_X12_partOf_85 tc_let
    rw [nI_and, nI_1, show (0 : Int32) = nI 0 from rfl, pu_eq (by omega) (by omega), nI_or, nI_or, ← ih (k + 1) f (pst m (mhash g 0 q, mhash g 1 q)) (by omega) (by omega) hlt]
    unfold pst
    by_cases c : m &&& pw (mhash g 0 q, mhash g 1 q) = 0
    · rw [if_pos c, if_pos c]
    · rw [if_neg c, if_neg c]
def bct (m : Nat) : Nat := cf (fun b => m.testBit b) 16 0
theorem pm_po11 {G : tc_G} (hG : gm G) (h4 : gm4 G) {u : tc_S} {g : mp} (hM : isM u 0 g) (hw : mwf g) (hl : ls u (mes g)) (hE : ∀ p ∈ edg g, p.1 < 16 ∧ p.2 < 16) : ∀ (n f m m0 : Nat), n < f → m < 2 ^ 16 → m0 < 2 ^ 16 → (m = m0 → rnd (edg g) m = m) → (17 ≤ n + bct m ∨ m = m0) → ∃ M, M < 2 ^ 16 ∧ lo_X12_partOf_11 G f 71 (nI m) (nI m0) u = some (nI M, u) ∧ rnd (edg g) M = M ∧ (∀ b, m.testBit b = true → M.testBit b = true) ∧ ∀ S : Nat → Prop, clo (edg g) S → (∀ b, m.testBit b = true → S b) → ∀ b, M.testBit b = true → S b := by
  have hfu := tc_fu_big
  have hln := mes_len hw
  have base : ∀ (f m m0 : Nat), 0 < f → m < 2 ^ 16 → m0 < 2 ^ 16 → rnd (edg g) m = m → m = m0 → ∃ M, M < 2 ^ 16 ∧ lo_X12_partOf_11 G f 71 (nI m) (nI m0) u = some (nI M, u) ∧ rnd (edg g) M = M ∧ (∀ b, m.testBit b = true → M.testBit b = true) ∧ ∀ S : Nat → Prop, clo (edg g) S → (∀ b, m.testBit b = true → S b) → ∀ b, M.testBit b = true → S b := by
    intro f m m0 hf hm hm0 hr e
    obtain ⟨f, rfl⟩ : ∃ k, f = k + 1 := ⟨f - 1, by omega⟩
    refine ⟨m, hm, ?_, hr, fun b h => h, fun S _ h => h⟩
    rw [lo_X12_partOf_11, if_pos (by rw [e])]
  intro n
  induction n with
  | zero =>
    intro f m m0 hf hm hm0 hr hd
    rcases hd with z | z
    · exfalso
      have : bct m ≤ 16 := cf_le
      omega
    · exact base f m m0 hf hm hm0 (hr z) z
  | succ n ih =>
    intro f m m0 hf hm hm0 hr hd
    by_cases c : m = m0
    · exact base f m m0 (by omega) hm hm0 (hr c) c
    · obtain ⟨f, rfl⟩ : ∃ k, f = k + 1 := ⟨f - 1, by omega⟩
      have hd : 17 ≤ n + 1 + bct m := by
        rcases hd with z | z
        · exact z
        · exact absurd z c
      have hlt := rnd_lt (edg g) m hE hm
      have st : lo_X12_partOf_11 G (f + 1) 71 (nI m) (nI m0) u = lo_X12_partOf_11 G f 71 (nI (rnd (edg g) m)) (nI m) u := by
        rw [lo_X12_partOf_11, pu_eq (by omega) (by omega), if_neg c]
        have := pm_po21 hG h4 (v3 := nI m) (lo_X12_partOf_11 G f) hM hw hl hln (mes_key hw) (mes g).length 0 tc_fu m (Nat.zero_add _) (by omega) hm
        rw [List.drop_zero] at this
        exact this
      have nx : 17 ≤ n + bct (rnd (edg g) m) ∨ rnd (edg g) m = m := by
        by_cases e : rnd (edg g) m = m
        · exact Or.inr e
        · left
          have : ∃ j, m.testBit j = false ∧ (rnd (edg g) m).testBit j = true := by
            refine Classical.byContradiction fun q => e ?_
            apply Nat.eq_of_testBit_eq
            intro b
            cases hb : m.testBit b with
            | true => exact rnd_mono _ m b hb
            | false =>
              cases hc : (rnd (edg g) m).testBit b with
              | false => rfl
              | true => exact absurd ⟨b, hb, hc⟩ q
          obtain ⟨j, j1, j2⟩ := this
          have j16 : j < 16 := by
            refine Classical.byContradiction fun q => ?_
            have : (rnd (edg g) m).testBit j = false := Nat.testBit_lt_two_pow (Nat.lt_of_lt_of_le hlt (Nat.pow_le_pow_right (by omega) (by omega)))
            rw [j2] at this
            cases this
          have := cf_strict (P := fun b => m.testBit b) (Q := fun b => (rnd (edg g) m).testBit b) (fun i => rnd_mono _ m i) j1 j2 16 0 (by omega) (by omega)
          unfold bct at hd ⊢
          omega
      obtain ⟨M, M0, M1, M2, M3, M4⟩ := ih f (rnd (edg g) m) m (by omega) hlt hm (fun e => by rw [e, e]) nx
      exact ⟨M, M0, st.trans M1, M2, fun b hb => M3 b (rnd_mono _ m b hb), fun S hS hb => M4 S hS (rnd_in _ m hS hb)⟩
