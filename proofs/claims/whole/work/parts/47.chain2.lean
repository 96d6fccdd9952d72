theorem pm_lo79 {G : tc_G} (hG : gm G) (h2 : gm2 G) {u : tc_S} {B b key m : Nat} {l : List (Nat × Nat)} {g : mp} (hB : B + 292 ≤ 3253) (hM : isM u B g) (hg : mok g) (hb : b < mn g 0) (hd : 0 < maway g key b) (hl : l.length < 16) (K : Nat → Int32 → Int32 → Int32 → Int32 → tc_S → Option (Int32 × tc_S)) {x : Nat} : ∀ (n p f : Nat), p + n = mn g 1 → n < f → ff (mlead g key b) n p = some x → lo_X12_chainOf_79 G K f 71 (nI B) (nI b) (nI m) (nI l.length) (nI p) (uC u (mn g 0) (maway g key) l) = K 71 (nI B) (nI ((moth g b x).getD 0)) (nI m) (nI (l.length + 1)) (uC u (mn g 0) (maway g key) (l ++ [(b, x)])) := by
  have hn := hg.2.1.2
  intro n
  induction n with
  | zero => intro p f _ _ h; cases h
  | succ n ih =>
    intro p f hp hf h
    obtain ⟨f, rfl⟩ : ∃ k, f = k + 1 := ⟨f - 1, by omega⟩
    have hM2 : isM (uC u (mn g 0) (maway g key) (l ++ [(b, p)])) B g := isM_uC hM
    rw [lo_X12_chainOf_79, pm_leads hG h2 hB hM hg hb (by omega) hd, pu_b]
    unfold ff at h
    by_cases hm : mlead g key b p = true
    · rw [if_pos hm] at h
      obtain rfl : p = x := Option.some.inj h
      rw [if_pos hm, if_neg (by decide), h2.2.1.1, h2.2.2.1, uC_push h2 hl, pm_cell (by omega), pu_b]
      cases hc : moth g b p with
      | none => unfold mlead at hm; rw [hc] at hm; cases hm
      | some c =>
        have z := pm_otherAt hG hB hM2 hg hb (by omega) hc
        have hc2 : mcell b p < 292 := by have := hg.2.2.1; unfold mcell; omega
        rw [pm_keyOf hG (by omega), pu_b] at z ⊢
        rw [z, pu_b]
        unfold tc_let
        rw [nI_1]
        rfl
    · rw [if_neg hm] at h
      rw [if_neg hm, if_pos rfl]
      unfold tc_let
      rw [nI_1]
      exact ih (p + 1) f (by omega) (by omega) h
theorem pm_lo69 {G : tc_G} (hG : gm G) (h2 : gm2 G) {u : tc_S} {B key m : Nat} {g : mp} (hB : B + 292 ≤ 3253) (hM : isM u B g) (hg : mok g) (hm16 : m ≤ 16) : ∀ (n b f : Nat) (l : List (Nat × Nat)), b < mn g 0 → maway g key b = n → l.length + n = m → n < f → lo_X12_chainOf_69 G f 71 (nI B) (nI b) (nI m) (nI l.length) (uC u (mn g 0) (maway g key) l) = some (nI m, uC u (mn g 0) (maway g key) (l ++ mwalk g key n b)) := by
  have hfu := tc_fu_big
  have hs := hg.2.2.1
  intro n
  induction n with
  | zero =>
    intro b f l hb hd hl hf
    obtain ⟨f, rfl⟩ : ∃ k, f = k + 1 := ⟨f - 1, by omega⟩
    rw [lo_X12_chainOf_69, pu_le (by omega) (by omega), if_pos (by omega)]
    unfold mwalk
    rw [List.append_nil]
  | succ n ih =>
    intro b f l hb hd hl hf
    obtain ⟨f, rfl⟩ : ∃ k, f = k + 1 := ⟨f - 1, by omega⟩
    obtain ⟨p, hp⟩ := lead_ex hg hb hd (by omega)
    have hpl := (ff_lt hp).2.2
    rw [lo_X12_chainOf_69, pu_le (by omega) (by omega), if_neg (by omega), show (0 : Int32) = nI 0 from rfl, pm_lo79 hG h2 hB hM hg hb (by omega) (by omega) _ (mn g 1) 0 tc_fu (by omega) (by omega) hp]
    cases hc : moth g b p with
    | none => unfold mlead at hpl; rw [hc] at hpl; cases hpl
    | some c =>
      have hcn : maway g key c = n := by
        unfold mlead at hpl
        rw [hc] at hpl
        simp only [decide_eq_true_eq] at hpl
        omega
      have := ih c f (l ++ [(b, p)]) (moth_lt hg hc) hcn (by simp; omega) (by omega)
      rw [List.length_append, List.length_singleton] at this
      rw [show (some c).getD 0 = c from rfl, this]
      have e : mwalk g key (n + 1) b = (b, p) :: mwalk g key n c := by
        rw [mwalk, hp]
        simp [hc]
      rw [e, List.append_assoc]
      rfl
def oC (u : tc_S) (g : mp) (key : Nat) : Option (List (Nat × Nat)) → tc_S
  | some l => uC u (mn g 0) (maway g key) l
  | none => uA u (mn g 0) (maway g key)
def lC : Option (List (Nat × Nat)) → Int32
  | some l => nI l.length
  | none => -1
theorem mwalk_len {g : mp} (hg : mok g) {key : Nat} : ∀ (n b : Nat), b < mn g 0 → maway g key b = n → n < 1000 → (mwalk g key n b).length = n
  | 0, _, _, _, _ => rfl
  | n + 1, b, hb, hd, hn => by
    obtain ⟨p, hp⟩ := lead_ex hg hb hd hn
    have hpl := (ff_lt hp).2.2
    rw [mwalk, hp]
    cases hc : moth g b p with
    | none => unfold mlead at hpl; rw [hc] at hpl; cases hpl
    | some c =>
      have hcn : maway g key c = n := by
        unfold mlead at hpl
        rw [hc] at hpl
        simp only [decide_eq_true_eq] at hpl
        omega
      show (mwalk g key n ((moth g b p).getD 0)).length + 1 = n + 1
      rw [hc]
      exact congrArg (fun k => k + 1) (mwalk_len hg n c (moth_lt hg hc) hcn (by omega))
theorem mat_lt {g : mp} (hg : mok g) (key : Nat) : mat g key < mn g 0 := by
  unfold mat
  split <;> exact mhash_lt hg _ _
theorem pm_chainOf {G : tc_G} (hG : gm G) (h2 : gm2 G) {u : tc_S} {B key : Nat} {g : mp} (hB : B + 292 ≤ 3253) (hM : isM u B g) (hg : mok g) (hk : key ≤ 999) : fn_X12_chainOf G 71 (nI B) (nI key) u = some (lC (mchain g key), oC u g key (mchain g key)) := by
  have hn := hg.2.1.2
  have hfu := tc_fu_big
  have l0 := mhash_lt hg 0 key
  have l1 := mhash_lt hg 1 key
  have hM2 : isM (uA u (mn g 0) (maway g key)) B g := isM_uA hM
  have e0 := pm_hash hG hB hM2 hg (w := 0) (by omega) hk
  have e1 := pm_hash hG hB hM2 hg (w := 1) (by omega) hk
  rw [show nI 0 = (0 : Int32) from rfl] at e0
  rw [show nI 1 = (1 : Int32) from rfl] at e1
  have a0 := (maway_S hg key _ l0).1
  have a1 := (maway_S hg key _ l1).1
  unfold fn_X12_chainOf
  rw [pm_laysAway hG h2 hB hM hg hk, pu_b, e0, pu_b, e1, pu_b, h2.1.1, uA_ld h2 hn l1, uA_ld h2 hn l0, pu_le (by omega) (by omega)]
  have main : bl_X12_chainOf_45 G 71 (nI B) (nI (mat g key)) (uA u (mn g 0) (maway g key)) = some (lC (mchain g key), oC u g key (mchain g key)) := by
    have lm := mat_lt hg key
    have am := (maway_S hg key _ lm).1
    unfold bl_X12_chainOf_45 mchain
    rw [h2.1.1, uA_ld h2 hn lm, show (1000 : Int32) = nI 1000 from rfl, pu_lt (by omega) (by omega)]
    by_cases hf : maway g key (mat g key) < 1000
    · have hb := (maway_path hg lm hf).2.2
      rw [if_pos hf, if_pos hf]
      have z := pm_lo69 hG h2 (key := key) (m := maway g key (mat g key)) hB hM hg (by omega) (maway g key (mat g key)) (mat g key) tc_fu [] lm rfl (by simp) (by omega)
      rw [uC_nil] at z
      have z2 : lo_X12_chainOf_69 G tc_fu 71 (nI B) (nI (mat g key)) (nI (maway g key (mat g key))) 0 (uA u (mn g 0) (maway g key)) = _ := z
      rw [z2, List.nil_append]
      show _ = some (nI (mwalk g key (maway g key (mat g key)) (mat g key)).length, _)
      rw [mwalk_len hg _ _ lm rfl hf]
      rfl
    · rw [if_neg hf, if_neg hf]
      rfl
  by_cases hc : maway g key (mhash g 0 key) ≤ maway g key (mhash g 1 key)
  · rw [if_pos hc]
    rw [show mat g key = mhash g 0 key from by unfold mat; rw [if_neg (by omega)]] at main
    exact main
  · rw [if_neg hc]
    rw [show mat g key = mhash g 1 key from by unfold mat; rw [if_pos (by omega)]] at main
    exact main
