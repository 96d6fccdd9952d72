/-! the reference: the chain -/
def mlead (g : mp) (key b p : Nat) : Bool := match moth g b p with
  | some c => decide (maway g key c + 1 = maway g key b)
  | none => false
def mwalk (g : mp) (key : Nat) : Nat → Nat → List (Nat × Nat)
  | 0, _ => []
  | n + 1, b => match ff (mlead g key b) (mn g 1) 0 with
    | none => []
    | some p => (b, p) :: mwalk g key n ((moth g b p).getD 0)
def mat (g : mp) (key : Nat) : Nat := if maway g key (mhash g 1 key) < maway g key (mhash g 0 key) then mhash g 1 key else mhash g 0 key
/-- the chain by which a key would come in: none, or its places -/
def mchain (g : mp) (key : Nat) : Option (List (Nat × Nat)) := if maway g key (mat g key) < 1000 then some (mwalk g key (maway g key (mat g key)) (mat g key)) else none
def cbw (l : List (Nat × Nat)) (old : Nat → Int32) : Nat → Int32 := fun k => match l[k]? with
  | some q => nI q.1
  | none => old k
def cpw (l : List (Nat × Nat)) (old : Nat → Int32) : Nat → Int32 := fun k => match l[k]? with
  | some q => nI q.2
  | none => old k
abbrev uC (u : tc_S) (nb : Nat) (a : Nat → Nat) (l : List (Nat × Nat)) : tc_S := tc_wr (tc_wr (uA u nb a) 76 (cbw l (u.1 76))) 77 (cpw l (u.1 77))
theorem isM_uC {u : tc_S} {nb B : Nat} {a : Nat → Nat} {l : List (Nat × Nat)} {g : mp} (h : isM u B g) : isM (uC u nb a l) B g := fun k hk => by
  rw [tc_wr_ne (by decide), tc_wr_ne (by decide), tc_wr_ne (by decide)]
  exact h k hk
theorem uC_nil {u : tc_S} {nb : Nat} {a : Nat → Nat} : uC u nb a [] = uA u nb a := by
  unfold uC
  have e1 : cbw [] (u.1 76) = (uA u nb a).1 76 := by
    rw [tc_wr_ne (by decide)]
    funext k
    simp [cbw]
  have e2 : cpw [] (u.1 77) = (uA u nb a).1 77 := by
    rw [tc_wr_ne (by decide)]
    funext k
    simp [cpw]
  rw [e1, wr_id, e2, wr_id]
theorem uC_ld {β : Type} {G : tc_G} (h2 : gm2 G) {u : tc_S} {nb k : Nat} {a : Nat → Nat} {l : List (Nat × Nat)} {q : Int32 → Option β} (hn : nb ≤ 16) (hk : k < nb) : tc_ld G (uC u nb a l) 75 (nI k) q = q (nI (a k)) := by
  rw [pu_ld h2.1.2 (by omega) (by omega), tc_wr_ne (by decide), tc_wr_ne (by decide), wr_same]
  unfold aw
  rw [if_pos hk]
theorem uC_push {β : Type} {G : tc_G} (h2 : gm2 G) {u : tc_S} {nb b p : Nat} {a : Nat → Nat} {l : List (Nat × Nat)} {q : tc_S → Option β} (hl : l.length < 16) : tc_sd G (uC u nb a l) 76 (nI l.length) (nI b) (fun u5 => tc_sd G u5 77 (nI l.length) (nI p) q) = q (uC u nb a (l ++ [(b, p)])) := by
  rw [pu_sd h2.2.1.2 hl (by omega), pu_sd h2.2.2.2 hl (by omega), w_wr, w_wr]
  congr 1
  refine Prod.ext ?_ rfl
  funext o
  by_cases h77 : o = 77
  · subst h77
    rw [wr_same, tc_wr_ne (by decide), wr_same, wr_same]
    funext k
    unfold upd cpw
    by_cases hk : k = l.length
    · subst hk; simp
    · by_cases h3 : k < l.length
      · simp [hk, List.getElem?_append_left h3]
      · have h4 : l.length < k := by omega
        simp [hk, List.getElem?_eq_none (show l.length ≤ k by omega), List.getElem?_eq_none (show (l ++ [(b, p)]).length ≤ k by simp; omega)]
  · rw [tc_wr_ne h77, tc_wr_ne h77]
    by_cases h76 : o = 76
    · subst h76
      rw [wr_same, wr_same, tc_wr_ne (by decide), wr_same]
      funext k
      unfold upd cbw
      by_cases hk : k = l.length
      · subst hk; simp
      · by_cases h3 : k < l.length
        · simp [hk, List.getElem?_append_left h3]
        · have h4 : l.length < k := by omega
          simp [hk, List.getElem?_eq_none (show l.length ≤ k by omega), List.getElem?_eq_none (show (l ++ [(b, p)]).length ≤ k by simp; omega)]
    · rw [tc_wr_ne h76, tc_wr_ne h76, tc_wr_ne h77, tc_wr_ne h76]
theorem pm_leads {G : tc_G} (hG : gm G) (h2 : gm2 G) {u : tc_S} {B b p key : Nat} {l : List (Nat × Nat)} {g : mp} (hB : B + 292 ≤ 3253) (hM : isM u B g) (hg : mok g) (hb : b < mn g 0) (hp : p < mn g 1) (hd : 0 < maway g key b) : fn_X12_leads G 71 (nI B) (nI b) (nI p) (uC u (mn g 0) (maway g key) l) = some (if mlead g key b p then 1 else 0, uC u (mn g 0) (maway g key) l) := by
  have hn := hg.2.1.2
  have hs := hg.2.2.1
  have hM2 : isM (uC u (mn g 0) (maway g key) l) B g := isM_uC hM
  have hc : mcell b p < 292 := by unfold mcell; omega
  obtain ⟨q, hq1, hq2⟩ := hg.2.2.2.2.2.2.2.2.2.2.1 b p (by omega) (by omega)
  have hq3 : mn g (mcell b p) = q := by unfold mn; rw [hq2, nI_clamp (by omega)]
  unfold fn_X12_leads
  rw [pm_cell (by omega), pu_b, pm_isEntry hG (by omega) (by rw [hM2 _ hc]; exact hq2) (by omega), pu_b, hM2 _ hc, hq2]
  have hno : moth g b p = none → some ((0 : Int32), uC u (mn g 0) (maway g key) l) = some (if mlead g key b p then 1 else 0, uC u (mn g 0) (maway g key) l) := by
    intro h
    unfold mlead
    rw [h]
    rfl
  by_cases h0 : q = 0
  · subst h0
    rw [if_pos (show nI 0 = 0 from rfl), if_pos rfl]
    unfold bl_X12_leads_33 bl_X12_leads_62 bl_X12_leads_63
    rw [if_pos (by decide)]
    exact hno (by unfold moth; rw [if_pos hq3])
  · rw [if_neg (nI_ne0 (by omega) (by omega)), if_neg (by decide), pm_keyOf hG (by omega), pu_b, hM2 _ hc, hq2, show nI q - 1 = nI (q - 1) from by rw [show q = (q - 1) + 1 by omega, nI_pred]; rfl, pm_other hG hB hM2 hg (by omega) (by omega), pu_b]
    have l0 := mhash_lt hg 0 (q - 1)
    have l1 := mhash_lt hg 1 (q - 1)
    have fin : ∀ c, c < mn g 0 → moth g b p = some c → bl_X12_leads_33 G 71 (nI b) (nI c) (uC u (mn g 0) (maway g key) l) = some (if mlead g key b p then 1 else 0, uC u (mn g 0) (maway g key) l) := by
      intro c hc2 hm
      have ac := (maway_S hg key c hc2).1
      have ab := (maway_S hg key b hb).1
      unfold bl_X12_leads_33 bl_X12_leads_62 bl_X12_leads_63 mlead
      rw [hm, if_neg (nI_pos (by omega)), h2.1.1, uC_ld h2 hn hc2, uC_ld h2 hn hb, show nI (maway g key b) - 1 = nI (maway g key b - 1) from pk_sub (b := 1) (by omega), pu_eq (by omega) (by omega)]
      by_cases h5 : maway g key c = maway g key b - 1
      · rw [if_pos h5]
        simp only [decide_eq_true_eq]
        rw [if_pos (by omega)]
        rfl
      · rw [if_neg h5]
        simp only [decide_eq_true_eq]
        rw [if_neg (by omega)]
        rfl
    by_cases h1 : mhash g 0 (q - 1) = mhash g 1 (q - 1)
    · rw [if_pos h1]
      unfold bl_X12_leads_33 bl_X12_leads_62 bl_X12_leads_63
      rw [if_pos (by decide)]
      exact hno (by unfold moth; rw [hq3, if_neg h0, if_pos h1])
    · rw [if_neg h1]
      by_cases h3 : b = mhash g 0 (q - 1)
      · rw [if_pos h3]
        exact fin _ l1 (by unfold moth; rw [hq3, if_neg h0, if_neg h1, if_pos h3])
      · rw [if_neg h3]
        exact fin _ l0 (by unfold moth; rw [hq3, if_neg h0, if_neg h1, if_neg h3])
/-- the other bucket of what is in a place, where there is one -/
theorem pm_otherAt {G : tc_G} (hG : gm G) {u : tc_S} {B b p c : Nat} {g : mp} (hB : B + 292 ≤ 3253) (hM : isM u B g) (hg : mok g) (hb : b < mn g 0) (hp : p < mn g 1) (hm : moth g b p = some c) : tc_b (fn_X12_keyOf G 71 (nI (B + mcell b p)) u) (fun x u1 => fn_X12_otherOf G 71 (nI B) x (nI b) u1) = some (nI c, u) := by
  have hn := hg.2.1.2
  have hs := hg.2.2.1
  have hc : mcell b p < 292 := by unfold mcell; omega
  obtain ⟨q, hq1, hq2⟩ := hg.2.2.2.2.2.2.2.2.2.2.1 b p (by omega) (by omega)
  have hq3 : mn g (mcell b p) = q := by unfold mn; rw [hq2, nI_clamp (by omega)]
  unfold moth at hm
  rw [hq3] at hm
  split at hm
  · cases hm
  · rename_i h0
    rw [pm_keyOf hG (by omega), pu_b, hM _ hc, hq2, show nI q - 1 = nI (q - 1) from by rw [show q = (q - 1) + 1 by omega, nI_pred]; rfl, pm_other hG hB hM hg (by omega) (by omega)]
    split at hm
    · cases hm
    · rename_i h1
      rw [if_neg h1]
      split at hm
      · rename_i h3; cases hm; rw [if_pos h3]
      · rename_i h3; cases hm; rw [if_neg h3]
theorem lead_ex {g : mp} (hg : mok g) {key b n : Nat} (hb : b < mn g 0) (hd : maway g key b = n + 1) (hlt : n + 1 < 1000) : ∃ p, ff (mlead g key b) (mn g 1) 0 = some p := by
  have h := maway_path hg (key := key) hb (by rw [hd]; exact hlt)
  rw [hd] at h
  obtain ⟨⟨-, p, c, hp, hc, hpath⟩, hmin, -⟩ := h
  have hcn : maway g key c = n := by
    refine maway_dist hg hpath fun k hk hpk => ?_
    exact hmin (k + 1) (by omega) ⟨hb, p, c, hp, hc, hpk⟩
  have hl : mlead g key b p = true := by
    unfold mlead
    rw [hc]
    simp [hcn, hd]
  have : ∀ (m i : Nat), i ≤ p → p < i + m → ∃ x, ff (mlead g key b) m i = some x := by
    intro m
    induction m with
    | zero => intro i h1 h2; omega
    | succ m ih =>
      intro i h1 h2
      unfold ff
      by_cases hi : mlead g key b i = true
      · exact ⟨i, by rw [if_pos hi]⟩
      · rw [if_neg hi]
        have : i ≠ p := fun e => hi (by rw [e]; exact hl)
        exact ih (i + 1) (by omega) (by omega)
  exact this (mn g 1) 0 (by omega) (by omega)
