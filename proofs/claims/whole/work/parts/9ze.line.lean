/-! lines: plain; the class -/
abbrev pxs : Type := Nat × mp × List (Nat × Nat × Nat) × Nat × Nat
def nte (k s : Nat) (W : Nat × Nat) : Nat × Nat := if W.1 = 0 then (k, s) else W
def nrg (lo hi v s : Nat) (W : Nat × Nat) : Nat × Nat := if v < lo ∨ hi < v then nte 2 s W else W
def nhs (v s : Nat) (H : List (Nat × Nat × Nat)) (W : Nat × Nat) : Nat × Nat := if 999 < v then nte 2 s W else if (∃ h ∈ H, h.1 = v) then nte 3 s W else W
def bSet (t : Nat → Nat) (n c lo hi : Nat) (x : pxs) : Sum Nat pxs := if kK t n x.1 = 2 then .inr (kE t n x.1, upd x.2.1 c (nI (kV t n x.1)), x.2.2.1, nrg lo hi (kV t n x.1) (kS t n x.1) x.2.2.2) else .inl (kS t n x.1)
def bCh2 (s e c : Nat) (x : pxs) : Option Nat → Sum Nat pxs
  | some i => .inr (e, upd x.2.1 c (nI i), x.2.2)
  | none => .inl s
def bCho (t : Nat → Nat) (n w c : Nat) (x : pxs) : Sum Nat pxs := if kK t n x.1 = 1 then bCh2 (kS t n x.1) (kE t n x.1) c x (wix (wds w) 0 (kW t n x.1)) else .inl (kS t n x.1)
def bHsh (t : Nat → Nat) (n c : Nat) (x : pxs) : Sum Nat pxs := if kK t n x.1 = 2 then (if kK t n (kE t n x.1) = 2 then .inr (kE t n (kE t n x.1), upd (upd x.2.1 c (nI (kV t n x.1))) (c + 1) (nI (kV t n (kE t n x.1))), x.2.2.1, nrg 0 1008 (kV t n (kE t n x.1)) (kS t n (kE t n x.1)) (nrg 1 1008 (kV t n x.1) (kS t n x.1) x.2.2.2)) else .inl (kS t n (kE t n x.1))) else .inl (kS t n x.1)
def bHas (t : Nat → Nat) (n : Nat) (x : pxs) : Sum Nat pxs := if kK t n x.1 = 2 then (if kK t n (kE t n x.1) = 2 then .inr (kE t n (kE t n x.1), x.2.1, x.2.2.1 ++ [(kV t n x.1, kV t n (kE t n x.1), kS t n x.1)], nrg 0 999 (kV t n (kE t n x.1)) (kS t n (kE t n x.1)) (nhs (kV t n x.1) (kS t n x.1) x.2.2.1 x.2.2.2)) else .inl (kS t n (kE t n x.1))) else .inl (kS t n x.1)
def bEnd (t : Nat → Nat) (n : Nat) : Sum Nat pxs → Sum Nat pxs
  | .inl s => .inl s
  | .inr x => if kK t n x.1 = 3 then .inr (kE t n x.1, x.2) else .inl (kS t n x.1)
def losN (i : Nat) : Nat := [1, 1, 0, 0, 0, 0].getD i 0
def hisN (i : Nat) : Nat := [16, 4, 4, 16, 4, 9999].getD i 0
def bdy (t : Nat → Nat) (n i : Nat) (x : pxs) : Sum Nat pxs := if i ≤ 5 then bSet t n (if i = 5 then 11 else i) (losN i) (hisN i) x else if i ≤ 7 then bCho t n (i - 5) (i - 1) x else if i ≤ 9 then bHsh t n (if i = 8 then 7 else 9) x else bHas t n x
def ln2 (t : Nat → Nat) (n : Nat) (x : pxs) : Option Nat → Sum Nat pxs
  | some i => bEnd t n (bdy t n i (kE t n x.1, x.2))
  | none => .inl (kS t n x.1)
def ln1 (t : Nat → Nat) (n : Nat) (x : pxs) : Sum Nat pxs := if kK t n x.1 = 1 then ln2 t n x (wix (wds 0) 0 (kW t n x.1)) else .inl (kS t n x.1)
/-- what the class's reader holds -/
def hL (u : tc_S) (H : List (Nat × Nat × Nat)) : Prop := u.1 65 6 = nI H.length ∧ ∀ j (h : j < H.length), u.1 68 j = nI (H[j]).1 ∧ u.1 69 j = nI (H[j]).2.1 ∧ u.1 70 j = nI (H[j]).2.2
def cG (u : tc_S) (S : mp) (H : List (Nat × Nat × Nat)) (W : Nat × Nat) : Prop := ((∀ k, k < 11 → u.1 66 k = S k) ∧ u.1 67 0 = S 11) ∧ hL u H ∧ u.1 65 0 = nI W.1 ∧ u.1 65 1 = (if W.1 = 0 then -1 else nI W.2)
def cS (u : tc_S) (t : Nat → Nat) (n : Nat) (x : pxs) : Prop := cB u t n ∧ cT u t n x.1 ∧ cG u x.2.1 x.2.2.1 x.2.2.2
def cF (u : tc_S) (s : Nat) : Prop := u.1 65 0 = 1 ∧ u.1 65 1 = nI s
def cO (u : tc_S) (t : Nat → Nat) (n : Nat) : Sum Nat pxs → Prop
  | .inl s => cF u s
  | .inr x => cS u t n x
def oBx : Sum Nat pxs → Int32
  | .inl _ => 0
  | .inr _ => 1
def fRd (o _ : Nat) : Prop := 65 ≤ o ∧ o ≤ 70
theorem cG_fr {P : Nat → Nat → Prop} {u w : tc_S} {S : mp} {H : List (Nat × Nat × Nat)} {W : Nat × Nat} (h : cG u S H W) (hf : fr P u w) (h1 : ∀ k, ¬ P 66 k) (h2 : ∀ k, ¬ P 67 k) (h3 : ∀ o k, 68 ≤ o → o ≤ 70 → ¬ P o k) (h4 : ¬ P 65 0 ∧ ¬ P 65 1 ∧ ¬ P 65 6) : cG w S H W := by
  obtain ⟨⟨a1, a2⟩, ⟨a3, a4⟩, a5, a6⟩ := h
  refine ⟨⟨fun k hk => by rw [hf _ _ (h1 k)]; exact a1 k hk, by rw [hf _ _ (h2 0)]; exact a2⟩, ⟨by rw [hf _ _ h4.2.2]; exact a3, fun j hj => ?_⟩, by rw [hf _ _ h4.1]; exact a5, by rw [hf _ _ h4.2.1]; exact a6⟩
  rw [hf _ _ (h3 68 j (by omega) (by omega)), hf _ _ (h3 69 j (by omega) (by omega)), hf _ _ (h3 70 j (by omega) (by omega))]
  exact a4 j hj
theorem mt_stepS {G : tc_G} (hW : gW G) {t : Nat → Nat} {n p : Nat} {u : tc_S} {S : mp} {H : List (Nat × Nat × Nat)} {W : Nat × Nat} (hp : p ≤ n) (h9 : u.1 65 9 = nI p) (hB : cB u t n) (hg : cG u S H W) : y2 (fn_X6_step G 65 u) (fun _ w => cS w t n (p, S, H, W) ∧ w.1 65 13 = u.1 65 13 ∧ fr fRd u w) :=
  yl_m (mt_step hW hp h9 hB) fun r hr => ⟨⟨cB_fr hB hr.2 (by unfold fS; omega) (fun k => by unfold fS; omega), hr.1, cG_fr hg hr.2 (fun k => by unfold fS; omega) (fun k => by unfold fS; omega) (fun o k q1 q2 => by unfold fS; omega) (by unfold fS; omega)⟩, hr.2 _ _ (by unfold fS; omega), fr_mono hr.2 fun o k q => by unfold fS at q; unfold fRd; omega⟩
theorem mt_stop {G : tc_G} {u : tc_S} {s : Nat} (h : u.1 65 11 = nI s) : y2 (fn_X6_stop G 65 u) (fun r w => r = 0 ∧ cF w s ∧ fr fRd u w) := by
  unfold fn_X6_stop
  refine yl_let (yl_let (yl_z0 (yl_ok ⟨rfl, ⟨?_, ?_⟩, fr_w (fr_w fr_refl ⟨by omega, by omega⟩) ⟨by omega, by omega⟩⟩)))
  · rw [w_get, if_neg (by omega), w_get, if_pos ⟨rfl, rfl⟩]
  · rw [w_get, if_pos ⟨rfl, rfl⟩, w_get, if_neg (by omega)]; exact h
theorem mt_note {G : tc_G} {u : tc_S} {k s : Nat} {S : mp} {H : List (Nat × Nat × Nat)} {W : Nat × Nat} (hk : 1 ≤ k ∧ k ≤ 4) (hW1 : W.1 ≤ 4) (hg : cG u S H W) : y2 (fn_X6_note G 65 (nI k) (nI s) u) (fun _ w => cG w S H (nte k s W) ∧ fr (fun o k => o = 65 ∧ (k = 0 ∨ k = 1)) u w) := by
  obtain ⟨⟨a1, a2⟩, ⟨a3, a4⟩, a5, a6⟩ := id hg
  unfold fn_X6_note bl_X6_note_17 nte
  rw [a5, show (0 : Int32) = nI 0 from rfl, pu_eq (by omega) (by omega)]
  by_cases c : W.1 = 0
  · rw [if_pos c, if_pos c]
    refine yl_let (yl_let (yl_ok ⟨⟨⟨fun j hj => ?_, ?_⟩, ⟨?_, fun j hj => ?_⟩, ?_, ?_⟩, fr_w (fr_w fr_refl ⟨rfl, by omega⟩) ⟨rfl, by omega⟩⟩))
    · rw [w_get, if_neg (by omega), w_get, if_neg (by omega)]; exact a1 j hj
    · rw [w_get, if_neg (by omega), w_get, if_neg (by omega)]; exact a2
    · rw [w_get, if_neg (by omega), w_get, if_neg (by omega)]; exact a3
    · simp only [w_get, show ¬ (68 = 65) by omega, show ¬ (69 = 65) by omega, show ¬ (70 = 65) by omega, false_and, if_false]
      exact a4 j hj
    · rw [w_get, if_neg (by omega), w_get, if_pos ⟨rfl, rfl⟩]
    · rw [w_get, if_pos ⟨rfl, rfl⟩, if_neg (show ¬ k = 0 by omega)]
  · rw [if_neg c, if_neg c]
    exact yl_ok ⟨hg, fr_refl⟩
theorem nrg_le {lo hi v s : Nat} {W : Nat × Nat} (h : W.1 ≤ 4) : (nrg lo hi v s W).1 ≤ 4 := by
  unfold nrg nte
  split
  · split
    · exact Nat.le_of_ble_eq_true rfl
    · exact h
  · exact h
theorem nhs_le {v s : Nat} {H : List (Nat × Nat × Nat)} {W : Nat × Nat} (h : W.1 ≤ 4) : (nhs v s H W).1 ≤ 4 := by
  unfold nhs nte
  split
  · split
    · exact Nat.le_of_ble_eq_true rfl
    · exact h
  · split
    · split
      · exact Nat.le_of_ble_eq_true rfl
      · exact h
    · exact h
/-- a number -/
theorem kK2 {t : Nat → Nat} {n p : Nat} (h : kK t n p = 2) : kS t n p < n ∧ xD (t (kS t n p)) = true ∧ kE t n p = xs xD t (n - kS t n p) (kS t n p) := by
  unfold kK at h
  unfold kE
  by_cases c0 : n ≤ kS t n p
  · rw [if_pos c0] at h; omega
  · rw [if_neg c0] at h ⊢
    by_cases c1 : t (kS t n p) = 59
    · rw [if_pos c1] at h; omega
    · rw [if_neg c1] at h ⊢
      by_cases c2 : xD (t (kS t n p)) = true
      · rw [if_pos c2]; exact ⟨by omega, c2, rfl⟩
      · rw [if_neg c2] at h
        split at h <;> omega
theorem kV_le {t : Nat → Nat} {n p : Nat} (h : kK t n p = 2) : kV t n p ≤ 9999 := by
  unfold kV
  refine (dv_le t _ _ fun j hj => ?_).1
  have k2 := kK2 h
  have := of_decide_eq_true (xs_in (Q := xD) (t := t) (m := n - kS t n p) (p := kS t n p) (j := kS t n p + j) (by omega) (by rw [← k2.2.2]; omega))
  exact this.2
theorem mt_num0 {G : tc_G} {t : Nat → Nat} {n : Nat} {u : tc_S} {x : pxs} {lo hi : Int32} (h : cS u t n x) (hk : ¬ kK t n x.1 = 2) : y2 (fn_X6_readNumber G 65 lo hi u) (fun r w => r = 0 ∧ cF w (kS t n x.1) ∧ fr fRd u w) := by
  have := kK_le t n x.1
  unfold fn_X6_readNumber
  rw [h.2.1.2.1, show (2 : Int32) = nI 2 from rfl, pu_eq (by omega) (by omega), if_neg hk]
  refine yl_b (mt_stop h.2.1.1) fun r w hw => ?_
  rw [hw.1]
  exact yl_z0 (yl_ok ⟨rfl, hw.2⟩)
theorem mt_num {G : tc_G} (hW : gW G) {t : Nat → Nat} {n lo hi : Nat} {u : tc_S} {x : pxs} (h : cS u t n x) (hp : x.1 ≤ n) (hw4 : x.2.2.2.1 ≤ 4) (hlo : lo ≤ 10000) (hhi : hi ≤ 10000) (hk : kK t n x.1 = 2) : y2 (fn_X6_readNumber G 65 (nI lo) (nI hi) u) (fun r w => r = 1 ∧ cS w t n (kE t n x.1, x.2.1, x.2.2.1, nrg lo hi (kV t n x.1) (kS t n x.1) x.2.2.2) ∧ w.1 65 13 = nI (kV t n x.1) ∧ fr fRd u w) := by
  have he := kE_le (t := t) hp
  have hv := kV_le hk
  obtain ⟨hB, ⟨t1, t2, t3, t4⟩, hg⟩ := h
  unfold fn_X6_readNumber
  rw [t2, hk, if_pos (show nI 2 = 2 from rfl)]
  refine yl_let ?_
  rw [t4 hk]
  have f1 : fr (fun o k => o = 65 ∧ k = 13) u (tc_w u 65 13 (nI (kV t n x.1))) := fr_w fr_refl ⟨rfl, rfl⟩
  have g13 : (tc_w u 65 13 (nI (kV t n x.1))).1 65 13 = nI (kV t n x.1) := by rw [w_get, if_pos ⟨rfl, rfl⟩]
  have B1 := cB_fr hB f1 (by omega) (fun k => by omega)
  have G1 := cG_fr hg f1 (fun k => by omega) (fun k => by omega) (fun o k q1 q2 => by omega) (by omega)
  have g9 : (tc_w u 65 13 (nI (kV t n x.1))).1 65 9 = nI (kE t n x.1) := by rw [w_get, if_neg (by omega)]; exact t3 (by omega)
  have g11 : (tc_w u 65 13 (nI (kV t n x.1))).1 65 11 = nI (kS t n x.1) := by rw [w_get, if_neg (by omega)]; exact t1
  have fu : fr fRd u (tc_w u 65 13 (nI (kV t n x.1))) := fr_mono f1 fun o k q => by unfold fRd; omega
  generalize tc_w u 65 13 (nI (kV t n x.1)) = v at B1 G1 g13 g9 g11 fu ⊢
  rw [g13, pu_lt (by omega) (by omega), pu_le (by omega) (by omega)]
  have fin : ∀ (w : tc_S) (W : Nat × Nat), cB w t n → cG w x.2.1 x.2.2.1 W → w.1 65 9 = nI (kE t n x.1) → w.1 65 13 = nI (kV t n x.1) → fr fRd u w → y2 (bl_X6_readNumber_46 G 65 w) (fun r w => r = 1 ∧ cS w t n (kE t n x.1, x.2.1, x.2.2.1, W) ∧ w.1 65 13 = nI (kV t n x.1) ∧ fr fRd u w) := by
    intro w W B2 G2 g9 g13 fw
    unfold bl_X6_readNumber_46
    refine yl_b (mt_stepS hW he.2 g9 B2 G2) fun _ z hz => ?_
    exact yl_z1 (yl_ok ⟨rfl, hz.1, by rw [hz.2.1]; exact g13, fr_trans fw hz.2.2⟩)
  have bad : y2 (bl_X6_readNumber_37 G 65 v) (fun r w => r = 1 ∧ cS w t n (kE t n x.1, x.2.1, x.2.2.1, nte 2 (kS t n x.1) x.2.2.2) ∧ w.1 65 13 = nI (kV t n x.1) ∧ fr fRd u w) := by
    unfold bl_X6_readNumber_37
    rw [g11]
    refine yl_b (mt_note (k := 2) (by omega) hw4 G1) fun _ w hw => ?_
    exact fin w _ (cB_fr B1 hw.2 (by omega) (fun k => by omega)) hw.1 (by rw [hw.2 _ _ (by omega)]; exact g9) (by rw [hw.2 _ _ (by omega)]; exact g13) (fr_trans fu (fr_mono hw.2 fun o k q => by unfold fRd; omega))
  unfold nrg
  by_cases c1 : kV t n x.1 < lo
  · rw [if_pos c1, if_pos (Or.inl c1)]
    exact bad
  · rw [if_neg c1]
    by_cases c2 : kV t n x.1 ≤ hi
    · rw [if_pos c2, if_neg (by omega)]
      exact fin v _ B1 G1 g9 g13 fu
    · rw [if_neg c2, if_pos (by omega)]
      exact bad
theorem cS_set {t : Nat → Nat} {n k : Nat} {u : tc_S} {x : pxs} {v : Int32} (h : cS u t n x) (hk : k < 11) : cS (tc_w u 66 k v) t n (x.1, upd x.2.1 k v, x.2.2) := by
  have f1 : fr (fun o j => o = 66 ∧ j = k) u (tc_w u 66 k v) := fr_w fr_refl ⟨rfl, rfl⟩
  obtain ⟨hB, ⟨t1, t2, t3, t4⟩, ⟨a1, a2⟩, ⟨a3, a4⟩, a5, a6⟩ := h
  have z : ∀ o j, o ≠ 66 → (tc_w u 66 k v).1 o j = u.1 o j := fun o j q => f1 _ _ (by omega)
  refine ⟨cB_fr hB f1 (by omega) (fun k => by omega), ⟨?_, ?_, fun q => ?_, fun q => ?_⟩, ⟨fun j hj => ?_, ?_⟩, ⟨?_, fun j hj => ?_⟩, ?_, ?_⟩
  · rw [z _ _ (by omega)]; exact t1
  · rw [z _ _ (by omega)]; exact t2
  · rw [z _ _ (by omega)]; exact t3 q
  · rw [z _ _ (by omega)]; exact t4 q
  · rw [w_get]
    by_cases c : j = k
    · rw [if_pos ⟨rfl, c⟩, c]; exact upd_eq.symm
    · rw [if_neg (fun q => c q.2)]
      exact (a1 j hj).trans (upd_ne c).symm
  · rw [z _ _ (by omega)]; exact a2.trans (upd_ne (by omega)).symm
  · rw [z _ _ (by omega)]; exact a3
  · rw [z _ _ (by omega), z _ _ (by omega), z _ _ (by omega)]; exact a4 j hj
  · rw [z _ _ (by omega)]; exact a5
  · rw [z _ _ (by omega)]; exact a6
theorem cS_seed {t : Nat → Nat} {n : Nat} {u : tc_S} {x : pxs} {v : Int32} (h : cS u t n x) : cS (tc_w u 67 0 v) t n (x.1, upd x.2.1 11 v, x.2.2) := by
  have f1 : fr (fun o j => o = 67 ∧ j = 0) u (tc_w u 67 0 v) := fr_w fr_refl ⟨rfl, rfl⟩
  obtain ⟨hB, ⟨t1, t2, t3, t4⟩, ⟨a1, a2⟩, ⟨a3, a4⟩, a5, a6⟩ := h
  have z : ∀ o j, o ≠ 67 → (tc_w u 67 0 v).1 o j = u.1 o j := fun o j q => f1 _ _ (by omega)
  refine ⟨cB_fr hB f1 (by omega) (fun k => by omega), ⟨?_, ?_, fun q => ?_, fun q => ?_⟩, ⟨fun j hj => ?_, ?_⟩, ⟨?_, fun j hj => ?_⟩, ?_, ?_⟩
  · rw [z _ _ (by omega)]; exact t1
  · rw [z _ _ (by omega)]; exact t2
  · rw [z _ _ (by omega)]; exact t3 q
  · rw [z _ _ (by omega)]; exact t4 q
  · rw [z _ _ (by omega)]; exact (a1 j hj).trans (upd_ne (by omega)).symm
  · rw [w_get, if_pos ⟨rfl, rfl⟩]
    show v = upd x.2.1 11 v 11
    exact upd_eq.symm
  · rw [z _ _ (by omega)]; exact a3
  · rw [z _ _ (by omega), z _ _ (by omega), z _ _ (by omega)]; exact a4 j hj
  · rw [z _ _ (by omega)]; exact a5
  · rw [z _ _ (by omega)]; exact a6
theorem lx_q : ∀ i, i < 6 → (tc_lm 0).getD i 0 = nI (losN i) ∧ (tc_lm 1).getD i 0 = nI (hisN i) ∧ losN i ≤ 10000 ∧ hisN i ≤ 10000 := by decide +kernel
theorem mt_setting {G : tc_G} (hW : gW G) {t : Nat → Nat} {n i : Nat} {u : tc_S} {x : pxs} (h : cS u t n x) (hp : x.1 ≤ n) (hw4 : x.2.2.2.1 ≤ 4) (hi : i ≤ 5) : y2 (fn_X6_readSetting G 65 (nI i) u) (fun r w => r = oBx (bSet t n (if i = 5 then 11 else i) (losN i) (hisN i) x) ∧ cO w t n (bSet t n (if i = 5 then 11 else i) (losN i) (hisN i) x) ∧ fr fRd u w) := by
  obtain ⟨l1, l2, l3, l4⟩ := lx_q i (by omega)
  have lx : ∀ {β : Type} (w : Nat) (k : Int32 → Option β), tc_lx w (nI i) k = k ((tc_lm w).getD i 0) := fun w k => by
    unfold tc_lx
    rw [if_neg (nI_in (N := 6) (by omega) (by omega)), nI_clamp (by omega)]
  unfold fn_X6_readSetting bSet
  rw [lx, lx, l1, l2]
  by_cases c : kK t n x.1 = 2
  · rw [if_pos c]
    refine yl_b (mt_num hW h hp hw4 l3 l4 c) fun r w hw => ?_
    obtain ⟨w1, w2, w3, w4⟩ := hw
    rw [w1, w3, hW.2.1, hW.2.2.1]
    refine yl_n i_n1 ?_
    unfold bl_X6_readSetting_140
    have fin : ∀ k, k < 11 → y2 (tc_let (tc_w w 66 k (nI (kV t n x.1))) fun u9 => tc_zo 1 <| some (1, u9)) (fun r v => r = 1 ∧ cS v t n (kE t n x.1, upd x.2.1 k (nI (kV t n x.1)), x.2.2.1, nrg (losN i) (hisN i) (kV t n x.1) (kS t n x.1) x.2.2.2) ∧ fr fRd u v) := fun k hk => yl_let (yl_z1 (yl_ok ⟨rfl, cS_set w2 hk, fr_w w4 ⟨by omega, by omega⟩⟩))
    have hi6 : i = 0 ∨ i = 1 ∨ i = 2 ∨ i = 3 ∨ i = 4 ∨ i = 5 := by omega
    rcases hi6 with hi6 | hi6 | hi6 | hi6 | hi6 | hi6
    · subst hi6
      exact yl_p (by decide) (fin 0 (by omega))
    · subst hi6
      exact yl_n (by decide) (yl_p (by decide) (fin 1 (by omega)))
    · subst hi6
      exact yl_n (by decide) (yl_n (by decide) (yl_p (by decide) (fin 2 (by omega))))
    · subst hi6
      exact yl_n (by decide) (yl_n (by decide) (yl_n (by decide) (yl_p (by decide) (fin 3 (by omega)))))
    · subst hi6
      exact yl_n (by decide) (yl_n (by decide) (yl_n (by decide) (yl_n (by decide) (yl_p (by decide) (fin 4 (by omega))))))
    · subst hi6
      exact yl_n (by decide) (yl_n (by decide) (yl_n (by decide) (yl_n (by decide) (yl_n (by decide) (yl_let (yl_z1 (yl_ok ⟨rfl, cS_seed w2, fr_w w4 ⟨by omega, by omega⟩⟩)))))))
  · rw [if_neg c]
    refine yl_b (mt_num0 h c) fun r w hw => ?_
    rw [hw.1]
    exact yl_p rfl (yl_z0 (yl_ok ⟨rfl, hw.2⟩))
theorem wix_lt {b : List Nat} {j : Nat} : ∀ {ws : List (List Nat)} {i : Nat}, wix ws i b = some j → i ≤ j ∧ j < i + ws.length := by
  intro ws
  induction ws with
  | nil => intro i h; cases h
  | cons W ws ih =>
    intro i h
    rw [wix] at h
    rw [List.length_cons]
    by_cases c : b = W
    · rw [if_pos c] at h
      have := Option.some.inj h
      omega
    · rw [if_neg c] at h
      have := ih h
      omega
theorem mt_choice {G : tc_G} (hW : gW G) {t : Nat → Nat} {n i : Nat} {u : tc_S} {x : pxs} (h : cS u t n x) (hp : x.1 ≤ n) (hi : i = 6 ∨ i = 7) : y2 (fn_X6_readChoice G 65 (nI i) u) (fun r w => r = oBx (bCho t n (i - 5) (i - 1) x) ∧ cO w t n (bCho t n (i - 5) (i - 1) x) ∧ fr fRd u w) := by
  have hkl := kK_le t n x.1
  have he := kE_le (t := t) hp
  have stop : y2 (tc_b (fn_X6_stop G 65 u) fun x9 u10 => tc_zo x9 <| some (x9, u10)) (fun r w => r = 0 ∧ cF w (kS t n x.1) ∧ fr fRd u w) := by
    refine yl_b (mt_stop h.2.1.1) fun r w hw => ?_
    rw [hw.1]
    exact yl_z0 (yl_ok ⟨rfl, hw.2⟩)
  unfold fn_X6_readChoice bCho
  rw [h.2.1.2.1, show (1 : Int32) = nI 1 from rfl, pu_eq (by omega) (by omega)]
  unfold bl_X6_readChoice_22 bl_X6_readChoice_29
  by_cases c : kK t n x.1 = 1
  · rw [if_pos c, if_pos c]
    have fin : ∀ w, w = i - 5 → y2 (tc_b (fn_X6_wordOf G 65 w u) fun x13 u14 => if 0 ≤ x13 then (if nI i = 6 then (tc_let (tc_w u14 (tc_p G 65 2) 5 x13) fun u8 => bl_X6_readChoice_64 G 65 u8) else (tc_let (tc_w u14 (tc_p G 65 2) 6 x13) fun u7 => bl_X6_readChoice_64 G 65 u7)) else (tc_b (fn_X6_stop G 65 u14) fun x9 u10 => tc_zo x9 <| some (x9, u10))) (fun r w => r = oBx (bCh2 (kS t n x.1) (kE t n x.1) (i - 1) x (wix (wds (i - 5)) 0 (kW t n x.1))) ∧ cO w t n (bCh2 (kS t n x.1) (kE t n x.1) (i - 1) x (wix (wds (i - 5)) 0 (kW t n x.1))) ∧ fr fRd u w) := by
      intro w hw
      refine yl_e (mt_wordOf hW (by omega) hp h.1 h.2.1 c) ?_
      rw [hw]
      have wl : ∀ j, wix (wds (i - 5)) 0 (kW t n x.1) = some j → j < 4 := by
        intro j hj
        have z := wix_lt hj
        have l4 : (wds (i - 5)).length ≤ 4 := by
          rcases hi with e | e
          · subst e; decide
          · subst e; decide
        omega
      cases hx : wix (wds (i - 5)) 0 (kW t n x.1) with
      | none => exact yl_n (show ¬ (0 : Int32) ≤ -1 by decide) stop
      | some j =>
        have hj := wl j hx
        refine yl_p (show 0 ≤ nI j from nI_pos' (by omega)) ?_
        rw [hW.2.1]
        unfold bl_X6_readChoice_64
        have go : ∀ k, k < 11 → k = i - 1 → y2 (tc_let (tc_w u 66 k (nI j)) fun u8 => tc_b (fn_X6_step G 65 u8) fun x1 u2 => tc_zo 1 <| some (1, u2)) (fun r w => r = 1 ∧ cS w t n (kE t n x.1, upd x.2.1 (i - 1) (nI j), x.2.2) ∧ fr fRd u w) := by
          intro k hk he2
          have z := cS_set (v := nI j) h hk
          refine yl_let ?_
          refine yl_b (mt_stepS hW he.2 (z.2.1.2.2.1 (by show kK t n x.1 ≠ 4; omega)) z.1 z.2.2) fun _ v hv => ?_
          rw [he2] at hv
          exact yl_z1 (yl_ok ⟨rfl, hv.1, fr_trans (fr_w fr_refl ⟨by omega, by omega⟩) hv.2.2⟩)
        rcases hi with e | e
        · subst e
          exact yl_p rfl (go 5 (by omega) rfl)
        · subst e
          exact yl_n (by decide) (go 6 (by omega) rfl)
    rcases hi with e | e
    · subst e
      exact yl_p rfl (fin 1 rfl)
    · subst e
      exact yl_n (by decide) (fin 2 rfl)
  · rw [if_neg c, if_neg c]
    exact yl_n (show ¬ (0 : Int32) ≤ -1 by decide) stop
