/-! the roster: the entries in the order of their keys, or of their ages -/
def gR (G : tc_G) : Prop := (tc_p G 32 0 = 33 ∧ tc_p G 32 2 = 34 ∧ tc_p G 32 3 = 35 ∧ tc_p G 32 4 = 36 ∧ tc_p G 32 6 = 37) ∧ G.2.2.1 33 = 68 ∧ G.2.2.1 34 = 68 ∧ G.2.2.1 35 = 68 ∧ G.2.2.1 36 = 68 ∧ G.2.2.1 37 = 32
theorem in_gR : gR (tc_gl in_L4) := ⟨⟨rfl, rfl, rfl, rfl, rfl⟩, rfl, rfl, rfl, rfl, rfl⟩
def fG (o k : Nat) : Prop := o = 33 ∨ (o = 32 ∧ k = 1)
/-- n of them stand in order -/
def rs (u : tc_S) (n : Nat) (os : Nat → Nat) : Prop := u.1 32 1 = nI n ∧ ∀ k, k < n → u.1 33 k = nI (os k)
/-- os is the list of those below i, by what they are worth -/
def srt (fil : Nat → Prop) (val : Nat → Nat) (i n : Nat) (os : Nat → Nat) : Prop := (∀ a b, a < b → b < n → val (os a) < val (os b)) ∧ (∀ k, k < n → os k < i ∧ fil (os k)) ∧ ∀ j, j < i → fil j → ∃ k, k < n ∧ os k = j
def oin (os : Nat → Nat) (p x : Nat) (k : Nat) : Nat := if k < p then os k else if k = p then x else os (k - 1)
theorem srt_in {fil : Nat → Prop} {val : Nat → Nat} {i n p : Nat} {os : Nat → Nat} (h : srt fil val i n os) (hf : fil i) (hp : p ≤ n) (h1 : ∀ k, k < p → val (os k) < val i) (h2 : ∀ k, p ≤ k → k < n → val i < val (os k)) : srt fil val (i + 1) (n + 1) (oin os p i) := by
  refine ⟨fun a b hab hb => ?_, fun k hk => ?_, fun j hj hfj => ?_⟩
  · unfold oin
    by_cases c1 : b < p
    · rw [if_pos (by omega), if_pos c1]
      exact h.1 a b hab (by omega)
    · rw [if_neg c1]
      by_cases c2 : b = p
      · rw [if_pos c2, if_pos (by omega)]
        exact h1 a (by omega)
      · rw [if_neg c2]
        by_cases c3 : a < p
        · rw [if_pos c3]
          exact h.1 a (b - 1) (by omega) (by omega)
        · rw [if_neg c3]
          by_cases c4 : a = p
          · rw [if_pos c4]
            exact h2 (b - 1) (by omega) (by omega)
          · rw [if_neg c4]
            exact h.1 (a - 1) (b - 1) (by omega) (by omega)
  · unfold oin
    by_cases c1 : k < p
    · rw [if_pos c1]
      have := h.2.1 k (by omega)
      exact ⟨by omega, this.2⟩
    · rw [if_neg c1]
      by_cases c2 : k = p
      · rw [if_pos c2]
        exact ⟨by omega, hf⟩
      · rw [if_neg c2]
        have := h.2.1 (k - 1) (by omega)
        exact ⟨by omega, this.2⟩
  · by_cases c : j = i
    · refine ⟨p, by omega, ?_⟩
      unfold oin
      rw [if_neg (by omega), if_pos rfl, c]
    · obtain ⟨k, k1, k2⟩ := h.2.2 j (by omega) hfj
      by_cases c1 : k < p
      · refine ⟨k, by omega, ?_⟩
        unfold oin
        rw [if_pos c1, k2]
      · refine ⟨k + 1, by omega, ?_⟩
        unfold oin
        rw [if_neg (by omega), if_neg (by omega), show k + 1 - 1 = k by omega, k2]
theorem srt_no {fil : Nat → Prop} {val : Nat → Nat} {i n : Nat} {os : Nat → Nat} (h : srt fil val i n os) (hf : ¬ fil i) : srt fil val (i + 1) n os := by
  refine ⟨h.1, fun k hk => ?_, fun j hj hfj => ?_⟩
  · have := h.2.1 k hk
    exact ⟨by omega, this.2⟩
  · by_cases c : j = i
    · rw [c] at hfj
      exact absurd hfj hf
    · exact h.2.2 j (by omega) hfj
theorem srt_len {fil : Nat → Prop} {val : Nat → Nat} {i n : Nat} {os : Nat → Nat} (h : srt fil val i n os) : n ≤ i :=
  fb_holes i n os (fun k hk => (h.2.1 k hk).1) fun a b hab hb e => by
    have := h.1 a b hab hb
    rw [e] at this
    omega
/-- a hole at p goes down -/
theorem ga_58 {G : tc_G} (hR : gR G) {u0 : tc_S} {t R x n : Nat} {fil : Nat → Prop} {val : Nat → Nat} {os : Nat → Nat} {Q : Int32 × tc_S → Prop} {K : Nat → Nat → Nat → Int32 → tc_S → Option (Int32 × tc_S)} (hRl : G.2.2.1 R = 69) (hRo : R ≠ 33 ∧ R ≠ 32) (hx : x < 68) (hn : n < 68) (hfx : fil x) (hs : srt fil val x n os) (hv : ∀ j, j < 68 → fil j → u0.1 R j = nI (val j) ∧ val j < 2 ^ 31) (hd : ∀ j, j < x → fil j → val j ≠ val x)
    (hk : ∀ w os2, rs w (n + 1) os2 → srt fil val (x + 1) (n + 1) os2 → fr fG u0 w → yl (K 32 t R (nI (x + 1)) w) Q) : ∀ (p f : Nat) (u : tc_S), p ≤ n → p < f → fr fG u0 u → u.1 32 1 = nI n → (∀ k, k < p → u.1 33 k = nI (os k)) → (∀ k, p ≤ k → k < n → u.1 33 (k + 1) = nI (os k)) → (∀ k, p ≤ k → k < n → val x < val (os k)) → yl (lo_X7_gather_58 G K f 32 t R (nI x) (nI p) u) Q := by
  have ext : ∀ p u, p ≤ n → fr fG u0 u → u.1 32 1 = nI n → (∀ k, k < p → u.1 33 k = nI (os k)) → (∀ k, p ≤ k → k < n → u.1 33 (k + 1) = nI (os k)) → (∀ k, p ≤ k → k < n → val x < val (os k)) → (∀ k, k < p → val (os k) < val x) → yl (bl_X7_gather_103 G K 32 t R (nI x) (nI p) u) Q := by
    intro p u hp hf h1 h2 h3 h4 h5
    unfold bl_X7_gather_103 bl_X7_gather_122
    rw [hR.1.1]
    refine yl_sd 68 hR.2.1 (by omega) (by omega) ?_
    refine yl_let (yl_let ?_)
    rw [w_get, if_neg (by omega), h1, nI_1, nI_1]
    refine hk _ (oin os p x) ⟨?_, fun k hk => ?_⟩ (srt_in hs hfx hp h5 h4) (fr_w (fr_w hf (Or.inl rfl)) (Or.inr ⟨rfl, rfl⟩))
    · rw [w_get, if_pos ⟨rfl, rfl⟩]
    · rw [w_get, if_neg (by omega), w_get]
      unfold oin
      by_cases c1 : k < p
      · rw [if_neg (by omega), if_pos c1]
        exact h2 k c1
      · rw [if_neg c1]
        by_cases c2 : k = p
        · rw [if_pos ⟨rfl, c2⟩, if_pos c2]
        · rw [if_neg (fun z => c2 z.2), if_neg c2]
          have := h3 (k - 1) (by omega) (by omega)
          rwa [show k - 1 + 1 = k by omega] at this
  intro p
  induction p with
  | zero =>
    intro f u hp hf hfr h1 h2 h3 h4
    obtain ⟨f, rfl⟩ : ∃ k, f = k + 1 := ⟨f - 1, by omega⟩
    rw [lo_X7_gather_58]
    exact yl_p (by decide) (ext 0 u (by omega) hfr h1 h2 h3 h4 fun k hk => by omega)
  | succ p ih =>
    intro f u hp hf hfr h1 h2 h3 h4
    obtain ⟨f, rfl⟩ : ∃ k, f = k + 1 := ⟨f - 1, by omega⟩
    have hop := hs.2.1 p (by omega)
    have v1 := hv (os p) (by omega) hop.2
    have v2 := hv x hx hfx
    have r1 : u.1 R (os p) = nI (val (os p)) := by rw [hfr _ _ (by unfold fG; omega)]; exact v1.1
    have r2 : u.1 R x = nI (val x) := by rw [hfr _ _ (by unfold fG; omega)]; exact v2.1
    have ap := h2 p (by omega)
    rw [lo_X7_gather_58]
    refine yl_n (nI_nle (by omega) (by omega)) ?_
    rw [hR.1.1, nI_pred]
    refine yl_ld 68 hR.2.1 (by omega) (by omega) ?_
    rw [ap]
    refine yl_ld 69 hRl (by omega) (by omega) ?_
    refine yl_ld 69 hRl (by omega) (by omega) ?_
    rw [r1, r2, pu_le v1.2 v2.2]
    by_cases c : val (os p) ≤ val x
    · rw [if_pos c]
      have c2 : val (os p) < val x := by
        have := hd (os p) hop.1 hop.2
        omega
      refine ext (p + 1) u hp hfr h1 h2 h3 h4 fun k hk => ?_
      by_cases e : k = p
      · rw [e]; exact c2
      · have := hs.1 k p (by omega) (by omega)
        omega
    · rw [if_neg c]
      refine yl_ld 68 hR.2.1 (by omega) (by omega) ?_
      refine yl_sd 68 hR.2.1 (by omega) (by omega) ?_
      refine yl_let ?_
      rw [i_m1, nI_pred, ap]
      refine ih f _ (by omega) (by omega) (fr_w hfr (Or.inl rfl)) ?_ (fun k hk => ?_) (fun k k1 k2 => ?_) fun k k1 k2 => ?_
      · rw [w_get, if_neg (by omega)]; exact h1
      · rw [w_get, if_neg (by omega)]; exact h2 k (by omega)
      · rw [w_get]
        by_cases e : k = p
        · rw [if_pos ⟨rfl, by omega⟩, e]
        · rw [if_neg (by omega)]; exact h3 k (by omega) k2
      · by_cases e : k = p
        · rw [e]; omega
        · exact h4 k (by omega) k2
/-- all are gathered -/
theorem ga_24 {G : tc_G} (hR : gR G) {u0 : tc_S} {t R : Nat} {fil : Nat → Prop} {val : Nat → Nat} (hRl : G.2.2.1 R = 69) (hRo : R ≠ 33 ∧ R ≠ 32) (ht : t ≠ 33 ∧ t ≠ 32) (hkl : tc_p G t 3 = t + 4) (hkL : G.2.2.1 (t + 4) = 69) (ht4 : t + 4 ≠ 33 ∧ t + 4 ≠ 32) (h2 : u0.1 t 2 = nI 68) (hfil : ∀ j, j < 68 → (fil j ↔ ¬ u0.1 (t + 4) j < 0)) (hv : ∀ j, j < 68 → fil j → u0.1 R j = nI (val j) ∧ val j < 2 ^ 31) (hd : ∀ i j, i < 68 → j < 68 → i ≠ j → fil i → fil j → val i ≠ val j) : ∀ (m i f n : Nat) (os : Nat → Nat) (u : tc_S), i + m = 68 → m < f → rs u n os → srt fil val i n os → fr fG u0 u → y2 (lo_X7_gather_24 G f 32 t R (nI i) u) (fun _ w => ∃ n2 os2, rs w n2 os2 ∧ srt fil val 68 n2 os2 ∧ fr fG u0 w) := by
  have hfu := tc_fu_big
  intro m
  induction m with
  | zero =>
    intro i f n os u hi hf hrs hs hfr
    obtain ⟨f, rfl⟩ : ∃ k, f = k + 1 := ⟨f - 1, by omega⟩
    rw [lo_X7_gather_24, hfr t 2 (by unfold fG; omega), h2, pu_le (by omega) (by omega), if_pos (by omega)]
    rw [show i = 68 by omega] at hs
    exact yl_ok ⟨n, os, hrs, hs, hfr⟩
  | succ m ih =>
    intro i f n os u hi hf hrs hs hfr
    obtain ⟨f, rfl⟩ : ∃ k, f = k + 1 := ⟨f - 1, by omega⟩
    have hln := srt_len hs
    rw [lo_X7_gather_24, hfr t 2 (by unfold fG; omega), h2, pu_le (by omega) (by omega), if_neg (by omega), hrs.1, show (68 : Int32) = nI 68 from rfl, pu_le (by omega) (by omega), if_neg (by omega), hkl]
    refine yl_ld 69 hkL (by omega) (by omega) ?_
    rw [hfr (t + 4) i (by unfold fG; omega)]
    by_cases c : u0.1 (t + 4) i < 0
    · refine yl_p c ?_
      unfold bl_X7_gather_122
      refine yl_let ?_
      rw [nI_1]
      exact ih (i + 1) f n os u (by omega) (by omega) hrs (srt_no hs fun z => (hfil i (by omega)).mp z c) hfr
    · refine yl_n c (yl_let ?_)
      have hfi := (hfil i (by omega)).mpr c
      refine ga_58 hR (u0 := u0) (fil := fil) (val := val) (os := os) (n := n) hRl hRo (by omega) (by omega) hfi hs hv (fun j hj hfj => hd j i (by omega) (by omega) (by omega) hfj hfi) (fun w os2 g1 g2 g3 => ?_) n tc_fu u (by omega) (by omega) hfr hrs.1 (fun k hk => hrs.2 k hk) (fun k k1 k2 => by omega) fun k k1 k2 => by omega
      exact ih (i + 1) f (n + 1) os2 w (by omega) (by omega) g1 g2 g3
def kfil (g : mp) (j : Nat) : Prop := ¬ (fc g j).1 = 0
/-- by keys (0), or by ages -/
def kvl (v : Int32) (e : en) : Nat := if v = 0 then e.1.toNatClampNeg - 1 else e.2.2.1.toNatClampNeg
theorem kvl_d {g : mp} (hw : mwf g) (v : Int32) : ∀ i j, i < 68 → j < 68 → i ≠ j → kfil g i → kfil g j → kvl v (fc g i) ≠ kvl v (fc g j) := by
  intro i j hi hj hij fi fj
  obtain ⟨x, x1, x2, x3, x4⟩ := fc_cell hw hi fi
  obtain ⟨y, y1, y2, y3, y4⟩ := fc_cell hw hj fj
  have hxy : x ≠ y := fun z => hij (by rw [← x3, ← y3, z])
  have k0 : ∀ z, z < 68 → ¬ (gc g z).1 = 0 → ck g z ≠ 0 := fun z hz h q => h (by
    show g (20 + 4 * z) = 0
    rw [(hw.1.2.2.1 z (by omega)).1, q]; rfl)
  have cx := k0 x x2 (by rw [← x4]; exact fi)
  have cy := k0 y y2 (by rw [← y4]; exact fj)
  rw [x4, y4]
  unfold kvl
  by_cases c : v = 0
  · rw [if_pos c, if_pos c]
    have := hw.1.2.2.2.2.1 x y (by omega) (by omega) hxy cx
    show ck g x - 1 ≠ ck g y - 1
    omega
  · rw [if_neg c, if_neg c]
    exact hw.1.2.2.2.2.2.2.2 x y (by omega) (by omega) hxy cx cy
theorem kvl_v {g : mp} (hw : mwf g) {u : tc_S} {t : Nat} (h : mt u t g) (v : Int32) : ∀ j, j < 68 → kfil g j → u.1 (if v = 0 then t + 4 else t + 6) j = nI (kvl v (fc g j)) ∧ kvl v (fc g j) < 2 ^ 31 := by
  intro j hj fj
  obtain ⟨x, x1, x2, x3, x4⟩ := fc_cell hw hj fj
  have c0 := hw.1.2.2.1 x (by omega)
  have cx : ck g x ≠ 0 := fun q => fj (by rw [x4]; show g (20 + 4 * x) = 0; rw [c0.1, q]; rfl)
  have hk := mt_key hw h x1 cx
  rw [x3] at hk
  rw [x4]
  unfold kvl
  by_cases c : v = 0
  · rw [if_pos c, if_pos c]
    exact ⟨hk.1, by show ck g x - 1 < _; omega⟩
  · rw [if_neg c, if_neg c]
    have hb := hw.1.2.2.2.2.2.2.1 x (by omega) cx
    have hb1 := hw.1.2.2.2.2.2.1
    exact ⟨hk.2.2.1.trans hb.1, by show cb g x < _; omega⟩
theorem mt_gather {G : tc_G} (hR : gR G) {u : tc_S} {t : Nat} {g : mp} (hT : gT G t 64) (ht : t + 10 ≤ 24 ∨ 38 ≤ t) (hw : mwf g) (h : mt u t g) (v : Int32) : y2 (fn_X7_gather G 32 t v u) (fun _ w => ∃ n os, rs w n os ∧ srt (kfil g) (fun j => kvl v (fc g j)) 68 n os ∧ fr fG u w) := by
  have hfu := tc_fu_big
  have main : y2 (bl_X7_gather_15 G 32 t (if v = 0 then t + 4 else t + 6) u) (fun _ w => ∃ n os, rs w n os ∧ srt (kfil g) (fun j => kvl v (fc g j)) 68 n os ∧ fr fG u w) := by
    unfold bl_X7_gather_15
    refine yl_let ?_
    have f0 : fr fG u (tc_w u 32 1 0) := fr_w fr_refl (Or.inr ⟨rfl, rfl⟩)
    have hR4 : t + 4 ≤ (if v = 0 then t + 4 else t + 6) ∧ (if v = 0 then t + 4 else t + 6) < t + 10 := by split <;> omega
    refine ga_24 hR (u0 := u) (t := t) (R := if v = 0 then t + 4 else t + 6) (fil := kfil g) (val := fun j => kvl v (fc g j)) (hT.2.2.2 _ hR4.1 hR4.2) (by omega) (by omega) hT.2.1.1 (hT.2.2.2 _ (by omega) (by omega)) (by omega) (mt_room h).2 (fun j hj => ?_) (kvl_v hw h v) (kvl_d hw v) 68 0 tc_fu 0 (fun _ => 0) _ (by omega) (by omega) ⟨?_, fun k hk => by omega⟩ ⟨fun a b _ hb => by omega, fun k hk => by omega, fun j hj => by omega⟩ f0
    · have := (pl_emp (h.2.1 j (by omega))).2.1
      exact ⟨fun a b => a (this.mp b), fun a b => a (this.mpr b)⟩
    · rw [w_get, if_pos ⟨rfl, rfl⟩]
      rfl
  unfold fn_X7_gather
  by_cases c : v = 0
  · refine yl_p c ?_
    rw [if_pos c] at main
    rw [hT.2.1.1]
    exact main
  · refine yl_n c ?_
    rw [if_neg c] at main
    rw [hT.2.1.2.2.1]
    exact main
/-- who stands where -/
theorem cf_rank {os : Nat → Nat} {N n : Nat} (h1 : ∀ a b, a < b → b < n → os a ≠ os b) (h2 : ∀ k, k < n → os k < N) : ∀ (a : Nat) (P : Nat → Bool), a ≤ n → (∀ j, j < N → (P j = true ↔ ∃ k, k < a ∧ os k = j)) → cf P N 0 = a := by
  intro a
  induction a with
  | zero =>
    intro P ha hP
    have : cf P N 0 = cf (fun _ => false) N 0 := cf_congr fun i _ hi => by
      have := hP i (by omega)
      cases e : P i with
      | false => rfl
      | true =>
        obtain ⟨k, k1, _⟩ := this.mp e
        omega
    rw [this]
    have z : ∀ m b, cf (fun _ => false) m b = 0 := by
      intro m
      induction m with
      | zero => intro b; rfl
      | succ m ih => intro b; rw [cf, ih]; rfl
    exact z N 0
  | succ a ih =>
    intro P ha hP
    have q := ih (fun j => P j && decide (j ≠ os a)) (by omega) fun j hj => by
      constructor
      · intro e
        rw [Bool.and_eq_true] at e
        obtain ⟨k, k1, k2⟩ := (hP j hj).mp e.1
        have e2 := of_decide_eq_true e.2
        refine ⟨k, ?_, k2⟩
        by_cases c : k = a
        · rw [c] at k2; exact absurd k2.symm e2
        · omega
      · rintro ⟨k, k1, k2⟩
        rw [Bool.and_eq_true]
        refine ⟨(hP j hj).mpr ⟨k, by omega, k2⟩, decide_eq_true ?_⟩
        rw [← k2]
        exact h1 k a k1 (by omega)
    have o := cf_one (P := fun j => P j && decide (j ≠ os a)) (Q := P) (i := os a) (n := N) (a := 0) (by omega) (by have := h2 a (by omega); omega) fun j hj => by
      show (P j && decide (j ≠ os a)) = P j
      rw [decide_eq_true hj, Bool.and_true]
    have pa : P (os a) = true := (hP _ (h2 a (by omega))).mpr ⟨a, by omega, rfl⟩
    have pb : (P (os a) && decide (os a ≠ os a)) = false := by simp
    rw [pb, pa, q] at o
    simp at o
    omega
