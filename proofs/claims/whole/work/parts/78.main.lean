/-! the class's table of 64 places as the map -/
def fc (g : mp) (i : Nat) : en := if i < mn g 0 * mn g 1 then gc g (4 * (i / mn g 1) + i % mn g 1) else if i < 64 then e0 else gc g i
def fx (g : mp) (x : Nat) : Nat := if x < 64 then x / 4 * mn g 1 + x % 4 else x
/-- a cell that is one of the map's -/
def vc (g : mp) (x : Nat) : Prop := x ≤ 68 ∧ (x < 64 → x / 4 < mn g 0 ∧ x % 4 < mn g 1)
def mt (u : tc_S) (t : Nat) (g : mp) : Prop := tb u t 64 g (fc g)
theorem nbns {g : mp} (a : wA g) : mn g 0 * mn g 1 ≤ 64 := Nat.mul_le_mul a.2.1.2 a.2.2.1.2
theorem dm {n b p : Nat} (h : p < n) : (b * n + p) / n = b ∧ (b * n + p) % n = p := by
  refine ⟨?_, ?_⟩
  · rw [Nat.mul_comm, Nat.mul_add_div (by omega), Nat.div_eq_of_lt h, Nat.add_zero]
  · rw [Nat.mul_comm, Nat.mul_add_mod, Nat.mod_eq_of_lt h]
theorem bn_lt {g : mp} {b p : Nat} (hb : b < mn g 0) (hp : p < mn g 1) : b * mn g 1 + p < mn g 0 * mn g 1 := by
  have hx2 : (b + 1) * mn g 1 ≤ mn g 0 * mn g 1 := Nat.mul_le_mul_right _ (by omega)
  rw [Nat.add_mul, Nat.one_mul] at hx2
  omega
theorem fc_b {g : mp} {b p : Nat} (hb : b < mn g 0) (hp : p < mn g 1) : fc g (b * mn g 1 + p) = gc g (4 * b + p) := by
  unfold fc
  rw [if_pos (bn_lt hb hp), (dm hp).1, (dm hp).2]
theorem fc_s {g : mp} (a : wA g) {i : Nat} (hi : 64 ≤ i) : fc g i = gc g i := by
  have := nbns a
  unfold fc
  rw [if_neg (by omega), if_neg (by omega)]
theorem fx_lt {g : mp} (a : wA g) {x : Nat} (h : vc g x) : fx g x ≤ 68 ∧ (fx g x < 64 → fx g x < mn g 0 * mn g 1) ∧ (x < 64 ↔ fx g x < 64) := by
  have := nbns a
  unfold fx
  by_cases c : x < 64
  · rw [if_pos c]
    have h2 := h.2 c
    have := bn_lt h2.1 h2.2
    exact ⟨by omega, fun _ => this, by omega⟩
  · rw [if_neg c]
    exact ⟨h.1, fun q => absurd q c, Iff.rfl⟩
theorem fc_x {g : mp} (a : wA g) {x : Nat} (h : vc g x) : fc g (fx g x) = gc g x := by
  unfold fx
  by_cases c : x < 64
  · rw [if_pos c]
    have h2 := h.2 c
    rw [fc_b h2.1 h2.2, show 4 * (x / 4) + x % 4 = x by omega]
  · rw [if_neg c]
    exact fc_s a (by omega)
theorem fx_b {g : mp} {b p : Nat} (hb : b < 16) (hp : p < 4) : fx g (4 * b + p) = b * mn g 1 + p := by
  unfold fx
  rw [if_pos (by omega), show (4 * b + p) / 4 = b by omega, show (4 * b + p) % 4 = p by omega]
theorem fx_inj {g : mp} (a : wA g) {x y : Nat} (hx : vc g x) (hy : vc g y) (h : x ≠ y) : fx g x ≠ fx g y := by
  intro e
  have lx := fx_lt a hx
  have ly := fx_lt a hy
  by_cases c : x < 64
  · have d : y < 64 := by
      rw [ly.2.2, ← e]; exact lx.2.2.mp c
    have h1 := hx.2 c
    have h2 := hy.2 d
    unfold fx at e
    rw [if_pos c, if_pos d] at e
    have q1 := dm (b := x / 4) h1.2
    have q2 := dm (b := y / 4) h2.2
    rw [e, q2.1, q2.2] at q1
    omega
  · have d : ¬ y < 64 := by
      rw [ly.2.2, ← e, ← lx.2.2]; exact c
    unfold fx at e
    rw [if_neg c, if_neg d] at e
    exact h e
theorem fc_cs {g : mp} (a : wA g) {x : Nat} {e : en} (h : vc g x) : fc (cs g x e) = cset (fc g) (fx g x) e := by
  have := nbns a
  have h4 := a.2.2.1.2
  have h1 := a.2.2.1.1
  funext i
  unfold cset
  have m0 : mn (cs g x e) 0 = mn g 0 := mn_cs (by omega)
  have m1 : mn (cs g x e) 1 = mn g 1 := mn_cs (by omega)
  unfold fc
  rw [m0, m1, gc_cs, gc_cs]
  by_cases c : i < mn g 0 * mn g 1
  · rw [if_pos c]
    have hd : i / mn g 1 < mn g 0 := by rw [Nat.div_lt_iff_lt_mul h1]; exact c
    have hm := Nat.mod_lt i h1
    have hdm := Nat.div_add_mod i (mn g 1)
    have vi : vc g (4 * (i / mn g 1) + i % mn g 1) := ⟨by have := a.2.1.2; omega, fun _ => ⟨by omega, by omega⟩⟩
    have ei : fx g (4 * (i / mn g 1) + i % mn g 1) = i := by
      rw [fx_b (by have := a.2.1.2; omega) (by omega), Nat.mul_comm]
      exact hdm
    by_cases q : 4 * (i / mn g 1) + i % mn g 1 = x
    · rw [if_pos q, if_pos (by rw [← q]; exact ei.symm)]
    · rw [if_neg q, if_neg, if_pos c]
      intro w
      exact fx_inj a vi h q (by rw [ei, w])
  · rw [if_neg c]
    have lx := fx_lt a h
    by_cases d : i < 64
    · rw [if_pos d, if_neg, if_neg c, if_pos d]
      intro w
      rw [w] at c d
      exact c (lx.2.1 d)
    · rw [if_neg d]
      by_cases q : i = x
      · rw [if_pos q, if_pos]
        unfold fx
        rw [if_neg (by omega), q]
      · rw [if_neg q, if_neg, if_neg c, if_neg d]
        intro w
        by_cases z : x < 64
        · have := lx.2.2.mp z; omega
        · unfold fx at w
          rw [if_neg z] at w
          exact q w
theorem cs_cs {g : mp} {i j : Nat} {a b c : en} : cs (cs (cs g i a) j b) i c = cs (cs g j b) i c := by
  funext k
  unfold cs
  grind
theorem cs_2 {g : mp} {i : Nat} {a b : en} : cs (cs g i a) i b = cs g i b := by
  funext k
  unfold cs
  grind
theorem mv_bump {g : mp} {i j : Nat} (h : i ≠ j) : mv (cs g i (bump (gc g i))) i j = mvb g i j := by
  unfold mv mvb
  rw [gc_cs, if_pos rfl, cs_cs]
theorem wA_cs {g : mp} {x : Nat} {e : en} (a : wA g) : wA (cs g x e) := sA_wA sA_cs a
theorem vc_cs {g : mp} {x y : Nat} {e : en} : vc (cs g x e) y ↔ vc g y := by
  unfold vc
  rw [mn_cs (by omega), mn_cs (by omega)]
theorem fx_cs {g : mp} {x y : Nat} {e : en} : fx (cs g x e) y = fx g y := by
  unfold fx
  rw [mn_cs (by omega)]
theorem cong19 {u : tc_S} {t : Nat} {g h : mp} {c : Nat → en} (a : wA g) (hb : tb u t 64 g c) (hk : ∀ k, k < 19 → h k = g k) (hc : fc h = c) : mt u t h := tb_cong hb hk (fun i _ => by rw [hc]) (nbns a)
/-- the doings at the map -/
theorem mt_move {G : tc_G} {u : tc_S} {t i j : Nat} {g : mp} (hT : gT G t 64) (a : wA g) (h : mt u t g) (hi : vc g i) (hj : vc g j) (hij : i ≠ j) (hci : ¬ (gc g i).1 = 0) (hcj : (gc g j).1 = 0) : y2 (fn_X9_move G t (nI (fx g i)) (nI (fx g j)) u) (fun _ w => mt w t (mv g i j) ∧ fr (fT t) u w) := by
  have li := fx_lt a hi
  have lj := fx_lt a hj
  refine yl_m (pc_move hT (by omega) (wA_wS a) h (nbns a) li.1 lj.1 (fx_inj a hi hj hij) (by rw [fc_x a hi]; exact hci) (by rw [fc_x a hj]; exact hcj) li.2.1 lj.2.1) fun r hx => ⟨?_, hx.2⟩
  refine cong19 a hx.1 (fun k hk => ?_) ?_
  · unfold mv
    rw [cs_lo (by omega), cs_lo (by omega)]
  · unfold mv
    rw [fc_cs (wA_cs a) (vc_cs.mpr hi), fc_cs a hj, fx_cs, fc_x a hi]
theorem mt_hand {G : tc_G} {u : tc_S} {t q : Nat} {v b m : Int32} {g : mp} (hT : gT G t 64) (a : wA g) (h : mt u t g) (hq : q ≤ 999) : y2 (fn_X9_takeInHand G t (nI q) v b m u) (fun _ w => mt w t (cs g 68 (nI (q + 1), v, b, m)) ∧ fr (fT t) u w) := by
  refine yl_m (pc_takeInHand hT (by omega) (wA_wS a) h (nbns a) hq) fun r hx => ⟨?_, hx.2⟩
  refine cong19 a hx.1 (fun k hk => cs_lo (by omega)) ?_
  rw [fc_cs a ⟨by omega, fun q => absurd q (by omega)⟩]
  rfl
theorem mt_emptyHand {G : tc_G} {u : tc_S} {t : Nat} {g : mp} (hT : gT G t 64) (a : wA g) (h : mt u t g) : y2 (fn_X9_emptyHand G t u) (fun _ w => mt w t (cs g 68 e0) ∧ fr (fT t) u w) := by
  refine yl_m (pc_emptyHand hT (by omega) h (nbns a)) fun r hx => ⟨?_, hx.2⟩
  refine cong19 a hx.1 (fun k hk => cs_lo (by omega)) ?_
  rw [fc_cs a ⟨by omega, fun q => absurd q (by omega)⟩]
  rfl
theorem mt_bump {u : tc_S} {t i : Nat} {g : mp} (hg : mwf g) (h : mt u t g) (hi : vc g i) (h0 : ck g i ≠ 0) : mt (tc_w u (t + 7) (fx g i) (u.1 (t + 7) (fx g i) + 1)) t (cs g i (bump (gc g i))) ∧ fr (fT t) u (tc_w u (t + 7) (fx g i) (u.1 (t + 7) (fx g i) + 1)) := by
  have a := hg.1.1
  have li := fx_lt a hi
  have c := hg.1.2.2.1 i (by have := hi.1; omega)
  have he : (fc g (fx g i)).1 = nI (ck g i - 1 + 1) := by
    rw [fc_x a hi, show ck g i - 1 + 1 = ck g i by omega]
    exact c.1
  have e7 := (pl_ent (h.2.1 (fx g i) (by omega)) he (by omega)).2.2.2.1
  have z := tb_moved (x := u.1 (t + 7) (fx g i) + 1) h (nbns a) (show fx g i ≤ 64 + 4 by omega) he (by omega)
  refine ⟨cong19 a z.1 (fun k hk => cs_lo (by omega)) ?_, z.2⟩
  rw [fc_cs a hi, e7, fc_x a hi]
  rfl
theorem mt_unbump {u : tc_S} {t i : Nat} {g : mp} {x : Int32} (hg : mwf g) (h : mt u t g) (hi : vc g i) (h0 : ck g i ≠ 0) : mt (tc_w u (t + 7) (fx g i) x) t (cs g i ((gc g i).1, (gc g i).2.1, (gc g i).2.2.1, x)) ∧ fr (fT t) u (tc_w u (t + 7) (fx g i) x) := by
  have a := hg.1.1
  have li := fx_lt a hi
  have c := hg.1.2.2.1 i (by have := hi.1; omega)
  have he : (fc g (fx g i)).1 = nI (ck g i - 1 + 1) := by
    rw [fc_x a hi, show ck g i - 1 + 1 = ck g i by omega]
    exact c.1
  have z := tb_moved (x := x) h (nbns a) (show fx g i ≤ 64 + 4 by omega) he (by omega)
  refine ⟨cong19 a z.1 (fun k hk => cs_lo (by omega)) ?_, z.2⟩
  rw [fc_cs a hi, fc_x a hi]
/-! the search of the class at the map finds the reference's chain -/
theorem ff_cong {P Q : Nat → Bool} : ∀ {n i : Nat}, (∀ x, i ≤ x → x < i + n → P x = Q x) → ff P n i = ff Q n i := by
  intro n
  induction n with
  | zero => intro i _; rfl
  | succ n ih =>
    intro i h
    unfold ff
    rw [h i (by omega) (by omega), ih fun x h1 h2 => h x (by omega) (by omega)]
theorem epl_memp {g : mp} {b : Nat} (hb : b < mn g 0) : epl (fc g) g b = memp g b := by
  unfold epl memp
  refine ff_cong fun p h1 h2 => ?_
  rw [fc_b hb (by omega), mcell_ci]
  rfl
theorem cop_memp {g : mp} {b : Nat} (hb : b < mn g 0) : cop (fc g) g b = (memp g b).isSome := by
  rw [← epl_memp hb]
  unfold cop
  cases h : (epl (fc g) g b).isSome with
  | true => exact decide_eq_true (cnt_epl.mpr h)
  | false => exact decide_eq_false fun q => by rw [cnt_epl.mp q] at h; cases h
theorem cE_moth {g : mp} (hg : mwf g) {b p : Nat} (hb : b < mn g 0) (hp : p < mn g 1) : cE (fc g) g b p = moth g b p := by
  have a := hg.1.1
  have hn := a.2.1.2
  have hs := a.2.2.1.2
  unfold cE moth
  rw [fc_b hb hp, show mn g (mcell b p) = ck g (4 * b + p) from by rw [mcell_ci]; rfl, show (gc g (4 * b + p)).1.toNatClampNeg = ck g (4 * b + p) from rfl]
  by_cases h0 : ck g (4 * b + p) = 0
  · rw [if_pos h0, if_pos h0]
  · rw [if_neg h0, if_neg h0]
    have hD := hg.1.2.2.2.1 (4 * b + p) (by omega) h0
    have hpl := hD.2.2
    rw [show (4 * b + p) / 4 = b by omega] at hpl
    unfold coth
    generalize mhash g 0 (ck g (4 * b + p) - 1) = x at hpl ⊢
    generalize mhash g 1 (ck g (4 * b + p) - 1) = y at hpl ⊢
    by_cases h1 : x = y
    · rw [if_pos h1]
      have : x = b := by omega
      rw [if_pos this, if_pos (by omega)]
    · rw [if_neg h1]
      by_cases h2 : x = b
      · rw [if_pos h2, if_neg (by omega), if_pos h2.symm]
      · rw [if_neg h2, if_neg h2, if_neg (fun q => h2 q.symm)]
theorem gp_mpath {g : mp} (hg : mwf g) {key : Nat} : ∀ {n b : Nat}, gp (mn g 0) (mn g 1) (cE (fc g) g) (fun b => cop (fc g) g b = true ∧ b ≠ mhash g 0 key ∧ b ≠ mhash g 1 key) n b ↔ mpath g key n b := by
  intro n
  induction n with
  | zero =>
    intro b
    constructor
    · rintro ⟨hb, h1, h2, h3⟩
      refine ⟨hb, ?_⟩
      rw [cop_memp hb] at h1
      unfold mful
      cases hm : memp g b with
      | none => rw [hm] at h1; cases h1
      | some p => simp [h2, h3]
    · rintro ⟨hb, h1⟩
      unfold mful at h1
      simp only [Bool.or_eq_false_iff, decide_eq_false_iff_not] at h1
      refine ⟨hb, ?_, h1.1.1, h1.1.2⟩
      rw [cop_memp hb]
      cases hm : memp g b with
      | none => rw [hm] at h1; simp at h1
      | some p => rfl
  | succ n ih =>
    intro b
    constructor
    · rintro ⟨hb, p, c, hp, hc, h⟩
      exact ⟨hb, p, c, hp, by rw [← cE_moth hg hb hp]; exact hc, ih.mp h⟩
    · rintro ⟨hb, p, c, hp, hc, h⟩
      exact ⟨hb, p, c, hp, by rw [cE_moth hg hb hp]; exact hc, ih.mpr h⟩
theorem ff_least {P : Nat → Bool} : ∀ {n i x : Nat}, ff P n i = some x → ∀ y, i ≤ y → y < x → P y = false := by
  intro n
  induction n with
  | zero => intro i x h; cases h
  | succ n ih =>
    intro i x h y h1 h2
    unfold ff at h
    split at h
    · cases h; omega
    · rename_i hp
      by_cases e : y = i
      · subst e; simpa using hp
      · exact ih h y (by omega) h2
theorem mwalk_grd {g : mp} (hg : mwf g) {key : Nat} : ∀ (n b : Nat), b < mn g 0 → maway g key b = n → n < 1000 → grd (mn g 0) (mn g 1) (cE (fc g) g) (fun b => cop (fc g) g b = true ∧ b ≠ mhash g 0 key ∧ b ≠ mhash g 1 key) n b (mwalk g key n b) (mend g key n b) := by
  have hk := mwf_ok hg
  intro n
  induction n with
  | zero => intro b hb hd hn; exact ⟨rfl, rfl⟩
  | succ n ih =>
    intro b hb hd hn
    obtain ⟨p, hp⟩ := lead_ex hk hb hd hn
    have hpl := ff_lt hp
    cases hc : moth g b p with
    | none => have := hpl.2.2; unfold mlead at this; rw [hc] at this; cases this
    | some c =>
      have hcn : maway g key c = n := by
        have := hpl.2.2
        unfold mlead at this
        rw [hc] at this
        simp only [decide_eq_true_eq] at this
        omega
      have hcl := moth_lt hk hc
      refine ⟨p, c, mwalk g key n c, ?_, by omega, by rw [cE_moth hg hb (by omega)]; exact hc, ?_, ?_, ?_⟩
      · rw [mwalk, hp]
        simp [hc]
      · rw [gp_mpath hg, ← hcn]
        exact (maway_path hk hcl (by omega)).1
      · intro p2 c2 h1 h2 h3
        rw [cE_moth hg hb (by omega)] at h2
        rw [gp_mpath hg] at h3
        have hf := ff_least hp p2 (by omega) h1
        unfold mlead at hf
        rw [h2] at hf
        simp only [decide_eq_false_iff_not] at hf
        have hbp := maway_path hk hb (key := key) (by omega)
        refine hf ?_
        rw [hd]
        congr 1
        refine maway_dist hk h3 fun k hk2 h4 => ?_
        exact hbp.2.1 (k + 1) (by omega) ⟨hb, p2, c2, by omega, h2, h4⟩
      · have e2 : mend g key (n + 1) b = mend g key n c := by
          rw [mend, hp]
          simp [hc]
        rw [e2]
        exact ih c hcl hcn (by omega)
theorem bfs_mchain {g : mp} (hg : mwf g) (key : Nat) : bfs (mn g 0) (mn g 1) (cE (fc g) g) (cop (fc g) g) (mhash g 0 key) (mhash g 1 key) = (mchain g key).map (fun l => (l, mtg g key)) := by
  have hk := mwf_ok hg
  have a := hg.1.1
  have hS := wA_wS a
  have l0 := wA_hash a 0 key
  have l1 := wA_hash a 1 key
  have lm := mat_lt hk key
  have dmin : ∀ b, b < mn g 0 → ∀ n, mpath g key n b → maway g key b ≤ n := by
    intro b hb n hp
    obtain ⟨d, d1, d2⟩ := least_path hp
    rw [maway_dist hk d1 d2]
    exact Nat.not_lt.mp fun q => d2 n q hp
  have hmat : ∀ b, b = mhash g 0 key ∨ b = mhash g 1 key → maway g key (mat g key) ≤ maway g key b := by
    intro b hb
    unfold mat
    rcases hb with rfl | rfl
    · split
      · omega
      · omega
    · split <;> omega
  by_cases hf : maway g key (mat g key) < 1000
  · have hc : mchain g key = some (mwalk g key (maway g key (mat g key)) (mat g key)) := by
      unfold mchain
      rw [if_pos hf]
    have sp := mchain_sp hg hc
    rw [hc]
    refine bfs_A (m := maway g key (mat g key)) (b0 := mat g key) (cE_lt hS) l0 l1 (by have := sp.2.1; have := sp.2.2.2.2.2.2; omega) (mwalk_grd hg _ _ lm rfl hf) ?_ ?_ ?_
    · unfold mat
      by_cases q : maway g key (mhash g 1 key) < maway g key (mhash g 0 key)
      · rw [if_pos q]
        refine Or.inr ⟨rfl, fun w => ?_⟩
        rw [gp_mpath hg] at w
        have := dmin _ l0 _ w
        omega
      · rw [if_neg q]
        exact Or.inl rfl
    · intro n hn
      rw [gp_mpath hg] at hn
      have := dmin _ l0 n hn
      have := hmat _ (Or.inl rfl)
      omega
    · intro n hn
      rw [gp_mpath hg] at hn
      have := dmin _ l1 n hn
      have := hmat _ (Or.inr rfl)
      omega
  · have hc : mchain g key = none := by
      unfold mchain
      rw [if_neg hf]
    rw [hc]
    have no : ∀ b, b < mn g 0 → (b = mhash g 0 key ∨ b = mhash g 1 key) → ∀ n, ¬ mpath g key n b := by
      intro b hb hor n hn
      have h1 := dmin b hb n hn
      have h2 := hmat b hor
      obtain ⟨d, d1, d2⟩ := least_path hn
      have h3 := maway_dist hk d1 d2
      have h4 := mpath_bound d1 d2
      have := a.2.1.2
      omega
    refine bfs_B (cE_lt hS) l0 l1 (fun n hn => ?_) (fun n hn => ?_)
    · rw [gp_mpath hg] at hn
      exact no _ l0 (Or.inl rfl) n hn
    · rw [gp_mpath hg] at hn
      exact no _ l1 (Or.inr rfl) n hn
