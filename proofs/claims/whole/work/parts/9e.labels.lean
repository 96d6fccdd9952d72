/-! parts: labels are united edge by edge -/
def ed (g : mp) (e : en) : Nat × Nat := (mhash g 0 (e.1.toNatClampNeg - 1), mhash g 1 (e.1.toNatClampNeg - 1))
def lbs (l : Nat → Nat) (p : Nat × Nat) (b : Nat) : Nat := if l b = l p.2 then l p.1 else l b
def lbf (es : List (Nat × Nat)) (l : Nat → Nat) : Nat → Nat := es.foldl lbs l
def clo (es : List (Nat × Nat)) (S : Nat → Prop) : Prop := ∀ p ∈ es, (S p.1 ↔ S p.2)
theorem lbs_S {S : Nat → Prop} {l : Nat → Nat} {p : Nat × Nat} (h : S p.1 ↔ S p.2) (hl : ∀ b, S (l b) ↔ S b) (b : Nat) : S (lbs l p b) ↔ S b := by
  unfold lbs
  by_cases c : l b = l p.2
  · rw [if_pos c, hl p.1, h, ← hl p.2, ← c, hl b]
  · rw [if_neg c, hl b]
theorem lbf_S {S : Nat → Prop} : ∀ (es : List (Nat × Nat)) (l : Nat → Nat), clo es S → (∀ b, S (l b) ↔ S b) → ∀ b, S (lbf es l b) ↔ S b := by
  intro es
  induction es with
  | nil => intro l _ hl b; exact hl b
  | cons p es ih =>
    intro l hc hl b
    exact ih (lbs l p) (fun q hq => hc q (List.mem_cons_of_mem _ hq)) (lbs_S (hc p (List.mem_cons_self ..)) hl) b
theorem lbs_eq {l : Nat → Nat} {p : Nat × Nat} {a b : Nat} (h : l a = l b) : lbs l p a = lbs l p b := by
  unfold lbs
  rw [h]
theorem lbs_self (l : Nat → Nat) (p : Nat × Nat) : lbs l p p.1 = lbs l p p.2 := by
  unfold lbs
  rw [if_pos (show l p.2 = l p.2 from rfl)]
  by_cases c : l p.1 = l p.2
  · rw [if_pos c]
  · rw [if_neg c]
theorem lbf_keep {a b : Nat} : ∀ (es : List (Nat × Nat)) (l : Nat → Nat), l a = l b → lbf es l a = lbf es l b := by
  intro es
  induction es with
  | nil => intro l h; exact h
  | cons p es ih => intro l h; exact ih (lbs l p) (lbs_eq h)
theorem lbf_eq : ∀ (es : List (Nat × Nat)) (l : Nat → Nat), ∀ p ∈ es, lbf es l p.1 = lbf es l p.2 := by
  intro es
  induction es with
  | nil => intro l p hp; cases hp
  | cons q es ih =>
    intro l p hp
    rcases List.mem_cons.mp hp with z | z
    · rw [z]; exact lbf_keep es (lbs l q) (lbs_self l q)
    · exact ih (lbs l q) p z
/-- labels of a map -/
def edg (g : mp) : List (Nat × Nat) := (mes g).map (ed g)
def lb (g : mp) : Nat → Nat := lbf (edg g) (fun b => b)
theorem lb_edge {g : mp} : ∀ p ∈ edg g, lb g p.1 = lb g p.2 := lbf_eq _ _
theorem lb_S {g : mp} {S : Nat → Prop} (h : clo (edg g) S) (b : Nat) : S (lb g b) ↔ S b := lbf_S _ _ h (fun _ => Iff.rfl) b
theorem lb_lb (g : mp) (b : Nat) : lb g (lb g b) = lb g b := by
  have := lb_S (g := g) (S := fun x => lb g x = lb g b) (fun p hp => by
    show lb g p.1 = lb g b ↔ lb g p.2 = lb g b
    rw [lb_edge p hp]) b
  exact this.mpr rfl
/-- a set that is closed and holds a holds all with a's label; and those are closed -/
theorem lb_cls {g : mp} {S : Nat → Prop} (h : clo (edg g) S) {a b : Nat} (e : lb g a = lb g b) : S a ↔ S b := by
  rw [← lb_S h a, e, lb_S h b]
theorem lb_clo (g : mp) (a : Nat) : clo (edg g) (fun x => lb g x = lb g a) := fun p hp => by
  show lb g p.1 = lb g a ↔ lb g p.2 = lb g a
  rw [lb_edge p hp]
/-! the class -/
def gP (G : tc_G) : Prop := (tc_p G 50 0 = 51 ∧ tc_p G 50 1 = 52 ∧ tc_p G 50 2 = 53) ∧ G.2.2.1 51 = 32 ∧ G.2.2.1 52 = 32 ∧ G.2.2.1 53 = 32
theorem in_gP : gP (tc_gl in_L4) := ⟨⟨rfl, rfl, rfl⟩, rfl, rfl, rfl⟩
def fQ (nb o k : Nat) : Prop := (o = 51 ∧ k < nb) ∨ o = 52 ∨ o = 53
def lS (u : tc_S) (nb : Nat) (l m k : Nat → Nat) : Prop := ∀ b, b < nb → u.1 51 b = nI (l b) ∧ u.1 52 b = nI (m b) ∧ u.1 53 b = nI (k b)
theorem un_10 {G : tc_G} (hP : gP G) {u0 : tc_S} {nb l1 l2 : Nat} {l m k : Nat → Nat} (hn : nb ≤ 16) (h1 : l1 < nb) (h2 : l2 < nb) (h12 : l1 ≠ l2) (hl : ∀ b, b < nb → l b < nb) : ∀ (n b f : Nat) (u : tc_S), b + n = nb → n < f → lS u nb (fun x => if x < b ∧ l x = l2 then l1 else l x) m k → fr (fQ nb) u0 u → y2 (lo_X5_unite_10 G f 50 (nI l1) (nI l2) (nI nb) (nI b) u) (fun r w => r = 1 ∧ lS w nb (fun x => if l x = l2 then l1 else l x) (fun x => if x = l1 then m l1 + m l2 else if x = l2 then 0 else m x) (fun x => if x = l1 then k l1 + k l2 else if x = l2 then 0 else k x) ∧ fr (fQ nb) u0 w) := by
  intro n
  induction n with
  | zero =>
    intro b f u hb hf hS hfr
    obtain ⟨f, rfl⟩ : ∃ k, f = k + 1 := ⟨f - 1, by omega⟩
    rw [lo_X5_unite_10, pu_le (by omega) (by omega), if_pos (by omega), hP.1.2.1, hP.1.2.2]
    have s1 := hS l1 h1
    have s2 := hS l2 h2
    refine yl_ld 32 hP.2.2.1 (by omega) (by omega) (yl_ld 32 hP.2.2.1 (by omega) (by omega) (yl_sd 32 hP.2.2.1 (by omega) (by omega) ?_))
    refine yl_ld 32 hP.2.2.2 (by omega) (by omega) (yl_ld 32 hP.2.2.2 (by omega) (by omega) (yl_sd 32 hP.2.2.2 (by omega) (by omega) ?_))
    refine yl_sd 32 hP.2.2.1 (by omega) (by omega) (yl_sd 32 hP.2.2.2 (by omega) (by omega) (yl_ok ⟨rfl, fun x hx => ?_, ?_⟩))
    · have sx : u.1 51 x = nI (if x < b ∧ l x = l2 then l1 else l x) ∧ u.1 52 x = nI (m x) ∧ u.1 53 x = nI (k x) := hS x hx
      simp only [w_get, show ¬ (53 = 52) by omega, show ¬ (51 = 53) by omega, show ¬ (51 = 52) by omega, show ¬ (52 = 53) by omega, false_and, if_false, true_and]
      refine ⟨?_, ?_, ?_⟩
      · rw [sx.1]
        by_cases c : l x = l2
        · rw [if_pos ⟨by omega, c⟩, if_pos c]
        · rw [if_neg (fun z => c z.2), if_neg c]
      · by_cases c1 : x = l1
        · rw [if_neg (by omega), if_pos c1, if_pos c1, s1.2.1, s2.2.1, nI_add]
        · by_cases c2 : x = l2
          · rw [if_pos c2, if_neg c1, if_pos c2]; rfl
          · rw [if_neg c2, if_neg c1, if_neg c1, if_neg c2]
            exact sx.2.1
      · by_cases c1 : x = l1
        · rw [if_neg (by omega), if_pos c1, if_pos c1, s1.2.2, s2.2.2, nI_add]
        · by_cases c2 : x = l2
          · rw [if_pos c2, if_neg c1, if_pos c2]; rfl
          · rw [if_neg c2, if_neg c1, if_neg c1, if_neg c2]
            exact sx.2.2
    · exact fr_w (fr_w (fr_w (fr_w hfr (by unfold fQ; omega)) (by unfold fQ; omega)) (by unfold fQ; omega)) (by unfold fQ; omega)
  | succ n ih =>
    intro b f u hb hf hS hfr
    obtain ⟨f, rfl⟩ : ∃ k, f = k + 1 := ⟨f - 1, by omega⟩
    have sb : u.1 51 b = nI (if b < b ∧ l b = l2 then l1 else l b) := (hS b (by omega)).1
    rw [if_neg (by omega)] at sb
    have lbn := hl b (by omega)
    rw [lo_X5_unite_10, pu_le (by omega) (by omega), if_neg (by omega), hP.1.1]
    refine yl_ld 32 hP.2.1 (by omega) (by omega) ?_
    rw [sb, pu_eq (by omega) (by omega)]
    unfold bl_X5_unite_35
    by_cases c : l b = l2
    · rw [if_pos c]
      refine yl_sd 32 hP.2.1 (by omega) (by omega) (yl_let ?_)
      rw [nI_1]
      refine ih (b + 1) f _ (by omega) (by omega) (fun x hx => ?_) (fr_w hfr (by unfold fQ; omega))
      have sx : u.1 51 x = nI (if x < b ∧ l x = l2 then l1 else l x) ∧ u.1 52 x = nI (m x) ∧ u.1 53 x = nI (k x) := hS x hx
      simp only [w_get, show ¬ (53 = 51) by omega, show ¬ (52 = 51) by omega, false_and, if_false, true_and]
      refine ⟨?_, sx.2⟩
      by_cases d : x = b
      · rw [if_pos d, if_pos ⟨by omega, by rw [d]; exact c⟩]
      · rw [if_neg d, sx.1]
        by_cases e : x < b ∧ l x = l2
        · rw [if_pos e, if_pos ⟨by omega, e.2⟩]
        · rw [if_neg e, if_neg (fun z => e ⟨by omega, z.2⟩)]
    · rw [if_neg c]
      refine yl_let ?_
      rw [nI_1]
      refine ih (b + 1) f u (by omega) (by omega) (fun x hx => ?_) hfr
      have sx : u.1 51 x = nI (if x < b ∧ l x = l2 then l1 else l x) ∧ u.1 52 x = nI (m x) ∧ u.1 53 x = nI (k x) := hS x hx
      refine ⟨?_, sx.2⟩
      show u.1 51 x = nI (if x < b + 1 ∧ l x = l2 then l1 else l x)
      rw [sx.1]
      by_cases d : x = b
      · rw [if_neg (by omega), if_neg (by rw [d]; exact fun z => c z.2)]
      · by_cases e : x < b ∧ l x = l2
        · rw [if_pos e, if_pos ⟨by omega, e.2⟩]
        · rw [if_neg e, if_neg (fun z => e ⟨by omega, z.2⟩)]
