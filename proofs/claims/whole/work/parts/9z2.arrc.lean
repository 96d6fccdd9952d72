/-! arranged: the class's trial table -/
def cA (g : mp) (c : Nat → en) (A : List Nat) (pos : Nat → Nat) : Prop := (∀ q ∈ A, q ≤ 999 ∧ pos q < mn g 0 * mn g 1 ∧ (c (pos q)).1 = nI (q + 1) ∧ (pos q / mn g 1 = mhash g 0 q ∨ pos q / mn g 1 = mhash g 1 q)) ∧ (∀ i, i < mn g 0 * mn g 1 → ¬ (c i).1 = 0 → ∃ q ∈ A, pos q = i) ∧ A.Nodup
theorem nI_inj {a b : Nat} (ha : a < 2 ^ 31) (hb : b < 2 ^ 31) (h : nI a = nI b) : a = b := by
  have := congrArg Int32.toNatClampNeg h
  rwa [nI_clamp ha, nI_clamp hb] at this
theorem cA_inj {g : mp} {c : Nat → en} {A : List Nat} {pos : Nat → Nat} (h : cA g c A pos) {q r : Nat} (hq : q ∈ A) (hr : r ∈ A) (e : pos q = pos r) : q = r := by
  have h1 := h.1 q hq
  have h2 := h.1 r hr
  have : nI (q + 1) = nI (r + 1) := by rw [← h1.2.2.1, ← h2.2.2.1, e]
  have := nI_inj (by omega) (by omega) this
  omega
theorem pos_cf {pos : Nat → Nat} {lo n : Nat} : ∀ A : List Nat, A.Pairwise (fun a b => pos a ≠ pos b) → A.countP (fun q => decide (lo ≤ pos q ∧ pos q < lo + n)) = cf (fun i => A.any (fun q => decide (pos q = i))) n lo := by
  intro A
  induction A with
  | nil => intro _; rw [List.countP_nil]; exact (cf_none (fun _ => rfl) n lo).symm
  | cons q A ih =>
    intro hp
    have hp := List.pairwise_cons.mp hp
    rw [List.countP_cons, ih hp.2]
    have no : A.any (fun r => decide (pos r = pos q)) = false := by
      rw [List.any_eq_false]
      intro r hr
      rw [decide_eq_true_iff]
      exact fun z => hp.1 r hr z.symm
    by_cases c : lo ≤ pos q ∧ pos q < lo + n
    · rw [if_pos (decide_eq_true c)]
      have o := cf_one (P := fun i => A.any (fun q => decide (pos q = i))) (Q := fun i => (q :: A).any (fun q => decide (pos q = i))) (i := pos q) (n := n) (a := lo) c.1 c.2 fun j hj => by
        show A.any (fun q => decide (pos q = j)) = (q :: A).any (fun q => decide (pos q = j))
        rw [List.any_cons, decide_eq_false (fun z => hj z.symm), Bool.false_or]
      have e2 : (q :: A).any (fun r => decide (pos r = pos q)) = true := by
        rw [List.any_cons, decide_eq_true rfl, Bool.true_or]
      simp only [no, e2] at o
      simpa using o
    · rw [if_neg (by rw [decide_eq_false c]; decide), Nat.add_zero]
      refine cf_congr fun i i1 i2 => ?_
      show A.any (fun q => decide (pos q = i)) = (q :: A).any (fun q => decide (pos q = i))
      rw [List.any_cons, decide_eq_false (fun z => c ⟨by omega, by omega⟩), Bool.false_or]
theorem div_iff {a s b : Nat} (hs : 0 < s) : a / s = b ↔ b * s ≤ a ∧ a < b * s + s := by
  constructor
  · intro h
    subst h
    have h1 := Nat.div_mul_le_self a s
    have h2 := Nat.lt_div_mul_add (a := a) hs
    exact ⟨h1, h2⟩
  · rintro ⟨h1, h2⟩
    exact Nat.div_eq_of_lt_le h1 (by rw [Nat.succ_mul]; exact h2)
theorem cA_lcb0 {g : mp} {c : Nat → en} {A : List Nat} {pos : Nat → Nat} (hs : 0 < mn g 1) (h : cA g c A pos) (b : Nat) : lcb (fun q => pos q / mn g 1) b A = cf (fun i => A.any (fun q => decide (pos q = i))) (mn g 1) (b * mn g 1) := by
  rw [← pos_cf A]
  · unfold lcb
    refine congrArg (fun p => A.countP p) ?_
    funext q
    exact decide_eq_decide.mpr (div_iff hs)
  · refine List.Pairwise.imp_of_mem ?_ h.2.2
    intro x y hx hy hxy e
    exact hxy (cA_inj h hx hy e)
theorem cA_lcb {g : mp} {c : Nat → en} {A : List Nat} {pos : Nat → Nat} (hs : 0 < mn g 1) (h : cA g c A pos) {b : Nat} (hb : b < mn g 0) : lcb (fun q => pos q / mn g 1) b A = cnt c (b * mn g 1) (mn g 1) := by
  rw [cA_lcb0 hs h]
  unfold cnt
  refine cf_congr fun i i1 i2 => ?_
  have hi : i < mn g 0 * mn g 1 := by
    have : (b + 1) * mn g 1 ≤ mn g 0 * mn g 1 := Nat.mul_le_mul_right _ hb
    rw [Nat.add_mul, Nat.one_mul] at this
    omega
  apply Bool.eq_iff_iff.mpr
  rw [List.any_eq_true, decide_eq_true_iff]
  constructor
  · rintro ⟨q, q1, q2⟩
    have q2 := of_decide_eq_true q2
    have := h.1 q q1
    rw [← q2, this.2.2.1]
    exact nI_ne0 (by omega) (by omega)
  · intro z
    obtain ⟨q, q1, q2⟩ := h.2.1 i hi z
    exact ⟨q, q1, decide_eq_true q2⟩
theorem cA_arr {g : mp} {c : Nat → en} {A : List Nat} {pos : Nat → Nat} (hs : 0 < mn g 1) (h : cA g c A pos) : arr (mhash g 0) (mhash g 1) (mn g 1) A :=
  ⟨fun q => pos q / mn g 1, fun q hq => (h.1 q hq).2.2.2, fun b => by rw [cA_lcb0 hs h]; exact cf_le⟩
theorem cA_out {g : mp} {c : Nat → en} {A : List Nat} {pos : Nat → Nat} {H : Nat} {e : en} (h : cA g c A pos) (hH : mn g 0 * mn g 1 ≤ H) : cA g (cset c H e) A pos := by
  refine ⟨fun q hq => ?_, fun i hi hn => ?_, h.2.2⟩
  · have := h.1 q hq
    unfold cset
    rw [if_neg (by omega)]
    exact this
  · unfold cset at hn
    rw [if_neg (by omega)] at hn
    exact h.2.1 i hi hn
theorem cA_sA {g g2 : mp} {c : Nat → en} {A : List Nat} {pos : Nat → Nat} (s : sA g g2) (h : cA g c A pos) : cA g2 c A pos := by
  unfold cA
  rw [sA_mn s (by omega), sA_mn s (by omega)]
  refine ⟨fun q hq => ?_, h.2⟩
  rw [sA_hash s (by omega), sA_hash s (by omega)]
  exact h.1 q hq
def pset (pos : Nat → Nat) (q j : Nat) : Nat → Nat := fun x => if x = q then j else pos x
theorem pset_eq {pos : Nat → Nat} {q j : Nat} : pset pos q j q = j := if_pos rfl
theorem pset_ne {pos : Nat → Nat} {q j x : Nat} (h : ¬ x = q) : pset pos q j x = pos x := if_neg h
/-- one goes from its place to an empty one of its own -/
theorem cA_mv {g : mp} {c : Nat → en} {A : List Nat} {pos : Nat → Nat} {q j : Nat} {e : en} (h : cA g c A pos) (hq : q ∈ A) (hj : j < mn g 0 * mn g 1) (hcj : (c j).1 = 0) (hjb : j / mn g 1 = mhash g 0 q ∨ j / mn g 1 = mhash g 1 q) (he : e.1 = (c (pos q)).1) : cA g (cset (cset c j e) (pos q) e0) A (pset pos q j) := by
  have hq1 := h.1 q hq
  have hne : j ≠ pos q := fun z => by
    rw [z, hq1.2.2.1] at hcj
    exact nI_ne0 (by omega) (by omega) hcj
  refine ⟨fun x hx => ?_, fun i hi hn => ?_, h.2.2⟩
  · have hx1 := h.1 x hx
    by_cases d : x = q
    · rw [d, pset_eq]
      refine ⟨hq1.1, hj, ?_, hjb⟩
      unfold cset
      rw [if_neg hne, if_pos rfl, he]
      exact hq1.2.2.1
    · rw [pset_ne d]
      refine ⟨hx1.1, hx1.2.1, ?_, hx1.2.2.2⟩
      have n1 : pos x ≠ pos q := fun z => d (cA_inj h hx hq z)
      have n2 : pos x ≠ j := fun z => by
        rw [← z, hx1.2.2.1] at hcj
        exact nI_ne0 (by omega) (by omega) hcj
      unfold cset
      rw [if_neg n1, if_neg n2]
      exact hx1.2.2.1
  · unfold cset at hn
    by_cases d : i = pos q
    · rw [if_pos d] at hn
      exact absurd rfl hn
    · rw [if_neg d] at hn
      by_cases d2 : i = j
      · exact ⟨q, hq, by rw [pset_eq, d2]⟩
      · rw [if_neg d2] at hn
        obtain ⟨x, x1, x2⟩ := h.2.1 i hi hn
        refine ⟨x, x1, ?_⟩
        rw [pset_ne (fun z => d (by rw [← x2, z])), x2]
/-- one comes in -/
theorem cA_in {g : mp} {c : Nat → en} {A : List Nat} {pos : Nat → Nat} {k j H : Nat} {e : en} (h : cA g c A pos) (hk : k ≤ 999) (hkA : k ∉ A) (hj : j < mn g 0 * mn g 1) (hH : mn g 0 * mn g 1 ≤ H) (hcj : (c j).1 = 0) (hjb : j / mn g 1 = mhash g 0 k ∨ j / mn g 1 = mhash g 1 k) (he : e.1 = nI (k + 1)) : cA g (cset (cset c j e) H e0) (k :: A) (pset pos k j) := by
  refine ⟨fun x hx => ?_, fun i hi hn => ?_, List.nodup_cons.mpr ⟨hkA, h.2.2⟩⟩
  · by_cases d : x = k
    · rw [d, pset_eq]
      refine ⟨hk, hj, ?_, hjb⟩
      unfold cset
      rw [if_neg (by omega), if_pos rfl]
      exact he
    · rw [pset_ne d]
      have hx2 : x ∈ A := by
        rcases List.mem_cons.mp hx with z | z
        · exact absurd z d
        · exact z
      have hx1 := h.1 x hx2
      refine ⟨hx1.1, hx1.2.1, ?_, hx1.2.2.2⟩
      have n2 : pos x ≠ j := fun z => by
        rw [← z, hx1.2.2.1] at hcj
        exact nI_ne0 (by omega) (by omega) hcj
      unfold cset
      rw [if_neg (by omega), if_neg n2]
      exact hx1.2.2.1
  · unfold cset at hn
    rw [if_neg (by omega)] at hn
    by_cases d2 : i = j
    · exact ⟨k, List.mem_cons_self .., by rw [pset_eq, d2]⟩
    · rw [if_neg d2] at hn
      obtain ⟨x, x1, x2⟩ := h.2.1 i hi hn
      refine ⟨x, List.mem_cons_of_mem _ x1, ?_⟩
      rw [pset_ne (fun z => hkA (by rw [← z]; exact x1)), x2]
/-- nothing is found: it can't be -/
theorem cA_no {g : mp} {c : Nat → en} {A : List Nat} {pos : Nat → Nat} {k : Nat} (hS : wS g) (h : cA g c A pos) (ho : opb c g k = none) (hn : ∀ n, ¬ gp (mn g 0) (mn g 1) (cE c g) (fun b => cop c g b = true ∧ b ≠ mhash g 0 k ∧ b ≠ mhash g 1 k) n (mhash g 0 k) ∧ ¬ gp (mn g 0) (mn g 1) (cE c g) (fun b => cop c g b = true ∧ b ≠ mhash g 0 k ∧ b ≠ mhash g 1 k) n (mhash g 1 k)) : ¬ arr (mhash g 0) (mhash g 1) (mn g 1) (k :: A) := by
  have hs := hS.2.2.1
  have f0 : ¬ cnt c (mhash g 0 k * mn g 1) (mn g 1) < mn g 1 := fun z => by
    unfold opb at ho
    rw [if_pos z] at ho
    cases ho
  have f1 : ¬ cnt c (mhash g 1 k * mn g 1) (mn g 1) < mn g 1 := fun z => by
    unfold opb at ho
    rw [if_neg f0, if_pos z] at ho
    cases ho
  have RT : ∀ b, @decide (b < mn g 0 ∧ ∀ n, ¬ gp (mn g 0) (mn g 1) (cE c g) (fun b => cop c g b = true ∧ b ≠ mhash g 0 k ∧ b ≠ mhash g 1 k) n b) (Classical.propDecidable _) = true ↔ (b < mn g 0 ∧ ∀ n, ¬ gp (mn g 0) (mn g 1) (cE c g) (fun b => cop c g b = true ∧ b ≠ mhash g 0 k ∧ b ≠ mhash g 1 k) n b) := fun b => @decide_eq_true_iff _ (Classical.propDecidable _)
  refine arr_no (nb := mn g 0) (F := fun q => pos q / mn g 1) (R := fun b => @decide (b < mn g 0 ∧ ∀ n, ¬ gp (mn g 0) (mn g 1) (cE c g) (fun b => cop c g b = true ∧ b ≠ mhash g 0 k ∧ b ≠ mhash g 1 k) n b) (Classical.propDecidable _)) (fun b hb => ((RT b).mp hb).1) (fun b hb => ?_) (fun q hq hb => ?_) ⟨(RT _).mpr ⟨wS_hash hS 0 k, fun n => (hn n).1⟩, (RT _).mpr ⟨wS_hash hS 1 k, fun n => (hn n).2⟩⟩
  · obtain ⟨b1, b2⟩ := (RT b).mp hb
    rw [cA_lcb hs.1 h b1]
    refine Classical.byContradiction fun z => ?_
    have z2 : cnt c (b * mn g 1) (mn g 1) < mn g 1 := by omega
    refine b2 0 ⟨b1, ?_, ?_, ?_⟩
    · exact decide_eq_true z2
    · intro e; rw [e] at z2; exact f0 z2
    · intro e; rw [e] at z2; exact f1 z2
  · obtain ⟨b1, b2⟩ := (RT _).mp hb
    have b1 : pos q / mn g 1 < mn g 0 := b1
    have hq1 := h.1 q hq
    have hp : pos q % mn g 1 < mn g 1 := Nat.mod_lt _ hs.1
    have hpq : pos q / mn g 1 * mn g 1 + pos q % mn g 1 = pos q := Nat.div_add_mod' _ _
    have hce : ∀ x, coth g q (pos q / mn g 1) = x → x ≠ pos q / mn g 1 → ∀ n, ¬ gp (mn g 0) (mn g 1) (cE c g) (fun b => cop c g b = true ∧ b ≠ mhash g 0 k ∧ b ≠ mhash g 1 k) n x := by
      intro x hx hne n hg
      refine b2 (n + 1) ⟨b1, pos q % mn g 1, x, hp, ?_, hg⟩
      unfold cE
      rw [hpq, hq1.2.2.1, nI_clamp (by omega), if_neg (by omega), show q + 1 - 1 = q by omega, hx, if_neg hne]
    unfold coth at hce
    by_cases d0 : mhash g 0 q = pos q / mn g 1
    · refine ⟨(RT _).mpr ?_, (RT _).mpr ⟨wS_hash hS 1 q, ?_⟩⟩
      · rw [d0]; exact ⟨b1, b2⟩
      · by_cases d1 : mhash g 1 q = pos q / mn g 1
        · rw [d1]; exact b2
        · exact hce _ (by rw [if_pos d0]) d1
    · have d1 : mhash g 1 q = pos q / mn g 1 := by
        rcases hq1.2.2.2 with z | z
        · exact absurd z.symm d0
        · exact z.symm
      refine ⟨(RT _).mpr ⟨wS_hash hS 0 q, hce _ (by rw [if_neg d0]) d0⟩, (RT _).mpr ?_⟩
      rw [d1]; exact ⟨b1, b2⟩
