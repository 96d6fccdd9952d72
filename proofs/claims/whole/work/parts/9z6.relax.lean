/-! how far buckets are from one with room: edges relaxed in turns -/
def rs1 (a : Nat → Nat) (e : Nat × Nat) : Nat → Nat := fun k => if k = e.1 then (if a e.1 ≤ a e.2 + 1 then a e.1 else a e.2 + 1) else a k
def rr (Ed : List (Nat × Nat)) (a : Nat → Nat) : Nat → Nat := Ed.foldl rs1 a
def rn (Ed : List (Nat × Nat)) : Nat → (Nat → Nat) → Nat → Nat
  | 0, a => a
  | n + 1, a => rn Ed n (rr Ed a)
def rp (nb : Nat) (op : Nat → Bool) (Ed : List (Nat × Nat)) : Nat → Nat → Prop
  | 0, b => b < nb ∧ op b = true
  | n + 1, b => b < nb ∧ ∃ c, (b, c) ∈ Ed ∧ rp nb op Ed n c
def rS (nb : Nat) (op : Nat → Bool) (Ed : List (Nat × Nat)) (a : Nat → Nat) : Prop := ∀ b, b < nb → a b ≤ 1000 ∧ (a b < 1000 → rp nb op Ed (a b) b)
theorem rs1_dn (a : Nat → Nat) (e : Nat × Nat) (k : Nat) : rs1 a e k ≤ a k := by
  unfold rs1
  split
  · rename_i h; subst h; split <;> omega
  · exact Nat.le_refl _
theorem rr_dn : ∀ (Ed : List (Nat × Nat)) (a : Nat → Nat) (k : Nat), rr Ed a k ≤ a k := by
  intro Ed
  induction Ed with
  | nil => intro a k; exact Nat.le_refl _
  | cons e Ed ih => intro a k; exact Nat.le_trans (ih (rs1 a e) k) (rs1_dn a e k)
theorem rs1_S {nb : Nat} {op : Nat → Bool} {Ed : List (Nat × Nat)} {a : Nat → Nat} {e : Nat × Nat} (he : e ∈ Ed) (hlt : ∀ e ∈ Ed, e.1 < nb ∧ e.2 < nb) (h : rS nb op Ed a) : rS nb op Ed (rs1 a e) := by
  intro b hb
  have hb1 := h b hb
  unfold rs1
  by_cases c : b = e.1
  · subst c
    rw [if_pos rfl]
    by_cases d : a e.1 ≤ a e.2 + 1
    · rw [if_pos d]; exact hb1
    · rw [if_neg d]
      refine ⟨by omega, fun _ => ⟨hb, e.2, he, (h e.2 (hlt e he).2).2 (by omega)⟩⟩
  · rw [if_neg c]; exact hb1
theorem rr_S {nb : Nat} {op : Nat → Bool} {Ed : List (Nat × Nat)} (hlt : ∀ e ∈ Ed, e.1 < nb ∧ e.2 < nb) : ∀ (D : List (Nat × Nat)) (a : Nat → Nat), (∀ e ∈ D, e ∈ Ed) → rS nb op Ed a → rS nb op Ed (rr D a) := by
  intro D
  induction D with
  | nil => intro a _ h; exact h
  | cons e D ih => intro a hD h; exact ih (rs1 a e) (fun x hx => hD x (List.mem_cons_of_mem _ hx)) (rs1_S (hD e (List.mem_cons_self ..)) hlt h)
theorem rn_S {nb : Nat} {op : Nat → Bool} {Ed : List (Nat × Nat)} (hlt : ∀ e ∈ Ed, e.1 < nb ∧ e.2 < nb) : ∀ (n : Nat) (a : Nat → Nat), rS nb op Ed a → rS nb op Ed (rn Ed n a) := by
  intro n
  induction n with
  | zero => intro a h; exact h
  | succ n ih => intro a h; exact ih (rr Ed a) (rr_S hlt Ed a (fun _ h => h) h)
theorem rr_do {b c N : Nat} : ∀ (Ed : List (Nat × Nat)) (a : Nat → Nat), (b, c) ∈ Ed → a c ≤ N → rr Ed a b ≤ N + 1 := by
  intro Ed
  induction Ed with
  | nil => intro a h; cases h
  | cons e Ed ih =>
    intro a h hc
    rcases List.mem_cons.mp h with z | z
    · subst z
      refine Nat.le_trans (rr_dn Ed (rs1 a (b, c)) b) ?_
      unfold rs1
      rw [if_pos rfl]
      show (if a b ≤ a c + 1 then a b else a c + 1) ≤ N + 1
      split <;> omega
    · exact ih (rs1 a e) z (Nat.le_trans (rs1_dn a e c) hc)
def rC (nb : Nat) (op : Nat → Bool) (Ed : List (Nat × Nat)) (t : Nat) (a : Nat → Nat) : Prop := ∀ n b, n ≤ t → rp nb op Ed n b → a b ≤ n
theorem rr_C {nb : Nat} {op : Nat → Bool} {Ed : List (Nat × Nat)} {t : Nat} {a : Nat → Nat} (h : rC nb op Ed t a) : rC nb op Ed (t + 1) (rr Ed a) := by
  intro n b hn hp
  cases n with
  | zero => exact Nat.le_trans (rr_dn Ed a b) (h 0 b (by omega) hp)
  | succ n =>
    obtain ⟨hb, c, hc, hp⟩ := hp
    exact rr_do Ed a hc (h n c (by omega) hp)
theorem rn_C {nb : Nat} {op : Nat → Bool} {Ed : List (Nat × Nat)} : ∀ (n t : Nat) (a : Nat → Nat), rC nb op Ed t a → rC nb op Ed (t + n) (rn Ed n a) := by
  intro n
  induction n with
  | zero => intro t a h; exact h
  | succ n ih =>
    intro t a h
    have := ih (t + 1) (rr Ed a) (rr_C h)
    rw [show t + (n + 1) = t + 1 + n by omega]
    exact this
theorem rp_lt {nb : Nat} {op : Nat → Bool} {Ed : List (Nat × Nat)} : ∀ {n b : Nat}, rp nb op Ed n b → b < nb
  | 0, _, h => h.1
  | _ + 1, _, h => h.1
theorem rp_short {nb : Nat} {op : Nat → Bool} {Ed : List (Nat × Nat)} : ∀ {d b : Nat}, rp nb op Ed d b → (∀ n, n < d → ¬ rp nb op Ed n b) → ∀ i, i ≤ d → ∃ c, c < nb ∧ rp nb op Ed i c ∧ ∀ n, n < i → ¬ rp nb op Ed n c := by
  intro d
  induction d with
  | zero => intro b h hm i hi; exact ⟨b, rp_lt h, by rw [show i = 0 by omega]; exact h, fun n hn => by omega⟩
  | succ d ih =>
    intro b h hm i hi
    by_cases c : i = d + 1
    · rw [c]; exact ⟨b, rp_lt h, h, hm⟩
    · obtain ⟨hb, x, hx, hp⟩ := h
      exact ih hp (fun n hn hp2 => hm (n + 1) (by omega) ⟨hb, x, hx, hp2⟩) i (by omega)
theorem rp_bound {nb : Nat} {op : Nat → Bool} {Ed : List (Nat × Nat)} {d b : Nat} (h : rp nb op Ed d b) (hm : ∀ n, n < d → ¬ rp nb op Ed n b) : d < nb := by
  have sh := rp_short h hm
  have := fb_holes nb (d + 1) (fun i => if hi : i ≤ d then (sh i hi).choose else 0) (fun i hi => by
    show (if hi : i ≤ d then (sh i hi).choose else 0) < nb
    rw [dif_pos (by omega)]
    exact (sh i (by omega)).choose_spec.1) (fun i j hij hj e => by
    have e : (if hi : i ≤ d then (sh i hi).choose else 0) = (if hi : j ≤ d then (sh j hi).choose else 0) := e
    rw [dif_pos (by omega), dif_pos (by omega)] at e
    have p1 := (sh i (by omega)).choose_spec.2.1
    have p2 := (sh j (by omega)).choose_spec.2.2 i hij
    rw [e] at p1
    exact p2 p1)
  omega
def rf (nb : Nat) (op : Nat → Bool) (Ed : List (Nat × Nat)) : Nat → Nat := rn Ed nb (fun b => if op b = true then 0 else 1000)
theorem rf_S {nb : Nat} {op : Nat → Bool} {Ed : List (Nat × Nat)} (hlt : ∀ e ∈ Ed, e.1 < nb ∧ e.2 < nb) : rS nb op Ed (rf nb op Ed) := rn_S hlt nb _ fun b hb => by
  by_cases c : op b = true
  · rw [if_pos c]; exact ⟨by omega, fun _ => ⟨hb, c⟩⟩
  · rw [if_neg c]; exact ⟨by omega, fun z => by omega⟩
theorem rf_C {nb : Nat} {op : Nat → Bool} {Ed : List (Nat × Nat)} : rC nb op Ed nb (rf nb op Ed) := by
  have := rn_C (nb := nb) (op := op) (Ed := Ed) nb 0 (fun b => if op b = true then 0 else 1000) fun n b hn hp => by
    rw [show n = 0 by omega] at hp
    show (if op b = true then 0 else 1000) ≤ n
    rw [if_pos hp.2]
    omega
  rw [Nat.zero_add] at this
  exact this
theorem rf_le {nb : Nat} {op : Nat → Bool} {Ed : List (Nat × Nat)} {n b : Nat} (h : rp nb op Ed n b) : rf nb op Ed b ≤ n ∧ rf nb op Ed b < nb := by
  obtain ⟨d, d1, d2⟩ := pk_least (fun n => rp nb op Ed n b) ⟨n, h⟩
  have hd := rp_bound d1 d2
  have := rf_C (nb := nb) (op := op) (Ed := Ed) d b (by omega) d1
  have hdn : d ≤ n := Classical.byContradiction fun z => d2 n (by omega) h
  omega
theorem rf_no {nb : Nat} {op : Nat → Bool} {Ed : List (Nat × Nat)} {b : Nat} (hn : nb ≤ 1000) (h : 1000 ≤ rf nb op Ed b) : ∀ n, ¬ rp nb op Ed n b := fun n hp => by
  have := (rf_le hp).2
  omega
/-- a step nearer -/
theorem rf_step {nb : Nat} {op : Nat → Bool} {Ed : List (Nat × Nat)} {b m : Nat} (hlt : ∀ e ∈ Ed, e.1 < nb ∧ e.2 < nb) (hb : b < nb) (h : rf nb op Ed b = m + 1) (hm : m + 1 < 1000) : ∃ c, (b, c) ∈ Ed ∧ rf nb op Ed c = m := by
  have p := (rf_S hlt (op := op) b hb).2 (by omega)
  rw [h] at p
  obtain ⟨-, c, hc, hp⟩ := p
  refine ⟨c, hc, ?_⟩
  have l1 := (rf_le hp).1
  have l2 := (rf_le (n := rf nb op Ed c + 1) (b := b) ⟨hb, c, hc, (rf_S hlt (op := op) c (hlt _ hc).2).2 (by omega)⟩).1
  omega
/-- one is laid elsewhere: how many each bucket has -/
theorem lcb_pset {F : Nat → Nat} {q c b : Nat} : ∀ A : List Nat, A.Nodup → q ∈ A → lcb (pset F q c) b A + (if F q = b then 1 else 0) = lcb F b A + (if c = b then 1 else 0) := by
  have no : ∀ A : List Nat, q ∉ A → lcb (pset F q c) b A = lcb F b A := by
    intro A
    induction A with
    | nil => intro _; rfl
    | cons x A ih =>
      intro h
      rw [lcb_cons, lcb_cons, ih (fun z => h (List.mem_cons_of_mem _ z)), pset_ne (fun z => h (by rw [z]; exact List.mem_cons_self ..))]
  intro A
  induction A with
  | nil => intro _ h; cases h
  | cons x A ih =>
    intro hn hq
    have hn := List.nodup_cons.mp hn
    rw [lcb_cons, lcb_cons]
    by_cases d : q = x
    · subst d
      rw [pset_eq, no A hn.1]
      omega
    · have hq2 : q ∈ A := by
        rcases List.mem_cons.mp hq with z | z
        · exact absurd z d
        · exact z
      have := ih hn.2 hq2
      rw [pset_ne (fun z => d z.symm)]
      omega
