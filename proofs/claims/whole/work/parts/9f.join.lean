/-! parts: the counts kept beside the labels -/
theorem lbf_idem (D : List (Nat × Nat)) (b : Nat) : lbf D (fun b => b) (lbf D (fun b => b) b) = lbf D (fun b => b) b := by
  have := lbf_S (S := fun x => lbf D (fun b => b) x = lbf D (fun b => b) b) D (fun b => b) (fun p hp => by
    show lbf D (fun b => b) p.1 = lbf D (fun b => b) b ↔ lbf D (fun b => b) p.2 = lbf D (fun b => b) b
    rw [lbf_eq D _ p hp]) (fun _ => Iff.rfl) b
  exact this.mpr rfl
theorem lbf_snoc (D : List (Nat × Nat)) (l : Nat → Nat) (p : Nat × Nat) : lbf (D ++ [p]) l = lbs (lbf D l) p := by
  unfold lbf
  rw [List.foldl_append]
  rfl
def bkn (nb : Nat) (l : Nat → Nat) (x : Nat) : Nat := cf (fun b => decide (l b = x)) nb 0
def mmn (l : Nat → Nat) (x : Nat) : List (Nat × Nat) → Nat
  | [] => 0
  | p :: D => (if l p.1 = x then 1 else 0) + mmn l x D
def rts (nb : Nat) (l : Nat → Nat) : Nat := cf (fun b => decide (l b = b)) nb 0
theorem un_one {l : Nat → Nat} {l1 l2 x b : Nat} (h : l1 ≠ l2) : (if (if l b = l2 then l1 else l b) = x then 1 else 0) = if x = l1 then (if l b = l1 then 1 else 0) + (if l b = l2 then 1 else 0) else if x = l2 then 0 else (if l b = x then 1 else 0) := by
  grind
theorem cf_un {l : Nat → Nat} {l1 l2 x : Nat} (h : l1 ≠ l2) : ∀ n a, cf (fun b => decide ((if l b = l2 then l1 else l b) = x)) n a = if x = l1 then cf (fun b => decide (l b = l1)) n a + cf (fun b => decide (l b = l2)) n a else if x = l2 then 0 else cf (fun b => decide (l b = x)) n a := by
  intro n
  induction n with
  | zero => intro a; unfold cf; split <;> (try split) <;> rfl
  | succ n ih =>
    intro a
    have := un_one (l := l) (x := x) (b := a) h
    rw [cf, cf, cf, cf, ih]
    simp only [decide_eq_true_eq]
    rw [this]
    split
    · omega
    · split
      · rfl
      · rfl
theorem bkn_un {nb : Nat} {l : Nat → Nat} {l1 l2 x : Nat} (h : l1 ≠ l2) : bkn nb (fun b => if l b = l2 then l1 else l b) x = if x = l1 then bkn nb l l1 + bkn nb l l2 else if x = l2 then 0 else bkn nb l x := cf_un h nb 0
theorem mmn_un {l : Nat → Nat} {l1 l2 x : Nat} (h : l1 ≠ l2) : ∀ D, mmn (fun b => if l b = l2 then l1 else l b) x D = if x = l1 then mmn l l1 D + mmn l l2 D else if x = l2 then 0 else mmn l x D := by
  intro D
  induction D with
  | nil => unfold mmn; split <;> (try split) <;> rfl
  | cons p D ih =>
    have := un_one (l := l) (x := x) (b := p.1) h
    unfold mmn
    rw [ih, this]
    split
    · omega
    · split
      · rfl
      · rfl
theorem mmn_snoc (l : Nat → Nat) (x : Nat) (p : Nat × Nat) : ∀ D, mmn l x (D ++ [p]) = mmn l x D + (if l p.1 = x then 1 else 0) := by
  intro D
  induction D with
  | nil => rw [List.nil_append]; unfold mmn mmn; omega
  | cons q D ih => rw [List.cons_append, mmn, ih, mmn]; omega
theorem mmn_congr {l l' : Nat → Nat} (h : ∀ b, l b = l' b) (x : Nat) (D : List (Nat × Nat)) : mmn l x D = mmn l' x D := by
  rw [show l = l' from funext h]
theorem lbs_ne {l : Nat → Nat} {p : Nat × Nat} : lbs l p = fun b => if l b = l p.2 then l p.1 else l b := rfl
theorem lbs_same {l : Nat → Nat} {p : Nat × Nat} (h : l p.1 = l p.2) : lbs l p = l := by
  funext b
  unfold lbs
  by_cases c : l b = l p.2
  · rw [if_pos c, h, c]
  · rw [if_neg c]
theorem rts_un {nb : Nat} {l : Nat → Nat} {p : Nat × Nat} (hi : ∀ b, l (l b) = l b) (h : l p.1 ≠ l p.2) (hn : l p.2 < nb) : rts nb (lbs l p) + 1 = rts nb l := by
  have o := cf_one (P := fun b => decide (lbs l p b = b)) (Q := fun b => decide (l b = b)) (i := l p.2) (n := nb) (a := 0) (by omega) (by omega) fun j hj => by
    show decide (lbs l p j = j) = decide (l j = j)
    unfold lbs
    have h1 := hi p.1
    have h2 := hi p.2
    have h3 := hi j
    by_cases c : l j = l p.2
    · rw [if_pos c]
      refine decide_eq_decide.mpr ⟨fun e => ?_, fun e => ?_⟩
      · rw [← e] at c; omega
      · omega
    · rw [if_neg c]
  have e1 : decide (l (l p.2) = l p.2) = true := decide_eq_true (hi p.2)
  have e2 : decide (lbs l p (l p.2) = l p.2) = false := by
    unfold lbs
    rw [if_pos (hi p.2)]
    exact decide_eq_false h
  rw [e1, e2] at o
  unfold rts
  simpa using o
