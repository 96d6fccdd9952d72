/-! parts: the reference's closure on bits -/
def pw (p : Nat × Nat) : Nat := 2 ^ p.1 ||| 2 ^ p.2
def pst (m : Nat) (p : Nat × Nat) : Nat := m ||| (if m &&& pw p = 0 then 0 else pw p)
theorem pw_tb (p : Nat × Nat) (b : Nat) : (pw p).testBit b = (decide (p.1 = b) || decide (p.2 = b)) := by
  unfold pw
  rw [Nat.testBit_or, Nat.testBit_two_pow, Nat.testBit_two_pow]
theorem pw_z (m : Nat) (p : Nat × Nat) : m &&& pw p = 0 ↔ m.testBit p.1 = false ∧ m.testBit p.2 = false := by
  constructor
  · intro h
    have e : ∀ b, (m.testBit b && (pw p).testBit b) = false := fun b => by rw [← Nat.testBit_and, h, Nat.zero_testBit]
    have e1 := e p.1
    have e2 := e p.2
    rw [pw_tb] at e1 e2
    simp at e1 e2
    exact ⟨e1, e2⟩
  · rintro ⟨h1, h2⟩
    apply Nat.eq_of_testBit_eq
    intro b
    rw [Nat.testBit_and, pw_tb, Nat.zero_testBit]
    by_cases c1 : p.1 = b
    · rw [← c1, h1]; rfl
    · by_cases c2 : p.2 = b
      · rw [← c2, h2]; rfl
      · simp [c1, c2]
theorem pst_tb (m : Nat) (p : Nat × Nat) (b : Nat) : (pst m p).testBit b = true ↔ m.testBit b = true ∨ ((m.testBit p.1 = true ∨ m.testBit p.2 = true) ∧ (b = p.1 ∨ b = p.2)) := by
  unfold pst
  rw [Nat.testBit_or]
  by_cases c : m &&& pw p = 0
  · rw [if_pos c, Nat.zero_testBit, Bool.or_false]
    have := (pw_z m p).mp c
    rw [this.1, this.2]
    simp
  · rw [if_neg c, pw_tb]
    have d : m.testBit p.1 = true ∨ m.testBit p.2 = true := by
      refine Classical.byContradiction fun e => c ((pw_z m p).mpr ?_)
      simp at e
      exact e
    simp only [Bool.or_eq_true, decide_eq_true_eq]
    constructor
    · rintro (h | h | h)
      · exact Or.inl h
      · exact Or.inr ⟨d, Or.inl h.symm⟩
      · exact Or.inr ⟨d, Or.inr h.symm⟩
    · rintro (h | ⟨_, h | h⟩)
      · exact Or.inl h
      · exact Or.inr (Or.inl h.symm)
      · exact Or.inr (Or.inr h.symm)
def rnd (E : List (Nat × Nat)) (m : Nat) : Nat := E.foldl pst m
theorem rnd_mono : ∀ (E : List (Nat × Nat)) (m b : Nat), m.testBit b = true → (rnd E m).testBit b = true := by
  intro E
  induction E with
  | nil => intro m b h; exact h
  | cons p E ih => intro m b h; exact ih (pst m p) b ((pst_tb m p b).mpr (Or.inl h))
theorem rnd_in {S : Nat → Prop} : ∀ (E : List (Nat × Nat)) (m : Nat), clo E S → (∀ b, m.testBit b = true → S b) → ∀ b, (rnd E m).testBit b = true → S b := by
  intro E
  induction E with
  | nil => intro m _ h b hb; exact h b hb
  | cons p E ih =>
    intro m hc h b hb
    refine ih (pst m p) (fun q hq => hc q (List.mem_cons_of_mem _ hq)) (fun x hx => ?_) b hb
    have hp := hc p (List.mem_cons_self ..)
    rcases (pst_tb m p x).mp hx with z | ⟨z | z, w | w⟩
    · exact h x z
    · rw [w]; exact h _ z
    · rw [w]; exact hp.mp (h _ z)
    · rw [w]; exact hp.mpr (h _ z)
    · rw [w]; exact h _ z
theorem rnd_clo : ∀ (E : List (Nat × Nat)) (m : Nat), rnd E m = m → ∀ p ∈ E, (m.testBit p.1 = true ↔ m.testBit p.2 = true) := by
  intro E
  induction E with
  | nil => intro m _ p hp; cases hp
  | cons q E ih =>
    intro m h p hp
    have h2 : rnd E (pst m q) = m := h
    have e : pst m q = m := by
      apply Nat.eq_of_testBit_eq
      intro b
      cases hb : m.testBit b with
      | true => exact (pst_tb m q b).mpr (Or.inl hb)
      | false =>
        cases hc : (pst m q).testBit b with
        | false => rfl
        | true =>
          have := rnd_mono E (pst m q) b hc
          rw [h2, hb] at this
          cases this
    rcases List.mem_cons.mp hp with z | z
    · rw [z]
      constructor
      · intro k; rw [← e]; exact (pst_tb m q q.2).mpr (Or.inr ⟨Or.inl k, Or.inr rfl⟩)
      · intro k; rw [← e]; exact (pst_tb m q q.1).mpr (Or.inr ⟨Or.inr k, Or.inl rfl⟩)
    · rw [e] at h2
      exact ih m h2 p z
/-- where it ends: those with the same label -/
theorem rnd_end {g : mp} {nb a m : Nat} (hE : ∀ p ∈ edg g, p.1 < nb ∧ p.2 < nb) (h : rnd (edg g) m = m) (ha : m.testBit a = true) (hin : ∀ b, m.testBit b = true → b < nb ∧ lb g b = lb g a) (b : Nat) : m.testBit b = true ↔ b < nb ∧ lb g b = lb g a := by
  refine ⟨hin b, fun hb => ?_⟩
  exact (lb_cls (S := fun x => m.testBit x = true) (rnd_clo _ m h) hb.2).mpr ha
