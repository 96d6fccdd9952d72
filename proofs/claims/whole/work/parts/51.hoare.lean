/-! a call comes to an end with an answer and a store of which something holds; what a call leaves as it was -/
def yl {R : Type} (o : Option R) (Q : R → Prop) : Prop := ∃ r, o = some r ∧ Q r
abbrev y2 (o : Option (Int32 × tc_S)) (Q : Int32 → tc_S → Prop) : Prop := yl o (fun r => Q r.1 r.2)
theorem yl_ok {R : Type} {r : R} {Q : R → Prop} (h : Q r) : yl (some r) Q := ⟨r, rfl, h⟩
theorem yl_m {R : Type} {o : Option R} {P Q : R → Prop} (h : yl o P) (h2 : ∀ r, P r → Q r) : yl o Q := by
  obtain ⟨r, h3, h4⟩ := h
  exact ⟨r, h3, h2 r h4⟩
theorem y2_m {o : Option (Int32 × tc_S)} {P Q : Int32 → tc_S → Prop} (h : y2 o P) (h2 : ∀ r u, P r u → Q r u) : y2 o Q := yl_m h (fun r h => h2 r.1 r.2 h)
theorem yl_b {R : Type} {o : Option (Int32 × tc_S)} {k : Int32 → tc_S → Option R} {P : Int32 → tc_S → Prop} {Q : R → Prop} (h : y2 o P) (h2 : ∀ r u, P r u → yl (k r u) Q) : yl (tc_b o k) Q := by
  obtain ⟨⟨r, u⟩, h3, h4⟩ := h
  rw [h3]
  exact h2 r u h4
theorem yl_e {R : Type} {o : Option (Int32 × tc_S)} {k : Int32 → tc_S → Option R} {r : Int32} {u : tc_S} {Q : R → Prop} (h : o = some (r, u)) (h2 : yl (k r u) Q) : yl (tc_b o k) Q := by
  rw [h]
  exact h2
theorem yl_ld {R : Type} {G : tc_G} {u : tc_S} {a j : Nat} {k : Int32 → Option R} {Q : R → Prop} (len : Nat) (hl : G.2.2.1 a = len) (h : j < len) (hlen : len < 2 ^ 31) (h2 : yl (k (u.1 a j)) Q) : yl (tc_ld G u a (nI j) k) Q := by
  rw [pu_ld hl h hlen]
  exact h2
theorem yl_sd {R : Type} {G : tc_G} {u : tc_S} {a j : Nat} {x : Int32} {k : tc_S → Option R} {Q : R → Prop} (len : Nat) (hl : G.2.2.1 a = len) (h : j < len) (hlen : len < 2 ^ 31) (h2 : yl (k (tc_w u a j x)) Q) : yl (tc_sd G u a (nI j) x k) Q := by
  rw [pu_sd hl h hlen]
  exact h2
theorem yl_let {α R : Type} {x : α} {k : α → Option R} {Q : R → Prop} (h : yl (k x) Q) : yl (tc_let x k) Q := h
theorem yl_nz {R : Type} {y : Int32} {o : Option R} {Q : R → Prop} (h : ¬ y = 0) (h2 : yl o Q) : yl (tc_nz y o) Q := by
  unfold tc_nz
  rw [if_neg h]
  exact h2
theorem yl_z0 {R : Type} {o : Option R} {Q : R → Prop} (h2 : yl o Q) : yl (tc_zo 0 o) Q := by
  unfold tc_zo
  rw [if_pos (Or.inl rfl)]
  exact h2
theorem yl_z1 {R : Type} {o : Option R} {Q : R → Prop} (h2 : yl o Q) : yl (tc_zo 1 o) Q := by
  unfold tc_zo
  rw [if_pos (Or.inr rfl)]
  exact h2
theorem yl_if {R : Type} {c : Prop} [Decidable c] {a b : Option R} {Q : R → Prop} (h1 : c → yl a Q) (h2 : ¬ c → yl b Q) : yl (if c then a else b) Q := by
  by_cases h : c
  · rw [if_pos h]; exact h1 h
  · rw [if_neg h]; exact h2 h
theorem yl_p {R : Type} {c : Prop} [Decidable c] {a b : Option R} {Q : R → Prop} (h : c) (h1 : yl a Q) : yl (if c then a else b) Q := by
  rw [if_pos h]; exact h1
theorem yl_n {R : Type} {c : Prop} [Decidable c] {a b : Option R} {Q : R → Prop} (h : ¬ c) (h1 : yl b Q) : yl (if c then a else b) Q := by
  rw [if_neg h]; exact h1
theorem yl_rw {R : Type} {o o2 : Option R} {Q : R → Prop} (h : o = o2) (h1 : yl o2 Q) : yl o Q := by
  rw [h]; exact h1
/-- nothing is changed but where P says -/
def fr (P : Nat → Nat → Prop) (u v : tc_S) : Prop := ∀ o k, ¬ P o k → v.1 o k = u.1 o k
theorem fr_refl {P : Nat → Nat → Prop} {u : tc_S} : fr P u u := fun _ _ _ => rfl
theorem fr_trans {P : Nat → Nat → Prop} {u v w : tc_S} (h : fr P u v) (h2 : fr P v w) : fr P u w := fun o k hp => (h2 o k hp).trans (h o k hp)
theorem fr_mono {P Q : Nat → Nat → Prop} {u v : tc_S} (h : fr P u v) (h2 : ∀ o k, P o k → Q o k) : fr Q u v := fun o k hp => h o k (fun q => hp (h2 o k q))
theorem fr_w {P : Nat → Nat → Prop} {u v : tc_S} {a j : Nat} {x : Int32} (h : fr P u v) (hp : P a j) : fr P u (tc_w v a j x) := by
  intro o k hn
  have : ¬ (o = a ∧ k = j) := fun e => hn (by rw [e.1, e.2]; exact hp)
  show (if o = a ∧ k = j then x else v.1 o k) = _
  rw [if_neg this]
  exact h o k hn
theorem fr_wr {P : Nat → Nat → Prop} {u v : tc_S} {a : Nat} {f : Nat → Int32} (h : fr P u v) (hp : ∀ k, ¬ P a k → f k = v.1 a k) : fr P u (tc_wr v a f) := by
  intro o k hn
  by_cases e : o = a
  · subst e
    rw [tc_wr_row, hp k hn]
    exact h o k hn
  · rw [tc_wr_ne e]
    exact h o k hn
theorem w_get (u : tc_S) (a j : Nat) (x : Int32) (o k : Nat) : (tc_w u a j x).1 o k = if o = a ∧ k = j then x else u.1 o k := rfl
/-- the region at B is g, still -/
theorem isM_fr {P : Nat → Nat → Prop} {u v : tc_S} {B : Nat} {g : mp} (h : isM u B g) (hf : fr P u v) (hp : ∀ k, k < 292 → ¬ P 72 (B + k)) : isM v B g := fun k hk => (hf 72 (B + k) (hp k hk)).trans (h k hk)
