/-! the search finds the wanted chain, or none where there is none -/
theorem bI_next {nb ns : Nat} {E : Nat → Nat → Option Nat} {sk : Nat → Prop} {m : Nat} {L : ch} {e h : Nat} {Q : List Nat} {pr : Nat → ch} (hI : bI nb ns E sk m L e h ns Q pr) : bI nb ns E sk m L e (h + 1) 0 Q pr := by
  obtain ⟨bk, pk, pos, rest, lev, i1, i2, i3, i4, i5, i6, i7, i8, i9⟩ := hI
  refine ⟨bk, pk, pos, rest, lev, i1, i2, i3, i4, ?_, fun _ => Nat.zero_le _, i7, i8, i9⟩
  rcases Nat.lt_or_eq_of_le i5 with q | q
  · exact q
  · exfalso
    have := i6 q
    obtain ⟨k, hk⟩ : ∃ k, m - (pr bk).length = k + 1 := ⟨m - (pr bk).length - 1, by omega⟩
    rw [hk] at i3
    obtain ⟨p2, c2, l2, g1, g2, -⟩ := i3
    have e1 : p2 = pk := (Prod.mk.inj (List.cons.inj g1).1).2.symm
    omega
theorem bin_A {nb ns : Nat} {E : Nat → Nat → Option Nat} {sk : Nat → Prop} {op : Nat → Bool} {m : Nat} {L : ch} {e h b : Nat} (hE : ∀ b p c, E b p = some c → c < nb) (K : List Nat → (Nat → ch) → Option (ch × Nat)) : ∀ (n p : Nat) (Q : List Nat) (pr : Nat → ch), p + n = ns → bI nb ns E sk m L e h p Q pr → bQ nb Q → Q[h]? = some b → (∀ x, x ∉ Q → (op x = true ↔ sk x)) → (∀ Q2 pr2, bI nb ns E sk m L e (h + 1) 0 Q2 pr2 → bQ nb Q2 → (∀ x, x ∉ Q2 → (op x = true ↔ sk x)) → K Q2 pr2 = some (L, e)) → bin E op b K n p Q pr = some (L, e) := by
  intro n
  induction n with
  | zero =>
    intro p Q pr hp hI hQ hb hsk hK
    rw [bin]
    refine hK Q pr (bI_next ?_) hQ hsk
    rw [show p = ns by omega] at hI
    exact hI
  | succ n ih =>
    intro p Q pr hp hI hQ hb hsk hK
    rw [bin]
    cases hc : E b p with
    | none => exact ih (p + 1) Q pr (by omega) (bI_skip hI hb fun c q => by rw [hc] at q; cases q) hQ hb hsk hK
    | some c =>
      show (if c ∈ Q then _ else _) = _
      by_cases h1 : c ∈ Q
      · rw [if_pos h1]
        exact ih (p + 1) Q pr (by omega) (bI_skip hI hb fun x q => by rw [hc] at q; cases q; exact h1) hQ hb hsk hK
      · rw [if_neg h1]
        obtain ⟨f1, f2⟩ := bI_found hsk hE (by omega) hI hQ hb hc h1
        by_cases h2 : op c = true
        · rw [if_pos h2]; exact f1 h2
        · rw [if_neg h2]
          have hlt : h < Q.length := by
            rcases Nat.lt_or_ge h Q.length with q | q
            · exact q
            · rw [List.getElem?_eq_none q] at hb; cases hb
          refine ih (p + 1) _ _ (by omega) (f2 h2) (bQ_push hQ h1 (hE _ _ _ hc)) ?_ (fun x hx => hsk x fun q => hx (List.mem_append_left _ q)) hK
          rw [List.getElem?_append_left hlt]; exact hb
theorem bout_A {nb ns : Nat} {E : Nat → Nat → Option Nat} {sk : Nat → Prop} {op : Nat → Bool} {m : Nat} {L : ch} {e : Nat} (hE : ∀ b p c, E b p = some c → c < nb) : ∀ (n h : Nat) (Q : List Nat) (pr : Nat → ch), nb < n + h → bI nb ns E sk m L e h 0 Q pr → bQ nb Q → (∀ x, x ∉ Q → (op x = true ↔ sk x)) → bout ns E op n h Q pr = some (L, e) := by
  intro n
  have hlt : ∀ (h : Nat) (Q : List Nat) (pr : Nat → ch), bI nb ns E sk m L e h 0 Q pr → h < Q.length := by
    intro h Q pr hI
    obtain ⟨bk, pk, pos, rest, lev, i1, i2, i3, i4, i5, i6, i7, i8, i9⟩ := hI
    have hpl : pos < Q.length := by
      rcases Nat.lt_or_ge pos Q.length with q | q
      · exact q
      · rw [List.getElem?_eq_none q] at i4; cases i4
    omega
  induction n with
  | zero =>
    intro h Q pr hn hI hQ hsk
    have := hlt h Q pr hI
    have := bQ_len hQ
    omega
  | succ n ih =>
    intro h Q pr hn hI hQ hsk
    have hh := hlt h Q pr hI
    rw [bout, List.getElem?_eq_getElem hh]
    exact bin_A hE _ ns 0 Q pr (by omega) hI hQ (List.getElem?_eq_getElem hh) hsk fun Q2 pr2 a1 a2 a3 => ih (h + 1) Q2 pr2 (by omega) a1 a2 a3
theorem bin_B {nb ns : Nat} {E : Nat → Nat → Option Nat} {sk : Nat → Prop} {op : Nat → Bool} {h b : Nat} (hE : ∀ b p c, E b p = some c → c < nb) (hb : b < nb) (hbn : ∀ n, ¬ gp nb ns E sk n b) (K : List Nat → (Nat → ch) → Option (ch × Nat)) : ∀ (n p : Nat) (Q : List Nat) (pr : Nat → ch), p + n = ns → (∀ c, c ∈ Q → c < nb ∧ ∀ n, ¬ gp nb ns E sk n c) → (∀ x, x ∉ Q → (op x = true ↔ sk x)) → (∀ Q2 pr2, (∀ c, c ∈ Q2 → c < nb ∧ ∀ n, ¬ gp nb ns E sk n c) → (∀ x, x ∉ Q2 → (op x = true ↔ sk x)) → K Q2 pr2 = none) → bin E op b K n p Q pr = none := by
  intro n
  induction n with
  | zero =>
    intro p Q pr hp hI hsk hK
    rw [bin]
    exact hK Q pr hI hsk
  | succ n ih =>
    intro p Q pr hp hI hsk hK
    rw [bin]
    cases hc : E b p with
    | none => exact ih (p + 1) Q pr (by omega) hI hsk hK
    | some c =>
      show (if c ∈ Q then _ else _) = _
      by_cases h1 : c ∈ Q
      · rw [if_pos h1]
        exact ih (p + 1) Q pr (by omega) hI hsk hK
      · rw [if_neg h1]
        have hcn := hE _ _ _ hc
        have hno : ∀ n, ¬ gp nb ns E sk n c := fun n q => hbn (n + 1) ⟨hb, p, c, by omega, hc, q⟩
        by_cases h2 : op c = true
        · exact absurd ⟨hcn, (hsk c h1).mp h2⟩ (hno 0)
        · rw [if_neg h2]
          refine ih (p + 1) _ _ (by omega) (fun x hx => ?_) (fun x hx => hsk x fun q => hx (List.mem_append_left _ q)) hK
          rcases List.mem_append.mp hx with q | q
          · exact hI x q
          · rw [List.mem_singleton] at q
            rw [q]; exact ⟨hcn, hno⟩
theorem bout_B {nb ns : Nat} {E : Nat → Nat → Option Nat} {sk : Nat → Prop} {op : Nat → Bool} (hE : ∀ b p c, E b p = some c → c < nb) : ∀ (n h : Nat) (Q : List Nat) (pr : Nat → ch), (∀ c, c ∈ Q → c < nb ∧ ∀ n, ¬ gp nb ns E sk n c) → (∀ x, x ∉ Q → (op x = true ↔ sk x)) → bout ns E op n h Q pr = none := by
  intro n
  induction n with
  | zero => intro h Q pr _ _; rfl
  | succ n ih =>
    intro h Q pr hI hsk
    rw [bout]
    cases hq : Q[h]? with
    | none => rfl
    | some b =>
      have hbQ := List.mem_of_getElem? hq
      exact bin_B (h := h) hE (hI b hbQ).1 (hI b hbQ).2 _ ns 0 Q pr (by omega) hI hsk fun Q2 pr2 a1 a2 => ih (h + 1) Q2 pr2 a1 a2
def bq0 (f s : Nat) : List Nat := if s = f then [f] else [f, s]
theorem bq0_mem {f s x : Nat} : x ∈ bq0 f s ↔ x = f ∨ x = s := by
  unfold bq0
  split
  · rename_i e; simp [e]
  · simp
theorem bq0_Q {nb f s : Nat} (hf : f < nb) (hs : s < nb) : bQ nb (bq0 f s) := by
  refine ⟨?_, fun x hx => ?_⟩
  · unfold bq0
    split
    · simp
    · rename_i e
      simp
      exact fun q => e q.symm
  · rcases bq0_mem.mp hx with q | q <;> omega
/-- at the start -/
theorem bI_start {nb ns : Nat} {E : Nat → Nat → Option Nat} {sk : Nat → Prop} {m f s b0 : Nat} {L : ch} {e : Nat} (h1 : 1 ≤ m) (hg : grd nb ns E sk m b0 L e) (hb : b0 = f ∨ (b0 = s ∧ ¬ gp nb ns E sk m f)) (hmf : ∀ n, gp nb ns E sk n f → m ≤ n) (hms : ∀ n, gp nb ns E sk n s → m ≤ n) : bI nb ns E sk m L e 0 0 (bq0 f s) (fun _ => []) := by
  have hg2 := hg
  obtain ⟨k, hk⟩ : ∃ k, m = k + 1 := ⟨m - 1, by omega⟩
  rw [hk] at hg
  obtain ⟨p, c, l2, g1, g2, g3, g4, g5, g6⟩ := hg
  have z : ∀ (pos : Nat), (bq0 f s)[pos]? = some b0 → (∀ j x, j < pos → (bq0 f s)[j]? = some x → ¬ gp nb ns E sk m x) → bI nb ns E sk m L e 0 0 (bq0 f s) (fun _ => []) := by
    intro pos hp hn
    refine ⟨b0, p, pos, l2, fun _ => 0, ?_, ?_, ?_, hp, Nat.zero_le _, fun _ => Nat.zero_le _, fun _ _ _ _ => Nat.zero_le _, ?_, ?_⟩
    · rw [g1]; rfl
    · show 0 < m; omega
    · show grd nb ns E sk (m - 0) b0 ((b0, p) :: l2) e
      rw [← g1]; exact hg2
    · intro j x hj hx _
      exact hn j x hj hx
    · intro x hx
      refine ⟨Nat.zero_le _, fun n q => ?_, fun q => by cases q⟩
      show m ≤ 0 + n
      rcases bq0_mem.mp hx with w | w
      · rw [w] at q; have := hmf n q; omega
      · rw [w] at q; have := hms n q; omega
  rcases hb with q | ⟨q1, q2⟩
  · refine z 0 ?_ (fun j x hj => absurd hj (Nat.not_lt_zero j))
    rw [q]
    unfold bq0
    split <;> rfl
  · by_cases w : s = f
    · refine z 0 ?_ (fun j x hj => absurd hj (Nat.not_lt_zero j))
      unfold bq0
      rw [if_pos w, q1, w]
      rfl
    · refine z 1 ?_ (fun j x hj hx => ?_)
      · unfold bq0
        rw [if_neg w, q1]
        rfl
      · obtain rfl : j = 0 := by omega
        unfold bq0 at hx
        rw [if_neg w] at hx
        have : f = x := Option.some.inj hx
        rw [← this]
        exact q2
/-- the whole search -/
def bfs (nb ns : Nat) (E : Nat → Nat → Option Nat) (op : Nat → Bool) (f s : Nat) : Option (ch × Nat) := bout ns E op (nb + 1) 0 (bq0 f s) (fun _ => [])
theorem bfs_A {nb ns : Nat} {E : Nat → Nat → Option Nat} {op : Nat → Bool} {m f s b0 : Nat} {L : ch} {e : Nat} (hE : ∀ b p c, E b p = some c → c < nb) (hf : f < nb) (hs : s < nb) (h1 : 1 ≤ m) (hg : grd nb ns E (fun b => op b = true ∧ b ≠ f ∧ b ≠ s) m b0 L e) (hb : b0 = f ∨ (b0 = s ∧ ¬ gp nb ns E (fun b => op b = true ∧ b ≠ f ∧ b ≠ s) m f)) (hmf : ∀ n, gp nb ns E (fun b => op b = true ∧ b ≠ f ∧ b ≠ s) n f → m ≤ n) (hms : ∀ n, gp nb ns E (fun b => op b = true ∧ b ≠ f ∧ b ≠ s) n s → m ≤ n) : bfs nb ns E op f s = some (L, e) := by
  refine bout_A hE (nb + 1) 0 _ _ (by omega) (bI_start h1 hg hb hmf hms) (bq0_Q hf hs) fun x hx => ?_
  rw [bq0_mem] at hx
  constructor
  · intro q; exact ⟨q, fun w => hx (Or.inl w), fun w => hx (Or.inr w)⟩
  · intro q; exact q.1
theorem bfs_B {nb ns : Nat} {E : Nat → Nat → Option Nat} {op : Nat → Bool} {f s : Nat} (hE : ∀ b p c, E b p = some c → c < nb) (hf : f < nb) (hs : s < nb) (hnf : ∀ n, ¬ gp nb ns E (fun b => op b = true ∧ b ≠ f ∧ b ≠ s) n f) (hns : ∀ n, ¬ gp nb ns E (fun b => op b = true ∧ b ≠ f ∧ b ≠ s) n s) : bfs nb ns E op f s = none := by
  refine bout_B (sk := fun b => op b = true ∧ b ≠ f ∧ b ≠ s) hE (nb + 1) 0 _ _ (fun c hc => ?_) fun x hx => ?_
  · rcases bq0_mem.mp hc with q | q
    · rw [q]; exact ⟨hf, hnf⟩
    · rw [q]; exact ⟨hs, hns⟩
  · rw [bq0_mem] at hx
    constructor
    · intro q; exact ⟨q, fun w => hx (Or.inl w), fun w => hx (Or.inr w)⟩
    · intro q; exact q.1
/-! the class's table as a graph -/
def coth (g : mp) (q b : Nat) : Nat := if mhash g 0 q = b then mhash g 1 q else mhash g 0 q
def cE (c : Nat → en) (g : mp) (b p : Nat) : Option Nat := if (c (b * mn g 1 + p)).1.toNatClampNeg = 0 then none else if coth g ((c (b * mn g 1 + p)).1.toNatClampNeg - 1) b = b then none else some (coth g ((c (b * mn g 1 + p)).1.toNatClampNeg - 1) b)
theorem coth_lt {g : mp} (hS : wS g) (q b : Nat) : coth g q b < mn g 0 := by
  unfold coth
  split
  · exact wS_hash hS _ _
  · exact wS_hash hS _ _
def cop (c : Nat → en) (g : mp) (b : Nat) : Bool := decide (cnt c (b * mn g 1) (mn g 1) < mn g 1)
theorem cE_lt {c : Nat → en} {g : mp} (hS : wS g) : ∀ b p x, cE c g b p = some x → x < mn g 0 := by
  intro b p x h
  unfold cE at h
  split at h
  · cases h
  · split at h
    · cases h
    · have h := Option.some.inj h
      rw [← h]
      exact coth_lt hS _ _
