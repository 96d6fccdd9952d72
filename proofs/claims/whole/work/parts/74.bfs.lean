/-! the search, plainly: buckets in a line, each with the chain by which it was reached -/
abbrev ch : Type := List (Nat × Nat)
def bin (E : Nat → Nat → Option Nat) (op : Nat → Bool) (b : Nat) (K : List Nat → (Nat → ch) → Option (ch × Nat)) : Nat → Nat → List Nat → (Nat → ch) → Option (ch × Nat)
  | 0, _, Q, pr => K Q pr
  | n + 1, p, Q, pr => match E b p with
    | none => bin E op b K n (p + 1) Q pr
    | some c => if c ∈ Q then bin E op b K n (p + 1) Q pr else if op c = true then some (((b, p) :: pr b).reverse, c) else bin E op b K n (p + 1) (Q ++ [c]) (fun x => if x = c then (b, p) :: pr b else pr x)
def bout (ns : Nat) (E : Nat → Nat → Option Nat) (op : Nat → Bool) : Nat → Nat → List Nat → (Nat → ch) → Option (ch × Nat)
  | 0, _, _, _ => none
  | n + 1, h, Q, pr => match Q[h]? with
    | none => none
    | some b => bin E op b (bout ns E op n (h + 1)) ns 0 Q pr
/-- a way of n steps from a bucket to one that is open -/
def gp (nb ns : Nat) (E : Nat → Nat → Option Nat) (sk : Nat → Prop) : Nat → Nat → Prop
  | 0, b => b < nb ∧ sk b
  | n + 1, b => b < nb ∧ ∃ p c, p < ns ∧ E b p = some c ∧ gp nb ns E sk n c
/-- the chain of n steps that goes by the least places -/
def grd (nb ns : Nat) (E : Nat → Nat → Option Nat) (sk : Nat → Prop) : Nat → Nat → ch → Nat → Prop
  | 0, b, l, e => l = [] ∧ e = b
  | n + 1, b, l, e => ∃ p c l2, l = (b, p) :: l2 ∧ p < ns ∧ E b p = some c ∧ gp nb ns E sk n c ∧ (∀ p2 c2, p2 < p → E b p2 = some c2 → ¬ gp nb ns E sk n c2) ∧ grd nb ns E sk n c l2 e
theorem grd_len {nb ns : Nat} {E : Nat → Nat → Option Nat} {sk : Nat → Prop} : ∀ {n b : Nat} {l : ch} {e : Nat}, grd nb ns E sk n b l e → l.length = n := by
  intro n
  induction n with
  | zero => intro b l e h; rw [h.1]; rfl
  | succ n ih =>
    intro b l e h
    obtain ⟨p, c, l2, h1, h2, h3, h4, h5, h6⟩ := h
    rw [h1, List.length_cons, ih h6]
/-- what holds of the search where there is a chain L, of m steps, that is wanted -/
def bI (nb ns : Nat) (E : Nat → Nat → Option Nat) (sk : Nat → Prop) (m : Nat) (L : ch) (e : Nat) (h p : Nat) (Q : List Nat) (pr : Nat → ch) : Prop := ∃ (bk pk pos : Nat) (rest : ch) (lev : Nat → Nat), L = (pr bk).reverse ++ (bk, pk) :: rest ∧ (pr bk).length < m ∧ grd nb ns E sk (m - (pr bk).length) bk ((bk, pk) :: rest) e ∧ Q[pos]? = some bk ∧ h ≤ pos ∧ (h = pos → p ≤ pk) ∧ (∀ j x, j ≤ pos → Q[j]? = some x → lev x ≤ (pr bk).length) ∧ (∀ j x, j < pos → Q[j]? = some x → lev x = (pr bk).length → ¬ gp nb ns E sk (m - (pr bk).length) x) ∧ (∀ c, c ∈ Q → lev c ≤ (pr bk).length + 1 ∧ (∀ n, gp nb ns E sk n c → m ≤ lev c + n) ∧ (lev c = (pr bk).length + 1 → ¬ gp nb ns E sk (m - (pr bk).length - 1) c))
def bQ (nb : Nat) (Q : List Nat) : Prop := Q.Nodup ∧ ∀ x, x ∈ Q → x < nb
theorem bQ_len {nb : Nat} {Q : List Nat} (h : bQ nb Q) : Q.length ≤ nb := by
  refine fb_holes nb Q.length (fun i => Q.getD i 0) (fun i hi => ?_) (fun i j hij hj e => ?_)
  · have : Q.getD i 0 = Q[i] := by simp [List.getD, hi]
    rw [this]
    exact h.2 _ (List.getElem_mem hi)
  · have hi : i < Q.length := by omega
    have e1 : Q.getD i 0 = Q[i] := by simp [List.getD, hi]
    have e2 : Q.getD j 0 = Q[j] := by simp [List.getD, hj]
    rw [e1, e2] at e
    have := (List.nodup_iff_pairwise_ne.mp h.1)
    rw [List.pairwise_iff_getElem] at this
    exact this i j hi hj hij e
theorem bQ_push {nb c : Nat} {Q : List Nat} (h : bQ nb Q) (hc : c ∉ Q) (hn : c < nb) : bQ nb (Q ++ [c]) := by
  refine ⟨?_, ?_⟩
  · rw [List.nodup_append]
    refine ⟨h.1, by simp, ?_⟩
    intro a ha b hb
    rw [List.mem_singleton] at hb
    rw [hb]
    intro e
    exact hc (by rw [← e]; exact ha)
  · intro x hx
    rcases List.mem_append.mp hx with q | q
    · exact h.2 x q
    · rw [List.mem_singleton] at q
      rw [q]; exact hn
theorem getq_l {Q : List Nat} {c j x : Nat} (h : (Q ++ [c])[j]? = some x) (hj : j < Q.length) : Q[j]? = some x := by
  rw [List.getElem?_append_left hj] at h
  exact h
/-- one place more: nothing new, or one that isn't the chain's -/
theorem bI_skip {nb ns : Nat} {E : Nat → Nat → Option Nat} {sk : Nat → Prop} {m : Nat} {L : ch} {e h p b : Nat} {Q : List Nat} {pr : Nat → ch} (hI : bI nb ns E sk m L e h p Q pr) (hb : Q[h]? = some b) (hn : ∀ c, E b p = some c → c ∈ Q) : bI nb ns E sk m L e h (p + 1) Q pr := by
  obtain ⟨bk, pk, pos, rest, lev, i1, i2, i3, i4, i5, i6, i7, i8, i9⟩ := hI
  refine ⟨bk, pk, pos, rest, lev, i1, i2, i3, i4, i5, fun q => ?_, i7, i8, i9⟩
  have hp := i6 q
  rcases Nat.lt_or_eq_of_le hp with w | w
  · omega
  · exfalso
    have ebk : b = bk := by
      rw [q, i4] at hb
      exact (Option.some.inj hb).symm
    obtain ⟨k, hk⟩ : ∃ k, m - (pr bk).length = k + 1 := ⟨m - (pr bk).length - 1, by omega⟩
    rw [hk] at i3
    obtain ⟨p2, c, l2, g1, g2, g3, g4, g5, g6⟩ := i3
    have e1 : p2 = pk := by
      have := (List.cons.inj g1).1
      exact (Prod.mk.inj this).2.symm
    rw [e1, ← w, ← ebk] at g3
    have hc := hn c g3
    obtain ⟨j1, j2, j3⟩ := i9 c hc
    have := j2 _ g4
    exact j3 (by omega) (by rw [show m - (pr bk).length - 1 = k by omega]; exact g4)
theorem bI_found {nb ns : Nat} {E : Nat → Nat → Option Nat} {sk : Nat → Prop} {op : Nat → Bool} {m : Nat} {L : ch} {e h p b c : Nat} {Q : List Nat} {pr : Nat → ch} (hsk : ∀ x, x ∉ Q → (op x = true ↔ sk x)) (hE : ∀ b p c, E b p = some c → c < nb) (hpn : p < ns) (hI : bI nb ns E sk m L e h p Q pr) (hQ : bQ nb Q) (hb : Q[h]? = some b) (hc : E b p = some c) (hcQ : c ∉ Q) : (op c = true → some (((b, p) :: pr b).reverse, c) = some (L, e)) ∧ (¬ op c = true → bI nb ns E sk m L e h (p + 1) (Q ++ [c]) (fun x => if x = c then (b, p) :: pr b else pr x)) := by
  obtain ⟨bk, pk, pos, rest, lev, i1, i2, i3, i4, i5, i6, i7, i8, i9⟩ := hI
  have hcn := hE _ _ _ hc
  have hbQ : b ∈ Q := List.mem_of_getElem? hb
  have hbn := hQ.2 b hbQ
  have hlb := i7 h b i5 hb
  have hpl : pos < Q.length := by
    rcases Nat.lt_or_ge pos Q.length with q | q
    · exact q
    · rw [List.getElem?_eq_none q] at i4; cases i4
  have hlt : h < Q.length := by omega
  have bkQ : bk ∈ Q := List.mem_of_getElem? i4
  have up : ∀ n, gp nb ns E sk n c → gp nb ns E sk (n + 1) b := fun n q => ⟨hbn, p, c, hpn, hc, q⟩
  have low : ∀ n, gp nb ns E sk n c → m ≤ lev b + 1 + n := fun n q => by
    have := (i9 b hbQ).2.1 _ (up n q)
    omega
  have hbc : b ≠ c := fun q => hcQ (by rw [← q]; exact hbQ)
  have hbkc : bk ≠ c := fun q => hcQ (by rw [← q]; exact bkQ)
  obtain ⟨k, hk⟩ : ∃ k, m - (pr bk).length = k + 1 := ⟨m - (pr bk).length - 1, by omega⟩
  have i3' := i3
  rw [hk] at i3'
  obtain ⟨p2, c2, l2, g1, g2, g3, g4, g5, g6⟩ := i3'
  have e1 : p2 = pk := (Prod.mk.inj (List.cons.inj g1).1).2.symm
  have e2 : l2 = rest := (List.cons.inj g1).2.symm
  subst e1
  subst e2
  have gbk : gp nb ns E sk (m - (pr bk).length) bk := by rw [hk]; exact ⟨hQ.2 _ bkQ, p2, c2, g2, g3, g4⟩
  have lbk : lev bk = (pr bk).length := by
    have q1 := i7 pos bk (Nat.le_refl _) i4
    have q2 := (i9 bk bkQ).2.1 _ gbk
    omega
  have memQ : ∀ (j x : Nat), Q[j]? = some x → x ∈ Q := fun j x hx => List.mem_of_getElem? hx
  have lev2 : ∀ x, x ∈ Q → (if x = c then lev b + 1 else lev x) = lev x := fun x hx => by
    rw [if_neg fun q => hcQ (by rw [← q]; exact hx)]
  by_cases cas : h = pos ∧ p = p2
  · have ebk : b = bk := by
      rw [cas.1, i4] at hb
      exact (Option.some.inj hb).symm
    have ec : c = c2 := by
      rw [ebk, cas.2, g3] at hc
      exact (Option.some.inj hc).symm
    subst ec
    subst ebk
    obtain ⟨hh, rfl⟩ := cas
    refine ⟨fun ho => ?_, fun ho => ?_⟩
    · have hs : gp nb ns E sk 0 c := ⟨hcn, (hsk c hcQ).mp ho⟩
      have := low 0 hs
      have k0 : k = 0 := by omega
      rw [k0] at g6
      obtain ⟨g7, g8⟩ := g6
      rw [i1, g7, g8, List.reverse_cons]
    · have k1 : k ≠ 0 := by
        intro q
        rw [q] at g4
        exact ho ((hsk c hcQ).mpr g4.2)
      obtain ⟨k2, hk2⟩ : ∃ k2, k = k2 + 1 := ⟨k - 1, by omega⟩
      have g6' := g6
      rw [hk2] at g6'
      obtain ⟨p3, c3, l3, r1, r2, r3, r4, r5, r6⟩ := g6'
      refine ⟨c, p3, Q.length, l3, fun x => if x = c then lev b + 1 else lev x, ?_, ?_, ?_, ?_, by omega, fun q => by omega, ?_, ?_, ?_⟩
      · show L = (if c = c then (b, p) :: pr b else pr c).reverse ++ (c, p3) :: l3
        rw [if_pos rfl, i1, r1, List.reverse_cons, List.append_assoc]
        rfl
      · show (if c = c then (b, p) :: pr b else pr c).length < m
        rw [if_pos rfl, List.length_cons]
        omega
      · show grd nb ns E sk (m - (if c = c then (b, p) :: pr b else pr c).length) c ((c, p3) :: l3) e
        rw [if_pos rfl, List.length_cons, show m - ((pr b).length + 1) = k by omega, ← r1]
        exact g6
      · rw [List.getElem?_append_right (Nat.le_refl _), Nat.sub_self]
        rfl
      · intro j x hj hx
        show (if x = c then lev b + 1 else lev x) ≤ (if c = c then (b, p) :: pr b else pr c).length
        rw [if_pos rfl, List.length_cons]
        split
        · omega
        · rename_i hxc
          have hx2 : x ∈ Q := by
            rcases List.mem_append.mp (List.mem_of_getElem? hx) with q | q
            · exact q
            · rw [List.mem_singleton] at q; exact absurd q hxc
          exact (i9 x hx2).1
      · intro j x hj hx
        show (if x = c then lev b + 1 else lev x) = (if c = c then (b, p) :: pr b else pr c).length → ¬ gp nb ns E sk (m - (if c = c then (b, p) :: pr b else pr c).length) x
        have hx2 : x ∈ Q := memQ j x (getq_l hx hj)
        rw [if_pos rfl, lev2 x hx2, List.length_cons]
        exact (i9 x hx2).2.2
      · intro x hx
        show (if x = c then lev b + 1 else lev x) ≤ (if c = c then (b, p) :: pr b else pr c).length + 1 ∧ (∀ n, gp nb ns E sk n x → m ≤ (if x = c then lev b + 1 else lev x) + n) ∧ ((if x = c then lev b + 1 else lev x) = (if c = c then (b, p) :: pr b else pr c).length + 1 → ¬ gp nb ns E sk (m - (if c = c then (b, p) :: pr b else pr c).length - 1) x)
        rw [if_pos rfl, List.length_cons]
        rcases List.mem_append.mp hx with q | q
        · rw [lev2 x q]
          have := i9 x q
          exact ⟨by omega, this.2.1, fun w => by omega⟩
        · rw [List.mem_singleton] at q
          subst q
          rw [if_pos rfl]
          exact ⟨by omega, low, fun w => by omega⟩
  · have nogood : lev b = (pr bk).length → ¬ gp nb ns E sk k c := by
      intro q1 q2
      by_cases q3 : h = pos
      · have ebk : b = bk := by
          rw [q3, i4] at hb
          exact (Option.some.inj hb).symm
        have := i6 q3
        refine g5 p c ?_ (by rw [← ebk]; exact hc) q2
        rcases Nat.lt_or_eq_of_le this with w | w
        · exact w
        · exact absurd ⟨q3, w⟩ cas
      · exact i8 h b (by omega) hb q1 (by rw [hk]; exact up k q2)
    refine ⟨fun ho => ?_, fun ho => ?_⟩
    · exfalso
      have hs : gp nb ns E sk 0 c := ⟨hcn, (hsk c hcQ).mp ho⟩
      have := low 0 hs
      have k0 : k = 0 := by omega
      exact nogood (by omega) (by rw [k0]; exact hs)
    · refine ⟨bk, p2, pos, l2, fun x => if x = c then lev b + 1 else lev x, ?_, ?_, ?_, ?_, i5, fun q => ?_, ?_, ?_, ?_⟩
      · show L = (if bk = c then (b, p) :: pr b else pr bk).reverse ++ (bk, p2) :: l2
        rw [if_neg hbkc]; exact i1
      · show (if bk = c then (b, p) :: pr b else pr bk).length < m
        rw [if_neg hbkc]; exact i2
      · show grd nb ns E sk (m - (if bk = c then (b, p) :: pr b else pr bk).length) bk ((bk, p2) :: l2) e
        rw [if_neg hbkc]; exact i3
      · rw [List.getElem?_append_left hpl]; exact i4
      · have := i6 q
        rcases Nat.lt_or_eq_of_le this with w | w
        · omega
        · exact absurd ⟨q, w⟩ cas
      · intro j x hj hx
        show (if x = c then lev b + 1 else lev x) ≤ (if bk = c then (b, p) :: pr b else pr bk).length
        rw [if_neg hbkc]
        have hx1 := getq_l hx (by omega)
        rw [lev2 x (memQ j x hx1)]
        exact i7 j x hj hx1
      · intro j x hj hx
        show (if x = c then lev b + 1 else lev x) = (if bk = c then (b, p) :: pr b else pr bk).length → ¬ gp nb ns E sk (m - (if bk = c then (b, p) :: pr b else pr bk).length) x
        rw [if_neg hbkc]
        have hx1 := getq_l hx (by omega)
        rw [lev2 x (memQ j x hx1)]
        exact i8 j x hj hx1
      · intro x hx
        show (if x = c then lev b + 1 else lev x) ≤ (if bk = c then (b, p) :: pr b else pr bk).length + 1 ∧ (∀ n, gp nb ns E sk n x → m ≤ (if x = c then lev b + 1 else lev x) + n) ∧ ((if x = c then lev b + 1 else lev x) = (if bk = c then (b, p) :: pr b else pr bk).length + 1 → ¬ gp nb ns E sk (m - (if bk = c then (b, p) :: pr b else pr bk).length - 1) x)
        rw [if_neg hbkc]
        rcases List.mem_append.mp hx with q | q
        · rw [lev2 x q]
          exact i9 x q
        · rw [List.mem_singleton] at q
          subst q
          rw [if_pos rfl]
          refine ⟨by omega, low, fun w => ?_⟩
          rw [show m - (pr bk).length - 1 = k by omega]
          exact nogood (by omega)
