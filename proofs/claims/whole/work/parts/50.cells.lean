/-! THE MAP BY CELLS: cell i is the four numbers from 20 + 4 i on: 4 b + p is the place p of bucket b, 64 + j the stash's place j, 68 the hand (beyond the reference's row) -/
abbrev en : Type := Int32 × Int32 × Int32 × Int32
def e0 : en := (0, 0, 0, 0)
def gc (g : mp) (i : Nat) : en := (g (20 + 4 * i), g (21 + 4 * i), g (22 + 4 * i), g (23 + 4 * i))
def cs (g : mp) (i : Nat) (e : en) : mp := fun k => if k = 20 + 4 * i then e.1 else if k = 21 + 4 * i then e.2.1 else if k = 22 + 4 * i then e.2.2.1 else if k = 23 + 4 * i then e.2.2.2 else g k
theorem cs_0 {g : mp} {i : Nat} {e : en} : cs g i e (20 + 4 * i) = e.1 := by grind [cs]
theorem gc_cs (g : mp) (i : Nat) (e : en) (j : Nat) : gc (cs g i e) j = if j = i then e else gc g j := by
  by_cases h : j = i
  · subst h
    rw [if_pos rfl]
    unfold gc cs
    grind
  · rw [if_neg h]
    unfold gc cs
    grind
theorem gc_cs_eq {g : mp} {i : Nat} {e : en} : gc (cs g i e) i = e := by rw [gc_cs, if_pos rfl]
theorem gc_cs_ne {g : mp} {i j : Nat} {e : en} (h : j ≠ i) : gc (cs g i e) j = gc g j := by rw [gc_cs, if_neg h]
theorem cs_lo {g : mp} {i k : Nat} {e : en} (h : k < 20) : cs g i e k = g k := by grind [cs]
theorem mn_cs {g : mp} {i k : Nat} {e : en} (h : k < 20) : mn (cs g i e) k = mn g k := by
  unfold mn
  rw [cs_lo h]
theorem mlay_cs {g : mp} {i : Nat} {k v b m : Int32} : mlay g (20 + 4 * i) k v b m = cs g i (k + 1, v, b, m) := by
  funext j
  unfold mlay cs upd
  grind
def bump (e : en) : en := (e.1, e.2.1, e.2.2.1, e.2.2.2 + 1)
def mv (g : mp) (i j : Nat) : mp := cs (cs g j (gc g i)) i e0
def mvb (g : mp) (i j : Nat) : mp := cs (cs g j (bump (gc g i))) i e0
theorem mmove_cs {g : mp} {i j : Nat} (h : i ≠ j) : mmove g (20 + 4 * i) (20 + 4 * j) = mvb g i j := by
  funext k
  unfold mmove mmv4 mmv mvb cs upd bump gc e0
  by_cases h1 : 20 + 4 * i ≤ k ∧ k < 24 + 4 * i
  · rcases (show k = 20 + 4 * i ∨ k = 21 + 4 * i ∨ k = 22 + 4 * i ∨ k = 23 + 4 * i by omega) with rfl | rfl | rfl | rfl <;> grind (splits := 40)
  · by_cases h2 : 20 + 4 * j ≤ k ∧ k < 24 + 4 * j
    · rcases (show k = 20 + 4 * j ∨ k = 21 + 4 * j ∨ k = 22 + 4 * j ∨ k = 23 + 4 * j by omega) with rfl | rfl | rfl | rfl <;> grind (splits := 40)
    · grind (splits := 40)
