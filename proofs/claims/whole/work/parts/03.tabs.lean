def tc_ty : Nat → Nat → FieldType := fun ci => match ci with
  | 0 => tyX0
  | 1 => tyX1
  | 2 => tyX2
  | 3 => tyX3
  | 4 => tyX4
  | 5 => tyX5
  | 6 => tyX6
  | 7 => tyX7
  | 8 => tyX8
  | 9 => tyX9
  | 10 => tyX10
  | 11 => tyX11
  | _ => tyX12
/-- what a field that is a reference refers to: a class by its number, or 100 and on: rows of int, byte, boolean, World; 999: no reference -/
def tc_pk : Nat → Nat → Nat := fun ci k => match ci, k with
  | 0, 0 => 4
  | 0, 1 => 9
  | 1, 0 => 100
  | 1, 3 => 100
  | 1, 4 => 100
  | 1, 5 => 100
  | 1, 6 => 102
  | 3, 0 => 4
  | 3, 1 => 7
  | 3, 2 => 9
  | 3, 3 => 2
  | 4, 0 => 1
  | 4, 1 => 100
  | 5, 0 => 100
  | 5, 1 => 100
  | 5, 2 => 100
  | 6, 2 => 8
  | 6, 3 => 100
  | 6, 4 => 100
  | 6, 5 => 100
  | 6, 7 => 101
  | 7, 0 => 100
  | 7, 2 => 102
  | 7, 3 => 100
  | 7, 4 => 100
  | 7, 6 => 100
  | 8, 11 => 2
  | 9, 0 => 8
  | 9, 3 => 100
  | 9, 4 => 100
  | 9, 5 => 100
  | 9, 6 => 100
  | 9, 7 => 100
  | 9, 8 => 100
  | 9, 9 => 100
  | 10, 0 => 9
  | 10, 1 => 101
  | 11, 0 => 10
  | 11, 1 => 103
  | 11, 2 => 9
  | 11, 3 => 1
  | 11, 4 => 4
  | 11, 5 => 7
  | 11, 6 => 3
  | 11, 7 => 5
  | 11, 8 => 0
  | 11, 9 => 6
  | 12, 0 => 100
  | 12, 1 => 100
  | 12, 2 => 102
  | 12, 6 => 100
  | 12, 7 => 100
  | 12, 8 => 100
  | 12, 9 => 100
  | 12, 10 => 100
  | 12, 11 => 100
  | 12, 14 => 100
  | 12, 15 => 100
  | 12, 16 => 102
  | 12, 18 => 100
  | 12, 19 => 100
  | 12, 20 => 100
  | 12, 21 => 100
  | 12, 30 => 100
  | 12, 31 => 100
  | 12, 32 => 100
  | 12, 33 => 100
  | _, _ => 999
def tc_T : List Cond := lw_tbl.filter goodWord
theorem tc_mem {w : Cond} (h : w ∈ lw_tbl) (g : goodWord w = true) : w ∈ tc_T := List.mem_filter.mpr ⟨h, g⟩
theorem tc_in0 : ∀ w ∈ wsX00, w ∈ tc_T := fun w h => tc_mem (inX0 w h) ((by decide +kernel : ∀ w ∈ wsX00, goodWord w = true) w h)
theorem tc_in1 : ∀ w ∈ wsX10, w ∈ tc_T := fun w h => tc_mem (inX1 w h) ((by decide +kernel : ∀ w ∈ wsX10, goodWord w = true) w h)
theorem tc_in2 : ∀ w ∈ wsX20, w ∈ tc_T := fun w h => tc_mem (inX2 w h) ((by decide +kernel : ∀ w ∈ wsX20, goodWord w = true) w h)
theorem tc_in3 : ∀ w ∈ wsX30, w ∈ tc_T := fun w h => tc_mem (inX3 w h) ((by decide +kernel : ∀ w ∈ wsX30, goodWord w = true) w h)
theorem tc_in4 : ∀ w ∈ wsX40, w ∈ tc_T := fun w h => tc_mem (inX4 w h) ((by decide +kernel : ∀ w ∈ wsX40, goodWord w = true) w h)
theorem tc_in5 : ∀ w ∈ wsX50, w ∈ tc_T := fun w h => tc_mem (inX5 w h) ((by decide +kernel : ∀ w ∈ wsX50, goodWord w = true) w h)
theorem tc_in6 : ∀ w ∈ wsX60, w ∈ tc_T := fun w h => tc_mem (inX6 w h) ((by decide +kernel : ∀ w ∈ wsX60, goodWord w = true) w h)
theorem tc_in7 : ∀ w ∈ wsX70, w ∈ tc_T := fun w h => tc_mem (inX7 w h) ((by decide +kernel : ∀ w ∈ wsX70, goodWord w = true) w h)
theorem tc_in8 : ∀ w ∈ wsX80, w ∈ tc_T := fun w h => tc_mem (inX8 w h) ((by decide +kernel : ∀ w ∈ wsX80, goodWord w = true) w h)
theorem tc_in9 : ∀ w ∈ wsX90, w ∈ tc_T := fun w h => tc_mem (inX9 w h) ((by decide +kernel : ∀ w ∈ wsX90, goodWord w = true) w h)
theorem tc_in10 : ∀ w ∈ wsX100, w ∈ tc_T := fun w h => tc_mem (inX10 w h) ((by decide +kernel : ∀ w ∈ wsX100, goodWord w = true) w h)
theorem tc_in11 : ∀ w ∈ wsX110, w ∈ tc_T := fun w h => tc_mem (inX11 w h) ((by decide +kernel : ∀ w ∈ wsX110, goodWord w = true) w h)
theorem tc_in12 : ∀ w ∈ wsX120, w ∈ tc_T := fun w h => tc_mem (inX12 w h) ((by decide +kernel : ∀ w ∈ wsX120, goodWord w = true) w h)
theorem tc_cls {ci : Nat} {r : vw_C} (h : vwCl[ci]? = some r) : (∀ w ∈ u_ws r.1 r.2.1 r.2.2, w ∈ tc_T) ∧ (∀ k, k < r.2.2 → parseFieldDescriptor (r.2.1 k).2.2.1 = some (tc_ty ci k)) ∧ (∀ a, a < r.2.2 → ∀ b, b < r.2.2 → a ≠ b → (r.2.1 a).2.1 ≠ (r.2.1 b).2.1) := by
  match ci, h with
  | 0, h => cases h; exact ⟨tc_in0, tyX0_ok, nmX0⟩
  | 1, h => cases h; exact ⟨tc_in1, tyX1_ok, nmX1⟩
  | 2, h => cases h; exact ⟨tc_in2, tyX2_ok, nmX2⟩
  | 3, h => cases h; exact ⟨tc_in3, tyX3_ok, nmX3⟩
  | 4, h => cases h; exact ⟨tc_in4, tyX4_ok, nmX4⟩
  | 5, h => cases h; exact ⟨tc_in5, tyX5_ok, nmX5⟩
  | 6, h => cases h; exact ⟨tc_in6, tyX6_ok, nmX6⟩
  | 7, h => cases h; exact ⟨tc_in7, tyX7_ok, nmX7⟩
  | 8, h => cases h; exact ⟨tc_in8, tyX8_ok, nmX8⟩
  | 9, h => cases h; exact ⟨tc_in9, tyX9_ok, nmX9⟩
  | 10, h => cases h; exact ⟨tc_in10, tyX10_ok, nmX10⟩
  | 11, h => cases h; exact ⟨tc_in11, tyX11_ok, nmX11⟩
  | 12, h => cases h; exact ⟨tc_in12, tyX12_ok, nmX12⟩
  | q + 13, h => simp [vwCl] at h
/-- a method's words: its code, its class, how many it takes -/
def tc_MW (y : MethodName) (b : ByteArray) (maxL : Nat) (r : Option FieldType) (n : Nat) : Prop := Cond.code y b maxL r ∈ tc_T ∧ Cond.initialized y.cls ∈ tc_T ∧ (y.cls ≠ "java/lang/invoke/MethodHandle" ∧ y.cls ≠ "java/lang/invoke/VarHandle" ∧ (parseMethodDescriptor y.desc).map (fun d => d.parameters.length) = some n)
def tc_MV (y : MethodName) (ci : Nat) : Prop := Cond.instanceMethod y ∈ tc_T ∧ ∃ r : vw_C, vwCl[ci]? = some r ∧ Cond.selects r.1 y y ∈ tc_T
/-- which field (the k-th of the class ci) a constant of the class own names -/
def tc_FL (own : String) (idx ci k : Nat) : Prop := ∃ r : vw_C, vwCl[ci]? = some r ∧ k < r.2.2 ∧ Cond.fieldLink own idx (r.2.1 k).1 (r.2.1 k).2.1 (r.2.1 k).2.2.1 ∈ tc_T
