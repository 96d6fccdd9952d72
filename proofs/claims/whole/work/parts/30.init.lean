/-! behind the two constructors -/
def in_L2 : tc_L := [(11, 0, [some 1, some 13, some 14, some 24, some 30, some 32, some 38, some 50, some 54, some 65]), (10, 0, [some 2, some 12, none, none, none]), (9, 0, [some 3, none, none, some 6, some 7, some 8, some 9, some 10, some 11, some 5, none, none, none, none, none, none, none]), (8, 0, [none, none, none, none, none, none, none, none, none, none, none, some 4]), (2, 0, [none]), (100, 32, []), (100, 69, []), (100, 69, []), (100, 69, []), (100, 69, []), (100, 69, []), (100, 69, []), (101, 400, []), (103, 3, [none, none, none]), (9, 0, [some 15, none, none, some 18, some 19, some 20, some 21, some 22, some 23, some 17, none, none, none, none, none, none, none]), (8, 0, [none, none, none, none, none, none, none, none, none, none, none, some 16]), (2, 0, [none]), (100, 32, []), (100, 69, []), (100, 69, []), (100, 69, []), (100, 69, []), (100, 69, []), (100, 69, []), (1, 0, [some 25, none, none, some 26, some 27, some 28, some 29, none]), (100, 32, []), (100, 32, []), (100, 32, []), (100, 32, []), (102, 32, []), (4, 0, [some 24, some 31]), (100, 16, []), (7, 0, [some 33, none, some 34, some 35, some 36, none, some 37]), (100, 68, []), (102, 68, []), (100, 68, []), (100, 68, []), (100, 32, []), (3, 0, [some 30, some 32, some 39, some 49]), (9, 0, [some 40, none, none, some 43, some 44, some 45, some 46, some 47, some 48, some 42, none, none, none, none, none, none, none]), (8, 0, [none, none, none, none, none, none, none, none, none, none, none, some 41]), (2, 0, [none]), (100, 32, []), (100, 69, []), (100, 69, []), (100, 69, []), (100, 69, []), (100, 69, []), (100, 69, []), (2, 0, [none]), (5, 0, [some 51, some 52, some 53]), (100, 32, []), (100, 32, []), (100, 32, []), (0, 0, [some 30, some 55]), (9, 0, [some 56, none, none, some 59, some 60, some 61, some 62, some 63, some 64, some 58, none, none, none, none, none, none, none]), (8, 0, [none, none, none, none, none, none, none, none, none, none, none, some 57]), (2, 0, [none]), (100, 32, []), (100, 149, []), (100, 149, []), (100, 149, []), (100, 149, []), (100, 149, []), (100, 149, []), (6, 0, [none, none, some 66, some 68, some 69, some 70, none, some 12, none, none, none, none, none, none]), (8, 0, [none, none, none, none, none, none, none, none, none, none, none, some 67]), (2, 0, [none]), (100, 58, []), (100, 58, []), (100, 58, [])]
def in_L4 : tc_L := [(11, 0, [some 1, some 13, some 14, some 24, some 30, some 32, some 38, some 50, some 54, some 65]), (10, 0, [some 2, some 12, none, none, none]), (9, 0, [some 3, none, none, some 6, some 7, some 8, some 9, some 10, some 11, some 5, none, none, none, none, none, none, none]), (8, 0, [none, none, none, none, none, none, none, none, none, none, none, some 4]), (2, 0, [none]), (100, 32, []), (100, 69, []), (100, 69, []), (100, 69, []), (100, 69, []), (100, 69, []), (100, 69, []), (101, 400, []), (103, 3, [none, none, none]), (9, 0, [some 15, none, none, some 18, some 19, some 20, some 21, some 22, some 23, some 17, none, none, none, none, none, none, none]), (8, 0, [none, none, none, none, none, none, none, none, none, none, none, some 16]), (2, 0, [none]), (100, 32, []), (100, 69, []), (100, 69, []), (100, 69, []), (100, 69, []), (100, 69, []), (100, 69, []), (1, 0, [some 25, none, none, some 26, some 27, some 28, some 29, none]), (100, 32, []), (100, 32, []), (100, 32, []), (100, 32, []), (102, 32, []), (4, 0, [some 24, some 31]), (100, 16, []), (7, 0, [some 33, none, some 34, some 35, some 36, none, some 37]), (100, 68, []), (102, 68, []), (100, 68, []), (100, 68, []), (100, 32, []), (3, 0, [some 30, some 32, some 39, some 49]), (9, 0, [some 40, none, none, some 43, some 44, some 45, some 46, some 47, some 48, some 42, none, none, none, none, none, none, none]), (8, 0, [none, none, none, none, none, none, none, none, none, none, none, some 41]), (2, 0, [none]), (100, 32, []), (100, 69, []), (100, 69, []), (100, 69, []), (100, 69, []), (100, 69, []), (100, 69, []), (2, 0, [none]), (5, 0, [some 51, some 52, some 53]), (100, 32, []), (100, 32, []), (100, 32, []), (0, 0, [some 30, some 55]), (9, 0, [some 56, none, none, some 59, some 60, some 61, some 62, some 63, some 64, some 58, none, none, none, none, none, none, none]), (8, 0, [none, none, none, none, none, none, none, none, none, none, none, some 57]), (2, 0, [none]), (100, 32, []), (100, 149, []), (100, 149, []), (100, 149, []), (100, 149, []), (100, 149, []), (100, 149, []), (6, 0, [none, none, some 66, some 68, some 69, some 70, none, some 12, none, none, none, none, none, none]), (8, 0, [none, none, none, none, none, none, none, none, none, none, none, some 67]), (2, 0, [none]), (100, 58, []), (100, 58, []), (100, 58, []), (12, 0, [some 72, some 73, some 74, none, none, none, some 75, some 76, some 77, some 78, some 79, some 80, none, none, some 81, some 82, some 83, none, some 84, some 85, some 86, some 87, none, none, none, none, none, none, none, none, some 88, some 89, some 90, some 91]), (100, 3253, []), (100, 400, []), (102, 3, []), (100, 16, []), (100, 16, []), (100, 16, []), (100, 4, []), (100, 4, []), (100, 288, []), (100, 72, []), (100, 72, []), (102, 72, []), (100, 72, []), (100, 32, []), (100, 32, []), (100, 4, []), (100, 12, []), (100, 60, []), (100, 60, []), (100, 60, [])]
def in_a : Option (tc_L × tc_S) := fn_X11_init [(11, 1, List.replicate 10 none)] 0 (tc_z lw_u0 0)
def in_u2 : tc_S := match in_a with
  | some q => q.2
  | none => lw_u0
def in_b : Option (tc_L × tc_S) := fn_X12_init (in_L2 ++ [(12, 1, List.replicate 34 none)]) 71 (tc_z in_u2 71)
def in_u4 : tc_S := match in_b with
  | some q => q.2
  | none => lw_u0
set_option maxRecDepth 1000000 in
theorem in_t1 : in_a.map (fun q => q.1) = some in_L2 := by decide +kernel
set_option maxRecDepth 1000000 in
theorem in_t2 : in_b.map (fun q => q.1) = some in_L4 := by decide +kernel
theorem in_a_eq : in_a = some (in_L2, in_u2) := by
  have h := in_t1
  unfold in_u2
  cases he : in_a with
  | none => rw [he] at h; cases h
  | some q =>
    rw [he] at h
    have h : q.1 = in_L2 := Option.some.inj h
    rw [← h]
theorem in_b_eq : in_b = some (in_L4, in_u4) := by
  have h := in_t2
  unfold in_u4
  cases he : in_b with
  | none => rw [he] at h; cases h
  | some q =>
    rw [he] at h
    have h : q.1 = in_L4 := Option.some.inj h
    rw [← h]
theorem in_wf : tc_wf in_L4 = true := by decide +kernel
/-- the plain statement, from the state behind the constructors -/
theorem lw_Pure_of (h : ∀ (xs : Nat → Int32) (len : Nat), len ≤ 3072 → lw_go 0 71 xs len 513 0 in_L4 in_u4) : lw_Pure := fun xs len hl => ⟨in_L2, in_u2, in_L4, in_u4, in_a_eq, in_b_eq, h xs len hl⟩
