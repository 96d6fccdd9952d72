theorem ls_i0 : Cond.instantiable RX0 2 ∈ lw_tbl := (List.mem_of_getElem? (i := 521) (by decide +kernel))
theorem ls_i1 : Cond.instantiable RX1 8 ∈ lw_tbl := (List.mem_of_getElem? (i := 390) (by decide +kernel))
theorem ls_i2 : Cond.instantiable RX2 1 ∈ lw_tbl := (List.mem_of_getElem? (i := 145) (by decide +kernel))
theorem ls_i3 : Cond.instantiable RX3 4 ∈ lw_tbl := (List.mem_of_getElem? (i := 479) (by decide +kernel))
theorem ls_i4 : Cond.instantiable RX4 2 ∈ lw_tbl := (List.mem_of_getElem? (i := 427) (by decide +kernel))
theorem ls_i5 : Cond.instantiable RX5 3 ∈ lw_tbl := (List.mem_of_getElem? (i := 502) (by decide +kernel))
theorem ls_i6 : Cond.instantiable RX6 14 ∈ lw_tbl := (List.mem_of_getElem? (i := 536) (by decide +kernel))
theorem ls_i7 : Cond.instantiable RX7 7 ∈ lw_tbl := (List.mem_of_getElem? (i := 440) (by decide +kernel))
theorem ls_i8 : Cond.instantiable RX8 12 ∈ lw_tbl := (List.mem_of_getElem? (i := 139) (by decide +kernel))
theorem ls_i9 : Cond.instantiable RX9 17 ∈ lw_tbl := (List.mem_of_getElem? (i := 133) (by decide +kernel))
theorem ls_i10 : Cond.instantiable RX10 5 ∈ lw_tbl := (List.mem_of_getElem? (i := 127) (by decide +kernel))
theorem ls_i11 : Cond.instantiable RX11 10 ∈ lw_tbl := (List.mem_of_getElem? (i := 119) (by decide +kernel))
theorem ls_i12 : Cond.instantiable RX12 34 ∈ lw_tbl := (List.mem_of_getElem? (i := 1192) (by decide +kernel))
theorem ls_classes {s : State} {A : Array Value} (hts : ∀ w ∈ lw_tbl, w.before A s = true) : ∃ (dC : Nat → ClassId) (dI : Nat → Nat → Nat), ∀ (k : Nat) (q : vw_C), vwCl[k]? = some q → u_Kn s q.1 q.2.1 q.2.2 (dC k) (dI k) := by
  obtain ⟨c0, iS0, hKn0⟩ := u_known (C := RX0) (T := TX0) (N := 2) (n := 2) hts inX0 (hts _ ls_i0)
  obtain ⟨c1, iS1, hKn1⟩ := u_known (C := RX1) (T := TX1) (N := 8) (n := 8) hts inX1 (hts _ ls_i1)
  obtain ⟨c2, iS2, hKn2⟩ := u_known (C := RX2) (T := TX2) (N := 1) (n := 1) hts inX2 (hts _ ls_i2)
  obtain ⟨c3, iS3, hKn3⟩ := u_known (C := RX3) (T := TX3) (N := 4) (n := 4) hts inX3 (hts _ ls_i3)
  obtain ⟨c4, iS4, hKn4⟩ := u_known (C := RX4) (T := TX4) (N := 2) (n := 2) hts inX4 (hts _ ls_i4)
  obtain ⟨c5, iS5, hKn5⟩ := u_known (C := RX5) (T := TX5) (N := 3) (n := 3) hts inX5 (hts _ ls_i5)
  obtain ⟨c6, iS6, hKn6⟩ := u_known (C := RX6) (T := TX6) (N := 14) (n := 14) hts inX6 (hts _ ls_i6)
  obtain ⟨c7, iS7, hKn7⟩ := u_known (C := RX7) (T := TX7) (N := 7) (n := 7) hts inX7 (hts _ ls_i7)
  obtain ⟨c8, iS8, hKn8⟩ := u_known (C := RX8) (T := TX8) (N := 12) (n := 12) hts inX8 (hts _ ls_i8)
  obtain ⟨c9, iS9, hKn9⟩ := u_known (C := RX9) (T := TX9) (N := 17) (n := 17) hts inX9 (hts _ ls_i9)
  obtain ⟨c10, iS10, hKn10⟩ := u_known (C := RX10) (T := TX10) (N := 5) (n := 5) hts inX10 (hts _ ls_i10)
  obtain ⟨c11, iS11, hKn11⟩ := u_known (C := RX11) (T := TX11) (N := 10) (n := 10) hts inX11 (hts _ ls_i11)
  obtain ⟨c12, iS12, hKn12⟩ := u_known (C := RX12) (T := TX12) (N := 34) (n := 34) hts inX12 (hts _ ls_i12)
  refine ⟨fun k => if k = 0 then c0 else if k = 1 then c1 else if k = 2 then c2 else if k = 3 then c3 else if k = 4 then c4 else if k = 5 then c5 else if k = 6 then c6 else if k = 7 then c7 else if k = 8 then c8 else if k = 9 then c9 else if k = 10 then c10 else if k = 11 then c11 else c12, fun k => if k = 0 then iS0 else if k = 1 then iS1 else if k = 2 then iS2 else if k = 3 then iS3 else if k = 4 then iS4 else if k = 5 then iS5 else if k = 6 then iS6 else if k = 7 then iS7 else if k = 8 then iS8 else if k = 9 then iS9 else if k = 10 then iS10 else if k = 11 then iS11 else iS12, ?_⟩
  intro k q hq
  match k, hq with
  | 0, hq => cases hq; exact hKn0
  | 1, hq => cases hq; exact hKn1
  | 2, hq => cases hq; exact hKn2
  | 3, hq => cases hq; exact hKn3
  | 4, hq => cases hq; exact hKn4
  | 5, hq => cases hq; exact hKn5
  | 6, hq => cases hq; exact hKn6
  | 7, hq => cases hq; exact hKn7
  | 8, hq => cases hq; exact hKn8
  | 9, hq => cases hq; exact hKn9
  | 10, hq => cases hq; exact hKn10
  | 11, hq => cases hq; exact hKn11
  | 12, hq => cases hq; exact hKn12
  | k + 13, hq => simp [vwCl] at hq
theorem ls_a_int {s : State} {A : Array Value} (hts : ∀ w ∈ lw_tbl, w.before A s = true) : ∃ cA : ClassId, ArrOfT s cA .int ∧ va_RA s cA .int := by
  obtain ⟨cA, kA, comp, h1, h2, h3⟩ := Cond.arrayClass_spec (hts (.arrayClass .int) (List.mem_of_getElem? (i := 363) (by decide +kernel)))
  exact ⟨cA, fun n z => ⟨fun k h => (by cases h), kA, h2, comp, h3⟩, h1⟩
theorem ls_a_byte {s : State} {A : Array Value} (hts : ∀ w ∈ lw_tbl, w.before A s = true) : ∃ cA : ClassId, ArrOfT s cA .byte ∧ va_RA s cA .byte := by
  obtain ⟨cA, kA, comp, h1, h2, h3⟩ := Cond.arrayClass_spec (hts (.arrayClass .byte) (List.mem_of_getElem? (i := 385) (by decide +kernel)))
  exact ⟨cA, fun n z => ⟨fun k h => (by cases h), kA, h2, comp, h3⟩, h1⟩
theorem ls_a_boolean {s : State} {A : Array Value} (hts : ∀ w ∈ lw_tbl, w.before A s = true) : ∃ cA : ClassId, ArrOfT s cA .boolean ∧ va_RA s cA .boolean := by
  obtain ⟨cA, kA, comp, h1, h2, h3⟩ := Cond.arrayClass_spec (hts (.arrayClass .boolean) (List.mem_of_getElem? (i := 425) (by decide +kernel)))
  exact ⟨cA, fun n z => ⟨fun k h => (by cases h), kA, h2, comp, h3⟩, h1⟩
theorem ls_ao {s : State} {A : Array Value} (hts : ∀ w ∈ lw_tbl, w.before A s = true) : va_AO RX10 s := va_AO.of (hts (.arrayOver (.object RX10)) (List.mem_of_getElem? (i := 386) (by decide +kernel)))
theorem ls_aw {s : State} {A : Array Value} (hts : ∀ w ∈ lw_tbl, w.before A s = true) : ∃ cA : ClassId, ArrOfT s cA (.object RX10) ∧ va_RA s cA (.object RX10) := by
  obtain ⟨comp, cA, kA, h1, h2, h3, h4, h5⟩ := Cond.arrayOver_spec (ls_ao hts)
  exact ⟨cA, fun n z => ⟨fun k h => (by cases h), kA, h3, comp, h4⟩, kA, comp, h3, h4, h1, h5⟩
theorem ls_nest {s : State} {A : Array Value} (hts : ∀ w ∈ lw_tbl, w.before A s = true) : ∀ q ∈ tc_N, va_Nw (.methodLinkNest q.1 q.2.1 q.2.2 "TwoChoices") s := by
  intro q hq
  unfold tc_N at hq
  simp only [List.mem_cons, List.not_mem_nil, or_false] at hq
  rcases hq with rfl | rfl | rfl | rfl | rfl | rfl
  · exact va_Nw.of rfl (hts (.methodLinkNest "TwoChoices" 11 ⟨"TwoChoices$World", "<init>", "()V"⟩ "TwoChoices") (List.mem_of_getElem? (i := 128) (by decide +kernel)))
  · exact va_Nw.of rfl (hts (.methodLinkNest "TwoChoices$Settings" 11 ⟨"TwoChoices$Draws", "<init>", "()V"⟩ "TwoChoices") (List.mem_of_getElem? (i := 146) (by decide +kernel)))
  · exact va_Nw.of rfl (hts (.methodLinkNest "TwoChoices" 31 ⟨"TwoChoices$Chain", "<init>", "()V"⟩ "TwoChoices") (List.mem_of_getElem? (i := 391) (by decide +kernel)))
  · exact va_Nw.of rfl (hts (.methodLinkNest "TwoChoices" 47 ⟨"TwoChoices$Roster", "<init>", "()V"⟩ "TwoChoices") (List.mem_of_getElem? (i := 441) (by decide +kernel)))
  · exact va_Nw.of rfl (hts (.methodLinkNest "TwoChoices$Keeper" 22 ⟨"TwoChoices$Draws", "<init>", "()V"⟩ "TwoChoices") (List.mem_of_getElem? (i := 487) (by decide +kernel)))
  · exact va_Nw.of rfl (hts (.methodLinkNest "TwoChoices" 63 ⟨"TwoChoices$Parts", "<init>", "()V"⟩ "TwoChoices") (List.mem_of_getElem? (i := 503) (by decide +kernel)))
def ls_tm (w : Nat) : Term := .string RX6 (tc_ti.getD w 0)
def ls_F : List Cond := flatC (Jvm.Cond.and given_1 narrow_1)
theorem ls_m1 : ∀ i, i < 3 → Cond.exactly (ls_tm i) "java/lang/String" ∈ ls_F := by decide +kernel
theorem ls_m2 : ∀ i, i < 3 → Cond.eq (.field (ls_tm i) "java/lang/String" "coder" "B") (.int 0) ∈ ls_F := by decide +kernel
theorem ls_m3 : ∀ i, i < 3 → Cond.arrayOf (.field (ls_tm i) "java/lang/String" "value" "[B") .byte ∈ ls_F := by decide +kernel
theorem ls_m4 : ∀ i, i < 3 → Cond.eq (.length (.field (ls_tm i) "java/lang/String" "value" "[B")) (.int (Int32.ofNat (tc_tl.getD i 0))) ∈ ls_F := by decide +kernel
theorem ls_m5 : ∀ i, i < 3 → ∀ j, j < tc_tl.getD i 0 → Cond.eq (.elem (.field (ls_tm i) "java/lang/String" "value" "[B") (.int (Int32.ofNat j))) (.int ((tc_by.getD i []).getD j 0)) ∈ ls_F := by decide +kernel
theorem ls_m6 : ∀ i, i < 3 → ∀ j, j < 3 → i ≠ j → Cond.not (Cond.eq (ls_tm i) (ls_tm j)) ∈ ls_F ∨ Cond.not (Cond.eq (ls_tm j) (ls_tm i)) ∈ ls_F := by decide +kernel
theorem ls_m7 : Cond.eq (.static "java/lang/String" "COMPACT_STRINGS" "Z") (.int 1) ∈ ls_F := by decide +kernel
theorem ls_m8 : Cond.isRef (.static "jdk/internal/util/Preconditions" "SIOOBE_FORMATTER" "Ljava/util/function/BiFunction;") ∈ ls_F := by decide +kernel
def ls_nmS (w : Nat) : String := if w = 0 then "LEAST" else "MOST"
theorem ls_m9 : ∀ w, w < 2 → Cond.arrayOf (.static RX6 (ls_nmS w) "[I") .int ∈ ls_F := by decide +kernel
theorem ls_ma : ∀ w, w < 2 → Cond.eq (.length (.static RX6 (ls_nmS w) "[I")) (.int (Int32.ofNat 6)) ∈ ls_F := by decide +kernel
theorem ls_mb : ∀ w, w < 2 → ∀ j, j < 6 → Cond.eq (.elem (.static RX6 (ls_nmS w) "[I") (.int (Int32.ofNat j))) (.int ((tc_lm w).getD j 0)) ∈ ls_F := by decide +kernel
theorem ls_l1 : ∀ w, w < 2 → Cond.laysStatic RX6 (ls_nmS w) "[I" ∈ lw_tbl := by decide +kernel
theorem ls_l2 : Cond.laysStatic "java/lang/String" "COMPACT_STRINGS" "Z" ∈ lw_tbl := by decide +kernel
theorem ls_l3 : Cond.laysStatic "jdk/internal/util/Preconditions" "SIOOBE_FORMATTER" "Ljava/util/function/BiFunction;" ∈ lw_tbl := by decide +kernel
theorem ls_l4 : Cond.initialized RX6 ∈ lw_tbl ∧ Cond.initialized "java/lang/String" ∈ lw_tbl ∧ Cond.initialized "jdk/internal/util/Preconditions" ∈ lw_tbl := by decide +kernel
theorem ls_l5 : ∀ w, w < 3 → Cond.stringRef RX6 (tc_ti.getD w 0) (tc_tx.getD w "") ∈ lw_tbl := by decide +kernel
theorem ls_ev {own : String} {k a : Nat} {A B : Array Value} {s : State} (h : (Term.string own k).eval A s none [] s = some (.ref a)) : (Term.string own k).eval B s none [] s = some (.ref a) := h
/-- the numbers of classes, the addresses: there are such -/
theorem ls_D {s : State} {A : Array Value} (hts : ∀ w ∈ lw_tbl, w.before A s = true) (hgv : (Jvm.Cond.and given_1 narrow_1).before A s = true) : ∃ D : tc_D, tc_K D s ∧ tc_X s.heap.size D s := by
  have hf : ∀ w ∈ ls_F, w.before A s = true := flat_of_before _ hgv
  have hA : ∀ a : Nat, a < s.heap.size → ¬ (fun q => s.heap.size ≤ q) a := fun a h => Nat.not_le.mpr h
  obtain ⟨dC, dI, hc⟩ := ls_classes hts
  obtain ⟨ai, hai⟩ := ls_a_int hts
  obtain ⟨ab, hab⟩ := ls_a_byte hts
  obtain ⟨az, haz⟩ := ls_a_boolean hts
  obtain ⟨aw, haw⟩ := ls_aw hts
  obtain ⟨adK, adV, hS, hE⟩ := vk_Sof (args := A) (s := s) (N := 3) (tm := ls_tm) (len := tc_tl) (byt := tc_by) (A := fun q => s.heap.size ≤ q) (by intro i hi; rcases (show i = 0 ∨ i = 1 ∨ i = 2 by omega) with rfl | rfl | rfl <;> decide) (fun i hi => hf _ (ls_m1 i hi)) (fun i hi => hf _ (ls_m2 i hi)) (fun i hi => hf _ (ls_m3 i hi)) (fun i hi => hf _ (ls_m4 i hi)) (fun i hi j hj => hf _ (ls_m5 i hi j hj)) (fun i j hi hj hn => (ls_m6 i hi j hj hn).imp (hf _) (hf _)) hA
  have hst : ∀ w, w < 2 → ∃ t : Nat, va_Z RX6 (ls_nmS w) "[I" (.ref t) (fun q => s.heap.size ≤ q) s s.heap ∧ va_T .int t 6 (fun j => .int ((tc_lm w).getD j 0)) (fun q => s.heap.size ≤ q) s s.heap := by
    intro w hw
    obtain ⟨t, ht, hT⟩ := va_Tof (f := fun j => .int ((tc_lm w).getD j 0)) (A := fun q => s.heap.size ≤ q) (by decide) (hf _ (ls_m9 w hw)) (va_eqt (hf _ (ls_ma w hw))) (fun j hj => va_eqt (hf _ (ls_mb w hw j hj))) hA
    exact ⟨t, va_Zref (hts _ (ls_l1 w hw)) (hts _ ls_l4.1) ht hA, hT⟩
  obtain ⟨t0, hz0, hT0⟩ := hst 0 (by decide)
  obtain ⟨t1, hz1, hT1⟩ := hst 1 (by decide)
  refine ⟨((dC, dI), fun k => if k = 100 then ai else if k = 101 then ab else if k = 102 then az else if k = 103 then aw else if k = 220 then t0 else if k = 221 then t1 else if k < 210 then adK (k - 200) else adV (k - 210)), ⟨hc, ?_⟩, ?_, ?_, ?_, ?_, ⟨hz0, hT0⟩, ⟨hz1, hT1⟩, ls_nest hts, ls_ao hts⟩
  · intro k q hq
    match k, hq with
    | 0, hq => cases hq; exact hai
    | 1, hq => cases hq; exact hab
    | 2, hq => cases hq; exact haz
    | 3, hq => cases hq; exact haw
    | k + 4, hq => simp at hq
  · intro w hw
    rcases (show w = 0 ∨ w = 1 ∨ w = 2 by omega) with rfl | rfl | rfl
    · exact vk_R.of (A := A) (hts _ (ls_l5 0 (by decide))) (hE 0 (by decide))
    · exact vk_R.of (A := A) (hts _ (ls_l5 1 (by decide))) (hE 1 (by decide))
    · exact vk_R.of (A := A) (hts _ (ls_l5 2 (by decide))) (hE 2 (by decide))
  · refine ⟨fun i hi => ?_, fun i j hi hj h => ?_⟩
    · rcases (show i = 0 ∨ i = 1 ∨ i = 2 by omega) with rfl | rfl | rfl
      · exact hS.1 0 (by decide)
      · exact hS.1 1 (by decide)
      · exact hS.1 2 (by decide)
    · refine hS.2 i j hi hj ?_
      rcases (show i = 0 ∨ i = 1 ∨ i = 2 by omega) with rfl | rfl | rfl <;> rcases (show j = 0 ∨ j = 1 ∨ j = 2 by omega) with rfl | rfl | rfl <;> exact h
  · exact va_Zof (hts _ ls_l2) (hts _ ls_l4.2.1) (va_eqi (hf _ ls_m7)) hA
  · exact va_Zqof (hts _ ls_l3) (hts _ ls_l4.2.2) (hf _ ls_m8) hA
