/-! The machine's heap as numbers: objects are numbered as they are made (the i-th lies at z + i); u holds their ints and longs, G their kinds, lengths, references. -/
abbrev tc_S : Type := (Nat → Nat → Int32) × (Nat → Nat → Int64)
abbrev tc_G : Type := Nat × (Nat → Nat) × (Nat → Nat) × (Nat → Nat → Option Nat)
abbrev tc_D : Type := va_G × (Nat → ClassId)
def tc_val (z : Nat) (ty : FieldType) (x : Int32) (y : Int64) (q : Option Nat) : Value := match ty with
  | .long => .long y
  | .object _ => va_rf (q.map (fun j => z + j))
  | .array _ => va_rf (q.map (fun j => z + j))
  | _ => .int x
def tc_cell (z : Nat) (D : tc_D) (G : tc_G) (u : tc_S) (i : Nat) (H : Heap) : Prop :=
  if G.2.1 i < 100 then ∃ r : vw_C, vwCl[G.2.1 i]? = some r ∧ t_OB (z + i) (D.1.1 (G.2.1 i)) r.2.2 (D.1.2 (G.2.1 i)) H (fun k => tc_val z (tc_ty (G.2.1 i) k) (u.1 i k) (u.2 i k) (G.2.2.2 i k))
  else if G.2.1 i < 103 then H[z + i]? = some (vp_cell (D.2 (G.2.1 i)) (G.2.2.1 i, .inl (u.1 i)))
  else H[z + i]? = some (vp_cell (D.2 103) (G.2.2.1 i, .inr (.inr (.inr (.inr (fun k => (G.2.2.2 i k).map (fun j => z + j)))))))
def tc_H (z : Nat) (D : tc_D) (G : tc_G) (u : tc_S) (H : Heap) : Prop := H.size = z + G.1 ∧ (∀ i, i < G.1 → tc_cell z D G u i H) ∧ ∀ i, i < G.1 → G.2.1 i = 101 → ∀ k, fits .byte (.int (u.1 i k)) = true
def tc_K (D : tc_D) (U : State) : Prop := va_K D.1 vwCl [(D.2 100, .int), (D.2 101, .byte), (D.2 102, .boolean), (D.2 103, .object RX10)] U
theorem tc_K.moved {D : tc_D} {u U : State} (hvm : u.vm.Alike U.vm) (h : tc_K D u) : tc_K D U := va_K.moved hvm h
theorem tc_cell.kept {z : Nat} {D : tc_D} {G : tc_G} {u u' : tc_S} {i : Nat} {H H1 : Heap} (h : tc_cell z D G u i H) (hq : H1[z + i]? = H[z + i]?) (e1 : u'.1 i = u.1 i) (e2 : u'.2 i = u.2 i) : tc_cell z D G u' i H1 := by
  unfold tc_cell at h ⊢
  rw [e1, e2]
  split
  · rename_i h0
    rw [if_pos h0] at h
    obtain ⟨r, h1, h2⟩ := h
    exact ⟨r, h1, h2.kept hq⟩
  · rename_i h0
    rw [if_neg h0] at h
    split
    · rename_i h3
      rw [if_pos h3] at h
      rw [hq]; exact h
    · rename_i h3
      rw [if_neg h3] at h
      rw [hq]; exact h
/-- a write of one int, of one long -/
def tc_w (u : tc_S) (i k : Nat) (x : Int32) : tc_S := (fun a b => if a = i ∧ b = k then x else u.1 a b, u.2)
def tc_wl (u : tc_S) (i k : Nat) (x : Int64) : tc_S := (u.1, fun a b => if a = i ∧ b = k then x else u.2 a b)
theorem tc_w_ne {u : tc_S} {i k : Nat} {x : Int32} {j : Nat} (h : j ≠ i) : (tc_w u i k x).1 j = u.1 j := by
  funext b
  simp [tc_w, h]
theorem tc_w_row (u : tc_S) (i k : Nat) (x : Int32) : (tc_w u i k x).1 i = upd (u.1 i) k x := by
  funext b
  simp [tc_w, upd]
theorem tc_wl_ne {u : tc_S} {i k : Nat} {x : Int64} {j : Nat} (h : j ≠ i) : (tc_wl u i k x).2 j = u.2 j := by
  funext b
  simp [tc_wl, h]
/-! what lies in the heap before: three texts, two rows of numbers, the JDK's own switches -/
def tc_ti : List Nat := [78, 137, 139]
def tc_tx : List String := ["buckets slots stash depth tries seed kick full one two has ", "none walk shortest ", "refuse rehash grow test "]
def tc_tl : List Nat := [59, 19, 24]
def tc_by : List (List Int32) := [[98, 117, 99, 107, 101, 116, 115, 32, 115, 108, 111, 116, 115, 32, 115, 116, 97, 115, 104, 32, 100, 101, 112, 116, 104, 32, 116, 114, 105, 101, 115, 32, 115, 101, 101, 100, 32, 107, 105, 99, 107, 32, 102, 117, 108, 108, 32, 111, 110, 101, 32, 116, 119, 111, 32, 104, 97, 115, 32], [110, 111, 110, 101, 32, 119, 97, 108, 107, 32, 115, 104, 111, 114, 116, 101, 115, 116, 32], [114, 101, 102, 117, 115, 101, 32, 114, 101, 104, 97, 115, 104, 32, 103, 114, 111, 119, 32, 116, 101, 115, 116, 32]]
def tc_lm (w : Nat) : List Int32 := if w = 0 then [1, 1, 0, 0, 0, 0] else [16, 4, 4, 16, 4, 9999]
def tc_N : List (String × Nat × MethodName) := [("TwoChoices", 11, ⟨"TwoChoices$World", "<init>", "()V"⟩), ("TwoChoices$Settings", 11, ⟨"TwoChoices$Draws", "<init>", "()V"⟩), ("TwoChoices", 31, ⟨"TwoChoices$Chain", "<init>", "()V"⟩), ("TwoChoices", 47, ⟨"TwoChoices$Roster", "<init>", "()V"⟩), ("TwoChoices$Keeper", 22, ⟨"TwoChoices$Draws", "<init>", "()V"⟩), ("TwoChoices", 63, ⟨"TwoChoices$Parts", "<init>", "()V"⟩)]
def tc_X (z : Nat) (D : tc_D) (U : State) : Prop :=
  (∀ w, w < 3 → vk_R RX6 (tc_ti.getD w 0) (tc_tx.getD w "") (D.2 (200 + w)) U) ∧
  vk_S 3 tc_tl tc_by (fun w => D.2 (200 + w)) (fun w => D.2 (210 + w)) (fun q => z ≤ q) U U.heap ∧
  va_Z "java/lang/String" "COMPACT_STRINGS" "Z" (.int 1) (fun q => z ≤ q) U U.heap ∧
  va_Zq "jdk/internal/util/Preconditions" "SIOOBE_FORMATTER" "Ljava/util/function/BiFunction;" (fun q => z ≤ q) U U.heap ∧
  (va_Z RX6 "LEAST" "[I" (.ref (D.2 220)) (fun q => z ≤ q) U U.heap ∧ va_T .int (D.2 220) 6 (fun j => .int ((tc_lm 0).getD j 0)) (fun q => z ≤ q) U U.heap) ∧
  (va_Z RX6 "MOST" "[I" (.ref (D.2 221)) (fun q => z ≤ q) U U.heap ∧ va_T .int (D.2 221) 6 (fun j => .int ((tc_lm 1).getD j 0)) (fun q => z ≤ q) U U.heap) ∧
  (∀ q ∈ tc_N, va_Nw (.methodLinkNest q.1 q.2.1 q.2.2 "TwoChoices") U) ∧ va_AO RX10 U
theorem tc_X.warm {z : Nat} {D : tc_D} {s U : State} (hW : s.WarmedH U.vm) (hh : ∀ q : Nat, q < z → U.heap[q]? = s.heap[q]?) (h : tc_X z D s) : tc_X z D U := by
  have hq : ∀ a : Nat, a < s.heap.size → ¬ (z ≤ a) → U.heap[a]? = s.heap[a]? := fun a _ h => hh a (Nat.not_le.mp h)
  obtain ⟨h1, h2, h3, h4, ⟨h5, h6⟩, ⟨h7, h8⟩, h9, ha⟩ := h
  exact ⟨fun w hw => (h1 w hw).warm hW, (h2.moved hW.alike).kept hq, (h3.moved hW.alike).kept hq, (h4.moved hW.alike).kept hq, ⟨(h5.moved hW.alike).kept hq, (h6.moved hW.alike).kept hq⟩, ⟨(h7.moved hW.alike).kept hq, (h8.moved hW.alike).kept hq⟩, fun q hq => (h9 q hq).warmM hW, ha.moved hW.alike⟩
theorem tc_X.same {z : Nat} {D : tc_D} {s U : State} (hv : U.vm = s.vm) (hh : U.heap = s.heap) (h : tc_X z D s) : tc_X z D U := by
  have hA : s.vm.Alike U.vm := by rw [hv]; exact Vm.Alike.refl s.vm
  have hq : ∀ a : Nat, a < s.heap.size → ¬ (z ≤ a) → U.heap[a]? = s.heap[a]? := fun a _ _ => by rw [hh]
  obtain ⟨h1, h2, h3, h4, ⟨h5, h6⟩, ⟨h7, h8⟩, h9, ha⟩ := h
  exact ⟨fun w hw => (h1 w hw).same hv, (h2.moved hA).kept hq, (h3.moved hA).kept hq, (h4.moved hA).kept hq, ⟨(h5.moved hA).kept hq, (h6.moved hA).kept hq⟩, ⟨(h7.moved hA).kept hq, (h8.moved hA).kept hq⟩, fun q hq => (h9 q hq).same rfl hv.symm, ha.moved hA⟩
/-- what a method's end says -/
def tc_Q (z : Nat) (D : tc_D) (post : Option Value → tc_G → tc_S → Prop) : Array Value → State → Outcome → State → Prop := fun _ st o t => ∃ (r : Option Value) (G : tc_G) (u : tc_S), o = .returned r ∧ post r G u ∧ tc_H z D G u t.heap ∧ ∀ q : Nat, q < z → t.heap[q]? = st.heap[q]?
/-- a method's contract at one start -/
def tc_C (l : Launch) (z : Nat) (D : tc_D) (y : MethodName) (cc : ByteArray) (maxL : Nat) (ret : Option FieldType) (fr lc mc ms : Nat) (as : List Value) (G : tc_G) (u : tc_S) (post : Option Value → tc_G → tc_S → Prop) : Prop :=
  Met l y (.code y cc maxL ret :: tc_T) { frames := fr, cells := mc, slots := ms, locals := lc } (va_Pc as (fun U => tc_H z D G u U.heap ∧ tc_K D U ∧ tc_X z D U)) (tc_Q z D post) mc ms (fun q => z ≤ q)
def tc_ok (p : Program) (s : State) (m : MethodId) (args : Array Value) (meth : Method) (c : Code) (z : Nat) (D : tc_D) (cc : ByteArray) (own : String) (nL : Nat) (ret : Option FieldType) : Prop :=
  p.tables.exec = Jvm.exec ∧ c.code = cc ∧ c.maxLocals = nL ∧ s.vm.findClass own = some m.cls ∧ (∀ w ∈ tc_T, w.before args s = true) ∧ tc_K D s ∧ meth.locks = false ∧ meth.sig.returnType = ret ∧ tc_X z D s
/-- the method's body goes on from here to its end -/
def tc_R (p : Program) (l : Launch) (e : Env) (R : Room) (s : State) (m : MethodId) (args : Array Value) (below : List Frame) (meth : Method) (c : Code) (z : Nat) (D : tc_D) (cc : ByteArray) (own : String) (nL : Nat) (ret : Option FieldType) (mc ms : Nat) (post : Option Value → tc_G → tc_S → Prop) (cells slots : Nat) (G : tc_G) (u : tc_S) (pc : Nat) (lv : List (Nat × Value)) (st : List Value) : Prop :=
  tc_ok p s m args meth c z D cc own nL ret → ∀ (H : Heap) (locs : List Loc) (ls : Array Slot), tc_H z D G u H → (∀ q : Nat, q < z → H[q]? = s.heap[q]?) → (∀ q ∈ locs, z ≤ q.base) → lv_has ls nL lv →
    W p l e R s m args below meth c H locs cells slots (MQ below (tc_Q z D post) args s mc ms (fun q => z ≤ q)) (F0 m pc ls st)
theorem tc_C.of {l : Launch} {z : Nat} {D : tc_D} {y : MethodName} {cc : ByteArray} {maxL : Nat} {ret : Option FieldType} {fr lc mc ms : Nat} {as : List Value} {G : tc_G} {u : tc_S} {post : Option Value → tc_G → tc_S → Prop} (hy : plainName y.cls = true) (hn : (lg_sl as).length ≤ maxL)
    (body : ∀ p e s m args below meth c, tc_R p l e { frames := fr, cells := mc, slots := ms, locals := lc } s m args below meth c z D cc y.cls maxL ret mc ms post 0 0 G u 0 (lv_args 0 as) []) : tc_C l z D y cc maxL ret fr lc mc ms as G u post := by
  refine Met.ofW (cc := cc) (maxL := maxL) (ret := ret) hy rfl ?_
  intro p e s m args below meth c s₁ B hml hv
  obtain ⟨rfl, hH, hK, hX⟩ := hv
  have hts := atoms_spec (ws := .code y cc maxL ret :: tc_T) B.pre
  have hown : s.vm.findClass y.cls = some m.cls := findClass_of_methodNamed B.named
  have hl := lv_entry as hn
  rw [lg_entry_eq]
  exact body p e s m as.toArray below meth c ⟨B.exec, B.bytes, hml, hown, fun w hw => hts w (List.mem_cons_of_mem _ hw), hK, B.notSynchronized, B.returns, hX⟩ s.heap [] _ hH (fun _ _ => rfl) (fun _ h => by cases h) hl
