/-! words that the functions of the methods are written in, and the rows that go with them -/
def tc_fu : Nat := 4096
def tc_mod (x y : Int32) : Int32 := x - x / y * y
def tc_ush (x y : Int32) : Int32 := (x.toUInt32 >>> (y.toUInt32 &&& Int32.toUInt32 31)).toInt32
def tc_ln (G : tc_G) (a : Nat) : Int32 := Int32.ofNat (G.2.2.1 a)
def tc_let {α β : Type} (x : α) (k : α → Option β) : Option β := k x
theorem tc_let_ex {α β : Type} {x : α} {k : α → Option β} {r : β} (h : tc_let x k = some r) : ∃ y, y = x ∧ k y = some r := ⟨x, rfl, h⟩
def tc_b {β : Type} (o : Option (Int32 × tc_S)) (k : Int32 → tc_S → Option β) : Option β := match o with
  | some (r, u) => k r u
  | none => none
theorem tc_b_ex {β : Type} {o : Option (Int32 × tc_S)} {k : Int32 → tc_S → Option β} {r : β} (h : tc_b o k = some r) : ∃ x u, o = some (x, u) ∧ k x u = some r := by
  cases o with
  | none => cases h
  | some q => exact ⟨q.1, q.2, rfl, h⟩
def tc_ld {β : Type} (G : tc_G) (u : tc_S) (a : Nat) (j : Int32) (k : Int32 → Option β) : Option β := if j < 0 ∨ G.2.2.1 a ≤ j.toNatClampNeg then none else k (u.1 a j.toNatClampNeg)
theorem tc_ld_ex {β : Type} {G : tc_G} {u : tc_S} {a : Nat} {j : Int32} {k : Int32 → Option β} {r : β} (h : tc_ld G u a j k = some r) : vp_in j (G.2.2.1 a) ∧ ∃ x, x = u.1 a j.toNatClampNeg ∧ k x = some r := by
  unfold tc_ld at h
  split at h
  · cases h
  · rename_i h1
    exact ⟨h1, _, rfl, h⟩
def tc_sd {β : Type} (G : tc_G) (u : tc_S) (a : Nat) (j x : Int32) (k : tc_S → Option β) : Option β := if j < 0 ∨ G.2.2.1 a ≤ j.toNatClampNeg then none else k (tc_w u a j.toNatClampNeg x)
theorem tc_sd_ex {β : Type} {G : tc_G} {u : tc_S} {a : Nat} {j x : Int32} {k : tc_S → Option β} {r : β} (h : tc_sd G u a j x k = some r) : vp_in j (G.2.2.1 a) ∧ ∃ u1, u1 = tc_w u a j.toNatClampNeg x ∧ k u1 = some r := by
  unfold tc_sd at h
  split at h
  · cases h
  · rename_i h1
    exact ⟨h1, _, rfl, h⟩
def tc_nz {β : Type} (y : Int32) (o : Option β) : Option β := if y = 0 then none else o
theorem tc_nz_ex {β : Type} {y : Int32} {o : Option β} {r : β} (h : tc_nz y o = some r) : ¬ y = 0 ∧ o = some r := by
  unfold tc_nz at h
  split at h
  · cases h
  · rename_i h1
    exact ⟨h1, h⟩
def tc_zo {β : Type} (y : Int32) (o : Option β) : Option β := if y = 0 ∨ y = 1 then o else none
theorem tc_zo_ex {β : Type} {y : Int32} {o : Option β} {r : β} (h : tc_zo y o = some r) : (y = 0 ∨ y = 1) ∧ o = some r := by
  unfold tc_zo at h
  split at h
  · rename_i h1
    exact ⟨h1, h⟩
  · cases h
def tc_po (r : Int32) (G : tc_G) (u : tc_S) : Option Value → tc_G → tc_S → Prop := fun r1 G1 u1 => r1 = some (.int r) ∧ G1 = G ∧ u1 = u
def tc_pv (G : tc_G) (u : tc_S) : Option Value → tc_G → tc_S → Prop := fun r1 G1 u1 => r1 = none ∧ G1 = G ∧ u1 = u
/-- a switch that has no place for a number -/
theorem tc_swOut {x : Int32} {lo : Int} {n : Nat} (h : ∀ k : Nat, k < n → ¬ x.toInt = lo + k) : x.toInt < lo ∨ lo + n - 1 < x.toInt := by
  by_cases h1 : x.toInt < lo
  · exact Or.inl h1
  · refine Or.inr (Int.not_le.mp fun h2 => h (x.toInt - lo).toNat ?_ ?_)
    · omega
    · omega
section TCF
variable {p : Program} {l : Launch} {e : Env} {R : Room} {s : State} {m : MethodId} {args : Array Value} {below : List Frame} {meth : Method} {c : Code} {z : Nat} {D : tc_D} {cc : ByteArray} {own : String} {nL : Nat} {ret : Option FieldType} {mc ms : Nat} {post : Option Value → tc_G → tc_S → Prop} {cells slots : Nat} {G : tc_G} {u : tc_S} {pc : Nat} {lv : List (Nat × Value)} {rest : List Value}
theorem tc_nm {x y : Int32} (h : y = x) (k : tc_R p l e R s m args below meth c z D cc own nL ret mc ms post cells slots G u pc lv (.int y :: rest)) : tc_R p l e R s m args below meth c z D cc own nL ret mc ms post cells slots G u pc lv (.int x :: rest) := h ▸ k
theorem tc_nml {x y : Int64} (h : y = x) (k : tc_R p l e R s m args below meth c z D cc own nL ret mc ms post cells slots G u pc lv (.long y :: rest)) : tc_R p l e R s m args below meth c z D cc own nL ret mc ms post cells slots G u pc lv (.long x :: rest) := h ▸ k
theorem tc_nmu {u1 : tc_S} (h : u1 = u) (k : tc_R p l e R s m args below meth c z D cc own nL ret mc ms post cells slots G u1 pc lv rest) : tc_R p l e R s m args below meth c z D cc own nL ret mc ms post cells slots G u pc lv rest := h ▸ k
theorem tc_callVi {y : MethodName} {bytes : ByteArray} {maxL fr lc i ci n index : Nat} {rt : Option FieldType} (As : List Value) {st : List Value} {r1 : Int32} {u1 : tc_S} (hd : decode cc pc = .ok (.invokevirtual index, 3)) (hi : tc_at G i ci) (hM : tc_C l z D y bytes maxL rt fr lc 0 0 (.ref (z + i) :: As) G u (tc_po r1 G u1)) (hlink : Cond.methodLink own index y ∈ tc_T) (hw : tc_MW y bytes maxL rt n) (hv : tc_MV y ci) (hroom : fr + 1 ≤ R.frames ∧ 8 + (maxL + 11) + lc ≤ R.locals) (hn : As.length = n) (hst : st = As.reverse ++ .ref (z + i) :: rest) (hW8 : (rest.map fun v => v.category).sum ≤ 8) (hf : cells + 0 ≤ R.cells ∧ slots + 0 ≤ R.slots) (hci : ci < 100)
    (kk : tc_R p l e R s m args below meth c z D cc own nL ret mc ms post cells slots G u1 (pc + 3) lv (.int r1 :: rest)) : tc_R p l e R s m args below meth c z D cc own nL ret mc ms post cells slots G u pc lv st :=
  tc_callV hd hi hci hM hlink hw hv hroom hn hst hW8 hf (fun r G1 u2 h => by obtain ⟨rfl, rfl, rfl⟩ := h; exact kk)
theorem tc_callVv {y : MethodName} {bytes : ByteArray} {maxL fr lc i ci n index : Nat} {rt : Option FieldType} (As : List Value) {st : List Value} {u1 : tc_S} (hd : decode cc pc = .ok (.invokevirtual index, 3)) (hi : tc_at G i ci) (hM : tc_C l z D y bytes maxL rt fr lc 0 0 (.ref (z + i) :: As) G u (tc_pv G u1)) (hlink : Cond.methodLink own index y ∈ tc_T) (hw : tc_MW y bytes maxL rt n) (hv : tc_MV y ci) (hroom : fr + 1 ≤ R.frames ∧ 8 + (maxL + 11) + lc ≤ R.locals) (hn : As.length = n) (hst : st = As.reverse ++ .ref (z + i) :: rest) (hW8 : (rest.map fun v => v.category).sum ≤ 8) (hf : cells + 0 ≤ R.cells ∧ slots + 0 ≤ R.slots) (hci : ci < 100)
    (kk : tc_R p l e R s m args below meth c z D cc own nL ret mc ms post cells slots G u1 (pc + 3) lv rest) : tc_R p l e R s m args below meth c z D cc own nL ret mc ms post cells slots G u pc lv st :=
  tc_callV hd hi hci hM hlink hw hv hroom hn hst hW8 hf (fun r G1 u2 h => by obtain ⟨rfl, rfl, rfl⟩ := h; exact kk)
theorem tc_callSi {y : MethodName} {bytes : ByteArray} {maxL fr lc n index : Nat} {rt : Option FieldType} (As : List Value) {st : List Value} {r1 : Int32} {u1 : tc_S} (hd : decode cc pc = .ok (.invokestatic index, 3)) (hM : tc_C l z D y bytes maxL rt fr lc 0 0 As G u (tc_po r1 G u1)) (hlink : Cond.methodLink own index y ∈ tc_T) (hw : tc_MW y bytes maxL rt n) (hv : Cond.static y ∈ tc_T) (hroom : fr + 1 ≤ R.frames ∧ 8 + (maxL + 11) + lc ≤ R.locals) (hn : As.length = n) (hst : st = As.reverse ++ rest) (hW8 : (rest.map fun v => v.category).sum ≤ 8) (hf : cells + 0 ≤ R.cells ∧ slots + 0 ≤ R.slots)
    (kk : tc_R p l e R s m args below meth c z D cc own nL ret mc ms post cells slots G u1 (pc + 3) lv (.int r1 :: rest)) : tc_R p l e R s m args below meth c z D cc own nL ret mc ms post cells slots G u pc lv st :=
  tc_callS hd hM hlink hw hv hroom hn hst hW8 hf (fun r G1 u2 h => by obtain ⟨rfl, rfl, rfl⟩ := h; exact kk)
theorem tc_callSv {y : MethodName} {bytes : ByteArray} {maxL fr lc n index : Nat} {rt : Option FieldType} (As : List Value) {st : List Value} {u1 : tc_S} (hd : decode cc pc = .ok (.invokestatic index, 3)) (hM : tc_C l z D y bytes maxL rt fr lc 0 0 As G u (tc_pv G u1)) (hlink : Cond.methodLink own index y ∈ tc_T) (hw : tc_MW y bytes maxL rt n) (hv : Cond.static y ∈ tc_T) (hroom : fr + 1 ≤ R.frames ∧ 8 + (maxL + 11) + lc ≤ R.locals) (hn : As.length = n) (hst : st = As.reverse ++ rest) (hW8 : (rest.map fun v => v.category).sum ≤ 8) (hf : cells + 0 ≤ R.cells ∧ slots + 0 ≤ R.slots)
    (kk : tc_R p l e R s m args below meth c z D cc own nL ret mc ms post cells slots G u1 (pc + 3) lv rest) : tc_R p l e R s m args below meth c z D cc own nL ret mc ms post cells slots G u pc lv st :=
  tc_callS hd hM hlink hw hv hroom hn hst hW8 hf (fun r G1 u2 h => by obtain ⟨rfl, rfl, rfl⟩ := h; exact kk)
theorem tc_irem' {x y : Int32} (hy : ¬ y = 0) (hd : decode cc pc = .ok (.irem, 1)) (k : tc_R p l e R s m args below meth c z D cc own nL ret mc ms post cells slots G u (pc + 1) lv (.int (tc_mod x y) :: rest)) : tc_R p l e R s m args below meth c z D cc own nL ret mc ms post cells slots G u pc lv (.int y :: .int x :: rest) := tc_irem hy hd k
theorem tc_iushr' {x y : Int32} (hd : decode cc pc = .ok (.iushr, 1)) (k : tc_R p l e R s m args below meth c z D cc own nL ret mc ms post cells slots G u (pc + 1) lv (.int (tc_ush x y) :: rest)) : tc_R p l e R s m args below meth c z D cc own nL ret mc ms post cells slots G u pc lv (.int y :: .int x :: rest) := tc_iushr hd k
theorem tc_alen' {i q : Nat} (hi : tc_at G i q) (h1 : 100 ≤ q) (h3 : q < 103) (hd : decode cc pc = .ok (.arraylength, 1)) (kk : tc_R p l e R s m args below meth c z D cc own nL ret mc ms post cells slots G u (pc + 1) lv (.int (tc_ln G i) :: rest)) : tc_R p l e R s m args below meth c z D cc own nL ret mc ms post cells slots G u pc lv (.ref (z + i) :: rest) := tc_alen hi h1 h3 hd kk
theorem tc_mmax {index : Nat} {x y : Int32} (hd : decode cc pc = .ok (.invokestatic index, 3)) (hlink : Cond.methodLink own index Lib.Math.max.name ∈ tc_T) (hstat : Cond.static Lib.Math.max.name ∈ tc_T) (hini : Cond.initialized "java/lang/Math" ∈ tc_T) (hcode : Cond.code Lib.Math.max.name Lib.Math.max.code 2 (some .int) ∈ tc_T) (hframes : 1 ≤ R.frames) (hlocals : (rest.map fun v => v.category).sum + 13 ≤ R.locals) (hc : cells ≤ R.cells) (hs : slots ≤ R.slots)
    (kk : tc_R p l e R s m args below meth c z D cc own nL ret mc ms post cells slots G u (pc + 3) lv (.int (if x < y then y else x) :: rest)) : tc_R p l e R s m args below meth c z D cc own nL ret mc ms post cells slots G u pc lv (.int y :: .int x :: rest) := fun ok H locs ls hH h0 hL hl => va_mmax ok.1 ok.2.1 (ok.2.2.1.trans hl.1.symm) ok.2.2.2.1 (ok.2.2.2.2.1 _ hlink) (ok.2.2.2.2.1 _ hstat) (ok.2.2.2.2.1 _ hini) (ok.2.2.2.2.1 _ hcode) hframes hlocals hc hs hd (kk ok H locs ls hH h0 hL hl)
theorem tc_mmin {index : Nat} {x y : Int32} (hd : decode cc pc = .ok (.invokestatic index, 3)) (hlink : Cond.methodLink own index Lib.Math.min.name ∈ tc_T) (hstat : Cond.static Lib.Math.min.name ∈ tc_T) (hini : Cond.initialized "java/lang/Math" ∈ tc_T) (hcode : Cond.code Lib.Math.min.name Lib.Math.min.code 2 (some .int) ∈ tc_T) (hframes : 1 ≤ R.frames) (hlocals : (rest.map fun v => v.category).sum + 13 ≤ R.locals) (hc : cells ≤ R.cells) (hs : slots ≤ R.slots)
    (kk : tc_R p l e R s m args below meth c z D cc own nL ret mc ms post cells slots G u (pc + 3) lv (.int (if y < x then y else x) :: rest)) : tc_R p l e R s m args below meth c z D cc own nL ret mc ms post cells slots G u pc lv (.int y :: .int x :: rest) := fun ok H locs ls hH h0 hL hl => va_mmin ok.1 ok.2.1 (ok.2.2.1.trans hl.1.symm) ok.2.2.2.1 (ok.2.2.2.2.1 _ hlink) (ok.2.2.2.2.1 _ hstat) (ok.2.2.2.2.1 _ hini) (ok.2.2.2.2.1 _ hcode) hframes hlocals hc hs hd (kk ok H locs ls hH h0 hL hl)
end TCF
