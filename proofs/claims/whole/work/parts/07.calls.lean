/-! calls: the whole world goes to the callee -/
theorem tc_good {y : MethodName} {b : ByteArray} {k : Nat} {r : Option FieldType} (h : Cond.code y b k r ∈ tc_T) : GoodIn tc_T (.code y b k r :: tc_T) := by
  have h1 : ∀ w ∈ tc_T, w ∈ tc_T ∧ ((w.onTables && w.keeps) = true ∨ ∃ ty, w = .arrayClass ty) := fun w hw => ⟨hw, good_of_word (List.mem_filter.mp hw).2⟩
  intro w hw
  rcases List.mem_cons.mp hw with rfl | hw
  · exact h1 _ h
  · exact h1 _ hw
theorem tc_blind {z : Nat} {D : tc_D} {as : List Value} {G : tc_G} {u : tc_S} : FrameBlind (va_Pc as (fun U => tc_H z D G u U.heap ∧ tc_K D U ∧ tc_X z D U)) := fun a U g mk q => by
  obtain ⟨q0, q1, qK, qX⟩ := q
  exact ⟨q0, q1, va_K.moved (u := U) (U := U.calling g mk a) (Vm.Alike.refl U.vm) qK, qX.same (U := U.calling g mk a) rfl rfl⟩
section TCC
variable {p : Program} {l : Launch} {e : Env} {R : Room} {s : State} {m : MethodId} {args : Array Value} {below : List Frame} {meth : Method} {c : Code} {z : Nat} {D : tc_D} {cc : ByteArray} {own : String} {nL : Nat} {ret : Option FieldType} {mc ms : Nat} {post : Option Value → tc_G → tc_S → Prop} {cells slots : Nat} {G : tc_G} {u : tc_S} {pc : Nat} {lv : List (Nat × Value)} {rest : List Value}
theorem tc_after {mc1 ms1 : Nat} {st : List Value} {a : Array Value} {post1 : Option Value → tc_G → tc_S → Prop} {H : Heap} {locs : List Loc} {ls : Array Slot} (ok : tc_ok p s m args meth c z D cc own nL ret) (h0 : ∀ q : Nat, q < z → H[q]? = s.heap[q]?) (hL : ∀ q ∈ locs, z ≤ q.base) (hl : lv_has ls nL lv)
    (hr : va_Run p l e R s m args below meth c H locs cells slots mc1 ms1 (F0 m pc ls st) rest (tc_Q z D post1 a) (fun q => z ≤ q))
    (kk : ∀ (r : Option Value) (G1 : tc_G) (u1 : tc_S), post1 r G1 u1 → tc_R p l e R s m args below meth c z D cc own nL ret mc ms post (cells + mc1) (slots + ms1) G1 u1 (pc + 3) lv (r.toList ++ rest)) : W p l e R s m args below meth c H locs cells slots (MQ below (tc_Q z D post) args s mc ms (fun q => z ≤ q)) (F0 m pc ls st) := by
  intro T hT X
  obtain ⟨v, st₀, t, T', L, e0, X', hL1, e1, e2, ⟨r, G1, u1, hv, hp, hH1, hz⟩, stp⟩ := hr T hT X
  cases hv
  obtain ⟨t2, a1, b1⟩ := kk _ G1 u1 hp ok T'.heap (locs ++ L) ls (by rw [e1]; exact hH1) (fun q hq => by rw [e1, hz q hq, e0]; exact h0 q hq) (fun q hq => by
    rcases List.mem_append.mp hq with h | h
    · exact hL q h
    · exact hL1 q h) hl T' rfl X'
  exact ⟨t2, stp t2 a1, b1⟩
theorem tc_callV {y : MethodName} {bytes : ByteArray} {maxL fr lc mc1 ms1 i ci n index : Nat} {rt : Option FieldType} {As st : List Value} {post1 : Option Value → tc_G → tc_S → Prop} (hd : decode cc pc = .ok (.invokevirtual index, 3)) (hi : tc_at G i ci) (hci : ci < 100) (hM : tc_C l z D y bytes maxL rt fr lc mc1 ms1 (.ref (z + i) :: As) G u post1) (hlink : Cond.methodLink own index y ∈ tc_T) (hw : tc_MW y bytes maxL rt n) (hv : tc_MV y ci) (hroom : fr + 1 ≤ R.frames ∧ 8 + (maxL + 11) + lc ≤ R.locals) (hn : As.length = n) (hst : st = As.reverse ++ .ref (z + i) :: rest) (hW8 : (rest.map fun v => v.category).sum ≤ 8) (hf : cells + mc1 ≤ R.cells ∧ slots + ms1 ≤ R.slots)
    (kk : ∀ (r : Option Value) (G1 : tc_G) (u1 : tc_S), post1 r G1 u1 → tc_R p l e R s m args below meth c z D cc own nL ret mc ms post (cells + mc1) (slots + ms1) G1 u1 (pc + 3) lv (r.toList ++ rest)) : tc_R p l e R s m args below meth c z D cc own nL ret mc ms post cells slots G u pc lv st := by
  intro ok H locs ls hH h0 hL hl
  obtain ⟨hx, hb, hml, hown, hts, hK, hlk, hrt⟩ := id ok
  obtain ⟨hin, r, hcl, hsel⟩ := hv
  obtain ⟨r', g1, cell, q1, q2, q3, q4⟩ := hH.ob hi hci
  have hr : r' = r := Option.some.inj (g1.symm.trans hcl)
  subst hr
  obtain ⟨hS, hfc, -⟩ := hK.1 ci _ hcl
  refine tc_after ok h0 hL hl (va_runV (C := r'.1) (As := As) (rest := rest) (Ts := tc_T) (nL := nL) ⟨hx, hb, hml, hown, hts⟩ hM ⟨callB_of n hts (tc_good hw.1) rfl rfl rfl (hts _ hw.2.1) (hts _ hlink) hw.2.2 hroom, hts _ hin, hts _ hsel⟩ ⟨tc_blind, ⟨cell, q1, by rw [q3]; rfl, by rw [q2]; exact hfc⟩, fun U hU hWU => ⟨rfl, by rw [hU]; exact hH, hK.moved hWU.alike, ok.2.2.2.2.2.2.2.2.warm hWU (fun q hq => by rw [hU]; exact h0 q hq)⟩⟩ rfl hn hl.1 hst (by simpa using hW8) hd hf) kk
theorem tc_callS {y : MethodName} {bytes : ByteArray} {maxL fr lc mc1 ms1 n index : Nat} {rt : Option FieldType} {As st : List Value} {post1 : Option Value → tc_G → tc_S → Prop} (hd : decode cc pc = .ok (.invokestatic index, 3)) (hM : tc_C l z D y bytes maxL rt fr lc mc1 ms1 As G u post1) (hlink : Cond.methodLink own index y ∈ tc_T) (hw : tc_MW y bytes maxL rt n) (hv : Cond.static y ∈ tc_T) (hroom : fr + 1 ≤ R.frames ∧ 8 + (maxL + 11) + lc ≤ R.locals) (hn : As.length = n) (hst : st = As.reverse ++ rest) (hW8 : (rest.map fun v => v.category).sum ≤ 8) (hf : cells + mc1 ≤ R.cells ∧ slots + ms1 ≤ R.slots)
    (kk : ∀ (r : Option Value) (G1 : tc_G) (u1 : tc_S), post1 r G1 u1 → tc_R p l e R s m args below meth c z D cc own nL ret mc ms post (cells + mc1) (slots + ms1) G1 u1 (pc + 3) lv (r.toList ++ rest)) : tc_R p l e R s m args below meth c z D cc own nL ret mc ms post cells slots G u pc lv st := by
  intro ok H locs ls hH h0 hL hl
  obtain ⟨hx, hb, hml, hown, hts, hK, hlk, hrt⟩ := id ok
  refine tc_after ok h0 hL hl (va_runS (As := As) (rest := rest) (Ts := tc_T) (nL := nL) ⟨hx, hb, hml, hown, hts⟩ hM ⟨callB_of n hts (tc_good hw.1) rfl rfl rfl (hts _ hw.2.1) (hts _ hlink) hw.2.2 hroom, hts _ hv⟩ ⟨tc_blind, fun U hU hWU => ⟨rfl, by rw [hU]; exact hH, hK.moved hWU.alike, ok.2.2.2.2.2.2.2.2.warm hWU (fun q hq => by rw [hU]; exact h0 q hq)⟩⟩ rfl hn hl.1 hst (by simpa using hW8) hd hf) kk
theorem tc_callI {y : MethodName} {bytes : ByteArray} {maxL fr lc mc1 ms1 i n index : Nat} {As st : List Value} {post1 : Option Value → tc_G → tc_S → Prop} (hd : decode cc pc = .ok (.invokespecial index, 3)) (hM : tc_C l z D y bytes maxL none fr lc mc1 ms1 (.ref (z + i) :: As) G u post1) (hlink : Cond.methodLink own index y ∈ tc_T) (hw : tc_MW y bytes maxL none n) (hv : y.name = "<init>" ∧ Cond.instanceMethod y ∈ tc_T) (hroom : fr + 1 ≤ R.frames ∧ 8 + (maxL + 11) + lc ≤ R.locals) (hn : As.length = n) (hst : st = As.reverse ++ .ref (z + i) :: rest) (hW8 : (rest.map fun v => v.category).sum ≤ 8) (hf : cells + mc1 ≤ R.cells ∧ slots + ms1 ≤ R.slots)
    (kk : ∀ (r : Option Value) (G1 : tc_G) (u1 : tc_S), post1 r G1 u1 → tc_R p l e R s m args below meth c z D cc own nL ret mc ms post (cells + mc1) (slots + ms1) G1 u1 (pc + 3) lv (r.toList ++ rest)) : tc_R p l e R s m args below meth c z D cc own nL ret mc ms post cells slots G u pc lv st := by
  intro ok H locs ls hH h0 hL hl
  obtain ⟨hx, hb, hml, hown, hts, hK, hlk, hrt⟩ := id ok
  refine tc_after ok h0 hL hl (va_runI (b := z + i) (As := As) (rest := rest) (Ts := tc_T) (nL := nL) ⟨hx, hb, hml, hown, hts⟩ hM ⟨callB_of n hts (tc_good hw.1) rfl rfl rfl (hts _ hw.2.1) (hts _ hlink) hw.2.2 hroom, hv.1, hts _ hv.2⟩ ⟨tc_blind, fun U hU hWU => ⟨rfl, by rw [hU]; exact hH, hK.moved hWU.alike, ok.2.2.2.2.2.2.2.2.warm hWU (fun q hq => by rw [hU]; exact h0 q hq)⟩⟩ rfl hn hl.1 hst (by simpa using hW8) hd hf) kk
end TCC
