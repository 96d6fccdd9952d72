/-! what is made: the heap's kinds as a list -/
abbrev tc_L : Type := List (Nat × Nat × List (Option Nat))
def tc_gl (L : tc_L) : tc_G := (L.length, fun i => (L.getD i (0, 0, [])).1, fun i => (L.getD i (0, 0, [])).2.1, fun i k => (L.getD i (0, 0, [])).2.2.getD k none)
def tc_z (u : tc_S) (n : Nat) : tc_S := (fun i => if i = n then fun _ => 0 else u.1 i, fun i => if i = n then fun _ => 0 else u.2 i)
theorem tc_z_ne {u : tc_S} {n i : Nat} (h : i ≠ n) : (tc_z u n).1 i = u.1 i ∧ (tc_z u n).2 i = u.2 i := by simp [tc_z, h]
theorem tc_gl_old {L : tc_L} {x : Nat × Nat × List (Option Nat)} {i : Nat} (h : i < L.length) : (L ++ [x]).getD i (0, 0, []) = L.getD i (0, 0, []) := by
  simp [List.getD_eq_getElem?_getD, List.getElem?_append_left h]
theorem tc_gl_new {L : tc_L} {x : Nat × Nat × List (Option Nat)} : (L ++ [x]).getD L.length (0, 0, []) = x := by
  simp [List.getD_eq_getElem?_getD]
/-- a cell's words say nothing of other cells -/
theorem tc_cell.to {z : Nat} {D : tc_D} {G G2 : tc_G} {u u2 : tc_S} {i : Nat} {H H2 : Heap} (h : tc_cell z D G u i H) (hq : H2[z + i]? = H[z + i]?) (e1 : u2.1 i = u.1 i) (e2 : u2.2 i = u.2 i) (g1 : G2.2.1 i = G.2.1 i) (g2 : G.2.1 i < 100 ∨ G2.2.2.1 i = G.2.2.1 i) (g3 : G2.2.2.2 i = G.2.2.2 i) : tc_cell z D G2 u2 i H2 := by
  unfold tc_cell at h ⊢
  rw [e1, e2, g1, g3]
  split
  · rename_i h0
    rw [if_pos h0] at h
    obtain ⟨r, h1, h2⟩ := h
    exact ⟨r, h1, h2.kept hq⟩
  · rename_i h0
    rw [if_neg h0] at h
    have g2 : G2.2.2.1 i = G.2.2.1 i := g2.resolve_left h0
    rw [g2]
    split
    · rename_i h3
      rw [if_pos h3] at h
      rw [hq]; exact h
    · rename_i h3
      rw [if_neg h3] at h
      rw [hq]; exact h
theorem tc_H.push {z : Nat} {D : tc_D} {L : tc_L} {u : tc_S} {H H1 : Heap} (h : tc_H z D (tc_gl L) u H) (x : Nat × Nat × List (Option Nat)) (hz : H1.size = H.size + 1) (ho : ∀ q : Nat, q < H.size → H1[q]? = H[q]?) (hc : tc_cell z D (tc_gl (L ++ [x])) (tc_z u L.length) L.length H1) : tc_H z D (tc_gl (L ++ [x])) (tc_z u L.length) H1 := by
  have hs : H.size = z + L.length := h.1
  refine ⟨by rw [hz, hs]; simp [tc_gl]; omega, fun i hi => ?_, fun i hi hk k => ?_⟩
  · have hi' : i < L.length + 1 := by simpa [tc_gl] using hi
    by_cases e : i = L.length
    · subst e; exact hc
    · have hlt : i < L.length := by omega
      refine (h.2.1 i hlt).to (ho _ (by omega)) (tc_z_ne e).1 (tc_z_ne e).2 ?_ (Or.inr ?_) ?_
      · show ((L ++ [x]).getD i _).1 = _; rw [tc_gl_old hlt]; rfl
      · show ((L ++ [x]).getD i _).2.1 = _; rw [tc_gl_old hlt]; rfl
      · funext k; show ((L ++ [x]).getD i _).2.2.getD k none = _; rw [tc_gl_old hlt]; rfl
  · have hi' : i < L.length + 1 := by simpa [tc_gl] using hi
    by_cases e : i = L.length
    · subst e; simp [tc_z]; rfl
    · have hlt : i < L.length := by omega
      rw [(tc_z_ne e).1]
      refine h.2.2 i hlt ?_ k
      have hk : ((L ++ [x]).getD i (0, 0, [])).1 = 101 := hk
      rw [tc_gl_old hlt] at hk
      exact hk
section TCA
variable {p : Program} {l : Launch} {e : Env} {R : Room} {s : State} {m : MethodId} {args : Array Value} {below : List Frame} {meth : Method} {c : Code} {z : Nat} {D : tc_D} {cc : ByteArray} {own : String} {nL : Nat} {ret : Option FieldType} {mc ms : Nat} {post : Option Value → tc_G → tc_S → Prop} {cells slots : Nat} {G : tc_G} {u : tc_S} {pc : Nat} {lv : List (Nat × Value)} {rest : List Value}
/-- new: the object is being made (length 1), its references are null, its numbers 0 -/
theorem tc_newo {L : tc_L} {r : vw_C} {ci index : Nat} (hci : vwCl[ci]? = some r) (hc : ci < 100) (hcl : Cond.classLink own index r.1 ∈ tc_T) (hinst : Cond.instantiable r.1 r.2.2 ∈ tc_T) (hini : Cond.initialized r.1 ∈ tc_T) (hfl : ∀ k, k < r.2.2 → defaultValue (tc_ty ci k) = tc_val z (tc_ty ci k) 0 0 none) (hcells : cells + 1 ≤ R.cells) (hslots : slots + r.2.2 ≤ R.slots) (hd : decode cc pc = .ok (.new index, 3))
    (kk : tc_R p l e R s m args below meth c z D cc own nL ret mc ms post (cells + 1) (slots + r.2.2) (tc_gl (L ++ [(ci, 1, List.replicate r.2.2 none)])) (tc_z u L.length) (pc + 3) lv (.ref (z + L.length) :: rest)) : tc_R p l e R s m args below meth c z D cc own nL ret mc ms post cells slots (tc_gl L) u pc lv rest := by
  intro ok H locs ls hH h0 hL hl
  obtain ⟨hx, hb, hml, hown, hts, hK, hlk, hrt, hX⟩ := id ok
  have hKn := hK.1 ci _ hci
  have hcls := tc_cls hci
  have hsz : H.size = z + L.length := hH.1
  refine W.newcK hx hb hown (hts _ hcl) (hts _ hinst) (hts _ hini) rfl hd hcells hslots hKn.2.1 hsz fun H1 kC hkC e1 z1 o1 => ?_
  refine kk ok H1 locs ls (hH.push _ (by rw [z1, hsz]) (fun q hq => o1 q (by rw [← hsz]; exact hq)) ?_) (fun q hq => (o1 q (by omega)).trans (h0 q hq)) hL hl
  unfold tc_cell
  have ek : (tc_gl (L ++ [(ci, 1, List.replicate r.2.2 none)])).2.1 L.length = ci := by show ((L ++ [_]).getD L.length _).1 = ci; rw [tc_gl_new]
  have ep : ∀ k, (tc_gl (L ++ [(ci, 1, List.replicate r.2.2 none)])).2.2.2 L.length k = none := by
    intro k
    show ((L ++ [_]).getD L.length _).2.2.getD k none = none
    rw [tc_gl_new]
    simp only [List.getD_eq_getElem?_getD, List.getElem?_replicate]
    split <;> rfl
  rw [ek, if_pos hc]
  refine ⟨r, hci, (u_born (tc_ty ci) hts hcls.1 hKn hkC e1 hcls.2.1).to (fun k hk => ?_)⟩
  rw [ep, hfl k hk]
  simp [tc_z]
/-- a row of numbers is made -/
theorem tc_newa {L : tc_L} {atype : ArrayType} {q N : Nat} {n : Int32} (hq : q = 100 ∧ newarray.typeOf atype = .int ∨ q = 101 ∧ newarray.typeOf atype = .byte ∨ q = 102 ∧ newarray.typeOf atype = .boolean) (harr : Cond.arrayClass (newarray.typeOf atype) ∈ tc_T) (hn : ¬ n < 0) (hN : n.toNatClampNeg = N) (hbytes : N * componentBytes (newarray.typeOf atype) ≤ 536870912) (hcells : cells + 1 ≤ R.cells) (hslots : slots + N ≤ R.slots) (hd : decode cc pc = .ok (.newarray atype, 2))
    (kk : tc_R p l e R s m args below meth c z D cc own nL ret mc ms post (cells + 1) (slots + N) (tc_gl (L ++ [(q, N, [])])) (tc_z u L.length) (pc + 2) lv (.ref (z + L.length) :: rest)) : tc_R p l e R s m args below meth c z D cc own nL ret mc ms post cells slots (tc_gl L) u pc lv (.int n :: rest) := by
  intro ok H locs ls hH h0 hL hl
  obtain ⟨hx, hb, hml, hown, hts, hK, hlk, hrt, hX⟩ := id ok
  have hsz : H.size = z + L.length := hH.1
  refine va_newaK hx hb (hts _ harr) rfl hd rfl hn hN hbytes hcells hslots hsz fun H1 cA e1 z1 o1 hAr hNm => ?_
  refine kk ok H1 locs ls (hH.push _ (by rw [z1, hsz]) (fun q hq => o1 q (by rw [← hsz]; exact hq)) ?_) (fun q hq => (o1 q (by omega)).trans (h0 q hq)) hL hl
  have ek : (tc_gl (L ++ [(q, N, [])])).2.1 L.length = q := by show ((L ++ [_]).getD L.length _).1 = q; rw [tc_gl_new]
  have el : (tc_gl (L ++ [(q, N, [])])).2.2.1 L.length = N := by show ((L ++ [_]).getD L.length _).2.1 = N; rw [tc_gl_new]
  have hcA : cA = D.2 q ∧ defaultValue (newarray.typeOf atype) = .int 0 := by
    rcases hq with ⟨rfl, ht⟩ | ⟨rfl, ht⟩ | ⟨rfl, ht⟩
    · rw [ht] at hNm ⊢
      exact ⟨Option.some.inj (hNm.symm.trans (hK.2 0 _ rfl).2), rfl⟩
    · rw [ht] at hNm ⊢
      exact ⟨Option.some.inj (hNm.symm.trans (hK.2 1 _ rfl).2), rfl⟩
    · rw [ht] at hNm ⊢
      exact ⟨Option.some.inj (hNm.symm.trans (hK.2 2 _ rfl).2), rfl⟩
  unfold tc_cell
  rw [ek, el, if_neg (by omega), if_pos (by omega), e1, hcA.1, hcA.2, vp_cell_i]
  simp [tc_z]
/-- a final field is set, in the constructor -/
theorem tc_putF {G2 : tc_G} {i ci k index : Nat} {v : Value} {u2 : tc_S} (hin : meth.name = "<init>") (hi : tc_at G i ci) (hc : ci < 100) (hF : tc_FL own index ci k) (hfin : ∀ r : vw_C, vwCl[ci]? = some r → (r.2.1 k).2.2.2 = true ∧ (r.2.1 k).1 = own) (hn : narrow (tc_ty ci k) v = v) (hfit : fits (tc_ty ci k) v = true)
    (hG : G2.1 = G.1 ∧ G2.2.1 = G.2.1 ∧ G2.2.2.1 = G.2.2.1 ∧ ∀ j, j ≠ i → G2.2.2.2 j = G.2.2.2 j) (h1 : ∀ j, j ≠ i → u2.1 j = u.1 j) (h2 : u2.2 = u.2) (hnew : ∀ j, tc_val z (tc_ty ci j) (u2.1 i j) (u2.2 i j) (G2.2.2.2 i j) = if j = k then v else tc_val z (tc_ty ci j) (u.1 i j) (u.2 i j) (G.2.2.2 i j))
    (hd : decode cc pc = .ok (.putfield index, 3)) (kk : tc_R p l e R s m args below meth c z D cc own nL ret mc ms post cells slots G2 u2 (pc + 3) lv rest) : tc_R p l e R s m args below meth c z D cc own nL ret mc ms post cells slots G u pc lv (v :: .ref (z + i) :: rest) := by
  intro ok H locs ls hH h0 hL hl
  obtain ⟨hx, hb, hml, hown, hts, hK, hlk, hrt⟩ := id ok
  obtain ⟨⟨C, T, N⟩, hcl, hk, hlink⟩ := hF
  obtain ⟨r, g1, cell, q1, q2, q3, q4⟩ := hH.ob hi hc
  have hr : r = (C, T, N) := Option.some.inj (g1.symm.trans hcl)
  subst hr
  have hcls := tc_cls hcl
  have hap := va_apart (own := own) hts hcls.1 (tc_ty ci) hcls.2.1 hcls.2.2 hK hcl
  obtain ⟨hS, hfc, kC, hkC, hkind⟩ := hK.1 ci _ hcl
  obtain ⟨cf, kf, fi, f, hi2, hsl⟩ := hS k hk
  have hlay := hts _ (hcls.1 _ (u_in_lay hk))
  unfold u_lay at hlay
  rw [if_pos (hfin _ hcl).1] at hlay
  have hst := (u_facts hfc hkC (u_lays hts hcls.1 hk) hi2).1
  have hcf : m.cls = cf := by
    obtain ⟨_, _, c', _, _, _, -, -, hf', -, -, -, hown2, -⟩ := Cond.laysFinal_spec hlay
    have e1 : c' = cf := by have := hi2.symm.trans hf'; simp at this; exact this.1.symm
    rw [(hfin _ hcl).2] at hown2
    rw [← e1]; exact Option.some.inj (hown.symm.trans hown2)
  have h6 := u_fits hfc hkC hkind (Or.inr hlay) hi2 (hcls.2.1 k hk) hn hfit
  refine W.putFinK hx hb hown (hts _ hlink) hi2 hst hcf hin (by rw [q2]; exact h6) q1 q3 (by rw [hsl]; exact k2_hasslot (q4 k hk)) rfl rfl hd fun H' e1 e2 e3 => ?_
  rw [hsl] at e1 ⊢
  refine kk ok H' _ ls ⟨by rw [e2, hG.1]; exact hH.1, fun j hj => ?_, fun j hj hk2 k2 => ?_⟩ (fun q hq => (e3 q (Nat.ne_of_lt (Nat.lt_of_lt_of_le hq (Nat.le_add_right _ _)))).trans (h0 q hq)) (tc_locs hL) hl
  · rw [hG.1] at hj
    by_cases ej : j = i
    · subst ej
      unfold tc_cell
      rw [hG.2.1, hi.2, if_pos hc]
      refine ⟨_, hcl, t_OB.to (V := updV (fun k => tc_val z (tc_ty ci k) (u.1 j k) (u.2 j k) (G.2.2.2 j k)) k v) ⟨_, e1, q2, q3, t_set q4 hap hk v⟩ (fun x _ => ?_)⟩
      rw [hnew x]
      rfl
    · exact (hH.2.1 j hj).to (e3 _ (fun q => ej (Nat.add_left_cancel q))) (h1 j ej) (by rw [h2]) (by rw [hG.2.1]) (Or.inr (by rw [hG.2.2.1])) (hG.2.2.2 j ej)
  · rw [hG.1] at hj
    rw [hG.2.1] at hk2
    have ej : j ≠ i := fun ej => by subst ej; rw [hi.2] at hk2; omega
    rw [h1 j ej]
    exact hH.2.2 j hj hk2 k2
/-- an object is made: a word of ours alone -/
theorem tc_done {G2 : tc_G} {i : Nat} (hi : G.2.1 i < 100) (hG : G2.1 = G.1 ∧ G2.2.1 = G.2.1 ∧ (∀ j, j ≠ i → G2.2.2.1 j = G.2.2.1 j) ∧ G2.2.2.2 = G.2.2.2) {st : List Value} (kk : tc_R p l e R s m args below meth c z D cc own nL ret mc ms post cells slots G2 u pc lv st) : tc_R p l e R s m args below meth c z D cc own nL ret mc ms post cells slots G u pc lv st := by
  intro ok H locs ls hH h0 hL hl
  refine kk ok H locs ls ⟨by rw [hG.1]; exact hH.1, fun j hj => ?_, fun j hj hk k => ?_⟩ h0 hL hl
  · rw [hG.1] at hj
    refine (hH.2.1 j hj).to rfl rfl rfl (by rw [hG.2.1]) ?_ (by rw [hG.2.2.2])
    by_cases ej : j = i
    · subst ej; exact Or.inl hi
    · exact Or.inr (hG.2.2.1 j ej)
  · rw [hG.1] at hj
    rw [hG.2.1] at hk
    exact hH.2.2 j hj hk k
theorem tc_objInit {a index : Nat} (hlink : Cond.methodLink own index Lib.objectInit ∈ tc_T) (hinst : Cond.instanceMethod Lib.objectInit ∈ tc_T) (hcode : Cond.code Lib.objectInit ⟨#[0xb1]⟩ 1 none ∈ tc_T) (hframes : 1 ≤ R.frames) (hlocals : (rest.map fun v => v.category).sum + 12 ≤ R.locals) (hd : decode cc pc = .ok (.invokespecial index, 3)) (kk : tc_R p l e R s m args below meth c z D cc own nL ret mc ms post cells slots G u (pc + 3) lv rest) : tc_R p l e R s m args below meth c z D cc own nL ret mc ms post cells slots G u pc lv (.ref a :: rest) := by
  intro ok H locs ls hH h0 hL hl
  obtain ⟨hx, hb, hml, hown, hts, hK, hlk, hrt⟩ := id ok
  exact W.objInit hx hb hown (hts _ hlink) (hts _ hinst) (hts _ hcode) rfl (by rw [hml]; exact hl.1) rfl hd hframes (by show 2 * 0 + _ + 12 ≤ _; omega) (kk ok H locs ls hH h0 hL hl)
/-- a private constructor of a nest mate -/
theorem tc_callIN {y : MethodName} {bytes : ByteArray} {maxL fr lc mc1 ms1 i n index : Nat} {As st : List Value} {post1 : Option Value → tc_G → tc_S → Prop} (hd : decode cc pc = .ok (.invokespecial index, 3)) (hM : tc_C l z D y bytes maxL none fr lc mc1 ms1 (.ref (z + i) :: As) G u post1) (hlink : (own, index, y) ∈ tc_N) (hw : tc_MW y bytes maxL none n) (hv : y.name = "<init>" ∧ Cond.instanceMethod y ∈ tc_T) (hroom : fr + 1 ≤ R.frames ∧ 8 + (maxL + 11) + lc ≤ R.locals) (hn : As.length = n) (hst : st = As.reverse ++ .ref (z + i) :: rest) (hW8 : (rest.map fun v => v.category).sum ≤ 8) (hf : cells + mc1 ≤ R.cells ∧ slots + ms1 ≤ R.slots)
    (kk : ∀ (r : Option Value) (G1 : tc_G) (u1 : tc_S), post1 r G1 u1 → tc_R p l e R s m args below meth c z D cc own nL ret mc ms post (cells + mc1) (slots + ms1) G1 u1 (pc + 3) lv (r.toList ++ rest)) : tc_R p l e R s m args below meth c z D cc own nL ret mc ms post cells slots G u pc lv st := by
  intro ok H locs ls hH h0 hL hl
  obtain ⟨hx, hb, hml, hown, hts, hK, hlk, hrt, hX⟩ := id ok
  refine tc_after ok h0 hL hl (va_runIN (b := z + i) (As := As) (rest := rest) (Ts := tc_T) (nL := nL) ⟨hx, hb, hml, hown, hts⟩ hM ⟨va_cnB n hts (tc_good hw.1) rfl rfl rfl (hX.2.2.2.2.2.2.1 _ hlink) (hts _ hw.2.1) hw.2.2 hroom, hv.1, hts _ hv.2⟩ ⟨tc_blind, fun U hU hWU => ⟨rfl, by rw [hU]; exact hH, hK.moved hWU.alike, hX.warm hWU (fun q hq => by rw [hU]; exact h0 q hq)⟩⟩ rfl hn hl.1 hst (by simpa using hW8) hd hf) kk
end TCA
