/-! System.arraycopy between two rows of one kind -/
def tc_wr (u : tc_S) (i : Nat) (f : Nat → Int32) : tc_S := (fun a => if a = i then f else u.1 a, u.2)
theorem tc_wr_ne {u : tc_S} {i : Nat} {f : Nat → Int32} {j : Nat} (h : j ≠ i) : (tc_wr u i f).1 j = u.1 j := by simp [tc_wr, h]
theorem tc_wr_row (u : tc_S) (i : Nat) (f : Nat → Int32) : (tc_wr u i f).1 i = f := by simp [tc_wr]
def tc_cp {β : Type} (G : tc_G) (u : tc_S) (a : Nat) (sp : Int32) (b : Nat) (dp n : Int32) (k : tc_S → Option β) : Option β :=
  if sp < 0 ∨ dp < 0 ∨ n < 0 ∨ G.2.2.1 a < sp.toNatClampNeg + n.toNatClampNeg ∨ G.2.2.1 b < dp.toNatClampNeg + n.toNatClampNeg then none else k (tc_wr u b (va_cpy (u.1 a) (u.1 b) sp.toNatClampNeg dp.toNatClampNeg n.toNatClampNeg))
theorem tc_cp_ex {β : Type} {G : tc_G} {u : tc_S} {a b : Nat} {sp dp n : Int32} {k : tc_S → Option β} {r : β} (h : tc_cp G u a sp b dp n k = some r) : (¬ sp < 0 ∧ ¬ dp < 0 ∧ ¬ n < 0 ∧ sp.toNatClampNeg + n.toNatClampNeg ≤ G.2.2.1 a ∧ dp.toNatClampNeg + n.toNatClampNeg ≤ G.2.2.1 b) ∧ ∃ u1, u1 = tc_wr u b (va_cpy (u.1 a) (u.1 b) sp.toNatClampNeg dp.toNatClampNeg n.toNatClampNeg) ∧ k u1 = some r := by
  unfold tc_cp at h
  split at h
  · cases h
  · rename_i h1
    exact ⟨⟨fun q => h1 (Or.inl q), fun q => h1 (Or.inr (Or.inl q)), fun q => h1 (Or.inr (Or.inr (Or.inl q))), Nat.not_lt.mp fun q => h1 (Or.inr (Or.inr (Or.inr (Or.inl q)))), Nat.not_lt.mp fun q => h1 (Or.inr (Or.inr (Or.inr (Or.inr q))))⟩, _, rfl, h⟩
theorem wc_n : Cond.native arraycopyName ∈ tc_T := tc_mem (by decide +kernel) (by decide +kernel)
theorem wc_s : Cond.static arraycopyName ∈ tc_T := tc_mem (by decide +kernel) (by decide +kernel)
theorem wc_i : Cond.initialized "java/lang/System" ∈ tc_T := tc_mem (by decide +kernel) (by decide +kernel)
theorem tc_nfw : nativeFrameWords "java/lang/System" "arraycopy" 5 = 7 := by decide +kernel
section TCY
variable {p : Program} {l : Launch} {e : Env} {R : Room} {s : State} {m : MethodId} {args : Array Value} {below : List Frame} {meth : Method} {c : Code} {z : Nat} {D : tc_D} {cc : ByteArray} {own : String} {nL : Nat} {ret : Option FieldType} {mc ms : Nat} {post : Option Value → tc_G → tc_S → Prop} {cells slots : Nat} {G : tc_G} {u : tc_S} {pc : Nat} {lv : List (Nat × Value)} {rest : List Value}
theorem tc_copy {i j q index : Nat} {sp dp n : Int32} (hi : tc_at G i q) (hj : tc_at G j q) (hq : q = 100 ∨ q = 101) (hB : ¬ sp < 0 ∧ ¬ dp < 0 ∧ ¬ n < 0 ∧ sp.toNatClampNeg + n.toNatClampNeg ≤ G.2.2.1 i ∧ dp.toNatClampNeg + n.toNatClampNeg ≤ G.2.2.1 j) (hd : decode cc pc = .ok (.invokestatic index, 3)) (hlink : Cond.methodLink own index arraycopyName ∈ tc_T) (hframes : 1 ≤ R.frames) (hlocals : (rest.map fun v => v.category).sum + 18 ≤ R.locals)
    (kk : tc_R p l e R s m args below meth c z D cc own nL ret mc ms post cells slots G (tc_wr u j (va_cpy (u.1 i) (u.1 j) sp.toNatClampNeg dp.toNatClampNeg n.toNatClampNeg)) (pc + 3) lv rest) : tc_R p l e R s m args below meth c z D cc own nL ret mc ms post cells slots G u pc lv (.int n :: .int dp :: .ref (z + j) :: .int sp :: .ref (z + i) :: rest) := by
  intro ok H locs ls hH h0 hL hl
  obtain ⟨hx, hb, hml, hown, hts, hK, hlk, hrt⟩ := id ok
  obtain ⟨h1, h2, h3, h4, h5⟩ := hB
  have nn : ∀ z : Int32, ¬ z < 0 → z.toInt = (z.toNatClampNeg : Int) := by
    intro z hz
    have hz0 : (0 : Int) ≤ z.toInt := by
      have := Int32.not_lt.mp hz
      simpa using Int32.le_iff_toInt_le.mp this
    show z.toInt = ((z.toInt.toNat : Nat) : Int)
    omega
  intro T hT X
  have hc0 : H[z + i]? = some (vp_cell (D.2 q) (G.2.2.1 i, .inl (u.1 i))) := hH.ar hi (by omega) (by omega)
  have hc1 : H[z + j]? = some (vp_cell (D.2 q) (G.2.2.1 j, .inl (u.1 j))) := hH.ar hj (by omega) (by omega)
  obtain ⟨ty, hA, hprim, hfit⟩ : ∃ ty, ArrOfT s (D.2 q) ty ∧ refKind ty = false ∧ ∀ k, fits ty (.int (u.1 i k)) = true := by
    rcases hq with rfl | rfl
    · exact ⟨.int, tc_ari hK, rfl, fun _ => rfl⟩
    · exact ⟨.byte, tc_arb hK, rfl, hH.2.2 i hi.1 hi.2⟩
  obtain ⟨-, k0, hk0, cm0, hkk0⟩ := hA (G.2.2.1 i) (fun j => .int (u.1 i j))
  obtain ⟨-, k1, hk1, cm1, hkk1⟩ := hA (G.2.2.1 j) (fun k => .int (u.1 j k))
  obtain ⟨vm', X', step⟩ := X.arraycopy hx hown (hts _ hlink) (hts _ wc_n) (hts _ wc_s) (hts _ wc_i) (src := z + i) (dst := z + j) (cs := vp_cell (D.2 q) (G.2.2.1 i, .inl (u.1 i))) (cd := vp_cell (D.2 q) (G.2.2.1 j, .inl (u.1 j))) (srcPos := sp) (destPos := dp) (n := n) (by rw [hT]; exact hc0) (by rw [hT]; exact hc1)
    (fun _ h => by cases h) (fun _ h => by cases h) (fun h => by cases h) (fun h => by cases h) hk0 hk1 hkk0 hkk1 (by simp [hprim]) h1 h2 h3
    (by rw [nn sp h1, nn n h3]; show ¬ _ > ((arrV (D.2 q) (G.2.2.1 i) (fun j => .int (u.1 i j))).slots.size : Int); rw [arrV_size]; omega)
    (by rw [nn dp h2, nn n h3]; show ¬ _ > ((arrV (D.2 q) (G.2.2.1 j) (fun k => .int (u.1 j k))).slots.size : Int); rw [arrV_size]; omega)
    (fun vm₁ _ k hk => by
      have e : (vp_cell (D.2 q) (G.2.2.1 i, .inl (u.1 i))).slots.getD (sp.toNatClampNeg + k) .null = .int (u.1 i (sp.toNatClampNeg + k)) := by
        show (arrV (D.2 q) (G.2.2.1 i) (fun j => .int (u.1 i j))).slots.getD _ _ = _
        rw [Array.getD_eq_getD_getElem?, arrV_read _ _ (by omega)]
        rfl
      refine ⟨?_, ?_⟩
      · rw [e]
        exact hfit _
      · rw [e]
        exact trivial)
    (g := F0 m pc ls (.int n :: .int dp :: .ref (z + j) :: .int sp :: .ref (z + i) :: rest)) rfl (by rw [hml]; exact hl.1) (rest := rest) rfl (by rw [hb]; exact hd) hframes (by show 2 * 0 + _ + _ ≤ _; rw [tc_nfw]; omega)
  have e1 : copied (vp_cell (D.2 q) (G.2.2.1 i, .inl (u.1 i))) (vp_cell (D.2 q) (G.2.2.1 j, .inl (u.1 j))) sp dp n = vp_cell (D.2 q) (G.2.2.1 j, .inl (va_cpy (u.1 i) (u.1 j) sp.toNatClampNeg dp.toNatClampNeg n.toNatClampNeg)) := va_copied (fun z => .int z) (D.2 q) (D.2 q) (u.1 i) (u.1 j) h4
  rw [e1] at X' step
  have hlt : z + j < H.size := (Array.getElem?_eq_some_iff.mp hc1).1
  have hheap : ((T.setVm vm').setCell (z + j) (vp_cell (D.2 q) (G.2.2.1 j, .inl (va_cpy (u.1 i) (u.1 j) sp.toNatClampNeg dp.toNatClampNeg n.toNatClampNeg)))).heap = H.setIfInBounds (z + j) (vp_cell (D.2 q) (G.2.2.1 j, .inl (va_cpy (u.1 i) (u.1 j) sp.toNatClampNeg dp.toNatClampNeg n.toNatClampNeg))) := by rw [← hT]; rfl
  have oq : ∀ x : Nat, x ≠ z + j → (H.setIfInBounds (z + j) (vp_cell (D.2 q) (G.2.2.1 j, .inl (va_cpy (u.1 i) (u.1 j) sp.toNatClampNeg dp.toNatClampNeg n.toNatClampNeg))))[x]? = H[x]? := fun x hx => by simp [Array.getElem?_setIfInBounds, Ne.symm hx]
  have hself : (H.setIfInBounds (z + j) (vp_cell (D.2 q) (G.2.2.1 j, .inl (va_cpy (u.1 i) (u.1 j) sp.toNatClampNeg dp.toNatClampNeg n.toNatClampNeg))))[z + j]? = some (vp_cell (D.2 q) (G.2.2.1 j, .inl (va_cpy (u.1 i) (u.1 j) sp.toNatClampNeg dp.toNatClampNeg n.toNatClampNeg))) := by simp [Array.getElem?_setIfInBounds, hlt]
  have hH2 : tc_H z D G (tc_wr u j (va_cpy (u.1 i) (u.1 j) sp.toNatClampNeg dp.toNatClampNeg n.toNatClampNeg)) (H.setIfInBounds (z + j) (vp_cell (D.2 q) (G.2.2.1 j, .inl (va_cpy (u.1 i) (u.1 j) sp.toNatClampNeg dp.toNatClampNeg n.toNatClampNeg)))) := by
    refine hH.put hj.1 (fun k h => tc_wr_ne h) (fun _ _ => rfl) (by simp) oq ?_ (fun hk k => ?_)
    · unfold tc_cell
      rw [hj.2, if_neg (by omega), if_pos (by omega), tc_wr_row]
      exact hself
    · rw [tc_wr_row]
      unfold va_cpy
      have hqq : q = 101 := hj.2.symm.trans hk
      split
      · exact hH.2.2 i hi.1 (hi.2.trans hqq) _
      · exact hH.2.2 j hj.1 hk _
  obtain ⟨t, a1, b1⟩ := kk ok _ _ ls hH2 (fun x hx => (oq x (Nat.ne_of_lt (Nat.lt_of_lt_of_le hx (Nat.le_add_right _ _)))).trans (h0 x hx)) (fun x hx => by
      rcases List.mem_append.mp hx with h | h
      · exact hL x h
      · obtain ⟨y, -, hy⟩ := List.mem_map.mp h
        rw [← hy]
        exact Nat.le_add_right _ _) hl _ hheap X'
  exact ⟨t, step t a1, b1⟩
end TCY
