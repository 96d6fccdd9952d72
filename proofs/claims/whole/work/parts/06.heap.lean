/-! fields and rows of numbers -/
/-- an object's kind; tc_is: it is made, too (an object that is being made has length 1) -/
def tc_at (G : tc_G) (i q : Nat) : Prop := i < G.1 ∧ G.2.1 i = q
def tc_is (G : tc_G) (i q : Nat) : Prop := tc_at G i q ∧ (q < 100 → G.2.2.1 i = 0)
def tc_p (G : tc_G) (i k : Nat) : Nat := (G.2.2.2 i k).getD 0
/-- every reference that a made object holds is there, and is of its kind -/
def tc_W (G : tc_G) : Prop := (∀ i k, i < G.1 → G.2.1 i < 100 → G.2.2.1 i = 0 → tc_pk (G.2.1 i) k < 999 → G.2.2.2 i k = some (tc_p G i k) ∧ tc_is G (tc_p G i k) (tc_pk (G.2.1 i) k)) ∧ ∀ i, tc_at G i 103 → ∀ k j, G.2.2.2 i k = some j → tc_is G j 10
theorem tc_W.p {G : tc_G} (h : tc_W G) {i ci : Nat} (hi : tc_is G i ci) (k : Nat) {q : Nat} (hq : tc_pk ci k = q) (hlt : q < 999 := by decide) (hci : ci < 100 := by decide) : tc_is G (tc_p G i k) q := by
  obtain ⟨⟨h1, rfl⟩, h2⟩ := hi
  subst hq
  exact (h.1 i k h1 hci (h2 hci) hlt).2
theorem tc_W.s {G : tc_G} (h : tc_W G) {i ci : Nat} (hi : tc_is G i ci) (k : Nat) {q : Nat} (hq : tc_pk ci k = q) (hlt : q < 999 := by decide) (hci : ci < 100 := by decide) : G.2.2.2 i k = some (tc_p G i k) := by
  obtain ⟨⟨h1, rfl⟩, h2⟩ := hi
  subst hq
  exact (h.1 i k h1 hci (h2 hci) hlt).1
section TCH
variable {p : Program} {l : Launch} {e : Env} {R : Room} {s : State} {m : MethodId} {args : Array Value} {below : List Frame} {meth : Method} {c : Code} {z : Nat} {D : tc_D} {cc : ByteArray} {own : String} {nL : Nat} {ret : Option FieldType} {mc ms : Nat} {post : Option Value → tc_G → tc_S → Prop} {cells slots : Nat} {G : tc_G} {u : tc_S} {pc : Nat} {lv : List (Nat × Value)} {rest : List Value}
/-- an object's cell, out of the heap -/
theorem tc_H.ob {H : Heap} (h : tc_H z D G u H) {i ci : Nat} (hi : tc_at G i ci) (hc : ci < 100) : ∃ r : vw_C, vwCl[ci]? = some r ∧ t_OB (z + i) (D.1.1 ci) r.2.2 (D.1.2 ci) H (fun k => tc_val z (tc_ty ci k) (u.1 i k) (u.2 i k) (G.2.2.2 i k)) := by
  obtain ⟨h1, rfl⟩ := hi
  have h2 := h.2.1 i h1
  unfold tc_cell at h2
  rw [if_pos hc] at h2
  exact h2
theorem tc_H.ar {H : Heap} (h : tc_H z D G u H) {i q : Nat} (hi : tc_at G i q) (h1 : 100 ≤ q) (h3 : q < 103) : H[z + i]? = some (vp_cell (D.2 q) (G.2.2.1 i, .inl (u.1 i))) := by
  obtain ⟨h0, rfl⟩ := hi
  have h2 := h.2.1 i h0
  unfold tc_cell at h2
  rw [if_neg (by omega), if_pos h3] at h2
  exact h2
/-- getfield, whatever it is -/
theorem tc_getv {i ci k index : Nat} {v : Value} (hi : tc_at G i ci) (hc : ci < 100) (hF : tc_FL own index ci k) (hv : tc_val z (tc_ty ci k) (u.1 i k) (u.2 i k) (G.2.2.2 i k) = v) (hd : decode cc pc = .ok (.getfield index, 3)) (kk : tc_R p l e R s m args below meth c z D cc own nL ret mc ms post cells slots G u (pc + 3) lv (v :: rest)) : tc_R p l e R s m args below meth c z D cc own nL ret mc ms post cells slots G u pc lv (.ref (z + i) :: rest) := by
  intro ok H locs ls hH h0 hL hl
  obtain ⟨hx, hb, hml, hown, hts, hK, hlk, hrt⟩ := id ok
  obtain ⟨⟨C, T, N⟩, hcl, hk, hlink⟩ := hF
  obtain ⟨r, h1, cell, q1, q2, q3, q4⟩ := hH.ob hi hc
  have hr : r = (C, T, N) := Option.some.inj (h1.symm.trans hcl)
  subst hr
  obtain ⟨hS, hfc, kC, hkC, hkind⟩ := hK.1 ci _ hcl
  obtain ⟨cf, kf, fi, f, hi2, hsl⟩ := hS k hk
  refine W.getf hx hb hown (hts _ hlink) hi2 (u_facts hfc hkC (u_lays hts (tc_cls hcl).1 hk) hi2).1 q1 (by rw [q3]; exact fun h => by cases h) (v := v) ?_ rfl rfl hd (kk ok H locs ls hH h0 hL hl)
  rw [hsl, q4 k hk]
  exact congrArg some hv
theorem tc_geti {i ci k index : Nat} (hi : tc_at G i ci) (hF : tc_FL own index ci k) (hd : decode cc pc = .ok (.getfield index, 3)) (kk : tc_R p l e R s m args below meth c z D cc own nL ret mc ms post cells slots G u (pc + 3) lv (.int (u.1 i k) :: rest)) (hv : ∀ x y q, tc_val z (tc_ty ci k) x y q = .int x := by exact fun _ _ _ => rfl) (hc : ci < 100 := by decide) : tc_R p l e R s m args below meth c z D cc own nL ret mc ms post cells slots G u pc lv (.ref (z + i) :: rest) := tc_getv hi hc hF (hv _ _ _) hd kk
theorem tc_getl {i ci k index : Nat} (hi : tc_at G i ci) (hF : tc_FL own index ci k) (hd : decode cc pc = .ok (.getfield index, 3)) (kk : tc_R p l e R s m args below meth c z D cc own nL ret mc ms post cells slots G u (pc + 3) lv (.long (u.2 i k) :: rest)) (hv : ∀ x y q, tc_val z (tc_ty ci k) x y q = .long y := by exact fun _ _ _ => rfl) (hc : ci < 100 := by decide) : tc_R p l e R s m args below meth c z D cc own nL ret mc ms post cells slots G u pc lv (.ref (z + i) :: rest) := tc_getv hi hc hF (hv _ _ _) hd kk
theorem tc_getp {i ci k index q : Nat} (hW : tc_W G) (hi : tc_is G i ci) (hF : tc_FL own index ci k) (hd : decode cc pc = .ok (.getfield index, 3)) (hq : tc_pk ci k = q) (kk : tc_R p l e R s m args below meth c z D cc own nL ret mc ms post cells slots G u (pc + 3) lv (.ref (z + tc_p G i k) :: rest)) (hlt : q < 999 := by decide) (hv : ∀ x y q, tc_val z (tc_ty ci k) x y q = va_rf (q.map (fun j => z + j)) := by exact fun _ _ _ => rfl) (hc : ci < 100 := by decide) : tc_R p l e R s m args below meth c z D cc own nL ret mc ms post cells slots G u pc lv (.ref (z + i) :: rest) := tc_getv hi.1 hc hF (by rw [hv, hW.s hi k hq hlt hc]; rfl) hd kk
/-- the heap behind a write of one number -/
theorem tc_H.put {H H1 : Heap} (h : tc_H z D G u H) {i : Nat} (hi : i < G.1) {u2 : tc_S} (h1 : ∀ j, j ≠ i → u2.1 j = u.1 j) (h2 : ∀ j, j ≠ i → u2.2 j = u.2 j) (hz : H1.size = H.size) (ho : ∀ q : Nat, q ≠ z + i → H1[q]? = H[q]?) (hc : tc_cell z D G u2 i H1) (hb : G.2.1 i = 101 → ∀ k, fits .byte (.int (u2.1 i k)) = true) : tc_H z D G u2 H1 := by
  refine ⟨hz.trans h.1, fun j hj => ?_, fun j hj hk k => ?_⟩
  · by_cases e : j = i
    · subst e; exact hc
    · exact (h.2.1 j hj).kept (ho _ (by omega)) (h1 j e) (h2 j e)
  · by_cases e : j = i
    · subst e; exact hb hk k
    · rw [h1 j e]; exact h.2.2 j hj hk k
theorem tc_putv {i ci k index : Nat} {v : Value} {u2 : tc_S} (hi : tc_at G i ci) (hc : ci < 100) (hF : tc_FL own index ci k) (hfin : ∀ r : vw_C, vwCl[ci]? = some r → (r.2.1 k).2.2.2 = false) (hn : narrow (tc_ty ci k) v = v) (hfit : fits (tc_ty ci k) v = true)
    (h1 : ∀ j, j ≠ i → u2.1 j = u.1 j) (h2 : ∀ j, j ≠ i → u2.2 j = u.2 j) (hnew : ∀ j, tc_val z (tc_ty ci j) (u2.1 i j) (u2.2 i j) (G.2.2.2 i j) = if j = k then v else tc_val z (tc_ty ci j) (u.1 i j) (u.2 i j) (G.2.2.2 i j))
    (hd : decode cc pc = .ok (.putfield index, 3)) (kk : tc_R p l e R s m args below meth c z D cc own nL ret mc ms post cells slots G u2 (pc + 3) lv rest) : tc_R p l e R s m args below meth c z D cc own nL ret mc ms post cells slots G u pc lv (v :: .ref (z + i) :: rest) := by
  intro ok H locs ls hH h0 hL hl
  obtain ⟨hx, hb, hml, hown, hts, hK, hlk, hrt⟩ := id ok
  obtain ⟨⟨C, T, N⟩, hcl, hk, hlink⟩ := hF
  obtain ⟨r, g1, cell, q1, q2, q3, q4⟩ := hH.ob hi hc
  have hr : r = (C, T, N) := Option.some.inj (g1.symm.trans hcl)
  subst hr
  have hcls := tc_cls hcl
  have hap := va_apart (own := own) hts hcls.1 (tc_ty ci) hcls.2.1 hcls.2.2 hK hcl
  obtain ⟨hS, hfc, kC, hkC, hkind⟩ := hK.1 ci _ hcl
  obtain ⟨cf, kf, fi, f, hi2, hsl⟩ := hS k hk
  have hlay := hts _ (hcls.1 _ (u_in_lay hk))
  unfold u_lay at hlay
  rw [if_neg (by rw [hfin _ hcl]; decide)] at hlay
  have hst := (u_facts hfc hkC (u_lays hts hcls.1 hk) hi2).1
  have h6 := u_store hfc hkC hkind hlay hi2 (hcls.2.1 k hk) hn hfit
  refine W.putK hx hb (f := f) ⟨hown, hts _ hlink, ⟨_, _, _, hi2⟩, hst⟩ (by rw [q2]; exact h6) q1 q3 (by rw [hsl]; exact k2_hasslot (q4 k hk)) rfl rfl hd fun H' e1 e2 e3 => ?_
  rw [hsl] at e1 ⊢
  refine kk ok H' _ ls (hH.put hi.1 h1 h2 e2 e3 ?_ (fun h => by rw [hi.2] at h; omega)) (fun q hq => (e3 q (Nat.ne_of_lt (Nat.lt_of_lt_of_le hq (Nat.le_add_right _ _)))).trans (h0 q hq)) (fun q hq => ?_) hl
  · unfold tc_cell
    rw [hi.2, if_pos hc]
    refine ⟨_, hcl, t_OB.to (V := updV (fun k => tc_val z (tc_ty ci k) (u.1 i k) (u.2 i k) (G.2.2.2 i k)) k v) ⟨_, e1, q2, q3, t_set q4 hap hk v⟩ (fun j _ => ?_)⟩
    rw [hnew j]
    rfl
  · rcases List.mem_append.mp hq with h | h
    · exact hL q h
    · rw [List.mem_singleton.mp h]; exact Nat.le_add_right _ _
theorem tc_puti {i ci k index : Nat} {x : Int32} (hi : tc_at G i ci) (hF : tc_FL own index ci k) (hd : decode cc pc = .ok (.putfield index, 3)) (kk : tc_R p l e R s m args below meth c z D cc own nL ret mc ms post cells slots G (tc_w u i k x) (pc + 3) lv rest) (hty : tc_ty ci k = .int := by rfl) (hfin : ∀ r : vw_C, vwCl[ci]? = some r → (r.2.1 k).2.2.2 = false := by intro r hr; cases hr; rfl) (hc : ci < 100 := by decide) : tc_R p l e R s m args below meth c z D cc own nL ret mc ms post cells slots G u pc lv (.int x :: .ref (z + i) :: rest) := by
  refine tc_putv (u2 := tc_w u i k x) hi hc hF hfin (by rw [hty]; rfl) (by rw [hty]; rfl) (fun j h => tc_w_ne h) (fun j _ => rfl) (fun j => ?_) hd kk
  by_cases e : j = k
  · subst e; simp [tc_w, hty, tc_val]
  · simp [tc_w, e]
theorem tc_putz {i ci k index : Nat} {x : Int32} (hx : x = 0 ∨ x = 1) (hi : tc_at G i ci) (hF : tc_FL own index ci k) (hd : decode cc pc = .ok (.putfield index, 3)) (kk : tc_R p l e R s m args below meth c z D cc own nL ret mc ms post cells slots G (tc_w u i k x) (pc + 3) lv rest) (hty : tc_ty ci k = .boolean := by rfl) (hfin : ∀ r : vw_C, vwCl[ci]? = some r → (r.2.1 k).2.2.2 = false := by intro r hr; cases hr; rfl) (hc : ci < 100 := by decide) : tc_R p l e R s m args below meth c z D cc own nL ret mc ms post cells slots G u pc lv (.int x :: .ref (z + i) :: rest) := by
  refine tc_putv (u2 := tc_w u i k x) hi hc hF hfin (by rw [hty]; rcases hx with rfl | rfl <;> rfl) (by rw [hty]; rcases hx with rfl | rfl <;> rfl) (fun j h => tc_w_ne h) (fun j _ => rfl) (fun j => ?_) hd kk
  by_cases e : j = k
  · subst e; simp [tc_w, hty, tc_val]
  · simp [tc_w, e]
theorem tc_putl {i ci k index : Nat} {x : Int64} (hi : tc_at G i ci) (hF : tc_FL own index ci k) (hd : decode cc pc = .ok (.putfield index, 3)) (kk : tc_R p l e R s m args below meth c z D cc own nL ret mc ms post cells slots G (tc_wl u i k x) (pc + 3) lv rest) (hty : tc_ty ci k = .long := by rfl) (hfin : ∀ r : vw_C, vwCl[ci]? = some r → (r.2.1 k).2.2.2 = false := by intro r hr; cases hr; rfl) (hc : ci < 100 := by decide) : tc_R p l e R s m args below meth c z D cc own nL ret mc ms post cells slots G u pc lv (.long x :: .ref (z + i) :: rest) := by
  refine tc_putv (u2 := tc_wl u i k x) hi hc hF hfin (by rw [hty]; rfl) (by rw [hty]; rfl) (fun j _ => rfl) (fun j h => tc_wl_ne h) (fun j => ?_) hd kk
  by_cases e : j = k
  · subst e; simp [tc_wl, hty, tc_val]
  · simp [tc_wl, e]
theorem tc_ari {D : tc_D} {U : State} (h : tc_K D U) : ArrOfT U (D.2 100) .int := (h.2 0 _ rfl).1
theorem tc_arb {D : tc_D} {U : State} (h : tc_K D U) : ArrOfT U (D.2 101) .byte := (h.2 1 _ rfl).1
theorem tc_arz {D : tc_D} {U : State} (h : tc_K D U) : ArrOfT U (D.2 102) .boolean := (h.2 2 _ rfl).1
theorem tc_iald {i : Nat} {j : Int32} (hi : tc_at G i 100) (hin : vp_in j (G.2.2.1 i)) (hd : decode cc pc = .ok (.iaload, 1)) (kk : tc_R p l e R s m args below meth c z D cc own nL ret mc ms post cells slots G u (pc + 1) lv (.int (u.1 i j.toNatClampNeg) :: rest)) : tc_R p l e R s m args below meth c z D cc own nL ret mc ms post cells slots G u pc lv (.int j :: .ref (z + i) :: rest) := by
  intro ok H locs ls hH h0 hL hl
  have hlt : j.toNatClampNeg < G.2.2.1 i := Nat.not_le.mp fun q => hin (Or.inr q)
  exact W.iald (v := .int (u.1 i j.toNatClampNeg)) ok.1 ok.2.1 (hH.ar hi (by decide) (by decide)) (tc_ari ok.2.2.2.2.2.1 _ _) (fun q => by cases q) (by show ¬ (j < 0 ∨ (arrV _ _ _).slots.size ≤ _); rw [arrV_size]; exact hin) (by show (arrV _ _ _).slots[_]? = _; rw [arrV_read _ _ hlt]) rfl rfl hd (kk ok H locs ls hH h0 hL hl)
theorem tc_bald {i : Nat} {j : Int32} (hi : tc_at G i 101) (hin : vp_in j (G.2.2.1 i)) (hd : decode cc pc = .ok (.baload, 1)) (kk : tc_R p l e R s m args below meth c z D cc own nL ret mc ms post cells slots G u (pc + 1) lv (.int (u.1 i j.toNatClampNeg) :: rest)) : tc_R p l e R s m args below meth c z D cc own nL ret mc ms post cells slots G u pc lv (.int j :: .ref (z + i) :: rest) := by
  intro ok H locs ls hH h0 hL hl
  have hlt : j.toNatClampNeg < G.2.2.1 i := Nat.not_le.mp fun q => hin (Or.inr q)
  exact W.bald (v := .int (u.1 i j.toNatClampNeg)) ok.1 ok.2.1 (hH.ar hi (by decide) (by decide)) (tc_arb ok.2.2.2.2.2.1 _ _) (fun q => by cases q) (by show ¬ (j < 0 ∨ (arrV _ _ _).slots.size ≤ _); rw [arrV_size]; exact hin) (by show (arrV _ _ _).slots[_]? = _; rw [arrV_read _ _ hlt]) rfl rfl hd (kk ok H locs ls hH h0 hL hl)
theorem tc_zald {i : Nat} {j : Int32} (hi : tc_at G i 102) (hin : vp_in j (G.2.2.1 i)) (hd : decode cc pc = .ok (.baload, 1)) (kk : tc_R p l e R s m args below meth c z D cc own nL ret mc ms post cells slots G u (pc + 1) lv (.int (u.1 i j.toNatClampNeg) :: rest)) : tc_R p l e R s m args below meth c z D cc own nL ret mc ms post cells slots G u pc lv (.int j :: .ref (z + i) :: rest) := by
  intro ok H locs ls hH h0 hL hl
  have hlt : j.toNatClampNeg < G.2.2.1 i := Nat.not_le.mp fun q => hin (Or.inr q)
  exact W.zald (v := .int (u.1 i j.toNatClampNeg)) ok.1 ok.2.1 (hH.ar hi (by decide) (by decide)) (tc_arz ok.2.2.2.2.2.1 _ _) (fun q => by cases q) (by show ¬ (j < 0 ∨ (arrV _ _ _).slots.size ≤ _); rw [arrV_size]; exact hin) (by show (arrV _ _ _).slots[_]? = _; rw [arrV_read _ _ hlt]) rfl rfl hd (kk ok H locs ls hH h0 hL hl)
theorem tc_alen {i q : Nat} (hi : tc_at G i q) (h1 : 100 ≤ q) (h3 : q < 103) (hd : decode cc pc = .ok (.arraylength, 1)) (kk : tc_R p l e R s m args below meth c z D cc own nL ret mc ms post cells slots G u (pc + 1) lv (.int (Int32.ofNat (G.2.2.1 i)) :: rest)) : tc_R p l e R s m args below meth c z D cc own nL ret mc ms post cells slots G u pc lv (.ref (z + i) :: rest) := by
  intro ok H locs ls hH h0 hL hl
  have hA : ∃ ty, ArrOfT s (D.2 q) ty := by
    rcases (show q = 100 ∨ q = 101 ∨ q = 102 by omega) with rfl | rfl | rfl
    · exact ⟨_, tc_ari ok.2.2.2.2.2.1⟩
    · exact ⟨_, tc_arb ok.2.2.2.2.2.1⟩
    · exact ⟨_, tc_arz ok.2.2.2.2.2.1⟩
  obtain ⟨ty, hA⟩ := hA
  exact W.alen ok.1 ok.2.1 (hH.ar hi h1 h3) (hA _ _) (by show (arrV _ _ _).slots.size.toInt32 = _; rw [arrV_size]) rfl rfl hd (kk ok H locs ls hH h0 hL hl)
/-- the row's cell behind a store -/
theorem tc_rowput {H1 : Heap} {i q k n : Nat} {v : Value} {x : Int32} (hi : tc_at G i q) (h1 : 100 ≤ q) (h3 : q < 103) (hv : v = .int x) (e : H1[z + i]? = some ((vp_cell (D.2 q) (G.2.2.1 i, .inl (u.1 i))).setSlot k v)) : tc_cell z D G (tc_w u i k x) i H1 := by
  unfold tc_cell
  rw [hi.2, if_neg (by omega), if_pos h3, e, tc_w_row, hv]
  rw [vp_cell_i, vp_cell_i, arrV_store]
  congr 2
  funext j
  by_cases hq : j = k
  · subst hq; simp [updV, upd]
  · simp [updV, upd, hq]
theorem tc_locs {locs : List Loc} {i k : Nat} (hL : ∀ q ∈ locs, z ≤ q.base) : ∀ q ∈ locs ++ [⟨z + i, k⟩], z ≤ q.base := by
  intro q hq
  rcases List.mem_append.mp hq with h | h
  · exact hL q h
  · rw [List.mem_singleton.mp h]; exact Nat.le_add_right _ _
theorem tc_iast {i : Nat} {j x : Int32} (hi : tc_at G i 100) (hin : vp_in j (G.2.2.1 i)) (hd : decode cc pc = .ok (.iastore, 1)) (kk : tc_R p l e R s m args below meth c z D cc own nL ret mc ms post cells slots G (tc_w u i j.toNatClampNeg x) (pc + 1) lv rest) : tc_R p l e R s m args below meth c z D cc own nL ret mc ms post cells slots G u pc lv (.int x :: .int j :: .ref (z + i) :: rest) := by
  intro ok H locs ls hH h0 hL hl
  refine W.iast ok.1 ok.2.1 (hH.ar hi (by decide) (by decide)) (tc_ari ok.2.2.2.2.2.1 _ _) (fun q => by cases q) (by show ¬ (j < 0 ∨ (arrV _ _ _).slots.size ≤ _); rw [arrV_size]; exact hin) rfl rfl hd fun H1 e ez oq => ?_
  exact kk ok H1 _ ls (hH.put hi.1 (fun _ h => tc_w_ne h) (fun _ _ => rfl) ez oq (tc_rowput (n := 0) hi (by decide) (by decide) rfl e) (fun h => by rw [hi.2] at h; cases h)) (fun q hq => (oq q (Nat.ne_of_lt (Nat.lt_of_lt_of_le hq (Nat.le_add_right _ _)))).trans (h0 q hq)) (tc_locs hL) hl
theorem tc_bast {i : Nat} {j x : Int32} (hi : tc_at G i 101) (hin : vp_in j (G.2.2.1 i)) (hd : decode cc pc = .ok (.bastore, 1)) (kk : tc_R p l e R s m args below meth c z D cc own nL ret mc ms post cells slots G (tc_w u i j.toNatClampNeg x.toInt8.toInt32) (pc + 1) lv rest) : tc_R p l e R s m args below meth c z D cc own nL ret mc ms post cells slots G u pc lv (.int x :: .int j :: .ref (z + i) :: rest) := by
  intro ok H locs ls hH h0 hL hl
  refine W.bast ok.1 ok.2.1 (hH.ar hi (by decide) (by decide)) (tc_arb ok.2.2.2.2.2.1 _ _) (fun q => by cases q) (by show ¬ (j < 0 ∨ (arrV _ _ _).slots.size ≤ _); rw [arrV_size]; exact hin) rfl rfl hd fun H1 e ez oq => ?_
  exact kk ok H1 _ ls (hH.put hi.1 (fun _ h => tc_w_ne h) (fun _ _ => rfl) ez oq (tc_rowput (n := 0) hi (by decide) (by decide) (narrow_byte x) e) (fun h k => by
    rw [tc_w_row]
    unfold upd
    split
    · exact pk_fb x
    · exact hH.2.2 i hi.1 h k)) (fun q hq => (oq q (Nat.ne_of_lt (Nat.lt_of_lt_of_le hq (Nat.le_add_right _ _)))).trans (h0 q hq)) (tc_locs hL) hl
theorem tc_zast {i : Nat} {j x : Int32} (hx : x = 0 ∨ x = 1) (hi : tc_at G i 102) (hin : vp_in j (G.2.2.1 i)) (hd : decode cc pc = .ok (.bastore, 1)) (kk : tc_R p l e R s m args below meth c z D cc own nL ret mc ms post cells slots G (tc_w u i j.toNatClampNeg x) (pc + 1) lv rest) : tc_R p l e R s m args below meth c z D cc own nL ret mc ms post cells slots G u pc lv (.int x :: .int j :: .ref (z + i) :: rest) := by
  intro ok H locs ls hH h0 hL hl
  refine W.zast ok.1 ok.2.1 (hH.ar hi (by decide) (by decide)) (tc_arz ok.2.2.2.2.2.1 _ _) (fun q => by cases q) (by show ¬ (j < 0 ∨ (arrV _ _ _).slots.size ≤ _); rw [arrV_size]; exact hin) rfl rfl hd fun H1 e ez oq => ?_
  exact kk ok H1 _ ls (hH.put hi.1 (fun _ h => tc_w_ne h) (fun _ _ => rfl) ez oq (tc_rowput (n := 0) hi (by decide) (by decide) (by rcases hx with rfl | rfl <;> rfl) e) (fun h => by rw [hi.2] at h; cases h)) (fun q hq => (oq q (Nat.ne_of_lt (Nat.lt_of_lt_of_le hq (Nat.le_add_right _ _)))).trans (h0 q hq)) (tc_locs hL) hl
end TCH
