/-! parts: partOf, membersOf -/
theorem edg_lt {g : mp} (hw : mwf g) : ∀ p ∈ edg g, p.1 < mn g 0 ∧ p.2 < mn g 0 := by
  intro p hp
  obtain ⟨e, -, he⟩ := List.mem_map.mp hp
  rw [← he]
  exact ⟨wA_hash hw.1.1 0 _, wA_hash hw.1.1 1 _⟩
theorem pm_partOf {G : tc_G} (hG : gm G) (h4 : gm4 G) {u : tc_S} {a : Nat} {g : mp} (hM : isM u 0 g) (hw : mwf g) (ha : a < mn g 0) : y2 (fn_X12_partOf G 71 (nI a) u) (fun r w => (∃ M, M < 2 ^ 16 ∧ r = nI M ∧ ∀ b, M.testBit b = true ↔ b < mn g 0 ∧ lb g b = lb g a) ∧ ls w (mes g) ∧ fr fL u w) := by
  have hfu := tc_fu_big
  have hn := hw.1.1.2.1.2
  have hE := edg_lt hw
  unfold fn_X12_partOf
  refine yl_b (pm_lists hG h4 (B := 0) (by omega) hM hw) fun _ w hl => yl_let ?_
  rw [nI_bit (by omega)]
  have hlt : 2 ^ a < 2 ^ 16 := Nat.pow_lt_pow_right (by omega) (by omega)
  have hpos : 0 < 2 ^ a := Nat.pow_pos (by omega)
  obtain ⟨M, M0, M1, M2, M3, M4⟩ := pm_po11 hG h4 (isM_L hM hl.2) hw hl.1 (fun p hp => by have := hE p hp; omega) 17 tc_fu (2 ^ a) 0 (by omega) hlt (by omega) (fun e => by omega) (Or.inl (by omega))
  refine ⟨_, M1, ⟨M, M0, rfl, fun b => ?_⟩, hl.1, hl.2⟩
  have t1 : ∀ b, (2 ^ a).testBit b = true → b = a := fun b hb => by
    rw [Nat.testBit_two_pow] at hb
    exact (of_decide_eq_true hb).symm
  refine rnd_end hE M2 (M3 a (by rw [Nat.testBit_two_pow]; exact decide_eq_true rfl)) (fun x hx => ?_) b
  have s1 := M4 (fun y => y < mn g 0) (fun p hp => ⟨fun _ => (hE p hp).2, fun _ => (hE p hp).1⟩) (fun y hy => by rw [t1 y hy]; exact ha) x hx
  have s2 := M4 (fun y => lb g y = lb g a) (lb_clo g a) (fun y hy => by rw [t1 y hy]) x hx
  exact ⟨s1, s2⟩
theorem pm_members {G : tc_G} (hG : gm G) (h4 : gm4 G) {u : tc_S} {a M : Nat} {g : mp} (hM : isM u 0 g) (hw : mwf g) (hl : ls u (mes g)) (hM2 : M < 2 ^ 16) (ht : ∀ b, M.testBit b = true ↔ b < mn g 0 ∧ lb g b = lb g a) : fn_X12_membersOf G 71 (nI M) u = some (nI (mmn (lb g) (lb g a) (edg g)), u) := by
  have hfu := tc_fu_big
  have hk := mwf_ok hw
  have aa := hw.1.1
  have hnb := aa.2.1.2
  have hln := mes_len hw
  have lo : ∀ (n k f c : Nat), k + n = (mes g).length → n < f → lo_X12_membersOf_4 G f 71 (nI M) (nI c) (nI k) u = some (nI (c + mmn (lb g) (lb g a) (((mes g).drop k).map (ed g))), u) := by
    intro n
    induction n with
    | zero =>
      intro k f c hk2 hf
      obtain ⟨f, rfl⟩ : ∃ k, f = k + 1 := ⟨f - 1, by omega⟩
      rw [lo_X12_membersOf_4, hl.1, pu_le (by omega) (by omega), if_pos (by omega), List.drop_eq_nil_of_le (by omega)]
      rfl
    | succ n ih =>
      intro k f c hk2 hf
      obtain ⟨f, rfl⟩ : ∃ k, f = k + 1 := ⟨f - 1, by omega⟩
      obtain ⟨q, q1, q2⟩ := mes_key hw ((mes g)[k]) (List.getElem_mem (by omega))
      have l0 := wA_hash aa 0 q
      have e0 : fn_X12_hashOf G 71 0 (nI q) 0 u = some (nI (mhash g 0 q), u) := pm_hash hG (B := 0) (by omega) hM hk (w := 0) (by omega) q1
      have ee : ed g (mes g)[k] = (mhash g 0 q, mhash g 1 q) := by
        unfold ed
        rw [q2, nI_clamp (by omega), show q + 1 - 1 = q by omega]
      rw [lo_X12_membersOf_4, hl.1, pu_le (by omega) (by omega), if_neg (by omega), h4.1, show (4 : Int32) * nI k = nI (4 * k) from pk_mul 4 k, pu_ld h4.2 (by omega) (by omega), (hl.2 k (by omega)).1, q2, nI_pred, e0, pu_b, ls_drop (by omega), List.map_cons, ee, nI_tst hM2 (by omega)]
      unfold tc_let
      rw [nI_add, nI_1]
      show lo_X12_membersOf_4 G f 71 (nI M) (nI (c + (if M.testBit (mhash g 0 q) = true then 1 else 0))) (nI (k + 1)) u = _
      rw [ih (k + 1) f _ (by omega) (by omega), mmn]
      have e : (if M.testBit (mhash g 0 q) = true then 1 else 0) = (if lb g (mhash g 0 q) = lb g a then 1 else 0) := by
        by_cases d : lb g (mhash g 0 q) = lb g a
        · rw [if_pos d, if_pos ((ht _).mpr ⟨l0, d⟩)]
        · rw [if_neg d, if_neg (fun z => d ((ht _).mp z).2)]
      rw [e, Nat.add_assoc]
  have := lo (mes g).length 0 tc_fu 0 (Nat.zero_add _) (by omega)
  rw [List.drop_zero, Nat.zero_add] at this
  exact this
