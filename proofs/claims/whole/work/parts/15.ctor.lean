/-! words for the constructors' functions -/
def tc_k0 (L : tc_L) (i : Nat) : Nat × Nat × List (Option Nat) := L.getD i (0, 0, [])
def tc_sp (L : tc_L) (i k j : Nat) : tc_L := L.set i ((tc_k0 L i).1, (tc_k0 L i).2.1, (tc_k0 L i).2.2.set k (some j))
def tc_dn (L : tc_L) (i : Nat) : tc_L := L.set i ((tc_k0 L i).1, 0, (tc_k0 L i).2.2)
/-- is every reference of a made object there, and of its kind? -/
def tc_rf (L : tc_L) (j q : Nat) : Bool := decide (j < L.length) && decide ((tc_k0 L j).1 = q) && (decide (100 ≤ q) || decide ((tc_k0 L j).2.1 = 0))
def tc_ok1 (L : tc_L) (o : Nat × Nat × List (Option Nat)) : Bool :=
  if o.1 < 100 then (decide (o.2.1 ≠ 0) || (List.range 40).all fun k => if tc_pk o.1 k < 999 then (match o.2.2.getD k none with | some j => tc_rf L j (tc_pk o.1 k) | none => false) else true)
  else if o.1 = 103 then o.2.2.all fun q => match q with | some j => tc_rf L j 10 | none => true else true
def tc_wf (L : tc_L) : Bool := L.all (tc_ok1 L)
theorem tc_rf_is {L : tc_L} {j q : Nat} (h : tc_rf L j q = true) : tc_is (tc_gl L) j q := by
  simp only [tc_rf, Bool.and_eq_true, Bool.or_eq_true, decide_eq_true_eq] at h
  exact ⟨⟨h.1.1, h.1.2⟩, fun hq => h.2.resolve_left (by omega)⟩
theorem tc_pk_lt : ∀ ci, ci < 100 → ∀ k, tc_pk ci k < 999 → k < 40 := by
  intro ci _ k h
  unfold tc_pk at h
  split at h <;> first | decide | (exact absurd h (by decide))
theorem tc_wf_W {L : tc_L} (h : tc_wf L = true) : tc_W (tc_gl L) := by
  have hm : ∀ i, i < L.length → tc_ok1 L (tc_k0 L i) = true := by
    intro i hi
    have h1 := List.all_eq_true.mp h
    refine h1 _ ?_
    unfold tc_k0
    rw [List.getD_eq_getElem?_getD, List.getElem?_eq_getElem hi]
    exact List.getElem_mem hi
  refine ⟨fun i k hi hk hl hp => ?_, fun i hi k j hj => ?_⟩
  · have h1 := hm i hi
    have hk : (tc_k0 L i).1 < 100 := hk
    have hl : (tc_k0 L i).2.1 = 0 := hl
    have hp : tc_pk (tc_k0 L i).1 k < 999 := hp
    unfold tc_ok1 at h1
    rw [if_pos hk] at h1
    simp only [hl, ne_eq, not_true, decide_false, Bool.false_or] at h1
    have h2 := List.all_eq_true.mp h1 k (List.mem_range.mpr (tc_pk_lt _ hk k hp))
    rw [if_pos hp] at h2
    have e : (tc_gl L).2.2.2 i k = (tc_k0 L i).2.2.getD k none := rfl
    have e2 : (tc_gl L).2.1 i = (tc_k0 L i).1 := rfl
    unfold tc_p
    rw [e, e2]
    cases hg : (tc_k0 L i).2.2.getD k none with
    | none => rw [hg] at h2; cases h2
    | some j =>
      rw [hg] at h2
      exact ⟨rfl, tc_rf_is h2⟩
  · have h1 := hm i hi.1
    have hk : (tc_k0 L i).1 = 103 := hi.2
    unfold tc_ok1 at h1
    rw [if_neg (by omega), if_pos hk] at h1
    have e : (tc_k0 L i).2.2.getD k none = some j := hj
    have hmem : some j ∈ (tc_k0 L i).2.2 := by
      rw [List.getD_eq_getElem?_getD] at e
      cases hq : (tc_k0 L i).2.2[k]? with
      | none => rw [hq] at e; cases e
      | some x =>
        rw [hq] at e
        have e : x = some j := e
        subst e
        exact List.mem_of_getElem? hq
    exact tc_rf_is (List.all_eq_true.mp h1 _ hmem)
def tc_wc {β : Type} (L : tc_L) (o : Option β) : Option β := if tc_wf L = true then o else none
theorem tc_wc_ex {β : Type} {L : tc_L} {o : Option β} {r : β} (h : tc_wc L o = some r) : tc_W (tc_gl L) ∧ o = some r := by
  unfold tc_wc at h
  split at h
  · rename_i h1; exact ⟨tc_wf_W h1, h⟩
  · cases h
def tc_kc {β : Type} (L : tc_L) (i q : Nat) (o : Option β) : Option β := if i < L.length ∧ (tc_k0 L i).1 = q then o else none
theorem tc_kc_ex {β : Type} {L : tc_L} {i q : Nat} {o : Option β} {r : β} (h : tc_kc L i q o = some r) : tc_at (tc_gl L) i q ∧ o = some r := by
  unfold tc_kc at h
  split at h
  · rename_i h1; exact ⟨h1, h⟩
  · cases h
def tc_kd {β : Type} (L : tc_L) (i q : Nat) (o : Option β) : Option β := if tc_rf L i q = true then o else none
theorem tc_kd_ex {β : Type} {L : tc_L} {i q : Nat} {o : Option β} {r : β} (h : tc_kd L i q o = some r) : tc_is (tc_gl L) i q ∧ o = some r := by
  unfold tc_kd at h
  split at h
  · rename_i h1; exact ⟨tc_rf_is h1, h⟩
  · cases h
def tc_ks {β : Type} (L : tc_L) (i k : Nat) (o : Option β) : Option β := if k < (tc_k0 L i).2.2.length then o else none
theorem tc_ks_ex {β : Type} {L : tc_L} {i k : Nat} {o : Option β} {r : β} (h : tc_ks L i k o = some r) : k < (tc_k0 L i).2.2.length ∧ o = some r := by
  unfold tc_ks at h
  split at h
  · rename_i h1; exact ⟨h1, h⟩
  · cases h
def tc_gp {β : Type} (L : tc_L) (i k : Nat) (o : Nat → Option β) : Option β := match (tc_gl L).2.2.2 i k with
  | some j => o j
  | none => none
theorem tc_gp_ex {β : Type} {L : tc_L} {i k : Nat} {o : Nat → Option β} {r : β} (h : tc_gp L i k o = some r) : ∃ j, (tc_gl L).2.2.2 i k = some j ∧ o j = some r := by
  unfold tc_gp at h
  cases hg : (tc_gl L).2.2.2 i k with
  | none => rw [hg] at h; cases h
  | some j => rw [hg] at h; exact ⟨j, rfl, h⟩
def tc_en {β : Type} (n m : Int32) (o : Option β) : Option β := if n = m then o else none
theorem tc_en_ex {β : Type} {n m : Int32} {o : Option β} {r : β} (h : tc_en n m o = some r) : n = m ∧ o = some r := by
  unfold tc_en at h
  split at h
  · rename_i h1; exact ⟨h1, h⟩
  · cases h
def tc_bl {β : Type} (o : Option (tc_L × tc_S)) (k : tc_L → tc_S → Option β) : Option β := match o with
  | some (L, u) => k L u
  | none => none
theorem tc_bl_ex {β : Type} {o : Option (tc_L × tc_S)} {k : tc_L → tc_S → Option β} {r : β} (h : tc_bl o k = some r) : ∃ L u, o = some (L, u) ∧ k L u = some r := by
  cases o with
  | none => cases h
  | some q => exact ⟨q.1, q.2, rfl, h⟩
def tc_pl (L : tc_L) (u : tc_S) : Option Value → tc_G → tc_S → Prop := fun r1 G1 u1 => r1 = none ∧ G1 = tc_gl L ∧ u1 = u
theorem tc_sp_other {L : tc_L} {i k j x : Nat} (h : x ≠ i) : tc_k0 (tc_sp L i k j) x = tc_k0 L x := by
  unfold tc_k0 tc_sp
  simp [List.getD_eq_getElem?_getD, List.getElem?_set, Ne.symm h]
theorem tc_sp_self {L : tc_L} {i k j : Nat} (h : i < L.length) : tc_k0 (tc_sp L i k j) i = ((tc_k0 L i).1, (tc_k0 L i).2.1, (tc_k0 L i).2.2.set k (some j)) := by
  show (tc_sp L i k j).getD i (0, 0, []) = _
  unfold tc_sp
  simp [List.getD_eq_getElem?_getD, h]
theorem tc_dn_other {L : tc_L} {i x : Nat} (h : x ≠ i) : tc_k0 (tc_dn L i) x = tc_k0 L x := by
  unfold tc_k0 tc_dn
  simp [List.getD_eq_getElem?_getD, List.getElem?_set, Ne.symm h]
theorem tc_dn_self {L : tc_L} {i : Nat} (h : i < L.length) : tc_k0 (tc_dn L i) i = ((tc_k0 L i).1, 0, (tc_k0 L i).2.2) := by
  show (tc_dn L i).getD i (0, 0, []) = _
  unfold tc_dn
  simp [List.getD_eq_getElem?_getD, h]
theorem tc_C.ofI {l : Launch} {z : Nat} {D : tc_D} {y : MethodName} {cc : ByteArray} {maxL : Nat} {ret : Option FieldType} {fr lc mc ms : Nat} {as : List Value} {G : tc_G} {u : tc_S} {post : Option Value → tc_G → tc_S → Prop} (hy : plainName y.cls = true) (hi : y.name = "<init>") (hn : (lg_sl as).length ≤ maxL)
    (body : ∀ p e s m args below meth c, meth.name = "<init>" → tc_R p l e { frames := fr, cells := mc, slots := ms, locals := lc } s m args below meth c z D cc y.cls maxL ret mc ms post 0 0 G u 0 (lv_args 0 as) []) : tc_C l z D y cc maxL ret fr lc mc ms as G u post := by
  refine Met.ofW (cc := cc) (maxL := maxL) (ret := ret) hy rfl ?_
  intro p e s m args below meth c s₁ B hml hv
  obtain ⟨rfl, hH, hK, hX⟩ := hv
  have hts := atoms_spec (ws := .code y cc maxL ret :: tc_T) B.pre
  have hown : s.vm.findClass y.cls = some m.cls := findClass_of_methodNamed B.named
  have hin : meth.name = "<init>" := ((name_of_methodNamed B.named B.method).1).trans hi
  have hl := lv_entry as hn
  rw [lg_entry_eq]
  exact body p e s m as.toArray below meth c hin ⟨B.exec, B.bytes, hml, hown, fun w hw => hts w (List.mem_cons_of_mem _ hw), hK, B.notSynchronized, B.returns, hX⟩ s.heap [] _ hH (fun _ _ => rfl) (fun _ h => by cases h) hl
section TCK
variable {p : Program} {l : Launch} {e : Env} {R : Room} {s : State} {m : MethodId} {args : Array Value} {below : List Frame} {meth : Method} {c : Code} {z : Nat} {D : tc_D} {cc : ByteArray} {own : String} {nL : Nat} {ret : Option FieldType} {mc ms : Nat} {post : Option Value → tc_G → tc_S → Prop} {cells slots : Nat} {G : tc_G} {u : tc_S} {pc : Nat} {lv : List (Nat × Value)} {rest : List Value} {L : tc_L}
theorem tc_putP {i ci k index j : Nat} (hin : meth.name = "<init>") (hi : tc_at (tc_gl L) i ci) (hF : tc_FL own index ci k) (hk : k < (tc_k0 L i).2.2.length) (hd : decode cc pc = .ok (.putfield index, 3)) (kk : tc_R p l e R s m args below meth c z D cc own nL ret mc ms post cells slots (tc_gl (tc_sp L i k j)) u (pc + 3) lv rest)
    (hfin : ∀ r : vw_C, vwCl[ci]? = some r → (r.2.1 k).2.2.2 = true ∧ (r.2.1 k).1 = own := by intro r hr; cases hr; exact ⟨rfl, rfl⟩) (hv : ∀ x y q, tc_val z (tc_ty ci k) x y q = va_rf (q.map (fun j => z + j)) := by exact fun _ _ _ => rfl) (hn : ∀ a : Nat, narrow (tc_ty ci k) (.ref a) = .ref a := by exact fun _ => rfl) (hfit : ∀ a : Nat, fits (tc_ty ci k) (.ref a) = true := by exact fun _ => rfl) (hc : ci < 100 := by decide) : tc_R p l e R s m args below meth c z D cc own nL ret mc ms post cells slots (tc_gl L) u pc lv (.ref (z + j) :: .ref (z + i) :: rest) := by
  have hlt : i < L.length := hi.1
  refine tc_putF (G2 := tc_gl (tc_sp L i k j)) (u2 := u) hin hi hc hF hfin (hn _) (hfit _) ⟨?_, ?_, ?_, fun x hx => ?_⟩ (fun _ _ => rfl) rfl (fun x => ?_) hd kk
  · simp [tc_gl, tc_sp]
  · funext x
    show (tc_k0 (tc_sp L i k j) x).1 = (tc_k0 L x).1
    by_cases e : x = i
    · subst e; rw [tc_sp_self hlt]
    · rw [tc_sp_other e]
  · funext x
    show (tc_k0 (tc_sp L i k j) x).2.1 = (tc_k0 L x).2.1
    by_cases e : x = i
    · subst e; rw [tc_sp_self hlt]
    · rw [tc_sp_other e]
  · funext y
    show (tc_k0 (tc_sp L i k j) x).2.2.getD y none = (tc_k0 L x).2.2.getD y none
    rw [tc_sp_other hx]
  · have e1 : (tc_gl (tc_sp L i k j)).2.2.2 i x = ((tc_k0 L i).2.2.set k (some j)).getD x none := by
      show (tc_k0 (tc_sp L i k j) i).2.2.getD x none = _
      rw [tc_sp_self hlt]
    rw [e1]
    by_cases ex : x = k
    · subst ex
      rw [if_pos rfl, hv, List.getD_eq_getElem?_getD, List.getElem?_set_self hk]
      rfl
    · rw [if_neg ex, List.getD_eq_getElem?_getD, List.getElem?_set_ne (Ne.symm ex), ← List.getD_eq_getElem?_getD]
      rfl
theorem tc_putFi {i ci k index : Nat} {x : Int32} (hin : meth.name = "<init>") (hi : tc_at G i ci) (hF : tc_FL own index ci k) (hd : decode cc pc = .ok (.putfield index, 3)) (kk : tc_R p l e R s m args below meth c z D cc own nL ret mc ms post cells slots G (tc_w u i k x) (pc + 3) lv rest) (hty : tc_ty ci k = .int := by rfl) (hfin : ∀ r : vw_C, vwCl[ci]? = some r → (r.2.1 k).2.2.2 = true ∧ (r.2.1 k).1 = own := by intro r hr; cases hr; exact ⟨rfl, rfl⟩) (hc : ci < 100 := by decide) : tc_R p l e R s m args below meth c z D cc own nL ret mc ms post cells slots G u pc lv (.int x :: .ref (z + i) :: rest) := by
  refine tc_putF (G2 := G) (u2 := tc_w u i k x) hin hi hc hF hfin (by rw [hty]; rfl) (by rw [hty]; rfl) ⟨rfl, rfl, rfl, fun _ _ => rfl⟩ (fun j h => tc_w_ne h) rfl (fun j => ?_) hd kk
  by_cases e : j = k
  · subst e; simp [tc_w, hty, tc_val]
  · simp [tc_w, e]
theorem tc_dnR {i : Nat} (hi : ∃ q, q < 100 ∧ tc_at (tc_gl L) i q) {st : List Value} (kk : tc_R p l e R s m args below meth c z D cc own nL ret mc ms post cells slots (tc_gl (tc_dn L i)) u pc lv st) : tc_R p l e R s m args below meth c z D cc own nL ret mc ms post cells slots (tc_gl L) u pc lv st := by
  obtain ⟨q, hq, hi⟩ := hi
  have hlt : i < L.length := hi.1
  refine tc_done (G2 := tc_gl (tc_dn L i)) (i := i) (by rw [hi.2]; exact hq) ⟨by simp [tc_gl, tc_dn], ?_, fun x hx => ?_, ?_⟩ kk
  · funext x
    show (tc_k0 (tc_dn L i) x).1 = (tc_k0 L x).1
    by_cases e : x = i
    · subst e; rw [tc_dn_self hlt]
    · rw [tc_dn_other e]
  · show (tc_k0 (tc_dn L i) x).2.1 = (tc_k0 L x).2.1
    rw [tc_dn_other hx]
  · funext x y
    show (tc_k0 (tc_dn L i) x).2.2.getD y none = (tc_k0 L x).2.2.getD y none
    by_cases e : x = i
    · subst e; rw [tc_dn_self hlt]
    · rw [tc_dn_other e]
theorem tc_getq {i ci k index j : Nat} (hi : tc_at G i ci) (hj : G.2.2.2 i k = some j) (hF : tc_FL own index ci k) (hd : decode cc pc = .ok (.getfield index, 3)) (kk : tc_R p l e R s m args below meth c z D cc own nL ret mc ms post cells slots G u (pc + 3) lv (.ref (z + j) :: rest)) (hv : ∀ x y q, tc_val z (tc_ty ci k) x y q = va_rf (q.map (fun j => z + j)) := by exact fun _ _ _ => rfl) (hc : ci < 100 := by decide) : tc_R p l e R s m args below meth c z D cc own nL ret mc ms post cells slots G u pc lv (.ref (z + i) :: rest) := tc_getv hi hc hF (by rw [hv, hj]; rfl) hd kk
theorem tc_nmL {L1 : tc_L} (h : L1 = L) (k : tc_R p l e R s m args below meth c z D cc own nL ret mc ms post cells slots (tc_gl L1) u pc lv rest) : tc_R p l e R s m args below meth c z D cc own nL ret mc ms post cells slots (tc_gl L) u pc lv rest := h ▸ k
theorem tc_nmr {i j : Nat} (h : j = i) (k : tc_R p l e R s m args below meth c z D cc own nL ret mc ms post cells slots G u pc lv (.ref (z + j) :: rest)) : tc_R p l e R s m args below meth c z D cc own nL ret mc ms post cells slots G u pc lv (.ref (z + i) :: rest) := h ▸ k
theorem tc_widen {k n : Nat} {st : List Value} (h1 : cells ≤ k) (h2 : slots ≤ n) (kk : tc_R p l e R s m args below meth c z D cc own nL ret mc ms post k n G u pc lv st) : tc_R p l e R s m args below meth c z D cc own nL ret mc ms post cells slots G u pc lv st := fun ok H locs ls hH h0 hL hl => W.widen h1 h2 (kk ok H locs ls hH h0 hL hl)
end TCK
section TCV
variable {p : Program} {l : Launch} {e : Env} {R : Room} {s : State} {m : MethodId} {args : Array Value} {below : List Frame} {meth : Method} {c : Code} {z : Nat} {D : tc_D} {cc : ByteArray} {own : String} {nL : Nat} {ret : Option FieldType} {mc ms : Nat} {post : Option Value → tc_G → tc_S → Prop} {cells slots : Nat} {G : tc_G} {u : tc_S} {pc : Nat} {lv : List (Nat × Value)} {rest : List Value} {L : tc_L}
theorem tc_callIv {y : MethodName} {bytes : ByteArray} {maxL fr lc mc1 ms1 i n index : Nat} (As : List Value) {st : List Value} {L1 : tc_L} {u1 : tc_S} (hd : decode cc pc = .ok (.invokespecial index, 3)) (hM : tc_C l z D y bytes maxL none fr lc mc1 ms1 (.ref (z + i) :: As) G u (tc_pl L1 u1)) (hlink : Cond.methodLink own index y ∈ tc_T) (hw : tc_MW y bytes maxL none n) (hv : y.name = "<init>" ∧ Cond.instanceMethod y ∈ tc_T) (hroom : fr + 1 ≤ R.frames ∧ 8 + (maxL + 11) + lc ≤ R.locals) (hn : As.length = n) (hst : st = As.reverse ++ .ref (z + i) :: rest) (hW8 : (rest.map fun v => v.category).sum ≤ 8) (hf : cells + mc1 ≤ R.cells ∧ slots + ms1 ≤ R.slots)
    (kk : tc_R p l e R s m args below meth c z D cc own nL ret mc ms post (cells + mc1) (slots + ms1) (tc_gl L1) u1 (pc + 3) lv rest) : tc_R p l e R s m args below meth c z D cc own nL ret mc ms post cells slots G u pc lv st :=
  tc_callI hd hM hlink hw hv hroom hn hst hW8 hf (fun r G1 u2 h => by obtain ⟨rfl, rfl, rfl⟩ := h; exact kk)
theorem tc_callINv {y : MethodName} {bytes : ByteArray} {maxL fr lc mc1 ms1 i n index : Nat} (As : List Value) {st : List Value} {L1 : tc_L} {u1 : tc_S} (hd : decode cc pc = .ok (.invokespecial index, 3)) (hM : tc_C l z D y bytes maxL none fr lc mc1 ms1 (.ref (z + i) :: As) G u (tc_pl L1 u1)) (hlink : (own, index, y) ∈ tc_N) (hw : tc_MW y bytes maxL none n) (hv : y.name = "<init>" ∧ Cond.instanceMethod y ∈ tc_T) (hroom : fr + 1 ≤ R.frames ∧ 8 + (maxL + 11) + lc ≤ R.locals) (hn : As.length = n) (hst : st = As.reverse ++ .ref (z + i) :: rest) (hW8 : (rest.map fun v => v.category).sum ≤ 8) (hf : cells + mc1 ≤ R.cells ∧ slots + ms1 ≤ R.slots)
    (kk : tc_R p l e R s m args below meth c z D cc own nL ret mc ms post (cells + mc1) (slots + ms1) (tc_gl L1) u1 (pc + 3) lv rest) : tc_R p l e R s m args below meth c z D cc own nL ret mc ms post cells slots G u pc lv st :=
  tc_callIN hd hM hlink hw hv hroom hn hst hW8 hf (fun r G1 u2 h => by obtain ⟨rfl, rfl, rfl⟩ := h; exact kk)
/-- a row of references to Worlds is made -/
theorem tc_newq {N index : Nat} {n : Int32} (hcl : Cond.classLink own index RX10 ∈ tc_T) (hn : ¬ n < 0) (hN : n.toNatClampNeg = N) (hbytes : N * 4 ≤ 536870912) (hcells : cells + 1 ≤ R.cells) (hslots : slots + N ≤ R.slots) (hd : decode cc pc = .ok (.anewarray index, 3))
    (kk : tc_R p l e R s m args below meth c z D cc own nL ret mc ms post (cells + 1) (slots + N) (tc_gl (L ++ [(103, N, List.replicate N none)])) (tc_z u L.length) (pc + 3) lv (.ref (z + L.length) :: rest)) : tc_R p l e R s m args below meth c z D cc own nL ret mc ms post cells slots (tc_gl L) u pc lv (.int n :: rest) := by
  intro ok H locs ls hH h0 hL hl
  obtain ⟨hx, hb, hml, hown, hts, hK, hlk, hrt, hX⟩ := id ok
  subst hN
  have hsz : H.size = z + L.length := hH.1
  refine W.anew hx hb hown (hts _ hcl) hX.2.2.2.2.2.2.2.use rfl hd rfl hn hbytes hcells hslots fun cA kA comp e1 e2 e3 e4 => ?_
  have hcA : cA = D.2 103 := by
    obtain ⟨kA2, comp2, -, -, -, h4⟩ := (hK.2 3 _ rfl).2
    exact Option.some.inj (e1.symm.trans h4)
  rw [hsz]
  refine kk ok _ locs ls (hH.push _ (by simp) (fun q hq => by simp [Array.getElem?_push, Nat.ne_of_lt hq]) ?_) (fun q hq => ?_) hL hl
  · have ek : (tc_gl (L ++ [(103, n.toNatClampNeg, List.replicate n.toNatClampNeg none)])).2.1 L.length = 103 := by show ((L ++ [_]).getD L.length _).1 = 103; rw [tc_gl_new]
    have el : (tc_gl (L ++ [(103, n.toNatClampNeg, List.replicate n.toNatClampNeg none)])).2.2.1 L.length = n.toNatClampNeg := by show ((L ++ [_]).getD L.length _).2.1 = _; rw [tc_gl_new]
    have ep : ∀ k, (tc_gl (L ++ [(103, n.toNatClampNeg, List.replicate n.toNatClampNeg none)])).2.2.2 L.length k = none := by
      intro k
      show ((L ++ [_]).getD L.length _).2.2.getD k none = none
      rw [tc_gl_new]
      simp only [List.getD_eq_getElem?_getD, List.getElem?_replicate]
      split <;> rfl
    unfold tc_cell
    rw [ek, el, if_neg (by decide), if_neg (by decide), ← hsz, vp_cell_q]
    simp only [ep, Option.map_none]
    rw [Array.getElem?_push_size, hcA]
    congr 1
    unfold arrV
    congr 1
    apply Array.ext
    · simp
    · intro i h1 h2
      simp [va_rf]
  · have : q < H.size := by omega
    rw [Array.getElem?_push, if_neg (Nat.ne_of_lt this)]
    exact h0 q hq
end TCV
