/-! batch, plainly -/
def gen (g : mp) (q : Nat) : en := ((mes g).find? (fun e => decide (e.1.toNatClampNeg = q + 1))).getD e0
theorem mes_pw {g : mp} (hw : mwf g) {e f : en} (he : e ∈ mes g) (hf : f ∈ mes g) (h : e.1.toNatClampNeg ≠ f.1.toNatClampNeg) : e.2.2.1.toNatClampNeg ≠ f.2.2.1.toNatClampNeg := by
  obtain ⟨i, hi, rfl⟩ := List.mem_iff_getElem.mp he
  obtain ⟨j, hj, rfl⟩ := List.mem_iff_getElem.mp hf
  have hp := List.pairwise_iff_getElem.mp (mes_adm (h := g) hw rfl).2
  rcases Nat.lt_trichotomy i j with z | z | z
  · exact (hp i j hi hj z).2
  · subst z; exact absurd rfl h
  · exact (hp j i hj hi z).2.symm
theorem mes_uniq {g : mp} (hw : mwf g) {e f : en} (he : e ∈ mes g) (hf : f ∈ mes g) (h : e.1.toNatClampNeg = f.1.toNatClampNeg) : e = f := by
  obtain ⟨i, hi, rfl⟩ := List.mem_iff_getElem.mp he
  obtain ⟨j, hj, rfl⟩ := List.mem_iff_getElem.mp hf
  have hp := List.pairwise_iff_getElem.mp (mes_adm (h := g) hw rfl).2
  rcases Nat.lt_trichotomy i j with z | z | z
  · exact absurd h (hp i j hi hj z).1
  · subst z; rfl
  · exact absurd h.symm (hp j i hj hi z).1
theorem gen_eq {g : mp} (hw : mwf g) {e : en} {q : Nat} (he : e ∈ mes g) (hq : e.1 = nI (q + 1)) (h9 : q ≤ 999) : gen g q = e := by
  have hq2 : e.1.toNatClampNeg = q + 1 := by rw [hq, nI_clamp (by omega)]
  unfold gen
  cases h : (mes g).find? (fun e => decide (e.1.toNatClampNeg = q + 1)) with
  | none =>
    have := List.find?_eq_none.mp h e he
    exact absurd (decide_eq_true hq2) this
  | some f =>
    have h0 := List.find?_some h
    have h1 : f.1.toNatClampNeg = q + 1 := of_decide_eq_true h0
    have h2 := List.mem_of_find?_eq_some h
    show f = e
    exact mes_uniq hw h2 he (by rw [h1, hq2])
theorem gen_lf0 {g : mp} (hw : mwf g) {q : Nat} (h : lf0 g q = true) : gen g q ∈ mes g ∧ (gen g q).1 = nI (q + 1) ∧ q ≤ 999 := by
  have hl := lf0_lt hw h
  unfold lf0 at h
  obtain ⟨e, he, hq⟩ := List.any_eq_true.mp h
  have hq := of_decide_eq_true hq
  obtain ⟨p, p1, p2⟩ := mes_key hw e he
  have : e.1 = nI (q + 1) := by
    rw [p2, nI_clamp (by omega)] at hq
    rw [p2, hq]
  rw [gen_eq hw he this (by omega)]
  exact ⟨he, this, by omega⟩
def bstp (h : mp) (b : Nat) (e : en) : Option Nat → mp
  | some x => mv (cs h 68 e) 68 (4 * b + x)
  | none => h
def blay (g0 : mp) : List (Nat × Nat) → mp → mp
  | [] => fun h => h
  | p :: l => fun h => blay g0 l (bstp h p.2 (gen g0 p.1) (memp h p.2))
def blok (g0 : mp) : List (Nat × Nat) → mp → Prop
  | [] => fun _ => True
  | p :: l => fun h => (∃ x, memp h p.2 = some x) ∧ blok g0 l (bstp h p.2 (gen g0 p.1) (memp h p.2))
theorem bstp_gc (h : mp) (b x : Nat) (e : en) (i : Nat) (hi : i < 68) : gc (bstp h b e (some x)) i = if i = 4 * b + x then e else gc h i := by
  unfold bstp mv
  rw [gc_cs, if_neg (by omega), gc_cs]
  by_cases c : i = 4 * b + x
  · rw [if_pos c, if_pos c, gc_cs_eq]
  · rw [if_neg c, if_neg c, gc_cs_ne (by omega)]
theorem bstp_k (h : mp) (b x : Nat) (e : en) {k : Nat} (hk : k < 20) : bstp h b e (some x) k = h k := by
  show cs (cs (cs h 68 e) (4 * b + x) (gc (cs h 68 e) 68)) 68 e0 k = h k
  rw [cs_lo hk, cs_lo hk, cs_lo hk]
theorem gc_0 {g : mp} {i : Nat} : (gc g i).1 = g (20 + 4 * i) := rfl
theorem ff_at {P : Nat → Bool} {n j : Nat} (h1 : ∀ x, x < j → P x = false) (h2 : P j = true) (h3 : j < n) : ff P n 0 = some j := by
  obtain ⟨y, hy⟩ := ff_some h2 (n := n) (i := 0) (by omega) (by omega)
  have a := ff_lt hy
  have b := ff_least hy
  have : y = j := by
    rcases Nat.lt_trichotomy y j with z | z | z
    · have := h1 y z
      rw [a.2.2] at this
      cases this
    · exact z
    · have := b j (by omega) z
      rw [h2] at this
      cases this
  rw [hy, this]
theorem blok_grp {g0 : mp} {b : Nat} {rest : List (Nat × Nat)} (hb : b < 16) : ∀ (ks : List Nat) (j : Nat) (h : mp), mn h 1 = mn g0 1 → mn g0 1 ≤ 4 → j + ks.length ≤ mn g0 1 → (∀ x, x < j → (gc h (4 * b + x)).1 ≠ 0) → (∀ x, j ≤ x → x < 4 → (gc h (4 * b + x)).1 = 0) → (∀ q ∈ ks, (gen g0 q).1 ≠ 0) → (∀ h', mn h' 1 = mn g0 1 → (∀ i, i < 64 → i / 4 ≠ b → gc h' i = gc h i) → blok g0 rest h') → blok g0 (ks.map (fun q => (q, b)) ++ rest) h := by
  intro ks
  induction ks with
  | nil => intro j h h1 _ _ _ _ _ hk; exact hk h h1 fun _ _ _ => rfl
  | cons q ks ih =>
    intro j h h1 h4 h2 h5 h6 h7 hk
    rw [List.length_cons] at h2
    have hm : memp h b = some j := by
      unfold memp
      refine ff_at (fun x hx => ?_) ?_ (by omega)
      · refine decide_eq_false fun z => h5 x hx ?_
        rw [gc_0, ← mcell_ci]
        exact z
      · refine decide_eq_true ?_
        have := h6 j (by omega) (by omega)
        rw [gc_0, ← mcell_ci] at this
        exact this
    show (∃ x, memp h b = some x) ∧ blok g0 (ks.map (fun q => (q, b)) ++ rest) (bstp h b (gen g0 q) (memp h b))
    rw [hm]
    refine ⟨⟨j, rfl⟩, ih (j + 1) _ ?_ h4 (by omega) (fun x hx => ?_) (fun x hx h8 => ?_) (fun r hr => h7 r (List.mem_cons_of_mem _ hr)) fun h' e1 e2 => hk h' e1 fun i i1 i2 => ?_⟩
    · unfold mn at h1 ⊢
      rw [bstp_k _ _ _ _ (by omega)]
      exact h1
    · rw [bstp_gc _ _ _ _ _ (by omega)]
      by_cases c : x = j
      · rw [if_pos (by omega)]
        exact h7 q (List.mem_cons_self ..)
      · rw [if_neg (by omega)]
        exact h5 x (by omega)
    · rw [bstp_gc _ _ _ _ _ (by omega), if_neg (by omega)]
      exact h6 x (by omega) h8
    · rw [e2 i i1 i2, bstp_gc _ _ _ _ _ (by omega), if_neg (by omega)]
theorem blok_pls {g0 : mp} (hw : mwf g0) : ∀ (n : Nat) (lf : Nat → Bool) (h : mp), mn h 1 = mn g0 1 → (∀ q, lf q = true → (gen g0 q).1 ≠ 0) → (∀ b, b < mn g0 0 → 0 < deg g0 lf b → ∀ p, p < 4 → (gc h (4 * b + p)).1 = 0) → blok g0 (pls g0 n lf).1 h := by
  have a := hw.1.1
  intro n
  induction n with
  | zero => intro lf h _ _ _; rw [pls_0]; trivial
  | succ n ih =>
    intro lf h h1 h2 h3
    rw [pls_s]
    cases e : pkb g0 lf with
    | none => rw [pls1]; trivial
    | some b =>
      rw [pls1]
      obtain ⟨b1, b2, b3⟩ := ff_lt e
      have b3 := of_decide_eq_true b3
      have hn := a.2.1.2
      unfold grp
      refine blok_grp (by omega) _ 0 h h1 a.2.2.1.2 ?_ (fun x hx => by omega) (fun x _ hx => h3 b (by omega) (by omega) x hx) (fun q hq => ?_) fun h' e1 e2 => ih _ h' e1 (fun q hq => ?_) fun b' hb' hd p hp => ?_
      · rw [kl_len, Nat.zero_add]
        exact b3.2
      · have := ((kl_mem 1000 0).mp hq).2.2
        rw [Bool.and_eq_true] at this
        exact h2 q this.1
      · unfold lfs at hq
        rw [Bool.and_eq_true] at hq
        exact h2 q hq.1
      · have hne : b' ≠ b := by
          intro z
          rw [z, deg_lfs] at hd
          omega
        have m := deg_mono (g := g0) (lf := lf) (lf2 := lfs g0 lf b) (fun q hq => by unfold lfs at hq; rw [Bool.and_eq_true] at hq; exact hq.1) b'
        rw [e2 _ (by omega) (by omega)]
        exact h3 b' hb' (by omega) p hp
/-- what is kept while those that are peeled are laid -/
theorem blay_ok {g0 : mp} : ∀ (l : List (Nat × Nat)) (h : mp) (C : List en), mwf h → ck h 68 = 0 → sA g0 h → adm h (l.map (fun p => gen g0 p.1) ++ C) → (∀ p ∈ l, p.2 < mn g0 0 ∧ mts g0 p.2 p.1 = true ∧ (gen g0 p.1).1 = nI (p.1 + 1) ∧ p.1 ≤ 999) → blok g0 l h → mwf (blay g0 l h) ∧ ck (blay g0 l h) 68 = 0 ∧ adm (blay g0 l h) C ∧ ∀ k, k < 20 → blay g0 l h k = h k := by
  intro l
  induction l with
  | nil => intro h C h1 h2 _ h3 _ _; exact ⟨h1, h2, h3, fun _ _ => rfl⟩
  | cons p l ih =>
    intro h C h1 h2 hs h3 h4 h5
    obtain ⟨⟨x, hx⟩, h5⟩ := h5
    have h3 : adm h (gen g0 p.1 :: (l.map (fun p => gen g0 p.1) ++ C)) := h3
    show mwf (blay g0 l (bstp h p.2 (gen g0 p.1) (memp h p.2))) ∧ ck (blay g0 l (bstp h p.2 (gen g0 p.1) (memp h p.2))) 68 = 0 ∧ adm (blay g0 l (bstp h p.2 (gen g0 p.1) (memp h p.2))) C ∧ ∀ k, k < 20 → blay g0 l (bstp h p.2 (gen g0 p.1) (memp h p.2)) k = h k
    rw [hx] at h5 ⊢
    have hp := h4 p (List.mem_cons_self ..)
    have a := h1.1.1
    have a1 := a.2.1.2
    have a2 := a.2.2.1.2
    have hb : p.2 < mn h 0 := by rw [sA_mn hs (by omega)]; exact hp.1
    have sp := memp_sp a h1.1.2.2.1 hb hx
    have hh := adm_hand h1 h3
    have e68 : ck (cs h 68 (gen g0 p.1)) 68 = p.1 + 1 := by
      rw [ck_cs, if_pos rfl, hp.2.2.1, nI_clamp (by omega)]
    have wp : wP (cs h 68 (gen g0 p.1)) (4 * p.2 + x) (ck (cs h 68 (gen g0 p.1)) 68 - 1) := by
      rw [e68, sA_wP sA_cs, sA_wP hs]
      refine ⟨by rw [sp.2.2.2.1]; exact hp.1, by rw [sp.2.2.2.2, ← sA_mn hs (by omega)]; exact sp.1, ?_⟩
      rw [sp.2.2.2.1, show p.1 + 1 - 1 = p.1 by omega]
      have := hp.2.1
      unfold mts at this
      rw [Bool.or_eq_true, decide_eq_true_iff, decide_eq_true_iff] at this
      rcases this with z | z
      · exact Or.inl z.symm
      · exact Or.inr z.symm
    have hmc : mcs (cs h 68 (gen g0 p.1)) (1, bstp h p.2 (gen g0 p.1) (some x)) := by
      refine ⟨mwf_mv hh (by omega) (by omega) (by omega) (by rw [e68]; omega) (fun _ => wp) (Or.inl rfl) (by omega) (by omega), sT_trans sT_cs sT_cs, kin_mv (by omega), fun q => absurd q i_n1, fun _ => ?_, 1, by omega, rfl⟩
      unfold bstp mv
      rw [ck_cs, if_pos rfl]
      rfl
    have i := ih (bstp h p.2 (gen g0 p.1) (some x)) C hmc.1 (hmc.2.2.2.2.1 i_n1) (fun k hk => by rw [bstp_k _ _ _ _ (by omega)]; exact hs k hk) (adm_next h3 hmc i_n1) (fun r hr => h4 r (List.mem_cons_of_mem _ hr)) h5
    exact ⟨i.1, i.2.1, i.2.2.1, fun k hk => by rw [i.2.2.2 k hk, bstp_k _ _ _ _ hk]⟩
theorem pls_lf {g : mp} : ∀ (n : Nat) (lf : Nat → Bool), (∀ q, (pls g n lf).2 q = true → lf q = true) ∧ (∀ p ∈ (pls g n lf).1, (pls g n lf).2 p.1 = false) ∧ (pls g n lf).1.Pairwise (fun p q => p.1 ≠ q.1) := by
  intro n
  induction n with
  | zero => intro lf; rw [pls_0]; exact ⟨fun _ h => h, fun p hp => (by cases hp), List.Pairwise.nil⟩
  | succ n ih =>
    intro lf
    rw [pls_s]
    cases e : pkb g lf with
    | none => rw [pls1]; exact ⟨fun _ h => h, fun p hp => (by cases hp), List.Pairwise.nil⟩
    | some b =>
      rw [pls1]
      obtain ⟨i1, i2, i3⟩ := ih (lfs g lf b)
      have sub : ∀ q, lfs g lf b q = true → lf q = true ∧ mts g b q = false := fun q hq => by
        unfold lfs at hq
        rw [Bool.and_eq_true] at hq
        refine ⟨hq.1, ?_⟩
        cases z : mts g b q with
        | false => rfl
        | true => rw [z] at hq; cases hq.2
      refine ⟨fun q hq => (sub q (i1 q hq)).1, fun p hp => ?_, ?_⟩
      · rcases List.mem_append.mp hp with z | z
        · unfold grp at z
          obtain ⟨q, q1, q2⟩ := List.mem_map.mp z
          have q3 := ((kl_mem 1000 0).mp q1).2.2
          rw [Bool.and_eq_true] at q3
          cases w : (pls g n (lfs g lf b)).2 p.1 with
          | false => rfl
          | true =>
            have := (sub _ (i1 _ w)).2
            rw [← q2] at this
            rw [q3.2] at this
            cases this
        · exact i2 p z
      · refine List.pairwise_append.mpr ⟨?_, i3, fun x hx y hy => ?_⟩
        · unfold grp
          rw [List.pairwise_map]
          exact List.Pairwise.imp (fun h => by show _ ≠ _; omega) (kl_pw 1000 0)
        · unfold grp at hx
          obtain ⟨q, q1, q2⟩ := List.mem_map.mp hx
          have q3 := ((kl_mem 1000 0).mp q1).2.2
          rw [Bool.and_eq_true] at q3
          have := (sub _ (pls_mem n _ y hy).1).2
          intro z
          rw [← z, ← q2] at this
          rw [q3.2] at this
          cases this
def mbo (g : mp) : List (Nat × Nat) := (pls g (mn g 0) (lf0 g)).1
def mbl (g : mp) : Nat → Bool := (pls g (mn g 0) (lf0 g)).2
def mbc (g : mp) : List en := (kl (mbl g) 1000 0).map (gen g)
def mbh (g : mp) : mp := blay g (mbo g) (mclr g)
def mbk (g : mp) : Bool × mp → Bool × mp
  | (true, h) => (true, h)
  | (false, h) => (false, mback h g)
def mbt (g : mp) : Bool × mp := mbk g (mall (mbc g) (mbh g))
theorem mbo_p {g : mp} (hw : mwf g) : ∀ p ∈ mbo g, p.2 < mn g 0 ∧ mts g p.2 p.1 = true ∧ (gen g p.1).1 = nI (p.1 + 1) ∧ p.1 ≤ 999 := fun p hp => by
  have := pls_mem _ _ p hp
  have g1 := gen_lf0 hw this.1
  exact ⟨this.2.2.1, this.2.1, g1.2.1, g1.2.2⟩
theorem mbl_p {g : mp} {q : Nat} (h : mbl g q = true) : lf0 g q = true := (pls_lf _ _).1 q h
theorem mb_adm {g : mp} (hw : mwf g) : adm (mclr g) ((mbo g).map (fun p => gen g p.1) ++ mbc g) := by
  have am := mes_adm (h := g) hw rfl
  have all : ∀ e ∈ (mbo g).map (fun p => gen g p.1) ++ mbc g, e ∈ mes g := by
    intro e he
    rcases List.mem_append.mp he with z | z
    · obtain ⟨p, p1, p2⟩ := List.mem_map.mp z
      rw [← p2]
      exact (gen_lf0 hw (pls_mem _ _ p p1).1).1
    · obtain ⟨q, q1, q2⟩ := List.mem_map.mp z
      rw [← q2]
      exact (gen_lf0 hw (mbl_p ((kl_mem 1000 0).mp q1).2.2)).1
  have key : ∀ {p q : Nat}, lf0 g p = true → lf0 g q = true → p ≠ q → (gen g p).1.toNatClampNeg ≠ (gen g q).1.toNatClampNeg ∧ (gen g p).2.2.1.toNatClampNeg ≠ (gen g q).2.2.1.toNatClampNeg := by
    intro p q hp hq hpq
    have g1 := gen_lf0 hw hp
    have g2 := gen_lf0 hw hq
    have : (gen g p).1.toNatClampNeg ≠ (gen g q).1.toNatClampNeg := by
      rw [g1.2.1, g2.2.1, nI_clamp (by omega), nI_clamp (by omega)]
      omega
    exact ⟨this, mes_pw hw g1.1 g2.1 this⟩
  refine ⟨fun e he => am.1 e (all e he), List.pairwise_append.mpr ⟨?_, ?_, fun x hx y hy => ?_⟩⟩
  · rw [List.pairwise_map]
    refine List.Pairwise.imp_of_mem ?_ (pls_lf (mn g 0) (lf0 g)).2.2
    intro p q hp hq hpq
    exact key (pls_mem _ _ p hp).1 (pls_mem _ _ q hq).1 hpq
  · unfold mbc
    rw [List.pairwise_map]
    refine List.Pairwise.imp_of_mem ?_ (kl_pw 1000 0)
    intro p q hp hq hpq
    exact key (mbl_p ((kl_mem 1000 0).mp hp).2.2) (mbl_p ((kl_mem 1000 0).mp hq).2.2) (by omega)
  · obtain ⟨p, p1, p2⟩ := List.mem_map.mp hx
    obtain ⟨q, q1, q2⟩ := List.mem_map.mp hy
    have q3 := ((kl_mem 1000 0).mp q1).2.2
    rw [← p2, ← q2]
    refine key (pls_mem _ _ p p1).1 (mbl_p q3) fun z => ?_
    have := (pls_lf (mn g 0) (lf0 g)).2.1 p p1
    rw [z] at this
    unfold mbl at q3
    rw [q3] at this
    cases this
theorem mb_blok {g : mp} (hw : mwf g) : blok g (mbo g) (mclr g) := by
  refine blok_pls hw _ _ _ ?_ (fun q hq => ?_) fun b hb _ p hp => ?_
  · unfold mn
    rw [mclr_k (by omega) (by omega)]
  · have := gen_lf0 hw hq
    rw [this.2.1]
    exact nI_ne0 (by omega) (by omega)
  · have hn := hw.1.1.2.1.2
    rw [gc_mclr (by omega)]
    rfl
theorem mb_h {g : mp} (hw : mwf g) : mwf (mbh g) ∧ ck (mbh g) 68 = 0 ∧ adm (mbh g) (mbc g) ∧ ∀ k, k < 20 → mbh g k = mclr g k :=
  blay_ok (mbo g) (mclr g) (mbc g) (mwf_mclr hw.1.1 hw.1.2.2.2.2.2.1) (ck_mclr (by omega)) (fun k hk => mclr_k (by omega) (by omega)) (mb_adm hw) (mbo_p hw) (mb_blok hw)
theorem mbt_ok {P : Nat} {g : mp} (h : mre P g) : mre P (mbt g).2 := by
  obtain ⟨hg, h0, hp⟩ := h
  obtain ⟨b1, b2, b3, b4⟩ := mb_h hg
  have z := mall_ok (mbc g) (mbh g) b1 b3
  unfold mbt
  cases hm : mall (mbc g) (mbh g) with
  | mk t x =>
    rw [hm] at z
    cases t with
    | true =>
      rw [mbk]
      have z2 := z.2 b2 rfl
      refine ⟨z2.1, z2.2, ?_⟩
      show mn x 12 = P
      rw [← hp]
      unfold mn
      rw [show x 12 = _ from z.1 12 (by omega) (by omega) (by omega) (by omega), b4 12 (by omega), mclr_k (by omega) (by omega)]
    | false =>
      rw [mbk]
      show mre P (mback x g)
      exact ⟨mwf_seed hg, by unfold mback; rw [ck_upd (by omega)]; exact h0, by unfold mback; rw [mn_upd (by omega)]; exact hp⟩
