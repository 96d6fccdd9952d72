/-! the class's search does the plain one -/
def gK (G : tc_G) : Prop := (tc_p G 24 0 = 25 ∧ G.2.2.1 25 = 32) ∧ (tc_p G 24 3 = 26 ∧ G.2.2.1 26 = 32) ∧ (tc_p G 24 4 = 27 ∧ G.2.2.1 27 = 32) ∧ (tc_p G 24 5 = 28 ∧ G.2.2.1 28 = 32) ∧ (tc_p G 24 6 = 29 ∧ G.2.2.1 29 = 32)
def fK (o _ : Nat) : Prop := 24 ≤ o ∧ o ≤ 29
def trc (u : tc_S) (ns : Nat) (Q : List Nat) : ch → Nat → Prop
  | [], x => x ∈ Q ∧ u.1 28 x = -1
  | q :: l, x => x ∈ Q ∧ u.1 28 x = nI q.1 ∧ u.1 27 x = nI (q.1 * ns + q.2) ∧ trc u ns Q l q.1
def bqs (u : tc_S) (nb ns : Nat) (Q : List Nat) (pr : Nat → ch) : Prop := u.1 24 7 = nI Q.length ∧ u.1 24 1 = 0 ∧ (∀ k x, Q[k]? = some x → u.1 26 k = nI x ∧ (pr x).length ≤ k) ∧ (∀ b, b < nb → u.1 29 b = (if b ∈ Q then 1 else 0)) ∧ ∀ x, x ∈ Q → trc u ns Q (pr x) x
theorem trc_mono {u w : tc_S} {ns : Nat} {Q Q2 : List Nat} (hr : ∀ x, x ∈ Q → w.1 28 x = u.1 28 x ∧ w.1 27 x = u.1 27 x) (hQ : ∀ x, x ∈ Q → x ∈ Q2) : ∀ {l : ch} {x : Nat}, trc u ns Q l x → trc w ns Q2 l x
  | [], x, h => ⟨hQ x h.1, by rw [(hr x h.1).1]; exact h.2⟩
  | q :: l, x, h => ⟨hQ x h.1, by rw [(hr x h.1).1]; exact h.2.1, by rw [(hr x h.1).2]; exact h.2.2.1, trc_mono hr hQ h.2.2.2⟩
/-- what a search ends with -/
def bP (u0 : tc_S) (ns : Nat) (o : Option (ch × Nat)) (r : Int32 × tc_S) : Prop := match o with
  | none => r.1 = 0 ∧ fr fK u0 r.2
  | some q => r.1 = 1 ∧ r.2.1 24 1 = nI q.1.length ∧ r.2.1 24 2 = nI q.2 ∧ (∀ k (h : k < q.1.length), r.2.1 25 k = nI ((q.1[k]).1 * ns + (q.1[k]).2)) ∧ fr fK u0 r.2
def trk (u : tc_S) (ns : Nat) : ch → Nat → Prop
  | [], x => x < 32 ∧ u.1 28 x = -1
  | q :: l, x => x < 32 ∧ u.1 28 x = nI q.1 ∧ u.1 27 x = nI (q.1 * ns + q.2) ∧ trk u ns l q.1
theorem trc_k {u w : tc_S} {ns nb : Nat} {Q : List Nat} (hQ : bQ nb Q) (hn : nb ≤ 32) (hr : ∀ x, x ∈ Q → w.1 28 x = u.1 28 x ∧ w.1 27 x = u.1 27 x) : ∀ {l : ch} {x : Nat}, trc u ns Q l x → trk w ns l x
  | [], x, h => ⟨by have := hQ.2 x h.1; omega, by rw [(hr x h.1).1]; exact h.2⟩
  | q :: l, x, h => ⟨by have := hQ.2 x h.1; omega, by rw [(hr x h.1).1]; exact h.2.1, by rw [(hr x h.1).2]; exact h.2.2.1, trc_k hQ hn hr h.2.2.2⟩
theorem trk_fr {u w : tc_S} {ns : Nat} (hr : ∀ x, w.1 28 x = u.1 28 x ∧ w.1 27 x = u.1 27 x) : ∀ {l : ch} {x : Nat}, trk u ns l x → trk w ns l x
  | [], x, h => ⟨h.1, by rw [(hr x).1]; exact h.2⟩
  | q :: l, x, h => ⟨h.1, by rw [(hr x).1]; exact h.2.1, by rw [(hr x).2]; exact h.2.2.1, trk_fr hr h.2.2.2⟩
theorem pc_tr56 {G : tc_G} (hK : gK G) {ns : Nat} : ∀ (l : ch) (x f : Nat) (u : tc_S), l.length ≤ 32 → l.length < f → trk u ns l x → y2 (lo_X1_trace_56 G f 24 (nI x) (nI l.length - 1) u) (fun _ w => (∀ k (h : k < l.reverse.length), w.1 25 k = nI ((l.reverse[k]).1 * ns + (l.reverse[k]).2)) ∧ (∀ k, l.length ≤ k → w.1 25 k = u.1 25 k) ∧ fr (fun o _ => o = 25) u w) := by
  intro l
  induction l with
  | nil =>
    intro x f u h32 hf ht
    obtain ⟨f, rfl⟩ : ∃ k, f = k + 1 := ⟨f - 1, by simp only [List.length_nil] at hf; omega⟩
    rw [lo_X1_trace_56, show nI ([] : ch).length - 1 = (-1 : Int32) from rfl, if_pos (by decide)]
    exact yl_ok ⟨fun k h => absurd h (by simp), fun _ _ => rfl, fr_refl⟩
  | cons q l ih =>
    intro x f u h32 hf ht
    rw [List.length_cons] at h32 hf
    obtain ⟨f, rfl⟩ : ∃ k, f = k + 1 := ⟨f - 1, by omega⟩
    obtain ⟨t1, t2, t3, t4⟩ := ht
    rw [lo_X1_trace_56, List.length_cons, nI_pred, if_neg (nI_pos (by omega)), hK.2.2.1.1, hK.1.1, hK.2.2.2.1.1]
    refine yl_ld 32 hK.2.2.1.2 t1 (by omega) ?_
    refine yl_sd 32 hK.1.2 (by omega) (by omega) ?_
    refine yl_ld 32 hK.2.2.2.1.2 t1 (by omega) ?_
    refine yl_let ?_
    rw [tc_w_ne (by omega), t2, t3, i_m1]
    refine yl_m (ih q.1 f _ (by omega) (by omega) (trk_fr (fun y => ⟨by rw [tc_w_ne (by omega)], by rw [tc_w_ne (by omega)]⟩) t4)) fun r hx => ⟨fun k h => ?_, fun k hk => ?_, fr_trans (fr_w fr_refl rfl) hx.2.2⟩
    · rw [List.length_reverse, List.length_cons] at h
      by_cases e : k < l.length
      · have := hx.1 k (by rw [List.length_reverse]; exact e)
        rw [this]
        simp only [List.reverse_cons]
        rw [List.getElem_append_left (by rw [List.length_reverse]; exact e)]
      · obtain rfl : k = l.length := by omega
        rw [hx.2.1 _ (Nat.le_refl _), w_get, if_pos ⟨rfl, rfl⟩]
        simp only [List.reverse_cons]
        rw [List.getElem_append_right (by rw [List.length_reverse]; exact Nat.le_refl _)]
        simp
    · rw [hx.2.1 k (by omega), w_get, if_neg (by omega)]
theorem pc_tr9 {G : tc_G} (hK : gK G) {ns : Nat} {v1 : Int32} {Q : Int32 × tc_S → Prop} : ∀ (l : ch) (x k n f : Nat) (u : tc_S), n + l.length ≤ 32 → l.length < f → trk u ns l x → u.1 24 1 = nI k → (∀ w, w.1 24 1 = nI (k + l.length) → fr (fun o j => o = 24 ∧ j = 1) u w → yl (bl_X1_trace_47 G 24 v1 w) Q) → yl (lo_X1_trace_9 G f 24 v1 (nI x) (nI n) u) Q := by
  intro l
  induction l with
  | nil =>
    intro x k n f u h32 hf ht hk hQ
    rw [List.length_nil] at h32 hf hQ
    obtain ⟨f, rfl⟩ : ∃ k, f = k + 1 := ⟨f - 1, by omega⟩
    rw [lo_X1_trace_9, show (32 : Int32) = nI 32 from rfl, pu_le (by omega) (by omega)]
    refine yl_if (fun _ => hQ u (by rw [Nat.add_zero]; exact hk) fr_refl) (fun _ => ?_)
    rw [hK.2.2.2.1.1]
    refine yl_ld 32 hK.2.2.2.1.2 ht.1 (by omega) ?_
    rw [ht.2]
    exact yl_p (by decide) (hQ u (by rw [Nat.add_zero]; exact hk) fr_refl)
  | cons q l ih =>
    intro x k n f u h32 hf ht hk hQ
    rw [List.length_cons] at h32 hf hQ
    obtain ⟨f, rfl⟩ : ∃ k, f = k + 1 := ⟨f - 1, by omega⟩
    obtain ⟨t1, t2, t3, t4⟩ := ht
    rw [lo_X1_trace_9, show (32 : Int32) = nI 32 from rfl, pu_le (by omega) (by omega), if_neg (by omega), hK.2.2.2.1.1]
    refine yl_ld 32 hK.2.2.2.1.2 t1 (by omega) ?_
    have q1 : q.1 < 32 := by cases l with
      | nil => exact t4.1
      | cons a l => exact t4.1
    rw [t2]
    refine yl_n (nI_pos (by omega)) ?_
    refine yl_ld 32 hK.2.2.2.1.2 t1 (by omega) ?_
    rw [t2]
    refine yl_let (yl_let ?_)
    rw [hk, nI_1, nI_1]
    refine ih q.1 (k + 1) (n + 1) f _ (by omega) (by omega) (trk_fr (fun y => ⟨by rw [tc_w_ne (by omega)], by rw [tc_w_ne (by omega)]⟩) t4) (by rw [w_get, if_pos ⟨rfl, rfl⟩]) fun w hw hf2 => ?_
    refine hQ w (by rw [hw]; congr 1; omega) (fr_trans (fr_w fr_refl ⟨rfl, rfl⟩) hf2)
theorem pc_trace {G : tc_G} (hK : gK G) {u u0 : tc_S} {ns c : Nat} {l : ch} (h32 : l.length ≤ 32) (ht : trk u ns l c) (h0 : u.1 24 1 = 0) (hf : fr fK u0 u) : y2 (fn_X1_trace G 24 (nI c) u) (fun _ w => w.1 24 1 = nI l.reverse.length ∧ w.1 24 2 = nI c ∧ (∀ k (h : k < l.reverse.length), w.1 25 k = nI ((l.reverse[k]).1 * ns + (l.reverse[k]).2)) ∧ fr fK u0 w) := by
  have hfu := tc_fu_big
  unfold fn_X1_trace
  refine yl_let ?_
  have t2 : trk (tc_w u 24 2 (nI c)) ns l c := trk_fr (fun y => ⟨by rw [tc_w_ne (by omega)], by rw [tc_w_ne (by omega)]⟩) ht
  refine pc_tr9 hK l c 0 0 tc_fu _ (by omega) (by omega) t2 (by rw [w_get, if_neg (by omega)]; exact h0) fun w hw hf2 => ?_
  unfold bl_X1_trace_47
  refine yl_let ?_
  rw [hw, Nat.zero_add]
  have t3 : trk w ns l c := trk_fr (fun y => ⟨hf2 _ _ (by omega), hf2 _ _ (by omega)⟩) t2
  refine yl_m (pc_tr56 hK l c tc_fu w h32 (by omega) t3) fun r hx => ⟨?_, ?_, hx.1, ?_⟩
  · rw [hx.2.2 _ _ (by omega), hw, Nat.zero_add, List.length_reverse]
  · rw [hx.2.2 _ _ (by omega), hf2 _ _ (by omega), w_get, if_pos ⟨rfl, rfl⟩]
  · exact fr_trans (fr_w hf ⟨by omega, by omega⟩) (fr_trans (fr_mono hf2 fun o k q => ⟨by omega, by omega⟩) (fr_mono hx.2.2 fun o k q => ⟨by omega, by omega⟩))
theorem pc_seek61 {G : tc_G} (hK : gK G) {u0 : tc_S} {t r h b : Nat} {g : mp} {c : Nat → en} (hT : gT G t r) (hr : r ≤ 200) (hS : wS g) (hns : mn g 0 * mn g 1 ≤ r) (htt : t + 10 ≤ 24 ∨ 30 ≤ t) (htb : tb u0 t r g c) (K25 : Nat → Nat → Int32 → Int32 → tc_S → Option (Int32 × tc_S)) (K : List Nat → (Nat → ch) → Option (ch × Nat)) (hK25 : ∀ Q pr u, bqs u (mn g 0) (mn g 1) Q pr → bQ (mn g 0) Q → fr fK u0 u → yl (K25 24 t (nI (mn g 1)) (nI (h + 1)) u) (bP u0 (mn g 1) (K Q pr))) : ∀ (n p f : Nat) (Q : List Nat) (pr : Nat → ch) (u : tc_S), p + n = mn g 1 → n < f → bqs u (mn g 0) (mn g 1) Q pr → bQ (mn g 0) Q → Q[h]? = some b → fr fK u0 u → yl (lo_X1_seek_61 G K25 f 24 t (nI (mn g 1)) (nI h) (nI b) (nI (b * mn g 1)) (nI (b * mn g 1 + p)) u) (bP u0 (mn g 1) (bin (cE c g) (cop c g) b K n p Q pr)) := by
  obtain ⟨⟨p0, p11⟩, ⟨p3, p4, p5, p6, p7, p8, p9⟩, l3, ll⟩ := hT
  have hnb := hS.2.1.2
  have h9 := hS.2.2.1.2
  intro n
  induction n with
  | zero =>
    intro p f Q pr u hp hf hq hQ hb hfr
    obtain ⟨f, rfl⟩ : ∃ k, f = k + 1 := ⟨f - 1, by omega⟩
    have hbn := hQ.2 b (List.mem_of_getElem? hb)
    have hx2 : (b + 1) * mn g 1 ≤ mn g 0 * mn g 1 := Nat.mul_le_mul_right _ (by omega)
    rw [Nat.add_mul, Nat.one_mul] at hx2
    rw [lo_X1_seek_61, nI_add, pu_le (by omega) (by omega), if_pos (by omega), bin]
    refine yl_let ?_
    rw [nI_1]
    exact hK25 Q pr u hq hQ hfr
  | succ n ih =>
    intro p f Q pr u hp hf hq hQ hb hfr
    obtain ⟨f, rfl⟩ : ∃ k, f = k + 1 := ⟨f - 1, by omega⟩
    have hbQ := List.mem_of_getElem? hb
    have hbn := hQ.2 b hbQ
    have hx2 : (b + 1) * mn g 1 ≤ mn g 0 * mn g 1 := Nat.mul_le_mul_right _ (by omega)
    rw [Nat.add_mul, Nat.one_mul] at hx2
    have hlt : h < Q.length := by
      rcases Nat.lt_or_ge h Q.length with q | q
      · exact q
      · rw [List.getElem?_eq_none q] at hb; cases hb
    have hQl := bQ_len hQ
    have htb2 : tb u t r g c := tb_fr htb hfr fun o k h1 h2 => by unfold fK; omega
    have hpl := htb2.2.1 (b * mn g 1 + p) (by omega)
    have hem := pl_emp hpl
    have skip : ∀ (Q : List Nat) (pr : Nat → ch) (u : tc_S), bqs u (mn g 0) (mn g 1) Q pr → bQ (mn g 0) Q → Q[h]? = some b → fr fK u0 u → yl (bl_X1_seek_194 G K25 (lo_X1_seek_61 G K25 f) 24 t (nI (mn g 1)) (nI h) (nI b) (nI (b * mn g 1)) (nI (b * mn g 1 + p)) u) (bP u0 (mn g 1) (bin (cE c g) (cop c g) b K n (p + 1) Q pr)) := by
      intro Q pr u a1 a2 a3 a4
      unfold bl_X1_seek_194
      refine yl_let ?_
      rw [nI_1, show b * mn g 1 + p + 1 = b * mn g 1 + (p + 1) by omega]
      exact ih (p + 1) f Q pr u (by omega) (by omega) a1 a2 a3 a4
    rw [lo_X1_seek_61, nI_add, pu_le (by omega) (by omega), if_neg (by omega), p3, p7, p8, bin]
    refine yl_ld (r + 5) (ll _ (by omega) (by omega)) (by omega) (by omega) ?_
    by_cases he : (c (b * mn g 1 + p)).1 = 0
    · have hE : cE c g b p = none := by
        unfold cE
        rw [he, if_pos (show (0 : Int32).toNatClampNeg = 0 from rfl)]
      rw [hE, hem.1.mp he]
      exact yl_n (by decide) (skip Q pr u hq hQ hb hfr)
    · rcases hpl with ⟨x1, x2⟩ | ⟨q, q1, q2, q3, q4, q5, q6, q7, q8⟩
      · exact absurd (by rw [x1]; rfl) he
      · rw [q3]
        refine yl_p (nI_pos' (by omega)) ?_
        have kq : (c (b * mn g 1 + p)).1.toNatClampNeg = q + 1 := by rw [q2, nI_clamp (by omega)]
        have h0 := wS_hash hS 0 q
        have h1 := wS_hash hS 1 q
        have hco := coth_lt hS q b
        have main : yl (bl_X1_seek_112 G K25 (lo_X1_seek_61 G K25 f) 24 t (nI (mn g 1)) (nI h) (nI b) (nI (b * mn g 1)) (nI (b * mn g 1 + p)) (nI (coth g q b)) u) (bP u0 (mn g 1) (match cE c g b p with
            | none => bin (cE c g) (cop c g) b K n (p + 1) Q pr
            | some x => if x ∈ Q then bin (cE c g) (cop c g) b K n (p + 1) Q pr else if cop c g x = true then some (((b, p) :: pr b).reverse, x) else bin (cE c g) (cop c g) b K n (p + 1) (Q ++ [x]) (fun y => if y = x then (b, p) :: pr b else pr y))) := by
          unfold bl_X1_seek_112
          rw [hK.2.2.2.2.1, hK.2.2.1.1, hK.2.2.2.1.1, hK.2.1.1, p9]
          refine yl_ld 32 hK.2.2.2.2.2 (by omega) (by omega) ?_
          rw [hq.2.2.2.1 _ hco]
          by_cases hin : coth g q b ∈ Q
          · rw [if_pos hin]
            refine yl_n i_n1 ?_
            have e : (match cE c g b p with
              | none => bin (cE c g) (cop c g) b K n (p + 1) Q pr
              | some x => if x ∈ Q then bin (cE c g) (cop c g) b K n (p + 1) Q pr else if cop c g x = true then some (((b, p) :: pr b).reverse, x) else bin (cE c g) (cop c g) b K n (p + 1) (Q ++ [x]) (fun y => if y = x then (b, p) :: pr b else pr y)) = bin (cE c g) (cop c g) b K n (p + 1) Q pr := by
              unfold cE
              rw [kq, if_neg (by omega), show q + 1 - 1 = q by omega]
              split
              · rfl
              · rename_i h2
                split at h2
                · cases h2
                · cases h2
                  rw [if_pos hin]
            rw [e]
            exact skip Q pr u hq hQ hb hfr
          · rw [if_neg hin]
            have hne : coth g q b ≠ b := fun w => hin (by rw [w]; exact hbQ)
            have hE : cE c g b p = some (coth g q b) := by
              unfold cE
              rw [kq, if_neg (by omega), show q + 1 - 1 = q by omega, if_neg hne]
            rw [hE]
            show yl _ (bP u0 (mn g 1) (if coth g q b ∈ Q then _ else _))
            rw [if_neg hin]
            have hQ2 := bQ_push hQ hin hco
            have hQl2 := bQ_len hQ2
            rw [List.length_append, List.length_singleton] at hQl2
            refine yl_p rfl (yl_z1 ?_)
            refine yl_sd 32 hK.2.2.2.2.2 (by omega) (by omega) ?_
            refine yl_sd 32 hK.2.2.1.2 (by omega) (by omega) ?_
            refine yl_sd 32 hK.2.2.2.1.2 (by omega) (by omega) ?_
            have g1 : ∀ o k, (tc_w (tc_w (tc_w u 29 (coth g q b) 1) 27 (coth g q b) (nI (b * mn g 1 + p))) 28 (coth g q b) (nI b)).1 o k = if o = 28 ∧ k = coth g q b then nI b else if o = 27 ∧ k = coth g q b then nI (b * mn g 1 + p) else if o = 29 ∧ k = coth g q b then 1 else u.1 o k := fun o k => by simp only [w_get]
            have f1 : fr fK u0 (tc_w (tc_w (tc_w u 29 (coth g q b) 1) 27 (coth g q b) (nI (b * mn g 1 + p))) 28 (coth g q b) (nI b)) := fr_w (fr_w (fr_w hfr ⟨by omega, by omega⟩) ⟨by omega, by omega⟩) ⟨by omega, by omega⟩
            generalize tc_w (tc_w (tc_w u 29 (coth g q b) 1) 27 (coth g q b) (nI (b * mn g 1 + p))) 28 (coth g q b) (nI b) = w at g1 f1 ⊢
            have rows : ∀ x, x ∈ Q → w.1 28 x = u.1 28 x ∧ w.1 27 x = u.1 27 x := fun x hx => by
              have : x ≠ coth g q b := fun e => hin (by rw [← e]; exact hx)
              refine ⟨?_, ?_⟩
              · rw [g1, if_neg (by omega), if_neg (by omega), if_neg (by omega)]
              · rw [g1, if_neg (by omega), if_neg (by omega), if_neg (by omega)]
            have hlen := (hq.2.2.1 h b hb).2
            refine yl_ld 32 l3 (by omega) (by omega) ?_
            have hcl := @cnt_le c (coth g q b * mn g 1) (mn g 1)
            have e3 : w.1 (t + 3) (coth g q b) = nI (cnt c (coth g q b * mn g 1) (mn g 1)) := by
              rw [g1, if_neg (by omega), if_neg (by omega), if_neg (by omega)]
              exact htb2.2.2 _ hco
            rw [e3, pu_le (by omega) (by omega)]
            have trb : trk w (mn g 1) ((b, p) :: pr b) (coth g q b) := ⟨by omega, by rw [g1, if_pos ⟨rfl, rfl⟩], by rw [g1, if_neg (by omega), if_pos ⟨rfl, rfl⟩], trc_k hQ hnb rows (hq.2.2.2.2 b hbQ)⟩
            by_cases ho : cop c g (coth g q b) = true
            · have ho2 : cnt c (coth g q b * mn g 1) (mn g 1) < mn g 1 := by unfold cop at ho; simpa using ho
              rw [if_pos ho, if_neg (by omega)]
              have z := pc_trace hK (l := (b, p) :: pr b) (c := coth g q b) (by rw [List.length_cons]; omega) trb (by rw [g1, if_neg (by omega), if_neg (by omega), if_neg (by omega)]; exact hq.2.1) f1
              refine yl_b z fun r2 w2 hw2 => ?_
              exact yl_z1 (yl_ok ⟨rfl, hw2.1, hw2.2.1, hw2.2.2.1, hw2.2.2.2⟩)
            · have ho2 : ¬ cnt c (coth g q b * mn g 1) (mn g 1) < mn g 1 := by unfold cop at ho; simpa using ho
              rw [if_neg ho, if_pos (by omega), show w.1 24 7 = nI Q.length from by rw [g1, if_neg (by omega), if_neg (by omega), if_neg (by omega)]; exact hq.1]
              refine yl_sd 32 hK.2.1.2 (by omega) (by omega) (yl_let ?_)
              rw [show (tc_w w 26 Q.length (nI (coth g q b))).1 24 7 = nI Q.length from by rw [w_get, if_neg (by omega), g1, if_neg (by omega), if_neg (by omega), if_neg (by omega)]; exact hq.1, nI_1]
              have g2 : ∀ o k, (tc_w (tc_w w 26 Q.length (nI (coth g q b))) 24 7 (nI (Q.length + 1))).1 o k = if o = 24 ∧ k = 7 then nI (Q.length + 1) else if o = 26 ∧ k = Q.length then nI (coth g q b) else w.1 o k := fun o k => by simp only [w_get]
              have f2 : fr fK u0 (tc_w (tc_w w 26 Q.length (nI (coth g q b))) 24 7 (nI (Q.length + 1))) := fr_w (fr_w f1 ⟨by omega, by omega⟩) ⟨by omega, by omega⟩
              generalize tc_w (tc_w w 26 Q.length (nI (coth g q b))) 24 7 (nI (Q.length + 1)) = y at g2 f2 ⊢
              refine skip _ _ y ⟨?_, ?_, fun k x hx => ?_, fun d hd => ?_, fun x hx => ?_⟩ hQ2 (by rw [List.getElem?_append_left hlt]; exact hb) f2
              · rw [g2, if_pos ⟨rfl, rfl⟩, List.length_append]; rfl
              · rw [g2, if_neg (by omega), if_neg (by omega), g1, if_neg (by omega), if_neg (by omega), if_neg (by omega)]; exact hq.2.1
              · by_cases hk : k < Q.length
                · have hx1 := getq_l hx hk
                  have hxc : x ≠ coth g q b := fun e => hin (by rw [← e]; exact List.mem_of_getElem? hx1)
                  have := hq.2.2.1 k x hx1
                  refine ⟨?_, ?_⟩
                  · rw [g2, if_neg (by omega), if_neg (by omega), g1, if_neg (by omega), if_neg (by omega), if_neg (by omega)]; exact this.1
                  · show (if x = coth g q b then (b, p) :: pr b else pr x).length ≤ k
                    rw [if_neg hxc]; exact this.2
                · have hkl : k < (Q ++ [coth g q b]).length := by
                    rcases Nat.lt_or_ge k (Q ++ [coth g q b]).length with q | q
                    · exact q
                    · rw [List.getElem?_eq_none q] at hx; cases hx
                  rw [List.length_append, List.length_singleton] at hkl
                  obtain rfl : k = Q.length := by omega
                  have hxc : x = coth g q b := by
                    rw [List.getElem?_append_right (Nat.le_refl _), Nat.sub_self] at hx
                    exact (Option.some.inj hx).symm
                  refine ⟨?_, ?_⟩
                  · rw [g2, if_neg (by omega), if_pos ⟨rfl, rfl⟩, hxc]
                  · show (if x = coth g q b then (b, p) :: pr b else pr x).length ≤ Q.length
                    rw [if_pos hxc, List.length_cons]; omega
              · rw [g2, if_neg (by omega), if_neg (by omega), g1, if_neg (by omega), if_neg (by omega)]
                by_cases hd2 : d = coth g q b
                · rw [if_pos ⟨rfl, hd2⟩, if_pos (by rw [hd2]; simp)]
                · rw [if_neg (by omega), hq.2.2.2.1 d hd]
                  by_cases hd3 : d ∈ Q
                  · rw [if_pos hd3, if_pos (List.mem_append_left _ hd3)]
                  · rw [if_neg hd3, if_neg (by
                      intro w
                      rcases List.mem_append.mp w with w | w
                      · exact hd3 w
                      · exact hd2 (List.mem_singleton.mp w))]
              · show trc y (mn g 1) (Q ++ [coth g q b]) (if x = coth g q b then (b, p) :: pr b else pr x) x
                have rows2 : ∀ x, x ∈ Q → y.1 28 x = u.1 28 x ∧ y.1 27 x = u.1 27 x := fun x hx => by
                  have := rows x hx
                  refine ⟨?_, ?_⟩
                  · rw [g2, if_neg (by omega), if_neg (by omega)]; exact this.1
                  · rw [g2, if_neg (by omega), if_neg (by omega)]; exact this.2
                have mono := fun {l : ch} {x : Nat} (hh : trc u (mn g 1) Q l x) => trc_mono (Q2 := Q ++ [coth g q b]) rows2 (fun x hx => List.mem_append_left _ hx) hh
                by_cases hxc : x = coth g q b
                · rw [if_pos hxc, hxc]
                  refine ⟨by simp, ?_, ?_, mono (hq.2.2.2.2 b hbQ)⟩
                  · rw [g2, if_neg (by omega), if_neg (by omega), g1, if_pos ⟨rfl, rfl⟩]
                  · rw [g2, if_neg (by omega), if_neg (by omega), g1, if_neg (by omega), if_pos ⟨rfl, rfl⟩]
                · rw [if_neg hxc]
                  rcases List.mem_append.mp hx with w | w
                  · exact mono (hq.2.2.2.2 x w)
                  · exact absurd (List.mem_singleton.mp w) hxc
        refine yl_ld (r + 5) (ll _ (by omega) (by omega)) (by omega) (by omega) ?_
        rw [q7, pu_eq (by omega) (by omega)]
        unfold coth at main
        by_cases hh : mhash g 0 q = b
        · rw [if_pos hh] at main ⊢
          refine yl_ld (r + 5) (ll _ (by omega) (by omega)) (by omega) (by omega) ?_
          rw [q8]
          exact main
        · rw [if_neg hh] at main ⊢
          exact main
