/-! arranged: each key in one of its two buckets, no bucket with more than it may have -/
def lcb (f : Nat → Nat) (b : Nat) (S : List Nat) : Nat := S.countP (fun q => decide (f q = b))
def arr (h0 h1 : Nat → Nat) (sl : Nat) (S : List Nat) : Prop := ∃ f : Nat → Nat, (∀ q ∈ S, f q = h0 q ∨ f q = h1 q) ∧ ∀ b, lcb f b S ≤ sl
def smR (R : Nat → Bool) (c : Nat → Nat) : Nat → Nat
  | 0 => 0
  | n + 1 => smR R c n + (if R n = true then c n else 0)
theorem smR_le {R : Nat → Bool} {c d : Nat → Nat} : ∀ n, (∀ b, b < n → R b = true → c b ≤ d b) → smR R c n ≤ smR R d n := by
  intro n
  induction n with
  | zero => intro _; exact Nat.le_refl _
  | succ n ih =>
    intro h
    have i := ih fun b hb => h b (by omega)
    rw [smR, smR]
    by_cases r : R n = true
    · rw [if_pos r, if_pos r]
      have := h n (by omega) r
      omega
    · rw [if_neg r, if_neg r]; omega
theorem smR_add {R : Nat → Bool} {c : Nat → Nat} {x : Nat} : ∀ n, smR R (fun b => c b + (if x = b then 1 else 0)) n = smR R c n + (if R x = true ∧ x < n then 1 else 0) := by
  intro n
  induction n with
  | zero => rw [smR, smR, if_neg (by omega)]
  | succ n ih =>
    rw [smR, smR, ih]
    by_cases r : R n = true
    · rw [if_pos r, if_pos r]
      by_cases e : x = n
      · subst e
        rw [if_pos rfl, if_neg (by omega), if_pos ⟨r, by omega⟩]
        omega
      · rw [if_neg e]
        by_cases r2 : R x = true ∧ x < n
        · rw [if_pos r2, if_pos ⟨r2.1, by omega⟩]; omega
        · rw [if_neg r2, if_neg (fun z => r2 ⟨z.1, by omega⟩)]
          omega
    · rw [if_neg r, if_neg r]
      by_cases r2 : R x = true ∧ x < n
      · rw [if_pos r2, if_pos ⟨r2.1, by omega⟩]
      · rw [if_neg r2, if_neg (fun z => r2 ⟨z.1, by
          by_cases e : x = n
          · rw [e] at z; exact absurd z.1 r
          · omega⟩)]
theorem lcb_cons (f : Nat → Nat) (b q : Nat) (S : List Nat) : lcb f b (q :: S) = lcb f b S + (if f q = b then 1 else 0) := by
  unfold lcb
  rw [List.countP_cons]
  by_cases c : f q = b
  · rw [if_pos c, if_pos (decide_eq_true c)]
  · rw [if_neg c, if_neg (by rw [decide_eq_false c]; decide)]
theorem cnt_sum {f : Nat → Nat} {R : Nat → Bool} {nb : Nat} (hlt : ∀ b, R b = true → b < nb) : ∀ S : List Nat, S.countP (fun q => R (f q)) = smR R (fun b => lcb f b S) nb := by
  intro S
  induction S with
  | nil =>
    rw [List.countP_nil]
    have z : ∀ n, smR R (fun b => lcb f b []) n = 0 := by
      intro n
      induction n with
      | zero => rfl
      | succ n ih => rw [smR, ih]; unfold lcb; rw [List.countP_nil]; split <;> rfl
    exact (z nb).symm
  | cons q S ih =>
    rw [List.countP_cons, ih]
    have e : (fun b => lcb f b (q :: S)) = fun b => lcb f b S + (if f q = b then 1 else 0) := by
      funext b
      exact lcb_cons f b q S
    rw [e, smR_add]
    by_cases r : R (f q) = true
    · rw [if_pos r, if_pos ⟨r, hlt _ r⟩]
    · rw [if_neg r, if_neg (fun z => r z.1)]
theorem cp_mono {P Q : Nat → Bool} : ∀ S : List Nat, (∀ q ∈ S, P q = true → Q q = true) → S.countP P ≤ S.countP Q := by
  intro S
  induction S with
  | nil => intro _; exact Nat.le_refl _
  | cons q S ih =>
    intro h
    have i := ih fun x hx => h x (List.mem_cons_of_mem _ hx)
    rw [List.countP_cons, List.countP_cons]
    by_cases c : P q = true
    · rw [if_pos c, if_pos (h q (List.mem_cons_self ..) c)]; omega
    · rw [if_neg c]; split <;> omega
/-- full buckets out of which nothing leads: one more does not go in -/
theorem arr_no {h0 h1 F : Nat → Nat} {nb sl k : Nat} {A : List Nat} {R : Nat → Bool} (hlt : ∀ b, R b = true → b < nb) (hF : ∀ b, R b = true → sl ≤ lcb F b A) (hcl : ∀ q ∈ A, R (F q) = true → R (h0 q) = true ∧ R (h1 q) = true) (hk : R (h0 k) = true ∧ R (h1 k) = true) : ¬ arr h0 h1 sl (k :: A) := by
  rintro ⟨f, f1, f2⟩
  have n1 := cnt_sum (f := f) hlt (k :: A)
  have n2 := cnt_sum (f := F) hlt A
  have s1 := smR_le (R := R) (c := fun b => lcb f b (k :: A)) (d := fun b => lcb F b A) nb fun b _ r => Nat.le_trans (f2 b) (hF b r)
  have m := cp_mono (P := fun q => R (F q)) (Q := fun q => R (f q)) A fun q hq r => by
    rcases f1 q (List.mem_cons_of_mem _ hq) with z | z
    · show R (f q) = true; rw [z]; exact (hcl q hq r).1
    · show R (f q) = true; rw [z]; exact (hcl q hq r).2
  have rk : R (f k) = true := by
    rcases f1 k (List.mem_cons_self ..) with z | z
    · rw [z]; exact hk.1
    · rw [z]; exact hk.2
  rw [List.countP_cons, if_pos rk] at n1
  omega
theorem arr_nil (h0 h1 : Nat → Nat) (sl : Nat) : arr h0 h1 sl [] := ⟨h0, fun _ _ => Or.inl rfl, fun b => by unfold lcb; rw [List.countP_nil]; omega⟩
theorem arr_sub {h0 h1 : Nat → Nat} {sl : Nat} {l A : List Nat} (h : arr h0 h1 sl (l ++ A)) : arr h0 h1 sl A := by
  obtain ⟨f, f1, f2⟩ := h
  refine ⟨f, fun q hq => f1 q (List.mem_append_right _ hq), fun b => ?_⟩
  have := f2 b
  unfold lcb at this ⊢
  rw [List.countP_append] at this
  omega
theorem arr_perm {h0 h1 : Nat → Nat} {sl : Nat} {l A : List Nat} (hp : l.Perm A) (h : arr h0 h1 sl l) : arr h0 h1 sl A := by
  obtain ⟨f, f1, f2⟩ := h
  refine ⟨f, fun q hq => f1 q (hp.mem_iff.mpr hq), fun b => ?_⟩
  have := f2 b
  unfold lcb at this ⊢
  rw [← hp.countP_eq]
  exact this
/-- how many do not go in, one by one -/
noncomputable def ov (h0 h1 : Nat → Nat) (sl : Nat) : List Nat → List Nat → Nat
  | [], _ => 0
  | k :: l, A => @ite Nat (arr h0 h1 sl (k :: A)) (Classical.propDecidable _) (ov h0 h1 sl l (k :: A)) (1 + ov h0 h1 sl l A)
theorem ov_y {h0 h1 : Nat → Nat} {sl k : Nat} {l A : List Nat} (h : arr h0 h1 sl (k :: A)) : ov h0 h1 sl (k :: l) A = ov h0 h1 sl l (k :: A) := by
  rw [ov]
  exact @if_pos _ (Classical.propDecidable _) h Nat _ _
theorem ov_n {h0 h1 : Nat → Nat} {sl k : Nat} {l A : List Nat} (h : ¬ arr h0 h1 sl (k :: A)) : ov h0 h1 sl (k :: l) A = 1 + ov h0 h1 sl l A := by
  rw [ov]
  exact @if_neg _ (Classical.propDecidable _) h Nat _ _
theorem ov_le {h0 h1 : Nat → Nat} {sl : Nat} : ∀ l A : List Nat, ov h0 h1 sl l A ≤ l.length := by
  intro l
  induction l with
  | nil => intro A; exact Nat.le_refl _
  | cons k l ih =>
    intro A
    rw [List.length_cons]
    by_cases c : arr h0 h1 sl (k :: A)
    · rw [ov_y c]; have := ih (k :: A); omega
    · rw [ov_n c]; have := ih A; omega
theorem ov_0 {h0 h1 : Nat → Nat} {sl : Nat} : ∀ l A : List Nat, arr h0 h1 sl A → (ov h0 h1 sl l A = 0 ↔ arr h0 h1 sl (l.reverse ++ A)) := by
  intro l
  induction l with
  | nil => intro A h; exact ⟨fun _ => h, fun _ => rfl⟩
  | cons k l ih =>
    intro A h
    rw [List.reverse_cons, List.append_assoc]
    show _ ↔ arr h0 h1 sl (l.reverse ++ (k :: A))
    by_cases c : arr h0 h1 sl (k :: A)
    · rw [ov_y c]; exact ih (k :: A) c
    · rw [ov_n c]
      exact ⟨fun z => by omega, fun z => absurd (arr_sub z) c⟩
theorem ov_all {h0 h1 : Nat → Nat} {sl : Nat} (l : List Nat) : ov h0 h1 sl l [] = 0 ↔ arr h0 h1 sl l := by
  rw [ov_0 l [] (arr_nil _ _ _), List.append_nil]
  exact ⟨arr_perm (List.reverse_perm l), arr_perm (List.reverse_perm l).symm⟩
/-! the search finds a chain, or there is none -/
theorem gp_grd {nb ns : Nat} {E : Nat → Nat → Option Nat} {sk : Nat → Prop} : ∀ (m b : Nat), gp nb ns E sk m b → ∃ l e, grd nb ns E sk m b l e ∧ e < nb ∧ sk e := by
  intro m
  induction m with
  | zero => intro b h; exact ⟨[], b, ⟨rfl, rfl⟩, h⟩
  | succ m ih =>
    intro b h
    obtain ⟨hb, p, c, h1, h2, h3⟩ := h
    obtain ⟨d, ⟨d1, c2, d2, d3⟩, d4⟩ := pk_least (fun p => p < ns ∧ ∃ c, E b p = some c ∧ gp nb ns E sk m c) ⟨p, h1, c, h2, h3⟩
    obtain ⟨l, e, i1, i2⟩ := ih c2 d3
    exact ⟨(b, d) :: l, e, ⟨d, c2, l, rfl, d1, d2, d3, fun p2 c3 q1 q2 q3 => d4 p2 q1 ⟨by omega, c3, q2, q3⟩, i1⟩, i2⟩
theorem bfs_cases {nb ns : Nat} {E : Nat → Nat → Option Nat} {op : Nat → Bool} {f s : Nat} (hE : ∀ b p c, E b p = some c → c < nb) (hf : f < nb) (hs : s < nb) : (bfs nb ns E op f s = none ∧ ∀ n, ¬ gp nb ns E (fun b => op b = true ∧ b ≠ f ∧ b ≠ s) n f ∧ ¬ gp nb ns E (fun b => op b = true ∧ b ≠ f ∧ b ≠ s) n s) ∨ ∃ m b0 L e, bfs nb ns E op f s = some (L, e) ∧ 1 ≤ m ∧ (b0 = f ∨ b0 = s) ∧ grd nb ns E (fun b => op b = true ∧ b ≠ f ∧ b ≠ s) m b0 L e ∧ (e < nb ∧ op e = true ∧ e ≠ f ∧ e ≠ s) ∧ ∀ n, gp nb ns E (fun b => op b = true ∧ b ≠ f ∧ b ≠ s) n b0 → m ≤ n := by
  by_cases h : ∃ n, gp nb ns E (fun b => op b = true ∧ b ≠ f ∧ b ≠ s) n f ∨ gp nb ns E (fun b => op b = true ∧ b ≠ f ∧ b ≠ s) n s
  · right
    obtain ⟨m, m1, m2⟩ := pk_least (fun n => gp nb ns E (fun b => op b = true ∧ b ≠ f ∧ b ≠ s) n f ∨ gp nb ns E (fun b => op b = true ∧ b ≠ f ∧ b ≠ s) n s) h
    have mf : ∀ n, gp nb ns E (fun b => op b = true ∧ b ≠ f ∧ b ≠ s) n f → m ≤ n := fun n hn => Classical.byContradiction fun z => m2 n (by omega) (Or.inl hn)
    have ms : ∀ n, gp nb ns E (fun b => op b = true ∧ b ≠ f ∧ b ≠ s) n s → m ≤ n := fun n hn => Classical.byContradiction fun z => m2 n (by omega) (Or.inr hn)
    have h1 : 1 ≤ m := by
      refine Classical.byContradiction fun z => ?_
      have e : m = 0 := by omega
      rw [e] at m1
      rcases m1 with q | q
      · exact q.2.2.1 rfl
      · exact q.2.2.2 rfl
    by_cases c : gp nb ns E (fun b => op b = true ∧ b ≠ f ∧ b ≠ s) m f
    · obtain ⟨L, e, l1, l2⟩ := gp_grd m f c
      exact ⟨m, f, L, e, bfs_A hE hf hs h1 l1 (Or.inl rfl) mf ms, h1, Or.inl rfl, l1, l2, mf⟩
    · have c2 : gp nb ns E (fun b => op b = true ∧ b ≠ f ∧ b ≠ s) m s := by
        rcases m1 with q | q
        · exact absurd q c
        · exact q
      obtain ⟨L, e, l1, l2⟩ := gp_grd m s c2
      exact ⟨m, s, L, e, bfs_A hE hf hs h1 l1 (Or.inr ⟨rfl, c⟩) mf ms, h1, Or.inr rfl, l1, l2, ms⟩
  · left
    have hn : ∀ n, ¬ gp nb ns E (fun b => op b = true ∧ b ≠ f ∧ b ≠ s) n f ∧ ¬ gp nb ns E (fun b => op b = true ∧ b ≠ f ∧ b ≠ s) n s := fun n => ⟨fun z => h ⟨n, Or.inl z⟩, fun z => h ⟨n, Or.inr z⟩⟩
    exact ⟨bfs_B hE hf hs (fun n => (hn n).1) (fun n => (hn n).2), hn⟩
/-- where a chain leads, step by step -/
theorem grd_lv {nb ns : Nat} {E : Nat → Nat → Option Nat} {sk : Nat → Prop} : ∀ (m b : Nat) (L : ch) (e : Nat), grd nb ns E sk m b L e → b < nb → (∀ b p c, E b p = some c → c < nb) → (∀ n, gp nb ns E sk n b → m ≤ n) → ∀ j (h : j < L.length), (L[j]).1 < nb ∧ (L[j]).2 < ns ∧ E (L[j]).1 (L[j]).2 = some ((L[j + 1]?.map Prod.fst).getD e) ∧ (∀ n, gp nb ns E sk n (L[j]).1 → m - j ≤ n) ∧ (j = 0 → (L[j]).1 = b) ∧ (1 ≤ j → gp nb ns E sk (m - j) (L[j]).1) := by
  intro m
  induction m with
  | zero => intro b L e h _ _ _ j hj; rw [h.1] at hj; exact absurd hj (Nat.not_lt_zero _)
  | succ m ih =>
    intro b L e h hb hE hm j hj
    obtain ⟨p, c, l2, g1, g2, g3, g4, g5, g6⟩ := h
    subst g1
    have hc := hE _ _ _ g3
    have mc : ∀ n, gp nb ns E sk n c → m ≤ n := fun n hn => by
      have := hm (n + 1) ⟨hb, p, c, g2, g3, hn⟩
      omega
    cases j with
    | zero =>
      refine ⟨hb, g2, ?_, hm, fun _ => rfl, fun z => by omega⟩
      show E b p = some ((((b, p) :: l2)[0 + 1]?.map Prod.fst).getD e)
      rw [List.getElem?_cons_succ]
      cases m with
      | zero =>
        obtain ⟨k1, k2⟩ := g6
        rw [k1, k2]
        exact g3
      | succ m =>
        obtain ⟨p3, c3, l3, k1, _⟩ := g6
        rw [k1]
        exact g3
    | succ j =>
      have hj2 : j < l2.length := by rw [List.length_cons] at hj; omega
      obtain ⟨i1, i2, i3, i4, i5, i6⟩ := ih c l2 e g6 hc hE mc j hj2
      show (l2[j]).1 < nb ∧ (l2[j]).2 < ns ∧ E (l2[j]).1 (l2[j]).2 = some ((((b, p) :: l2)[j + 1 + 1]?.map Prod.fst).getD e) ∧ (∀ n, gp nb ns E sk n (l2[j]).1 → m + 1 - (j + 1) ≤ n) ∧ (j + 1 = 0 → (l2[j]).1 = b) ∧ (1 ≤ j + 1 → gp nb ns E sk (m + 1 - (j + 1)) (l2[j]).1)
      rw [List.getElem?_cons_succ]
      refine ⟨i1, i2, i3, fun n hn => by have := i4 n hn; omega, fun z => by omega, fun _ => ?_⟩
      rw [show m + 1 - (j + 1) = m - j by omega]
      by_cases z : j = 0
      · subst z
        rw [i5 rfl]
        exact g4
      · exact i6 (by omega)
