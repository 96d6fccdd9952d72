/-! text: what is told comes in -/
theorem mpt3_rg {a : Int32} {r : Bool × mp} (ha : 0 ≤ a) : (mpt3 a r).1 = -1 ∨ 0 ≤ (mpt3 a r).1 := by
  obtain ⟨t, x⟩ := r
  cases t with
  | true => exact Or.inr ha
  | false => exact Or.inl rfl
theorem mpt2_rg {g : mp} : (mpt2 g).1 = -1 ∨ 0 ≤ (mpt2 g).1 := by
  unfold mpt2
  split
  · cases hc : mchain g (ck g 68 - 1) with
    | none => exact mpt3_rg (a := 4) (by decide)
    | some l => exact Or.inr (show (0 : Int32) ≤ 2 by decide)
  · split
    · exact mpt3_rg (by decide)
    · split
      · exact mpt3_rg (by decide)
      · exact mpt3_rg (by decide)
theorem mput_rg {g : mp} {q : Nat} {v : Int32} {P : Nat} (h : mre P g) (hq : q ≤ 999) (hP : P + 1 < 2 ^ 30) : (mput g q v).1 = -1 ∨ 0 ≤ (mput g q v).1 := by
  have hh := fun hl => put_hand (v := v) h hq hP hl
  unfold mput
  cases hl : mloc (upd g 12 (g 12 + 1)) q with
  | some i => exact Or.inr (show (0 : Int32) ≤ 0 by decide)
  | none =>
    rw [mputf]
    obtain ⟨a1, a2⟩ := hh hl
    obtain ⟨c1, c2, c3, c4, c5, n, c6, c7⟩ := mcome_ok a1 (by omega)
    unfold mpt1
    split
    · exact mpt2_rg
    · rw [c7]
      exact Or.inr (nI_pos' (by omega))
/-- an empty map by settings -/
def mbg (S : mp) : mp := fun k => if k < 12 then S k else 0
theorem mbg_lo {S : mp} {k : Nat} (h : k < 12) : mbg S k = S k := if_pos h
theorem mbg_hi {S : mp} {k : Nat} (h : 12 ≤ k) : mbg S k = 0 := if_neg (by omega)
theorem gc_mbg {S : mp} {i : Nat} : gc (mbg S) i = e0 := by
  unfold gc
  rw [mbg_hi (by omega), mbg_hi (by omega), mbg_hi (by omega), mbg_hi (by omega)]
  rfl
theorem ck_mbg {S : mp} {i : Nat} : ck (mbg S) i = 0 := by
  rw [ck_gc, gc_mbg]; rfl
theorem mre_mbg {S : mp} (a : wA S) : mre 0 (mbg S) := by
  have n0 : ∀ k, 12 ≤ k → mn (mbg S) k = 0 := fun k hk => by unfold mn; rw [mbg_hi hk]; rfl
  refine ⟨⟨⟨sA_wA (fun k hk => mbg_lo (by omega)) a, ⟨by rw [n0 18 (by omega), mbg_hi (by omega)]; rfl, by rw [n0 18 (by omega)]; exact Nat.zero_le _⟩, fun i hi => ?_, fun i _ hc => absurd ck_mbg hc, fun i j _ _ _ hc => absurd ck_mbg hc, ⟨⟨by rw [n0 12 (by omega), mbg_hi (by omega)]; rfl, by rw [n0 12 (by omega)]; decide⟩, fun i _ hc => absurd ck_mbg hc, fun i j _ _ _ hc => absurd ck_mbg hc⟩⟩, fun j hj => ?_⟩, ck_mbg, n0 12 (by omega)⟩
  · refine ⟨?_, ?_, fun _ => gc_mbg⟩
    · rw [ck_mbg, mbg_hi (by omega)]; rfl
    · rw [ck_mbg]; exact Nat.zero_le _
  · rw [ck_mbg, n0 18 (by omega)]
    exact ⟨fun q => absurd rfl q, fun q => by omega⟩
theorem fc_mbg {S : mp} : fc (mbg S) = c0 := by
  funext i
  unfold fc c0
  rw [gc_mbg, gc_mbg]
  split
  · rfl
  · split <;> rfl
def pe : List (Nat × Nat × Nat) → mp → Sum Nat mp
  | [], g => .inr g
  | h :: H, g => if (mput g h.1 (nI h.2.1)).1 = -1 then .inl h.2.2 else pe H (mput g h.1 (nI h.2.1)).2
theorem pe_ok : ∀ (H : List (Nat × Nat × Nat)) (g g2 : mp) (P : Nat), (∀ h ∈ H, h.1 ≤ 999) → mre P g → P + H.length < 2 ^ 30 → pe H g = .inr g2 → mre (P + H.length) g2 := by
  intro H
  induction H with
  | nil =>
    intro g g2 P _ hg _ h
    rw [pe] at h
    rw [← Sum.inr.inj h]
    exact hg
  | cons h H ih =>
    intro g g2 P hk hg hP hp
    rw [List.length_cons] at hP ⊢
    rw [pe] at hp
    by_cases c : (mput g h.1 (nI h.2.1)).1 = -1
    · rw [if_pos c] at hp; cases hp
    · rw [if_neg c] at hp
      have := ih _ g2 (P + 1) (fun x hx => hk x (List.mem_cons_of_mem _ hx)) (mput_ok hg (hk h (List.mem_cons_self ..)) (by omega)) (by omega) hp
      rw [show P + (H.length + 1) = P + 1 + H.length by omega]
      exact this
/-- the class: all that was told is put -/
def cE2 (w : tc_S) (o : Sum Nat mp) : Prop := match o with
  | .inl s => w.1 65 0 = 4 ∧ w.1 65 1 = nI s
  | .inr g => mt w 14 g ∧ w.1 65 0 = 0 ∧ w.1 65 1 = -1
def fEn (o k : Nat) : Prop := fE 14 o k ∨ (o = 65 ∧ (k = 0 ∨ k = 1))
theorem mt_enterAll10 {G : tc_G} (hK : gK G) (hV : gV G) (hE : gE G) (hT : gT G 14 64) (hB : gT G 39 64) (hW : gW G) {u0 : tc_S} {H : List (Nat × Nat × Nat)} (hH : ∀ h ∈ H, h.1 ≤ 999) (hl : H.length ≤ 57) : ∀ (m j f P : Nat) (g : mp) (u : tc_S), j + m = H.length → m < f → P = j → mre P g → mt u 14 g → tR u 39 64 → hL u H → (u.1 65 0 = 0 ∧ u.1 65 1 = -1) → fr fEn u0 u → y2 (lo_X6_enterAll_10 G f 65 14 38 (nI j) u) (fun r w => r = (match pe (H.drop j) g with | .inl _ => 0 | .inr _ => 1) ∧ cE2 w (pe (H.drop j) g) ∧ fr fEn u0 w) := by
  intro m
  induction m with
  | zero =>
    intro j f P g u hj hf hP hg hm hR hL2 h01 hr
    obtain ⟨f, rfl⟩ : ∃ k, f = k + 1 := ⟨f - 1, by omega⟩
    rw [lo_X6_enterAll_10, hL2.1, pu_le (by omega) (by omega), if_pos (by omega), List.drop_eq_nil_of_le (by omega)]
    exact yl_z1 (yl_ok ⟨rfl, ⟨hm, h01⟩, hr⟩)
  | succ m ih =>
    intro j f P g u hj hf hP hg hm hR hL2 h01 hr
    obtain ⟨f, rfl⟩ : ∃ k, f = k + 1 := ⟨f - 1, by omega⟩
    have hjl : j < H.length := by omega
    have hjk := hH _ (List.getElem_mem hjl)
    obtain ⟨e1, e2, e3⟩ := hL2.2 j hjl
    rw [lo_X6_enterAll_10, hL2.1, pu_le (by omega) (by omega), if_neg (by omega), hW.2.2.2.1.1, hW.2.2.2.1.2.1, hW.2.2.2.1.2.2]
    refine yl_ld 58 hW.2.2.2.2.1.1 (by omega) (by omega) (yl_ld 58 hW.2.2.2.2.1.2.1 (by omega) (by omega) ?_)
    rw [e1, e2, List.drop_eq_getElem_cons hjl, pe]
    refine yl_b (mt_enter hK hV hE (v := nI (H[j]).2.1) hT hB okt14 hg (by omega) hm hR hjk) fun r w hw => ?_
    obtain ⟨w1, w2, w3⟩ := hw
    have nf : ∀ o k, (65 ≤ o ∧ o ≤ 70) → w.1 o k = u.1 o k := fun o k q => w3 _ _ (by unfold fE fV fT; omega)
    have f1 : fr fEn u0 w := fr_trans hr (fr_mono w3 fun o k q => Or.inl q)
    rw [w1]
    rcases mput_rg (v := nI (H[j]).2.1) hg hjk (by omega) with z | z
    · rw [if_pos z, z]
      refine yl_n (by decide) (yl_let ?_)
      refine yl_ld 58 hW.2.2.2.2.1.2.2 (by omega) (by omega) (yl_let (yl_z0 (yl_ok ⟨rfl, ⟨?_, ?_⟩, fr_w (fr_w f1 (Or.inr ⟨rfl, by omega⟩)) (Or.inr ⟨rfl, by omega⟩)⟩)))
      · rw [w_get, if_neg (by omega), w_get, if_pos ⟨rfl, rfl⟩]
      · rw [w_get, if_pos ⟨rfl, rfl⟩, w_get, if_neg (by omega), nf _ _ (by omega)]; exact e3
    · have nz : ¬ (mput g (H[j]).1 (nI (H[j]).2.1)).1 = -1 := fun q => by rw [q] at z; exact absurd z (by decide)
      rw [if_neg nz]
      refine yl_p z (yl_let ?_)
      rw [nI_1]
      have hL3 : hL w H := ⟨by rw [nf _ _ (by omega)]; exact hL2.1, fun i hi => by rw [nf _ _ (by omega), nf _ _ (by omega), nf _ _ (by omega)]; exact hL2.2 i hi⟩
      exact ih (j + 1) f (P + 1) _ w (by omega) (by omega) (by omega) (mput_ok hg hjk (by omega)) w2 (tR_fr okt14 w3 hR) hL3 ⟨by rw [nf _ _ (by omega)]; exact h01.1, by rw [nf _ _ (by omega)]; exact h01.2⟩ f1
theorem mt_begin14 {G : tc_G} (hT : gT G 14 64) (hW : gW G) {u : tc_S} {S : mp} (a : wA S) (hR : tR u 14 64) (hS : (∀ k, k < 11 → u.1 66 k = S k) ∧ u.1 67 0 = S 11) : y2 (fn_X9_begin G 14 66 u) (fun _ w => mt w 14 (mbg S) ∧ fr (fT 14) u w) := by
  unfold fn_X9_begin
  rw [hT.1.1]
  refine yl_b (pc_copyS (t := 14) (s := 65) hT.1.2 hW.2.2.1 (by omega)) fun _ w hw => ?_
  obtain ⟨w1, w2, w3⟩ := hw
  have tsw : tS w 14 64 (fun k => if k < 12 then S k else if k = 18 then w.1 14 10 else w.1 14 (k - 1)) := by
    refine ⟨⟨?_, ?_⟩, fun k hk => ?_, ?_, fun k h1 h2 => ?_, ?_⟩
    · rw [w3 _ _ (by omega)]; exact hR.1
    · rw [w3 _ _ (by omega)]; exact hR.2
    · rw [w1 k hk]
      dsimp only
      rw [if_pos (by omega)]
      exact hS.1 k hk
    · rw [w2]
      dsimp only
      rw [if_pos (by omega)]
      exact hS.2
    · dsimp only
      rw [if_neg (by omega), if_neg (by omega)]
    · dsimp only
      rw [if_neg (by omega), if_pos rfl]
  have sa : sA S (fun k => if k < 12 then S k else if k = 18 then w.1 14 10 else w.1 14 (k - 1)) := fun k hk => if_pos (by omega)
  have aw := sA_wA sa a
  generalize (fun k => if k < 12 then S k else if k = 18 then w.1 14 10 else w.1 14 (k - 1) : mp) = g at tsw aw sa
  have g11 : u.1 67 0 = S 11 := hS.2
  have e11 : g 11 = S 11 := by rw [← tsw.2.2.1, w2]; exact g11
  refine yl_b (pc_clear hT (by omega) (wA_wS aw) tsw) fun _ v hv => ?_
  have t1 := tb_upd (k := 12) (x := 0) hv.1 (by omega) (by omega) 14 11 (Or.inr (Or.inl ⟨by omega, by omega, rfl, rfl⟩)) rfl
  have t2 := tb_upd (k := 13) (x := 0) t1 (by omega) (by omega) 14 12 (Or.inr (Or.inl ⟨by omega, by omega, rfl, rfl⟩)) rfl
  have t3 := tb_upd (k := 14) (x := 0) t2 (by omega) (by omega) 14 13 (Or.inr (Or.inl ⟨by omega, by omega, rfl, rfl⟩)) rfl
  have t4 := tb_upd (k := 15) (x := 0) t3 (by omega) (by omega) 14 14 (Or.inr (Or.inl ⟨by omega, by omega, rfl, rfl⟩)) rfl
  have t5 := tb_upd (k := 16) (x := 0) t4 (by omega) (by omega) 14 15 (Or.inr (Or.inl ⟨by omega, by omega, rfl, rfl⟩)) rfl
  have t6 := tb_upd (k := 17) (x := 0) t5 (by omega) (by omega) 14 16 (Or.inr (Or.inl ⟨by omega, by omega, rfl, rfl⟩)) rfl
  refine yl_let (yl_let (yl_let (yl_let (yl_let (yl_let (yl_ok ⟨cong19 (sA_wA (fun k hk => ?_) aw) t6 (fun k hk => ?_) fc_mbg, ?_⟩))))))
  · rw [upd_ne (by omega), upd_ne (by omega), upd_ne (by omega), upd_ne (by omega), upd_ne (by omega), upd_ne (by omega), upd_ne (by omega)]
  · by_cases c : k < 12
    · rw [mbg_lo c, upd_ne (by omega), upd_ne (by omega), upd_ne (by omega), upd_ne (by omega), upd_ne (by omega), upd_ne (by omega), upd_ne (by omega)]
      by_cases d : k = 11
      · rw [d, e11]
      · exact (sa k (by omega)).symm
    · rw [mbg_hi (by omega)]
      have k7 : k = 12 ∨ k = 13 ∨ k = 14 ∨ k = 15 ∨ k = 16 ∨ k = 17 ∨ k = 18 := by omega
      rcases k7 with e | e | e | e | e | e | e <;> subst e
      · rw [upd_ne (by omega), upd_ne (by omega), upd_ne (by omega), upd_ne (by omega), upd_ne (by omega), upd_eq]
      · rw [upd_ne (by omega), upd_ne (by omega), upd_ne (by omega), upd_ne (by omega), upd_eq]
      · rw [upd_ne (by omega), upd_ne (by omega), upd_ne (by omega), upd_eq]
      · rw [upd_ne (by omega), upd_ne (by omega), upd_eq]
      · rw [upd_ne (by omega), upd_eq]
      · rw [upd_eq]
      · rw [upd_ne (by omega), upd_ne (by omega), upd_ne (by omega), upd_ne (by omega), upd_ne (by omega), upd_ne (by omega), upd_eq]
  · have f0 : fr (fT 14) u v := fr_trans (fr_mono w3 fun o k q => by unfold fT; omega) hv.2
    have p : ∀ k, 11 ≤ k → fT 14 14 k := fun k hk => by unfold fT; omega
    exact fr_w (fr_w (fr_w (fr_w (fr_w (fr_w f0 (p _ (by omega))) (p _ (by omega))) (p _ (by omega))) (p _ (by omega))) (p _ (by omega))) (p _ (by omega))
/-- what a text does -/
def txe : Sum Nat mp → Sum (Nat × Nat) mp
  | .inl s => .inl (4, s)
  | .inr g => .inr g
def txo : Sum Nat pxs → Sum (Nat × Nat) mp
  | .inl s => .inl (1, s)
  | .inr x => if x.2.2.2.1 = 0 then txe (pe x.2.2.1 (mbg x.2.1)) else .inl x.2.2.2
def txA : Sum (Nat × Nat) mp → Int32
  | .inl _ => -1
  | .inr g => nI (mes g).length
def txM (g : mp) : Sum (Nat × Nat) mp → mp
  | .inl _ => g
  | .inr g2 => g2
def txF : Sum (Nat × Nat) mp → Int32 × Int32
  | .inl x => (nI x.1, nI x.2)
  | .inr _ => (0, -1)
theorem mt_text {G : tc_G} (hA : gA G) (hW : gW G) {u : tc_S} {P n : Nat} {g : mp} {t : Nat → Nat} (hu : cC u P g) (hn : n ≤ 400) (ht : ∀ k, t k < 256) (h12 : ∀ k, k < 400 → u.1 12 k = sb (t k)) (h2 : u.1 1 2 = nI n) : y2 (fn_X11_text G 0 u) (fun r w => r = txA (txo (plo t n (n + 1) xS0)) ∧ mt w 2 (txM g (txo (plo t n (n + 1) xS0))) ∧ w.1 1 2 = 0 ∧ w.1 1 3 = (txF (txo (plo t n (n + 1) xS0))).1 ∧ w.1 1 4 = (txF (txo (plo t n (n + 1) xS0))).2 ∧ fr (fun o k => fMc o k ∨ (o = 1 ∧ 2 ≤ k)) u w) := by
  have hfu := tc_fu_big
  obtain ⟨⟨o0, o1, o2, o3, o4, o5, o6, o7, o8, o9, o10⟩, ⟨a1, a2, a3⟩, ⟨a4, a5, a6, a7⟩, b1, b2, b3, b4⟩ := hA
  unfold fn_X11_text
  rw [o9, o0, h2]
  refine yl_b (mt_read hW hn ht h12) fun r w hw => ?_
  obtain ⟨w1, w2, w3⟩ := hw
  have hI : ∀ x, plo t n (n + 1) xS0 = .inr x → xI n x := fun x hx => plo_I xI_0 hx
  generalize plo t n (n + 1) xS0 = o at w1 w2 hI ⊢
  have m2 : mt w 2 g := mt_fr hu.1 w3 fun o k q1 q2 => by unfold fRd; omega
  have fw : fr (fun o k => fMc o k ∨ (o = 1 ∧ 2 ≤ k)) u w := fr_mono w3 fun o k q => by unfold fRd at q; left; unfold fMc; omega
  have bad : ∀ (v : tc_S) (x : Nat × Nat), mt v 2 g → fr (fun o k => fMc o k ∨ (o = 1 ∧ 2 ≤ k)) u v → v.1 65 0 = nI x.1 → v.1 65 1 = nI x.2 → y2 (bl_X11_text_39 G 0 v) (fun r w => r = txA (.inl x) ∧ mt w 2 (txM g (.inl x)) ∧ w.1 1 2 = 0 ∧ w.1 1 3 = (txF (.inl x)).1 ∧ w.1 1 4 = (txF (.inl x)).2 ∧ fr (fun o k => fMc o k ∨ (o = 1 ∧ 2 ≤ k)) u w) := by
    intro v x mv fv e0 e1
    unfold bl_X11_text_39 bl_X11_text_40
    rw [o0, o9]
    refine yl_let (yl_let (yl_let (yl_p rfl (yl_ok ⟨rfl, ?_, ?_, ?_, ?_, fr_w (fr_w (fr_w fv (Or.inr ⟨rfl, by omega⟩)) (Or.inr ⟨rfl, by omega⟩)) (Or.inr ⟨rfl, by omega⟩)⟩))))
    · exact mt_fr (P := fun o k => o = 1) mv (fr_w (fr_w (fr_w fr_refl rfl) rfl) rfl) fun o k q1 q2 => by omega
    · rw [w_get, if_neg (by omega), w_get, if_neg (by omega), w_get, if_pos ⟨rfl, rfl⟩]
    · rw [w_get, if_neg (by omega), w_get, if_pos ⟨rfl, rfl⟩, w_get, if_neg (by omega)]; exact e0
    · rw [w_get, if_pos ⟨rfl, rfl⟩, w_get, if_neg (by omega), w_get, if_neg (by omega)]; exact e1
  rw [w1]
  cases o with
  | inl s => exact yl_p rfl (bad w (1, s) m2 fw w2.1 w2.2)
  | inr x =>
    have w2 : cS w t n x := w2
    have xI0 := hI x rfl
    obtain ⟨hB, hT, hS, hH, e0, e1⟩ := w2
    rw [show rdB (.inr x) = if x.2.2.2.1 = 0 then 1 else 0 from rfl, show txo (.inr x) = if x.2.2.2.1 = 0 then txe (pe x.2.2.1 (mbg x.2.1)) else .inl x.2.2.2 from rfl]
    by_cases c : x.2.2.2.1 = 0
    · rw [if_pos c, if_pos c]
      refine yl_n i_n1 ?_
      rw [if_pos c] at e1
      obtain ⟨q1, q2⟩ := xI0.2.2.2.2 c
      rw [o2, o6]
      unfold fn_X6_enterAll
      rw [hW.2.1]
      have len57 : x.2.2.1.length ≤ 57 := by have := xI0.1; have := xI0.2.1; omega
      have R14 : tR w 14 64 := ⟨by rw [w3 _ _ (by unfold fRd; omega)]; exact hu.2.2.1.1, by rw [w3 _ _ (by unfold fRd; omega)]; exact hu.2.2.1.2⟩
      have R39 : tR w 39 64 := ⟨by rw [w3 _ _ (by unfold fRd; omega)]; exact hu.2.2.2.1.1, by rw [w3 _ _ (by unfold fRd; omega)]; exact hu.2.2.2.1.2⟩
      have run : y2 (tc_b (fn_X9_begin G 14 66 w) fun x14 u15 => lo_X6_enterAll_10 G tc_fu 65 14 38 0 u15) (fun r v => r = (match pe x.2.2.1 (mbg x.2.1) with | .inl _ => 0 | .inr _ => 1) ∧ cE2 v (pe x.2.2.1 (mbg x.2.1)) ∧ fr fEn w v) := by
        refine yl_b (mt_begin14 a5 hW q1 R14 hS) fun _ v hv => ?_
        have nf : ∀ o k, (39 ≤ o ∧ o ≤ 70) → v.1 o k = w.1 o k := fun o k q => hv.2 _ _ (by unfold fT; omega)
        exact mt_enterAll10 a1 a2 a3 a5 a6 hW (u0 := w) q2 len57 x.2.2.1.length 0 tc_fu 0 (mbg x.2.1) v (by omega) (by omega) rfl (mre_mbg q1) hv.1 ⟨by rw [nf _ _ (by omega)]; exact R39.1, by rw [nf _ _ (by omega)]; exact R39.2⟩ ⟨by rw [nf _ _ (by omega)]; exact hH.1, fun i hi => by rw [nf _ _ (by omega), nf _ _ (by omega), nf _ _ (by omega)]; exact hH.2 i hi⟩ ⟨by rw [nf _ _ (by omega), e0, c]; rfl, by rw [nf _ _ (by omega)]; exact e1⟩ (fr_mono hv.2 fun o k q => Or.inl (by unfold fE fV; exact Or.inl (Or.inl q)))
      refine yl_b run fun r v hv => ?_
      obtain ⟨v1, v2, v3⟩ := hv
      have fv : fr (fun o k => fMc o k ∨ (o = 1 ∧ 2 ≤ k)) u v := fr_trans fw (fr_mono v3 fun o k q => by unfold fEn fE fV fT at q; left; unfold fMc; omega)
      have mv2 : mt v 2 g := mt_fr m2 v3 fun o k q1 q2 => by unfold fEn fE fV fT; omega
      rw [v1]
      cases hp : pe x.2.2.1 (mbg x.2.1) with
      | inl s =>
        rw [hp] at v2
        exact yl_p rfl (bad v (4, s) mv2 fv v2.1 v2.2)
      | inr g2 =>
        rw [hp] at v2
        have v2 : mt v 14 g2 ∧ v.1 65 0 = 0 ∧ v.1 65 1 = -1 := v2
        have hg2 := pe_ok x.2.2.1 (mbg x.2.1) g2 0 q2 (mre_mbg q1) (by omega) hp
        refine yl_n i_n1 ?_
        unfold bl_X11_text_40
        rw [o0, o9, o1, o2]
        refine yl_let (yl_let (yl_let (yl_n i_n1 ?_)))
        have f3 : fr (fun o k => o = 1 ∧ 2 ≤ k) v (tc_w (tc_w (tc_w v 1 2 0) 1 3 ((tc_w v 1 2 0).1 65 0)) 1 4 ((tc_w (tc_w v 1 2 0) 1 3 ((tc_w v 1 2 0).1 65 0)).1 65 1)) := fr_w (fr_w (fr_w fr_refl ⟨rfl, by omega⟩) ⟨rfl, by omega⟩) ⟨rfl, by omega⟩
        have g2' : (tc_w (tc_w (tc_w v 1 2 0) 1 3 ((tc_w v 1 2 0).1 65 0)) 1 4 ((tc_w (tc_w v 1 2 0) 1 3 ((tc_w v 1 2 0).1 65 0)).1 65 1)).1 1 2 = 0 := by rw [w_get, if_neg (by omega), w_get, if_neg (by omega), w_get, if_pos ⟨rfl, rfl⟩]
        have g3' : (tc_w (tc_w (tc_w v 1 2 0) 1 3 ((tc_w v 1 2 0).1 65 0)) 1 4 ((tc_w (tc_w v 1 2 0) 1 3 ((tc_w v 1 2 0).1 65 0)).1 65 1)).1 1 3 = 0 := by rw [w_get, if_neg (by omega), w_get, if_pos ⟨rfl, rfl⟩, w_get, if_neg (by omega)]; exact v2.2.1
        have g4' : (tc_w (tc_w (tc_w v 1 2 0) 1 3 ((tc_w v 1 2 0).1 65 0)) 1 4 ((tc_w (tc_w v 1 2 0) 1 3 ((tc_w v 1 2 0).1 65 0)).1 65 1)).1 1 4 = -1 := by rw [w_get, if_pos ⟨rfl, rfl⟩, w_get, if_neg (by omega), w_get, if_neg (by omega)]; exact v2.2.2
        generalize tc_w (tc_w (tc_w v 1 2 0) 1 3 ((tc_w v 1 2 0).1 65 0)) 1 4 ((tc_w (tc_w v 1 2 0) 1 3 ((tc_w v 1 2 0).1 65 0)).1 65 1) = y at f3 g2' g3' g4' ⊢
        have my14 : mt y 14 g2 := mt_fr v2.1 f3 fun o k q1 q2 => by omega
        have my2 : mt y 2 g := mt_fr mv2 f3 fun o k q1 q2 => by omega
        refine yl_b (pc_copyFrom a4 a5 (by omega) (by omega) (wA_wS hg2.1.1.1) my2.1.1 my14) fun _ z hz => ?_
        have mz : mt z 2 g2 := hz.1
        refine yl_e (mt_entries a4 hg2.1 mz) ?_
        refine yl_ok ⟨rfl, mz, ?_, ?_, ?_, fr_trans fv (fr_trans (fr_mono f3 fun o k q => Or.inr q) (fr_mono hz.2 fun o k q => Or.inl (by unfold fT at q; unfold fMc; omega)))⟩
        · rw [hz.2 _ _ (by unfold fT; omega)]; exact g2'
        · rw [hz.2 _ _ (by unfold fT; omega)]; exact g3'
        · rw [hz.2 _ _ (by unfold fT; omega)]; exact g4'
    · rw [if_neg c, if_neg c]
      rw [if_neg c] at e1
      exact yl_p rfl (bad w x.2.2.2 m2 fw e0 e1)
