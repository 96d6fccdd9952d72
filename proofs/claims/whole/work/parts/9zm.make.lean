/-! a World is made -/
theorem zb_let {α R : Type} {x : α} {f : α → Option (tc_L × tc_S)} {k : tc_L → tc_S → Option R} {Q : R → Prop} (h : yl (tc_bl (f x) k) Q) : yl (tc_bl (tc_let x f) k) Q := h
theorem zb_kc {R : Type} {L : tc_L} {i q : Nat} {o : Option (tc_L × tc_S)} {k : tc_L → tc_S → Option R} {Q : R → Prop} (h : i < L.length ∧ (tc_k0 L i).1 = q) (h2 : yl (tc_bl o k) Q) : yl (tc_bl (tc_kc L i q o) k) Q := by
  unfold tc_kc
  rw [if_pos h]; exact h2
theorem zb_ks {R : Type} {L : tc_L} {i j : Nat} {o : Option (tc_L × tc_S)} {k : tc_L → tc_S → Option R} {Q : R → Prop} (h : j < (tc_k0 L i).2.2.length) (h2 : yl (tc_bl o k) Q) : yl (tc_bl (tc_ks L i j o) k) Q := by
  unfold tc_ks
  rw [if_pos h]; exact h2
theorem zb_wc {R : Type} {L : tc_L} {o : Option (tc_L × tc_S)} {k : tc_L → tc_S → Option R} {Q : R → Prop} (h : tc_wf L = true) (h2 : yl (tc_bl o k) Q) : yl (tc_bl (tc_wc L o) k) Q := by
  unfold tc_wc
  rw [if_pos h]; exact h2
theorem zb_kd {R : Type} {L : tc_L} {i q : Nat} {o : Option (tc_L × tc_S)} {k : tc_L → tc_S → Option R} {Q : R → Prop} (h : tc_rf L i q = true) (h2 : yl (tc_bl o k) Q) : yl (tc_bl (tc_kd L i q o) k) Q := by
  unfold tc_kd
  rw [if_pos h]; exact h2
theorem zb_en {R : Type} {n m : Int32} {o : Option (tc_L × tc_S)} {k : tc_L → tc_S → Option R} {Q : R → Prop} (h : n = m) (h2 : yl (tc_bl o k) Q) : yl (tc_bl (tc_en n m o) k) Q := by
  unfold tc_en
  rw [if_pos h]; exact h2
theorem zb_bl {R : Type} {o : Option (tc_L × tc_S)} {k1 : tc_L → tc_S → Option (tc_L × tc_S)} {k : tc_L → tc_S → Option R} {Q : R → Prop} (h : yl (tc_bl o fun L u => tc_bl (k1 L u) k) Q) : yl (tc_bl (tc_bl o k1) k) Q := by
  cases o with
  | none => exact h
  | some q => exact h
theorem zb_b {R : Type} {o : Option (Int32 × tc_S)} {k1 : Int32 → tc_S → Option (tc_L × tc_S)} {k : tc_L → tc_S → Option R} {P : Int32 → tc_S → Prop} {Q : R → Prop} (h : y2 o P) (h2 : ∀ r u, P r u → yl (tc_bl (k1 r u) k) Q) : yl (tc_bl (tc_b o k1) k) Q := by
  obtain ⟨⟨r, u⟩, h3, h4⟩ := h
  rw [h3]
  exact h2 r u h4
theorem zb_ok {R : Type} {L : tc_L} {u : tc_S} {k : tc_L → tc_S → Option R} {Q : R → Prop} (h : yl (k L u) Q) : yl (tc_bl (some (L, u)) k) Q := h
theorem zb_okE {R : Type} {L L2 : tc_L} {u : tc_S} {k : tc_L → tc_S → Option R} {Q : R → Prop} (e : L = L2) (h : yl (k L2 u) Q) : yl (tc_bl (some (L, u)) k) Q := by
  rw [e]; exact h
def fzN (N o _ : Nat) : Prop := N ≤ o
theorem z_get (u : tc_S) (n o k : Nat) : (tc_z u n).1 o k = if o = n then 0 else u.1 o k := by
  unfold tc_z
  dsimp only
  by_cases h : o = n
  · rw [if_pos h, if_pos h]
  · rw [if_neg h, if_neg h]
theorem fz_z {N n : Nat} {u s : tc_S} (h : fr (fzN N) u s) (hn : N ≤ n) : fr (fzN N) u (tc_z s n) := fun o k q => by
  rw [z_get, if_neg (fun e => q (by unfold fzN; omega))]
  exact h o k q
theorem zb_z {R : Type} {N n : Nat} {u s : tc_S} {f : tc_S → Option (tc_L × tc_S)} {k : tc_L → tc_S → Option R} {Q : R → Prop} (hs : fr (fzN N) u s) (hn : N ≤ n) (h : ∀ s', fr (fzN N) u s' → yl (tc_bl (f s') k) Q) : yl (tc_bl (tc_let (tc_z s n) f) k) Q := h _ (fz_z hs hn)
def tb0 (N v0 : Nat) (u w : tc_S) : Prop := fr (fzN N) u w ∧ w.1 v0 1 = nI 64 ∧ w.1 v0 2 = nI 68
theorem zb_z2 {R : Type} {N v0 n : Nat} {u s : tc_S} {f : tc_S → Option (tc_L × tc_S)} {k : tc_L → tc_S → Option R} {Q : R → Prop} (hs : tb0 N v0 u s) (hn : N ≤ n ∧ ¬ v0 = n) (h : ∀ s', tb0 N v0 u s' → yl (tc_bl (f s') k) Q) : yl (tc_bl (tc_let (tc_z s n) f) k) Q :=
  h _ ⟨fz_z hs.1 hn.1, by rw [z_get, if_neg hn.2]; exact hs.2.1, by rw [z_get, if_neg hn.2]; exact hs.2.2⟩
theorem x8_begin {G : tc_G} {a : Nat} {u : tc_S} : y2 (fn_X8_begin G a u) (fun _ w => fr (fun o _ => o = a ∨ o = tc_p G a 11) u w) := by
  unfold fn_X8_begin fn_X8_takeHashes
  refine yl_let (yl_let (yl_let (yl_let (yl_let (yl_let (yl_let ?_))))))
  refine yl_b (P := fun _ w => fr (fun o _ => o = a ∨ o = tc_p G a 11) u w) (yl_let (yl_let (yl_let (yl_let (yl_ok ?_))))) fun _ w hw => yl_let (yl_ok (fr_w hw (Or.inr rfl)))
  exact fr_w (fr_w (fr_w (fr_w (fr_w (fr_w (fr_w (fr_w (fr_w (fr_w (fr_w fr_refl (Or.inl rfl)) (Or.inl rfl)) (Or.inl rfl)) (Or.inl rfl)) (Or.inl rfl)) (Or.inl rfl)) (Or.inl rfl)) (Or.inl rfl)) (Or.inl rfl)) (Or.inl rfl)) (Or.inl rfl)
theorem x9_clear {G : tc_G} {a : Nat} {u : tc_S} (h3 : G.2.2.1 (tc_p G a 3) = 69) (h9 : G.2.2.1 (tc_p G a 9) = 32) : y2 (fn_X9_clear G a u) (fun _ w => fr (fun o k => o = tc_p G a 3 ∨ o = tc_p G a 9 ∨ (o = a ∧ k = 10)) u w) := by
  unfold fn_X9_clear
  refine yl_b (pc_fill h3 (by omega)) fun _ v hv => ?_
  refine yl_b (pc_fill h9 (by omega)) fun _ w hw => ?_
  exact yl_let (yl_ok (fr_w (fr_trans (fr_mono hv.2 fun o k q => Or.inl q) (fr_mono hw.2 fun o k q => Or.inr (Or.inl q))) (Or.inr (Or.inr ⟨rfl, rfl⟩))))
set_option maxRecDepth 100000 in
set_option maxHeartbeats 4000000 in
theorem x10_init {R : Type} {L : tc_L} (hL : L ∈ Spre) {u : tc_S} {K : tc_L → tc_S → Option R} {Q : R → Prop} (hK : ∀ w, fr (fzN L.length) u w → w.1 (L.length + 1) 1 = nI 64 → w.1 (L.length + 1) 2 = nI 68 → yl (K (L ++ blk L.length) w) Q) : yl (tc_bl (fn_X10_init (L ++ [(10, 1, List.replicate 5 none)]) L.length (tc_z u L.length)) K) Q := by
  unfold fn_X10_init fn_X9_init_64 fn_X8_init fn_X2_init
  have s0 : fr (fzN L.length) u (tc_z u L.length) := fz_z fr_refl (Nat.le_refl _)
  generalize tc_z u L.length = s at s0 ⊢
  refine zb_let (zb_let (zb_z s0 (by apply sdP hL; decide +kernel) fun s s0 => ?_))
  refine zb_bl ?_
  refine zb_let (zb_let (zb_z s0 (by apply sdP hL; decide +kernel) fun s s0 => ?_))
  refine zb_bl ?_
  refine zb_let (zb_let (zb_z s0 (by apply sdP hL; decide +kernel) fun s s0 => ?_))
  refine zb_bl ?_
  refine zb_kc (by apply sdP hL; decide +kernel) (zb_let (zb_ok ?_))
  refine zb_kc (by apply sdP hL; decide +kernel) (zb_ks (by apply sdP hL; decide +kernel) (zb_let (zb_kc (by apply sdP hL; decide +kernel) (zb_let (zb_wc (by apply sdP hL; decide +kernel) (zb_kd (by apply sdP hL; decide +kernel) ?_))))))
  refine zb_b x8_begin fun _ s2 h2 => ?_
  have s2f : fr (fzN L.length) u s2 := fr_trans s0 (fr_mono h2 fun o k q => by
    rcases q with q | q
    · rw [q]; unfold fzN; exact (by apply sdP hL; decide +kernel)
    · rw [q]; unfold fzN; exact (by apply sdP hL; decide +kernel))
  clear h2 s0
  refine zb_ok ?_
  refine zb_kc (by apply sdP hL; decide +kernel) (zb_ks (by apply sdP hL; decide +kernel) (zb_let (zb_let (zb_let (zb_z s2f (by apply sdP hL; decide +kernel) fun s s0 => ?_)))))
  refine zb_kc (by apply sdP hL; decide +kernel) (zb_ks (by apply sdP hL; decide +kernel) (zb_let (zb_kc (by apply sdP hL; decide +kernel) (zb_let (zb_kc (by apply sdP hL; decide +kernel) (zb_kc (by apply sdP hL; decide +kernel) (zb_let (zb_kc (by apply sdP hL; decide +kernel) ?_))))))))
  have e1 : (tc_w s (L ++ [(10, 1, List.replicate 5 none)]).length 1 64).1 (L ++ [(10, 1, List.replicate 5 none)]).length 1 = 64 := by rw [w_get, if_pos ⟨rfl, rfl⟩]
  rw [e1]
  have t0 : tb0 L.length (L ++ [(10, 1, List.replicate 5 none)]).length u (tc_w (tc_w s (L ++ [(10, 1, List.replicate 5 none)]).length 1 64) (L ++ [(10, 1, List.replicate 5 none)]).length 2 (64 + 4)) := by
    have le : L.length ≤ (L ++ [(10, 1, List.replicate 5 none)]).length := by rw [List.length_append]; omega
    refine ⟨fr_w (fr_w s0 le) le, ?_, ?_⟩
    · rw [w_get, if_neg (by omega)]; exact e1
    · rw [w_get, if_pos ⟨rfl, rfl⟩]; rfl
  generalize tc_w (tc_w s (L ++ [(10, 1, List.replicate 5 none)]).length 1 64) (L ++ [(10, 1, List.replicate 5 none)]).length 2 (64 + 4) = s3 at t0 ⊢
  clear e1 s0 s2f
  refine zb_en (by rw [t0.2.2]; decide) ?_
  refine zb_let (zb_let (zb_z2 t0 (by apply sdP hL; decide +kernel) fun s3 t0 => ?_))
  refine zb_kc (by apply sdP hL; decide +kernel) (zb_ks (by apply sdP hL; decide +kernel) (zb_let (zb_kc (by apply sdP hL; decide +kernel) ?_)))
  refine zb_en (by rw [t0.2.2]; decide) ?_
  refine zb_let (zb_let (zb_z2 t0 (by apply sdP hL; decide +kernel) fun s3 t0 => ?_))
  refine zb_kc (by apply sdP hL; decide +kernel) (zb_ks (by apply sdP hL; decide +kernel) (zb_let (zb_kc (by apply sdP hL; decide +kernel) ?_)))
  refine zb_en (by rw [t0.2.2]; decide) ?_
  refine zb_let (zb_let (zb_z2 t0 (by apply sdP hL; decide +kernel) fun s3 t0 => ?_))
  refine zb_kc (by apply sdP hL; decide +kernel) (zb_ks (by apply sdP hL; decide +kernel) (zb_let (zb_kc (by apply sdP hL; decide +kernel) ?_)))
  refine zb_en (by rw [t0.2.2]; decide) ?_
  refine zb_let (zb_let (zb_z2 t0 (by apply sdP hL; decide +kernel) fun s3 t0 => ?_))
  refine zb_kc (by apply sdP hL; decide +kernel) (zb_ks (by apply sdP hL; decide +kernel) (zb_let (zb_kc (by apply sdP hL; decide +kernel) ?_)))
  refine zb_en (by rw [t0.2.2]; decide) ?_
  refine zb_let (zb_let (zb_z2 t0 (by apply sdP hL; decide +kernel) fun s3 t0 => ?_))
  refine zb_kc (by apply sdP hL; decide +kernel) (zb_ks (by apply sdP hL; decide +kernel) (zb_let (zb_kc (by apply sdP hL; decide +kernel) ?_)))
  refine zb_en (by rw [t0.2.2]; decide) ?_
  refine zb_let (zb_let (zb_z2 t0 (by apply sdP hL; decide +kernel) fun s3 t0 => ?_))
  refine zb_kc (by apply sdP hL; decide +kernel) (zb_ks (by apply sdP hL; decide +kernel) (zb_let (zb_kc (by apply sdP hL; decide +kernel) ?_)))
  refine zb_let (zb_wc (by apply sdP hL; decide +kernel) (zb_kd (by apply sdP hL; decide +kernel) ?_))
  refine zb_b (x9_clear (by apply sdP hL; decide +kernel) (by apply sdP hL; decide +kernel)) fun _ s4 h4 => ?_
  have t4 : tb0 L.length (L ++ [(10, 1, List.replicate 5 none)]).length u s4 := by
    refine ⟨fr_trans t0.1 (fr_mono h4 fun o k q => ?_), ?_, ?_⟩
    · rcases q with q | q | q
      · rw [q]; unfold fzN; exact (by apply sdP hL; decide +kernel)
      · rw [q]; unfold fzN; exact (by apply sdP hL; decide +kernel)
      · rw [q.1]; unfold fzN; exact (by apply sdP hL; decide +kernel)
    · rw [h4 _ _ (by
        rintro (q | q | q)
        · revert q; exact (by apply sdP hL; decide +kernel)
        · revert q; exact (by apply sdP hL; decide +kernel)
        · exact absurd q.2 (by decide))]
      exact t0.2.1
    · rw [h4 _ _ (by
        rintro (q | q | q)
        · revert q; exact (by apply sdP hL; decide +kernel)
        · revert q; exact (by apply sdP hL; decide +kernel)
        · exact absurd q.2 (by decide))]
      exact t0.2.2
  clear h4 t0
  refine zb_ok ?_
  refine zb_kc (by apply sdP hL; decide +kernel) (zb_ks (by apply sdP hL; decide +kernel) (zb_let (zb_let (zb_let (zb_z2 t4 (by apply sdP hL; decide +kernel) fun s5 t5 => ?_)))))
  refine zb_kc (by apply sdP hL; decide +kernel) (zb_ks (by apply sdP hL; decide +kernel) (zb_let (zb_kc (by apply sdP hL; decide +kernel) (zb_let (zb_kc (by apply sdP hL; decide +kernel) (zb_let (zb_okE (L2 := L ++ blk L.length) (by apply sdP hL; decide +kernel) ?_)))))))
  have e : (L ++ [(10, 1, List.replicate 5 none)]).length = L.length + 1 := by rw [List.length_append]; rfl
  rw [e] at t5
  refine hK _ (fr_w t5.1 (Nat.le_refl _)) ?_ ?_
  · rw [w_get, if_neg (by omega)]; exact t5.2.1
  · rw [w_get, if_neg (by omega)]; exact t5.2.2
