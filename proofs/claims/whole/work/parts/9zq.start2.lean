/-! the start: what holds -/
theorem mt_at {u : tc_S} (h3 : (∀ k, k < 69 → u.1 6 k = -1) ∧ (∀ k, k < 4 → u.1 5 k = 0) ∧ (∀ k, k < 11 → u.1 3 k = mS0 k) ∧ u.1 4 0 = 0 ∧ (∀ k, k < 7 → u.1 2 (10 + k) = 0)) (h4 : u.1 2 1 = nI 64 ∧ u.1 2 2 = nI 68) : mt u 2 (mbg mS0) := by
  obtain ⟨s1, s2, s3, s4, s5⟩ := h3
  refine ⟨⟨h4, fun k hk => ?_, ?_, fun k h1 h2 => ?_, ?_⟩, fun i hi => Or.inl ⟨?_, s1 i (by omega)⟩, fun b hb => ?_⟩
  · rw [mbg_lo (by omega)]; exact s3 k hk
  · rw [mbg_lo (by omega)]; exact s4
  · rw [mbg_hi (by omega)]
    have := s5 (k - 11) (by omega)
    rwa [show 10 + (k - 11) = k - 1 by omega] at this
  · rw [mbg_hi (by omega)]; exact s5 0 (by omega)
  · rw [fc_mbg]; rfl
  · have b4 : b < 4 := hb
    rw [fc_mbg, cnt_0 (fun i => rfl)]
    exact s2 b b4
theorem sb_0 : (0 : Int32) = sb 0 := by decide
theorem IV_at {u : tc_S} (h1 : ∀ k, k < 292 → u.1 72 k = mbg mS0 k) (h2 : ∀ k, k < 400 → u.1 73 k = 0 ∧ u.1 12 k = 0) (h3 : (∀ k, k < 69 → u.1 6 k = -1) ∧ (∀ k, k < 4 → u.1 5 k = 0) ∧ (∀ k, k < 11 → u.1 3 k = mS0 k) ∧ u.1 4 0 = 0 ∧ (∀ k, k < 7 → u.1 2 (10 + k) = 0)) (h4 : (u.1 2 1 = nI 64 ∧ u.1 2 2 = nI 68) ∧ (u.1 14 1 = nI 64 ∧ u.1 14 2 = nI 68) ∧ (u.1 39 1 = nI 64 ∧ u.1 39 2 = nI 68) ∧ (u.1 55 1 = nI 144 ∧ u.1 55 2 = nI 148)) (h5 : u.1 1 2 = 0 ∧ u.1 71 3 = 0 ∧ u.1 1 3 = 0 ∧ u.1 71 4 = 0 ∧ u.1 1 4 = -1 ∧ u.1 71 5 = -1 ∧ ∀ k, k < 3 → u.1 74 k = 0) {L : tc_L} (hL : L ∈ Sall) (h6 : ∀ k, k < 3 → (tc_gl L).2.2.2 13 k = none) : IV L u 0 := by
  obtain ⟨r2, r14, r39, r55⟩ := h4
  obtain ⟨e1, e2, e3, e4, e5, e6, e7⟩ := h5
  have tt : tw u (fun _ => 0) 0 := ⟨Nat.zero_le _, fun _ => Nat.zero_lt_succ _, fun k hk => ⟨(h2 k hk).1, (h2 k hk).2.trans sb_0⟩, e1, e2, by rw [e3, e4], by rw [e5, e6]⟩
  have mm : isM u 0 (mbg mS0) := fun k hk => by rw [Nat.zero_add]; exact h1 k hk
  exact ⟨hL, ⟨0, mbg mS0, fun _ => 0, 0, Nat.le_refl _, ⟨mt_at h3 r2, mre_mbg wA_S0, r14, r39, r55⟩, mm, tt⟩, fun k hk => Or.inl ⟨h6 k hk, e7 k hk⟩⟩
theorem in_IV : IV in_L4 in_u4 0 := IV_at in_s1 in_s2 in_s3 in_s4 in_s5 st_0 in_s6
theorem lw_Pure_proved : lw_Pure := lw_Pure_of fun xs len hl => iv_go xs len 512 0 in_L4 in_u4 0 (by omega) in_IV (by decide)
