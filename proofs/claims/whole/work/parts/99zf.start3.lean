/-! the invariant at the start -/
theorem s_wt1 : WT s_q1.1 s_q1.2.2.2 := (g_X11_init (p_nww (show w11 = p_nw N00 I00 L00 P00 (14, 0) from rfl) st_wt0) (p_nws (show w11 = p_nw N00 I00 L00 P00 (14, 0) from rfl)) s_q1_ok).1
theorem s_wt2 : WT s_w2.1 s_w2.2.2.2 := p_nww (show s_w2 = p_nw s_q1.1 s_q1.2.1 s_q1.2.2.1 s_q1.2.2.2 (15, 0) from rfl) s_wt1
theorem s_tp2 : p_tp s_w2.1 67 15 := by
  have h := p_nws (show s_w2 = p_nw s_q1.1 s_q1.2.1 s_q1.2.2.1 s_q1.2.2.2 (15, 0) from rfl)
  rw [s_q1_n] at h
  exact h
theorem s_fg_is : (f_X12_forgets 1000000 s_p.1 s_p.2.1 s_p.2.2.2 67).isSome = true := by decide +kernel
theorem s_wt : WT s_p.1 s_p.2.2.2 := by
  obtain ⟨M, hM⟩ := Option.isSome_iff_exists.mp s_fg_is
  have hf : f_X12_init 1000000 s_w2.1 s_w2.2.1 s_w2.2.2.1 s_w2.2.2.2 67 = some (s_p.1, M, s_p.2.2.1, s_p.2.2.2) := by
    rw [s_init_eq, s_p_ok, Option.bind_some, hM, Option.bind_some]
  exact (g_X12_init s_wt2 s_tp2 hf).1
theorem s_GW : GW s_p.1 s_p.2.2.2 := ⟨s_wt, by rw [s_g3.1]; exact Nat.le_refl _, s_gN, s_gP, s_g3.2.1, Or.inl s_g3.2.2.1, Or.inl s_g3.2.2.2⟩
theorem s_c0 : s_p.2.1 68 0 = nI 0 ∧ s_p.2.1 68 1 = nI 0 ∧ s_p.2.1 68 2 = nI 0 ∧ s_p.2.1 68 3 = nI 0 ∧ s_p.2.1 68 4 = nI 0 ∧ s_p.2.1 68 5 = -1 ∧ s_p.2.1 68 6 = nI 0 ∧ s_p.2.1 68 7 = nI 0 ∧ s_p.2.1 68 8 = nI 0 ∧ s_p.2.1 68 9 = s_p.2.1 1 9 ∧ s_p.2.1 68 10 = s_p.2.1 1 10 ∧ s_p.2.1 1 11 = nI 0 ∧ s_p.2.1 1 12 = -1 := by decide +kernel
theorem s_tb : TB s_p.1 s_p.2.2.2 s_p.2.1 2 3 500 1 0 ∧ TB s_p.1 s_p.2.2.2 s_p.2.1 4 5 12 7 0 ∧ TB s_p.1 s_p.2.2.2 s_p.2.1 6 7 6 8 0 ∧ TB s_p.1 s_p.2.2.2 s_p.2.1 8 9 8 4 0 ∧ TB s_p.1 s_p.2.2.2 s_p.2.1 10 11 8 2 0 ∧ TB s_p.1 s_p.2.2.2 s_p.2.1 12 13 5 2 5 ∧ TB s_p.1 s_p.2.2.2 s_p.2.1 14 15 7 1 7 ∧ TB s_p.1 s_p.2.2.2 s_p.2.1 16 17 16 18 0 ∧ TB s_p.1 s_p.2.2.2 s_p.2.1 18 19 60 2 0 ∧ TB s_p.1 s_p.2.2.2 s_p.2.1 29 30 169 6 0 := by
  refine ⟨?_, ?_, ?_, ?_, ?_, ?_, ?_, ?_, ?_, ?_⟩ <;> unfold TB <;> decide +kernel
theorem s_stuffs : ∀ zw, zw < 5 → s_p.2.1 13 (zw * 2 + 0) = s_p.2.1 68 (18 + zw + 0) ∧ s_p.2.1 13 (zw * 2 + 1) = s_p.2.1 68 (23 + zw + 0) ∧ rg (s_p.2.1 68 (18 + zw + 0)) 100 ∧ rg (s_p.2.1 68 (23 + zw + 0)) 100 := by unfold rg; decide +kernel
theorem s_sets : (∀ zw, zw < 7 → s_p.2.1 15 (zw * 1 + 0) = s_p.2.1 68 (11 + zw + 0) ∧ rg (s_p.2.1 68 (11 + zw + 0)) (q_hi zw)) ∧ ¬ s_p.2.1 68 (15 + 0) = 0 ∧ ¬ s_p.2.1 68 (17 + 0) = 0 := by unfold rg; decide +kernel
theorem s_imgs : (∀ zk, zk < 3 → s_p.2.2.2 20 zk = none ∧ s_p.2.1 69 zk = nI 0) ∧ s_p.1.1 = 86 + 19 * (q_im s_p.2.2.2 0 + q_im s_p.2.2.2 1 + q_im s_p.2.2.2 2) := by decide +kernel
theorem s_bars : ∀ zw, zw < 12 → s_p.2.1 (43 - zw) 2 = nI 0 ∧ q_seeW (s_p.2.1 68) zw = false ∧ s_p.2.1 (43 - zw) 0 = nI zw := by decide +kernel
theorem s_misc : s_p.2.1 21 11 = s_p.2.1 68 12 ∧ s_p.2.1 44 6 = nI 1 ∧ s_p.2.1 44 7 = -1 := by decide +kernel
theorem s_dr : R_dr s_p.2.1 := by unfold R_dr rg; decide +kernel
theorem s_SR : SR s_p.1 s_p.2.2.2 s_p.2.1 1 0 := by
  obtain ⟨c0, c1, c2, c3, c4, c5, c6, c7, c8, c9, c10, c11, c12⟩ := s_c0
  obtain ⟨t1, t2, t3, t4, t5, t6, t7, t8, t9, t10⟩ := s_tb
  have n0 : nv (nI 0) = 0 := nv_nI (by decide)
  refine ⟨⟨?_, ?_, ?_⟩, ⟨?_, ?_, ?_⟩, ⟨?_, ?_, ?_⟩, ⟨?_, ?_, ?_⟩, ⟨?_, ?_, ?_⟩, ⟨t6, s_stuffs⟩, ⟨t7, s_sets⟩, ⟨?_, ?_, ?_⟩, ⟨?_, ?_, ?_⟩, ⟨c9.symm, c10.symm, c11.trans c4.symm, c12.trans c5.symm, ?_, Or.inl c5⟩⟩
  · show rg (s_p.2.1 68 8) 500; rw [c8]; exact rg.of (Nat.zero_le _) (by decide)
  · show TB _ _ _ 2 3 500 1 (nv (s_p.2.1 68 8)); rw [c8, n0]; exact t1
  · intro zi hi; have hi : zi < nv (s_p.2.1 68 8) := hi; rw [c8, n0] at hi; omega
  · show rg (s_p.2.1 68 0) 12; rw [c0]; exact rg.of (Nat.zero_le _) (by decide)
  · show TB _ _ _ 4 5 12 7 (nv (s_p.2.1 68 0)); rw [c0, n0]; exact t2
  · intro zi hi; have hi : zi < nv (s_p.2.1 68 0) := hi; rw [c0, n0] at hi; omega
  · show rg (s_p.2.1 68 1) 6; rw [c1]; exact rg.of (Nat.zero_le _) (by decide)
  · show TB _ _ _ 6 7 6 8 (nv (s_p.2.1 68 1)); rw [c1, n0]; exact t3
  · intro zi hi; have hi : zi < nv (s_p.2.1 68 1) := hi; rw [c1, n0] at hi; omega
  · show rg (s_p.2.1 68 2) 8; rw [c2]; exact rg.of (Nat.zero_le _) (by decide)
  · show TB _ _ _ 8 9 8 4 (nv (s_p.2.1 68 2)); rw [c2, n0]; exact t4
  · intro zi hi; have hi : zi < nv (s_p.2.1 68 2) := hi; rw [c2, n0] at hi; omega
  · show rg (s_p.2.1 68 3) 8; rw [c3]; exact rg.of (Nat.zero_le _) (by decide)
  · show TB _ _ _ 10 11 8 2 (nv (s_p.2.1 68 3)); rw [c3, n0]; exact t5
  · intro zi hi; have hi : zi < nv (s_p.2.1 68 3) := hi; rw [c3, n0] at hi; omega
  · show rg (s_p.2.1 68 6) 16; rw [c6]; exact rg.of (Nat.zero_le _) (by decide)
  · show TB _ _ _ 16 17 16 18 (nv (s_p.2.1 68 6)); rw [c6, n0]; exact t8
  · intro zi hi; have hi : zi < nv (s_p.2.1 68 6) := hi; rw [c6, n0] at hi; omega
  · show rg (s_p.2.1 68 7) 60; rw [c7]; exact rg.of (Nat.zero_le _) (by decide)
  · show TB _ _ _ 18 19 60 2 (nv (s_p.2.1 68 7)); rw [c7, n0]; exact t9
  · intro zi hi; have hi : zi < nv (s_p.2.1 68 7) := hi; rw [c7, n0] at hi; omega
  · show rg (s_p.2.1 68 4) 999; rw [c4]; exact rg.of (Nat.zero_le _) (by decide)
theorem s_start {n : Nat} (hn : 3000 < n) : ∃ q2, st_made n s_q1 q2 ∧ Ivv 0 q2.1 q2.2.1 q2.2.2.1 q2.2.2.2 := by
  obtain ⟨M, m1, m2, m3⟩ := m_forgets (I := s_p.2.1) s_GW hn
  obtain ⟨c0, c1, c2, c3, c4, c5, c6, c7, c8, c9, c10, c11, c12⟩ := s_c0
  obtain ⟨t1, t2, t3, t4, t5, t6, t7, t8, t9, t10⟩ := s_tb
  have n0 : nv (nI 0) = 0 := nv_nI (by decide)
  have hf : f_X12_init n s_w2.1 s_w2.2.1 s_w2.2.2.1 s_w2.2.2.2 67 = some (s_p.1, M, s_p.2.2.1, s_p.2.2.2) := by
    rw [s_init_eq, s_p_ok, Option.bind_some, m1, Option.bind_some]
  refine ⟨(s_p.1, M, s_p.2.2.1, s_p.2.2.2), ⟨s_q1_ok, s_q1_n, hf⟩, ?_⟩
  show IV 0 s_p.1 s_p.2.2.2 M
  have e68 : M 68 = s_p.2.1 68 := m2 68 (by decide)
  have e44 : M 44 = s_p.2.1 44 := m2 44 (by decide)
  refine ⟨s_GW, s_SR.of (fun zq a b => m2 zq (by omega)) (fun zk _ => by rw [e68]), ⟨fun zk hk => Or.inl ?_, fun zk zl zb hk _ h1 _ => ?_, s_imgs.2⟩, ⟨fun zw hw => ?_, ?_, ?_, ⟨0, t10.of (fun j => by rw [m2 29 (by decide)])⟩, fun zw hw => by rw [m2 (43 - zw) (by omega)]; exact (s_bars zw hw).2.2⟩, ⟨⟨0, Nat.le_refl _, ?_, fun zt ht => ⟨0, by omega, ?_⟩⟩, fun zs zx zy hs => ?_, fun zi zj hi => ?_⟩, fun zs zx zy h1 h2 h3 => Or.inl (m3 _ (by omega)), Or.inl ?_, s_dr.of (m2 65 (by decide))⟩
  · rw [m2 69 (by decide)]; exact s_imgs.1 zk hk
  · rw [(s_imgs.1 zk hk).1] at h1; cases h1
  · obtain ⟨b1, b2, b3⟩ := s_bars zw hw
    rw [m2 (43 - zw) (by omega), e68, b2]
    exact ⟨b1, fun h => by cases h⟩
  · exact Or.inl ⟨by rw [e68, c1, n0], by rw [e68, c2, n0]⟩
  · rw [m2 21 (by decide), e68]; exact s_misc.1
  · rw [e44]; exact s_misc.2.1
  · rw [m2 46 (by decide)]; exact s_46 zt ht
  · rw [e68, c1, n0] at hs; omega
  · rw [e68, c2, n0] at hi; omega
  · rw [e44]; exact s_misc.2.2
