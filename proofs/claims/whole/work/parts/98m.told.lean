/-! set, wall, sender, span, echo -/
theorem q_r68_eq {I J : pI} {zj : Nat} {zv : Int32} (h : J 68 = I 68) : q_r68 J (p_u I 68 zj zv 68) = p_u J 68 zj zv := by
  funext zq
  by_cases hz : zq = 68
  · rw [hz, q_r68_s, p_u_68 h]
  · rw [q_r68_n hz, p_u_ne hz]
theorem q_set_row {zs : Nat} (hs : zs < 7) : ∃ lo hi : Nat, p_rb 1 (nI zs) = true ∧ p_rb 2 (nI zs) = true ∧ (p_row 1).getD (nI zs).toNatClampNeg 0 = nI lo ∧ (p_row 2).getD (nI zs).toNatClampNeg 0 = nI hi ∧ f_X12_leastOf (nI zs) = some (nI lo) ∧ f_X12_mostFor (nI zs) = some (nI hi) ∧ hi = q_hi zs ∧ hi < 10000 ∧ lo < 2 ∧ (zs = 4 ∨ zs = 6 → lo = 1) := by
  have h7 : zs = 0 ∨ zs = 1 ∨ zs = 2 ∨ zs = 3 ∨ zs = 4 ∨ zs = 5 ∨ zs = 6 := by omega
  rcases h7 with h | h | h | h | h | h | h <;> subst h
  · exact ⟨0, 2, by decide, by decide, by decide, by decide, by decide, by decide, rfl, by decide, by decide, by decide⟩
  · exact ⟨0, 100, by decide, by decide, by decide, by decide, by decide, by decide, rfl, by decide, by decide, by decide⟩
  · exact ⟨0, 9999, by decide, by decide, by decide, by decide, by decide, by decide, rfl, by decide, by decide, by decide⟩
  · exact ⟨0, 9999, by decide, by decide, by decide, by decide, by decide, by decide, rfl, by decide, by decide, by decide⟩
  · exact ⟨1, 9999, by decide, by decide, by decide, by decide, by decide, by decide, rfl, by decide, by decide, by decide⟩
  · exact ⟨0, 999, by decide, by decide, by decide, by decide, by decide, by decide, rfl, by decide, by decide, by decide⟩
  · exact ⟨1, 9, by decide, by decide, by decide, by decide, by decide, by decide, rfl, by decide, by decide, by decide⟩
theorem sp_set {n zk : Nat} (hk : zk < 512) (hn : 3000 < n) : Sp_set n (Ivv zk) (Ivv (zk + 1)) := by
  intro N I L P h x1 x2
  have h : IV zk N P I := h
  have hG := h.gw
  have z0 : (nI 0 : Int32) = 0 := rfl
  obtain ⟨t1, c1, d1⟩ := h.sr.rg
  have t1 : TB N P I 14 15 7 1 7 := t1
  rcases pk_ix x1 (n := 7) (by omega) with g | g | ⟨zs, hs, e⟩
  · refine ⟨(nI 0, I), (nI 0, I), ?_, ?_, rfl, h.up⟩
    · unfold f_X11_set
      simp only [if_pos g]
    · unfold f_X12_set
      simp only [m_isIn, z0, Option.bind_some, decide_eq_true g, Bool.not_true, Bool.false_and, bI_iff]
  · have g2 : nI 6 < x1 := (n_le_lt (by decide)).mpr g
    have g1 : ¬ x1 < 0 := by
      intro g3
      have a1 := Int32.lt_iff_toInt_lt.mp g3
      have a2 := Int32.le_iff_toInt_le.mp g
      have a3 : (0 : Int32).toInt = 0 := rfl
      have a4 : (nI 7).toInt = 7 := by decide
      omega
    refine ⟨(nI 0, I), (nI 0, I), ?_, ?_, rfl, h.up⟩
    · unfold f_X11_set
      simp only [if_neg g1, if_pos g]
    · unfold f_X12_set
      simp only [m_isIn, z0, Option.bind_some, decide_eq_true g2, Bool.not_true, Bool.and_false, bI_iff]
  · subst e
    have g1 : ¬ nI zs < 0 := nI_pos (by omega)
    have g2 : ¬ nI 6 < nI zs := nI_nlt (by omega) (by omega)
    have g3 : ¬ nI 7 ≤ nI zs := nI_ge hs (by decide)
    have g4 : nI zs < nI 7 := nI_lt hs (by decide)
    obtain ⟨lo, hi, w1, w2, w3, w4, w5, w6, w7, w8, w9, w10⟩ := q_set_row hs
    by_cases hlo : x2 < nI lo
    · refine ⟨(nI 0, I), (nI 0, I), ?_, ?_, rfl, h.up⟩
      · unfold f_X11_set
        simp only [if_neg g1, if_neg g3, if_pos g4, n_ck w1, w3, if_pos hlo]
      · unfold f_X12_set
        rw [m_isIn, Option.bind_some, z0]
        simp only [decide_eq_false g1, decide_eq_false g2, Bool.not_false, Bool.true_and, bI_ift, w5, w6, Option.bind_some, m_isIn, decide_eq_true hlo, Bool.not_true, Bool.false_and, bI_iff]
    · by_cases hhi : x2 ≤ nI hi
      · have hhi2 : ¬ nI hi < x2 := Int32.not_lt.mpr hhi
        have hx0 : ¬ x2 < 0 := by
          intro g5
          refine hlo (Int32.lt_of_lt_of_le g5 (nI_pos' (by omega)))
        have rx : rg x2 hi := rg_of2 (by omega) hx0 hhi
        have eput := tb_put t1 hs (show 0 < 1 by decide) (v := x2)
        have ib1 : p_ib N 68 (nI (11 + zs)) = true := ib_68 hG (by omega)
        have ic1 : (nI (11 + zs)).toNatClampNeg = 11 + zs := nI_clamp (by omega)
        have hSx : SR N P (q_r68 (p_u I 15 (zs * 1 + 0) x2) (p_u I 68 (11 + zs) x2 68)) 1 0 := by
          refine h.sr.w_sets ?_ (fun zq a b c d => by rw [q_r68_n (by omega), p_u_ne d]) (fun zj a c => by rw [q_r68_s, p_u_nk (by omega)])
          have hne : ∀ zj, (zj = 4 ∨ zj = 6) → ¬ p_u I 68 (11 + zs) x2 68 (11 + zj) = 0 := fun zj hj => by
            by_cases hz : zj = zs
            · rw [hz, p_u_self]
              intro e0
              have h1 := w10 (by omega)
              rw [h1, e0] at hlo
              exact hlo (by decide)
            · rw [p_u_nk (by omega)]
              rcases hj with hj | hj
              · rw [hj]; exact d1.1
              · rw [hj]; exact d1.2
          refine ⟨?_, fun zw hw => ?_, hne 4 (Or.inl rfl), hne 6 (Or.inr rfl)⟩
          · exact (t1.cells (k := zs * 1 + 0) (v := x2) (by decide)).of (fun zi => by rw [q_r68_n (by decide)])
          · show p_u I 15 (zs * 1 + 0) x2 15 (zw * 1 + 0) = p_u I 68 (11 + zs) x2 68 (11 + zw) ∧ rg (p_u I 68 (11 + zs) x2 68 (11 + zw)) (q_hi zw)
            by_cases hz : zw = zs
            · subst hz
              rw [p_u_self, p_u_self, ← w7]
              exact ⟨rfl, rx⟩
            · rw [p_u_nk (by omega), p_u_nk (by omega)]
              exact c1 zw hw
        by_cases h2 : zs < 2
        · have g5 : ¬ nI 2 ≤ nI zs := nI_ge h2 (by decide)
          obtain ⟨K, a1, a2, a3, a4⟩ := h.fresh hk (J := p_u I 15 (zs * 1 + 0) x2) (T := p_u I 68 (11 + zs) x2 68) (fun zq a b => p_u_ne (by omega)) hSx (fun zj a => p_u_nk (by omega)) (zn := n) (by omega)
          obtain ⟨M, m1, m2, m3⟩ := m_forgets (I := p_u K 68 (11 + zs) x2) hG hn
          refine ⟨(nI 1, K), (nI 1, M), ?_, ?_, rfl, ?_⟩
          · unfold f_X11_set
            have hc : nI zs = 0 ∨ (¬ nI zs = 0 ∧ nI zs = nI 1) := by
              have h3 : zs = 0 ∨ zs = 1 := by omega
              rcases h3 with h3 | h3 <;> subst h3
              · exact Or.inl rfl
              · exact Or.inr ⟨by decide, rfl⟩
            rcases hc with hc | ⟨hc, hc2⟩
            · simp only [if_neg g1, if_neg g3, if_pos g4, n_ck w1, w3, if_neg hlo, n_ck w2, w4, if_pos hhi, gp_0_0 hG, gp_1_6 hG, Option.bind_some, eput, if_pos hc, a1]
            · simp only [if_neg g1, if_neg g3, if_pos g4, n_ck w1, w3, if_neg hlo, n_ck w2, w4, if_pos hhi, gp_0_0 hG, gp_1_6 hG, Option.bind_some, eput, if_neg hc, if_pos hc2, a1]
          · unfold f_X12_set
            rw [m_isIn, Option.bind_some, z0]
            simp only [decide_eq_false g1, decide_eq_false g2, Bool.not_false, Bool.true_and, bI_ift, w5, w6, Option.bind_some, m_isIn, decide_eq_false hlo, decide_eq_false hhi2, gp_67_0 hG, nI_add, n_ck ib1, ic1, n_let, if_neg g5, m1]
          · exact a4 M (fun zq a b => by rw [m2 zq (by omega), p_u_ne a]) (by rw [m2 68 (by decide), p_u_68 a2]) m3
        · have g5 : nI 2 ≤ nI zs := nI_le (by omega) (by omega)
          have g6 : ¬ nI zs = 0 := nI_ne0 (by omega) (by omega)
          have g7 : ¬ nI zs = nI 1 := fun e => by
            have := (nI_eq (by omega) (by decide)).mp e
            omega
          refine ⟨(nI 1, p_u I 15 (zs * 1 + 0) x2), (nI 1, p_u (p_u I 15 (zs * 1 + 0) x2) 68 (11 + zs) x2), ?_, ?_, rfl, ?_⟩
          · unfold f_X11_set
            simp only [if_neg g1, if_neg g3, if_pos g4, n_ck w1, w3, if_neg hlo, n_ck w2, w4, if_pos hhi, gp_0_0 hG, gp_1_6 hG, Option.bind_some, eput, if_neg g6, if_neg g7]
          · unfold f_X12_set
            rw [m_isIn, Option.bind_some, z0]
            simp only [decide_eq_false g1, decide_eq_false g2, Bool.not_false, Bool.true_and, bI_ift, w5, w6, Option.bind_some, m_isIn, decide_eq_false hlo, decide_eq_false hhi2, gp_67_0 hG, nI_add, n_ck ib1, ic1, n_let, if_pos g5]
          · rw [q_r68_eq (p_u_ne (by decide))] at hSx
            show IV (zk + 1) N P (p_u (p_u I 15 (zs * 1 + 0) x2) 68 (11 + zs) x2)
            refine IV.up (IV.stay h hSx (fun zq a b => by rw [p_u_ne (by omega), p_u_ne (by omega)]) (fun zj hj => ?_))
            rw [p_u_nk (by unfold q_tw at hj; omega), p_u_ne (by decide)]
      · have hhi2 : nI hi < x2 := Int32.not_le.mp hhi
        refine ⟨(nI 0, I), (nI 0, I), ?_, ?_, rfl, h.up⟩
        · unfold f_X11_set
          simp only [if_neg g1, if_neg g3, if_pos g4, n_ck w1, w3, if_neg hlo, n_ck w2, w4, if_neg hhi]
        · unfold f_X12_set
          rw [m_isIn, Option.bind_some, z0]
          simp only [decide_eq_false g1, decide_eq_false g2, Bool.not_false, Bool.true_and, bI_ift, w5, w6, Option.bind_some, m_isIn, decide_eq_true hhi2, Bool.not_true, Bool.and_false, bI_iff]
theorem sp_wall {n zk : Nat} : Sp_wall n (Ivv zk) (Ivv (zk + 1)) := by
  intro N I L P h x1 x2
  have h : IV zk N P I := h
  have hG := h.gw
  have z0 : (nI 0 : Int32) = 0 := rfl
  have r0 := h.n0
  have h12 := r0.2
  have t1 : TB N P I 4 5 12 7 (nv (I 68 0)) := h.sr.rw.2.1
  rcases pk_ix x1 (n := nv (I 68 0)) (by omega) with g | g | ⟨zs, hs, e⟩
  · refine ⟨-2, -2, ?_, ?_, rfl, h.up⟩
    · unfold f_X11_wall
      simp only [gp_0_0 hG, gp_1_1 hG, Option.bind_some, tb_has_n t1 (Or.inl g), n_00, if_true]
    · unfold f_X12_wall
      simp only [m_isOf hG (show 0 < 30 by decide) r0 (by decide), Option.bind_some, q_of_in (c := I 68 0) (Or.inl g), bI_iff]
  · have g2 : I 68 0 ≤ x1 := by rw [r0.1]; exact g
    refine ⟨-2, -2, ?_, ?_, rfl, h.up⟩
    · unfold f_X11_wall
      simp only [gp_0_0 hG, gp_1_1 hG, Option.bind_some, tb_has_n t1 (Or.inr g), n_00, if_true]
    · unfold f_X12_wall
      simp only [m_isOf hG (show 0 < 30 by decide) r0 (by decide), Option.bind_some, q_of_in (c := I 68 0) (Or.inr g2), bI_iff]
  · subst e
    have hin : (!decide (nI zs < 0) && !decide (I 68 0 ≤ nI zs)) = true := q_of_ok (nI_pos (by omega)) (by rw [r0.1]; exact nI_ge hs (by omega))
    rcases pk_ix x2 (n := 7) (by omega) with g | g | ⟨zj, hj, e⟩
    · refine ⟨-2, -2, ?_, ?_, rfl, h.up⟩
      · unfold f_X11_wall
        simp only [gp_0_0 hG, gp_1_1 hG, Option.bind_some, tb_has t1 hs, n_10, if_false, if_pos g]
      · unfold f_X12_wall
        rw [m_isOf hG (show 0 < 30 by decide) r0 (by decide)]
        simp only [Option.bind_some, hin, bI_ift, m_isIn, z0, decide_eq_true g, Bool.not_true, Bool.false_and, bI_iff]
    · have g2 : nI 6 < x2 := (n_le_lt (by decide)).mpr g
      have g3 : ¬ x2 ≤ nI 6 := Int32.not_le.mpr g2
      refine ⟨-2, -2, ?_, ?_, rfl, h.up⟩
      · unfold f_X11_wall
        simp only [gp_0_0 hG, gp_1_1 hG, Option.bind_some, tb_has t1 hs, n_10, if_false, if_neg g3, ite_self]
      · unfold f_X12_wall
        rw [m_isOf hG (show 0 < 30 by decide) r0 (by decide)]
        simp only [Option.bind_some, hin, bI_ift, m_isIn, decide_eq_true g2, Bool.not_true, Bool.and_false, bI_iff]
    · subst e
      have g1 : ¬ nI zj < 0 := nI_pos (by omega)
      have g2 : ¬ nI 6 < nI zj := nI_nlt (by omega) (by omega)
      have g3 : nI zj ≤ nI 6 := Int32.not_lt.mp g2
      have ec : I 5 (zs * 7 + zj) = I 68 (30 + 7 * zs + zj) := (h.sr.rw.2.2 zs hs).1 zj hj
      refine ⟨I 68 (30 + 7 * zs + zj), I 68 (30 + 7 * zs + zj), ?_, ?_, rfl, h.up⟩
      · unfold f_X11_wall
        simp only [gp_0_0 hG, gp_1_1 hG, Option.bind_some, tb_has t1 hs, n_10, if_false, if_neg g1, if_pos g3, tb_get t1 hs hj, ec]
      · unfold f_X12_wall
        rw [m_isOf hG (show 0 < 30 by decide) r0 (by decide), m_wallOf hG (by omega) hj]
        simp only [Option.bind_some, hin, bI_ift, m_isIn, z0, decide_eq_false g1, decide_eq_false g2, Bool.not_false, Bool.true_and, q_w]
theorem sp_sender {n zk : Nat} : Sp_sender n (Ivv zk) (Ivv (zk + 1)) := by
  intro N I L P h x1 x2
  have h : IV zk N P I := h
  have hG := h.gw
  have z0 : (nI 0 : Int32) = 0 := rfl
  have r0 := h.n1
  have h12 := r0.2
  have t1 := h.sr.tbs
  rcases pk_ix x1 (n := nv (I 68 1)) (by omega) with g | g | ⟨zs, hs, e⟩
  · refine ⟨-2, -2, ?_, ?_, rfl, h.up⟩
    · unfold f_X11_sender
      simp only [gp_0_0 hG, gp_1_2 hG, Option.bind_some, tb_has_n t1 (Or.inl g), n_00, if_true]
    · unfold f_X12_sender
      simp only [m_isOf hG (show 1 < 30 by decide) r0 (by decide), Option.bind_some, q_of_in (c := I 68 1) (Or.inl g), bI_iff]
  · have g2 : I 68 1 ≤ x1 := by rw [r0.1]; exact g
    refine ⟨-2, -2, ?_, ?_, rfl, h.up⟩
    · unfold f_X11_sender
      simp only [gp_0_0 hG, gp_1_2 hG, Option.bind_some, tb_has_n t1 (Or.inr g), n_00, if_true]
    · unfold f_X12_sender
      simp only [m_isOf hG (show 1 < 30 by decide) r0 (by decide), Option.bind_some, q_of_in (c := I 68 1) (Or.inr g2), bI_iff]
  · subst e
    have hin : (!decide (nI zs < 0) && !decide (I 68 1 ≤ nI zs)) = true := q_of_ok (nI_pos (by omega)) (by rw [r0.1]; exact nI_ge hs (by omega))
    rcases pk_ix x2 (n := 6) (by omega) with g | g | ⟨zj, hj, e⟩
    · refine ⟨-2, -2, ?_, ?_, rfl, h.up⟩
      · unfold f_X11_sender
        simp only [gp_0_0 hG, gp_1_2 hG, Option.bind_some, tb_has t1 hs, n_10, if_false, if_pos g]
      · unfold f_X12_sender
        rw [m_isOf hG (show 1 < 30 by decide) r0 (by decide)]
        simp only [Option.bind_some, hin, bI_ift, m_isIn, z0, decide_eq_true g, Bool.not_true, Bool.false_and, bI_iff]
    · have g2 : nI 5 < x2 := (n_le_lt (by decide)).mpr g
      have g3 : ¬ x2 ≤ nI 5 := Int32.not_le.mpr g2
      refine ⟨-2, -2, ?_, ?_, rfl, h.up⟩
      · unfold f_X11_sender
        simp only [gp_0_0 hG, gp_1_2 hG, Option.bind_some, tb_has t1 hs, n_10, if_false, if_neg g3, ite_self]
      · unfold f_X12_sender
        rw [m_isOf hG (show 1 < 30 by decide) r0 (by decide)]
        simp only [Option.bind_some, hin, bI_ift, m_isIn, decide_eq_true g2, Bool.not_true, Bool.and_false, bI_iff]
    · subst e
      have g1 : ¬ nI zj < 0 := nI_pos (by omega)
      have g2 : ¬ nI 5 < nI zj := nI_nlt (by omega) (by omega)
      have g3 : nI zj ≤ nI 5 := Int32.not_lt.mp g2
      have ec : I 7 (zs * 8 + zj) = I 68 (120 + 8 * zs + zj) := (h.sr.sn hs).1 zj (by omega)
      refine ⟨I 68 (120 + 8 * zs + zj), I 68 (120 + 8 * zs + zj), ?_, ?_, rfl, h.up⟩
      · unfold f_X11_sender
        simp only [gp_0_0 hG, gp_1_2 hG, Option.bind_some, tb_has t1 hs, n_10, if_false, if_neg g1, if_pos g3, tb_get t1 hs (show zj < 8 by omega), ec]
      · unfold f_X12_sender
        rw [m_isOf hG (show 1 < 30 by decide) r0 (by decide), m_senderOf hG (by omega) (by omega)]
        simp only [Option.bind_some, hin, bI_ift, m_isIn, z0, decide_eq_false g1, decide_eq_false g2, Bool.not_false, Bool.true_and]
theorem sp_span {n zk : Nat} : Sp_span n (Ivv zk) (Ivv (zk + 1)) := by
  intro N I L P h x1 x2 x3
  have h : IV zk N P I := h
  have hG := h.gw
  have z0 : (nI 0 : Int32) = 0 := rfl
  have r1 := h.n1
  have h6 := r1.2
  have t1 := h.sr.tbs
  rcases pk_ix x1 (n := nv (I 68 1)) (by omega) with g | g | ⟨zs, hs, e⟩
  · refine ⟨(nI 0, I), (nI 0, I), ?_, ?_, rfl, h.up⟩
    · unfold f_X11_span
      simp only [gp_0_0 hG, gp_1_2 hG, Option.bind_some, tb_has_n t1 (Or.inl g), n_00, if_true]
    · unfold f_X12_span
      simp only [m_isOf hG (show 1 < 30 by decide) r1 (by decide), Option.bind_some, q_of_in (c := I 68 1) (Or.inl g), bI_iff]
  · have g2 : I 68 1 ≤ x1 := by rw [r1.1]; exact g
    refine ⟨(nI 0, I), (nI 0, I), ?_, ?_, rfl, h.up⟩
    · unfold f_X11_span
      simp only [gp_0_0 hG, gp_1_2 hG, Option.bind_some, tb_has_n t1 (Or.inr g), n_00, if_true]
    · unfold f_X12_span
      simp only [m_isOf hG (show 1 < 30 by decide) r1 (by decide), Option.bind_some, q_of_in (c := I 68 1) (Or.inr g2), bI_iff]
  · subst e
    have hin : (!decide (nI zs < 0) && !decide (I 68 1 ≤ nI zs)) = true := q_of_ok (nI_pos (by omega)) (by rw [r1.1]; exact nI_ge hs (by omega))
    have ia6 : nI 120 + nI 8 * nI zs + nI 6 = nI (120 + 8 * zs + 6) := by rw [pk_mul, nI_add, nI_add]
    have ib6 : p_ib N 68 (nI (120 + 8 * zs + 6)) = true := ib_68 hG (by omega)
    have ic6 : (nI (120 + 8 * zs + 6)).toNatClampNeg = 120 + 8 * zs + 6 := nI_clamp (by omega)
    have ia7 : nI 120 + nI 8 * nI zs + nI 7 = nI (120 + 8 * zs + 7) := by rw [pk_mul, nI_add, nI_add]
    have ib7 : p_ib N 68 (nI (120 + 8 * zs + 7)) = true := ib_68 hG (by omega)
    have ic7 : (nI (120 + 8 * zs + 7)).toNatClampNeg = 120 + 8 * zs + 7 := nI_clamp (by omega)
    have ep1 := tb_put t1 hs (show 6 < 8 by decide) (v := x2)
    have tR := t1.cells (k := zs * 8 + 6) (v := x2) (by decide)
    have ep2 := tb_put tR hs (show 7 < 8 by decide) (v := x3)
    have tR2 := tR.cells (k := zs * 8 + 7) (v := x3) (by decide)
    have hset : (x2 = -1 ∨ rg x2 1000000000) → ∃ J M, J_X11_span_38 N I P 0 (nI zs) x2 x3 = some (nI 1, J) ∧ J_X12_span_40 N J P 67 (nI zs) x2 x3 = some (nI 1, M) ∧ J 68 = I 68 ∧ IV (zk + 1) N P M := fun rx => by
      generalize hv : (if x2 = (-1) then (-1) else x3) = zv
      refine ⟨p_u (p_u I 7 (zs * 8 + 6) x2) 7 (zs * 8 + 7) x3, p_u (p_u (p_u (p_u I 7 (zs * 8 + 6) x2) 7 (zs * 8 + 7) x3) 68 (120 + 8 * zs + 6) x2) 68 (120 + 8 * zs + 7) zv, ?_, ?_, ?_, ?_⟩
      · unfold J_X11_span_38
        simp only [gp_0_0 hG, gp_1_2 hG, Option.bind_some, ep1, ep2]
      · unfold J_X12_span_40
        simp only [gp_67_0 hG, Option.bind_some, ia6, ia7, n_ck ib6, n_ck ib7, ic6, ic7, n_let, hv]
      · rw [p_u_ne (by decide), p_u_ne (by decide)]
      · generalize hJ : p_u (p_u I 7 (zs * 8 + 6) x2) 7 (zs * 8 + 7) x3 = J at tR2
        have hJ68 : J 68 = I 68 := by rw [← hJ, p_u_ne (by decide), p_u_ne (by decide)]
        have hJq : ∀ zq, zq ≠ 7 → J zq = I zq := fun zq a => by rw [← hJ, p_u_ne a, p_u_ne a]
        have hJc : ∀ zj, zj ≠ zs * 8 + 6 → zj ≠ zs * 8 + 7 → J 7 zj = I 7 zj := fun zj a b => by rw [← hJ, p_u_nk b, p_u_nk a]
        have hJ6 : J 7 (zs * 8 + 6) = x2 := by rw [← hJ, p_u_nk (by omega), p_u_self]
        have hJ7 : J 7 (zs * 8 + 7) = x3 := by rw [← hJ, p_u_self]
        generalize hM : p_u (p_u J 68 (120 + 8 * zs + 6) x2) 68 (120 + 8 * zs + 7) zv = M
        have hMq : ∀ zq, zq ≠ 68 → M zq = J zq := fun zq a => by rw [← hM, p_u_ne a, p_u_ne a]
        have hMc : ∀ zj, zj ≠ 120 + 8 * zs + 6 → zj ≠ 120 + 8 * zs + 7 → M 68 zj = I 68 zj := fun zj a b => by rw [← hM, p_u_nk b, p_u_nk a, hJ68]
        have hM6 : M 68 (120 + 8 * zs + 6) = x2 := by rw [← hM, p_u_nk (by omega), p_u_self]
        have hM7 : M 68 (120 + 8 * zs + 7) = zv := by rw [← hM, p_u_self]
        have hM1 : M 68 1 = I 68 1 := hMc 1 (by omega) (by omega)
        refine IV.up (IV.stay h (h.sr.w_senders ?_ (fun zq a b c d => by rw [hMq zq (by omega), hJq zq d]) (fun zj a b c => hMc zj (by omega) (by omega))) (fun zq a b => by rw [hMq zq (by omega), hJq zq (by omega)]) (fun zj hj => hMc zj (by unfold q_tw at hj; omega) (by unfold q_tw at hj; omega)))
        refine ⟨?_, ?_, fun zw hw => ?_⟩
        · show rg (M 68 1) 6
          rw [hM1]; exact r1
        · show TB N P M 6 7 6 8 (nv (M 68 1))
          rw [hM1]
          exact tR2.of (fun zi => by rw [hMq 6 (by decide)])
        · have hw : zw < nv (M 68 1) := hw
          rw [hM1] at hw
          obtain ⟨d1, d2, d3⟩ := h.sr.sn hw
          show (∀ zj, zj < 7 → M 7 (zw * 8 + zj) = M 68 (120 + 8 * zw + zj)) ∧ (M 68 (120 + 8 * zw + 6) = -1 ∨ M 7 (zw * 8 + 7) = M 68 (120 + 8 * zw + 7)) ∧ q_wfsn (fun zj => M 68 (120 + 8 * zw + zj))
          rw [hMq 7 (by decide)]
          by_cases hz : zw = zs
          · subst hz
            refine ⟨fun zj hj => ?_, ?_, ?_⟩
            · by_cases hj5 : zj = 6
              · rw [hj5, hJ6, hM6]
              · rw [hJc _ (by omega) (by omega), hMc _ (by omega) (by omega)]; exact d1 zj hj
            · rw [hM6, hM7, hJ7, ← hv]
              by_cases hm : x2 = -1
              · exact Or.inl hm
              · exact Or.inr (by rw [if_neg hm])
            · unfold q_wfsn
              dsimp only
              rw [hM6, hMc _ (by omega) (by omega), hMc _ (by omega) (by omega), hMc _ (by omega) (by omega), hMc _ (by omega) (by omega), hMc _ (by omega) (by omega), hMc _ (by omega) (by omega)]
              exact ⟨d3.1, d3.2.1, d3.2.2.1, d3.2.2.2.1, d3.2.2.2.2.1, d3.2.2.2.2.2.1, rx⟩
          · refine ⟨fun zj hj => ?_, ?_, ?_⟩
            · rw [hJc _ (by omega) (by omega), hMc _ (by omega) (by omega)]; exact d1 zj hj
            · rw [hMc _ (by omega) (by omega), hMc _ (by omega) (by omega), hJc _ (by omega) (by omega)]; exact d2
            · exact d3.of (fun zj hj => hMc _ (by omega) (by omega))
    by_cases hm : x2 = -1
    · obtain ⟨J, M, j1, m1, j68, m2⟩ := hset (Or.inl hm)
      refine ⟨(nI 1, J), (nI 1, M), ?_, ?_, rfl, m2⟩
      · unfold f_X11_span
        simp only [gp_0_0 hG, gp_1_2 hG, Option.bind_some, tb_has t1 hs, n_10, if_false, if_pos hm, j1]
      · unfold f_X12_span
        rw [m_isOf hG (show 1 < 30 by decide) (show rg (J 68 1) 6 by rw [j68]; exact r1) (by decide)]
        simp only [Option.bind_some, j68, hin, bI_ift, if_pos hm, m1]
    · by_cases h0 : x2 < 0
      · refine ⟨(nI 0, I), (nI 0, I), ?_, ?_, rfl, h.up⟩
        · unfold f_X11_span
          simp only [gp_0_0 hG, gp_1_2 hG, Option.bind_some, tb_has t1 hs, n_10, if_false, if_neg hm, if_pos h0]
        · unfold f_X12_span
          rw [m_isOf hG (show 1 < 30 by decide) r1 (by decide)]
          simp only [Option.bind_some, hin, bI_ift, if_neg hm, m_isIn, z0, decide_eq_true h0, Bool.not_true, Bool.false_and, bI_iff]
      · by_cases h32 : x3 < x2
        · refine ⟨(nI 0, I), (nI 0, I), ?_, ?_, rfl, h.up⟩
          · unfold f_X11_span
            simp only [gp_0_0 hG, gp_1_2 hG, Option.bind_some, tb_has t1 hs, n_10, if_false, if_neg hm, if_neg h0, if_pos h32]
          · unfold f_X12_span
            rw [m_isOf hG (show 1 < 30 by decide) r1 (by decide)]
            simp only [Option.bind_some, hin, bI_ift, if_neg hm, m_isIn, decide_eq_true h32, Bool.not_true, Bool.false_and, bI_iff, ite_self]
        · by_cases h3 : x3 ≤ nI 1000000000
          · have h3b : ¬ nI 1000000000 < x3 := Int32.not_lt.mpr h3
            have h2b : ¬ nI 1000000000 < x2 := Int32.not_lt.mpr (Int32.le_trans (Int32.not_lt.mp h32) h3)
            obtain ⟨J, M, j1, m1, j68, m2⟩ := hset (Or.inr (rg_of2 (by decide) h0 (Int32.not_lt.mp h2b)))
            refine ⟨(nI 1, J), (nI 1, M), ?_, ?_, rfl, m2⟩
            · unfold f_X11_span
              simp only [gp_0_0 hG, gp_1_2 hG, Option.bind_some, tb_has t1 hs, n_10, if_false, if_neg hm, if_neg h0, if_neg h32, if_pos h3, j1]
            · unfold f_X12_span
              rw [m_isOf hG (show 1 < 30 by decide) (show rg (J 68 1) 6 by rw [j68]; exact r1) (by decide)]
              simp only [Option.bind_some, j68, hin, bI_ift, if_neg hm, m_isIn, z0, decide_eq_false h0, decide_eq_false h2b, decide_eq_false h32, decide_eq_false h3b, Bool.not_false, Bool.true_and, m1]
          · have h3b : nI 1000000000 < x3 := Int32.not_le.mp h3
            refine ⟨(nI 0, I), (nI 0, I), ?_, ?_, rfl, h.up⟩
            · unfold f_X11_span
              simp only [gp_0_0 hG, gp_1_2 hG, Option.bind_some, tb_has t1 hs, n_10, if_false, if_neg hm, if_neg h0, if_neg h32, if_neg h3]
            · unfold f_X12_span
              rw [m_isOf hG (show 1 < 30 by decide) r1 (by decide)]
              simp only [Option.bind_some, hin, bI_ift, if_neg hm, m_isIn, decide_eq_true h3b, Bool.not_true, Bool.and_false, bI_iff, ite_self]
