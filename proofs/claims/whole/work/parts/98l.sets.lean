/-! view, pull, stuff, set, span; what is told of walls and senders -/
theorem n_neg_iff {zh : Nat} (hh : zh < 2 ^ 31) {x : Int32} (h : x = -1 ∨ rg x zh) : (x = -1) ↔ (x < 0) := by
  constructor
  · intro e; rw [e]; decide
  · intro e
    rcases h with h | h
    · exact h
    · rw [h.1] at e
      exact absurd e (nI_pos (by have := h.2; omega))
theorem rg_of2 {x : Int32} {m : Nat} (hm : m < 2 ^ 31) (h0 : ¬ x < 0) (h : x ≤ nI m) : rg x m := by
  obtain ⟨zx, h1, h2⟩ := nI_of2 (M := nI m) (n := m) (nI_toInt hm) h0 h
  rw [h2]
  exact rg.of h1 hm
theorem sp_view {n zk : Nat} (hk : zk < 512) (hn : 3000 < n) : Sp_view n (Ivv zk) (Ivv (zk + 1)) := by
  intro N I L P h x1
  have h : IV zk N P I := h
  have hG := h.gw
  have i4 : p_ib N 68 (nI 4) = true := ib_68 hG (by decide)
  have k4 : (nI 4).toNatClampNeg = 4 := by decide
  have i5 : p_ib N 68 (nI 5) = true := ib_68 hG (by decide)
  have k5 : (nI 5).toNatClampNeg = 5 := by decide
  obtain ⟨f9, f10, f11, f12, r4, r5⟩ := h.sr.rf
  have f9 : I 1 9 = I 68 9 := f9
  have f10 : I 1 10 = I 68 10 := f10
  have f11 : I 1 11 = I 68 4 := f11
  have f12 : I 1 12 = I 68 5 := f12
  have r4 : rg (I 68 4) 999 := r4
  have z0 : (nI 0 : Int32) = 0 := rfl
  have hset : (x1 = -1 ∨ rg x1 999) → ∃ K, f_X11_refresh n N (p_u I 1 12 x1) P 0 = some K ∧ K 68 = I 68 ∧ ∃ M, f_X12_forgets n N (p_u K 68 5 x1) P 67 = some M ∧ IV (zk + 1) N P M := fun rx => by
    have hSx : SR N P (q_r68 (p_u I 1 12 x1) (p_u I 68 5 x1 68)) 1 0 := by
      refine h.sr.w_flds ?_ (fun zq a b c => by rw [q_r68_n (by omega), p_u_ne c]) (fun zj a b c d e => by rw [q_r68_s, p_u_nk c])
      refine ⟨?_, ?_, ?_, ?_, ?_, ?_⟩
      · show p_u I 1 12 x1 1 9 = p_u I 68 5 x1 68 9
        rw [p_u_nk (by decide), p_u_nk (by decide)]; exact f9
      · show p_u I 1 12 x1 1 10 = p_u I 68 5 x1 68 10
        rw [p_u_nk (by decide), p_u_nk (by decide)]; exact f10
      · show p_u I 1 12 x1 1 11 = p_u I 68 5 x1 68 4
        rw [p_u_nk (by decide), p_u_nk (by decide)]; exact f11
      · show p_u I 1 12 x1 1 12 = p_u I 68 5 x1 68 5
        rw [p_u_self, p_u_self]
      · show rg (p_u I 68 5 x1 68 4) 999
        rw [p_u_nk (by decide)]; exact r4
      · show p_u I 68 5 x1 68 5 = -1 ∨ rg (p_u I 68 5 x1 68 5) 999
        rw [p_u_self]; exact rx
    obtain ⟨K, a1, a2, a3, a4⟩ := h.fresh hk (J := p_u I 1 12 x1) (T := p_u I 68 5 x1 68) (fun zq a b => p_u_ne (by omega)) hSx (fun zj a => p_u_nk (by omega)) (zn := n) (by omega)
    obtain ⟨M, m1, m2, m3⟩ := m_forgets (I := p_u K 68 5 x1) hG hn
    exact ⟨K, a1, a2, M, m1, a4 M (fun zq a b => by rw [m2 zq (by omega), p_u_ne a]) (by rw [m2 68 (by decide), p_u_68 a2]) m3⟩
  by_cases hm : x1 = -1
  · obtain ⟨K, a1, a2, M, m1, m2⟩ := hset (Or.inl hm)
    have c1 : ¬ x1 < -1 := by rw [hm]; decide
    have c2 : x1 ≤ I 1 11 := by
      rw [f11, hm, r4.1]
      refine Int32.le_of_lt (Int32.lt_of_lt_of_le (b := 0) (by decide) (nI_pos' (by have := r4.2; omega)))
    refine ⟨(nI 1, K), (nI 1, M), ?_, ?_, rfl, m2⟩
    · unfold f_X11_view
      simp only [if_neg c1, gp_0_0 hG, Option.bind_some, if_pos c2, n_let, a1]
    · unfold f_X12_view
      simp only [if_pos hm, gp_67_0 hG, Option.bind_some, n_ck i5, k5, n_let, m1]
  · by_cases h0 : x1 < 0
    · have c1 : x1 < -1 := by
        have a1 := Int32.lt_iff_toInt_lt.mp h0
        have a2 : ¬ x1.toInt = (-1 : Int32).toInt := fun e => hm (Int32.toInt_inj.mp e)
        have a3 : (0 : Int32).toInt = 0 := rfl
        have a4 : (-1 : Int32).toInt = -1 := rfl
        exact Int32.lt_iff_toInt_lt.mpr (by omega)
      refine ⟨(nI 0, I), (nI 0, I), ?_, ?_, rfl, h.up⟩
      · unfold f_X11_view
        simp only [if_pos c1]
      · unfold f_X12_view
        simp only [if_neg hm, gp_67_0 hG, Option.bind_some, n_ck i4, k4, m_isIn, z0, decide_eq_true h0, Bool.not_true, Bool.false_and, bI_iff]
    · have c1 : ¬ x1 < -1 := by
        intro h3
        have a1 := Int32.lt_iff_toInt_lt.mp h3
        have a2 : ¬ x1.toInt < (0 : Int32).toInt := fun e => h0 (Int32.lt_iff_toInt_lt.mpr e)
        have a3 : (0 : Int32).toInt = 0 := rfl
        have a4 : (-1 : Int32).toInt = -1 := rfl
        omega
      by_cases h2 : x1 ≤ I 68 4
      · have h2c : x1 ≤ I 1 11 := by rw [f11]; exact h2
        have h2b : ¬ I 68 4 < x1 := Int32.not_lt.mpr h2
        have rx : rg x1 999 := by
          refine rg_of2 (by decide) h0 (Int32.le_trans h2 ?_)
          rw [r4.1]
          exact nI_le r4.2 (by decide)
        obtain ⟨K, a1, a2, M, m1, m2⟩ := hset (Or.inr rx)
        refine ⟨(nI 1, K), (nI 1, M), ?_, ?_, rfl, m2⟩
        · unfold f_X11_view
          simp only [if_neg c1, gp_0_0 hG, Option.bind_some, if_pos h2c, n_let, a1]
        · unfold f_X12_view
          simp only [if_neg hm, gp_67_0 hG, Option.bind_some, n_ck i4, k4, a2, m_isIn, z0, decide_eq_false h0, decide_eq_false h2b, Bool.not_false, Bool.true_and, bI_ift, n_ck i5, k5, n_let, m1]
      · have h2c : ¬ x1 ≤ I 1 11 := by rw [f11]; exact h2
        have h2b : I 68 4 < x1 := Int32.not_le.mp h2
        refine ⟨(nI 0, I), (nI 0, I), ?_, ?_, rfl, h.up⟩
        · unfold f_X11_view
          simp only [if_neg c1, gp_0_0 hG, Option.bind_some, if_neg h2c]
        · unfold f_X12_view
          simp only [if_neg hm, gp_67_0 hG, Option.bind_some, n_ck i4, k4, m_isIn, z0, decide_eq_true h2b, Bool.not_true, Bool.and_false, bI_iff]
theorem q_of_in {x : Int32} {c : Int32} : (x < 0 ∨ c ≤ x) → (!decide (x < 0) && !decide (c ≤ x)) = false := fun hx => by
  rcases hx with hx | hx
  · rw [decide_eq_true hx]; rfl
  · rw [decide_eq_true hx, Bool.not_true, Bool.and_false]
theorem q_of_ok {x : Int32} {c : Int32} (h1 : ¬ x < 0) (h2 : ¬ c ≤ x) : (!decide (x < 0) && !decide (c ≤ x)) = true := by
  rw [decide_eq_false h1, decide_eq_false h2]; rfl
theorem sp_pull {n zk : Nat} (hk : zk < 512) (hn : 3000 < n) : Sp_pull n (Ivv zk) (Ivv (zk + 1)) := by
  intro N I L P h x1 x2 hx1
  have h : IV zk N P I := h
  have hG := h.gw
  have i4 : p_ib N 68 (nI 4) = true := ib_68 hG (by decide)
  have k4 : (nI 4).toNatClampNeg = 4 := by decide
  have f11 : I 1 11 = I 68 4 := h.sr.rf.2.2.1
  have r4 : rg (I 68 4) 999 := h.sr.rf.2.2.2.2.1
  by_cases hx : x1 = 0
  · have t1 := h.sr.tbs
    have r1 := h.n1
    have h6 := r1.2
    rcases q_st_x r1 (by decide) x2 with ⟨_, g⟩ | ⟨zs, hs, e, _⟩
    · have g2 : x2 < 0 ∨ nI (nv (I 68 1)) ≤ x2 := by rw [← r1.1]; exact g
      refine ⟨(nI 0, I), (nI 0, I), ?_, ?_, rfl, h.up⟩
      · unfold f_X11_pull
        simp only [if_pos hx, gp_0_0 hG, gp_1_2 hG, Option.bind_some, n_let, tb_has_n t1 g2, n_00, if_true]
      · unfold f_X12_pull
        simp only [if_pos hx, n_let, m_isOf hG (show 1 < 30 by decide) r1 (by decide), Option.bind_some, q_of_in g, bI_iff]
    · subst e
      obtain ⟨c1, c2, c3⟩ := h.sr.sn hs
      have e5 : I 7 (zs * 8 + 5) = I 68 (120 + 8 * zs + 5) := c1 5 (by decide)
      have w5 : I 68 (120 + 8 * zs + 5) = -1 ∨ rg (I 68 (120 + 8 * zs + 5)) 999 := c3.2.2.2.2.2.1
      have hin : (!decide (nI zs < 0) && !decide (I 68 1 ≤ nI zs)) = true := q_of_ok (nI_pos (by omega)) (by rw [r1.1]; exact nI_ge hs (by omega))
      have ia : nI 120 + nI 8 * nI zs + nI 5 = nI (120 + 8 * zs + 5) := by rw [pk_mul, nI_add, nI_add]
      have ib : p_ib N 68 (nI (120 + 8 * zs + 5)) = true := ib_68 hG (by omega)
      have ic : (nI (120 + 8 * zs + 5)).toNatClampNeg = 120 + 8 * zs + 5 := nI_clamp (by omega)
      by_cases hm : I 68 (120 + 8 * zs + 5) = -1
      · have hm2 := (n_neg_iff (by decide) w5).mp hm
        have eput := tb_put t1 hs (show 5 < 8 by decide) (v := I 68 4)
        have hSx : SR N P (q_r68 (p_u I 7 (zs * 8 + 5) (I 68 4)) (p_u I 68 (120 + 8 * zs + 5) (I 68 4) 68)) 1 0 := by
          refine h.sr.w_senders ?_ (fun zq a b c d => by rw [q_r68_n (by omega), p_u_ne d]) (fun zj a b c => by rw [q_r68_s, p_u_nk (by omega)])
          have en : p_u I 68 (120 + 8 * zs + 5) (I 68 4) 68 1 = I 68 1 := p_u_nk (by omega)
          refine ⟨?_, ?_, fun zw hw => ?_⟩
          · show rg (p_u I 68 (120 + 8 * zs + 5) (I 68 4) 68 1) 6
            rw [en]; exact r1
          · show TB N P _ 6 7 6 8 (nv (p_u I 68 (120 + 8 * zs + 5) (I 68 4) 68 1))
            rw [en]
            exact t1.of (fun zi => by rw [q_r68_n (by decide), p_u_ne (by decide)])
          · have hw : zw < nv (p_u I 68 (120 + 8 * zs + 5) (I 68 4) 68 1) := hw
            rw [en] at hw
            obtain ⟨d1, d2, d3⟩ := h.sr.sn hw
            by_cases hz : zw = zs
            · subst hz
              refine ⟨fun zj hj => ?_, ?_, ?_⟩
              · show p_u I 7 (zw * 8 + 5) (I 68 4) 7 (zw * 8 + zj) = p_u I 68 (120 + 8 * zw + 5) (I 68 4) 68 (120 + 8 * zw + zj)
                by_cases hj5 : zj = 5
                · rw [hj5, p_u_self, p_u_self]
                · rw [p_u_nk (by omega), p_u_nk (by omega)]; exact d1 zj hj
              · show p_u I 68 (120 + 8 * zw + 5) (I 68 4) 68 (120 + 8 * zw + 6) = -1 ∨ p_u I 7 (zw * 8 + 5) (I 68 4) 7 (zw * 8 + 7) = p_u I 68 (120 + 8 * zw + 5) (I 68 4) 68 (120 + 8 * zw + 7)
                rw [p_u_nk (by omega), p_u_nk (by omega), p_u_nk (by omega)]; exact d2
              · show q_wfsn (fun zj => p_u I 68 (120 + 8 * zw + 5) (I 68 4) 68 (120 + 8 * zw + zj))
                unfold q_wfsn
                dsimp only
                rw [p_u_nk (by omega), p_u_nk (by omega), p_u_nk (by omega), p_u_nk (by omega), p_u_nk (by omega), p_u_self, p_u_nk (by omega)]
                exact ⟨d3.1, d3.2.1, d3.2.2.1, d3.2.2.2.1, d3.2.2.2.2.1, Or.inr r4, d3.2.2.2.2.2.2⟩
            · refine ⟨fun zj hj => ?_, ?_, ?_⟩
              · show p_u I 7 (zs * 8 + 5) (I 68 4) 7 (zw * 8 + zj) = p_u I 68 (120 + 8 * zs + 5) (I 68 4) 68 (120 + 8 * zw + zj)
                rw [p_u_nk (by omega), p_u_nk (by omega)]; exact d1 zj hj
              · show p_u I 68 (120 + 8 * zs + 5) (I 68 4) 68 (120 + 8 * zw + 6) = -1 ∨ p_u I 7 (zs * 8 + 5) (I 68 4) 7 (zw * 8 + 7) = p_u I 68 (120 + 8 * zs + 5) (I 68 4) 68 (120 + 8 * zw + 7)
                rw [p_u_nk (by omega), p_u_nk (by omega), p_u_nk (by omega)]; exact d2
              · exact d3.of (fun zj hj => by show p_u I 68 (120 + 8 * zs + 5) (I 68 4) 68 (120 + 8 * zw + zj) = _; rw [p_u_nk (by omega)])
        obtain ⟨K, a1, a2, a3, a4⟩ := h.fresh hk (J := p_u I 7 (zs * 8 + 5) (I 68 4)) (T := p_u I 68 (120 + 8 * zs + 5) (I 68 4) 68) (fun zq a b => p_u_ne (by omega)) hSx (fun zj a => p_u_nk (by omega)) (zn := n) (by omega)
        obtain ⟨M, m1, m2, m3⟩ := m_forgets (I := p_u K 68 (120 + 8 * zs + 5) (I 68 4)) hG hn
        refine ⟨(nI 1, K), (nI 1, M), ?_, ?_, rfl, ?_⟩
        · unfold f_X11_pull
          simp only [if_pos hx, gp_0_0 hG, gp_1_2 hG, Option.bind_some, n_let, tb_has t1 hs, n_10, if_false, tb_get t1 hs (show 5 < 8 by decide), e5, if_pos hm, f11, eput, a1]
        · unfold f_X12_pull
          simp only [if_pos hx, n_let, m_isOf hG (show 1 < 30 by decide) (show rg (K 68 1) 6 by rw [a2]; exact r1) (by decide), Option.bind_some, a2, hin, bI_ift, ia, gp_67_0 hG, n_ck ib, ic, if_pos hm2, n_ck i4, k4, m1]
        · exact a4 M (fun zq a b => by rw [m2 zq (by omega), p_u_ne a]) (by rw [m2 68 (by decide), p_u_68 a2]) m3
      · have hm2 : ¬ I 68 (120 + 8 * zs + 5) < 0 := fun e => hm ((n_neg_iff (by decide) w5).mpr e)
        refine ⟨(nI 0, I), (nI 0, I), ?_, ?_, rfl, h.up⟩
        · unfold f_X11_pull
          simp only [if_pos hx, gp_0_0 hG, gp_1_2 hG, Option.bind_some, n_let, tb_has t1 hs, n_10, if_false, tb_get t1 hs (show 5 < 8 by decide), e5, if_neg hm]
        · unfold f_X12_pull
          simp only [if_pos hx, n_let, m_isOf hG (show 1 < 30 by decide) r1 (by decide), Option.bind_some, hin, bI_ift, ia, gp_67_0 hG, n_ck ib, ic, if_neg hm2]
  · have r0 := h.n0
    have t1 : TB N P I 4 5 12 7 (nv (I 68 0)) := h.sr.rw.2.1
    have h6 := r0.2
    rcases pk_ix x2 (n := nv (I 68 0)) (by omega) with g | g | ⟨zs, hs, e⟩
    · refine ⟨(nI 0, I), (nI 0, I), ?_, ?_, rfl, h.up⟩
      · unfold f_X11_pull
        simp only [if_neg hx, gp_0_0 hG, gp_1_1 hG, Option.bind_some, n_let, tb_has_n t1 (Or.inl g), n_00, if_true]
      · unfold f_X12_pull
        simp only [if_neg hx, n_let, m_isOf hG (show 0 < 30 by decide) r0 (by decide), Option.bind_some, q_of_in (c := I 68 0) (Or.inl g), bI_iff]
    · have g2 : I 68 0 ≤ x2 := by rw [r0.1]; exact g
      refine ⟨(nI 0, I), (nI 0, I), ?_, ?_, rfl, h.up⟩
      · unfold f_X11_pull
        simp only [if_neg hx, gp_0_0 hG, gp_1_1 hG, Option.bind_some, n_let, tb_has_n t1 (Or.inr g), n_00, if_true]
      · unfold f_X12_pull
        simp only [if_neg hx, n_let, m_isOf hG (show 0 < 30 by decide) r0 (by decide), Option.bind_some, q_of_in (c := I 68 0) (Or.inr g2), bI_iff]
    · subst e
      obtain ⟨c1, c3⟩ := h.sr.rw.2.2 zs hs
      have c1 : ∀ zj, zj < 7 → I 5 (zs * 7 + zj) = I 68 (30 + 7 * zs + zj) := c1
      have c3 : q_wfw (fun zj => I 68 (30 + 7 * zs + zj)) := c3
      have e5 : I 5 (zs * 7 + 6) = I 68 (30 + 7 * zs + 6) := c1 6 (by decide)
      have w5 : I 68 (30 + 7 * zs + 6) = -1 ∨ rg (I 68 (30 + 7 * zs + 6)) 999 := c3.2.2.2.2
      have hin : (!decide (nI zs < 0) && !decide (I 68 0 ≤ nI zs)) = true := q_of_ok (nI_pos (by omega)) (by rw [r0.1]; exact nI_ge hs (by omega))
      have ia : nI 30 + nI 7 * nI zs + nI 6 = nI (30 + 7 * zs + 6) := by rw [pk_mul, nI_add, nI_add]
      have ib : p_ib N 68 (nI (30 + 7 * zs + 6)) = true := ib_68 hG (by omega)
      have ic : (nI (30 + 7 * zs + 6)).toNatClampNeg = 30 + 7 * zs + 6 := nI_clamp (by omega)
      by_cases hm : I 68 (30 + 7 * zs + 6) = -1
      · have hm2 := (n_neg_iff (by decide) w5).mp hm
        have eput := tb_put t1 hs (show 6 < 7 by decide) (v := I 68 4)
        have hSx : SR N P (q_r68 (p_u I 5 (zs * 7 + 6) (I 68 4)) (p_u I 68 (30 + 7 * zs + 6) (I 68 4) 68)) 1 0 := by
          refine h.sr.w_walls ?_ (fun zq a b c d => by rw [q_r68_n (by omega), p_u_ne d]) (fun zj a b c => by rw [q_r68_s, p_u_nk (by omega)])
          have en : p_u I 68 (30 + 7 * zs + 6) (I 68 4) 68 0 = I 68 0 := p_u_nk (by omega)
          refine ⟨?_, ?_, fun zw hw => ?_⟩
          · show rg (p_u I 68 (30 + 7 * zs + 6) (I 68 4) 68 0) 12
            rw [en]; exact r0
          · show TB N P _ 4 5 12 7 (nv (p_u I 68 (30 + 7 * zs + 6) (I 68 4) 68 0))
            rw [en]
            exact t1.of (fun zi => by rw [q_r68_n (by decide), p_u_ne (by decide)])
          · have hw : zw < nv (p_u I 68 (30 + 7 * zs + 6) (I 68 4) 68 0) := hw
            rw [en] at hw
            obtain ⟨d1, d3⟩ := h.sr.rw.2.2 zw hw
            have d1 : ∀ zj, zj < 7 → I 5 (zw * 7 + zj) = I 68 (30 + 7 * zw + zj) := d1
            have d3 : q_wfw (fun zj => I 68 (30 + 7 * zw + zj)) := d3
            by_cases hz : zw = zs
            · subst hz
              refine ⟨fun zj hj => ?_, ?_⟩
              · show p_u I 5 (zw * 7 + 6) (I 68 4) 5 (zw * 7 + zj) = p_u I 68 (30 + 7 * zw + 6) (I 68 4) 68 (30 + 7 * zw + zj)
                by_cases hj5 : zj = 6
                · rw [hj5, p_u_self, p_u_self]
                · rw [p_u_nk (by omega), p_u_nk (by omega)]; exact d1 zj hj
              · show q_wfw (fun zj => p_u I 68 (30 + 7 * zw + 6) (I 68 4) 68 (30 + 7 * zw + zj))
                obtain ⟨g1, g2, g3, g4, g5⟩ := d3
                refine ⟨fun zj hj => ?_, ?_, ?_, ?_, ?_⟩
                · dsimp only; rw [p_u_nk (by omega)]; exact g1 zj hj
                · dsimp only; rw [p_u_nk (by omega), p_u_nk (by omega), p_u_nk (by omega), p_u_nk (by omega)]; exact g2
                · dsimp only; rw [p_u_nk (by omega)]; exact g3
                · dsimp only; rw [p_u_nk (by omega)]; exact g4
                · dsimp only; rw [p_u_self]; exact Or.inr r4
            · refine ⟨fun zj hj => ?_, ?_⟩
              · show p_u I 5 (zs * 7 + 6) (I 68 4) 5 (zw * 7 + zj) = p_u I 68 (30 + 7 * zs + 6) (I 68 4) 68 (30 + 7 * zw + zj)
                rw [p_u_nk (by omega), p_u_nk (by omega)]; exact d1 zj hj
              · exact d3.of (fun zj hj => by show p_u I 68 (30 + 7 * zs + 6) (I 68 4) 68 (30 + 7 * zw + zj) = _; rw [p_u_nk (by omega)])
        obtain ⟨K, a1, a2, a3, a4⟩ := h.fresh hk (J := p_u I 5 (zs * 7 + 6) (I 68 4)) (T := p_u I 68 (30 + 7 * zs + 6) (I 68 4) 68) (fun zq a b => p_u_ne (by omega)) hSx (fun zj a => p_u_nk (by omega)) (zn := n) (by omega)
        obtain ⟨M, m1, m2, m3⟩ := m_forgets (I := p_u K 68 (30 + 7 * zs + 6) (I 68 4)) hG hn
        refine ⟨(nI 1, K), (nI 1, M), ?_, ?_, rfl, ?_⟩
        · unfold f_X11_pull
          simp only [if_neg hx, gp_0_0 hG, gp_1_1 hG, Option.bind_some, n_let, tb_has t1 hs, n_10, if_false, tb_get t1 hs (show 6 < 7 by decide), e5, if_pos hm, f11, eput, a1]
        · unfold f_X12_pull
          simp only [if_neg hx, n_let, m_isOf hG (show 0 < 30 by decide) (show rg (K 68 0) 12 by rw [a2]; exact r0) (by decide), Option.bind_some, a2, hin, bI_ift, ia, gp_67_0 hG, n_ck ib, ic, if_pos hm2, n_ck i4, k4, m1]
        · exact a4 M (fun zq a b => by rw [m2 zq (by omega), p_u_ne a]) (by rw [m2 68 (by decide), p_u_68 a2]) m3
      · have hm2 : ¬ I 68 (30 + 7 * zs + 6) < 0 := fun e => hm ((n_neg_iff (by decide) w5).mpr e)
        refine ⟨(nI 0, I), (nI 0, I), ?_, ?_, rfl, h.up⟩
        · unfold f_X11_pull
          simp only [if_neg hx, gp_0_0 hG, gp_1_1 hG, Option.bind_some, n_let, tb_has t1 hs, n_10, if_false, tb_get t1 hs (show 6 < 7 by decide), e5, if_neg hm]
        · unfold f_X12_pull
          simp only [if_neg hx, n_let, m_isOf hG (show 0 < 30 by decide) r0 (by decide), Option.bind_some, hin, bI_ift, ia, gp_67_0 hG, n_ck ib, ic, if_neg hm2]
theorem n_le_lt {x : Int32} {m : Nat} (hm : m < 100000) : (nI m < x) ↔ (nI (m + 1) ≤ x) := by
  have e1 := nI_toInt (n := m) (by omega)
  have e2 := nI_toInt (n := m + 1) (by omega)
  rw [Int32.lt_iff_toInt_lt, Int32.le_iff_toInt_le, e1, e2]
  omega
theorem sp_stuff {n zk : Nat} (hk : zk < 512) (hn : 3000 < n) : Sp_stuff n (Ivv zk) (Ivv (zk + 1)) := by
  intro N I L P h x1 x2 x3
  have h : IV zk N P I := h
  have hG := h.gw
  have z0 : (nI 0 : Int32) = 0 := rfl
  obtain ⟨t1, c1⟩ := h.sr.ru
  have t1 : TB N P I 12 13 5 2 5 := t1
  have hper : ∀ x : Int32, f_X11_isPercent x = some (bI (!decide (x < 0) && !decide (nI 100 < x))) := fun x => by
    unfold f_X11_isPercent
    by_cases g1 : x < 0
    · rw [if_pos g1, decide_eq_true g1]; rfl
    · rw [if_neg g1, decide_eq_false g1]
      by_cases g2 : nI 100 < x
      · rw [if_pos g2, decide_eq_true g2]; rfl
      · rw [if_neg g2, decide_eq_false g2]; rfl
  rcases pk_ix x1 (n := 5) (by omega) with g | g | ⟨zs, hs, e⟩
  · refine ⟨(nI 0, I), (nI 0, I), ?_, ?_, rfl, h.up⟩
    · unfold f_X11_stuff
      simp only [gp_0_0 hG, gp_1_5 hG, Option.bind_some, tb_has_n t1 (Or.inl g), n_00, if_true]
    · unfold f_X12_stuff
      simp only [m_isIn, z0, Option.bind_some, decide_eq_true g, Bool.not_true, Bool.false_and, bI_iff]
  · have g2 : nI 4 < x1 := (n_le_lt (by decide)).mpr g
    refine ⟨(nI 0, I), (nI 0, I), ?_, ?_, rfl, h.up⟩
    · unfold f_X11_stuff
      simp only [gp_0_0 hG, gp_1_5 hG, Option.bind_some, tb_has_n t1 (Or.inr g), n_00, if_true]
    · unfold f_X12_stuff
      simp only [m_isIn, z0, Option.bind_some, decide_eq_true g2, Bool.not_true, Bool.and_false, bI_iff]
  · subst e
    have g1 : ¬ nI zs < 0 := nI_pos (by omega)
    have g2 : ¬ nI 4 < nI zs := nI_nlt (by omega) (by omega)
    cases hp2 : (!decide (x2 < 0) && !decide (nI 100 < x2)) with
    | false =>
      refine ⟨(nI 0, I), (nI 0, I), ?_, ?_, rfl, h.up⟩
      · unfold f_X11_stuff
        simp only [gp_0_0 hG, gp_1_5 hG, Option.bind_some, tb_has t1 hs, n_10, if_false, hper, hp2, bI_iff]
      · unfold f_X12_stuff
        simp only [m_isIn, z0, Option.bind_some, decide_eq_false g1, decide_eq_false g2, Bool.not_false, Bool.true_and, bI_ift, hp2, bI_iff]
    | true =>
      cases hp3 : (!decide (x3 < 0) && !decide (nI 100 < x3)) with
      | false =>
        refine ⟨(nI 0, I), (nI 0, I), ?_, ?_, rfl, h.up⟩
        · unfold f_X11_stuff
          simp only [gp_0_0 hG, gp_1_5 hG, Option.bind_some, tb_has t1 hs, n_10, if_false, hper, hp2, hp3, bI_iff, bI_ift]
        · unfold f_X12_stuff
          simp only [m_isIn, z0, Option.bind_some, decide_eq_false g1, decide_eq_false g2, Bool.not_false, Bool.true_and, bI_ift, hp2, hp3, bI_iff]
      | true =>
        have hrg : ∀ x : Int32, (!decide (x < 0) && !decide (nI 100 < x)) = true → rg x 100 := fun x hp => by
          rw [Bool.and_eq_true, Bool.not_eq_true', Bool.not_eq_true', decide_eq_false_iff_not, decide_eq_false_iff_not] at hp
          exact rg_of2 (by decide) hp.1 (Int32.not_lt.mp hp.2)
        have ep1 := tb_put t1 hs (show 0 < 2 by decide) (v := x2)
        have tR := t1.cells (k := zs * 2 + 0) (v := x2) (by decide)
        have ep2 := tb_put tR hs (show 1 < 2 by decide) (v := x3)
        have tR2 := tR.cells (k := zs * 2 + 1) (v := x3) (by decide)
        have ib1 : p_ib N 68 (nI (18 + zs)) = true := ib_68 hG (by omega)
        have ic1 : (nI (18 + zs)).toNatClampNeg = 18 + zs := nI_clamp (by omega)
        have ib2 : p_ib N 68 (nI (23 + zs)) = true := ib_68 hG (by omega)
        have ic2 : (nI (23 + zs)).toNatClampNeg = 23 + zs := nI_clamp (by omega)
        have hSx : SR N P (q_r68 (p_u (p_u I 13 (zs * 2 + 0) x2) 13 (zs * 2 + 1) x3) (p_u (p_u I 68 (18 + zs) x2) 68 (23 + zs) x3 68)) 1 0 := by
          refine h.sr.w_stuffs ?_ (fun zq a b c d => by rw [q_r68_n (by omega), p_u_ne d, p_u_ne d]) (fun zj a c => by rw [q_r68_s, p_u_nk (by omega), p_u_nk (by omega)])
          refine ⟨?_, fun zw hw => ?_⟩
          · exact tR2.of (fun zi => by rw [q_r68_n (by decide)])
          · show p_u (p_u I 13 (zs * 2 + 0) x2) 13 (zs * 2 + 1) x3 13 (zw * 2 + 0) = p_u (p_u I 68 (18 + zs) x2) 68 (23 + zs) x3 68 (18 + zw) ∧ p_u (p_u I 13 (zs * 2 + 0) x2) 13 (zs * 2 + 1) x3 13 (zw * 2 + 1) = p_u (p_u I 68 (18 + zs) x2) 68 (23 + zs) x3 68 (23 + zw) ∧ rg (p_u (p_u I 68 (18 + zs) x2) 68 (23 + zs) x3 68 (18 + zw)) 100 ∧ rg (p_u (p_u I 68 (18 + zs) x2) 68 (23 + zs) x3 68 (23 + zw)) 100
            rw [p_u_nk (j := zw * 2 + 0) (k := zs * 2 + 1) (by omega), p_u_nk (j := 18 + zw) (k := 23 + zs) (by omega)]
            by_cases hz : zw = zs
            · subst hz
              rw [p_u_self, p_u_self, p_u_self, p_u_self]
              exact ⟨rfl, rfl, hrg x2 hp2, hrg x3 hp3⟩
            · rw [p_u_nk (j := zw * 2 + 0) (by omega), p_u_nk (j := 18 + zw) (by omega), p_u_nk (j := zw * 2 + 1) (k := zs * 2 + 1) (by omega), p_u_nk (j := zw * 2 + 1) (by omega), p_u_nk (j := 23 + zw) (k := 23 + zs) (by omega), p_u_nk (j := 23 + zw) (by omega)]
              exact c1 zw hw
        obtain ⟨K, a1, a2, a3, a4⟩ := h.fresh hk (J := p_u (p_u I 13 (zs * 2 + 0) x2) 13 (zs * 2 + 1) x3) (T := p_u (p_u I 68 (18 + zs) x2) 68 (23 + zs) x3 68) (fun zq a b => by rw [p_u_ne (by omega), p_u_ne (by omega)]) hSx (fun zj a => by rw [p_u_nk (by omega), p_u_nk (by omega)]) (zn := n) (by omega)
        obtain ⟨M, m1, m2, m3⟩ := m_forgets (I := p_u (p_u K 68 (18 + zs) x2) 68 (23 + zs) x3) hG hn
        refine ⟨(nI 1, K), (nI 1, M), ?_, ?_, rfl, ?_⟩
        · unfold f_X11_stuff
          simp only [gp_0_0 hG, gp_1_5 hG, Option.bind_some, tb_has t1 hs, n_10, if_false, hper, hp2, hp3, bI_ift, ep1, ep2, a1]
        · unfold f_X12_stuff
          simp only [m_isIn, z0, Option.bind_some, decide_eq_false g1, decide_eq_false g2, Bool.not_false, Bool.true_and, bI_ift, hp2, hp3, gp_67_0 hG, nI_add, n_ck ib1, ic1, n_let, n_ck ib2, ic2, m1]
        · exact a4 M (fun zq a b => by rw [m2 zq (by omega), p_u_ne a, p_u_ne a]) (by rw [m2 68 (by decide), p_u_68 (p_u_68 a2)]) m3
