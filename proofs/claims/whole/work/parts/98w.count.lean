/-! count -/
def q_nw (A : Nat → Int32) (k : Nat) : Nat := q_fold (fun j s => s + (if q_seeW A j = true then 1 else 0)) k 0
section Count
variable {N : pN} {P : pR} {I J : pI} {L : pL} {zk : Nat}
theorem c_standingWalls (hG : GW N P) (hS : SR N P I 1 0) {zn : Nat} (hn : 200 < zn) : f_X7_standingWalls zn N I P 1 = some (nI (q_nw (I 68) (nv (I 68 0)))) := by
  have r0 : rg (I 68 0) 12 := hS.rw.1
  have t0 : TB N P I 4 5 12 7 (nv (I 68 0)) := hS.rw.2.1
  have h12 := r0.2
  have hloop := p_loopI (B := B_X7_standingWalls_4 N I P 1) (zJ := fun zj (zc : Int32 × Int32) => zc = (nI (q_nw (I 68) zj), nI zj)) (zE := fun zt => zt = nI (q_nw (I 68) (nv (I 68 0)))) (zm := nv (I 68 0)) (zn := zn) (by omega) ?_ ?_ (nI 0, nI 0) rfl
  · obtain ⟨zt, k1, k2⟩ := hloop
    unfold f_X7_standingWalls
    rw [k1, Option.bind_some, k2]
  · rintro zj hj _ rfl
    left
    have hc : ¬ nI (nv (I 68 0)) ≤ nI zj := nI_ge hj (by omega)
    refine ⟨_, rfl, fun zrec => ?_⟩
    show _ = zrec (nI (q_nw (I 68) zj + (if q_seeW (I 68) zj = true then 1 else 0)), nI (zj + 1))
    unfold B_X7_standingWalls_4
    simp only [gp_1_1 hG, Option.bind_some, tb_size t0, if_neg hc, c_wst hG hS (show zj < 100 by omega), n_let, nI_add]
    cases q_seeW (I 68) zj with
    | false => simp only [bI_iff, Bool.false_eq_true, if_false, nI_add]
    | true => simp only [bI_ift, if_true, nI_add]
  · rintro _ rfl
    refine ⟨_, rfl, fun zrec => ?_⟩
    unfold B_X7_standingWalls_4
    simp only [gp_1_1 hG, Option.bind_some, tb_size t0, if_pos (Int32.le_refl (nI (nv (I 68 0))))]
theorem c_standingSenders (hG : GW N P) (hS : SR N P I 1 0) {zn : Nat} (hn : 200 < zn) : f_X7_standingSenders zn N I P 1 = some (nI (q_ns (I 68) (nv (I 68 1)))) := by
  have r0 : rg (I 68 1) 6 := hS.rs.1
  have t0 := hS.tbs
  have h12 := r0.2
  have hloop := p_loopI (B := B_X7_standingSenders_4 N I P 1) (zJ := fun zj (zc : Int32 × Int32) => zc = (nI (q_ns (I 68) zj), nI zj)) (zE := fun zt => zt = nI (q_ns (I 68) (nv (I 68 1)))) (zm := nv (I 68 1)) (zn := zn) (by omega) ?_ ?_ (nI 0, nI 0) rfl
  · obtain ⟨zt, k1, k2⟩ := hloop
    unfold f_X7_standingSenders
    rw [k1, Option.bind_some, k2]
  · rintro zj hj _ rfl
    left
    have hc : ¬ nI (nv (I 68 1)) ≤ nI zj := nI_ge hj (by omega)
    refine ⟨_, rfl, fun zrec => ?_⟩
    show _ = zrec (nI (q_ns (I 68) zj + (if q_st (I 68) (nI zj) = true then 1 else 0)), nI (zj + 1))
    unfold B_X7_standingSenders_4
    simp only [gp_1_2 hG, Option.bind_some, tb_size t0, if_neg hc, c_st hG hS, n_let, nI_add]
    cases q_st (I 68) (nI zj) with
    | false => simp only [bI_iff, Bool.false_eq_true, if_false, nI_add]
    | true => simp only [bI_ift, if_true, nI_add]
  · rintro _ rfl
    refine ⟨_, rfl, fun zrec => ?_⟩
    unfold B_X7_standingSenders_4
    simp only [gp_1_2 hG, Option.bind_some, tb_size t0, if_pos (Int32.le_refl (nI (nv (I 68 1))))]
theorem m_countW (hG : GW N P) (hS : SR N P I 1 0) {zn : Nat} (hn : 200 < zn) : p_it (B_X12_count_7 N I P 67) zn (nI 0, nI 0) = some (nI (q_nw (I 68) (nv (I 68 0)))) := by
  have r0 : rg (I 68 0) 12 := hS.rw.1
  have h12 := r0.2
  have i0 : p_ib N 68 (nI 0) = true := ib_68 hG (by decide)
  have k0 : (nI 0).toNatClampNeg = 0 := by decide
  have hloop := p_loopI (B := B_X12_count_7 N I P 67) (zJ := fun zj (zc : Int32 × Int32) => zc = (nI (q_nw (I 68) zj), nI zj)) (zE := fun zt => zt = nI (q_nw (I 68) (nv (I 68 0)))) (zm := nv (I 68 0)) (zn := zn) (by omega) ?_ ?_ (nI 0, nI 0) rfl
  · obtain ⟨zt, k1, k2⟩ := hloop
    rw [k1, k2]
  · rintro zj hj _ rfl
    left
    have hc : ¬ I 68 0 ≤ nI zj := by rw [r0.1]; exact nI_ge hj (by omega)
    have hq : q_there (I 68) (q_w (I 68) zj 5) (q_w (I 68) zj 6) = q_seeW (I 68) zj := by
      unfold q_seeW
      rw [decide_eq_true hj, Bool.true_and]
    refine ⟨_, rfl, fun zrec => ?_⟩
    show _ = zrec (nI (q_nw (I 68) zj + (if q_seeW (I 68) zj = true then 1 else 0)), nI (zj + 1))
    unfold B_X12_count_7
    simp only [gp_67_0 hG, Option.bind_some, n_ck i0, k0, if_neg hc, m_seesWall hG (show zj < 12 by omega), hq, n_let, nI_add]
    cases q_seeW (I 68) zj with
    | false => simp only [bI_iff, Bool.false_eq_true, if_false, nI_add]
    | true => simp only [bI_ift, if_true, nI_add]
  · rintro _ rfl
    have hc : I 68 0 ≤ nI (nv (I 68 0)) := by rw [← r0.1]; exact Int32.le_refl _
    refine ⟨_, rfl, fun zrec => ?_⟩
    unfold B_X12_count_7
    simp only [gp_67_0 hG, Option.bind_some, n_ck i0, k0, if_pos hc]
theorem m_countS (hG : GW N P) (hS : SR N P I 1 0) {zn : Nat} (hn : 200 < zn) : p_it (B_X12_count_44 N I P 67) zn (nI 0, nI 0) = some (nI (q_ns (I 68) (nv (I 68 1)))) := by
  have r0 : rg (I 68 1) 6 := hS.rs.1
  have h12 := r0.2
  have i0 : p_ib N 68 (nI 1) = true := ib_68 hG (by decide)
  have k0 : (nI 1).toNatClampNeg = 1 := by decide
  have hloop := p_loopI (B := B_X12_count_44 N I P 67) (zJ := fun zj (zc : Int32 × Int32) => zc = (nI (q_ns (I 68) zj), nI zj)) (zE := fun zt => zt = nI (q_ns (I 68) (nv (I 68 1)))) (zm := nv (I 68 1)) (zn := zn) (by omega) ?_ ?_ (nI 0, nI 0) rfl
  · obtain ⟨zt, k1, k2⟩ := hloop
    rw [k1, k2]
  · rintro zj hj _ rfl
    left
    have hc : ¬ I 68 1 ≤ nI zj := by rw [r0.1]; exact nI_ge hj (by omega)
    refine ⟨_, rfl, fun zrec => ?_⟩
    show _ = zrec (nI (q_ns (I 68) zj + (if q_st (I 68) (nI zj) = true then 1 else 0)), nI (zj + 1))
    unfold B_X12_count_44
    simp only [gp_67_0 hG, Option.bind_some, n_ck i0, k0, if_neg hc, m_st hG hS, n_let, nI_add]
    cases q_st (I 68) (nI zj) with
    | false => simp only [bI_iff, Bool.false_eq_true, if_false, nI_add]
    | true => simp only [bI_ift, if_true, nI_add]
  · rintro _ rfl
    have hc : I 68 1 ≤ nI (nv (I 68 1)) := by rw [← r0.1]; exact Int32.le_refl _
    refine ⟨_, rfl, fun zrec => ?_⟩
    unfold B_X12_count_44
    simp only [gp_67_0 hG, Option.bind_some, n_ck i0, k0, if_pos hc]
end Count
theorem sp_count {n zk : Nat} (hn : 400000 < n) : Sp_count n (Ivv zk) (Ivv (zk + 1)) := by
  intro N I L P h x1
  have h : IV zk N P I := h
  have hG := h.gw
  have hS := h.sr
  have w1 := m_countW hG hS (zn := n) (by omega)
  have w2 := m_countS hG hS (zn := n) (by omega)
  have t0 : TB N P I 4 5 12 7 (nv (I 68 0)) := hS.rw.2.1
  have t1 := hS.tbs
  have t2 : TB N P I 8 9 8 4 (nv (I 68 2)) := hS.ri.2.1
  have t3 : TB N P I 10 11 8 2 (nv (I 68 3)) := hS.rn.2.1
  have t6 : TB N P I 16 17 16 18 (nv (I 68 6)) := hS.rl.2.1
  have e0 : nI (nv (I 68 0)) = I 68 0 := h.n0.1.symm
  have e1 : nI (nv (I 68 1)) = I 68 1 := h.n1.1.symm
  have e2 : nI (nv (I 68 2)) = I 68 2 := h.n2.1.symm
  have e3 : nI (nv (I 68 3)) = I 68 3 := h.n3.1.symm
  have e6 : nI (nv (I 68 6)) = I 68 6 := (show rg (I 68 6) 16 from hS.rl.1).1.symm
  have f11 : I 1 11 = I 68 4 := hS.rf.2.2.1
  have f12 : I 1 12 = I 68 5 := hS.rf.2.2.2.1
  have i0 : p_ib N 68 (nI 0) = true := ib_68 hG (by decide)
  have i1 : p_ib N 68 (nI 1) = true := ib_68 hG (by decide)
  have i2 : p_ib N 68 (nI 2) = true := ib_68 hG (by decide)
  have i3 : p_ib N 68 (nI 3) = true := ib_68 hG (by decide)
  have i4 : p_ib N 68 (nI 4) = true := ib_68 hG (by decide)
  have i5 : p_ib N 68 (nI 5) = true := ib_68 hG (by decide)
  have i6 : p_ib N 68 (nI 6) = true := ib_68 hG (by decide)
  have k0 : (nI 0).toNatClampNeg = 0 := by decide
  have k1 : (nI 1).toNatClampNeg = 1 := by decide
  have k2 : (nI 2).toNatClampNeg = 2 := by decide
  have k3 : (nI 3).toNatClampNeg = 3 := by decide
  have k4 : (nI 4).toNatClampNeg = 4 := by decide
  have k5 : (nI 5).toNatClampNeg = 5 := by decide
  have k6 : (nI 6).toNatClampNeg = 6 := by decide
  by_cases c9 : x1 = nI 9
  · obtain ⟨J, K, a1, a2, a3, r, a4, a5⟩ := c_paintSenders (L := L) h (zn := n) (by omega)
    obtain ⟨J2, K2, m1, m2, m3, m4, m5⟩ := m_colouring (L := K) (mK.rf a2.1) hn
    rw [a2.2.e68] at m1
    have v1 := m_countW hG a2.sr (zn := n) (by omega)
    have v2 := m_countS hG a2.sr (zn := n) (by omega)
    refine ⟨(nI (q_num (I 68)), J, K), (nI (q_num (I 68)), J2, K2), ?_, ?_, rfl, m2.1.up⟩
    · subst c9
      unfold f_X11_count
      simp only [show ¬ nI 9 = nI 0 from by decide, show ¬ nI 9 = nI 1 from by decide, show ¬ nI 9 = nI 2 from by decide, show ¬ nI 9 = nI 3 from by decide, show ¬ nI 9 = nI 4 from by decide, show ¬ nI 9 = nI 5 from by decide, show ¬ nI 9 = nI 6 from by decide, show ¬ nI 9 = nI 7 from by decide, show ¬ nI 9 = nI 8 from by decide, if_false, if_true, gp_0_4 hG, Option.bind_some, a1, a3]
    · subst c9
      unfold f_X12_count
      simp only [v1, v2, show ¬ nI 9 = nI 0 from by decide, show ¬ nI 9 = nI 1 from by decide, show ¬ nI 9 = nI 2 from by decide, show ¬ nI 9 = nI 3 from by decide, show ¬ nI 9 = nI 4 from by decide, show ¬ nI 9 = nI 5 from by decide, show ¬ nI 9 = nI 6 from by decide, show ¬ nI 9 = nI 7 from by decide, show ¬ nI 9 = nI 8 from by decide, if_false, if_true, Option.bind_some, m1]
  · have hr : ∃ v, f_X11_count n N I L P 0 x1 = some (v, I, L) ∧ f_X12_count n N I L P 67 x1 = some (v, I, L) := by
      by_cases c0 : x1 = nI 0
      · refine ⟨nI (q_nw (I 68) (nv (I 68 0))), ?_, ?_⟩
        · unfold f_X11_count
          simp only [if_pos c0, gp_0_0 hG, Option.bind_some, c_standingWalls hG hS (zn := n) (by omega)]
        · unfold f_X12_count
          simp only [w1, w2, Option.bind_some, if_pos c0]
      by_cases c1 : x1 = nI 1
      · refine ⟨nI (q_ns (I 68) (nv (I 68 1))), ?_, ?_⟩
        · unfold f_X11_count
          simp only [if_neg c0, if_pos c1, gp_0_0 hG, Option.bind_some, c_standingSenders hG hS (zn := n) (by omega)]
        · unfold f_X12_count
          simp only [w1, w2, Option.bind_some, if_neg c0, if_pos c1]
      by_cases c2 : x1 = nI 2
      · refine ⟨I 68 0, ?_, ?_⟩
        · unfold f_X11_count
          simp only [if_neg c0, if_neg c1, if_pos c2, gp_0_0 hG, gp_1_1 hG, Option.bind_some, tb_size t0, e0]
        · unfold f_X12_count
          simp only [w1, w2, Option.bind_some, if_neg c0, if_neg c1, if_pos c2, gp_67_0 hG, n_ck i0, k0]
      by_cases c3 : x1 = nI 3
      · refine ⟨I 68 1, ?_, ?_⟩
        · unfold f_X11_count
          simp only [if_neg c0, if_neg c1, if_neg c2, if_pos c3, gp_0_0 hG, gp_1_2 hG, Option.bind_some, tb_size t1, e1]
        · unfold f_X12_count
          simp only [w1, w2, Option.bind_some, if_neg c0, if_neg c1, if_neg c2, if_pos c3, gp_67_0 hG, n_ck i1, k1]
      by_cases c4 : x1 = nI 4
      · refine ⟨I 68 2, ?_, ?_⟩
        · unfold f_X11_count
          simp only [if_neg c0, if_neg c1, if_neg c2, if_neg c3, if_pos c4, gp_0_0 hG, gp_1_3 hG, Option.bind_some, tb_size t2, e2]
        · unfold f_X12_count
          simp only [w1, w2, Option.bind_some, if_neg c0, if_neg c1, if_neg c2, if_neg c3, if_pos c4, gp_67_0 hG, n_ck i2, k2]
      by_cases c5 : x1 = nI 5
      · refine ⟨I 68 3, ?_, ?_⟩
        · unfold f_X11_count
          simp only [if_neg c0, if_neg c1, if_neg c2, if_neg c3, if_neg c4, if_pos c5, gp_0_0 hG, gp_1_4 hG, Option.bind_some, tb_size t3, e3]
        · unfold f_X12_count
          simp only [w1, w2, Option.bind_some, if_neg c0, if_neg c1, if_neg c2, if_neg c3, if_neg c4, if_pos c5, gp_67_0 hG, n_ck i3, k3]
      by_cases c6 : x1 = nI 6
      · refine ⟨I 68 4, ?_, ?_⟩
        · unfold f_X11_count
          simp only [if_neg c0, if_neg c1, if_neg c2, if_neg c3, if_neg c4, if_neg c5, if_pos c6, gp_0_0 hG, Option.bind_some, f11]
        · unfold f_X12_count
          simp only [w1, w2, Option.bind_some, if_neg c0, if_neg c1, if_neg c2, if_neg c3, if_neg c4, if_neg c5, if_pos c6, gp_67_0 hG, n_ck i4, k4]
      by_cases c7 : x1 = nI 7
      · refine ⟨I 68 5, ?_, ?_⟩
        · unfold f_X11_count
          simp only [if_neg c0, if_neg c1, if_neg c2, if_neg c3, if_neg c4, if_neg c5, if_neg c6, if_pos c7, gp_0_0 hG, Option.bind_some, f12]
        · unfold f_X12_count
          simp only [w1, w2, Option.bind_some, if_neg c0, if_neg c1, if_neg c2, if_neg c3, if_neg c4, if_neg c5, if_neg c6, if_pos c7, gp_67_0 hG, n_ck i5, k5]
      by_cases c8 : x1 = nI 8
      · refine ⟨I 68 6, ?_, ?_⟩
        · unfold f_X11_count
          simp only [if_neg c0, if_neg c1, if_neg c2, if_neg c3, if_neg c4, if_neg c5, if_neg c6, if_neg c7, if_pos c8, gp_0_0 hG, gp_1_7 hG, Option.bind_some, tb_size t6, e6]
        · unfold f_X12_count
          simp only [w1, w2, Option.bind_some, if_neg c0, if_neg c1, if_neg c2, if_neg c3, if_neg c4, if_neg c5, if_neg c6, if_neg c7, if_pos c8, gp_67_0 hG, n_ck i6, k6]
      refine ⟨-2, ?_, ?_⟩
      · unfold f_X11_count
        simp only [if_neg c0, if_neg c1, if_neg c2, if_neg c3, if_neg c4, if_neg c5, if_neg c6, if_neg c7, if_neg c8, if_neg c9]
      · unfold f_X12_count
        simp only [w1, w2, Option.bind_some, if_neg c0, if_neg c1, if_neg c2, if_neg c3, if_neg c4, if_neg c5, if_neg c6, if_neg c7, if_neg c8, if_neg c9]
    obtain ⟨v, v1, v2⟩ := hr
    exact ⟨(v, I, L), (v, I, L), v1, v2, rfl, h.up⟩
