/-! a way, and two of them -/
def q_cell (z : qW) (w : Nat) : Int32 := if w = 0 then z.1 else if w = 1 then z.2.1 else if w = 2 then z.2.2.1 else if w = 3 then z.2.2.2.1 else if w = 4 then z.2.2.2.2.1 else z.2.2.2.2.2
section Way
variable {N : pN} {P : pR} {I J : pI} {L : pL} {zk : Nat}
theorem c_tell (hG : GW N P) {l m : List qW} (hl : l.length ≤ 169) (hLS : q_LS N P J l m) {k : Nat} {z : qW} (hk : m[k]? = some z) {w : Nat} (hw : w < 6) : f_X2_tell N J P 21 (nI k) (nI w) = some (q_cell z w) := by
  obtain ⟨tb, rows, mlen, ord⟩ := hLS
  have lk := q_lt_of hk
  obtain ⟨j, j1, j2⟩ := ord k z hk
  have lj := q_lt_of j2
  have hc : ¬ nI (N.2 31).2 ≤ nI k := by rw [gn_31 hG]; exact nI_ge (by omega) (by decide)
  have ib : p_ib N 31 (nI k) = true := n_ib (gn_31 hG) (show k < 169 by omega) (by decide)
  have ic : (nI k).toNatClampNeg = k := nI_clamp (by omega)
  obtain ⟨a0, a1, a2, a3, a4, a5⟩ := rows j z j2
  unfold f_X2_tell
  simp only [if_neg (nI_pos (show k < 2 ^ 31 by omega)), gp_21_8 hG, gp_21_9 hG, Option.bind_some, if_neg hc, n_ck ib, ic, j1, tb_get tb lj hw]
  unfold q_cell
  have h6 : w = 0 ∨ w = 1 ∨ w = 2 ∨ w = 3 ∨ w = 4 ∨ w = 5 := by omega
  rcases h6 with h6 | h6 | h6 | h6 | h6 | h6 <;> subst h6
  · rw [a0]; rfl
  · rw [a1]; rfl
  · rw [a2]; rfl
  · rw [a3]; rfl
  · rw [a4]; rfl
  · rw [a5]; rfl
theorem c_late (hG : GW N P) {l m : List qW} (hl : l.length ≤ 169) (hLS : q_LS N P J l m) {k : Nat} {z : qW} (hk : m[k]? = some z) (hz : q_lw z) {zn : Nat} (hn : 200 < zn) : f_X2_lateness zn N J P 21 (nI k) = some (nI (q_rt (10000 * q_A z)) + nI (q_rt (10000 * q_B z))) := by
  obtain ⟨b1, b2, b3, b4⟩ := q_lw_b hz
  have t3 : f_X2_tell N J P 21 (nI k) (nI 3) = some (nI (q_A z)) := by rw [c_tell hG hl hLS hk (by decide), ← b3]; rfl
  have t4 : f_X2_tell N J P 21 (nI k) (nI 4) = some (nI (q_B z)) := by rw [c_tell hG hl hLS hk (by decide), ← b4]; rfl
  unfold f_X2_lateness
  simp only [t3, t4, Option.bind_some, pk_mul, c_rootOf (zv := 10000 * q_A z) (zn := zn) (by omega) (by omega), c_rootOf (zv := 10000 * q_B z) (zn := zn) (by omega) (by omega)]
theorem m_late {a zn : Nat} (ha : a ≤ 28800) (hn : 200 < zn) : f_X12_late zn (lN a) = some (nI (q_rt (10000 * a))) := by
  have e : (10000 : Int64) * lN a = lN (10000 * a) := by show lN 10000 * lN a = _; exact lN_mul _ _
  unfold f_X12_late
  rw [e, m_root (by omega) (by omega), Option.bind_some, lN_i]
end Way
/-- what both have when there are ways to tell of -/
theorem q_both {N : pN} {P : pR} {I : pI} (hS : SR N P I 1 0) {x1 x2 x3 : Int32} (hb : (q_st (I 68) x1 && q_pt x2 x3) = true) : ∃ lC lM m : List qW, q_alS (I 68) (nv x1) (nv x2) (nv x3) = lC ∧ q_aS (I 68) (nv x1) (nv x2) (nv x3) = lM ∧ q_isort q_ltC lC = m ∧ q_isort q_ltM lM = m ∧ m.length = lC.length ∧ lM.length = lC.length ∧ lC.length ≤ 169 ∧ ∀ z, z ∈ m → q_lw z := by
  have r1 : rg (I 68 1) 6 := hS.rs.1
  have h6 := r1.2
  rw [Bool.and_eq_true] at hb
  obtain ⟨zx, zy, hx, hy, ex, ey⟩ := q_ptx hb.2
  have hs : nv x1 < nv (I 68 1) := by
    rcases q_st_x r1 (by decide) x1 with ⟨e, _⟩ | ⟨zs, hs, e, _⟩
    · rw [hb.1] at e; cases e
    · rw [e, nv_nI (by omega)]; exact hs
  have hx2 : nv x2 ≤ 20 := by rw [ex, nv_nI (by omega)]; exact hx
  have hy2 : nv x3 ≤ 20 := by rw [ey, nv_nI (by omega)]; exact hy
  obtain ⟨ok1, _⟩ := q_aS_ok hS hs hx2 hy2
  refine ⟨_, _, _, rfl, rfl, rfl, q_aS_srt hS hs hx2 hy2, ?_, (q_aS_perm hS.wfs.1).length_eq, q_allC_len, fun z hz => (ok1 z ?_).1⟩
  · unfold q_isort
    rw [List.length_reverse, y_isr_len]
  · unfold q_isort q_isr at hz
    rw [List.mem_reverse] at hz
    have h9 := (q_isr_perm (lt := q_ltC) (q_alS (I 68) (nv x1) (nv x2) (nv x3)) []).subset hz
    rw [List.append_nil] at h9
    exact h9
theorem q_inlen {zc : Nat} (hc : zc < 100000) {x : Int32} : (!decide (x < nI 0) && !decide (nI zc - nI 1 < x)) = (!decide (x < 0) && !decide (nI zc ≤ x)) := by
  rw [show (nI 0 : Int32) = 0 from rfl, decide_eq_decide.mpr (n_sub1 hc (zx := x))]
theorem sp_way {n zk : Nat} (hn : 200 < n) : Sp_way n (Ivv zk) (Ivv (zk + 1)) := by
  intro N I L P h x1 x2 x3 x4 x5
  have h : IV zk N P I := h
  have hG := h.gw
  obtain ⟨J, K, k1, k2, k3, k4⟩ := c_list (L := L) h hn x1 x2 x3
  obtain ⟨J2, K2, m1, m2, m3⟩ := m_finds (L := K) (mK.rf k2) hn x1 x2 x3
  rw [k3.e68] at m1 m3
  cases hb : (q_st (I 68) x1 && q_pt x2 x3) with
  | false =>
    rw [hb] at k1 m1
    refine ⟨(-2, J, K), (-2, J2, K2), ?_, ?_, rfl, m2.1.up⟩
    · unfold f_X11_way
      simp only [gp_0_3 hG, Option.bind_some, k1, bI_iff]
    · unfold f_X12_way
      simp only [m1, Option.bind_some, bI_iff]
  | true =>
    rw [hb] at k1 m1
    have hLS := k4 hb
    obtain ⟨hMR, hlen2, hord⟩ := m3 hb
    obtain ⟨lC, lM, m, e1, e2, e3, e4, e5, e6, e7, e8⟩ := q_both h.sr hb
    rw [e1, e3] at hLS
    rw [e2] at hMR hlen2 hord
    rw [e4] at hord
    have tb := hLS.1
    have e13 : J2 67 13 = nI lC.length := by rw [hMR.1, e6]
    have hq := q_inlen (zc := lC.length) (by omega) (x := x4)
    rcases pk_ix x4 (n := lC.length) (by omega) with g | g | ⟨k, hk, e⟩
    · refine ⟨(-2, J, K), (-2, J2, K2), ?_, ?_, rfl, m2.1.up⟩
      · unfold f_X11_way
        simp only [gp_0_3 hG, Option.bind_some, k1, bI_ift, if_pos g]
      · unfold f_X12_way
        simp only [m1, Option.bind_some, bI_ift, m_isIn, e13, hq, decide_eq_true g, Bool.not_true, Bool.false_and, bI_iff]
    · have g2 : ¬ x4 < nI lC.length := Int32.not_lt.mpr g
      refine ⟨(-2, J, K), (-2, J2, K2), ?_, ?_, rfl, m2.1.up⟩
      · unfold f_X11_way f_X2_size
        simp only [gp_0_3 hG, gp_0_2 hG, gp_21_8 hG, Option.bind_some, k1, bI_ift, tb_size tb, if_neg g2, ite_self]
      · unfold f_X12_way
        simp only [m1, Option.bind_some, bI_ift, m_isIn, e13, hq, decide_eq_true g, Bool.not_true, Bool.and_false, bI_iff]
    · subst e
      have g0 : ¬ nI k < 0 := nI_pos (by omega)
      have g1 : nI k < nI lC.length := nI_lt hk (by omega)
      have g2 : ¬ nI lC.length ≤ nI k := nI_ge hk (by omega)
      rw [decide_eq_false g0, decide_eq_false g2, Bool.not_false, Bool.and_self] at hq
      obtain ⟨z, hz⟩ : ∃ z, m[k]? = some z := ⟨m[k]'(by omega), List.getElem?_eq_getElem (by omega)⟩
      have hzw := e8 z (List.mem_of_getElem? hz)
      obtain ⟨j, j1, j2⟩ := hord k z hz
      have lj := q_lt_of j2
      obtain ⟨c0, c1, c2, c3, c4, c5⟩ := hMR.2 j z j2
      obtain ⟨b1, b2, b3, b4⟩ := q_lw_b hzw
      have ib : p_ib N 76 (nI k) = true := n_ib (gn_76 hG) (show k < 200 by omega) (by decide)
      have ic : (nI k).toNatClampNeg = k := nI_clamp (by omega)
      have jc : (nI j).toNatClampNeg = j := nI_clamp (by omega)
      have i0 : p_ib N 70 (nI j) = true := n_ib (gn_70 hG) (show j < 200 by omega) (by decide)
      have i1 : p_ib N 71 (nI j) = true := n_ib (gn_71 hG) (show j < 200 by omega) (by decide)
      have i2 : p_ib N 72 (nI j) = true := n_ib (gn_72 hG) (show j < 200 by omega) (by decide)
      have i3 : p_ib N 73 (nI j) = true := n_ib (gn_73 hG) (show j < 200 by omega) (by decide)
      have i4 : p_ib N 74 (nI j) = true := n_ib (gn_74 hG) (show j < 200 by omega) (by decide)
      have i5 : p_ib N 75 (nI j) = true := n_ib (gn_75 hG) (show j < 200 by omega) (by decide)
      have hM : ∀ r, (if x5 = nI 0 then some (z.1, J2, K2) else if x5 = nI 1 then some (z.2.1, J2, K2) else if x5 = nI 2 then some (z.2.2.1, J2, K2) else if x5 = nI 3 then some (z.2.2.2.1, J2, K2) else if x5 = nI 4 then some (z.2.2.2.2.1, J2, K2) else if x5 = nI 5 then some (z.2.2.2.2.2, J2, K2) else if x5 = nI 6 then some (nI (q_rt (10000 * q_A z)) + nI (q_rt (10000 * q_B z)), J2, K2) else some (-2, J2, K2)) = some r → f_X12_way n N J K P 67 x1 x2 x3 (nI k) x5 = some r := fun r hr => by
        have l1 : f_X12_late n (z.2.2.2.1).toInt64 = some (nI (q_rt (10000 * q_A z))) := by rw [b3, nI_l (by omega)]; exact m_late (by omega) hn
        have l2 : f_X12_late n (z.2.2.2.2.1).toInt64 = some (nI (q_rt (10000 * q_B z))) := by rw [b4, nI_l (by omega)]; exact m_late (by omega) hn
        unfold f_X12_way
        simp only [m1, Option.bind_some, bI_ift, m_isIn, e13, hq, gp_67_19 hG, n_ck ib, ic, j1, n_let, gp_67_7 hG, gp_67_8 hG, gp_67_9 hG, gp_67_10 hG, gp_67_11 hG, gp_67_12 hG, n_ck i0, n_ck i1, n_ck i2, n_ck i3, n_ck i4, n_ck i5, jc, c0, c1, c2, c3, c4, c5, l1, l2]
        exact hr
      have hC : ∀ r, (if x5 = nI 6 then some (nI (q_rt (10000 * q_A z)) + nI (q_rt (10000 * q_B z)), J, K) else if x5 < 0 then some (-2, J, K) else if nI 5 < x5 then some (-2, J, K) else Option.bind (f_X2_tell N J P 21 (nI k) x5) fun q14 => some (q14, J, K)) = some r → f_X11_way n N I L P 0 x1 x2 x3 (nI k) x5 = some r := fun r hr => by
        unfold f_X11_way f_X2_size
        simp only [gp_0_3 hG, gp_0_2 hG, gp_21_8 hG, Option.bind_some, k1, bI_ift, if_neg g0, tb_size tb, if_pos g1, c_late hG e7 hLS hz hzw hn]
        exact hr
      rcases pk_ix x5 (n := 7) (by omega) with f | f | ⟨w, hw, ew⟩
      · have d : ∀ i, i < 7 → ¬ x5 = nI i := fun i hi e => by rw [e] at f; exact nI_pos (by omega) f
        refine ⟨(-2, J, K), (-2, J2, K2), hC _ ?_, hM _ ?_, rfl, m2.1.up⟩
        · rw [if_neg (d 6 (by decide)), if_pos f]
        · rw [if_neg (d 0 (by decide)), if_neg (d 1 (by decide)), if_neg (d 2 (by decide)), if_neg (d 3 (by decide)), if_neg (d 4 (by decide)), if_neg (d 5 (by decide)), if_neg (d 6 (by decide))]
      · have d : ∀ i, i < 7 → ¬ x5 = nI i := fun i hi e => by rw [e] at f; exact nI_ge hi (by omega) f
        have d5 : nI 5 < x5 := Int32.lt_of_lt_of_le (b := nI 7) (by decide) f
        refine ⟨(-2, J, K), (-2, J2, K2), hC _ ?_, hM _ ?_, rfl, m2.1.up⟩
        · rw [if_neg (d 6 (by decide)), if_pos d5, ite_self]
        · rw [if_neg (d 0 (by decide)), if_neg (d 1 (by decide)), if_neg (d 2 (by decide)), if_neg (d 3 (by decide)), if_neg (d 4 (by decide)), if_neg (d 5 (by decide)), if_neg (d 6 (by decide))]
      · by_cases hw6 : w = 6
        · subst hw6
          subst ew
          refine ⟨_, _, hC _ (if_pos rfl), hM (nI (q_rt (10000 * q_A z)) + nI (q_rt (10000 * q_B z)), J2, K2) ?_, rfl, m2.1.up⟩
          rw [if_neg (by decide), if_neg (by decide), if_neg (by decide), if_neg (by decide), if_neg (by decide), if_neg (by decide), if_pos rfl]
        · have d6 : ¬ x5 = nI 6 := fun e => by
            rw [ew] at e
            have := (nI_eq (by omega) (by decide)).mp e
            omega
          have d0 : ¬ x5 < 0 := by rw [ew]; exact nI_pos (by omega)
          have d5 : ¬ nI 5 < x5 := by rw [ew]; exact nI_nlt (by omega) (by omega)
          refine ⟨(q_cell z w, J, K), (q_cell z w, J2, K2), hC _ ?_, hM _ ?_, rfl, m2.1.up⟩
          · rw [if_neg d6, if_neg d0, if_neg d5, ew, c_tell hG e7 hLS hz (by omega), Option.bind_some]
          · unfold q_cell
            have h6 : w = 0 ∨ w = 1 ∨ w = 2 ∨ w = 3 ∨ w = 4 ∨ w = 5 := by omega
            rcases h6 with h6 | h6 | h6 | h6 | h6 | h6 <;> subst h6 <;> subst ew
            · rw [if_pos rfl]; rfl
            · rw [if_neg (by decide), if_pos rfl]; rfl
            · rw [if_neg (by decide), if_neg (by decide), if_pos rfl]; rfl
            · rw [if_neg (by decide), if_neg (by decide), if_neg (by decide), if_pos rfl]; rfl
            · rw [if_neg (by decide), if_neg (by decide), if_neg (by decide), if_neg (by decide), if_pos rfl]; rfl
            · rw [if_neg (by decide), if_neg (by decide), if_neg (by decide), if_neg (by decide), if_neg (by decide), if_pos rfl]; rfl
theorem sp_compare {n zk : Nat} (hn : 200 < n) : Sp_compare n (Ivv zk) (Ivv (zk + 1)) := by
  intro N I L P h x1 x2 x3 x4 x5 x6
  have h : IV zk N P I := h
  have hG := h.gw
  have hsz : ∀ (X : pI) (l : List qW), TB N P X 29 30 169 6 l.length → f_X2_size X P 21 = some (nI l.length) := fun X l t => by
    unfold f_X2_size
    simp only [gp_21_8 hG, Option.bind_some, tb_size t]
  obtain ⟨J, K, k1, k2, k3, k4⟩ := c_list (L := L) h hn x1 x5 x6
  cases hb : (q_st (I 68) x1 && q_pt x5 x6) with
  | false =>
    obtain ⟨J2, K2, m1, m2, m3⟩ := m_finds (L := K) (mK.rf k2) hn x1 x5 x6
    rw [k3.e68] at m1
    rw [hb] at k1 m1
    refine ⟨(-2, J, K), (-2, J2, K2), ?_, ?_, rfl, m2.1.up⟩
    · unfold f_X11_compare
      simp only [gp_0_3 hG, Option.bind_some, k1, bI_iff]
    · unfold f_X12_compare
      simp only [m1, Option.bind_some, bI_iff]
  | true =>
    rw [hb] at k1
    have hLS := k4 hb
    obtain ⟨lC, lM, m, e1, e2, e3, e4, e5, e6, e7, e8⟩ := q_both h.sr hb
    rw [e1, e3] at hLS
    have tb := hLS.1
    have hq := q_inlen (zc := lC.length) (by omega) (x := x2)
    -- no such first way
    have hno : (x2 < 0 ∨ nI lC.length ≤ x2) → ∃ (q1 q2 : Int32 × pI × pL), f_X11_compare n N I L P 0 x1 x2 x3 x4 x5 x6 = some q1 ∧ f_X12_compare n N q1.2.1 q1.2.2 P 67 x1 x2 x3 x4 x5 x6 = some q2 ∧ q1.1 = q2.1 ∧ Ivv (zk + 1) N q2.2.1 q2.2.2 P := fun g => by
      obtain ⟨J2, K2, m1, m2, m3⟩ := m_finds (L := K) (mK.rf k2) hn x1 x5 x6
      rw [k3.e68] at m1 m3
      rw [hb] at m1
      have hMR := (m3 hb).1
      rw [e2] at hMR
      have e13 : J2 67 13 = nI lC.length := by rw [hMR.1, e6]
      refine ⟨(-2, J, K), (-2, J2, K2), ?_, ?_, rfl, m2.1.up⟩
      · unfold f_X11_compare
        rcases g with g | g
        · simp only [gp_0_3 hG, Option.bind_some, k1, bI_ift, if_pos g]
        · have g2 : ¬ x2 < nI lC.length := Int32.not_lt.mpr g
          simp only [gp_0_3 hG, gp_0_2 hG, Option.bind_some, k1, bI_ift, hsz J lC tb, if_neg g2, ite_self]
      · unfold f_X12_compare
        simp only [m1, Option.bind_some, bI_ift, m_isIn, e13, hq, q_of_in (c := nI lC.length) g, bI_iff]
    rcases pk_ix x2 (n := lC.length) (by omega) with g | g | ⟨k, hk, e⟩
    · exact hno (Or.inl g)
    · exact hno (Or.inr g)
    · subst e
      have g0 : ¬ nI k < 0 := nI_pos (by omega)
      have g1 : nI k < nI lC.length := nI_lt hk (by omega)
      have g2 : ¬ nI lC.length ≤ nI k := nI_ge hk (by omega)
      rw [decide_eq_false g0, decide_eq_false g2, Bool.not_false, Bool.and_self] at hq
      obtain ⟨z, hz⟩ : ∃ z, m[k]? = some z := ⟨m[k]'(by omega), List.getElem?_eq_getElem (by omega)⟩
      have t3 : f_X2_tell N J P 21 (nI k) (nI 3) = some z.2.2.2.1 := c_tell hG e7 hLS hz (by decide)
      have t4 : f_X2_tell N J P 21 (nI k) (nI 4) = some z.2.2.2.2.1 := c_tell hG e7 hLS hz (by decide)
      obtain ⟨J3, K3, p1, p2, p3, p4⟩ := c_list (L := K) k2 hn x3 x5 x6
      have e68 : J3 68 = I 68 := by rw [p3.e68, k3.e68]
      rw [k3.e68] at p1 p4
      obtain ⟨J4, K4, m1, m2, m3⟩ := m_finds (L := K3) (mK.rf p2) hn x1 x5 x6
      rw [e68] at m1 m3
      rw [hb] at m1
      obtain ⟨hMR, hlen2, hord⟩ := m3 hb
      rw [e2] at hMR hlen2 hord
      rw [e4] at hord
      have e13 : J4 67 13 = nI lC.length := by rw [hMR.1, e6]
      obtain ⟨j, j1, j2⟩ := hord k z hz
      have lj := q_lt_of j2
      obtain ⟨_, _, _, c3, c4, _⟩ := hMR.2 j z j2
      have ib : p_ib N 76 (nI k) = true := n_ib (gn_76 hG) (show k < 200 by omega) (by decide)
      have ic : (nI k).toNatClampNeg = k := nI_clamp (by omega)
      have jc : (nI j).toNatClampNeg = j := nI_clamp (by omega)
      have i3 : p_ib N 73 (nI j) = true := n_ib (gn_73 hG) (show j < 200 by omega) (by decide)
      have i4 : p_ib N 74 (nI j) = true := n_ib (gn_74 hG) (show j < 200 by omega) (by decide)
      obtain ⟨J5, K5, n1, n2, n3⟩ := m_finds (L := K4) m2 hn x3 x5 x6
      rw [e68] at n1 n3
      have n2 : IV zk N P J5 := n2.1
      cases hb2 : (q_st (I 68) x3 && q_pt x5 x6) with
      | false =>
        rw [hb2] at p1 n1
        refine ⟨(-2, J3, K3), (-2, J5, K5), ?_, ?_, rfl, n2.up⟩
        · unfold f_X11_compare
          simp only [gp_0_3 hG, gp_0_2 hG, Option.bind_some, k1, bI_ift, if_neg g0, hsz J lC tb, if_pos g1, t3, t4, p1, bI_iff]
        · unfold f_X12_compare
          simp only [m1, Option.bind_some, bI_ift, m_isIn, e13, hq, gp_67_10 hG, gp_67_11 hG, gp_67_19 hG, n_ck ib, ic, j1, n_ck i3, n_ck i4, jc, c3, c4, n_let, n1, bI_iff]
      | true =>
        rw [hb2] at p1 n1
        have hLS2 := p4 hb2
        obtain ⟨hMR2, hlen3, hord2⟩ := n3 hb2
        obtain ⟨lC2, lM2, m', f1, f2, f3, f4, f5, f6, f7, f8⟩ := q_both h.sr hb2
        rw [f1, f3] at hLS2
        rw [f2] at hMR2 hlen3 hord2
        rw [f4] at hord2
        have tb2 := hLS2.1
        have f13 : J5 67 13 = nI lC2.length := by rw [hMR2.1, f6]
        have hq2 := q_inlen (zc := lC2.length) (by omega) (x := x4)
        rcases pk_ix x4 (n := lC2.length) (by omega) with g | g | ⟨k', hk', e'⟩
        · refine ⟨(-2, J3, K3), (-2, J5, K5), ?_, ?_, rfl, n2.up⟩
          · unfold f_X11_compare
            simp only [gp_0_3 hG, gp_0_2 hG, Option.bind_some, k1, bI_ift, if_neg g0, hsz J lC tb, if_pos g1, t3, t4, p1, if_pos g]
          · unfold f_X12_compare
            simp only [m1, Option.bind_some, bI_ift, m_isIn, e13, hq, gp_67_10 hG, gp_67_11 hG, gp_67_19 hG, n_ck ib, ic, j1, n_ck i3, n_ck i4, jc, c3, c4, n_let, n1, f13, hq2, decide_eq_true g, Bool.not_true, Bool.false_and, bI_iff]
        · have g3 : ¬ x4 < nI lC2.length := Int32.not_lt.mpr g
          refine ⟨(-2, J3, K3), (-2, J5, K5), ?_, ?_, rfl, n2.up⟩
          · unfold f_X11_compare
            simp only [gp_0_3 hG, gp_0_2 hG, Option.bind_some, k1, bI_ift, if_neg g0, hsz J lC tb, if_pos g1, t3, t4, p1, hsz J3 lC2 tb2, if_neg g3, ite_self]
          · unfold f_X12_compare
            simp only [m1, Option.bind_some, bI_ift, m_isIn, e13, hq, gp_67_10 hG, gp_67_11 hG, gp_67_19 hG, n_ck ib, ic, j1, n_ck i3, n_ck i4, jc, c3, c4, n_let, n1, f13, hq2, decide_eq_true g, Bool.not_true, Bool.and_false, bI_iff]
        · subst e'
          have u0 : ¬ nI k' < 0 := nI_pos (by omega)
          have u1 : nI k' < nI lC2.length := nI_lt hk' (by omega)
          have u2 : ¬ nI lC2.length ≤ nI k' := nI_ge hk' (by omega)
          rw [decide_eq_false u0, decide_eq_false u2, Bool.not_false, Bool.and_self] at hq2
          obtain ⟨z', hz'⟩ : ∃ z', m'[k']? = some z' := ⟨m'[k']'(by omega), List.getElem?_eq_getElem (by omega)⟩
          have s3 : f_X2_tell N J3 P 21 (nI k') (nI 3) = some z'.2.2.2.1 := c_tell hG f7 hLS2 hz' (by decide)
          have s4 : f_X2_tell N J3 P 21 (nI k') (nI 4) = some z'.2.2.2.2.1 := c_tell hG f7 hLS2 hz' (by decide)
          obtain ⟨j', v1, v2⟩ := hord2 k' z' hz'
          have lj' := q_lt_of v2
          obtain ⟨_, _, _, d3, d4, _⟩ := hMR2.2 j' z' v2
          have ib' : p_ib N 76 (nI k') = true := n_ib (gn_76 hG) (show k' < 200 by omega) (by decide)
          have ic' : (nI k').toNatClampNeg = k' := nI_clamp (by omega)
          have jc' : (nI j').toNatClampNeg = j' := nI_clamp (by omega)
          have i3' : p_ib N 73 (nI j') = true := n_ib (gn_73 hG) (show j' < 200 by omega) (by decide)
          have i4' : p_ib N 74 (nI j') = true := n_ib (gn_74 hG) (show j' < 200 by omega) (by decide)
          refine ⟨(q_cmpW z z', J3, K3), (q_cmpW z z', J5, K5), ?_, ?_, rfl, n2.up⟩
          · unfold f_X11_compare
            simp only [gp_0_3 hG, gp_0_2 hG, Option.bind_some, k1, bI_ift, if_neg g0, hsz J lC tb, if_pos g1, t3, t4, p1, if_neg u0, hsz J3 lC2 tb2, if_pos u1, s3, s4, c_lengths]
            rfl
          · unfold f_X12_compare
            simp only [m1, Option.bind_some, bI_ift, m_isIn, e13, hq, gp_67_10 hG, gp_67_11 hG, gp_67_19 hG, n_ck ib, ic, j1, n_ck i3, n_ck i4, jc, c3, c4, n_let, n1, f13, hq2, n_ck ib', ic', v1, n_ck i3', n_ck i4', jc', d3, d4, m_lengths]
            rfl
