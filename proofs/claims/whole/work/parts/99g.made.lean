/-! a State is made: image -/
section Made
variable {N N' : pN} {P P' : pR} {I J : pI} {L : pL} {zk : Nat}
theorem c_tinit {m w a : Nat} (hm : 0 < m) (hw : 0 < w) (hmw : m * w ≤ 1100) (hm2 : m ≤ 1100) (hw2 : w ≤ 1100) (hN : N.1 < 1000000) : f_X8_init N I L P a (nI m) (nI w) = some (p_nx N (0, m * w), p_z (p_u (p_u I a 0 (nI m)) a 1 (nI w)) N.1 0, p_z L N.1 0, p_u (p_z P N.1 none) a 2 (some N.1)) := by
  have e1 : (if nI 0 < nI m then nI m else nI 0) = nI m := if_pos (nI_lt hm (by omega))
  have e2 : (if nI 0 < nI w then nI w else nI 0) = nI w := if_pos (nI_lt hw (by omega))
  have e3 : p_u (p_u I a 0 (nI m)) a 1 (nI w) a 0 = nI m := by rw [p_u_nk (by decide), p_u_self]
  have e4 : p_u (p_u I a 0 (nI m)) a 1 (nI w) a 1 = nI w := p_u_self
  have e5 : (nI (m * w)).toNatClampNeg = m * w := nI_clamp (by omega)
  have e6 : p_sz (nI (m * w)) 1100 = true := by
    unfold p_sz
    rw [e5, decide_eq_false (nI_pos (show m * w < 2 ^ 31 by omega)), decide_eq_true hmw]; rfl
  unfold f_X8_init
  simp only [e1, e2, n_let, e3, e4, pk_mul, n_ck e6, n_ck (decide_eq_true hN), e5]
  rfl
def z_st (b : Nat) (N0 : pN) (I0 : pI) (P0 : pR) (j : Nat) (N : pN) (I : pI) (P : pR) : Prop := N.1 = b + 1 + 2 * j ∧ (∀ q, q < b → N.2 q = N0.2 q ∧ I q = I0 q ∧ P q = P0 q) ∧ N.2 b = (10, 0) ∧ ∀ i, i < j → P b i = some (b + 1 + 2 * i) ∧ N.2 (b + 1 + 2 * i) = (11, 0) ∧ P (b + 1 + 2 * i) 2 = some (b + 2 + 2 * i) ∧ N.2 (b + 2 + 2 * i) = (0, q_mst i * q_wdt i) ∧ I (b + 1 + 2 * i) 0 = nI (q_mst i) ∧ I (b + 1 + 2 * i) 1 = nI (q_wdt i) ∧ I (b + 1 + 2 * i) 3 = nI 0
theorem q_mw : ∀ j, j < 9 → 0 < q_mst j ∧ 0 < q_wdt j ∧ q_mst j * q_wdt j ≤ 1100 ∧ q_mst j ≤ 1100 ∧ q_wdt j ≤ 1100 ∧ q_mst j * q_wdt j = tb_len.getD j 0 := by decide
theorem z_step {b : Nat} {N0 : pN} {I0 : pI} {P0 : pR} {j : Nat} (hj : j < 9) (hb : b < 900000) (h : z_st b N0 I0 P0 j N I P) : ∃ q : pN × pI × pL × pR, f_X8_init (p_nw N I L P (11, 0)).1 (p_nw N I L P (11, 0)).2.1 (p_nw N I L P (11, 0)).2.2.1 (p_nw N I L P (11, 0)).2.2.2 N.1 (nI (q_mst j)) (nI (q_wdt j)) = some q ∧ z_st b N0 I0 P0 (j + 1) q.1 q.2.1 (p_u q.2.2.2 b j (some N.1)) ∧ decide (N.1 < 1000000) = true := by
  obtain ⟨h1, h2, h3, h4⟩ := h
  obtain ⟨m1, m2, m3, m4, m5, _⟩ := q_mw j hj
  have hN1 : (p_nw N I L P (11, 0)).1.1 = N.1 + 1 := rfl
  refine ⟨_, c_tinit m1 m2 m3 m4 m5 (by rw [hN1]; omega), ?_, decide_eq_true (by omega)⟩
  have eN : ∀ x, (p_nx (p_nw N I L P (11, 0)).1 (0, q_mst j * q_wdt j)).2 x = if x = N.1 + 1 then (0, q_mst j * q_wdt j) else if x = N.1 then (11, 0) else N.2 x := fun x => rfl
  have eI : ∀ x, x ≠ N.1 → x ≠ N.1 + 1 → p_z (p_u (p_u (p_nw N I L P (11, 0)).2.1 N.1 0 (nI (q_mst j))) N.1 1 (nI (q_wdt j))) (p_nw N I L P (11, 0)).1.1 0 x = I x := fun x a1 a2 => by
    rw [hN1, p_z_ne a2, p_u_ne a1, p_u_ne a1]
    exact p_z_ne a1
  have eIt : p_z (p_u (p_u (p_nw N I L P (11, 0)).2.1 N.1 0 (nI (q_mst j))) N.1 1 (nI (q_wdt j))) (p_nw N I L P (11, 0)).1.1 0 N.1 = p_u (p_u (p_nw N I L P (11, 0)).2.1 N.1 0 (nI (q_mst j))) N.1 1 (nI (q_wdt j)) N.1 := by
    rw [hN1]
    exact p_z_ne (by omega)
  have eP : ∀ x, x ≠ N.1 → x ≠ N.1 + 1 → x ≠ b → p_u (p_u (p_z (p_nw N I L P (11, 0)).2.2.2 (p_nw N I L P (11, 0)).1.1 none) N.1 2 (some (p_nw N I L P (11, 0)).1.1)) b j (some N.1) x = P x := fun x a1 a2 a3 => by
    rw [p_u_ne a3, p_u_ne a1, hN1, p_z_ne a2]
    exact p_z_ne a1
  have ePb : ∀ i, i ≠ j → p_u (p_u (p_z (p_nw N I L P (11, 0)).2.2.2 (p_nw N I L P (11, 0)).1.1 none) N.1 2 (some (p_nw N I L P (11, 0)).1.1)) b j (some N.1) b i = P b i := fun i a1 => by
    rw [p_u_nk a1, p_u_ne (by omega), hN1, p_z_ne (by omega)]
    show p_z P N.1 none b i = _
    rw [p_z_ne (by omega)]
  refine ⟨?_, fun q hq => ⟨?_, ?_, ?_⟩, ?_, fun i hi => ?_⟩
  · show N.1 + 1 + 1 = _
    omega
  · dsimp only
    rw [eN, if_neg (by omega), if_neg (by omega)]
    exact (h2 q hq).1
  · dsimp only
    rw [eI q (by omega) (by omega)]
    exact (h2 q hq).2.1
  · dsimp only
    rw [eP q (by omega) (by omega) (by omega)]
    exact (h2 q hq).2.2
  · dsimp only
    rw [eN, if_neg (by omega), if_neg (by omega)]
    exact h3
  · dsimp only
    by_cases hz : i = j
    · subst hz
      refine ⟨?_, ?_, ?_, ?_, ?_, ?_, ?_⟩
      · rw [p_u_self, h1]
      · rw [eN, if_neg (by omega), if_pos (by omega)]
      · rw [p_u_ne (by omega), ← h1, p_u_self, hN1, h1]
        congr 1
        omega
      · rw [eN, if_pos (by omega)]
      · rw [← h1, eIt, p_u_nk (by decide), p_u_self]
      · rw [← h1, eIt, p_u_self]
      · rw [← h1, eIt, p_u_nk (by decide), p_u_nk (by decide)]
        show p_z I N.1 0 N.1 3 = _
        rw [p_z_self]
        rfl
    · obtain ⟨g1, g2, g3, g4, g5, g6, g7⟩ := h4 i (by omega)
      rw [ePb i hz, eP _ (by omega) (by omega) (by omega), eI _ (by omega) (by omega), eN, eN, if_neg (by omega), if_neg (by omega), if_neg (by omega), if_neg (by omega)]
      exact ⟨g1, g2, g3, g4, g5, g6, g7⟩
theorem z_add {t c m w r : Nat} (h : TB N P I t c m w r) (hr : r < m) : ∃ Y, f_X8_add I t = some (nI 1, Y) ∧ TB N P Y t c m w (r + 1) ∧ ∀ q, q ≠ t → Y q = I q := ⟨_, tb_add h hr, h.rows (by omega), fun q hq => p_u_ne hq⟩
theorem z_put {t c m w r k j : Nat} {v : Int32} (h : TB N P I t c m w r) (hk : k < r) (hj : j < w) (hc : c ≠ t) : ∃ Y, f_X8_put N I P t (nI k) (nI j) v = some Y ∧ TB N P Y t c m w r ∧ ∀ q, q ≠ c → Y q = I q := ⟨_, tb_put h hk hj, h.cells hc, fun q hq => p_u_ne hq⟩
theorem c_sinit {b : Nat} {N0 : pN} {I0 : pI} {P0 : pR} (hb : b < 900000) (h : z_st b N0 I0 P0 0 N I P) : ∃ q : pN × pI × pL × pR, f_X7_init N I L P b = some q ∧ q.1.1 = b + 19 ∧ (∀ x, x < b → q.1.2 x = N0.2 x ∧ q.2.1 x = I0 x ∧ q.2.2.2 x = P0 x) ∧ q.1.2 b = (10, 0) ∧ (∀ i, i < 9 → q.2.2.2 b i = some (b + 1 + 2 * i) ∧ q.1.2 (b + 1 + 2 * i) = (11, 0) ∧ q.2.2.2 (b + 1 + 2 * i) 2 = some (b + 2 + 2 * i) ∧ q.1.2 (b + 2 + 2 * i) = (0, tb_len.getD i 0)) ∧ q_tbs q.1 q.2.2.2 q.2.1 b := by
  obtain ⟨q0, e0, s0, d0⟩ := z_step (N := N) (I := I) (L := L) (P := P) (j := 0) (by decide) hb h
  have e0 : f_X8_init (p_nw N I L P (11, 0)).1 (p_nw N I L P (11, 0)).2.1 (p_nw N I L P (11, 0)).2.2.1 (p_nw N I L P (11, 0)).2.2.2 N.1 (nI 500) (nI 1) = some q0 := e0
  obtain ⟨q1, e1, s1, d1⟩ := z_step (N := q0.1) (I := q0.2.1) (L := q0.2.2.1) (P := (p_u q0.2.2.2 b 0 (some N.1))) (j := 1) (by decide) hb s0
  have e1 : f_X8_init (p_nw q0.1 q0.2.1 q0.2.2.1 (p_u q0.2.2.2 b 0 (some N.1)) (11, 0)).1 (p_nw q0.1 q0.2.1 q0.2.2.1 (p_u q0.2.2.2 b 0 (some N.1)) (11, 0)).2.1 (p_nw q0.1 q0.2.1 q0.2.2.1 (p_u q0.2.2.2 b 0 (some N.1)) (11, 0)).2.2.1 (p_nw q0.1 q0.2.1 q0.2.2.1 (p_u q0.2.2.2 b 0 (some N.1)) (11, 0)).2.2.2 q0.1.1 (nI 12) (nI 7) = some q1 := e1
  obtain ⟨q2, e2, s2, d2⟩ := z_step (N := q1.1) (I := q1.2.1) (L := q1.2.2.1) (P := (p_u q1.2.2.2 b 1 (some q0.1.1))) (j := 2) (by decide) hb s1
  have e2 : f_X8_init (p_nw q1.1 q1.2.1 q1.2.2.1 (p_u q1.2.2.2 b 1 (some q0.1.1)) (11, 0)).1 (p_nw q1.1 q1.2.1 q1.2.2.1 (p_u q1.2.2.2 b 1 (some q0.1.1)) (11, 0)).2.1 (p_nw q1.1 q1.2.1 q1.2.2.1 (p_u q1.2.2.2 b 1 (some q0.1.1)) (11, 0)).2.2.1 (p_nw q1.1 q1.2.1 q1.2.2.1 (p_u q1.2.2.2 b 1 (some q0.1.1)) (11, 0)).2.2.2 q1.1.1 (nI 6) (nI 8) = some q2 := e2
  obtain ⟨q3, e3, s3, d3⟩ := z_step (N := q2.1) (I := q2.2.1) (L := q2.2.2.1) (P := (p_u q2.2.2.2 b 2 (some q1.1.1))) (j := 3) (by decide) hb s2
  have e3 : f_X8_init (p_nw q2.1 q2.2.1 q2.2.2.1 (p_u q2.2.2.2 b 2 (some q1.1.1)) (11, 0)).1 (p_nw q2.1 q2.2.1 q2.2.2.1 (p_u q2.2.2.2 b 2 (some q1.1.1)) (11, 0)).2.1 (p_nw q2.1 q2.2.1 q2.2.2.1 (p_u q2.2.2.2 b 2 (some q1.1.1)) (11, 0)).2.2.1 (p_nw q2.1 q2.2.1 q2.2.2.1 (p_u q2.2.2.2 b 2 (some q1.1.1)) (11, 0)).2.2.2 q2.1.1 (nI 8) (nI 4) = some q3 := e3
  obtain ⟨q4, e4, s4, d4⟩ := z_step (N := q3.1) (I := q3.2.1) (L := q3.2.2.1) (P := (p_u q3.2.2.2 b 3 (some q2.1.1))) (j := 4) (by decide) hb s3
  have e4 : f_X8_init (p_nw q3.1 q3.2.1 q3.2.2.1 (p_u q3.2.2.2 b 3 (some q2.1.1)) (11, 0)).1 (p_nw q3.1 q3.2.1 q3.2.2.1 (p_u q3.2.2.2 b 3 (some q2.1.1)) (11, 0)).2.1 (p_nw q3.1 q3.2.1 q3.2.2.1 (p_u q3.2.2.2 b 3 (some q2.1.1)) (11, 0)).2.2.1 (p_nw q3.1 q3.2.1 q3.2.2.1 (p_u q3.2.2.2 b 3 (some q2.1.1)) (11, 0)).2.2.2 q3.1.1 (nI 8) (nI 2) = some q4 := e4
  obtain ⟨q5, e5, s5, d5⟩ := z_step (N := q4.1) (I := q4.2.1) (L := q4.2.2.1) (P := (p_u q4.2.2.2 b 4 (some q3.1.1))) (j := 5) (by decide) hb s4
  have e5 : f_X8_init (p_nw q4.1 q4.2.1 q4.2.2.1 (p_u q4.2.2.2 b 4 (some q3.1.1)) (11, 0)).1 (p_nw q4.1 q4.2.1 q4.2.2.1 (p_u q4.2.2.2 b 4 (some q3.1.1)) (11, 0)).2.1 (p_nw q4.1 q4.2.1 q4.2.2.1 (p_u q4.2.2.2 b 4 (some q3.1.1)) (11, 0)).2.2.1 (p_nw q4.1 q4.2.1 q4.2.2.1 (p_u q4.2.2.2 b 4 (some q3.1.1)) (11, 0)).2.2.2 q4.1.1 (nI 5) (nI 2) = some q5 := e5
  obtain ⟨q6, e6, s6, d6⟩ := z_step (N := q5.1) (I := q5.2.1) (L := q5.2.2.1) (P := (p_u q5.2.2.2 b 5 (some q4.1.1))) (j := 6) (by decide) hb s5
  have e6 : f_X8_init (p_nw q5.1 q5.2.1 q5.2.2.1 (p_u q5.2.2.2 b 5 (some q4.1.1)) (11, 0)).1 (p_nw q5.1 q5.2.1 q5.2.2.1 (p_u q5.2.2.2 b 5 (some q4.1.1)) (11, 0)).2.1 (p_nw q5.1 q5.2.1 q5.2.2.1 (p_u q5.2.2.2 b 5 (some q4.1.1)) (11, 0)).2.2.1 (p_nw q5.1 q5.2.1 q5.2.2.1 (p_u q5.2.2.2 b 5 (some q4.1.1)) (11, 0)).2.2.2 q5.1.1 (nI 7) (nI 1) = some q6 := e6
  obtain ⟨q7, e7, s7, d7⟩ := z_step (N := q6.1) (I := q6.2.1) (L := q6.2.2.1) (P := (p_u q6.2.2.2 b 6 (some q5.1.1))) (j := 7) (by decide) hb s6
  have e7 : f_X8_init (p_nw q6.1 q6.2.1 q6.2.2.1 (p_u q6.2.2.2 b 6 (some q5.1.1)) (11, 0)).1 (p_nw q6.1 q6.2.1 q6.2.2.1 (p_u q6.2.2.2 b 6 (some q5.1.1)) (11, 0)).2.1 (p_nw q6.1 q6.2.1 q6.2.2.1 (p_u q6.2.2.2 b 6 (some q5.1.1)) (11, 0)).2.2.1 (p_nw q6.1 q6.2.1 q6.2.2.1 (p_u q6.2.2.2 b 6 (some q5.1.1)) (11, 0)).2.2.2 q6.1.1 (nI 16) (nI 18) = some q7 := e7
  obtain ⟨q8, e8, s8, d8⟩ := z_step (N := q7.1) (I := q7.2.1) (L := q7.2.2.1) (P := (p_u q7.2.2.2 b 7 (some q6.1.1))) (j := 8) (by decide) hb s7
  have e8 : f_X8_init (p_nw q7.1 q7.2.1 q7.2.2.1 (p_u q7.2.2.2 b 7 (some q6.1.1)) (11, 0)).1 (p_nw q7.1 q7.2.1 q7.2.2.1 (p_u q7.2.2.2 b 7 (some q6.1.1)) (11, 0)).2.1 (p_nw q7.1 q7.2.1 q7.2.2.1 (p_u q7.2.2.2 b 7 (some q6.1.1)) (11, 0)).2.2.1 (p_nw q7.1 q7.2.1 q7.2.2.1 (p_u q7.2.2.2 b 7 (some q6.1.1)) (11, 0)).2.2.2 q7.1.1 (nI 60) (nI 2) = some q8 := e8
  obtain ⟨h1, h2, h3, h4⟩ := s8
  generalize hPf : (p_u q8.2.2.2 b 8 (some q7.1.1)) = Pf at h2 h4
  have p5 : Pf b 5 = some (b + 1 + 2 * 5) := (h4 5 (by decide)).1
  have p6 : Pf b 6 = some (b + 1 + 2 * 6) := (h4 6 (by decide)).1
  have htb : ∀ i, i < 9 → TB q8.1 Pf q8.2.1 (b + 1 + 2 * i) (b + 2 + 2 * i) (q_mst i) (q_wdt i) 0 := fun i hi => by
    obtain ⟨m1, m2, m3, m4, m5, _⟩ := q_mw i hi
    obtain ⟨g1, g2, g3, g4, g5, g6, g7⟩ := h4 i hi
    exact ⟨g4, g3, g5, g6, g7, Nat.zero_le _, by omega, m2, by omega, by omega⟩
  obtain ⟨Y, hY⟩ : ∃ Y, Y = p_u (p_u (p_u (p_u q8.2.1 b 9 (nI 0)) b 10 (-1)) b 11 (nI 0)) b 12 (-1) := ⟨_, rfl⟩
  have hYq : ∀ x, x ≠ b → Y x = q8.2.1 x := fun x hx => by rw [hY, p_u_ne hx, p_u_ne hx, p_u_ne hx, p_u_ne hx]
  have t0 : TB q8.1 Pf Y (b + 1 + 2 * 5) (b + 2 + 2 * 5) 5 2 0 := (htb 5 (by decide)).of (fun zi => by rw [hYq _ (by omega)])
  obtain ⟨Y1, a1, t1, f1⟩ := z_add t0 (show 0 < 5 by decide)
  obtain ⟨Y2, a2, t2, f2⟩ := z_put (v := nI 50) t1 (show 0 < 1 by decide) (show 0 < 2 by decide) (by omega)
  obtain ⟨Y3, a3, t3, f3⟩ := z_put (v := nI 0) t2 (show 0 < 1 by decide) (show 1 < 2 by decide) (by omega)
  obtain ⟨Y4, a4, t4, f4⟩ := z_add t3 (show 1 < 5 by decide)
  obtain ⟨Y5, a5, t5, f5⟩ := z_put (v := nI 50) t4 (show 1 < 2 by decide) (show 0 < 2 by decide) (by omega)
  obtain ⟨Y6, a6, t6, f6⟩ := z_put (v := nI 0) t5 (show 1 < 2 by decide) (show 1 < 2 by decide) (by omega)
  obtain ⟨Y7, a7, t7, f7⟩ := z_add t6 (show 2 < 5 by decide)
  obtain ⟨Y8, a8, t8, f8⟩ := z_put (v := nI 50) t7 (show 2 < 3 by decide) (show 0 < 2 by decide) (by omega)
  obtain ⟨Y9, a9, t9, f9⟩ := z_put (v := nI 0) t8 (show 2 < 3 by decide) (show 1 < 2 by decide) (by omega)
  obtain ⟨Y10, a10, t10, f10⟩ := z_add t9 (show 3 < 5 by decide)
  obtain ⟨Y11, a11, t11, f11⟩ := z_put (v := nI 50) t10 (show 3 < 4 by decide) (show 0 < 2 by decide) (by omega)
  obtain ⟨Y12, a12, t12, f12⟩ := z_put (v := nI 0) t11 (show 3 < 4 by decide) (show 1 < 2 by decide) (by omega)
  obtain ⟨Y13, a13, t13, f13⟩ := z_add t12 (show 4 < 5 by decide)
  obtain ⟨Y14, a14, t14, f14⟩ := z_put (v := nI 50) t13 (show 4 < 5 by decide) (show 0 < 2 by decide) (by omega)
  obtain ⟨Y15, a15, t15, f15⟩ := z_put (v := nI 0) t14 (show 4 < 5 by decide) (show 1 < 2 by decide) (by omega)
  have g1 : ∀ x, x ≠ b + 1 + 2 * 5 → x ≠ b + 2 + 2 * 5 → Y15 x = Y x := fun x c1 c2 => by rw [f15 x c2, f14 x c2, f13 x c1, f12 x c2, f11 x c2, f10 x c1, f9 x c2, f8 x c2, f7 x c1, f6 x c2, f5 x c2, f4 x c1, f3 x c2, f2 x c2, f1 x c1]
  have u0 : TB q8.1 Pf Y15 (b + 1 + 2 * 6) (b + 2 + 2 * 6) 7 1 0 := (htb 6 (by decide)).of (fun zi => by rw [g1 _ (by omega) (by omega), hYq _ (by omega)])
  obtain ⟨Y16, a16, t16, f16⟩ := z_add u0 (show 0 < 7 by decide)
  obtain ⟨Y17, a17, t17, f17⟩ := z_put (v := (p_row 0).getD (Int32.toNatClampNeg (nI 0)) 0) t16 (show 0 < 1 by decide) (show 0 < 1 by decide) (by omega)
  obtain ⟨Y18, a18, t18, f18⟩ := z_add t17 (show 1 < 7 by decide)
  obtain ⟨Y19, a19, t19, f19⟩ := z_put (v := (p_row 0).getD (Int32.toNatClampNeg (nI 1)) 0) t18 (show 1 < 2 by decide) (show 0 < 1 by decide) (by omega)
  obtain ⟨Y20, a20, t20, f20⟩ := z_add t19 (show 2 < 7 by decide)
  obtain ⟨Y21, a21, t21, f21⟩ := z_put (v := (p_row 0).getD (Int32.toNatClampNeg (nI 2)) 0) t20 (show 2 < 3 by decide) (show 0 < 1 by decide) (by omega)
  obtain ⟨Y22, a22, t22, f22⟩ := z_add t21 (show 3 < 7 by decide)
  obtain ⟨Y23, a23, t23, f23⟩ := z_put (v := (p_row 0).getD (Int32.toNatClampNeg (nI 3)) 0) t22 (show 3 < 4 by decide) (show 0 < 1 by decide) (by omega)
  obtain ⟨Y24, a24, t24, f24⟩ := z_add t23 (show 4 < 7 by decide)
  obtain ⟨Y25, a25, t25, f25⟩ := z_put (v := (p_row 0).getD (Int32.toNatClampNeg (nI 4)) 0) t24 (show 4 < 5 by decide) (show 0 < 1 by decide) (by omega)
  obtain ⟨Y26, a26, t26, f26⟩ := z_add t25 (show 5 < 7 by decide)
  obtain ⟨Y27, a27, t27, f27⟩ := z_put (v := (p_row 0).getD (Int32.toNatClampNeg (nI 5)) 0) t26 (show 5 < 6 by decide) (show 0 < 1 by decide) (by omega)
  obtain ⟨Y28, a28, t28, f28⟩ := z_add t27 (show 6 < 7 by decide)
  obtain ⟨Y29, a29, t29, f29⟩ := z_put (v := (p_row 0).getD (Int32.toNatClampNeg (nI 6)) 0) t28 (show 6 < 7 by decide) (show 0 < 1 by decide) (by omega)
  have g2 : ∀ x, x ≠ b + 1 + 2 * 6 → x ≠ b + 2 + 2 * 6 → Y29 x = Y15 x := fun x c1 c2 => by rw [f29 x c2, f28 x c1, f27 x c2, f26 x c1, f25 x c2, f24 x c1, f23 x c2, f22 x c1, f21 x c2, f20 x c1, f19 x c2, f18 x c1, f17 x c2, f16 x c1]
  refine ⟨(q8.1, Y29, q8.2.2.1, Pf), ?_, by rw [h1], fun x hx => ⟨(h2 x hx).1, ?_, (h2 x hx).2.2⟩, h3, fun i hi => ?_, fun i hi => ?_⟩
  · have rb : ∀ i, i < 7 → p_rb 0 (nI i) = true := by decide
    unfold f_X7_init
    simp only [n_let, Option.bind_some, n_ck d0, e0, n_ck d1, e1, n_ck d2, e2, n_ck d3, e3, n_ck d4, e4, n_ck d5, e5, n_ck d6, e6, n_ck d7, e7, n_ck d8, e8]
    rw [hPf]
    simp only [← hY, p5, p6, Option.bind_some, n_ck (rb 0 (by decide)), n_ck (rb 1 (by decide)), n_ck (rb 2 (by decide)), n_ck (rb 3 (by decide)), n_ck (rb 4 (by decide)), n_ck (rb 5 (by decide)), n_ck (rb 6 (by decide)), a1, a2, a3, a4, a5, a6, a7, a8, a9, a10, a11, a12, a13, a14, a15, a16, a17, a18, a19, a20, a21, a22, a23, a24, a25, a26, a27, a28, a29]
  · dsimp only
    rw [g2 x (by omega) (by omega), g1 x (by omega) (by omega), hYq x (by omega)]
    exact (h2 x hx).2.1
  · obtain ⟨w1, w2, w3, w4, _⟩ := h4 i hi
    exact ⟨w1, w2, w3, by rw [← (q_mw i hi).2.2.2.2.2]; exact w4⟩
  · dsimp only
    by_cases i5 : i = 5
    · subst i5
      exact ⟨5, t15.of (fun zi => by rw [g2 _ (by omega) (by omega)])⟩
    by_cases i6 : i = 6
    · subst i6
      exact ⟨7, t29⟩
    exact ⟨0, (htb i hi).of (fun zi => by rw [g2 _ (by omega) (by omega), g1 _ (by omega) (by omega), hYq _ (by omega)])⟩
end Made
