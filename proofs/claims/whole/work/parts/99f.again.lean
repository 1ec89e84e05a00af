/-! States are copied: again -/
def q_mst (j : Nat) : Nat := ([500, 12, 6, 8, 8, 5, 7, 16, 60] : List Nat).getD j 0
def q_wdt (j : Nat) : Nat := ([1, 7, 8, 4, 2, 2, 1, 18, 2] : List Nat).getD j 0
def q_tbs (N : pN) (P : pR) (I : pI) (b : Nat) : Prop := ∀ j, j < 9 → ∃ r, TB N P I (b + 1 + 2 * j) (b + 2 + 2 * j) (q_mst j) (q_wdt j) r
def q_ptr (P : pR) (b : Nat) : Prop := ∀ j, j < 9 → P b j = some (b + 1 + 2 * j)
section Move
variable {N N' : pN} {P P' : pR} {I J : pI} {b b2 o o2 : Nat}
theorem TB.mv {t c t2 c2 m w r : Nat} (h : TB N P I t c m w r) (h1 : N'.2 c2 = (0, m * w)) (h2 : P' t2 2 = some c2) (h3 : J t2 0 = nI m) (h4 : J t2 1 = nI w) (h5 : J t2 3 = nI r) : TB N' P' J t2 c2 m w r := ⟨h1, h2, h3, h4, h5, h.2.2.2.2.2⟩
theorem SR.tbl (h : SR N P I b o) : q_tbs N P I b := by
  intro j hj
  have h9 : j = 0 ∨ j = 1 ∨ j = 2 ∨ j = 3 ∨ j = 4 ∨ j = 5 ∨ j = 6 ∨ j = 7 ∨ j = 8 := by omega
  rcases h9 with h9 | h9 | h9 | h9 | h9 | h9 | h9 | h9 | h9 <;> subst h9
  · exact ⟨_, h.rt.2.1⟩
  · exact ⟨_, h.rw.2.1⟩
  · exact ⟨_, h.rs.2.1⟩
  · exact ⟨_, h.ri.2.1⟩
  · exact ⟨_, h.rn.2.1⟩
  · exact ⟨_, h.ru.1⟩
  · exact ⟨_, h.rg.1⟩
  · exact ⟨_, h.rl.2.1⟩
  · exact ⟨_, h.rk.2.1⟩
def q_mvd (N N' : pN) (P P' : pR) (I J : pI) (b b2 : Nat) : Prop := ∀ j, j < 9 → ∀ r, TB N P I (b + 1 + 2 * j) (b + 2 + 2 * j) (q_mst j) (q_wdt j) r → TB N' P' J (b2 + 1 + 2 * j) (b2 + 2 + 2 * j) (q_mst j) (q_wdt j) r ∧ ∀ i, i < q_mst j * q_wdt j → J (b2 + 2 + 2 * j) i = I (b + 2 + 2 * j) i
theorem SR.move (h : SR N P I b o) (hT : q_mvd N N' P P' I J b b2) (hF : ∀ k, 9 ≤ k → k ≤ 12 → J b2 k = I b k) (h68 : ∀ zk, zk < 1160 → J 68 (zk + o2) = I 68 (zk + o)) : SR N' P' J b2 o2 := by
  obtain ⟨s1, s2, s3, s4, s5, s6, s7, s8, s9, s10⟩ := h
  refine ⟨?_, ?_, ?_, ?_, ?_, ?_, ?_, ?_, ?_, ?_⟩
  · obtain ⟨a, t, c⟩ := s1
    have ha := a.2
    obtain ⟨t2, c2⟩ := hT 0 (by decide) _ t
    have e0 := h68 8 (by decide)
    refine ⟨by rw [e0]; exact a, by rw [e0]; exact t2, fun zi hi => ?_⟩
    rw [e0] at hi
    have e1 : J (b2 + 2) zi = I (b + 2) zi := c2 zi (show zi < 500 * 1 by omega)
    rw [e1, h68 _ (by omega)]
    exact c zi hi
  · obtain ⟨a, t, c⟩ := s2
    have ha := a.2
    obtain ⟨t2, c2⟩ := hT 1 (by decide) _ t
    have e0 := h68 0 (by decide)
    refine ⟨by rw [e0]; exact a, by rw [e0]; exact t2, fun zw hw => ?_⟩
    rw [e0] at hw
    have hc := c zw hw
    refine ⟨fun zk hk => ?_, hc.2.of (fun zk hk => h68 _ (by omega))⟩
    have e1 : J (b2 + 4) (zw * 7 + zk) = I (b + 4) (zw * 7 + zk) := c2 _ (show zw * 7 + zk < 12 * 7 by omega)
    rw [e1, h68 _ (by omega)]
    exact hc.1 zk hk
  · obtain ⟨a, t, c⟩ := s3
    have ha := a.2
    obtain ⟨t2, c2⟩ := hT 2 (by decide) _ t
    have e0 := h68 1 (by decide)
    refine ⟨by rw [e0]; exact a, by rw [e0]; exact t2, fun zw hw => ?_⟩
    rw [e0] at hw
    have hc := c zw hw
    have e1 : ∀ zk, zk < 8 → J (b2 + 6) (zw * 8 + zk) = I (b + 6) (zw * 8 + zk) := fun zk hk => c2 _ (show zw * 8 + zk < 6 * 8 by omega)
    refine ⟨fun zk hk => ?_, ?_, hc.2.2.of (fun zk hk => h68 _ (by omega))⟩
    · rw [e1 zk (by omega), h68 _ (by omega)]
      exact hc.1 zk hk
    · rw [e1 7 (by omega), h68 _ (by omega), h68 _ (by omega)]
      exact hc.2.1
  · obtain ⟨a, t, c⟩ := s4
    have ha := a.2
    obtain ⟨t2, c2⟩ := hT 3 (by decide) _ t
    have e0 := h68 2 (by decide)
    refine ⟨by rw [e0]; exact a, by rw [e0]; exact t2, fun zw hw => ?_⟩
    rw [e0] at hw
    have hc := c zw hw
    rw [h68 _ (by omega), h68 _ (by omega), h68 _ (by omega), h68 _ (by omega)]
    refine ⟨fun zk hk => ?_, hc.2⟩
    have e1 : J (b2 + 8) (zw * 4 + zk) = I (b + 8) (zw * 4 + zk) := c2 _ (show zw * 4 + zk < 8 * 4 by omega)
    rw [e1, h68 _ (by omega)]
    exact hc.1 zk hk
  · obtain ⟨a, t, c⟩ := s5
    have ha := a.2
    obtain ⟨t2, c2⟩ := hT 4 (by decide) _ t
    have e0 := h68 3 (by decide)
    refine ⟨by rw [e0]; exact a, by rw [e0]; exact t2, fun zw hw zk hk => ?_⟩
    rw [e0] at hw
    have e1 : J (b2 + 10) (zw * 2 + zk) = I (b + 10) (zw * 2 + zk) := c2 _ (show zw * 2 + zk < 8 * 2 by omega)
    rw [e1, h68 _ (by omega)]
    exact c zw hw zk hk
  · obtain ⟨t, c⟩ := s6
    obtain ⟨t2, c2⟩ := hT 5 (by decide) _ t
    refine ⟨t2, fun zw hw => ?_⟩
    have e1 : ∀ zk, zk < 2 → J (b2 + 12) (zw * 2 + zk) = I (b + 12) (zw * 2 + zk) := fun zk hk => c2 _ (show zw * 2 + zk < 5 * 2 by omega)
    rw [e1 0 (by decide), e1 1 (by decide), h68 _ (by omega), h68 _ (by omega)]
    exact c zw hw
  · obtain ⟨t, c, d⟩ := s7
    obtain ⟨t2, c2⟩ := hT 6 (by decide) _ t
    refine ⟨t2, fun zw hw => ?_, by rw [h68 15 (by omega), h68 17 (by omega)]; exact d⟩
    have e1 : J (b2 + 14) (zw * 1 + 0) = I (b + 14) (zw * 1 + 0) := c2 _ (show zw * 1 + 0 < 7 * 1 by omega)
    rw [e1, h68 _ (by omega)]
    exact c zw hw
  · obtain ⟨a, t, c⟩ := s8
    have ha := a.2
    obtain ⟨t2, c2⟩ := hT 7 (by decide) _ t
    have e0 := h68 6 (by decide)
    refine ⟨by rw [e0]; exact a, by rw [e0]; exact t2, fun zl hl => ?_⟩
    rw [e0] at hl
    have hc := c zl hl
    have h4 := hc.1.2
    have e1 : ∀ zk, zk < 18 → J (b2 + 16) (zl * 18 + zk) = I (b + 16) (zl * 18 + zk) := fun zk hk => c2 _ (show zl * 18 + zk < 16 * 18 by omega)
    rw [e1 0 (by omega), e1 1 (by omega), h68 _ (by omega), h68 _ (by omega)]
    exact ⟨hc.1, hc.2.1, hc.2.2.1, fun zt ht => (hc.2.2.2 zt ht).of (fun zk hk => e1 _ (by omega)) (fun zk hk => h68 _ (by omega))⟩
  · obtain ⟨a, t, c⟩ := s9
    have ha := a.2
    obtain ⟨t2, c2⟩ := hT 8 (by decide) _ t
    have e0 := h68 7 (by decide)
    refine ⟨by rw [e0]; exact a, by rw [e0]; exact t2, fun zw hw zk hk => ?_⟩
    rw [e0] at hw
    have e1 : J (b2 + 18) (zw * 2 + zk) = I (b + 18) (zw * 2 + zk) := c2 _ (show zw * 2 + zk < 60 * 2 by omega)
    rw [e1, h68 _ (by omega)]
    exact c zw hw zk hk
  · unfold R_flds at s10 ⊢
    rw [hF 9 (by decide) (by decide), hF 10 (by decide) (by decide), hF 11 (by decide) (by decide), hF 12 (by decide) (by decide), h68 _ (by decide), h68 _ (by decide), h68 _ (by decide), h68 _ (by decide)]
    exact s10
theorem c_tcopy {t c t2 c2 m w r r2 : Nat} (h : TB N P I t c m w r) (h2 : TB N P I t2 c2 m w r2) (d1 : t2 ≠ t) (d2 : c2 ≠ t) (d3 : c2 ≠ c) (d4 : c ≠ t) : ∃ J, f_X8_copy N I P t t2 = some J ∧ TB N P J t c m w r2 ∧ (∀ i, i < m * w → J c i = I c2 i) ∧ ∀ zq, zq ≠ t → zq ≠ c → J zq = I zq := by
  obtain ⟨a1, a2, a3, a4, a5, a6, a7, a8, a9, a10⟩ := h
  obtain ⟨b1, b2, b3, b4, b5, b6, b7, b8, b9, b10⟩ := h2
  have hmin : (if I t 0 < I t2 3 then I t 0 else I t2 3) = nI r2 := by
    rw [a3, b5, if_neg (nI_nlt b6 (by omega))]
  have hz : nI 0 = (0 : Int32) := rfl
  have hcb : p_cb N c2 c (nI 0) (nI 0) (nI (m * w)) = true := by
    unfold p_cb
    rw [a1, b1, nI_clamp (n := 0) (by decide), nI_clamp (n := m * w) (by omega), decide_eq_false (show ¬ nI 0 < 0 by decide), decide_eq_false (nI_pos (show m * w < 2 ^ 31 by omega)), decide_eq_true (show 0 + m * w ≤ (0, m * w).2 by rw [Nat.zero_add]; exact Nat.le_refl _)]
    rfl
  refine ⟨p_cy (p_u I t 3 (nI r2)) c2 c (nI 0) (nI 0) (nI (m * w)), ?_, ?_, ?_, ?_⟩
  · unfold f_X8_copy
    simp only [hmin, n_let, a2, b2, Option.bind_some, a1, b1, ite_self, n_ck hcb]
  · have e : p_cy (p_u I t 3 (nI r2)) c2 c (nI 0) (nI 0) (nI (m * w)) t = p_u I t 3 (nI r2) t := if_neg d4.symm
    exact ⟨a1, a2, by rw [e, p_u_nk (by decide)]; exact a3, by rw [e, p_u_nk (by decide)]; exact a4, by rw [e, p_u_self], b6, a7, a8, a9, a10⟩
  · intro i hi
    show (if c = c then va_cpy (p_u I t 3 (nI r2) c2) (p_u I t 3 (nI r2) c) (nI 0).toNatClampNeg (nI 0).toNatClampNeg (nI (m * w)).toNatClampNeg else _) i = _
    rw [if_pos rfl, nI_clamp (n := 0) (by decide), nI_clamp (n := m * w) (by omega), pk_cpy_in (Nat.zero_le _) (by omega), p_u_ne d2]
    congr 1
    omega
  · intro zq q1 q2
    show (if zq = c then _ else p_u I t 3 (nI r2) zq) = _
    rw [if_neg q2, p_u_ne q1]
theorem c_copy (hP1 : q_ptr P b) (hP2 : q_ptr P b2) (hT1 : q_tbs N P I b) (hT2 : q_tbs N P I b2) (hd : b + 19 ≤ b2 ∨ b2 + 19 ≤ b) : ∃ J, f_X7_copy N I P b2 b = some J ∧ (∀ zq, (zq < b2 ∨ b2 + 19 ≤ zq) → J zq = I zq) ∧ q_mvd N N P P I J b b2 ∧ (∀ k, 9 ≤ k → k ≤ 12 → J b2 k = I b k) := by
  have hstep : ∀ j, j < 9 → ∀ X : pI, ((∀ zq, (zq < b2 + 1 ∨ b2 + 19 ≤ zq) → X zq = I zq) ∧ (∀ i, i < j → ∀ r, TB N P I (b + 1 + 2 * i) (b + 2 + 2 * i) (q_mst i) (q_wdt i) r → TB N P X (b2 + 1 + 2 * i) (b2 + 2 + 2 * i) (q_mst i) (q_wdt i) r ∧ ∀ zi, zi < q_mst i * q_wdt i → X (b2 + 2 + 2 * i) zi = I (b + 2 + 2 * i) zi) ∧ (∀ i, j ≤ i → i < 9 → X (b2 + 1 + 2 * i) = I (b2 + 1 + 2 * i))) → ∃ Y, f_X8_copy N X P (b2 + 1 + 2 * j) (b + 1 + 2 * j) = some Y ∧ ((∀ zq, (zq < b2 + 1 ∨ b2 + 19 ≤ zq) → Y zq = I zq) ∧ (∀ i, i < j + 1 → ∀ r, TB N P I (b + 1 + 2 * i) (b + 2 + 2 * i) (q_mst i) (q_wdt i) r → TB N P Y (b2 + 1 + 2 * i) (b2 + 2 + 2 * i) (q_mst i) (q_wdt i) r ∧ ∀ zi, zi < q_mst i * q_wdt i → Y (b2 + 2 + 2 * i) zi = I (b + 2 + 2 * i) zi) ∧ (∀ i, j + 1 ≤ i → i < 9 → Y (b2 + 1 + 2 * i) = I (b2 + 1 + 2 * i))) := by
    rintro j hj X ⟨x1, x2, x3⟩
    obtain ⟨r1, t1⟩ := hT1 j hj
    obtain ⟨r2, t2⟩ := hT2 j hj
    have t1X : TB N P X (b + 1 + 2 * j) (b + 2 + 2 * j) (q_mst j) (q_wdt j) r1 := t1.of (fun zi => by rw [x1 _ (by omega)])
    have t2X : TB N P X (b2 + 1 + 2 * j) (b2 + 2 + 2 * j) (q_mst j) (q_wdt j) r2 := t2.of (fun zi => by rw [x3 j (Nat.le_refl _) hj])
    obtain ⟨Y, y1, y2, y3, y4⟩ := c_tcopy t2X t1X (by omega) (by omega) (by omega) (by omega)
    refine ⟨Y, y1, fun zq hq => by rw [y4 zq (by omega) (by omega), x1 zq hq], fun i hi r hr => ?_, fun i h1 h2 => by rw [y4 _ (by omega) (by omega), x3 i (by omega) h2]⟩
    by_cases hz : i = j
    · subst hz
      have hr2 : r1 = r := by
        have e1 := t1.2.2.2.2.1
        have e2 := hr.2.2.2.2.1
        rw [e1] at e2
        have l1 := t1.2.2.2.2.2.1
        have l2 := hr.2.2.2.2.2.1
        have l3 := t1.2.2.2.2.2.2.2.2.1
        exact (nI_eq (by omega) (by omega)).mp e2
      subst hr2
      refine ⟨y2, fun zi hzi => ?_⟩
      rw [y3 zi hzi, x1 _ (by omega)]
    · obtain ⟨g1, g2⟩ := x2 i (by omega) r hr
      exact ⟨g1.of (fun zi => by rw [y4 _ (by omega) (by omega)]), fun zi hzi => by rw [y4 _ (by omega) (by omega)]; exact g2 zi hzi⟩
  obtain ⟨Y0, y0, i0⟩ := hstep 0 (by decide) I ⟨fun _ _ => rfl, fun i hi => absurd hi (Nat.not_lt_zero i), fun _ _ _ => rfl⟩
  obtain ⟨Y1, y1, i1⟩ := hstep 1 (by decide) Y0 i0
  obtain ⟨Y2, y2, i2⟩ := hstep 2 (by decide) Y1 i1
  obtain ⟨Y3, y3, i3⟩ := hstep 3 (by decide) Y2 i2
  obtain ⟨Y4, y4, i4⟩ := hstep 4 (by decide) Y3 i3
  obtain ⟨Y5, y5, i5⟩ := hstep 5 (by decide) Y4 i4
  obtain ⟨Y6, y6, i6⟩ := hstep 6 (by decide) Y5 i5
  obtain ⟨Y7, y7, i7⟩ := hstep 7 (by decide) Y6 i6
  obtain ⟨Y8, y8, i8, i9, i10⟩ := hstep 8 (by decide) Y7 i7
  have eb : Y8 b = I b := i8 b (by omega)
  refine ⟨p_u (p_u (p_u (p_u Y8 b2 9 (I b 9)) b2 10 (I b 10)) b2 11 (I b 11)) b2 12 (I b 12), ?_, ?_, ?_, ?_⟩
  · have n1 : b ≠ b2 := by omega
    unfold f_X7_copy
    simp only [hP1 0 (by decide), hP1 1 (by decide), hP1 2 (by decide), hP1 3 (by decide), hP1 4 (by decide), hP1 5 (by decide), hP1 6 (by decide), hP1 7 (by decide), hP1 8 (by decide), hP2 0 (by decide), hP2 1 (by decide), hP2 2 (by decide), hP2 3 (by decide), hP2 4 (by decide), hP2 5 (by decide), hP2 6 (by decide), hP2 7 (by decide), hP2 8 (by decide), Option.bind_some, y0, y1, y2, y3, y4, y5, y6, y7, y8, n_let, p_u_ne n1, eb]
  · intro zq hq
    rw [p_u_ne (by omega), p_u_ne (by omega), p_u_ne (by omega), p_u_ne (by omega), i8 zq (by omega)]
  · intro j hj r hr
    obtain ⟨g1, g2⟩ := i9 j hj r hr
    refine ⟨g1.of (fun zi => by rw [p_u_ne (by omega), p_u_ne (by omega), p_u_ne (by omega), p_u_ne (by omega)]), fun zi hzi => ?_⟩
    rw [p_u_ne (by omega), p_u_ne (by omega), p_u_ne (by omega), p_u_ne (by omega)]
    exact g2 zi hzi
  · intro k k1 k2
    have h4 : k = 9 ∨ k = 10 ∨ k = 11 ∨ k = 12 := by omega
    rcases h4 with h4 | h4 | h4 | h4 <;> subst h4
    · rw [p_u_nk (by decide), p_u_nk (by decide), p_u_nk (by decide), p_u_self]
    · rw [p_u_nk (by decide), p_u_nk (by decide), p_u_self]
    · rw [p_u_nk (by decide), p_u_self]
    · rw [p_u_self]
theorem q_ptr1 (hG : GW N P) : q_ptr P 1 := by
  intro j hj
  have h9 : j = 0 ∨ j = 1 ∨ j = 2 ∨ j = 3 ∨ j = 4 ∨ j = 5 ∨ j = 6 ∨ j = 7 ∨ j = 8 := by omega
  rcases h9 with h9 | h9 | h9 | h9 | h9 | h9 | h9 | h9 | h9 <;> subst h9
  · exact gp_1_0 hG
  · exact gp_1_1 hG
  · exact gp_1_2 hG
  · exact gp_1_3 hG
  · exact gp_1_4 hG
  · exact gp_1_5 hG
  · exact gp_1_6 hG
  · exact gp_1_7 hG
  · exact gp_1_8 hG
theorem m_againL (hG : GW N P) {k zo zn : Nat} (hidx : nI 1160 * nI (k + 1) = nI zo) (ho1 : 1160 ≤ zo) (ho2 : zo + 1160 ≤ 4640) (hn : 3000 < zn) : ∃ M, p_it (B_X12_again_22 N P 67 (nI k)) zn (nI 0, I) = some M ∧ (∀ zq, zq ≠ 68 → M zq = I zq) ∧ (∀ zj, zj < 1160 → M 68 zj = I 68 (zj + zo)) ∧ ∀ zj, 1160 ≤ zj → M 68 zj = I 68 zj := by
  refine p_loopI (B := B_X12_again_22 N P 67 (nI k)) (zJ := fun zi (zs : Int32 × pI) => zs.1 = nI zi ∧ (∀ zq, zq ≠ 68 → zs.2 zq = I zq) ∧ (∀ zj, zj < zi → zs.2 68 zj = I 68 (zj + zo)) ∧ ∀ zj, 1160 ≤ zj → zs.2 68 zj = I 68 zj) (zE := fun (M : pI) => (∀ zq, zq ≠ 68 → M zq = I zq) ∧ (∀ zj, zj < 1160 → M 68 zj = I 68 (zj + zo)) ∧ ∀ zj, 1160 ≤ zj → M 68 zj = I 68 zj) (zm := 1160) (zn := zn) (by omega) ?_ ?_ (nI 0, I) ⟨rfl, fun _ _ => rfl, fun zj hj => absurd hj (Nat.not_lt_zero zj), fun _ _ => rfl⟩
  · rintro zi hi ⟨zs, X⟩ ⟨e1, e2, e3, e4⟩
    dsimp only at e1 e2 e3 e4
    subst e1
    left
    have hc : ¬ nI 1160 ≤ nI zi := nI_ge hi (by decide)
    have ib : p_ib N 68 (nI (zo + zi)) = true := ib_68 hG (by omega)
    have ic : (nI (zo + zi)).toNatClampNeg = zo + zi := nI_clamp (by omega)
    have ib2 : p_ib N 68 (nI zi) = true := ib_68 hG (by omega)
    have ic2 : (nI zi).toNatClampNeg = zi := nI_clamp (by omega)
    have ev : X 68 (zo + zi) = I 68 (zi + zo) := by rw [Nat.add_comm]; exact e4 _ (by omega)
    refine ⟨(nI (zi + 1), p_u X 68 zi (I 68 (zi + zo))), ⟨rfl, fun zq hq => by dsimp only; rw [p_u_ne hq, e2 zq hq], fun zj hj => ?_, fun zj hj => by dsimp only; rw [p_u_nk (by omega), e4 zj hj]⟩, fun zrec => ?_⟩
    · dsimp only
      by_cases hz : zj = zi
      · rw [hz, p_u_self]
      · rw [p_u_nk hz, e3 zj (by omega)]
    · unfold B_X12_again_22
      simp only [if_neg hc, gp_67_0 hG, Option.bind_some, nI_add, hidx, n_ck ib, ic, n_ck ib2, ic2, ev, n_let]
  · rintro ⟨zs, X⟩ ⟨e1, e2, e3, e4⟩
    dsimp only at e1 e2 e3 e4
    subst e1
    refine ⟨X, ⟨e2, e3, e4⟩, fun zrec => ?_⟩
    unfold B_X12_again_22
    simp only [if_pos (Int32.le_refl (nI 1160))]
end Move
theorem q_isIn02 {x : Int32} : (x < 0 ∨ nI 3 ≤ x) → f_X12_isIn x (nI 0) (nI 2) = some (bI false) := fun h => by
  rw [m_isIn, show (nI 0 : Int32) = 0 from rfl]
  rcases h with h | h
  · rw [decide_eq_true h]; rfl
  · rw [decide_eq_true ((n_le_lt (m := 2) (by decide)).mpr h), Bool.not_true, Bool.and_false]
theorem q_isIn02k {k : Nat} (h : k < 3) : f_X12_isIn (nI k) (nI 0) (nI 2) = some (bI true) := by
  rw [m_isIn, show (nI 0 : Int32) = 0 from rfl, decide_eq_false (nI_pos (show k < 2 ^ 31 by omega)), decide_eq_false (nI_nlt (show k ≤ 2 by omega) (by decide))]
  rfl
theorem sp_again {n zk : Nat} (hk : zk < 512) (hn : 3000 < n) : Sp_again n (Ivv zk) (Ivv (zk + 1)) := by
  intro N I L P h x1
  have h : IV zk N P I := h
  have hG := h.gw
  have hl20 : (N.2 20).2 = 3 := by rw [gn_20 hG]
  rcases pk_ix x1 (n := 3) (by omega) with g | g | ⟨k, hk3, e⟩
  · refine ⟨(nI 0, I), (nI 0, I), ?_, ?_, rfl, h.up⟩
    · unfold f_X11_again p_cs
      simp only [if_pos g, Option.bind_some]
    · unfold f_X12_again
      simp only [q_isIn02 (Or.inl g), Option.bind_some, bI_iff]
  · have g1 : ¬ x1 < 0 := fun f => by
      have a1 := Int32.lt_iff_toInt_lt.mp f
      have a2 := Int32.le_iff_toInt_le.mp g
      have a3 : (0 : Int32).toInt = 0 := rfl
      have a4 : (nI 3).toInt = 3 := by decide
      omega
    have g2 : nI (N.2 20).2 ≤ x1 := by rw [hl20]; exact g
    refine ⟨(nI 0, I), (nI 0, I), ?_, ?_, rfl, h.up⟩
    · unfold f_X11_again p_cs
      simp only [if_neg g1, gp_0_1 hG, Option.bind_some, if_pos g2]
    · unfold f_X12_again
      simp only [q_isIn02 (Or.inr g), Option.bind_some, bI_iff]
  · subst e
    have g1 : ¬ nI k < 0 := nI_pos (by omega)
    have g2 : ¬ nI (N.2 20).2 ≤ nI k := by rw [hl20]; exact nI_ge hk3 (by decide)
    have ib20 : p_ib N 20 (nI k) = true := n_ib (gn_20 hG) hk3 (by decide)
    have ib69 : p_ib N 69 (nI k) = true := n_ib (gn_69 hG) hk3 (by decide)
    have ic : (nI k).toNatClampNeg = k := nI_clamp (by omega)
    rcases h.2.2.1.1 k hk3 with ⟨p1, p2⟩ | ⟨zj, p1, p2, p3, p4⟩
    · refine ⟨(nI 0, I), (nI 0, I), ?_, ?_, rfl, h.up⟩
      · unfold f_X11_again
        simp only [if_neg g1, gp_0_1 hG, Option.bind_some, if_neg g2, n_ck ib20, ic, p1]
        rfl
      · unfold f_X12_again
        simp only [q_isIn02k hk3, Option.bind_some, bI_ift, gp_67_1 hG, n_ck ib69, ic, p2, n_00, if_true]
    · have hptr : q_ptr P (86 + 19 * zj) := fun j hj => (p3.2.2 j hj).1
      obtain ⟨J, j1, j2, j3, j4⟩ := c_copy (N := N) (I := I) hptr (q_ptr1 hG) p4.tbl h.sr.tbl (b := 86 + 19 * zj) (b2 := 1) (by omega)
      have hSx : SR N P (q_r68 J (fun zi => if zi < 1160 then I 68 (zi + 1160 * (k + 1)) else I 68 zi)) 1 0 := by
        refine p4.move (fun j hj r hr => ?_) (fun q q1 q2 => ?_) (fun zi hi => ?_)
        · obtain ⟨a1, a2⟩ := j3 j hj r hr
          exact ⟨a1.of (fun zi => by rw [q_r68_n (by omega)]), fun zi hzi => by rw [q_r68_n (by omega)]; exact a2 zi hzi⟩
        · rw [q_r68_n (by decide)]; exact j4 q q1 q2
        · rw [q_r68_s]
          show (if zi < 1160 then I 68 (zi + 1160 * (k + 1)) else I 68 zi) = _
          rw [if_pos hi]
      obtain ⟨K, a1, a2, a3, a4⟩ := h.fresh hk (J := J) (T := fun zi => if zi < 1160 then I 68 (zi + 1160 * (k + 1)) else I 68 zi) (fun zq a b => j2 zq (by omega)) hSx (fun zi a => if_neg (by omega)) (zn := n) (by omega)
      obtain ⟨M0, n1, n2, n3, n4⟩ := m_againL (I := K) (k := k) (zo := 1160 * (k + 1)) hG (pk_mul _ _) (by omega) (by omega) hn
      obtain ⟨M, m1, m2, m3⟩ := m_forgets (I := M0) hG hn
      have e69 : K 69 k = nI 1 := by rw [a3 69 (by decide), j2 69 (by decide)]; exact p2
      refine ⟨(nI 1, K), (nI 1, M), ?_, ?_, rfl, ?_⟩
      · unfold f_X11_again
        simp only [if_neg g1, gp_0_1 hG, Option.bind_some, if_neg g2, n_ck ib20, ic, p1]
        show (Option.bind (P 0 0) fun q14 => Option.bind (f_X7_copy N I P q14 (86 + 19 * zj)) fun q17 => Option.bind (f_X11_refresh n N q17 P 0) fun q19 => some (nI 1, q19)) = _
        rw [gp_0_0 hG, Option.bind_some, j1, Option.bind_some, a1, Option.bind_some]
      · unfold f_X12_again
        simp only [q_isIn02k hk3, Option.bind_some, bI_ift, gp_67_1 hG, n_ck ib69, ic, e69, n_10, if_false, n1, m1]
      · refine a4 M (fun zq a b => by rw [m2 zq (by omega), n2 zq a]) ?_ m3
        rw [m2 68 (by decide)]
        funext zi
        by_cases hz : zi < 1160
        · rw [n3 zi hz, if_pos hz, a2]
        · rw [n4 zi (by omega), if_neg hz, a2]
