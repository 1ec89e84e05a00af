/-! the ways, listed by both -/
section Lists
variable {N : pN} {P : pR} {I J : pI} {L : pL} {zk : Nat}
theorem IV.listed (h : IV zk N P I) {X : pI} (hF : c_sF I J) (hX : ∀ zq, zq ≠ 31 → X zq = J zq) {zs zx zy : Nat} (hs : zs < nv (I 68 1)) (hx : zx ≤ 20) (hy : zy ≤ 20) (hLS : q_LS N P X (q_alS (I 68) zs zx zy) (q_isort q_ltC (q_alS (I 68) zs zx zy))) : IV zk N P (p_u X 44 7 (nI ((zs * 21 + zy) * 21 + zx))) ∧ c_gF I (p_u X 44 7 (nI ((zs * 21 + zy) * 21 + zx))) := by
  have hg : ∀ zq, zq ≠ 21 → zq ≠ 29 → zq ≠ 30 → zq ≠ 31 → zq ≠ 44 → p_u X 44 7 (nI ((zs * 21 + zy) * 21 + zx)) zq = I zq := fun zq a b c d e => by rw [p_u_ne e, hX zq d, hF.1 zq a b c d]
  have e44 : ∀ zj, zj ≠ 7 → p_u X 44 7 (nI ((zs * 21 + zy) * 21 + zx)) 44 zj = I 44 zj := fun zj a => by rw [p_u_nk a, hX 44 (by decide), hF.1 44 (by decide) (by decide) (by decide) (by decide)]
  have e447 : p_u X 44 7 (nI ((zs * 21 + zy) * 21 + zx)) 44 7 = nI ((zs * 21 + zy) * 21 + zx) := p_u_self
  have e21 : p_u X 44 7 (nI ((zs * 21 + zy) * 21 + zx)) 21 = J 21 := by rw [p_u_ne (by decide), hX 21 (by decide)]
  have e29 : p_u X 44 7 (nI ((zs * 21 + zy) * 21 + zx)) 29 = X 29 := p_u_ne (by decide)
  have e30 : p_u X 44 7 (nI ((zs * 21 + zy) * 21 + zx)) 30 = X 30 := p_u_ne (by decide)
  have e31 : p_u X 44 7 (nI ((zs * 21 + zy) * 21 + zx)) 31 = X 31 := p_u_ne (by decide)
  generalize p_u X 44 7 (nI ((zs * 21 + zy) * 21 + zx)) = Y at hg e44 e447 e21 e29 e30 e31
  have e68 : Y 68 = I 68 := hg 68 (by decide) (by decide) (by decide) (by decide) (by decide)
  refine ⟨?_, fun zq a b c d e f g => hg zq a b c d e⟩
  obtain ⟨h1, h2, h3, h4, h5, h6, h7⟩ := h
  refine ⟨h1, h2.of (fun zq a b => hg zq (by omega) (by omega) (by omega) (by omega) (by omega)) (fun zj _ => by rw [e68]), h3.of (fun zq a => hg zq (by omega) (by omega) (by omega) (by omega) (by omega)) (fun zj _ => by rw [e68]) (hg 69 (by decide) (by decide) (by decide) (by decide) (by decide)), ?_, ?_, ?_, ?_, h7.2.of (hg 65 (by decide) (by decide) (by decide) (by decide) (by decide))⟩
  · obtain ⟨b1, b2, b3, _, b5⟩ := h4
    refine ⟨?_, by rw [e68, e21, hF.2 10 (by decide) (by decide)]; exact b2, by rw [e68, e21, hF.2 11 (by decide) (by decide)]; exact b3, ⟨_, hLS.1.of (fun zi => by rw [e29])⟩, fun zw hw => by rw [hg (43 - zw) (by omega) (by omega) (by omega) (by omega) (by omega)]; exact b5 zw hw⟩
    intro zw hw
    have h3 := b1 zw hw
    unfold q_bar at h3 ⊢
    rw [e68, hg (43 - zw) (by omega) (by omega) (by omega) (by omega) (by omega)]
    exact h3
  · unfold R_memo at h5 ⊢
    rw [e68, e44 6 (by decide), hg 45 (by decide) (by decide) (by decide) (by decide) (by decide), hg 46 (by decide) (by decide) (by decide) (by decide) (by decide)]
    exact h5
  · unfold R_msig at h6 ⊢
    rw [e68, hg 77 (by decide) (by decide) (by decide) (by decide) (by decide)]
    exact h6
  · refine Or.inr ⟨zs, zx, zy, by rw [e68]; exact hs, hx, hy, e447, ?_⟩
    rw [e68]
    unfold q_LS at hLS ⊢
    rw [e30, e31]
    exact ⟨hLS.1.of (fun zi => by rw [e29]), hLS.2⟩
theorem c_list (h : IV zk N P I) {zn : Nat} (hn : 200 < zn) (x1 x2 x3 : Int32) : ∃ J K, f_X3_list zn N I L P 44 x1 x2 x3 = some (bI (q_st (I 68) x1 && q_pt x2 x3), J, K) ∧ IV zk N P J ∧ c_gF I J ∧ ((q_st (I 68) x1 && q_pt x2 x3) = true → q_LS N P J (q_alS (I 68) (nv x1) (nv x2) (nv x3)) (q_isort q_ltC (q_alS (I 68) (nv x1) (nv x2) (nv x3)))) := by
  have hG := h.gw
  have h6 := h.n1.2
  cases hb : q_st (I 68) x1 with
  | false =>
    refine ⟨I, L, ?_, h, c_gF.rf, fun e => by cases e⟩
    unfold f_X3_list
    simp only [gp_44_0 hG, Option.bind_some, c_st hG h.sr, hb, bI_iff, Bool.false_and]
    rfl
  | true =>
    cases hp : q_pt x2 x3 with
    | false =>
      refine ⟨I, L, ?_, h, c_gF.rf, fun e => by cases e⟩
      unfold f_X3_list
      simp only [gp_44_0 hG, Option.bind_some, c_st hG h.sr, hb, c_point, hp, bI_iff, bI_ift, Bool.and_false]
      rfl
    | true =>
      obtain ⟨zx, zy, hx, hy, e2, e3⟩ := q_ptx hp
      rcases q_st_x h.n1 (by decide) x1 with ⟨e, g⟩ | ⟨zs, hs, e, _⟩
      · rw [hb] at e; cases e
      · have k1 : nI zs * nI 21 + nI zy = nI (zs * 21 + zy) := by rw [pk_mul, nI_add]
        have k2 : nI (zs * 21 + zy) * nI 21 + nI zx = nI ((zs * 21 + zy) * 21 + zx) := by rw [pk_mul, nI_add]
        have hkey : f_X3_keyOf (nI zs) (nI zx) (nI zy) = some (nI ((zs * 21 + zy) * 21 + zx)) := by
          unfold f_X3_keyOf
          rw [k1, k2]
        rw [e2, e3] at hp
        rw [e] at hb
        rw [e, e2, e3, nv_nI (zk := zs) (by omega), nv_nI (zk := zx) (by omega), nv_nI (zk := zy) (by omega)]
        by_cases hc : I 44 7 = nI ((zs * 21 + zy) * 21 + zx)
        · refine ⟨I, L, ?_, h, c_gF.rf, fun _ => ?_⟩
          · unfold f_X3_list
            simp only [gp_44_0 hG, Option.bind_some, c_st hG h.sr, hb, c_point, hp, bI_ift, hkey, if_pos hc, Bool.and_self]
            rfl
          · rcases h.2.2.2.2.2.2.1 with g | ⟨as, ax, ay, g1, g2, g3, g4, g5⟩
            · rw [hc] at g
              exact absurd g (n_neg1 (by omega))
            · rw [hc] at g4
              have g6 := (nI_eq (by omega) (by omega)).mp g4
              have g7 : as = zs ∧ ax = zx ∧ ay = zy := by omega
              obtain ⟨q1, q2, q3⟩ := g7
              subst q1; subst q2; subst q3
              exact g5
        · obtain ⟨J, K, j1, j2, j3⟩ := c_search1 (L := L) h hs hx hy (zn := zn) (by omega)
          have hlen : (q_alS (I 68) zs zx zy).length ≤ 169 := q_allC_len
          have hrw : q_rw J (q_alS (I 68) zs zx zy) := fun zi zq hh => by
            obtain ⟨a0, a1, a2, a3, a4, a5, _⟩ := j2.2.1 zi zq hh
            exact ⟨a0, a1, a2, a3, a4, a5⟩
          have h31 : ∀ zi, zi < (q_alS (I 68) zs zx zy).length → J 31 zi = nI zi := fun zi hi => by
            exact (j2.2.1 zi _ (List.getElem?_eq_getElem hi)).2.2.2.2.2.2
          obtain ⟨X, s1, s2, s3⟩ := c_sort hG hlen j2.1 hrw h31 (zn := zn) hn
          obtain ⟨l1, l2⟩ := h.listed j3 s2 hs hx hy s3
          refine ⟨p_u X 44 7 (nI ((zs * 21 + zy) * 21 + zx)), K, ?_, l1, l2, fun _ => ?_⟩
          · unfold f_X3_list
            simp only [gp_44_0 hG, gp_44_1 hG, gp_1_2 hG, Option.bind_some, c_st hG h.sr, hb, c_point, hp, bI_ift, hkey, if_neg hc, j1, s1, n_let, Bool.and_self]
            rfl
          · unfold q_LS at s3 ⊢
            rw [p_u_ne (by decide), p_u_ne (by decide)]
            exact ⟨s3.1.of (fun zi => by rw [p_u_ne (by decide)]), s3.2⟩
theorem m_isAhead (hG : GW N P) {l : List qW} (hl : l.length < 200) (hr : q_MR I l) {j k : Nat} {x q : qW} (hj : l[j]? = some x) (hk : l[k]? = some q) : f_X12_isAhead N I P 67 (nI k) (nI j) = some (bI (q_ltM q x)) := by
  have lj := q_lt_of hj
  have lk := q_lt_of hk
  obtain ⟨a0, a1, a2, a3, a4, _⟩ := hr.2 j x hj
  obtain ⟨b0, b1, b2, b3, b4, _⟩ := hr.2 k q hk
  have cj : (nI j).toNatClampNeg = j := nI_clamp (by omega)
  have ck : (nI k).toNatClampNeg = k := nI_clamp (by omega)
  have i0j : p_ib N 70 (nI j) = true := n_ib (gn_70 hG) (show j < 200 by omega) (by decide)
  have i1j : p_ib N 71 (nI j) = true := n_ib (gn_71 hG) (show j < 200 by omega) (by decide)
  have i2j : p_ib N 72 (nI j) = true := n_ib (gn_72 hG) (show j < 200 by omega) (by decide)
  have i3j : p_ib N 73 (nI j) = true := n_ib (gn_73 hG) (show j < 200 by omega) (by decide)
  have i4j : p_ib N 74 (nI j) = true := n_ib (gn_74 hG) (show j < 200 by omega) (by decide)
  have i0k : p_ib N 70 (nI k) = true := n_ib (gn_70 hG) (show k < 200 by omega) (by decide)
  have i1k : p_ib N 71 (nI k) = true := n_ib (gn_71 hG) (show k < 200 by omega) (by decide)
  have i2k : p_ib N 72 (nI k) = true := n_ib (gn_72 hG) (show k < 200 by omega) (by decide)
  have i3k : p_ib N 73 (nI k) = true := n_ib (gn_73 hG) (show k < 200 by omega) (by decide)
  have i4k : p_ib N 74 (nI k) = true := n_ib (gn_74 hG) (show k < 200 by omega) (by decide)
  have hc : q_cmp q.2.2.2.1.toInt64 q.2.2.2.2.1.toInt64 x.2.2.2.1.toInt64 x.2.2.2.2.1.toInt64 = q_cmpW q x := rfl
  have hlen : f_X12_lengths N I P 67 (nI k) (nI j) = some (q_cmpW q x) := by
    unfold f_X12_lengths
    simp only [gp_67_10 hG, gp_67_11 hG, Option.bind_some, n_ck i3k, n_ck i4k, n_ck i3j, n_ck i4j, cj, ck, a3, a4, b3, b4, m_lengths, hc]
  unfold f_X12_isAhead q_ltM
  simp only [hlen, Option.bind_some, gp_67_7 hG, gp_67_8 hG, gp_67_9 hG, n_ck i0k, n_ck i1k, n_ck i2k, n_ck i0j, n_ck i1j, n_ck i2j, cj, ck, a0, a1, a2, b0, b1, b2]
  by_cases h0 : q_cmpW q x = 0
  · rw [if_pos h0, if_pos h0]
    by_cases h1 : q.1 = x.1
    · rw [if_pos h1, if_pos h1]
      by_cases h2 : q.2.1 = x.2.1
      · rw [if_pos h2, if_pos h2]
        by_cases h3 : x.2.2.1 ≤ q.2.2.1
        · rw [if_pos h3, decide_eq_true h3]; rfl
        · rw [if_neg h3, decide_eq_false h3]; rfl
      · rw [if_neg h2, if_neg h2]
        by_cases h3 : x.2.1 ≤ q.2.1
        · rw [if_pos h3, decide_eq_true h3]; rfl
        · rw [if_neg h3, decide_eq_false h3]; rfl
    · rw [if_neg h1, if_neg h1]
      by_cases h3 : x.1 ≤ q.1
      · rw [if_pos h3, decide_eq_true h3]; rfl
      · rw [if_neg h3, decide_eq_false h3]; rfl
  · rw [if_neg h0, if_neg h0]
    by_cases h3 : 0 ≤ q_cmpW q x
    · rw [if_pos h3, decide_eq_true h3]; rfl
    · rw [if_neg h3, decide_eq_false h3]; rfl
theorem q_MR.of {l : List qW} {X : pI} (h : q_MR J l) (e : ∀ zq, zq ≠ 76 → X zq = J zq) : q_MR X l := by
  refine ⟨by rw [e 67 (by decide)]; exact h.1, fun zi zq hh => ?_⟩
  rw [e 70 (by decide), e 71 (by decide), e 72 (by decide), e 73 (by decide), e 74 (by decide), e 75 (by decide)]
  exact h.2 zi zq hh
theorem m_orderIn (hG : GW N P) {l : List qW} (hl : l.length < 200) {J : pI} (hr : q_MR J l) {k : Nat} {q : qW} (hk : l[k]? = some q) (hA : y_RA (q_isr q_ltM (l.take k)) l (J 76)) {zn : Nat} (hn : 200 < zn) : ∃ z X, p_it (B_X12_orders_12 N P 67 (nI k)) zn (nI k, J) = some (nI (k - z), X) ∧ z ≤ k ∧ (∀ zq, zq ≠ 76 → X zq = J zq) ∧ (∀ j x, j < z → (q_isr q_ltM (l.take k))[j]? = some x → q_ltM q x = true) ∧ (∀ x, (q_isr q_ltM (l.take k))[z]? = some x → q_ltM q x = false) ∧ (∀ i, i < k - z → X 76 i = J 76 i) ∧ (∀ i, k - z < i → i ≤ k → X 76 i = J 76 (i - 1)) := by
  have lk := q_lt_of hk
  have hRl : (q_isr q_ltM (l.take k)).length = k := by rw [y_isr_len, List.length_take]; omega
  generalize q_isr q_ltM (l.take k) = R at hA hRl ⊢
  have hloop := p_loopI (B := B_X12_orders_12 N P 67 (nI k)) (zJ := fun z (zc : Int32 × pI) => zc.1 = nI (k - z) ∧ (∀ zq, zq ≠ 76 → zc.2 zq = J zq) ∧ (∀ j x, j < z → R[j]? = some x → q_ltM q x = true) ∧ (∀ i, i ≤ k - z → zc.2 76 i = J 76 i ∨ i = k) ∧ (∀ i, k - z < i → i ≤ k → zc.2 76 i = J 76 (i - 1))) (zE := fun (zt : Int32 × pI) => ∃ z, zt.1 = nI (k - z) ∧ z ≤ k ∧ (∀ zq, zq ≠ 76 → zt.2 zq = J zq) ∧ (∀ j x, j < z → R[j]? = some x → q_ltM q x = true) ∧ (∀ x, R[z]? = some x → q_ltM q x = false) ∧ (∀ i, i < k - z → zt.2 76 i = J 76 i) ∧ (∀ i, k - z < i → i ≤ k → zt.2 76 i = J 76 (i - 1))) (zm := k) (zn := zn) (by omega) ?_ ?_ (nI k, J) ⟨rfl, fun _ _ => rfl, fun j x hj => absurd hj (Nat.not_lt_zero j), fun _ _ => Or.inl rfl, fun i h1 h2 => by omega⟩
  · obtain ⟨⟨za, X⟩, k1, z, k2, k3⟩ := hloop
    dsimp only at k2 k3
    subst k2
    exact ⟨z, X, k1, k3⟩
  · rintro z hz ⟨za, X⟩ ⟨e1, e2, e3, e4, e5⟩
    dsimp only at e1 e2 e3 e4 e5
    subst e1
    have hc : ¬ nI (k - z) ≤ 0 := nI_nle (by omega) (by omega)
    have hs : nI (k - z) - nI 1 = nI (k - z - 1) := pk_sub (by omega)
    have ib1 : p_ib N 76 (nI (k - z - 1)) = true := n_ib (gn_76 hG) (show k - z - 1 < 200 by omega) (by decide)
    have ib2 : p_ib N 76 (nI (k - z)) = true := n_ib (gn_76 hG) (show k - z < 200 by omega) (by decide)
    have ic1 : (nI (k - z - 1)).toNatClampNeg = k - z - 1 := nI_clamp (by omega)
    have ic2 : (nI (k - z)).toNatClampNeg = k - z := nI_clamp (by omega)
    obtain ⟨x, hx⟩ : ∃ x, R[z]? = some x := ⟨R[z]'(by omega), List.getElem?_eq_getElem (by omega)⟩
    obtain ⟨j, j1, j2⟩ := hA z x hx
    rw [hRl, show k - 1 - z = k - z - 1 by omega] at j1
    have eX : X 76 (k - z - 1) = nI j := by
      rcases e4 (k - z - 1) (by omega) with g | g
      · rw [g]; exact j1
      · omega
    have hah := m_isAhead hG hl (hr.of e2) j2 hk
    cases hlt : q_ltM q x with
    | false =>
      rw [hlt] at hah
      right
      refine ⟨(nI (k - z), X), ⟨z, rfl, by omega, e2, e3, fun y hy => by rw [hx] at hy; cases hy; exact hlt, fun i hi => (e4 i (by omega)).resolve_right (by omega), e5⟩, fun zrec => ?_⟩
      unfold B_X12_orders_12
      simp only [if_neg hc, gp_67_19 hG, Option.bind_some, hs, n_ck ib1, ic1, eX, hah, bI_iff]
    | true =>
      rw [hlt] at hah
      left
      have hm1 : nI (k - z) + (-1) = nI (k - (z + 1)) := by
        rw [show k - z = (k - (z + 1)) + 1 by omega]
        exact pk_m1 _
      refine ⟨(nI (k - (z + 1)), p_u X 76 (k - z) (nI j)), ⟨rfl, fun zq hq => by dsimp only; rw [p_u_ne hq, e2 zq hq], fun j2 y hj2 hy => ?_, fun i hi => ?_, fun i h1 h2 => ?_⟩, fun zrec => ?_⟩
      · by_cases hz2 : j2 = z
        · rw [hz2, hx] at hy; cases hy; exact hlt
        · exact e3 j2 y (by omega) hy
      · dsimp only; rw [p_u_nk (by omega)]; exact e4 i (by omega)
      · dsimp only
        by_cases hi : i = k - z
        · rw [hi, p_u_self]; exact j1.symm
        · rw [p_u_nk hi, e5 i (by omega) h2]
      · unfold B_X12_orders_12
        simp only [if_neg hc, gp_67_19 hG, Option.bind_some, hs, n_ck ib1, n_ck ib2, ic1, ic2, eX, hah, bI_ift, n_let, hm1]
  · rintro ⟨za, X⟩ ⟨e1, e2, e3, e4, e5⟩
    dsimp only at e1 e2 e3 e4 e5
    subst e1
    refine ⟨(nI (k - k), X), ⟨k, rfl, Nat.le_refl _, e2, e3, fun (x : qW) (hx : R[k]? = some x) => (by rw [List.getElem?_eq_none (by omega)] at hx; cases hx), fun i hi => by omega, e5⟩, fun zrec => ?_⟩
    have hc : nI (k - k) ≤ 0 := by rw [Nat.sub_self]; decide
    unfold B_X12_orders_12
    simp only [if_pos hc]
theorem m_orders (hG : GW N P) {l : List qW} (hl : l.length < 200) {J : pI} (hr : q_MR J l) {zn : Nat} (hn : 200 < zn) : ∃ X, f_X12_orders zn N J P 67 = some X ∧ (∀ zq, zq ≠ 76 → X zq = J zq) ∧ (∀ i x, (q_isort q_ltM l)[i]? = some x → ∃ j, X 76 i = nI j ∧ l[j]? = some x) := by
  have hloop := p_loopI (B := B_X12_orders_2 zn N P 67) (zJ := fun zj (zc : Int32 × pI) => zc.1 = nI zj ∧ (∀ zq, zq ≠ 76 → zc.2 zq = J zq) ∧ y_RA (q_isr q_ltM (l.take zj)) l (zc.2 76)) (zE := fun X => (∀ zq, zq ≠ 76 → X zq = J zq) ∧ y_RA (q_isr q_ltM l) l (X 76)) (zm := l.length) (zn := zn) (by omega) ?_ ?_ (nI 0, J) ⟨rfl, fun _ _ => rfl, fun i x hx => by cases hx⟩
  · obtain ⟨X, k1, k2, k3⟩ := hloop
    refine ⟨X, ?_, k2, y_RA_m k3⟩
    unfold f_X12_orders
    rw [k1, Option.bind_some]
  · rintro zj hj ⟨za, X⟩ ⟨e1, e2, e3⟩
    dsimp only at e1 e2 e3
    subst e1
    left
    obtain ⟨q, hq⟩ : ∃ q, l[zj]? = some q := ⟨l[zj]'hj, List.getElem?_eq_getElem hj⟩
    obtain ⟨z, Y, y1, y2, y3, y4, y5, y6, y7⟩ := m_orderIn hG hl (hr.of e2) hq e3 (zn := zn) hn
    have hc1 : ¬ X 67 13 ≤ nI zj := by rw [(hr.of e2).1]; exact nI_ge hj (by omega)
    have ib2 : p_ib N 76 (nI (zj - z)) = true := n_ib (gn_76 hG) (show zj - z < 200 by omega) (by decide)
    have ic2 : (nI (zj - z)).toNatClampNeg = zj - z := nI_clamp (by omega)
    have hRl : (q_isr q_ltM (l.take zj)).length = zj := by rw [y_isr_len, List.length_take]; omega
    refine ⟨(nI (zj + 1), p_u Y 76 (zj - z) (nI zj)), ⟨rfl, fun zq hq => by dsimp only; rw [p_u_ne hq, y3 zq hq, e2 zq hq], ?_⟩, fun zrec => ?_⟩
    · dsimp only
      rw [y_isr_s hq]
      refine y_RA_ins (f := X 76) (z := z) e3 y4 y5 (by omega) (by rw [hRl]; exact hq) (fun i hi => ?_) ?_ (fun i h1 h2 => ?_)
      · rw [hRl] at hi
        rw [p_u_nk (by omega), y6 i hi]
      · rw [hRl, p_u_self]
      · rw [hRl] at h1 h2
        rw [p_u_nk (by omega), y7 i h1 h2]
    · unfold B_X12_orders_2
      simp only [if_neg hc1, y1, gp_67_19 hG, Option.bind_some, n_ck ib2, ic2, n_let, nI_add]
  · rintro ⟨za, X⟩ ⟨e1, e2, e3⟩
    dsimp only at e1 e2 e3
    subst e1
    have hc1 : X 67 13 ≤ nI l.length := by rw [(hr.of e2).1]; exact Int32.le_refl _
    rw [List.take_of_length_le (Nat.le_refl _)] at e3
    refine ⟨X, ⟨e2, e3⟩, fun zrec => ?_⟩
    unfold B_X12_orders_2
    simp only [if_pos hc1]
def q_aS (A : Nat → Int32) (s x y : Nat) : List qW := q_all A (A (120 + 8 * s + 0)) (A (120 + 8 * s + 1)) (A (120 + 8 * s + 3)) (nI x) (nI y)
theorem q_aS_perm {A : Nat → Int32} (h12 : nv (A 0) ≤ 12) {s x y : Nat} : (q_aS A s x y).Perm (q_alS A s x y) := q_all_perm h12
theorem q_allC_kd {T : Nat → Int32} {fx fy pw tx ty : Int32} (hT : q_tok T) (hf1 : rg fx 20) (hf2 : rg fy 20) (ht1 : rg tx 20) (ht2 : rg ty 20) (hpw : rg pw 9999) {zq : qW} (hq : zq ∈ q_allC T fx fy pw tx ty) : ∃ zk, zk ≤ 3 ∧ zq.1 = nI zk := by
  unfold q_allC at hq
  rcases List.mem_append.mp hq with g | g
  · rcases List.mem_append.mp g with g | g
    · rcases List.mem_append.mp g with g | g
      · exact ⟨0, by decide, (q_S_E hT hf1 hf2 ht1 ht2 hpw g).1⟩
      · obtain ⟨zw, _, h2⟩ := q_cat_mem 12 (q_ite_mem g)
        obtain ⟨h3, h4⟩ := q_M1_mem h2
        exact ⟨1, by decide, (q_M_E hT hf1 hf2 ht1 ht2 hpw h3 h4).1⟩
    · obtain ⟨zw, _, h2⟩ := q_cat_mem 12 (q_ite_mem g)
      obtain ⟨h3, zv, _, h4, _, h5⟩ := q_PP_mem h2
      exact ⟨2, by decide, (q_P_E hT hf1 hf2 ht1 ht2 hpw h3 h4 h5).1⟩
  · obtain ⟨zw, _, h2⟩ := q_cat_mem 12 (q_ite_mem g)
    obtain ⟨h3, ze, h4, h5⟩ := q_Cs_mem h2
    exact ⟨3, by decide, (q_C_E hT hf1 hf2 ht1 ht2 hpw h3 h4 h5).1⟩
theorem q_aS_ok (hS : SR N P I 1 0) {s x y : Nat} (hs : s < nv (I 68 1)) (hx : x ≤ 20) (hy : y ≤ 20) : (∀ w, w ∈ q_alS (I 68) s x y → q_lw w ∧ ∃ zk, zk ≤ 3 ∧ w.1 = nI zk) ∧ (q_alS (I 68) s x y).Pairwise q_lx := by
  obtain ⟨w0, w1, w2, w3, _⟩ := (hS.sn hs).2.2
  refine ⟨fun w hw => ?_, q_allC_pw hS.tok w0 w1 (rg.of hx (by decide)) (rg.of hy (by decide)) w3⟩
  obtain ⟨k, f, g, hE⟩ := q_allC_mem hS.tok w0 w1 (rg.of hx (by decide)) (rg.of hy (by decide)) w3 hw
  exact ⟨hE.2.2.2.1, q_allC_kd hS.tok w0 w1 (rg.of hx (by decide)) (rg.of hy (by decide)) w3 hw⟩
theorem q_aS_srt (hS : SR N P I 1 0) {s x y : Nat} (hs : s < nv (I 68 1)) (hx : x ≤ 20) (hy : y ≤ 20) : q_isort q_ltM (q_aS (I 68) s x y) = q_isort q_ltC (q_alS (I 68) s x y) := by
  obtain ⟨h1, h2⟩ := q_aS_ok hS hs hx hy
  exact q_sorts (q_aS_perm hS.wfs.1) (fun w hw => (h1 w hw).1) h2
theorem m_finds (h : mK zk N P I J) {zn : Nat} (hn : 200 < zn) (x1 x2 x3 : Int32) : ∃ J2 K2, f_X12_finds zn N J L P 67 x1 x2 x3 = some (bI (q_st (I 68) x1 && q_pt x2 x3), J2, K2) ∧ mK zk N P I J2 ∧ ((q_st (I 68) x1 && q_pt x2 x3) = true → q_MR J2 (q_aS (I 68) (nv x1) (nv x2) (nv x3)) ∧ (q_aS (I 68) (nv x1) (nv x2) (nv x3)).length < 200 ∧ ∀ i x, (q_isort q_ltM (q_aS (I 68) (nv x1) (nv x2) (nv x3)))[i]? = some x → ∃ j, J2 76 i = nI j ∧ (q_aS (I 68) (nv x1) (nv x2) (nv x3))[j]? = some x) := by
  have hG := h.gw
  have h6 := h.n1.2
  have e68 := h.2.e68
  cases hb : q_st (I 68) x1 with
  | false =>
    refine ⟨J, L, ?_, h, fun e => by cases e⟩
    unfold f_X12_finds
    simp only [h.sees, hb, Option.bind_some, bI_iff, Bool.false_and]
    rfl
  | true =>
    cases hp : q_pt x2 x3 with
    | false =>
      refine ⟨J, L, ?_, h, fun e => by cases e⟩
      unfold f_X12_finds
      simp only [h.sees, hb, Option.bind_some, m_point, hp, bI_iff, bI_ift, Bool.and_false]
      rfl
    | true =>
      obtain ⟨zx, zy, hx, hy, e2, e3⟩ := q_ptx hp
      rcases q_st_x h.n1 (by decide) x1 with ⟨e, g⟩ | ⟨zs, hs, e, _⟩
      · rw [hb] at e; cases e
      · rw [e2, e3] at hp
        rw [e] at hb
        rw [e, e2, e3, nv_nI (zk := zs) (by omega), nv_nI (zk := zx) (by omega), nv_nI (zk := zy) (by omega)]
        have hs2 : zs < nv (J 68 1) := by rw [e68]; exact hs
        obtain ⟨w0, w1, w2, w3, _⟩ := (h.sr.sn hs2).2.2
        obtain ⟨J0, J2, K2, k1, k2, k3, k4, k5, k6, k7⟩ := m_find (I := J) (L := L) (pw := J 68 (120 + 8 * zs + 3)) hG h.sr.wf4 h.sr.wf2 w0 w1 (rg.of hx (by decide)) (rg.of hy (by decide)) hn
        have hMR : q_MR J2 (q_aS (I 68) zs zx zy) := by rw [← e68]; exact k4
        have hlen : (q_aS (I 68) zs zx zy).length < 200 := by
          have h12 : nv (I 68 0) ≤ 12 := by rw [← e68]; exact h.sr.wfs.1
          rw [(q_aS_perm h12).length_eq]
          have : (q_alS (I 68) zs zx zy).length ≤ 169 := q_allC_len
          omega
        obtain ⟨X, o1, o2, o3⟩ := m_orders hG hlen hMR hn
        refine ⟨X, K2, ?_, ⟨h.1.scratch (fun zq hq => by rw [o2 zq (by omega), k5.1 zq (by omega) (by omega)]), h.2.tr (fun zq a => by rw [o2 zq (by omega), k5.1 zq (by omega) (by omega)])⟩, fun _ => ⟨hMR.of o2, hlen, o3⟩⟩
        unfold f_X12_finds
        simp only [h.sees, hb, Option.bind_some, m_point, hp, bI_ift, h.sndr (zs := zs) (zj := 0) (by omega) (by decide), h.sndr (zs := zs) (zj := 1) (by omega) (by decide), h.sndr (zs := zs) (zj := 3) (by omega) (by decide)]
        rw [← e68, k1, Option.bind_some, k2, Option.bind_some, o1]
        rfl
end Lists
theorem sp_ways {n zk : Nat} (hn : 200 < n) : Sp_ways n (Ivv zk) (Ivv (zk + 1)) := by
  intro N I L P h x1 x2 x3
  have h : IV zk N P I := h
  have hG := h.gw
  obtain ⟨J, K, k1, k2, k3, k4⟩ := c_list (L := L) h hn x1 x2 x3
  obtain ⟨J2, K2, m1, m2, m3⟩ := m_finds (L := K) (mK.rf k2) hn x1 x2 x3
  rw [k3.e68] at m1 m3
  cases hb : (q_st (I 68) x1 && q_pt x2 x3) with
  | false =>
    rw [hb] at k1 m1
    refine ⟨(-1, J, K), (-1, J2, K2), ?_, ?_, rfl, m2.1.up⟩
    · unfold f_X11_ways
      simp only [gp_0_3 hG, Option.bind_some, k1, bI_iff]
    · unfold f_X12_ways
      simp only [m1, Option.bind_some, bI_iff]
  | true =>
    rw [hb] at k1 m1
    have t1 := (k4 hb).1
    have t2 := (m3 hb).1.1
    have hlen := (q_aS_perm (A := I 68) (s := nv x1) (x := nv x2) (y := nv x3) h.sr.wfs.1).length_eq
    refine ⟨(nI (q_alS (I 68) (nv x1) (nv x2) (nv x3)).length, J, K), (J2 67 13, J2, K2), ?_, ?_, ?_, m2.1.up⟩
    · unfold f_X11_ways f_X2_size
      simp only [gp_0_3 hG, gp_0_2 hG, gp_21_8 hG, Option.bind_some, k1, bI_ift, tb_size t1]
    · unfold f_X12_ways
      simp only [m1, Option.bind_some, bI_ift]
    · dsimp only
      rw [t2, hlen]
def q_saw (l : List qW) (k : Nat) : Bool := q_fold (fun i b => b || (match l[i]? with
  | some x => decide (x.1 = 0)
  | none => false)) k false
theorem q_saw_f {l : List qW} (h : ∀ x, x ∈ l → ¬ x.1 = 0) : ∀ k, q_saw l k = false := by
  intro k
  induction k with
  | zero => rfl
  | succ k ih =>
    show (q_saw l k || _) = false
    rw [ih, Bool.false_or]
    cases hx : l[k]? with
    | none => rfl
    | some x => exact decide_eq_false (h x (List.mem_of_getElem? hx))
theorem q_saw_t {l : List qW} {i : Nat} {x : qW} (hi : l[i]? = some x) (hx : x.1 = 0) : ∀ k, i < k → q_saw l k = true := by
  intro k
  induction k with
  | zero => intro h; omega
  | succ k ih =>
    intro h
    show (q_saw l k || (match l[k]? with
      | some x => decide (x.1 = 0)
      | none => false)) = true
    by_cases hz : i = k
    · rw [← hz, hi]
      show (_ || decide (x.1 = 0)) = true
      rw [decide_eq_true hx, Bool.or_true]
    · rw [ih (by omega), Bool.true_or]
theorem sp_sees {n zk : Nat} (hn : 200 < n) : Sp_sees n (Ivv zk) (Ivv (zk + 1)) := by
  intro N I L P h x1 x2 x3
  have h : IV zk N P I := h
  have hG := h.gw
  have h6 := h.n1.2
  obtain ⟨J, K, k1, k2, k3, k4⟩ := c_list (L := L) h hn x1 x2 x3
  obtain ⟨J2, K2, m1, m2, m3⟩ := m_finds (L := K) (mK.rf k2) hn x1 x2 x3
  rw [k3.e68] at m1 m3
  cases hb : (q_st (I 68) x1 && q_pt x2 x3) with
  | false =>
    rw [hb] at k1 m1
    refine ⟨(nI 0, J, K), (nI 0, J2, K2), ?_, ?_, rfl, m2.1.up⟩
    · unfold f_X11_sees
      simp only [gp_0_3 hG, Option.bind_some, k1, bI_iff]
    · unfold f_X12_sees
      simp only [m1, Option.bind_some, bI_iff]
  | true =>
    rw [hb] at k1 m1
    obtain ⟨t1, t2, _⟩ := k4 hb
    obtain ⟨r1, r2, _⟩ := m3 hb
    have hb2 := hb
    rw [Bool.and_eq_true] at hb2
    obtain ⟨zx, zy, hx, hy, ex, ey⟩ := q_ptx hb2.2
    have hs : nv x1 < nv (I 68 1) := by
      rcases q_st_x h.n1 (by decide) x1 with ⟨e, _⟩ | ⟨zs, hs, e, _⟩
      · rw [hb2.1] at e; cases e
      · rw [e, nv_nI (by omega)]; exact hs
    have hperm := q_aS_perm (A := I 68) (s := nv x1) (x := nv x2) (y := nv x3) h.sr.wfs.1
    obtain ⟨ok1, ok2⟩ := q_aS_ok h.sr hs (show nv x2 ≤ 20 by rw [ex, nv_nI (by omega)]; exact hx) (show nv x3 ≤ 20 by rw [ey, nv_nI (by omega)]; exact hy)
    generalize q_alS (I 68) (nv x1) (nv x2) (nv x3) = lC at t1 t2 hperm ok1 ok2
    generalize q_aS (I 68) (nv x1) (nv x2) (nv x3) = lM at r1 r2 hperm
    have hloop := p_loopI (B := B_X12_sees_18 N J2 P 67) (zJ := fun zj (zc : Int32 × Int32) => zc = (bI (q_saw lM zj), nI zj)) (zE := fun zt => zt = bI (q_saw lM lM.length)) (zm := lM.length) (zn := n) (by omega) ?_ ?_ (nI 0, nI 0) rfl
    · obtain ⟨zt, l1, l2⟩ := hloop
      subst l2
      have hm : f_X12_sees n N J K P 67 x1 x2 x3 = some (bI (q_saw lM lM.length), J2, K2) := by
        unfold f_X12_sees
        simp only [m1, Option.bind_some, bI_ift, l1, n_ck (bI_ck _)]
      cases lC with
      | nil =>
        have e : lM = [] := hperm.eq_nil
        subst e
        refine ⟨(nI 0, J, K), _, ?_, hm, rfl, m2.1.up⟩
        have hz : nI 0 ≤ 0 := by decide
        have t1 : TB N P J 29 30 169 6 0 := t1
        unfold f_X11_sees f_X2_sawTarget
        simp only [gp_0_3 hG, gp_0_2 hG, gp_21_8 hG, Option.bind_some, k1, bI_ift, tb_size t1, if_pos hz, n_00, if_true]
      | cons y ys =>
        have t1 : TB N P J 29 30 169 6 (ys.length + 1) := t1
        have hl := t1.2.2.2.2.2.1
        have hz : ¬ nI (ys.length + 1) ≤ 0 := nI_nle (by omega) (by omega)
        have ey0 : J 30 (0 * 6 + 0) = y.1 := (t2 0 y rfl).1
        have g0 := tb_get t1 (show 0 < ys.length + 1 by omega) (show 0 < 6 by decide)
        rw [ey0] at g0
        by_cases hy0 : y.1 = 0
        · have hmem : y ∈ lM := hperm.symm.subset List.mem_cons_self
          obtain ⟨i, hi⟩ := List.getElem?_of_mem hmem
          have hsaw := q_saw_t hi hy0 lM.length (q_lt_of hi)
          rw [hsaw] at hm
          refine ⟨(nI 1, J, K), _, ?_, hm, rfl, m2.1.up⟩
          unfold f_X11_sees f_X2_sawTarget
          simp only [gp_0_3 hG, gp_0_2 hG, gp_21_8 hG, Option.bind_some, k1, bI_ift, tb_size t1, if_neg hz, g0, if_pos hy0, n_10, if_false]
        · have hno : ∀ x, x ∈ lM → ¬ x.1 = 0 := fun x hx hx0 => by
            have hx2 := hperm.subset hx
            rw [List.mem_cons] at hx2
            rcases hx2 with hx2 | hx2
            · rw [hx2] at hx0; exact hy0 hx0
            · rw [List.pairwise_cons] at ok2
              have hlx := ok2.1 x hx2
              obtain ⟨zk2, z1, z2⟩ := (ok1 y List.mem_cons_self).2
              unfold q_lx at hlx
              rw [hx0] at hlx
              rcases hlx with g | ⟨g, _⟩
              · rw [z2] at g; exact nI_pos (by omega) g
              · exact hy0 g
          have hsaw := q_saw_f hno lM.length
          rw [hsaw] at hm
          refine ⟨(nI 0, J, K), _, ?_, hm, rfl, m2.1.up⟩
          unfold f_X11_sees f_X2_sawTarget
          simp only [gp_0_3 hG, gp_0_2 hG, gp_21_8 hG, Option.bind_some, k1, bI_ift, tb_size t1, if_neg hz, g0, if_neg hy0, n_00, if_true]
    · rintro zj hj _ rfl
      left
      have hc : ¬ J2 67 13 ≤ nI zj := by rw [r1.1]; exact nI_ge hj (by omega)
      have hib : p_ib N 70 (nI zj) = true := n_ib (gn_70 hG) (show zj < 200 by omega) (by decide)
      have kcl : (nI zj).toNatClampNeg = zj := nI_clamp (by omega)
      obtain ⟨x, hx⟩ : ∃ x, lM[zj]? = some x := ⟨lM[zj]'hj, List.getElem?_eq_getElem hj⟩
      have e70 := (r1.2 zj x hx).1
      refine ⟨_, rfl, fun zrec => ?_⟩
      show _ = zrec (bI (q_saw lM zj || (match lM[zj]? with
        | some x => decide (x.1 = 0)
        | none => false)), nI (zj + 1))
      rw [hx]
      unfold B_X12_sees_18
      cases q_saw lM zj with
      | true =>
        simp only [if_neg hc, bI_ift, Option.bind_some, Bool.true_or, nI_add]
        rfl
      | false =>
        by_cases h0 : x.1 = 0
        · simp only [if_neg hc, bI_iff, gp_67_7 hG, Option.bind_some, n_ck hib, kcl, e70, if_pos h0, decide_eq_true h0, Bool.or_true, nI_add]
          rfl
        · simp only [if_neg hc, bI_iff, gp_67_7 hG, Option.bind_some, n_ck hib, kcl, e70, if_neg h0, decide_eq_false h0, Bool.or_false, nI_add]
          rfl
    · rintro _ rfl
      have hc : J2 67 13 ≤ nI lM.length := by rw [r1.1]; exact Int32.le_refl _
      refine ⟨_, rfl, fun zrec => ?_⟩
      unfold B_X12_sees_18
      simp only [if_pos hc]
