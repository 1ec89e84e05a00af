/-! the reference chooses -/
section Cover2
variable {N : pN} {P : pR} {I J : pI} {L : pL} {zk : Nat}
theorem m_served (h : mK zk N P I J) {zn : Nat} (hn : 200 < zn) : ∃ J2 K2, p_it (B_X12_covers_13 zn N P 67) zn (nI 0, J, L) = some (J2, K2) ∧ mK zk N P I J2 ∧ ∀ zi, zi < nv (I 68 2) → J2 79 zi = q_rc (I 68) zi := by
  have hG := h.gw
  have r2 : rg (I 68 2) 8 := by rw [← h.2.e68]; exact h.1.n2
  have r3 : rg (I 68 3) 8 := by rw [← h.2.e68]; exact h.1.n3
  have h2 := r2.2
  have h3 := r3.2
  have i2 : p_ib N 68 (nI 2) = true := ib_68 hG (by decide)
  have i3 : p_ib N 68 (nI 3) = true := ib_68 hG (by decide)
  have i15 : p_ib N 68 (nI 15) = true := ib_68 hG (by decide)
  have k2 : (nI 2).toNatClampNeg = 2 := by decide
  have k3 : (nI 3).toNatClampNeg = 3 := by decide
  have k15 : (nI 15).toNatClampNeg = 15 := by decide
  have hinner : ∀ zi, zi < nv (I 68 2) → ∀ X Y, mK zk N P I X → X 79 zi = nI 0 → ∃ X2 Y2, p_it (B_X12_covers_32 zn N P 67 (nI zi)) zn (nI 0, X, Y) = some (X2, Y2) ∧ mK zk N P I X2 ∧ X2 79 zi = q_rc (I 68) zi ∧ ∀ zj, zj ≠ zi → X2 79 zj = X 79 zj := by
    intro zi hi X Y hX hX0
    have hib : p_ib N 79 (nI zi) = true := n_ib (gn_79 hG) (show zi < 8 by omega) (by decide)
    have kcl : (nI zi).toNatClampNeg = zi := nI_clamp (by omega)
    have hloop := p_loopI (B := B_X12_covers_32 zn N P 67 (nI zi)) (zJ := fun zj (zc : Int32 × pI × pL) => zc.1 = nI zj ∧ mK zk N P I zc.2.1 ∧ zc.2.1 79 zi = q_fold (q_rcf (I 68) zi) zj (nI 0) ∧ ∀ zj, zj ≠ zi → zc.2.1 79 zj = X 79 zj) (zE := fun (zt : pI × pL) => mK zk N P I zt.1 ∧ zt.1 79 zi = q_rc (I 68) zi ∧ ∀ zj, zj ≠ zi → zt.1 79 zj = X 79 zj) (zm := nv (I 68 3)) (zn := zn) (by omega) ?_ ?_ (nI 0, X, Y) ⟨rfl, hX, hX0, fun _ _ => rfl⟩
    · obtain ⟨⟨X2, Y2⟩, k1, k2⟩ := hloop
      exact ⟨X2, Y2, k1, k2⟩
    · rintro zj hj ⟨zb, J, K⟩ ⟨e1, e3, e4, e5⟩
      dsimp only at e1 e3 e4 e5
      subst e1
      left
      have hc : ¬ J 68 3 ≤ nI zj := by rw [e3.2.e68, r3.1]; exact nI_ge hj (by omega)
      obtain ⟨J2, K2, j1, j2, j3⟩ := e3.ss (L := K) hi hj hn
      have e15 : J2 68 15 = I 68 15 := by rw [j2.2.e68]
      have e79 : J2 79 = J 79 := j3.1 79 (by decide) (by decide) (by decide)
      refine ⟨(nI (zj + 1), p_u J2 79 zi (q_fold (q_rcf (I 68) zi) (zj + 1) (nI 0)), K2), ⟨rfl, ⟨j2.1.scratch (fun zq hq => p_u_ne (by omega)), j2.2.tr (fun zq a => p_u_ne (by omega))⟩, by dsimp only; rw [p_u_self], fun zl hl => by dsimp only; rw [p_u_nk hl, e79]; exact e5 zl hl⟩, fun zrec => ?_⟩
      show _ = zrec (nI (zj + 1), p_u J2 79 zi (q_rcf (I 68) zi zj (q_fold (q_rcf (I 68) zi) zj (nI 0))), K2)
      unfold B_X12_covers_32 q_rcf
      simp only [gp_67_0 hG, gp_67_22 hG, Option.bind_some, n_ck i3, k3, if_neg hc, n_ck hib, kcl, j1, n_ck i15, k15, e15, n_let, e4, nI_add]
      rfl
    · rintro ⟨zb, J, K⟩ ⟨e1, e3, e4, e5⟩
      dsimp only at e1 e3 e4 e5
      subst e1
      have hc : J 68 3 ≤ nI (nv (I 68 3)) := by rw [e3.2.e68, ← r3.1]; exact Int32.le_refl _
      refine ⟨(J, K), ⟨e3, e4, e5⟩, fun zrec => ?_⟩
      unfold B_X12_covers_32
      simp only [gp_67_0 hG, Option.bind_some, n_ck i3, k3, if_pos hc]
  have hloop := p_loopI (B := B_X12_covers_13 zn N P 67) (zJ := fun zj (zc : Int32 × pI × pL) => zc.1 = nI zj ∧ mK zk N P I zc.2.1 ∧ ∀ zi, zi < zj → zc.2.1 79 zi = q_rc (I 68) zi) (zE := fun (zt : pI × pL) => mK zk N P I zt.1 ∧ ∀ zi, zi < nv (I 68 2) → zt.1 79 zi = q_rc (I 68) zi) (zm := nv (I 68 2)) (zn := zn) (by omega) ?_ ?_ (nI 0, J, L) ⟨rfl, h, fun zi hi => absurd hi (Nat.not_lt_zero zi)⟩
  · obtain ⟨⟨J2, K2⟩, k1, k2⟩ := hloop
    exact ⟨J2, K2, k1, k2⟩
  · rintro zj hj ⟨zb, J, K⟩ ⟨e1, e3, e4⟩
    dsimp only at e1 e3 e4
    subst e1
    left
    have hc : ¬ J 68 2 ≤ nI zj := by rw [e3.2.e68, r2.1]; exact nI_ge hj (by omega)
    have hib : p_ib N 79 (nI zj) = true := n_ib (gn_79 hG) (show zj < 8 by omega) (by decide)
    have kcl : (nI zj).toNatClampNeg = zj := nI_clamp (by omega)
    obtain ⟨X2, Y2, x1, x2, x3, x4⟩ := hinner zj hj (p_u J 79 zj (nI 0)) K ⟨e3.1.scratch (fun zq hq => p_u_ne (by omega)), e3.2.tr (fun zq a => p_u_ne (by omega))⟩ p_u_self
    refine ⟨(nI (zj + 1), X2, Y2), ⟨rfl, x2, fun zi hi => ?_⟩, fun zrec => ?_⟩
    · dsimp only
      by_cases hz : zi = zj
      · rw [hz, x3]
      · rw [x4 zi hz, p_u_nk hz]; exact e4 zi (by omega)
    · unfold B_X12_covers_13
      simp only [gp_67_0 hG, gp_67_22 hG, Option.bind_some, n_ck i2, k2, if_neg hc, n_ck hib, kcl, n_let, x1, nI_add]
  · rintro ⟨zb, J, K⟩ ⟨e1, e3, e4⟩
    dsimp only at e1 e3 e4
    subst e1
    have hc : J 68 2 ≤ nI (nv (I 68 2)) := by rw [e3.2.e68, ← r2.1]; exact Int32.le_refl _
    refine ⟨(J, K), ⟨e3, e4⟩, fun zrec => ?_⟩
    unfold B_X12_covers_13
    simp only [gp_67_0 hG, Option.bind_some, n_ck i2, k2, if_pos hc]
theorem m_coverSet (hG : GW N P) {A : Nat → Int32} (e68 : I 68 = A) (r2 : rg (A 2) 8) (h79 : ∀ zi, zi < nv (A 2) → I 79 zi = q_rc A zi) {set zn : Nat} (hn : 200 < zn) : p_it (B_X12_covers_114 N I P 67 (nI set)) zn (nI 0, nI 0, nI 0, nI 0) = some (q_ro A set, q_co A set, nI (q_cnt set (nv (A 2)))) := by
  have h2 := r2.2
  have i2 : p_ib N 68 (nI 2) = true := ib_68 hG (by decide)
  have k2 : (nI 2).toNatClampNeg = 2 := by decide
  have hloop := p_loopI (B := B_X12_covers_114 N I P 67 (nI set)) (zJ := fun zj (zc : Int32 × Int32 × Int32 × Int32) => zc = (q_fold (q_rof A set) zj (nI 0), q_fold (q_cof A set) zj (nI 0), nI (q_cnt set zj), nI zj)) (zE := fun zt => zt = (q_ro A set, q_co A set, nI (q_cnt set (nv (A 2))))) (zm := nv (A 2)) (zn := zn) (by omega) ?_ ?_ (nI 0, nI 0, nI 0, nI 0) rfl
  · obtain ⟨zt, k1, k2⟩ := hloop
    rw [k1, k2]
  · rintro zj hj _ rfl
    left
    have hc : ¬ A 2 ≤ nI zj := by rw [r2.1]; exact nI_ge hj (by omega)
    have hib : p_ib N 79 (nI zj) = true := n_ib (gn_79 hG) (show zj < 8 by omega) (by decide)
    have kcl : (nI zj).toNatClampNeg = zj := nI_clamp (by omega)
    have ia : nI 170 + nI 4 * nI zj + nI 3 = nI (170 + 4 * zj + 3) := by rw [pk_mul, nI_add, nI_add]
    have ib : p_ib N 68 (nI (170 + 4 * zj + 3)) = true := ib_68 hG (by omega)
    have ic : (nI (170 + 4 * zj + 3)).toNatClampNeg = 170 + 4 * zj + 3 := nI_clamp (by omega)
    refine ⟨_, rfl, fun zrec => ?_⟩
    show _ = zrec (q_rof A set zj (q_fold (q_rof A set) zj (nI 0)), q_cof A set zj (q_fold (q_cof A set) zj (nI 0)), nI (if q_bit set zj = true then q_cnt set zj + 1 else q_cnt set zj), nI (zj + 1))
    unfold B_X12_covers_114 q_rof q_cof
    cases hb : q_bit set zj with
    | true =>
      have hb2 : ¬ (nI set >>> (nI zj &&& 31)) &&& nI 1 = 0 := by rw [q_bit_t hb]; decide
      simp only [gp_67_0 hG, gp_67_22 hG, Option.bind_some, n_ck i2, k2, e68, if_neg hc, if_neg hb2, n_ck hib, kcl, h79 zj hj, n_let, ia, n_ck ib, ic, nI_add, if_true]
    | false => simp only [gp_67_0 hG, gp_67_22 hG, Option.bind_some, n_ck i2, k2, e68, if_neg hc, if_pos (q_bit_f hb), nI_add, Bool.false_eq_true, if_false]
  · rintro _ rfl
    have hc : A 2 ≤ nI (nv (A 2)) := by rw [← r2.1]; exact Int32.le_refl _
    refine ⟨_, rfl, fun zrec => ?_⟩
    unfold B_X12_covers_114
    simp only [gp_67_0 hG, Option.bind_some, n_ck i2, k2, e68, if_pos hc]
    rfl
theorem m_covers (h : mK zk N P I J) {zn : Nat} (hn : 3000 < zn) : ∃ J2 K2, f_X12_covers zn N J L P 67 = some (bI (q_cvs (I 68) (2 ^ nv (I 68 2))).1, J2, K2) ∧ mK zk N P I J2 ∧ ((q_cvs (I 68) (2 ^ nv (I 68 2))).1 = true → J2 67 23 = (q_cvs (I 68) (2 ^ nv (I 68 2))).2.1 ∧ J2 67 24 = (q_cvs (I 68) (2 ^ nv (I 68 2))).2.2.1 ∧ J2 67 25 = (q_cvs (I 68) (2 ^ nv (I 68 2))).2.2.2) := by
  have hG := h.gw
  have r2 : rg (I 68 2) 8 := by rw [← h.2.e68]; exact h.1.n2
  have r3 : rg (I 68 3) 8 := by rw [← h.2.e68]; exact h.1.n3
  have h2 := r2.2
  have h3 := r3.2
  have i2 : p_ib N 68 (nI 2) = true := ib_68 hG (by decide)
  have k2 : (nI 2).toNatClampNeg = 2 := by decide
  have i3 : p_ib N 68 (nI 3) = true := ib_68 hG (by decide)
  have k3 : (nI 3).toNatClampNeg = 3 := by decide
  have hpw := q_pow8 h2
  have hsh := q_shl1 (nv (I 68 2)) (by omega)
  rw [← r2.1] at hsh
  obtain ⟨J0, K0, a1, a2, a3⟩ := m_served (L := L) h (zn := zn) (by omega)
  have hloop := p_loopI (B := B_X12_covers_90 zn N P (q_all1 (I 68)) 67) (zJ := fun zj (zc : Int32 × Int32 × pI) => zc.1 = bI (q_cvs (I 68) zj).1 ∧ zc.2.1 = nI zj ∧ mK zk N P I zc.2.2 ∧ (∀ zi, zi < nv (I 68 2) → zc.2.2 79 zi = q_rc (I 68) zi) ∧ ((q_cvs (I 68) zj).1 = true → zc.2.2 67 23 = (q_cvs (I 68) zj).2.1 ∧ zc.2.2 67 24 = (q_cvs (I 68) zj).2.2.1 ∧ zc.2.2 67 25 = (q_cvs (I 68) zj).2.2.2)) (zE := fun (zt : Int32 × pI) => zt.1 = bI (q_cvs (I 68) (2 ^ nv (I 68 2))).1 ∧ mK zk N P I zt.2 ∧ ((q_cvs (I 68) (2 ^ nv (I 68 2))).1 = true → zt.2 67 23 = (q_cvs (I 68) (2 ^ nv (I 68 2))).2.1 ∧ zt.2 67 24 = (q_cvs (I 68) (2 ^ nv (I 68 2))).2.2.1 ∧ zt.2 67 25 = (q_cvs (I 68) (2 ^ nv (I 68 2))).2.2.2)) (zm := 2 ^ nv (I 68 2)) (zn := zn) (by omega) ?_ ?_ (nI 0, nI 0, J0) ⟨rfl, rfl, a2, a3, fun e => by cases e⟩
  · obtain ⟨⟨zt, J2⟩, k1, k2, k3', k4⟩ := hloop
    dsimp only at k2 k3' k4
    subst k2
    refine ⟨J2, K0, ?_, k3', k4⟩
    have eall : (nI 1 <<< (J 68 3 &&& 31)) - nI 1 = q_all1 (I 68) := by unfold q_all1; rw [h.2.e68]
    unfold f_X12_covers
    simp only [gp_67_0 hG, Option.bind_some, n_ck i3, k3, eall, n_let, a1, k1, n_ck (bI_ck _)]
  · rintro zj hj ⟨za, zb, J⟩ ⟨e0, e1, e3, e79, e5⟩
    dsimp only at e0 e1 e3 e79 e5
    subst e0
    subst e1
    left
    have hc : ¬ nI (2 ^ nv (I 68 2)) ≤ nI zj := nI_ge hj (by omega)
    have hset := m_coverSet hG e3.2.e68 r2 e79 (set := zj) (zn := zn) (by omega)
    have hnx := q_cvs_s (A := I 68) (k := zj)
    have e2 : J 68 2 = I 68 2 := by rw [e3.2.e68]
    have hput : ∀ zc zm, mK zk N P I (p_u (p_u (p_u J 67 23 zc) 67 24 zm) 67 25 (nI zj)) ∧ (∀ zi, zi < nv (I 68 2) → p_u (p_u (p_u J 67 23 zc) 67 24 zm) 67 25 (nI zj) 79 zi = q_rc (I 68) zi) ∧ p_u (p_u (p_u J 67 23 zc) 67 24 zm) 67 25 (nI zj) 67 23 = zc ∧ p_u (p_u (p_u J 67 23 zc) 67 24 zm) 67 25 (nI zj) 67 24 = zm ∧ p_u (p_u (p_u J 67 23 zc) 67 24 zm) 67 25 (nI zj) 67 25 = nI zj := fun zc zm => by
      refine ⟨⟨e3.1.scratch (fun zq hq => by rw [p_u_ne (by omega), p_u_ne (by omega), p_u_ne (by omega)]), e3.2.tr (fun zq a => by rw [p_u_ne (by omega), p_u_ne (by omega), p_u_ne (by omega)])⟩, fun zi hi => ?_, ?_, ?_, p_u_self⟩
      · rw [p_u_ne (by decide), p_u_ne (by decide), p_u_ne (by decide)]; exact e79 zi hi
      · rw [p_u_nk (by decide), p_u_nk (by decide), p_u_self]
      · rw [p_u_nk (by decide), p_u_self]
    obtain ⟨w1, w2, w3, w4, w5⟩ := hput (q_co (I 68) zj) (nI (q_cnt zj (nv (I 68 2))))
    unfold q_cvf at hnx
    by_cases hall : q_ro (I 68) zj = q_all1 (I 68)
    · rw [if_pos hall] at hnx
      have htake : q_cvs (I 68) (zj + 1) = (true, q_co (I 68) zj, nI (q_cnt zj (nv (I 68 2))), nI zj) → ∃ zs2 : Int32 × Int32 × pI, zs2 = (nI 1, nI (zj + 1), p_u (p_u (p_u J 67 23 (q_co (I 68) zj)) 67 24 (nI (q_cnt zj (nv (I 68 2))))) 67 25 (nI zj)) ∧ zs2.1 = bI (q_cvs (I 68) (zj + 1)).1 ∧ zs2.2.1 = nI (zj + 1) ∧ mK zk N P I zs2.2.2 ∧ (∀ zi, zi < nv (I 68 2) → zs2.2.2 79 zi = q_rc (I 68) zi) ∧ ((q_cvs (I 68) (zj + 1)).1 = true → zs2.2.2 67 23 = (q_cvs (I 68) (zj + 1)).2.1 ∧ zs2.2.2 67 24 = (q_cvs (I 68) (zj + 1)).2.2.1 ∧ zs2.2.2 67 25 = (q_cvs (I 68) (zj + 1)).2.2.2) := fun e => by
        refine ⟨_, rfl, ?_, rfl, w1, w2, fun _ => ?_⟩
        · rw [e]; rfl
        · rw [e]; exact ⟨w3, w4, w5⟩
      have hskip : q_cvs (I 68) (zj + 1) = q_cvs (I 68) zj → bI (q_cvs (I 68) zj).1 = bI (q_cvs (I 68) (zj + 1)).1 ∧ ((q_cvs (I 68) (zj + 1)).1 = true → J 67 23 = (q_cvs (I 68) (zj + 1)).2.1 ∧ J 67 24 = (q_cvs (I 68) (zj + 1)).2.2.1 ∧ J 67 25 = (q_cvs (I 68) (zj + 1)).2.2.2) := fun e => by
        rw [e]; exact ⟨rfl, e5⟩
      cases his : (q_cvs (I 68) zj).1 with
      | false =>
        rw [his, if_pos rfl] at hnx
        obtain ⟨zs2, t0, t1⟩ := htake hnx
        refine ⟨zs2, t1, fun zrec => ?_⟩
        rw [t0]
        unfold B_X12_covers_90
        simp only [gp_67_0 hG, Option.bind_some, n_ck i2, k2, e2, hsh, if_neg hc, hset, if_pos hall, bI_iff, n_let, nI_add]
      | true =>
        rw [his, if_neg (by decide)] at hnx
        obtain ⟨f1, f2, f3⟩ := e5 his
        by_cases g1 : q_co (I 68) zj < (q_cvs (I 68) zj).2.1
        · rw [if_pos g1] at hnx
          have g1b : ¬ (q_cvs (I 68) zj).2.1 < q_co (I 68) zj := fun h => by
            have a1 := Int32.lt_iff_toInt_lt.mp h
            have a2 := Int32.lt_iff_toInt_lt.mp g1
            omega
          have g1c : ¬ q_co (I 68) zj = (q_cvs (I 68) zj).2.1 := Int32.ne_of_lt g1
          obtain ⟨zs2, t0, t1⟩ := htake hnx
          refine ⟨zs2, t1, fun zrec => ?_⟩
          rw [t0]
          unfold B_X12_covers_90
          simp only [gp_67_0 hG, Option.bind_some, n_ck i2, k2, e2, hsh, if_neg hc, hset, if_pos hall, bI_ift, f1, if_neg g1b, if_neg g1c, n_let, nI_add]
        · rw [if_neg g1] at hnx
          by_cases g2 : q_co (I 68) zj = (q_cvs (I 68) zj).2.1
          · rw [if_pos g2] at hnx
            have g1b : ¬ (q_cvs (I 68) zj).2.1 < q_co (I 68) zj := by rw [g2]; exact Int32.lt_irrefl
            by_cases g3 : nI (q_cnt zj (nv (I 68 2))) < (q_cvs (I 68) zj).2.2.1
            · rw [if_pos g3] at hnx
              obtain ⟨zs2, t0, t1⟩ := htake hnx
              refine ⟨zs2, t1, fun zrec => ?_⟩
              rw [t0]
              unfold B_X12_covers_90
              simp only [gp_67_0 hG, Option.bind_some, n_ck i2, k2, e2, hsh, if_neg hc, hset, if_pos hall, bI_ift, f1, f2, if_neg g1b, if_pos g2, if_pos g3, n_let, nI_add]
            · rw [if_neg g3] at hnx
              obtain ⟨t1, t2⟩ := hskip hnx
              refine ⟨(bI (q_cvs (I 68) zj).1, nI (zj + 1), J), ⟨t1, rfl, e3, e79, t2⟩, fun zrec => ?_⟩
              rw [his]
              unfold B_X12_covers_90
              simp only [gp_67_0 hG, Option.bind_some, n_ck i2, k2, e2, hsh, if_neg hc, hset, if_pos hall, bI_ift, f1, f2, if_neg g1b, if_pos g2, if_neg g3, nI_add]
          · rw [if_neg g2] at hnx
            have g1b : (q_cvs (I 68) zj).2.1 < q_co (I 68) zj := Int32.lt_of_le_of_ne (Int32.not_lt.mp g1) (fun e => g2 e.symm)
            obtain ⟨t1, t2⟩ := hskip hnx
            refine ⟨(bI (q_cvs (I 68) zj).1, nI (zj + 1), J), ⟨t1, rfl, e3, e79, t2⟩, fun zrec => ?_⟩
            rw [his]
            unfold B_X12_covers_90
            simp only [gp_67_0 hG, Option.bind_some, n_ck i2, k2, e2, hsh, if_neg hc, hset, if_pos hall, bI_ift, f1, if_pos g1b, nI_add]
    · rw [if_neg hall] at hnx
      refine ⟨(bI (q_cvs (I 68) zj).1, nI (zj + 1), J), ⟨by rw [hnx], rfl, e3, e79, by rw [hnx]; exact e5⟩, fun zrec => ?_⟩
      unfold B_X12_covers_90
      simp only [gp_67_0 hG, Option.bind_some, n_ck i2, k2, e2, hsh, if_neg hc, hset, if_neg hall, nI_add]
  · rintro ⟨za, zb, J⟩ ⟨e0, e1, e3, e79, e5⟩
    dsimp only at e0 e1 e3 e79 e5
    subst e1
    have e2 : J 68 2 = I 68 2 := by rw [e3.2.e68]
    refine ⟨(za, J), ⟨e0, e3, e5⟩, fun zrec => ?_⟩
    unfold B_X12_covers_90
    simp only [gp_67_0 hG, Option.bind_some, n_ck i2, k2, e2, hsh, if_pos (Int32.le_refl (nI (2 ^ nv (I 68 2))))]
end Cover2
theorem sp_cover {n zk : Nat} (hn : 3000 < n) : Sp_cover n (Ivv zk) (Ivv (zk + 1)) := by
  intro N I L P h x1
  have h : IV zk N P I := h
  have hG := h.gw
  have z0 : (nI 0 : Int32) = 0 := rfl
  have hcs : ∀ zi, zi < nv (I 68 2) → rg (I 68 (170 + 4 * zi + 3)) 999 := fun zi hi => (h.sr.ri.2.2 zi hi).2.2.2.2
  have hi := q_cvs_i h.n2.2 hcs (2 ^ nv (I 68 2))
  obtain ⟨J, K, k1, k2, k5, k6, k7⟩ := c_choose (L := L) h hn
  obtain ⟨J2, K2, m1, m2, m3⟩ := m_covers (L := K) (mK.rf k2.1) hn
  have e68 := k2.2.e68
  rw [e68] at m1 m3
  generalize q_cvs (I 68) (2 ^ nv (I 68 2)) = zs at hi k5 k6 k7 m1 m3
  rcases pk_ix x1 (n := 3) (by omega) with g | g | ⟨zj, hj, e⟩
  · have g0 : ¬ x1 = 0 := fun e => by rw [e] at g; exact absurd g (by decide)
    have g1 : ¬ x1 = nI 1 := fun e => by rw [e] at g; exact absurd g (by decide)
    have g2 : ¬ x1 = nI 2 := fun e => by rw [e] at g; exact absurd g (by decide)
    refine ⟨(-1, J, K), (-1, J, K), ?_, ?_, rfl, k2.1.up⟩
    · unfold f_X11_cover
      simp only [gp_0_4 hG, Option.bind_some, k1, z0, if_neg g0, if_neg g1, if_neg g2]
    · unfold f_X12_cover
      simp only [m_isIn, z0, Option.bind_some, decide_eq_true g, Bool.not_true, Bool.false_and, bI_iff]
  · have g0 : ¬ x1 = 0 := fun e => by rw [e] at g; exact absurd g (by decide)
    have g1 : ¬ x1 = nI 1 := fun e => by rw [e] at g; exact absurd g (by decide)
    have g2 : ¬ x1 = nI 2 := fun e => by rw [e] at g; exact absurd g (by decide)
    have g3 : nI 2 < x1 := (n_le_lt (by decide)).mpr g
    refine ⟨(-1, J, K), (-1, J, K), ?_, ?_, rfl, k2.1.up⟩
    · unfold f_X11_cover
      simp only [gp_0_4 hG, Option.bind_some, k1, z0, if_neg g0, if_neg g1, if_neg g2]
    · unfold f_X12_cover
      simp only [m_isIn, z0, Option.bind_some, decide_eq_true g3, Bool.not_true, Bool.and_false, bI_iff]
  · have hin : (!decide (x1 < nI 0) && !decide (nI 2 < x1)) = true := by
      have a1 : ¬ x1 < nI 0 := by rw [e, z0]; exact nI_pos (by omega)
      have a2 : ¬ nI 2 < x1 := by rw [e]; exact nI_nlt (by omega) (by omega)
      rw [decide_eq_false a1, decide_eq_false a2]; rfl
    have h3 : zj = 0 ∨ zj = 1 ∨ zj = 2 := by omega
    rcases hi with ⟨s1, s2⟩ | ⟨s1, s2⟩
    · rw [s1] at m1
      rw [s2] at k5 k6 k7
      refine ⟨(-1, J, K), (-1, J2, K2), ?_, ?_, rfl, m2.1.up⟩
      · unfold f_X11_cover
        rcases h3 with h3 | h3 | h3 <;> subst h3 <;> subst e
        · simp only [gp_0_4 hG, Option.bind_some, k1, if_true, k5]
        · simp only [gp_0_4 hG, Option.bind_some, k1, show ¬ nI 1 = nI 0 from by decide, if_false, if_true, k6]
        · simp only [gp_0_4 hG, Option.bind_some, k1, show ¬ nI 2 = nI 0 from by decide, show ¬ nI 2 = nI 1 from by decide, if_false, if_true, k7]
      · unfold f_X12_cover
        rw [m_isIn, hin]
        simp only [Option.bind_some, bI_ift, m1, bI_iff]
    · rw [s1] at m1
      obtain ⟨m5, m6, m7⟩ := m3 s1
      rcases h3 with h3 | h3 | h3 <;> subst h3 <;> subst e
      · refine ⟨(zs.2.1, J, K), (zs.2.1, J2, K2), ?_, ?_, rfl, m2.1.up⟩
        · unfold f_X11_cover
          simp only [gp_0_4 hG, Option.bind_some, k1, if_true, k5]
        · unfold f_X12_cover
          rw [m_isIn, hin]
          simp only [Option.bind_some, bI_ift, m1, n_00, if_true, m5]
      · refine ⟨(zs.2.2.1, J, K), (zs.2.2.1, J2, K2), ?_, ?_, rfl, m2.1.up⟩
        · unfold f_X11_cover
          simp only [gp_0_4 hG, Option.bind_some, k1, show ¬ nI 1 = nI 0 from by decide, if_false, if_true, k6]
        · unfold f_X12_cover
          rw [m_isIn, hin]
          simp only [Option.bind_some, bI_ift, m1, n_10, if_false, if_true, m6]
      · refine ⟨(zs.2.2.2, J, K), (zs.2.2.2, J2, K2), ?_, ?_, rfl, m2.1.up⟩
        · unfold f_X11_cover
          simp only [gp_0_4 hG, Option.bind_some, k1, show ¬ nI 2 = nI 0 from by decide, show ¬ nI 2 = nI 1 from by decide, if_false, if_true, k7]
        · unfold f_X12_cover
          rw [m_isIn, hin]
          simp only [Option.bind_some, bI_ift, m1, show ¬ nI 2 = 0 from by decide, show ¬ nI 2 = nI 1 from by decide, if_false, m7]
